/-! the law's isFilter; rows laid by wip/p33/walk.py -/
theorem sm_ge {f : Nat → Nat} {j : Nat} : ∀ n, j < n → f j ≤ smN f n
  | 0, h => absurd h (Nat.not_lt_zero j)
  | n + 1, h => by
    show f j ≤ smN f n + f n
    by_cases e : j = n
    · rw [e]
      omega
    · have := sm_ge (f := f) (j := j) n (by omega)
      omega
theorem sm_ex {f : Nat → Nat} : ∀ n, 0 < smN f n → ∃ j, j < n ∧ 0 < f j
  | 0, h => absurd h (Nat.lt_irrefl 0)
  | n + 1, h => by
    by_cases e : 0 < f n
    · exact ⟨n, Nat.lt_succ_self n, e⟩
    · obtain ⟨j, h1, h2⟩ := sm_ex (f := f) n (by have h2 : 0 < smN f n + f n := h; omega)
      exact ⟨j, by omega, h2⟩
def lgF (P C : Nat → Nat) (f m i : Nat) : Nat → Nat := fun j => if P j / m = P i / m ∧ j < i then ceN C f j else 0
def lhF (P C : Nat → Nat) (f m i : Nat) : Nat → Nat := fun j => if P j / m = P i / m ∧ ¬ j < i then cfN C f j else 0
theorem look_P {g : Nat → Nat → Nat} {P C : Nat → Nat} {f m i : Nat} (h : PI P) (G : GI g P C) (hf : f < 4) (hm : 0 < m) (hi : i < 15) : lookN m (g f) (P i) = smN (lgF P C f m i) 15 + if 0 < smN (lhF P C f m i) 15 then 1 else 0 := by
  have e1 : EE (g f) (P i) - EE (g f) (P i / m * m) = smN (lgF P C f m i) 15 := lk_P h G hf hm hi
  have e2 : lnN m (g f) (P i / m) = smN (lgF P C f m i) 15 + smN (fun j => if P j / m = P i / m ∧ ¬ j < i then ceN C f j else 0) 15 := by
    rw [ln_P h G hf hm, ← sm_plus]
    refine sm_cg 15 (fun j _ => ?_)
    unfold rnN lgF
    by_cases a : P j / m = P i / m
    · by_cases b : j < i
      · rw [if_pos a, if_pos ⟨a, b⟩, if_neg (fun w => w.2 b)]
        rfl
      · rw [if_pos a, if_neg (fun w => b w.2), if_pos ⟨a, b⟩, Nat.zero_add]
        rfl
    · rw [if_neg a, if_neg (fun w => a w.1), if_neg (fun w => a w.1)]
  unfold lookN
  rw [e1, e2]
  by_cases w : 0 < smN (lhF P C f m i) 15
  · rw [if_pos w]
    obtain ⟨j, j1, j2⟩ := sm_ex 15 w
    have h3 := sm_ge (f := fun j => if P j / m = P i / m ∧ ¬ j < i then ceN C f j else 0) 15 j1
    unfold lhF at j2
    by_cases a : P j / m = P i / m ∧ ¬ j < i
    · rw [if_pos a] at j2
      have h4 : ceN C f j ≤ smN (fun j => if P j / m = P i / m ∧ ¬ j < i then ceN C f j else 0) 15 := by
        have h5 : (if P j / m = P i / m ∧ ¬ j < i then ceN C f j else 0) = ceN C f j := if_pos a
        rw [← h5]
        exact h3
      have h6 : 0 < ceN C f j := by
        show 0 < enN (cfN C f j)
        unfold enN
        omega
      omega
    · rw [if_neg a] at j2
      omega
  · rw [if_neg w]
    have h3 : smN (fun j => if P j / m = P i / m ∧ ¬ j < i then ceN C f j else 0) 15 = 0 := sm_0 15 (fun j hj => by
      have h4 := sm_ge (f := lhF P C f m i) 15 hj
      unfold lhF at h4
      by_cases a : P j / m = P i / m ∧ ¬ j < i
      · rw [if_pos a] at h4 ⊢
        show enN (cfN C f j) = 0
        have h5 : cfN C f j = 0 := by
          unfold lhF at w
          omega
        rw [h5]
        rfl
      · exact if_neg a)
    rw [h3]
    omega
/-- a run that ends with such an answer, in such a world, having made no more -/
def RtB (v : Option Value) (P : amH → Prop) (bc bs : Nat) : amOut → Prop := fun o => ∃ hs' dc ds, o = (.inl v, hs', dc, ds) ∧ dc ≤ bc ∧ ds ≤ bs ∧ P hs'
def CaB (M : Nat) (as : List Value) (hs : amH) (v : Option Value) (P : amH → Prop) (bc bs : Nat) : Prop := ∃ hs' dc ds, Ca M as hs (.inl v, hs', dc, ds) ∧ dc ≤ bc ∧ ds ≤ bs ∧ P hs'
theorem cab_mk {M own mL bc bs : Nat} {as : List Value} {hs : amH} {v : Option Value} {P : amH → Prop} (ho : amOwnL M = some (own, mL)) (hl : as.length ≤ mL) (h : EvQ M 0 (amEntry as mL) [] hs 0 0 (RtB v P bc bs)) : CaB M as hs v P bc bs := by
  obtain ⟨o, h1, hs', dc, ds, rfl, h2, h3, h4⟩ := h
  exact ⟨hs', dc, ds, ca_mk ho hl h1, h2, h3, h4⟩
abbrev fL (f D S b i : Nat) (w9 w10 w11 w12 w13 : Option Value) : amL := [some (.ref 1), some (.ref 39), some (.ref 40), some (.ref 41), some (.int (nI f)), some (.int (nI D)), some (.int (nI S)), some (.int (nI b)), some (.int (nI i)), w9, w10, w11, w12, w13]
section IF
variable {X : amC} {q : Nat → Nat} {g : Nat → Nat → Nat} {P C : Nat → Nat} {f N : Nat} {R : amOut → Prop} {cc ss : Nat}
theorem l85j {hs : amH} {D S i : Nat} {w9 : Option Value} (W : LW X q g P C q hs) (hC : ∀ j, C j < 2 ^ 20) (hp : PI P) (hf : f < 4) (h8 : q f ≤ 8) (hi : i < 15) (kk : ∀ w12 w13, EvQ 85 153 (fL f D S 1 i w9 (some (.int (nI (smN (lgF P C f (2 ^ (12 - q f)) i) 15)))) (some (.int (nI (smN (lhF P C f (2 ^ (12 - q f)) i) 15)))) w12 w13) [] hs cc ss R) : ∀ d j w13, j + d = 15 → EvQ 85 45 (fL f D S 1 i w9 (some (.int (nI (smN (lgF P C f (2 ^ (12 - q f)) i) j)))) (some (.int (nI (smN (lhF P C f (2 ^ (12 - q f)) i) j)))) (some (.int (nI j))) w13) [] hs cc ss R := by
  intro d
  have w2 := W.2.2.1
  have w3 := W.2.2.2.1
  have w4 := W.2.2.2.2
  induction d with
  | zero =>
    intro j w13 hj
    have e1 : j = 15 := by omega
    subst e1
    refine eq_ (fun _ k => ev_iload f85_45 rfl k) ?_
    refine eq_ (fun _ k => ev_bipushN (n := 15) (by omega) f85_47 k) ?_
    refine eq_icN (by omega) (by omega) (tgt := 153) f85_49 rfl (fun _ => ?_) (fun h9 => absurd (by simp only [akN] at *; omega) h9)
    exact kk _ _
  | succ d ih =>
    intro j w13 hj
    have i2 := fun w13 => ih (j + 1) w13 (by omega)
    have hpj := hp.2 j (by omega)
    have hpi := hp.2 i hi
    have hcj := hC (16 * f + j)
    have hd1 := Nat.div_le_self (P j) (2 ^ (12 - q f))
    have hd2 := Nat.div_le_self (P i) (2 ^ (12 - q f))
    have s1 : smN (lgF P C f (2 ^ (12 - q f)) i) (j + 1) = smN (lgF P C f (2 ^ (12 - q f)) i) j + lgF P C f (2 ^ (12 - q f)) i j := rfl
    have s2 : smN (lhF P C f (2 ^ (12 - q f)) i) (j + 1) = smN (lhF P C f (2 ^ (12 - q f)) i) j + lhF P C f (2 ^ (12 - q f)) i j := rfl
    by_cases a : P j / 2 ^ (12 - q f) = P i / 2 ^ (12 - q f)
    · by_cases b : j < i
      · rw [show lgF P C f (2 ^ (12 - q f)) i j = enN (C (16 * f + j)) from if_pos ⟨a, b⟩] at s1
        rw [show lhF P C f (2 ^ (12 - q f)) i j = 0 from if_neg (fun w => w.2 b)] at s2
        rw [s1, s2] at i2
        refine eq_ (fun _ k => ev_iload f85_45 rfl k) ?_
        refine eq_ (fun _ k => ev_bipushN (n := 15) (by omega) f85_47 k) ?_
        refine eq_icN (by omega) (by omega) (tgt := 153) f85_49 rfl (fun h9 => absurd h9 (by simp only [akN] at *; omega)) (fun _ => ?_)
        refine eq_ (fun _ k => ev_aload_n f85_52 rfl k) ?_
        refine eq_ (fun _ k => ev_iload f85_53 rfl k) ?_
        refine eq_ (fun _ k => ev_aload_n f85_55 rfl k) ?_
        refine eq_ (fun _ k => ev_iload f85_56 rfl k) ?_
        refine eq_ (fun _ k => ev_iald f85_58 (by assumption) (by omega) (by omega) k) ?_
        refine eq_ (fun _ k => ev_s3 f85_59 (by decide) ow80 rfl rfl rfl (Nat.le_of_ble_eq_true rfl) (c80 w2 (by omega) hpj h8) k) ?_
        refine eq_ (fun _ k => ev_aload_n f85_62 rfl k) ?_
        refine eq_ (fun _ k => ev_iload f85_63 rfl k) ?_
        refine eq_ (fun _ k => ev_aload_n f85_65 rfl k) ?_
        refine eq_ (fun _ k => ev_iload f85_66 rfl k) ?_
        refine eq_ (fun _ k => ev_iald f85_68 (by assumption) (by omega) (by omega) k) ?_
        refine eq_ (fun _ k => ev_s3 f85_69 (by decide) ow80 rfl rfl rfl (Nat.le_of_ble_eq_true rfl) (c80 w2 (by omega) hpi h8) k) ?_
        refine eq_icN (by omega) (by omega) (tgt := 79) f85_72 rfl (fun h9 => absurd h9 (fun w => w a)) (fun _ => ?_)
        refine eq_ (fun _ k => ev_iconstN (n := 1) f85_75 k) ?_
        refine eq_ (fun _ k => ev_goto (tgt := 80) f85_76 rfl k) ?_
        refine eq_ (fun _ k => ev_istore f85_80 k) ?_
        refine eq_ (fun _ k => ev_iload f85_82 rfl k) ?_
        refine eq_ (fun _ k => ev_iload f85_84 rfl k) ?_
        refine eq_ifN (by omega) (tgt := 112) f85_86 rfl (fun h9 => absurd h9 (by simp only [akN] at *; omega)) (fun _ => ?_)
        refine eq_ (fun _ k => ev_iload f85_89 rfl k) ?_
        refine eq_ (fun _ k => ev_iload f85_91 rfl k) ?_
        refine eq_icN (by omega) (by omega) (tgt := 112) f85_93 rfl (fun h9 => absurd h9 (by simp only [akN] at *; omega)) (fun _ => ?_)
        refine eq_ (fun _ k => ev_aload_n f85_96 rfl k) ?_
        refine eq_ (fun _ k => ev_bipushN (n := 16) (by omega) f85_97 k) ?_
        refine eq_ (fun _ k => ev_iload f85_99 rfl k) ?_
        first | refine eq_ (fun _ k => ev_imulN f85_101 k) ?_ | refine eq_ (fun _ k => ev_imul f85_101 k) ?_
        refine eq_ (fun _ k => ev_iload f85_102 rfl k) ?_
        first | refine eq_ (fun _ k => ev_iaddN f85_104 k) ?_ | refine eq_ (fun _ k => ev_iadd f85_104 k) ?_
        refine eq_ (fun _ k => ev_iald f85_105 (by assumption) (by omega) (by omega) k) ?_
        refine eq_ (fun _ k => ev_s1 f85_106 (by decide) ow78 rfl (Nat.le_of_ble_eq_true rfl) (c78 (by omega)) k) ?_
        refine eq_ (fun _ k => ev_goto (tgt := 113) f85_109 rfl k) ?_
        first | refine eq_ (fun _ k => ev_iaddN f85_113 k) ?_ | refine eq_ (fun _ k => ev_iadd f85_113 k) ?_
        refine eq_ (fun _ k => ev_istore f85_114 k) ?_
        refine eq_ (fun _ k => ev_iload f85_116 rfl k) ?_
        refine eq_ (fun _ k => ev_iload f85_118 rfl k) ?_
        refine eq_ifN (by omega) (tgt := 143) f85_120 rfl (fun h9 => absurd h9 (by simp only [akN] at *; omega)) (fun _ => ?_)
        refine eq_ (fun _ k => ev_iload f85_123 rfl k) ?_
        refine eq_ (fun _ k => ev_iload f85_125 rfl k) ?_
        refine eq_icN (by omega) (by omega) (tgt := 143) f85_127 rfl (fun _ => ?_) (fun h9 => absurd (by simp only [akN] at *; omega) h9)
        refine eq_ (fun _ k => ev_iconstN (n := 0) f85_143 k) ?_
        first | refine eq_ (fun _ k => ev_iaddN f85_144 k) ?_ | refine eq_ (fun _ k => ev_iadd f85_144 k) ?_
        refine eq_ (fun _ k => ev_istore f85_145 k) ?_
        refine eq_ (fun _ k => ev_iincN (d := 1) f85_147 rfl k) ?_
        refine eq_ (fun _ k => ev_goto (tgt := 45) f85_150 rfl k) ?_
        exact i2 _
      · rw [show lgF P C f (2 ^ (12 - q f)) i j = 0 from if_neg (fun w => b w.2)] at s1
        rw [show lhF P C f (2 ^ (12 - q f)) i j = C (16 * f + j) from if_pos ⟨a, b⟩] at s2
        rw [s1, s2] at i2
        refine eq_ (fun _ k => ev_iload f85_45 rfl k) ?_
        refine eq_ (fun _ k => ev_bipushN (n := 15) (by omega) f85_47 k) ?_
        refine eq_icN (by omega) (by omega) (tgt := 153) f85_49 rfl (fun h9 => absurd h9 (by simp only [akN] at *; omega)) (fun _ => ?_)
        refine eq_ (fun _ k => ev_aload_n f85_52 rfl k) ?_
        refine eq_ (fun _ k => ev_iload f85_53 rfl k) ?_
        refine eq_ (fun _ k => ev_aload_n f85_55 rfl k) ?_
        refine eq_ (fun _ k => ev_iload f85_56 rfl k) ?_
        refine eq_ (fun _ k => ev_iald f85_58 (by assumption) (by omega) (by omega) k) ?_
        refine eq_ (fun _ k => ev_s3 f85_59 (by decide) ow80 rfl rfl rfl (Nat.le_of_ble_eq_true rfl) (c80 w2 (by omega) hpj h8) k) ?_
        refine eq_ (fun _ k => ev_aload_n f85_62 rfl k) ?_
        refine eq_ (fun _ k => ev_iload f85_63 rfl k) ?_
        refine eq_ (fun _ k => ev_aload_n f85_65 rfl k) ?_
        refine eq_ (fun _ k => ev_iload f85_66 rfl k) ?_
        refine eq_ (fun _ k => ev_iald f85_68 (by assumption) (by omega) (by omega) k) ?_
        refine eq_ (fun _ k => ev_s3 f85_69 (by decide) ow80 rfl rfl rfl (Nat.le_of_ble_eq_true rfl) (c80 w2 (by omega) hpi h8) k) ?_
        refine eq_icN (by omega) (by omega) (tgt := 79) f85_72 rfl (fun h9 => absurd h9 (fun w => w a)) (fun _ => ?_)
        refine eq_ (fun _ k => ev_iconstN (n := 1) f85_75 k) ?_
        refine eq_ (fun _ k => ev_goto (tgt := 80) f85_76 rfl k) ?_
        refine eq_ (fun _ k => ev_istore f85_80 k) ?_
        refine eq_ (fun _ k => ev_iload f85_82 rfl k) ?_
        refine eq_ (fun _ k => ev_iload f85_84 rfl k) ?_
        refine eq_ifN (by omega) (tgt := 112) f85_86 rfl (fun h9 => absurd h9 (by simp only [akN] at *; omega)) (fun _ => ?_)
        refine eq_ (fun _ k => ev_iload f85_89 rfl k) ?_
        refine eq_ (fun _ k => ev_iload f85_91 rfl k) ?_
        refine eq_icN (by omega) (by omega) (tgt := 112) f85_93 rfl (fun _ => ?_) (fun h9 => absurd (by simp only [akN] at *; omega) h9)
        refine eq_ (fun _ k => ev_iconstN (n := 0) f85_112 k) ?_
        first | refine eq_ (fun _ k => ev_iaddN f85_113 k) ?_ | refine eq_ (fun _ k => ev_iadd f85_113 k) ?_
        refine eq_ (fun _ k => ev_istore f85_114 k) ?_
        refine eq_ (fun _ k => ev_iload f85_116 rfl k) ?_
        refine eq_ (fun _ k => ev_iload f85_118 rfl k) ?_
        refine eq_ifN (by omega) (tgt := 143) f85_120 rfl (fun h9 => absurd h9 (by simp only [akN] at *; omega)) (fun _ => ?_)
        refine eq_ (fun _ k => ev_iload f85_123 rfl k) ?_
        refine eq_ (fun _ k => ev_iload f85_125 rfl k) ?_
        refine eq_icN (by omega) (by omega) (tgt := 143) f85_127 rfl (fun h9 => absurd h9 (by simp only [akN] at *; omega)) (fun _ => ?_)
        refine eq_ (fun _ k => ev_aload_n f85_130 rfl k) ?_
        refine eq_ (fun _ k => ev_bipushN (n := 16) (by omega) f85_131 k) ?_
        refine eq_ (fun _ k => ev_iload f85_133 rfl k) ?_
        first | refine eq_ (fun _ k => ev_imulN f85_135 k) ?_ | refine eq_ (fun _ k => ev_imul f85_135 k) ?_
        refine eq_ (fun _ k => ev_iload f85_136 rfl k) ?_
        first | refine eq_ (fun _ k => ev_iaddN f85_138 k) ?_ | refine eq_ (fun _ k => ev_iadd f85_138 k) ?_
        refine eq_ (fun _ k => ev_iald f85_139 (by assumption) (by omega) (by omega) k) ?_
        refine eq_ (fun _ k => ev_goto (tgt := 144) f85_140 rfl k) ?_
        first | refine eq_ (fun _ k => ev_iaddN f85_144 k) ?_ | refine eq_ (fun _ k => ev_iadd f85_144 k) ?_
        refine eq_ (fun _ k => ev_istore f85_145 k) ?_
        refine eq_ (fun _ k => ev_iincN (d := 1) f85_147 rfl k) ?_
        refine eq_ (fun _ k => ev_goto (tgt := 45) f85_150 rfl k) ?_
        exact i2 _
    · rw [show lgF P C f (2 ^ (12 - q f)) i j = 0 from if_neg (fun w => a w.1)] at s1
      rw [show lhF P C f (2 ^ (12 - q f)) i j = 0 from if_neg (fun w => a w.1)] at s2
      rw [s1, s2] at i2
      refine eq_ (fun _ k => ev_iload f85_45 rfl k) ?_
      refine eq_ (fun _ k => ev_bipushN (n := 15) (by omega) f85_47 k) ?_
      refine eq_icN (by omega) (by omega) (tgt := 153) f85_49 rfl (fun h9 => absurd h9 (by simp only [akN] at *; omega)) (fun _ => ?_)
      refine eq_ (fun _ k => ev_aload_n f85_52 rfl k) ?_
      refine eq_ (fun _ k => ev_iload f85_53 rfl k) ?_
      refine eq_ (fun _ k => ev_aload_n f85_55 rfl k) ?_
      refine eq_ (fun _ k => ev_iload f85_56 rfl k) ?_
      refine eq_ (fun _ k => ev_iald f85_58 (by assumption) (by omega) (by omega) k) ?_
      refine eq_ (fun _ k => ev_s3 f85_59 (by decide) ow80 rfl rfl rfl (Nat.le_of_ble_eq_true rfl) (c80 w2 (by omega) hpj h8) k) ?_
      refine eq_ (fun _ k => ev_aload_n f85_62 rfl k) ?_
      refine eq_ (fun _ k => ev_iload f85_63 rfl k) ?_
      refine eq_ (fun _ k => ev_aload_n f85_65 rfl k) ?_
      refine eq_ (fun _ k => ev_iload f85_66 rfl k) ?_
      refine eq_ (fun _ k => ev_iald f85_68 (by assumption) (by omega) (by omega) k) ?_
      refine eq_ (fun _ k => ev_s3 f85_69 (by decide) ow80 rfl rfl rfl (Nat.le_of_ble_eq_true rfl) (c80 w2 (by omega) hpi h8) k) ?_
      refine eq_icN (by omega) (by omega) (tgt := 79) f85_72 rfl (fun _ => ?_) (fun h9 => absurd a h9)
      refine eq_ (fun _ k => ev_iconstN (n := 0) f85_79 k) ?_
      refine eq_ (fun _ k => ev_istore f85_80 k) ?_
      refine eq_ (fun _ k => ev_iload f85_82 rfl k) ?_
      refine eq_ (fun _ k => ev_iload f85_84 rfl k) ?_
      refine eq_ifN (by omega) (tgt := 112) f85_86 rfl (fun _ => ?_) (fun h9 => absurd rfl h9)
      refine eq_ (fun _ k => ev_iconstN (n := 0) f85_112 k) ?_
      first | refine eq_ (fun _ k => ev_iaddN f85_113 k) ?_ | refine eq_ (fun _ k => ev_iadd f85_113 k) ?_
      refine eq_ (fun _ k => ev_istore f85_114 k) ?_
      refine eq_ (fun _ k => ev_iload f85_116 rfl k) ?_
      refine eq_ (fun _ k => ev_iload f85_118 rfl k) ?_
      refine eq_ifN (by omega) (tgt := 143) f85_120 rfl (fun _ => ?_) (fun h9 => absurd rfl h9)
      refine eq_ (fun _ k => ev_iconstN (n := 0) f85_143 k) ?_
      first | refine eq_ (fun _ k => ev_iaddN f85_144 k) ?_ | refine eq_ (fun _ k => ev_iadd f85_144 k) ?_
      refine eq_ (fun _ k => ev_istore f85_145 k) ?_
      refine eq_ (fun _ k => ev_iincN (d := 1) f85_147 rfl k) ?_
      refine eq_ (fun _ k => ev_goto (tgt := 45) f85_150 rfl k) ?_
      exact i2 _
/-- different fingerprints up to i -/
def dcF (C : Nat → Nat) (f : Nat) : Nat → Nat := fun j => if cfN C f j = 0 then 0 else 1
theorem l85 (hC : ∀ j, C j < 2 ^ 20) (hp : PI P) (G : GI g P C) (hf : f < 4) (h3 : 3 ≤ q f) (h8 : q f ≤ 8) (kk : ∀ hs w9 w10 w11 w12 w13, LW X q g P C q hs → hs.length = N → EvQ 85 287 (fL f (smN (dcF C f) 15) (smN (cfN C f) 15) 1 15 w9 w10 w11 w12 w13) [] hs cc ss R) : ∀ d i hs w9 w10 w11 w12 w13, i + d = 15 → LW X q g P C q hs → hs.length = N → EvQ 85 12 (fL f (smN (dcF C f) i) (smN (cfN C f) i) 1 i w9 w10 w11 w12 w13) [] hs cc ss R := by
  intro d
  induction d with
  | zero =>
    intro i hs w9 w10 w11 w12 w13 hi W hN
    have e1 : i = 15 := by omega
    subst e1
    refine eq_ (fun _ k => ev_iload f85_12 rfl k) ?_
    refine eq_ (fun _ k => ev_bipushN (n := 15) (by omega) f85_14 k) ?_
    refine eq_icN (by omega) (by omega) (tgt := 287) f85_16 rfl (fun _ => ?_) (fun h9 => absurd (by simp only [akN] at *; omega) h9)
    exact kk hs _ _ _ _ _ W hN
  | succ d ih =>
    intro i hs w9 w10 w11 w12 w13 hi W hN
    have hi2 : i < 15 := by omega
    have hpi := hp.2 i hi2
    have w3 := W.2.2.2.1
    have hci := hC (16 * f + i)
    have eg : g f (P i) = C (16 * f + i) := (G f hf).1 i hi2
    have hm0 : 0 < 2 ^ (12 - q f) := Nat.two_pow_pos _
    have elk := look_P hp G hf hm0 hi2
    have b1 := smN_le (f := lhF P C f (2 ^ (12 - q f)) i) (b := 2 ^ 20) (fun j => by
      unfold lhF
      split
      · exact Nat.le_of_lt (hC _)
      · exact Nat.zero_le _) 15
    have b2 := smN_le (f := lgF P C f (2 ^ (12 - q f)) i) (b := 2 ^ 20) (fun j => by
      unfold lgF
      split
      · have := hC (16 * f + j)
        show enN (C (16 * f + j)) ≤ 2 ^ 20
        unfold enN
        omega
      · exact Nat.zero_le _) 15
    obtain ⟨hsa, k1, W1, F1⟩ := W.cls (m43 W.2.1 hf hpi)
    obtain ⟨hsb, k2, W2, F2⟩ := W1.cls (m44 W1.2.1 hf hpi)
    obtain ⟨hsc, k3, W3, F3⟩ := W2.cls (m40 (key := kyN (P i) (nI (77 * i))) W2.2.1 hf)
    obtain ⟨hsd, k4, W4, F4⟩ := W3.cls (m45 W3.2.1 hf hpi)
    rw [pr_ky hpi] at k3
    rw [eg] at k1 k2 k3
    rw [elk] at k4
    have x0 := W.2.1.1
    have x1 := W1.2.1.1
    have x2 := W2.2.1.1
    have x3 := W3.2.1.1
    have x4 := W4.2.1.1
    have p0 := W.2.2.1
    have p1 := W1.2.2.1
    have p2 := W2.2.2.1
    have p3 := W3.2.2.1
    have l4 := (((F1.tr F2).tr F3).tr F4).1.trans hN
    have ed : smN (dcF C f) i = nzN (g f) (P i) := (nz_Pi hp G hf (show i ≤ 15 by omega) (P i) (fun j hj => hp.lt hj hi2)).symm
    have hdn := nzN_le (g f) (P i)
    have s1 : smN (dcF C f) (i + 1) = smN (dcF C f) i + dcF C f i := rfl
    have s2 : smN (cfN C f) (i + 1) = smN (cfN C f) i + C (16 * f + i) := rfl
    have rest : ∀ w10 w11 w12 w13, EvQ 85 232 (fL f (smN (dcF C f) i) (smN (cfN C f) i) 1 i (some (.int (nI (C (16 * f + i))))) w10 w11 w12 w13) [] hsd cc ss R := by
      intro w10 w11 w12 w13
      clear p0 p1 p2 p3 w3
      by_cases z : C (16 * f + i) = 0
      · rw [show dcF C f i = 0 from if_pos z] at s1
        have i2 := ih (i + 1)
        rw [s1, s2] at i2
        refine eq_ (fun _ k => ev_iload f85_232 rfl k) ?_
        refine eq_ifN (by omega) (tgt := 252) f85_234 rfl (fun _ => ?_) (fun h9 => absurd z h9)
        refine eq_ (fun _ k => ev_iconstN (n := 1) f85_252 k) ?_
        refine eq_ (fun _ k => ev_goto (tgt := 257) f85_253 rfl k) ?_
        refine eq_ (fun _ k => ev_istore f85_257 k) ?_
        refine eq_ (fun _ k => ev_iload f85_259 rfl k) ?_
        refine eq_ (fun _ k => ev_iload f85_261 rfl k) ?_
        refine eq_ifN (by omega) (tgt := 270) f85_263 rfl (fun _ => ?_) (fun h9 => absurd (by simp only [akN] at *; omega) h9)
        refine eq_ (fun _ k => ev_iconstN (n := 0) f85_270 k) ?_
        first | refine eq_ (fun _ k => ev_iaddN f85_271 k) ?_ | refine eq_ (fun _ k => ev_iadd f85_271 k) ?_
        refine eq_ (fun _ k => ev_istore f85_272 k) ?_
        refine eq_ (fun _ k => ev_iload f85_274 rfl k) ?_
        refine eq_ (fun _ k => ev_iload f85_276 rfl k) ?_
        first | refine eq_ (fun _ k => ev_iaddN f85_278 k) ?_ | refine eq_ (fun _ k => ev_iadd f85_278 k) ?_
        refine eq_ (fun _ k => ev_istore f85_279 k) ?_
        refine eq_ (fun _ k => ev_iincN (d := 1) f85_281 rfl k) ?_
        refine eq_ (fun _ k => ev_goto (tgt := 12) f85_284 rfl k) ?_
        exact i2 hsd _ _ _ _ _ (by omega) W4 l4
      · rw [show dcF C f i = 1 from if_neg z] at s1
        have i2 := ih (i + 1)
        rw [s1, s2] at i2
        obtain ⟨hse, k5, W5, F5⟩ := W4.cls (m56 W4.2.1 hf hpi (by rw [eg]; omega))
        rw [← ed] at k5
        have p5 := W5.2.2.1
        refine eq_ (fun _ k => ev_iload f85_232 rfl k) ?_
        refine eq_ifN (by omega) (tgt := 252) f85_234 rfl (fun h9 => absurd h9 z) (fun _ => ?_)
        refine eq_ (fun _ k => ev_aload_n f85_237 rfl k) ?_
        refine eq_ (fun _ k => ev_iload f85_238 rfl k) ?_
        refine eq_ (fun _ k => ev_iload f85_240 rfl k) ?_
        refine eq_ (fun _ k => ev_v2 f85_242 ow56 (by assumption) rfl rfl (Nat.le_of_ble_eq_true rfl) (k5) k) ?_
        refine eq_ (fun _ k => ev_aload_n f85_245 rfl k) ?_
        refine eq_ (fun _ k => ev_iload f85_246 rfl k) ?_
        refine eq_ (fun _ k => ev_iald f85_248 (by assumption) (by omega) (by omega) k) ?_
        refine eq_icN (by omega) (by omega) (tgt := 256) f85_249 rfl (fun h9 => absurd h9 (fun w => w rfl)) (fun _ => ?_)
        refine eq_ (fun _ k => ev_iconstN (n := 1) f85_252 k) ?_
        refine eq_ (fun _ k => ev_goto (tgt := 257) f85_253 rfl k) ?_
        refine eq_ (fun _ k => ev_istore f85_257 k) ?_
        refine eq_ (fun _ k => ev_iload f85_259 rfl k) ?_
        refine eq_ (fun _ k => ev_iload f85_261 rfl k) ?_
        refine eq_ifN (by omega) (tgt := 270) f85_263 rfl (fun h9 => absurd h9 (by simp only [akN] at *; omega)) (fun _ => ?_)
        refine eq_ (fun _ k => ev_iconstN (n := 1) f85_266 k) ?_
        refine eq_ (fun _ k => ev_goto (tgt := 271) f85_267 rfl k) ?_
        first | refine eq_ (fun _ k => ev_iaddN f85_271 k) ?_ | refine eq_ (fun _ k => ev_iadd f85_271 k) ?_
        refine eq_ (fun _ k => ev_istore f85_272 k) ?_
        refine eq_ (fun _ k => ev_iload f85_274 rfl k) ?_
        refine eq_ (fun _ k => ev_iload f85_276 rfl k) ?_
        first | refine eq_ (fun _ k => ev_iaddN f85_278 k) ?_ | refine eq_ (fun _ k => ev_iadd f85_278 k) ?_
        refine eq_ (fun _ k => ev_istore f85_279 k) ?_
        refine eq_ (fun _ k => ev_iincN (d := 1) f85_281 rfl k) ?_
        refine eq_ (fun _ k => ev_goto (tgt := 12) f85_284 rfl k) ?_
        exact i2 hse _ _ _ _ _ (by omega) W5 (F5.1.trans l4)
    refine eq_ (fun _ k => ev_iload f85_12 rfl k) ?_
    refine eq_ (fun _ k => ev_bipushN (n := 15) (by omega) f85_14 k) ?_
    refine eq_icN (by omega) (by omega) (tgt := 287) f85_16 rfl (fun h9 => absurd h9 (by simp only [akN] at *; omega)) (fun _ => ?_)
    refine eq_ (fun _ k => ev_iload f85_19 rfl k) ?_
    refine eq_ifN (by omega) (tgt := 287) f85_21 rfl (fun h9 => absurd h9 (by simp only [akN] at *; omega)) (fun _ => ?_)
    refine eq_ (fun _ k => ev_aload_n f85_24 rfl k) ?_
    refine eq_ (fun _ k => ev_bipushN (n := 16) (by omega) f85_25 k) ?_
    refine eq_ (fun _ k => ev_iload f85_27 rfl k) ?_
    first | refine eq_ (fun _ k => ev_imulN f85_29 k) ?_ | refine eq_ (fun _ k => ev_imul f85_29 k) ?_
    refine eq_ (fun _ k => ev_iload f85_30 rfl k) ?_
    first | refine eq_ (fun _ k => ev_iaddN f85_32 k) ?_ | refine eq_ (fun _ k => ev_iadd f85_32 k) ?_
    refine eq_ (fun _ k => ev_iald f85_33 (by assumption) (by omega) (by omega) k) ?_
    refine eq_ (fun _ k => ev_istore f85_34 k) ?_
    refine eq_ (fun _ k => ev_iconstN (n := 0) f85_36 k) ?_
    refine eq_ (fun _ k => ev_istore f85_37 k) ?_
    refine eq_ (fun _ k => ev_iconstN (n := 0) f85_39 k) ?_
    refine eq_ (fun _ k => ev_istore f85_40 k) ?_
    refine eq_ (fun _ k => ev_iconstN (n := 0) f85_42 k) ?_
    refine eq_ (fun _ k => ev_istore f85_43 k) ?_
    refine l85j W hC hp hf h8 hi2 (fun w12 w13 => ?_) 15 0 _ rfl
    clear w3
    by_cases z : 0 < smN (lhF P C f (2 ^ (12 - q f)) i) 15
    · rw [if_pos z] at k4
      refine eq_ (fun _ k => ev_aload_n f85_153 rfl k) ?_
      refine eq_ (fun _ k => ev_iload f85_154 rfl k) ?_
      refine eq_ (fun _ k => ev_aload_n f85_156 rfl k) ?_
      refine eq_ (fun _ k => ev_iload f85_157 rfl k) ?_
      refine eq_ (fun _ k => ev_iald f85_159 (by assumption) (by omega) (by omega) k) ?_
      refine eq_ (fun _ k => ev_v2 f85_160 ow43 (by assumption) rfl rfl (Nat.le_of_ble_eq_true rfl) (k1) k) ?_
      refine eq_ (fun _ k => ev_iload f85_163 rfl k) ?_
      refine eq_icN (by omega) (by omega) (tgt := 256) f85_165 rfl (fun h9 => absurd h9 (fun w => w rfl)) (fun _ => ?_)
      refine eq_ (fun _ k => ev_aload_n f85_168 rfl k) ?_
      refine eq_ (fun _ k => ev_iload f85_169 rfl k) ?_
      refine eq_ (fun _ k => ev_aload_n f85_171 rfl k) ?_
      refine eq_ (fun _ k => ev_iload f85_172 rfl k) ?_
      refine eq_ (fun _ k => ev_iald f85_174 (by assumption) (by omega) (by omega) k) ?_
      refine eq_ (fun _ k => ev_v2 f85_175 ow44 (by assumption) rfl rfl (Nat.le_of_ble_eq_true rfl) (k2) k) ?_
      refine eq_ (fun _ k => ev_iload f85_178 rfl k) ?_
      refine eq_icN (by omega) (by omega) (tgt := 256) f85_180 rfl (fun h9 => absurd h9 (fun w => w rfl)) (fun _ => ?_)
      refine eq_ (fun _ k => ev_aload_n f85_183 rfl k) ?_
      refine eq_ (fun _ k => ev_iload f85_184 rfl k) ?_
      refine eq_ (fun _ k => ev_aload_n f85_186 rfl k) ?_
      refine eq_ (fun _ k => ev_iload f85_187 rfl k) ?_
      refine eq_ (fun _ k => ev_iald f85_189 (by assumption) (by omega) (by omega) k) ?_
      refine eq_ (fun _ k => ev_bipushN (n := 77) (by omega) f85_190 k) ?_
      refine eq_ (fun _ k => ev_iload f85_192 rfl k) ?_
      first | refine eq_ (fun _ k => ev_imulN f85_194 k) ?_ | refine eq_ (fun _ k => ev_imul f85_194 k) ?_
      refine eq_ (fun _ k => ev_s2 f85_195 (by decide) ow87 rfl rfl (Nat.le_of_ble_eq_true rfl) (c87) k) ?_
      refine eq_ (fun _ k => ev_v2 f85_198 ow40 (by assumption) rfl rfl (Nat.le_of_ble_eq_true rfl) (k3) k) ?_
      refine eq_ (fun _ k => ev_iload f85_201 rfl k) ?_
      refine eq_icN (by omega) (by omega) (tgt := 256) f85_203 rfl (fun h9 => absurd h9 (fun w => w rfl)) (fun _ => ?_)
      refine eq_ (fun _ k => ev_aload_n f85_206 rfl k) ?_
      refine eq_ (fun _ k => ev_iload f85_207 rfl k) ?_
      refine eq_ (fun _ k => ev_aload_n f85_209 rfl k) ?_
      refine eq_ (fun _ k => ev_iload f85_210 rfl k) ?_
      refine eq_ (fun _ k => ev_iald f85_212 (by assumption) (by omega) (by omega) k) ?_
      refine eq_ (fun _ k => ev_v2 f85_213 ow45 (by assumption) rfl rfl (Nat.le_of_ble_eq_true rfl) (k4) k) ?_
      refine eq_ (fun _ k => ev_iload f85_216 rfl k) ?_
      refine eq_ (fun _ k => ev_iload f85_218 rfl k) ?_
      refine eq_ifN (by omega) (tgt := 227) f85_220 rfl (fun h9 => absurd h9 (fun w => absurd z (Nat.not_lt.mpr w))) (fun _ => ?_)
      refine eq_ (fun _ k => ev_iconstN (n := 1) f85_223 k) ?_
      refine eq_ (fun _ k => ev_goto (tgt := 228) f85_224 rfl k) ?_
      first | refine eq_ (fun _ k => ev_iaddN f85_228 k) ?_ | refine eq_ (fun _ k => ev_iadd f85_228 k) ?_
      refine eq_icN (by omega) (by omega) (tgt := 256) f85_229 rfl (fun h9 => absurd h9 (fun w => w rfl)) (fun _ => ?_)
      exact rest _ _ _ _
    · rw [if_neg z] at k4
      refine eq_ (fun _ k => ev_aload_n f85_153 rfl k) ?_
      refine eq_ (fun _ k => ev_iload f85_154 rfl k) ?_
      refine eq_ (fun _ k => ev_aload_n f85_156 rfl k) ?_
      refine eq_ (fun _ k => ev_iload f85_157 rfl k) ?_
      refine eq_ (fun _ k => ev_iald f85_159 (by assumption) (by omega) (by omega) k) ?_
      refine eq_ (fun _ k => ev_v2 f85_160 ow43 (by assumption) rfl rfl (Nat.le_of_ble_eq_true rfl) (k1) k) ?_
      refine eq_ (fun _ k => ev_iload f85_163 rfl k) ?_
      refine eq_icN (by omega) (by omega) (tgt := 256) f85_165 rfl (fun h9 => absurd h9 (fun w => w rfl)) (fun _ => ?_)
      refine eq_ (fun _ k => ev_aload_n f85_168 rfl k) ?_
      refine eq_ (fun _ k => ev_iload f85_169 rfl k) ?_
      refine eq_ (fun _ k => ev_aload_n f85_171 rfl k) ?_
      refine eq_ (fun _ k => ev_iload f85_172 rfl k) ?_
      refine eq_ (fun _ k => ev_iald f85_174 (by assumption) (by omega) (by omega) k) ?_
      refine eq_ (fun _ k => ev_v2 f85_175 ow44 (by assumption) rfl rfl (Nat.le_of_ble_eq_true rfl) (k2) k) ?_
      refine eq_ (fun _ k => ev_iload f85_178 rfl k) ?_
      refine eq_icN (by omega) (by omega) (tgt := 256) f85_180 rfl (fun h9 => absurd h9 (fun w => w rfl)) (fun _ => ?_)
      refine eq_ (fun _ k => ev_aload_n f85_183 rfl k) ?_
      refine eq_ (fun _ k => ev_iload f85_184 rfl k) ?_
      refine eq_ (fun _ k => ev_aload_n f85_186 rfl k) ?_
      refine eq_ (fun _ k => ev_iload f85_187 rfl k) ?_
      refine eq_ (fun _ k => ev_iald f85_189 (by assumption) (by omega) (by omega) k) ?_
      refine eq_ (fun _ k => ev_bipushN (n := 77) (by omega) f85_190 k) ?_
      refine eq_ (fun _ k => ev_iload f85_192 rfl k) ?_
      first | refine eq_ (fun _ k => ev_imulN f85_194 k) ?_ | refine eq_ (fun _ k => ev_imul f85_194 k) ?_
      refine eq_ (fun _ k => ev_s2 f85_195 (by decide) ow87 rfl rfl (Nat.le_of_ble_eq_true rfl) (c87) k) ?_
      refine eq_ (fun _ k => ev_v2 f85_198 ow40 (by assumption) rfl rfl (Nat.le_of_ble_eq_true rfl) (k3) k) ?_
      refine eq_ (fun _ k => ev_iload f85_201 rfl k) ?_
      refine eq_icN (by omega) (by omega) (tgt := 256) f85_203 rfl (fun h9 => absurd h9 (fun w => w rfl)) (fun _ => ?_)
      refine eq_ (fun _ k => ev_aload_n f85_206 rfl k) ?_
      refine eq_ (fun _ k => ev_iload f85_207 rfl k) ?_
      refine eq_ (fun _ k => ev_aload_n f85_209 rfl k) ?_
      refine eq_ (fun _ k => ev_iload f85_210 rfl k) ?_
      refine eq_ (fun _ k => ev_iald f85_212 (by assumption) (by omega) (by omega) k) ?_
      refine eq_ (fun _ k => ev_v2 f85_213 ow45 (by assumption) rfl rfl (Nat.le_of_ble_eq_true rfl) (k4) k) ?_
      refine eq_ (fun _ k => ev_iload f85_216 rfl k) ?_
      refine eq_ (fun _ k => ev_iload f85_218 rfl k) ?_
      refine eq_ifN (by omega) (tgt := 227) f85_220 rfl (fun _ => ?_) (fun h9 => absurd (Nat.not_lt.mp z) h9)
      refine eq_ (fun _ k => ev_iconstN (n := 0) f85_227 k) ?_
      first | refine eq_ (fun _ k => ev_iaddN f85_228 k) ?_ | refine eq_ (fun _ k => ev_iadd f85_228 k) ?_
      refine eq_icN (by omega) (by omega) (tgt := 256) f85_229 rfl (fun h9 => absurd h9 (fun w => w rfl)) (fun _ => ?_)
      exact rest _ _ _ _
theorem c85 {hs : amH} (W : LW X q g P C q hs) (hlen : 42 ≤ hs.length) (hC : ∀ j, C j < 2 ^ 20) (hp : PI P) (G : GI g P C) (hf : f < 4) : CaB 85 [.ref 1, .ref 39, .ref 40, .ref 41, .int (nI f)] hs (some (.int (nI true.toNat))) (fun hs' => LW X q g P C q hs' ∧ 42 ≤ hs'.length) 1 32 := by
  have F := W.2.1.2.2.1 f hf
  obtain ⟨h3, h8, -⟩ := F.obj
  obtain ⟨le1, le2, le3, le4, -⟩ := F.le
  refine cab_mk ow85 (Nat.le_of_ble_eq_true rfl) ?_
  refine eq_ (fun _ k => ev_iconstN (n := 0) f85_0 k) ?_
  refine eq_ (fun _ k => ev_istore f85_1 k) ?_
  refine eq_ (fun _ k => ev_iconstN (n := 0) f85_3 k) ?_
  refine eq_ (fun _ k => ev_istore f85_4 k) ?_
  refine eq_ (fun _ k => ev_iconstN (n := 1) f85_6 k) ?_
  refine eq_ (fun _ k => ev_istore f85_7 k) ?_
  refine eq_ (fun _ k => ev_iconstN (n := 0) f85_9 k) ?_
  refine eq_ (fun _ k => ev_istore f85_10 k) ?_
  refine l85 (N := hs.length) hC hp G hf h3 h8 (fun hs0 w9 w10 w11 w12 w13 W0 hN => ?_) 15 0 hs _ _ _ _ _ rfl W rfl
  have eE := EE_all hp G hf
  have eS := sm_all hp G hf
  have eD : nzN (g f) 4096 = smN (dcF C f) 15 := nz_Pi hp G hf (Nat.le_refl 15) 4096 (fun j hj => ⟨fun _ => hj, fun _ => hp.2 j hj⟩)
  have bS := smN_le (f := cfN C f) (b := 2 ^ 20) (fun j => Nat.le_of_lt (hC _)) 15
  obtain ⟨p1, p2⟩ := am_pow h3 h8
  obtain ⟨hsa, k1, W1, F1⟩ := W0.cls (m52 W0.2.1 hf)
  obtain ⟨hsb, k2, W2, F2⟩ := W1.cls (m53 W1.2.1 hf)
  obtain ⟨hsc, k3, W3, F3⟩ := W2.cls (m54 W2.2.1 hf)
  obtain ⟨hsd, k4, W4, F4⟩ := W3.cls (m55 W3.2.1 hf)
  rw [eE] at k2
  rw [eD] at k3
  rw [eS] at k4
  have x0 := W0.2.1.1
  have x1 := W1.2.1.1
  have x2 := W2.2.1.1
  have x3 := W3.2.1.1
  have r1 := W1.2.2.2.2
  have r4 := W4.2.2.2.2
  have l4 := (((F1.tr F2).tr F3).tr F4).1.trans hN
  refine eq_ (fun _ k => ev_iload f85_287 rfl k) ?_
  refine eq_ifN (by omega) (tgt := 348) f85_289 rfl (fun h9 => absurd h9 (by simp only [akN] at *; omega)) (fun _ => ?_)
  refine eq_ (fun _ k => ev_aload_n f85_292 rfl k) ?_
  refine eq_ (fun _ k => ev_iload f85_293 rfl k) ?_
  refine eq_ (fun _ k => ev_v1 f85_295 ow52 (by assumption) rfl (Nat.le_of_ble_eq_true rfl) (k1) k) ?_
  refine eq_ (fun _ k => ev_iconstN (n := 1) f85_298 k) ?_
  refine eq_ (fun _ k => ev_aload_n f85_299 rfl k) ?_
  refine eq_ (fun _ k => ev_iload f85_300 rfl k) ?_
  refine eq_ (fun _ k => ev_iald f85_302 (by assumption) (by omega) (by omega) k) ?_
  refine eq_ (fun _ k => ev_ishl f85_303 k) ?_
  rw [am_shl1 (by omega)]
  refine eq_icN (by omega) (by omega) (tgt := 348) f85_304 rfl (fun h9 => absurd h9 (fun w => w rfl)) (fun _ => ?_)
  refine eq_ (fun _ k => ev_aload_n f85_307 rfl k) ?_
  refine eq_ (fun _ k => ev_iload f85_308 rfl k) ?_
  refine eq_ (fun _ k => ev_v1 f85_310 ow53 (by assumption) rfl (Nat.le_of_ble_eq_true rfl) (k2) k) ?_
  refine eq_ (fun _ k => ev_aload_n f85_313 rfl k) ?_
  refine eq_ (fun _ k => ev_iload f85_314 rfl k) ?_
  refine eq_ (fun _ k => ev_s2 f85_316 (by decide) ow79 rfl rfl (Nat.le_of_ble_eq_true rfl) (c79 hf W2.2.2.2.1 hC) k) ?_
  refine eq_icN (by omega) (by omega) (tgt := 348) f85_319 rfl (fun h9 => absurd h9 (fun w => w rfl)) (fun _ => ?_)
  refine eq_ (fun _ k => ev_aload_n f85_322 rfl k) ?_
  refine eq_ (fun _ k => ev_iload f85_323 rfl k) ?_
  refine eq_ (fun _ k => ev_v1 f85_325 ow54 (by assumption) rfl (Nat.le_of_ble_eq_true rfl) (k3) k) ?_
  refine eq_ (fun _ k => ev_iload f85_328 rfl k) ?_
  refine eq_icN (by omega) (by omega) (tgt := 348) f85_330 rfl (fun h9 => absurd h9 (fun w => w rfl)) (fun _ => ?_)
  refine eq_ (fun _ k => ev_aload_n f85_333 rfl k) ?_
  refine eq_ (fun _ k => ev_iload f85_334 rfl k) ?_
  refine eq_ (fun _ k => ev_v1 f85_336 ow55 (by assumption) rfl (Nat.le_of_ble_eq_true rfl) (k4) k) ?_
  refine eq_ (fun _ k => ev_iload f85_339 rfl k) ?_
  refine eq_icN (by omega) (by omega) (tgt := 348) f85_341 rfl (fun h9 => absurd h9 (fun w => w rfl)) (fun _ => ?_)
  refine eq_ (fun _ k => ev_iconstN (n := 1) f85_344 k) ?_
  refine eq_ (fun _ k => ev_goto (tgt := 349) f85_345 rfl k) ?_
  refine eq_ (fun _ k => ev_istore f85_349 k) ?_
  refine eq_ (fun _ k => ev_iload f85_351 rfl k) ?_
  refine eq_ifN (by omega) (tgt := 383) f85_353 rfl (fun h9 => absurd h9 (by simp only [akN] at *; omega)) (fun _ => ?_)
  by_cases h5 : q f ≤ 5
  · obtain ⟨hse, k5, W5, l5⟩ := c84 W4 (by omega) hC hp G hf h5
    refine eq_ (fun _ k => ev_aload_n f85_356 rfl k) ?_
    refine eq_ (fun _ k => ev_iload f85_357 rfl k) ?_
    refine eq_ (fun _ k => ev_iald f85_359 (by assumption) (by omega) (by omega) k) ?_
    refine eq_ (fun _ k => ev_iconstN (n := 5) f85_360 k) ?_
    refine eq_icN (by omega) (by omega) (tgt := 379) f85_361 rfl (fun h9 => absurd h9 (by simp only [akN] at *; omega)) (fun _ => ?_)
    refine eq_ (fun _ k => ev_aload_n f85_364 rfl k) ?_
    refine eq_ (fun _ k => ev_aload_n f85_365 rfl k) ?_
    refine eq_ (fun _ k => ev_aload_n f85_366 rfl k) ?_
    refine eq_ (fun _ k => ev_iload f85_367 rfl k) ?_
    refine eq_ (fun _ k => ev_aload_n f85_369 rfl k) ?_
    refine eq_ (fun _ k => ev_iload f85_370 rfl k) ?_
    refine eq_ (fun _ k => ev_iald f85_372 (by assumption) (by omega) (by omega) k) ?_
    refine eq_ (fun _ k => ev_s5c f85_373 (by decide) ow84 rfl rfl rfl rfl rfl (Nat.le_of_ble_eq_true rfl) (k5) k) ?_
    refine eq_ifeqB (tgt := 383) f85_376 rfl (fun h9 => Bool.noConfusion (h9.symm.trans (rfl))) (fun _ => ?_)
    refine eq_ (fun _ k => ev_iconstN (n := 1) f85_379 k) ?_
    refine eq_ (fun _ k => ev_goto (tgt := 384) f85_380 rfl k) ?_
    first | refine ⟨_, ev_iret f85_384 (rZ rfl true) rfl, ?_⟩ | refine ⟨_, ev_iret f85_384 (rZ rfl false) rfl, ?_⟩ | refine ⟨_, ev_iret f85_384 (rZ rfl _) rfl, ?_⟩
    exact ⟨hse, _, _, rfl, Nat.le_of_eq (Nat.zero_add 1), Nat.le_of_eq (Nat.zero_add 32), W5, by omega⟩
  · refine eq_ (fun _ k => ev_aload_n f85_356 rfl k) ?_
    refine eq_ (fun _ k => ev_iload f85_357 rfl k) ?_
    refine eq_ (fun _ k => ev_iald f85_359 (by assumption) (by omega) (by omega) k) ?_
    refine eq_ (fun _ k => ev_iconstN (n := 5) f85_360 k) ?_
    refine eq_icN (by omega) (by omega) (tgt := 379) f85_361 rfl (fun _ => ?_) (fun h9 => absurd (by simp only [akN] at *; omega) h9)
    refine eq_ (fun _ k => ev_iconstN (n := 1) f85_379 k) ?_
    refine eq_ (fun _ k => ev_goto (tgt := 384) f85_380 rfl k) ?_
    first | refine ⟨_, ev_iret f85_384 (rZ rfl true) rfl, ?_⟩ | refine ⟨_, ev_iret f85_384 (rZ rfl false) rfl, ?_⟩ | refine ⟨_, ev_iret f85_384 (rZ rfl _) rfl, ?_⟩
    exact ⟨hsd, _, _, rfl, Nat.zero_le _, Nat.zero_le _, W4, by omega⟩
end IF
