/-! the model's lookedAt; rows laid by wip/whole/walk.py -/
section MO
variable {hs : amH} {q : Nat → Nat} {g : Nat → Nat → Nat} {l f e k : Nat} {p0 v1 v2 key : Int32}
theorem d102t (h : MS hs q g l) (hp : ¬ inR p0 4) : CrQ 102 [.ref 39, .int p0, .int v1] hs (some (.int (nI 0))) (MP hs q g 1) := by
  have a := h.1
  refine crq_mk ow102 (Nat.le_of_ble_eq_true rfl) ?_
  by_cases h1 : inR v1 4096
  · obtain ⟨k, k1, rfl⟩ := h1
    obtain ⟨hs1, k2, m1, f1⟩ := c82 h false true
    refine eq_ (fun _ k => ev_aload_n f102_0 rfl k) ?_
    refine eq_ (fun _ k => ev_iload_n f102_1 rfl k) ?_
    refine eq_ (fun _ k => ev_s1 f102_2 (by decide) ow80 rfl (Nat.le_of_ble_eq_true rfl) (c80n hp) k) ?_
    refine eq_ (fun _ k => ev_iload_n f102_5 rfl k) ?_
    refine eq_ (fun _ k => ev_s1 f102_6 (by decide) ow81 rfl (Nat.le_of_ble_eq_true rfl) (c81 k1) k) ?_
    refine eq_ (fun _ k => ev_v2 f102_9 ow82 (by assumption) rfl rfl (Nat.le_of_ble_eq_true rfl) (k2) k) ?_
    refine eq_ifneB (tgt := 17) f102_12 rfl (fun h9 => Bool.noConfusion (h9.symm.trans (rfl))) (fun _ => ?_)
    refine eq_ (fun _ k => ev_iconstN (n := 0) f102_15 k) ?_
    refine ⟨_, ev_iret f102_16 (rI rfl _) rfl, ?_⟩
    exact ⟨hs1, rfl, m1, f1⟩
  · obtain ⟨hs1, k2, m1, f1⟩ := c82 h false false
    refine eq_ (fun _ k => ev_aload_n f102_0 rfl k) ?_
    refine eq_ (fun _ k => ev_iload_n f102_1 rfl k) ?_
    refine eq_ (fun _ k => ev_s1 f102_2 (by decide) ow80 rfl (Nat.le_of_ble_eq_true rfl) (c80n hp) k) ?_
    refine eq_ (fun _ k => ev_iload_n f102_5 rfl k) ?_
    refine eq_ (fun _ k => ev_s1 f102_6 (by decide) ow81 rfl (Nat.le_of_ble_eq_true rfl) (c81n h1) k) ?_
    refine eq_ (fun _ k => ev_v2 f102_9 ow82 (by assumption) rfl rfl (Nat.le_of_ble_eq_true rfl) (k2) k) ?_
    refine eq_ifneB (tgt := 17) f102_12 rfl (fun h9 => Bool.noConfusion (h9.symm.trans (rfl))) (fun _ => ?_)
    refine eq_ (fun _ k => ev_iconstN (n := 0) f102_15 k) ?_
    refine ⟨_, ev_iret f102_16 (rI rfl _) rfl, ?_⟩
    exact ⟨hs1, rfl, m1, f1⟩
theorem d102n (h : MS hs q g l) (hf : f < 4) (hp : ¬ inR v1 4096) : CrQ 102 [.ref 39, .int (nI f), .int v1] hs (some (.int (nI 0))) (MP hs q g 2) := by
  have a := h.1
  refine crq_mk ow102 (Nat.le_of_ble_eq_true rfl) ?_
  obtain ⟨hs1, k2, m1, f1⟩ := c82 h true false
  refine eq_ (fun _ k => ev_aload_n f102_0 rfl k) ?_
  refine eq_ (fun _ k => ev_iload_n f102_1 rfl k) ?_
  refine eq_ (fun _ k => ev_s1 f102_2 (by decide) ow80 rfl (Nat.le_of_ble_eq_true rfl) (c80 hf) k) ?_
  refine eq_ (fun _ k => ev_iload_n f102_5 rfl k) ?_
  refine eq_ (fun _ k => ev_s1 f102_6 (by decide) ow81 rfl (Nat.le_of_ble_eq_true rfl) (c81n hp) k) ?_
  refine eq_ (fun _ k => ev_v2 f102_9 ow82 (by assumption) rfl rfl (Nat.le_of_ble_eq_true rfl) (k2) k) ?_
  refine eq_ifneB (tgt := 17) f102_12 rfl (fun h9 => Bool.noConfusion (h9.symm.trans (rfl))) (fun _ => ?_)
  refine eq_ (fun _ k => ev_iconstN (n := 0) f102_15 k) ?_
  refine ⟨_, ev_iret f102_16 (rI rfl _) rfl, ?_⟩
  exact ⟨hs1, rfl, m1, f1⟩
/-- the entries of the run before fingerprint k -/
theorem l102a (h : MS hs q g l) (hf : f < 4) (hk : k < 4096) {z s : Nat} {w6 w7 : Option Value} {o : amOut} (hfin : Ev 102 74 [some (.ref 39), some (.int (nI f)), some (.int (nI k)), some (.int (nI s)), some (.int (nI z)), some (.int (nI (EE (g f) k - EE (g f) z))), some (.int (nI k)), w7] [] hs 0 0 o) (hg : ∀ k, g f k ≤ 1568) : ∀ (d j : Nat), j + d = k → z ≤ j → Ev 102 41 [some (.ref 39), some (.int (nI f)), some (.int (nI k)), some (.int (nI s)), some (.int (nI z)), some (.int (nI (EE (g f) j - EE (g f) z))), some (.int (nI j)), w7] [] hs 0 0 o := by
  obtain ⟨a, b, c, -⟩ := h
  intro d
  induction d with
  | zero =>
    intro j hj hz
    have hj2 : j = k := by omega
    subst hj2
    refine ev_iload f102_41 rfl ?_
    refine ev_iload_n f102_43 rfl ?_
    refine ev_icN (by omega) (by omega) (tgt := 74) f102_44 rfl (fun _ => ?_) (fun h9 => absurd (by simp only [akN] at *; omega) h9)
    exact hfin
  | succ d ih =>
    intro j hj hz
    have hi := ih (j + 1) (by omega) (by omega)
    have e1 := ct (g := g) (f := f) (show j < 4096 by omega)
    have h1 := hg j
    rw [← e1] at h1
    have hm := EE_mono (g f) hz
    rw [EE_s, ← e1, show EE (g f) j + enN (cnt16 g (4096 * f + j)) - EE (g f) z = EE (g f) j - EE (g f) z + enN (cnt16 g (4096 * f + j)) by omega] at hi
    refine ev_iload f102_41 rfl ?_
    refine ev_iload_n f102_43 rfl ?_
    refine ev_icN (by omega) (by omega) (tgt := 74) f102_44 rfl (fun h9 => absurd h9 (by simp only [akN] at *; omega)) (fun _ => ?_)
    refine ev_iload f102_47 rfl ?_
    refine ev_aload_n f102_49 rfl ?_
    refine ev_getf f102_50 (by assumption) rfl ?_
    refine ev_sipushN (n := 4096) (by decide +kernel) f102_53 ?_
    refine ev_iload_n f102_56 rfl ?_
    first | refine ev_imulN f102_57 ?_ | refine ev_imul f102_57 ?_
    refine ev_iload f102_58 rfl ?_
    first | refine ev_iaddN f102_60 ?_ | refine ev_iadd f102_60 ?_
    refine ev_iald f102_61 (by assumption) (by omega) (by omega) ?_
    refine ev_s1 f102_62 (by decide) ow84 rfl (Nat.le_of_ble_eq_true rfl) (c84 (by omega)) ?_
    first | refine ev_iaddN f102_65 ?_ | refine ev_iadd f102_65 ?_
    refine ev_istore f102_66 ?_
    refine ev_iincN f102_68 rfl ?_
    refine ev_goto (tgt := 41) f102_71 rfl ?_
    exact hi
/-- whether an entry of the run follows -/
theorem l102b (h : MS hs q g l) (hf : f < 4) (hk : k < 4096) {z s n : Nat} (hsh : nI 1 <<< (nI s &&& 31) = nI (2 ^ s)) (hg : ∀ k, g f k ≤ 1568) (hze : z + 2 ^ s ≤ 4096) {o : amOut} (hfin : Ev 102 125 [some (.ref 39), some (.int (nI f)), some (.int (nI k)), some (.int (nI s)), some (.int (nI z)), some (.int (nI n)), some (.int (nI (decide (EE (g f) k < EE (g f) (z + 2 ^ s))).toNat)), some (.int (nI (z + 2 ^ s)))] [] hs 0 0 o) : ∀ (d j : Nat), j + d = z + 2 ^ s → k ≤ j → Ev 102 80 [some (.ref 39), some (.int (nI f)), some (.int (nI k)), some (.int (nI s)), some (.int (nI z)), some (.int (nI n)), some (.int (nI (decide (EE (g f) k < EE (g f) j)).toNat)), some (.int (nI j))] [] hs 0 0 o := by
  obtain ⟨a, b, c, -⟩ := h
  intro d
  induction d with
  | zero =>
    intro j hj hz
    have hj2 : j = z + 2 ^ s := by omega
    subst hj2
    refine ev_iload f102_80 rfl ?_
    refine ev_iload f102_82 rfl ?_
    refine ev_iconstN (n := 1) f102_84 ?_
    refine ev_iload_n f102_85 rfl ?_
    refine ev_ishl f102_86 ?_
    rw [hsh]
    first | refine ev_iaddN f102_87 ?_ | refine ev_iadd f102_87 ?_
    refine ev_icN (by omega) (by omega) (tgt := 125) f102_88 rfl (fun _ => ?_) (fun h9 => absurd (by simp only [akN] at *; omega) h9)
    exact hfin
  | succ d ih =>
    intro j hj hz
    have hi := ih (j + 1) (by omega) (by omega)
    have e1 := ct (g := g) (f := f) (show j < 4096 by omega)
    have h1 := hg j
    rw [← e1] at h1
    have hm := EE_mono (g f) hz
    have hE := EE_s (g f) j
    by_cases hb : EE (g f) k < EE (g f) j
    · rw [decide_eq_true hb]
      rw [decide_eq_true (show EE (g f) k < EE (g f) (j + 1) by omega)] at hi
      refine ev_iload f102_80 rfl ?_
      refine ev_iload f102_82 rfl ?_
      refine ev_iconstN (n := 1) f102_84 ?_
      refine ev_iload_n f102_85 rfl ?_
      refine ev_ishl f102_86 ?_
      rw [hsh]
      first | refine ev_iaddN f102_87 ?_ | refine ev_iadd f102_87 ?_
      refine ev_icN (by omega) (by omega) (tgt := 125) f102_88 rfl (fun h9 => absurd h9 (by simp only [akN] at *; omega)) (fun _ => ?_)
      refine ev_iload f102_91 rfl ?_
      refine ev_ifneB (tgt := 112) f102_93 rfl (fun _ => ?_) (fun h9 => Bool.noConfusion (h9.symm.trans (rfl)))
      refine ev_iconstN (n := 1) f102_112 ?_
      refine ev_goto (tgt := 117) f102_113 rfl ?_
      refine ev_istore f102_117 ?_
      refine ev_iincN f102_119 rfl ?_
      refine ev_goto (tgt := 80) f102_122 rfl ?_
      exact hi
    · rw [decide_eq_false hb]
      by_cases h0 : g f j = 0
      · have e2 : cnt16 g (4096 * f + j) = 0 := by rw [e1]; exact h0
        rw [h0, show enN 0 = 0 from rfl] at hE
        rw [decide_eq_false (show ¬ EE (g f) k < EE (g f) (j + 1) by omega)] at hi
        refine ev_iload f102_80 rfl ?_
        refine ev_iload f102_82 rfl ?_
        refine ev_iconstN (n := 1) f102_84 ?_
        refine ev_iload_n f102_85 rfl ?_
        refine ev_ishl f102_86 ?_
        rw [hsh]
        first | refine ev_iaddN f102_87 ?_ | refine ev_iadd f102_87 ?_
        refine ev_icN (by omega) (by omega) (tgt := 125) f102_88 rfl (fun h9 => absurd h9 (by simp only [akN] at *; omega)) (fun _ => ?_)
        refine ev_iload f102_91 rfl ?_
        refine ev_ifneB (tgt := 112) f102_93 rfl (fun h9 => Bool.noConfusion (h9.symm.trans (rfl))) (fun _ => ?_)
        refine ev_aload_n f102_96 rfl ?_
        refine ev_getf f102_97 (by assumption) rfl ?_
        refine ev_sipushN (n := 4096) (by decide +kernel) f102_100 ?_
        refine ev_iload_n f102_103 rfl ?_
        first | refine ev_imulN f102_104 ?_ | refine ev_imul f102_104 ?_
        refine ev_iload f102_105 rfl ?_
        first | refine ev_iaddN f102_107 ?_ | refine ev_iadd f102_107 ?_
        refine ev_iald f102_108 (by assumption) (by omega) (by omega) ?_
        refine ev_ifN (by omega) (tgt := 116) f102_109 rfl (fun _ => ?_) (fun h9 => absurd (by simp only [akN] at *; omega) h9)
        refine ev_iconstN (n := 0) f102_116 ?_
        refine ev_istore f102_117 ?_
        refine ev_iincN f102_119 rfl ?_
        refine ev_goto (tgt := 80) f102_122 rfl ?_
        exact hi
      · have e2 : 0 < cnt16 g (4096 * f + j) := by rw [e1]; omega
        rw [decide_eq_true (show EE (g f) k < EE (g f) (j + 1) by unfold enN at hE; omega)] at hi
        refine ev_iload f102_80 rfl ?_
        refine ev_iload f102_82 rfl ?_
        refine ev_iconstN (n := 1) f102_84 ?_
        refine ev_iload_n f102_85 rfl ?_
        refine ev_ishl f102_86 ?_
        rw [hsh]
        first | refine ev_iaddN f102_87 ?_ | refine ev_iadd f102_87 ?_
        refine ev_icN (by omega) (by omega) (tgt := 125) f102_88 rfl (fun h9 => absurd h9 (by simp only [akN] at *; omega)) (fun _ => ?_)
        refine ev_iload f102_91 rfl ?_
        refine ev_ifneB (tgt := 112) f102_93 rfl (fun h9 => Bool.noConfusion (h9.symm.trans (rfl))) (fun _ => ?_)
        refine ev_aload_n f102_96 rfl ?_
        refine ev_getf f102_97 (by assumption) rfl ?_
        refine ev_sipushN (n := 4096) (by decide +kernel) f102_100 ?_
        refine ev_iload_n f102_103 rfl ?_
        first | refine ev_imulN f102_104 ?_ | refine ev_imul f102_104 ?_
        refine ev_iload f102_105 rfl ?_
        first | refine ev_iaddN f102_107 ?_ | refine ev_iadd f102_107 ?_
        refine ev_iald f102_108 (by assumption) (by omega) (by omega) ?_
        refine ev_ifN (by omega) (tgt := 116) f102_109 rfl (fun h9 => absurd h9 (by simp only [akN] at *; omega)) (fun _ => ?_)
        refine ev_iconstN (n := 1) f102_112 ?_
        refine ev_goto (tgt := 117) f102_113 rfl ?_
        refine ev_istore f102_117 ?_
        refine ev_iincN f102_119 rfl ?_
        refine ev_goto (tgt := 80) f102_122 rfl ?_
        exact hi
theorem d102 (h : MS hs q g l) (hi : MI q g) (hf : f < 4) (hk : k < 4096) : CrQ 102 [.ref 39, .int (nI f), .int (nI k)] hs (some (.int (nI (lookN (2 ^ (12 - q f)) (g f) k)))) (MP hs q g 0) := by
  have a := h.1
  obtain ⟨hs1, k1, m1, f1⟩ := go_y h
  have mm1 := m1
  obtain ⟨a1, a2, a3, -⟩ := mm1
  obtain ⟨o3, o8, o4, o5⟩ := hi f hf
  obtain ⟨l1, l2⟩ := hi.le hf
  have hm : 0 < 2 ^ (12 - q f) := Nat.two_pow_pos _
  have hnm := am_nm o8
  have hq := am_quo o3 o8 hk
  have hkm := am_md k (2 ^ (12 - q f))
  have hkl := Nat.mod_lt k hm
  have hze : k / 2 ^ (12 - q f) * 2 ^ (12 - q f) + 2 ^ (12 - q f) ≤ 4096 := by
    rw [← hnm, ← Nat.succ_mul]
    exact Nat.mul_le_mul_right _ hq
  have hM := EE_mono (g f) (show k / 2 ^ (12 - q f) * 2 ^ (12 - q f) ≤ k by omega)
  have hM2 := EE_mono (g f) (show k ≤ k / 2 ^ (12 - q f) * 2 ^ (12 - q f) + 2 ^ (12 - q f) by omega)
  have hM3 := EE_mono (g f) (show k / 2 ^ (12 - q f) * 2 ^ (12 - q f) + 2 ^ (12 - q f) ≤ 4096 by omega)
  have hln : lnN (2 ^ (12 - q f)) (g f) (k / 2 ^ (12 - q f)) = EE (g f) (k / 2 ^ (12 - q f) * 2 ^ (12 - q f) + 2 ^ (12 - q f)) - EE (g f) (k / 2 ^ (12 - q f) * 2 ^ (12 - q f)) := by
    unfold lnN
    rw [Nat.succ_mul]
  refine crq_mk ow102 (Nat.le_of_ble_eq_true rfl) ?_
  refine eq_ (fun _ k => ev_aload_n f102_0 rfl k) ?_
  refine eq_ (fun _ k => ev_iload_n f102_1 rfl k) ?_
  refine eq_ (fun _ k => ev_s1 f102_2 (by decide) ow80 rfl (Nat.le_of_ble_eq_true rfl) (c80 hf) k) ?_
  refine eq_ (fun _ k => ev_iload_n f102_5 rfl k) ?_
  refine eq_ (fun _ k => ev_s1 f102_6 (by decide) ow81 rfl (Nat.le_of_ble_eq_true rfl) (c81 hk) k) ?_
  refine eq_ (fun _ k => ev_v2 f102_9 ow82 (by assumption) rfl rfl (Nat.le_of_ble_eq_true rfl) (k1) k) ?_
  refine eq_ifneB (tgt := 17) f102_12 rfl (fun _ => ?_) (fun h9 => Bool.noConfusion (h9.symm.trans (rfl)))
  refine eq_ (fun _ k => ev_bipushN (n := 12) (by omega) f102_17 k) ?_
  refine eq_ (fun _ k => ev_aload_n f102_19 rfl k) ?_
  refine eq_ (fun _ k => ev_getf f102_20 (by assumption) rfl k) ?_
  refine eq_ (fun _ k => ev_iload_n f102_23 rfl k) ?_
  refine eq_ (fun _ k => ev_iald f102_24 (by assumption) (by omega) (by omega) k) ?_
  refine eq_ (fun _ k => ev_isubN (by omega) f102_25 k) ?_
  refine eq_ (fun _ k => ev_istore_n f102_26 k) ?_
  refine eq_ (fun _ k => ev_iload_n f102_27 rfl k) ?_
  refine eq_ (fun _ k => ev_iload_n f102_28 rfl k) ?_
  refine eq_ (fun _ k => ev_ishr f102_29 k) ?_
  rw [pk_shrN (by omega) _ (12 - q f) (am_sh _ (by omega))]
  refine eq_ (fun _ k => ev_iload_n f102_30 rfl k) ?_
  refine eq_ (fun _ k => ev_ishl f102_31 k) ?_
  rw [pk_shlN _ (12 - q f) (am_sh _ (by omega)) (by omega)]
  refine eq_ (fun _ k => ev_istore f102_32 k) ?_
  refine eq_ (fun _ k => ev_iconstN (n := 0) f102_34 k) ?_
  refine eq_ (fun _ k => ev_istore f102_35 k) ?_
  refine eq_ (fun _ k => ev_iload f102_37 rfl k) ?_
  refine eq_ (fun _ k => ev_istore f102_39 k) ?_
  have fin : Ev 102 125 [some (.ref 39), some (.int (nI f)), some (.int (nI k)), some (.int (nI (12 - q f))), some (.int (nI (k / 2 ^ (12 - q f) * 2 ^ (12 - q f)))), some (.int (nI (EE (g f) k - EE (g f) (k / 2 ^ (12 - q f) * 2 ^ (12 - q f))))), some (.int (nI (decide (EE (g f) k < EE (g f) (k / 2 ^ (12 - q f) * 2 ^ (12 - q f) + 2 ^ (12 - q f)))).toNat)), some (.int (nI (k / 2 ^ (12 - q f) * 2 ^ (12 - q f) + 2 ^ (12 - q f))))] [] hs1 0 0 (.inl (some (.int (nI (lookN (2 ^ (12 - q f)) (g f) k)))), hs1, 0, 0) := by
    by_cases hb : EE (g f) k < EE (g f) (k / 2 ^ (12 - q f) * 2 ^ (12 - q f) + 2 ^ (12 - q f))
    · rw [decide_eq_true hb, show lookN (2 ^ (12 - q f)) (g f) k = EE (g f) k - EE (g f) (k / 2 ^ (12 - q f) * 2 ^ (12 - q f)) + 1 by unfold lookN; omega]
      refine ev_iload f102_125 rfl ?_
      refine ev_ifeqB (tgt := 137) f102_127 rfl (fun h9 => Bool.noConfusion (h9.symm.trans (rfl))) (fun _ => ?_)
      refine ev_iload f102_130 rfl ?_
      refine ev_iconstN (n := 1) f102_132 ?_
      first | refine ev_iaddN f102_133 ?_ | refine ev_iadd f102_133 ?_
      refine ev_goto (tgt := 139) f102_134 rfl ?_
      exact ev_iret f102_139 (rI rfl _) rfl
    · rw [decide_eq_false hb, show lookN (2 ^ (12 - q f)) (g f) k = EE (g f) k - EE (g f) (k / 2 ^ (12 - q f) * 2 ^ (12 - q f)) by unfold lookN; omega]
      refine ev_iload f102_125 rfl ?_
      refine ev_ifeqB (tgt := 137) f102_127 rfl (fun _ => ?_) (fun h9 => Bool.noConfusion (h9.symm.trans (rfl)))
      refine ev_iload f102_137 rfl ?_
      exact ev_iret f102_139 (rI rfl _) rfl
  have mid := l102b m1 hf hk (s := 12 - q f) (am_shl1 (by omega)) l2 hze fin (k / 2 ^ (12 - q f) * 2 ^ (12 - q f) + 2 ^ (12 - q f) - k) k (by omega) (Nat.le_refl k)
  rw [decide_eq_false (Nat.lt_irrefl _)] at mid
  have st := l102a m1 hf hk (z := k / 2 ^ (12 - q f) * 2 ^ (12 - q f)) (s := 12 - q f) (w6 := none) (w7 := none) (o := (.inl (some (.int (nI (lookN (2 ^ (12 - q f)) (g f) k)))), hs1, 0, 0)) (by
    refine ev_iconstN (n := 0) f102_74 ?_
    refine ev_istore f102_75 ?_
    refine ev_iload_n f102_77 rfl ?_
    refine ev_istore f102_78 ?_
    exact mid) l2 (k - k / 2 ^ (12 - q f) * 2 ^ (12 - q f)) (k / 2 ^ (12 - q f) * 2 ^ (12 - q f)) (by omega) (Nat.le_refl _)
  rw [Nat.sub_self] at st
  exact ⟨_, st, hs1, rfl, m1, f1⟩
end MO
