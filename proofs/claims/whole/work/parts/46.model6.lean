/-! the model's merge, lookedAt, fingerprintAt; rows laid by wip/whole/walk.py -/
section MO
variable {hs : amH} {q : Nat → Nat} {g : Nat → Nat → Nat} {l f e k : Nat} {p0 v1 v2 key : Int32}
theorem d106t (h : MS hs q g l) (hp : ¬ (inR p0 4 ∧ inR v1 4)) : CrQ 106 [.ref 39, .int p0, .int v1] hs (some (.int (nI 0))) (MP hs q g 1) := by
  have a := h.1
  obtain ⟨hs1, k1, m1, f1⟩ := go_n h
  refine crq_mk ow106 (Nat.le_of_ble_eq_true rfl) ?_
  by_cases h1 : inR p0 4
  · obtain ⟨f, hf, rfl⟩ := h1
    have h2 : ¬ inR v1 4 := fun w => hp ⟨⟨f, hf, rfl⟩, w⟩
    refine eq_ (fun _ k => ev_aload_n f106_0 rfl k) ?_
    refine eq_ (fun _ k => ev_iload_n f106_1 rfl k) ?_
    refine eq_ (fun _ k => ev_s1 f106_2 (by decide) ow80 rfl (Nat.le_of_ble_eq_true rfl) (c80 hf) k) ?_
    refine eq_ifeqB (tgt := 19) f106_5 rfl (fun h9 => Bool.noConfusion (h9.symm.trans (rfl))) (fun _ => ?_)
    refine eq_ (fun _ k => ev_iload_n f106_8 rfl k) ?_
    refine eq_ (fun _ k => ev_s1 f106_9 (by decide) ow80 rfl (Nat.le_of_ble_eq_true rfl) (c80n h2) k) ?_
    refine eq_ifeqB (tgt := 19) f106_12 rfl (fun _ => ?_) (fun h9 => Bool.noConfusion (h9.symm.trans (rfl)))
    refine eq_ (fun _ k => ev_iconstN (n := 0) f106_19 k) ?_
    refine eq_ (fun _ k => ev_iconstN (n := 1) f106_20 k) ?_
    refine eq_ (fun _ k => ev_v2 f106_21 ow82 (by assumption) rfl rfl (Nat.le_of_ble_eq_true rfl) (k1) k) ?_
    refine eq_ifneB (tgt := 29) f106_24 rfl (fun h9 => Bool.noConfusion (h9.symm.trans (rfl))) (fun _ => ?_)
    refine eq_ (fun _ k => ev_iconstN (n := 0) f106_27 k) ?_
    refine ⟨_, ev_iret f106_28 (rI rfl _) rfl, ?_⟩
    exact ⟨hs1, rfl, m1, f1⟩
  · refine eq_ (fun _ k => ev_aload_n f106_0 rfl k) ?_
    refine eq_ (fun _ k => ev_iload_n f106_1 rfl k) ?_
    refine eq_ (fun _ k => ev_s1 f106_2 (by decide) ow80 rfl (Nat.le_of_ble_eq_true rfl) (c80n h1) k) ?_
    refine eq_ifeqB (tgt := 19) f106_5 rfl (fun _ => ?_) (fun h9 => Bool.noConfusion (h9.symm.trans (rfl)))
    refine eq_ (fun _ k => ev_iconstN (n := 0) f106_19 k) ?_
    refine eq_ (fun _ k => ev_iconstN (n := 1) f106_20 k) ?_
    refine eq_ (fun _ k => ev_v2 f106_21 ow82 (by assumption) rfl rfl (Nat.le_of_ble_eq_true rfl) (k1) k) ?_
    refine eq_ifneB (tgt := 29) f106_24 rfl (fun h9 => Bool.noConfusion (h9.symm.trans (rfl))) (fun _ => ?_)
    refine eq_ (fun _ k => ev_iconstN (n := 0) f106_27 k) ?_
    refine ⟨_, ev_iret f106_28 (rI rfl _) rfl, ?_⟩
    exact ⟨hs1, rfl, m1, f1⟩
theorem l106a (h : MS hs q g l) (hf : f < 4) (he : e < 4) (hg : ∀ k, g f k ≤ 1568) (hg2 : ∀ k, g e k ≤ 1568) {o : amOut} (hfin : Ev 106 81 [some (.ref 39), some (.int (nI f)), some (.int (nI e)), some (.int (nI (EE (suN (g f) (g e)) 4096))), some (.int (nI 4096))] [] hs 0 0 o) : ∀ (d k : Nat), k + d = 4096 → Ev 106 34 [some (.ref 39), some (.int (nI f)), some (.int (nI e)), some (.int (nI (EE (suN (g f) (g e)) k))), some (.int (nI k))] [] hs 0 0 o := by
  obtain ⟨a, b, c, -⟩ := h
  intro d
  induction d with
  | zero =>
    intro k hk
    have hk2 : k = 4096 := by omega
    subst hk2
    refine ev_iload f106_34 rfl ?_
    refine ev_sipushN (n := 4096) (by decide +kernel) f106_36 ?_
    refine ev_icN (by omega) (by omega) (tgt := 81) f106_39 rfl (fun _ => ?_) (fun h9 => absurd (by simp only [akN] at *; omega) h9)
    exact hfin
  | succ d ih =>
    intro k hk
    have hi := ih (k + 1) (by omega)
    have e1 := ct (g := g) (f := f) (show k < 4096 by omega)
    have e2 := ct (g := g) (f := e) (show k < 4096 by omega)
    have h1 := hg k
    have h2 := hg2 k
    rw [← e1] at h1
    rw [← e2] at h2
    rw [EE_s, show suN (g f) (g e) k = cnt16 g (4096 * f + k) + cnt16 g (4096 * e + k) by rw [e1, e2]; rfl] at hi
    refine ev_iload f106_34 rfl ?_
    refine ev_sipushN (n := 4096) (by decide +kernel) f106_36 ?_
    refine ev_icN (by omega) (by omega) (tgt := 81) f106_39 rfl (fun h9 => absurd h9 (by simp only [akN] at *; omega)) (fun _ => ?_)
    refine ev_iload_n f106_42 rfl ?_
    refine ev_aload_n f106_43 rfl ?_
    refine ev_getf f106_44 (by assumption) rfl ?_
    refine ev_sipushN (n := 4096) (by decide +kernel) f106_47 ?_
    refine ev_iload_n f106_50 rfl ?_
    first | refine ev_imulN f106_51 ?_ | refine ev_imul f106_51 ?_
    refine ev_iload f106_52 rfl ?_
    first | refine ev_iaddN f106_54 ?_ | refine ev_iadd f106_54 ?_
    refine ev_iald f106_55 (by assumption) (by omega) (by omega) ?_
    refine ev_aload_n f106_56 rfl ?_
    refine ev_getf f106_57 (by assumption) rfl ?_
    refine ev_sipushN (n := 4096) (by decide +kernel) f106_60 ?_
    refine ev_iload_n f106_63 rfl ?_
    first | refine ev_imulN f106_64 ?_ | refine ev_imul f106_64 ?_
    refine ev_iload f106_65 rfl ?_
    first | refine ev_iaddN f106_67 ?_ | refine ev_iadd f106_67 ?_
    refine ev_iald f106_68 (by assumption) (by omega) (by omega) ?_
    first | refine ev_iaddN f106_69 ?_ | refine ev_iadd f106_69 ?_
    refine ev_s1 f106_70 (by decide) ow84 rfl (Nat.le_of_ble_eq_true rfl) (c84 (by omega)) ?_
    first | refine ev_iaddN f106_73 ?_ | refine ev_iadd f106_73 ?_
    refine ev_istore_n f106_74 ?_
    refine ev_iincN f106_75 rfl ?_
    refine ev_goto (tgt := 34) f106_78 rfl ?_
    exact hi
theorem l106b (hf : f < 4) (he : e < 4) {n : Nat} : ∀ (d k : Nat) (hs : amH), k + d = 4096 → MS hs q (updG g f (mixN (suN (g f) (g e)) (g f) k)) 0 → EvQ 106 105 [some (.ref 39), some (.int (nI f)), some (.int (nI e)), some (.int (nI n)), some (.int (nI k))] [] hs 0 0 (Rt (some (.int (nI n))) (MP hs q (updG g f (mixN (suN (g f) (g e)) (g f) 4096)) 0)) := by
  intro d
  induction d with
  | zero =>
    intro k hs hk h
    have hk2 : k = 4096 := by omega
    subst hk2
    have h9 := h
    obtain ⟨a, b, -⟩ := h
    refine eq_ (fun _ k => ev_iload f106_105 rfl k) ?_
    refine eq_ (fun _ k => ev_sipushN (n := 4096) (by decide +kernel) f106_107 k) ?_
    refine eq_icN (by omega) (by omega) (tgt := 155) f106_110 rfl (fun _ => ?_) (fun h9 => absurd (by simp only [akN] at *; omega) h9)
    refine eq_ (fun _ k => ev_aload_n f106_155 rfl k) ?_
    refine eq_ (fun _ k => ev_getf f106_156 (by assumption) rfl k) ?_
    refine eq_ifN (by omega) (tgt := 166) f106_159 rfl (fun h9 => absurd h9 (fun w => w rfl)) (fun _ => ?_)
    refine eq_ (fun _ k => ev_iload_n f106_162 rfl k) ?_
    refine eq_ (fun _ k => ev_goto (tgt := 167) f106_163 rfl k) ?_
    refine ⟨_, ev_iret f106_167 (rI rfl _) rfl, ?_⟩
    exact ⟨hs, rfl, h9, Fr.refl⟩
  | succ d ih =>
    intro k hs hk h
    have h9 := h
    obtain ⟨a, b, -⟩ := h
    have e1 := ct (g := updG g f (mixN (suN (g f) (g e)) (g f) k)) (f := f) (show k < 4096 by omega)
    have e2 := ct (g := updG g f (mixN (suN (g f) (g e)) (g f) k)) (f := e) (show k < 4096 by omega)
    rw [updG_at, mixN_ge _ _ (Nat.le_refl k)] at e1
    have e3 : updG g f (mixN (suN (g f) (g e)) (g f) k) e k = g e k := by
      unfold updG
      by_cases w : e = f
      · rw [if_pos w, mixN_ge _ _ (Nat.le_refl k), w]
      · rw [if_neg w]
    rw [e3] at e2
    refine eq_ (fun _ k => ev_iload f106_105 rfl k) ?_
    refine eq_ (fun _ k => ev_sipushN (n := 4096) (by decide +kernel) f106_107 k) ?_
    refine eq_icN (by omega) (by omega) (tgt := 155) f106_110 rfl (fun h9 => absurd h9 (by simp only [akN] at *; omega)) (fun _ => ?_)
    refine eq_ (fun _ k => ev_aload_n f106_113 rfl k) ?_
    refine eq_ (fun _ k => ev_getf f106_114 (by assumption) rfl k) ?_
    refine eq_ifN (by omega) (tgt := 155) f106_117 rfl (fun h9 => absurd h9 (fun w => w rfl)) (fun _ => ?_)
    refine eq_ (fun _ k => ev_aload_n f106_120 rfl k) ?_
    refine eq_ (fun _ k => ev_getf f106_121 (by assumption) rfl k) ?_
    refine eq_ (fun _ k => ev_sipushN (n := 4096) (by decide +kernel) f106_124 k) ?_
    refine eq_ (fun _ k => ev_iload_n f106_127 rfl k) ?_
    first | refine eq_ (fun _ k => ev_imulN f106_128 k) ?_ | refine eq_ (fun _ k => ev_imul f106_128 k) ?_
    refine eq_ (fun _ k => ev_iload f106_129 rfl k) ?_
    first | refine eq_ (fun _ k => ev_iaddN f106_131 k) ?_ | refine eq_ (fun _ k => ev_iadd f106_131 k) ?_
    refine eq_ (fun _ k => ev_dup2 f106_132 rfl rfl k) ?_
    refine eq_ (fun _ k => ev_iald f106_133 (by assumption) (by omega) (by omega) k) ?_
    refine eq_ (fun _ k => ev_aload_n f106_134 rfl k) ?_
    refine eq_ (fun _ k => ev_getf f106_135 (by assumption) rfl k) ?_
    refine eq_ (fun _ k => ev_sipushN (n := 4096) (by decide +kernel) f106_138 k) ?_
    refine eq_ (fun _ k => ev_iload_n f106_141 rfl k) ?_
    first | refine eq_ (fun _ k => ev_imulN f106_142 k) ?_ | refine eq_ (fun _ k => ev_imul f106_142 k) ?_
    refine eq_ (fun _ k => ev_iload f106_143 rfl k) ?_
    first | refine eq_ (fun _ k => ev_iaddN f106_145 k) ?_ | refine eq_ (fun _ k => ev_iadd f106_145 k) ?_
    refine eq_ (fun _ k => ev_iald f106_146 (by assumption) (by omega) (by omega) k) ?_
    first | refine eq_ (fun _ k => ev_iaddN f106_147 k) ?_ | refine eq_ (fun _ k => ev_iadd f106_147 k) ?_
    refine eq_iast f106_148 (by assumption) (by omega) (by omega) (by omega) (fun hs1 e4 => ?_)
    refine eq_ (fun _ k => ev_iincN f106_149 rfl k) ?_
    refine eq_ (fun _ k => ev_goto (tgt := 105) f106_152 rfl k) ?_
    have m1 := h9.set40 (f := f) (k := k) (by omega) e4
    rw [e1, e2, updG_at, updG_2, show g f k + g e k = suN (g f) (g e) k from rfl, mixN_s] at m1
    exact (ih (k + 1) hs1 (by omega) m1).mp (Fr.st e4 (by omega) (by omega))
theorem d106 (h : MS hs q g l) (hi : MI q g) (hf : f < 4) (he : e < 4) : CrQ 106 [.ref 39, .int (nI f), .int (nI e)] hs (some (.int (nI (if EE (suN (g f) (g e)) 4096 * 8 ≤ 7 * 2 ^ q f then EE (suN (g f) (g e)) 4096 else 0)))) (MP hs q (if EE (suN (g f) (g e)) 4096 * 8 ≤ 7 * 2 ^ q f then updG g f (suN (g f) (g e)) else g) (if EE (suN (g f) (g e)) 4096 * 8 ≤ 7 * 2 ^ q f then 0 else 2)) := by
  have a := h.1
  obtain ⟨hs1, k1, m1, f1⟩ := go_y h
  have a1 := m1.1
  obtain ⟨o3, o8, o4, o5⟩ := hi f hf
  obtain ⟨p1, p2⟩ := am_pow o3 o8
  have hEE := EE_su (g f) (g e) 4096
  have l1 := hi.le hf
  have l2 := hi.le he
  have ea : mixN (suN (g f) (g e)) (g f) 4096 = suN (g f) (g e) := mixN_all _ _ (fun j hj => by
    unfold suN
    rw [(hi f hf).2.2.2 j hj, (hi e he).2.2.2 j hj])
  have k86 := c86 (hs := hs1) (a := EE (suN (g f) (g e)) 4096) (n := 2 ^ q f) (by omega) p2
  rw [show decide (EE (suN (g f) (g e)) 4096 ≤ 2 ^ q f / 8 * 7) = decide (EE (suN (g f) (g e)) 4096 * 8 ≤ 7 * 2 ^ q f) from decide_eq_decide.mpr (am_rm o3 o8)] at k86
  have tail : EvQ 106 81 [some (.ref 39), some (.int (nI f)), some (.int (nI e)), some (.int (nI (EE (suN (g f) (g e)) 4096))), some (.int (nI 4096))] [] hs1 0 0 (Rt (some (.int (nI (if EE (suN (g f) (g e)) 4096 * 8 ≤ 7 * 2 ^ q f then EE (suN (g f) (g e)) 4096 else 0)))) (MP hs q (if EE (suN (g f) (g e)) 4096 * 8 ≤ 7 * 2 ^ q f then updG g f (suN (g f) (g e)) else g) (if EE (suN (g f) (g e)) 4096 * 8 ≤ 7 * 2 ^ q f then 0 else 2))) := by
    by_cases hE : EE (suN (g f) (g e)) 4096 * 8 ≤ 7 * 2 ^ q f
    · rw [decide_eq_true hE] at k86
      rw [if_pos hE, if_pos hE, if_pos hE]
      refine eq_ (fun _ k => ev_aload_n f106_81 rfl k) ?_
      refine eq_ (fun _ k => ev_iload_n f106_82 rfl k) ?_
      refine eq_ (fun _ k => ev_aload_n f106_83 rfl k) ?_
      refine eq_ (fun _ k => ev_iload_n f106_84 rfl k) ?_
      refine eq_ (fun _ k => ev_v1 f106_85 ow83 (by assumption) rfl (Nat.le_of_ble_eq_true rfl) (c83 m1 hf o8) k) ?_
      refine eq_ (fun _ k => ev_s2 f106_88 (by decide) ow86 rfl rfl (Nat.le_of_ble_eq_true rfl) (k86) k) ?_
      refine eq_ifeqB (tgt := 98) f106_91 rfl (fun h9 => Bool.noConfusion (h9.symm.trans (rfl))) (fun _ => ?_)
      refine eq_ (fun _ k => ev_iconstN (n := 0) f106_94 k) ?_
      refine eq_ (fun _ k => ev_goto (tgt := 99) f106_95 rfl k) ?_
      refine eq_putf f106_99 (by assumption) rfl (Nat.le_of_ble_eq_true rfl) (fun hs2 e2 => ?_)
      have m2 := m1.set39 (l2 := 0) e2
      have r := (l106b (g := g) hf he (n := EE (suN (g f) (g e)) 4096) 4096 0 hs2 rfl (by rw [mixN_0, updG_same]; exact m2)).mp (f1.tr (Fr.st e2 (by omega) (by omega)))
      rw [ea] at r
      refine eq_ (fun _ k => ev_iconstN (n := 0) f106_102 k) ?_
      refine eq_ (fun _ k => ev_istore f106_103 k) ?_
      exact r
    · rw [decide_eq_false hE] at k86
      rw [if_neg hE, if_neg hE, if_neg hE]
      refine eq_ (fun _ k => ev_aload_n f106_81 rfl k) ?_
      refine eq_ (fun _ k => ev_iload_n f106_82 rfl k) ?_
      refine eq_ (fun _ k => ev_aload_n f106_83 rfl k) ?_
      refine eq_ (fun _ k => ev_iload_n f106_84 rfl k) ?_
      refine eq_ (fun _ k => ev_v1 f106_85 ow83 (by assumption) rfl (Nat.le_of_ble_eq_true rfl) (c83 m1 hf o8) k) ?_
      refine eq_ (fun _ k => ev_s2 f106_88 (by decide) ow86 rfl rfl (Nat.le_of_ble_eq_true rfl) (k86) k) ?_
      refine eq_ifeqB (tgt := 98) f106_91 rfl (fun _ => ?_) (fun h9 => Bool.noConfusion (h9.symm.trans (rfl)))
      refine eq_ (fun _ k => ev_iconstN (n := 2) f106_98 k) ?_
      refine eq_putf f106_99 (by assumption) rfl (Nat.le_of_ble_eq_true rfl) (fun hs2 e2 => ?_)
      have m2 := m1.set39 (l2 := 2) e2
      have a2 := m2.1
      refine eq_ (fun _ k => ev_iconstN (n := 0) f106_102 k) ?_
      refine eq_ (fun _ k => ev_istore f106_103 k) ?_
      refine eq_ (fun _ k => ev_iload f106_105 rfl k) ?_
      refine eq_ (fun _ k => ev_sipushN (n := 4096) (by decide +kernel) f106_107 k) ?_
      refine eq_icN (by omega) (by omega) (tgt := 155) f106_110 rfl (fun h9 => absurd h9 (by simp only [akN] at *; omega)) (fun _ => ?_)
      refine eq_ (fun _ k => ev_aload_n f106_113 rfl k) ?_
      refine eq_ (fun _ k => ev_getf f106_114 (by assumption) rfl k) ?_
      refine eq_ifN (by omega) (tgt := 155) f106_117 rfl (fun _ => ?_) (fun h9 => absurd (by simp only [akN] at *; omega) h9)
      refine eq_ (fun _ k => ev_aload_n f106_155 rfl k) ?_
      refine eq_ (fun _ k => ev_getf f106_156 (by assumption) rfl k) ?_
      refine eq_ifN (by omega) (tgt := 166) f106_159 rfl (fun _ => ?_) (fun h9 => absurd (by simp only [akN] at *; omega) h9)
      refine eq_ (fun _ k => ev_iconstN (n := 0) f106_166 k) ?_
      refine ⟨_, ev_iret f106_167 (rI rfl _) rfl, ?_⟩
      exact ⟨hs2, rfl, m2, f1.tr (Fr.st e2 (by omega) (by omega))⟩
  refine crq_mk ow106 (Nat.le_of_ble_eq_true rfl) ?_
  refine eq_ (fun _ k => ev_aload_n f106_0 rfl k) ?_
  refine eq_ (fun _ k => ev_iload_n f106_1 rfl k) ?_
  refine eq_ (fun _ k => ev_s1 f106_2 (by decide) ow80 rfl (Nat.le_of_ble_eq_true rfl) (c80 hf) k) ?_
  refine eq_ifeqB (tgt := 19) f106_5 rfl (fun h9 => Bool.noConfusion (h9.symm.trans (rfl))) (fun _ => ?_)
  refine eq_ (fun _ k => ev_iload_n f106_8 rfl k) ?_
  refine eq_ (fun _ k => ev_s1 f106_9 (by decide) ow80 rfl (Nat.le_of_ble_eq_true rfl) (c80 he) k) ?_
  refine eq_ifeqB (tgt := 19) f106_12 rfl (fun h9 => Bool.noConfusion (h9.symm.trans (rfl))) (fun _ => ?_)
  refine eq_ (fun _ k => ev_iconstN (n := 1) f106_15 k) ?_
  refine eq_ (fun _ k => ev_goto (tgt := 20) f106_16 rfl k) ?_
  refine eq_ (fun _ k => ev_iconstN (n := 1) f106_20 k) ?_
  refine eq_ (fun _ k => ev_v2 f106_21 ow82 (by assumption) rfl rfl (Nat.le_of_ble_eq_true rfl) (k1) k) ?_
  refine eq_ifneB (tgt := 29) f106_24 rfl (fun _ => ?_) (fun h9 => Bool.noConfusion (h9.symm.trans (rfl)))
  refine eq_ (fun _ k => ev_iconstN (n := 0) f106_29 k) ?_
  refine eq_ (fun _ k => ev_istore_n f106_30 k) ?_
  refine eq_ (fun _ k => ev_iconstN (n := 0) f106_31 k) ?_
  refine eq_ (fun _ k => ev_istore f106_32 k) ?_
  obtain ⟨o, o1, o2⟩ := tail
  exact ⟨o, l106a m1 hf he l1.2 l2.2 o1 4096 0 rfl, o2⟩
/-- fingerprintAt -/
theorem l113 (h : MS hs q g 0) (hf : f < 4) (hg : ∀ k, g f k ≤ 1568) (v : Int32) {x : Nat} (hx31 : x < 2 ^ 31) : ∀ (d k : Nat) (w : Option Value), k + d = 4096 → nzN (g f) k ≤ x → EvQ 113 28 [some (.ref 39), some (.int (nI f)), some (.int v), some (.int (nI (x - nzN (g f) k))), some (.int (nI true.toNat)), some (.int (nI k)), w] [] hs 0 0 (fun o => (∃ j, j < 4096 ∧ 0 < g f j ∧ nzN (g f) j = x ∧ o = (.inl (some (.int (nI j))), hs, 0, 0)) ∨ (nzN (g f) 4096 ≤ x ∧ ∃ hs', o = (.inl (some (.int (nI 0))), hs', 0, 0) ∧ MP hs q g 1 hs')) := by
  have h9 := h
  obtain ⟨a, b, c, -⟩ := h
  intro d
  induction d with
  | zero =>
    intro k w hk hx
    have hk2 : k = 4096 := by omega
    subst hk2
    refine eq_ (fun _ k => ev_iload f113_28 rfl k) ?_
    refine eq_ (fun _ k => ev_sipushN (n := 4096) (by decide +kernel) f113_30 k) ?_
    refine eq_icN (by omega) (by omega) (tgt := 95) f113_33 rfl (fun _ => ?_) (fun h9 => absurd (by simp only [akN] at *; omega) h9)
    refine eq_ (fun _ k => ev_aload_n f113_95 rfl k) ?_
    refine eq_ (fun _ k => ev_iconstN (n := 1) f113_96 k) ?_
    refine eq_putf f113_97 (by assumption) rfl (Nat.le_of_ble_eq_true rfl) (fun hs1 e1 => ?_)
    refine eq_ (fun _ k => ev_iconstN (n := 0) f113_100 k) ?_
    refine ⟨_, ev_iret f113_101 (rI rfl _) rfl, ?_⟩
    exact Or.inr ⟨hx, hs1, rfl, h9.set39 (l2 := 1) e1, Fr.st e1 (by omega) (by omega)⟩
  | succ d ih =>
    intro k w hk hx
    have e1 := ct (g := g) (f := f) (show k < 4096 by omega)
    have h1 := hg k
    rw [← e1] at h1
    by_cases h0 : g f k = 0
    · have hi := fun w => ih (k + 1) w (by omega) (by rw [nzN_zero h0]; exact hx)
      rw [nzN_zero h0] at hi
      have e2 : cnt16 g (4096 * f + k) = 0 := by rw [e1]; exact h0
      refine eq_ (fun _ k => ev_iload f113_28 rfl k) ?_
      refine eq_ (fun _ k => ev_sipushN (n := 4096) (by decide +kernel) f113_30 k) ?_
      refine eq_icN (by omega) (by omega) (tgt := 95) f113_33 rfl (fun h9 => absurd h9 (by simp only [akN] at *; omega)) (fun _ => ?_)
      refine eq_ (fun _ k => ev_iload f113_36 rfl k) ?_
      refine eq_ifeqB (tgt := 95) f113_38 rfl (fun h9 => Bool.noConfusion (h9.symm.trans (rfl))) (fun _ => ?_)
      refine eq_ (fun _ k => ev_aload_n f113_41 rfl k) ?_
      refine eq_ (fun _ k => ev_getf f113_42 (by assumption) rfl k) ?_
      refine eq_ (fun _ k => ev_sipushN (n := 4096) (by decide +kernel) f113_45 k) ?_
      refine eq_ (fun _ k => ev_iload_n f113_48 rfl k) ?_
      first | refine eq_ (fun _ k => ev_imulN f113_49 k) ?_ | refine eq_ (fun _ k => ev_imul f113_49 k) ?_
      refine eq_ (fun _ k => ev_iload f113_50 rfl k) ?_
      first | refine eq_ (fun _ k => ev_iaddN f113_52 k) ?_ | refine eq_ (fun _ k => ev_iadd f113_52 k) ?_
      refine eq_ (fun _ k => ev_iald f113_53 (by assumption) (by omega) (by omega) k) ?_
      refine eq_ifN (by omega) (tgt := 61) f113_54 rfl (fun _ => ?_) (fun h9 => absurd (by simp only [akN] at *; omega) h9)
      refine eq_ (fun _ k => ev_iconstN (n := 0) f113_61 k) ?_
      refine eq_ (fun _ k => ev_istore f113_62 k) ?_
      refine eq_ (fun _ k => ev_iload f113_64 rfl k) ?_
      refine eq_ifN (by omega) (tgt := 76) f113_66 rfl (fun _ => ?_) (fun h9 => absurd rfl h9)
      refine eq_ (fun _ k => ev_iload_n f113_76 rfl k) ?_
      refine eq_ (fun _ k => ev_iload f113_77 rfl k) ?_
      refine eq_ifN (by omega) (tgt := 86) f113_79 rfl (fun _ => ?_) (fun h9 => absurd rfl h9)
      refine eq_ (fun _ k => ev_iconstN (n := 0) f113_86 k) ?_
      refine eq_ (fun _ k => ev_isubN (by omega) f113_87 k) ?_
      refine eq_ (fun _ k => ev_istore_n f113_88 k) ?_
      refine eq_ (fun _ k => ev_iincN f113_89 rfl k) ?_
      refine eq_ (fun _ k => ev_goto (tgt := 28) f113_92 rfl k) ?_
      exact hi _
    · have e2 : 0 < cnt16 g (4096 * f + k) := by rw [e1]; omega
      by_cases h2 : x = nzN (g f) k
      · have h3 : x - nzN (g f) k = 0 := by omega
        refine eq_ (fun _ k => ev_iload f113_28 rfl k) ?_
        refine eq_ (fun _ k => ev_sipushN (n := 4096) (by decide +kernel) f113_30 k) ?_
        refine eq_icN (by omega) (by omega) (tgt := 95) f113_33 rfl (fun h9 => absurd h9 (by simp only [akN] at *; omega)) (fun _ => ?_)
        refine eq_ (fun _ k => ev_iload f113_36 rfl k) ?_
        refine eq_ifeqB (tgt := 95) f113_38 rfl (fun h9 => Bool.noConfusion (h9.symm.trans (rfl))) (fun _ => ?_)
        refine eq_ (fun _ k => ev_aload_n f113_41 rfl k) ?_
        refine eq_ (fun _ k => ev_getf f113_42 (by assumption) rfl k) ?_
        refine eq_ (fun _ k => ev_sipushN (n := 4096) (by decide +kernel) f113_45 k) ?_
        refine eq_ (fun _ k => ev_iload_n f113_48 rfl k) ?_
        first | refine eq_ (fun _ k => ev_imulN f113_49 k) ?_ | refine eq_ (fun _ k => ev_imul f113_49 k) ?_
        refine eq_ (fun _ k => ev_iload f113_50 rfl k) ?_
        first | refine eq_ (fun _ k => ev_iaddN f113_52 k) ?_ | refine eq_ (fun _ k => ev_iadd f113_52 k) ?_
        refine eq_ (fun _ k => ev_iald f113_53 (by assumption) (by omega) (by omega) k) ?_
        refine eq_ifN (by omega) (tgt := 61) f113_54 rfl (fun h9 => absurd h9 (by simp only [akN] at *; omega)) (fun _ => ?_)
        refine eq_ (fun _ k => ev_iconstN (n := 1) f113_57 k) ?_
        refine eq_ (fun _ k => ev_goto (tgt := 62) f113_58 rfl k) ?_
        refine eq_ (fun _ k => ev_istore f113_62 k) ?_
        refine eq_ (fun _ k => ev_iload f113_64 rfl k) ?_
        refine eq_ifN (by omega) (tgt := 76) f113_66 rfl (fun h9 => absurd h9 (fun w => absurd (show 1 = 0 from w) (by decide))) (fun _ => ?_)
        refine eq_ (fun _ k => ev_iload_n f113_69 rfl k) ?_
        refine eq_ifN (by omega) (tgt := 76) f113_70 rfl (fun h9 => absurd h9 (fun w => w h3)) (fun _ => ?_)
        refine eq_ (fun _ k => ev_iload f113_73 rfl k) ?_
        refine ⟨_, ev_iret f113_75 (rI rfl _) rfl, ?_⟩
        exact Or.inl ⟨k, by omega, by omega, h2.symm, rfl⟩
      · have hi := fun w => ih (k + 1) w (by omega) (by rw [nzN_pos (by omega)]; omega)
        rw [nzN_pos (f := g f) (k := k) (by omega), show x - (nzN (g f) k + 1) = x - nzN (g f) k - 1 by omega] at hi
        refine eq_ (fun _ k => ev_iload f113_28 rfl k) ?_
        refine eq_ (fun _ k => ev_sipushN (n := 4096) (by decide +kernel) f113_30 k) ?_
        refine eq_icN (by omega) (by omega) (tgt := 95) f113_33 rfl (fun h9 => absurd h9 (by simp only [akN] at *; omega)) (fun _ => ?_)
        refine eq_ (fun _ k => ev_iload f113_36 rfl k) ?_
        refine eq_ifeqB (tgt := 95) f113_38 rfl (fun h9 => Bool.noConfusion (h9.symm.trans (rfl))) (fun _ => ?_)
        refine eq_ (fun _ k => ev_aload_n f113_41 rfl k) ?_
        refine eq_ (fun _ k => ev_getf f113_42 (by assumption) rfl k) ?_
        refine eq_ (fun _ k => ev_sipushN (n := 4096) (by decide +kernel) f113_45 k) ?_
        refine eq_ (fun _ k => ev_iload_n f113_48 rfl k) ?_
        first | refine eq_ (fun _ k => ev_imulN f113_49 k) ?_ | refine eq_ (fun _ k => ev_imul f113_49 k) ?_
        refine eq_ (fun _ k => ev_iload f113_50 rfl k) ?_
        first | refine eq_ (fun _ k => ev_iaddN f113_52 k) ?_ | refine eq_ (fun _ k => ev_iadd f113_52 k) ?_
        refine eq_ (fun _ k => ev_iald f113_53 (by assumption) (by omega) (by omega) k) ?_
        refine eq_ifN (by omega) (tgt := 61) f113_54 rfl (fun h9 => absurd h9 (by simp only [akN] at *; omega)) (fun _ => ?_)
        refine eq_ (fun _ k => ev_iconstN (n := 1) f113_57 k) ?_
        refine eq_ (fun _ k => ev_goto (tgt := 62) f113_58 rfl k) ?_
        refine eq_ (fun _ k => ev_istore f113_62 k) ?_
        refine eq_ (fun _ k => ev_iload f113_64 rfl k) ?_
        refine eq_ifN (by omega) (tgt := 76) f113_66 rfl (fun h9 => absurd h9 (fun w => absurd (show 1 = 0 from w) (by decide))) (fun _ => ?_)
        refine eq_ (fun _ k => ev_iload_n f113_69 rfl k) ?_
        refine eq_ifN (by omega) (tgt := 76) f113_70 rfl (fun _ => ?_) (fun h9 => absurd (by simp only [akN] at *; omega) h9)
        refine eq_ (fun _ k => ev_iload_n f113_76 rfl k) ?_
        refine eq_ (fun _ k => ev_iload f113_77 rfl k) ?_
        refine eq_ifN (by omega) (tgt := 86) f113_79 rfl (fun h9 => absurd h9 (fun w => absurd (show 1 = 0 from w) (by decide))) (fun _ => ?_)
        refine eq_ (fun _ k => ev_iconstN (n := 1) f113_82 k) ?_
        refine eq_ (fun _ k => ev_goto (tgt := 87) f113_83 rfl k) ?_
        refine eq_ (fun _ k => ev_isubN (by omega) f113_87 k) ?_
        refine eq_ (fun _ k => ev_istore_n f113_88 k) ?_
        refine eq_ (fun _ k => ev_iincN f113_89 rfl k) ?_
        refine eq_ (fun _ k => ev_goto (tgt := 28) f113_92 rfl k) ?_
        exact hi _
theorem d113t (h : MS hs q g l) (hp : ¬ inR p0 4) : CrQ 113 [.ref 39, .int p0, .int v1] hs (some (.int (nI 0))) (MP hs q g 1) := by
  have a := h.1
  obtain ⟨hs1, k1, m1, f1⟩ := go_n h
  have a1 := m1.1
  refine crq_mk ow113 (Nat.le_of_ble_eq_true rfl) ?_
  refine eq_ (fun _ k => ev_iload_n f113_0 rfl k) ?_
  refine eq_ (fun _ k => ev_istore_n f113_1 k) ?_
  refine eq_ (fun _ k => ev_aload_n f113_2 rfl k) ?_
  refine eq_ (fun _ k => ev_iload_n f113_3 rfl k) ?_
  refine eq_ (fun _ k => ev_s1 f113_4 (by decide) ow80 rfl (Nat.le_of_ble_eq_true rfl) (c80n hp) k) ?_
  refine eq_ (fun _ k => ev_iconstN (n := 1) f113_7 k) ?_
  refine eq_ (fun _ k => ev_v2 f113_8 ow82 (by assumption) rfl rfl (Nat.le_of_ble_eq_true rfl) (k1) k) ?_
  refine eq_ifeqB (tgt := 22) f113_11 rfl (fun _ => ?_) (fun h9 => Bool.noConfusion (h9.symm.trans (rfl)))
  refine eq_ (fun _ k => ev_iconstN (n := 0) f113_22 k) ?_
  refine eq_ (fun _ k => ev_istore f113_23 k) ?_
  refine eq_ (fun _ k => ev_iconstN (n := 0) f113_25 k) ?_
  refine eq_ (fun _ k => ev_istore f113_26 k) ?_
  refine eq_ (fun _ k => ev_iload f113_28 rfl k) ?_
  refine eq_ (fun _ k => ev_sipushN (n := 4096) (by decide +kernel) f113_30 k) ?_
  refine eq_icN (by omega) (by omega) (tgt := 95) f113_33 rfl (fun h9 => absurd h9 (by simp only [akN] at *; omega)) (fun _ => ?_)
  refine eq_ (fun _ k => ev_iload f113_36 rfl k) ?_
  refine eq_ifN (by omega) (tgt := 95) f113_38 rfl (fun _ => ?_) (fun h9 => absurd rfl h9)
  refine eq_ (fun _ k => ev_aload_n f113_95 rfl k) ?_
  refine eq_ (fun _ k => ev_iconstN (n := 1) f113_96 k) ?_
  refine eq_putf f113_97 (by assumption) rfl (Nat.le_of_ble_eq_true rfl) (fun hs2 e2 => ?_)
  refine eq_ (fun _ k => ev_iconstN (n := 0) f113_100 k) ?_
  refine ⟨_, ev_iret f113_101 (rI rfl _) rfl, ?_⟩
  exact ⟨hs2, rfl, m1.set39 (l2 := 1) e2, f1.tr (Fr.st e2 (by omega) (by omega))⟩
theorem i32_nat {p : Int32} (h : ¬ p < 0) : ∃ x, x < 2 ^ 31 ∧ p = nI x := by
  have h3 : 0 ≤ p.toInt := by
    have h5 : ¬ p.toInt < (0 : Int32).toInt := fun q => h (Int32.lt_iff_toInt_lt.mpr q)
    rw [show (0 : Int32).toInt = 0 from rfl] at h5
    omega
  have h4 := Int32.toInt_lt p
  refine ⟨p.toInt.toNat, by omega, Int32.toInt_inj.mp ?_⟩
  rw [nI_toInt (by omega)]
  omega
theorem d113p (h : MS hs q g l) (hi : MI q g) (hf : f < 4) (hp : ¬ inR v1 (nzN (g f) 4096)) : CrQ 113 [.ref 39, .int (nI f), .int v1] hs (some (.int (nI 0))) (MP hs q g 1) := by
  have a := h.1
  obtain ⟨hs1, k1, m1, f1⟩ := go_y h
  have a1 := m1.1
  refine crq_mk ow113 (Nat.le_of_ble_eq_true rfl) ?_
  by_cases h1 : v1 < 0
  · refine eq_ (fun _ k => ev_iload_n f113_0 rfl k) ?_
    refine eq_ (fun _ k => ev_istore_n f113_1 k) ?_
    refine eq_ (fun _ k => ev_aload_n f113_2 rfl k) ?_
    refine eq_ (fun _ k => ev_iload_n f113_3 rfl k) ?_
    refine eq_ (fun _ k => ev_s1 f113_4 (by decide) ow80 rfl (Nat.le_of_ble_eq_true rfl) (c80 hf) k) ?_
    refine eq_ (fun _ k => ev_iconstN (n := 1) f113_7 k) ?_
    refine eq_ (fun _ k => ev_v2 f113_8 ow82 (by assumption) rfl rfl (Nat.le_of_ble_eq_true rfl) (k1) k) ?_
    refine eq_ifeqB (tgt := 22) f113_11 rfl (fun h9 => Bool.noConfusion (h9.symm.trans (rfl))) (fun _ => ?_)
    refine eq_ (fun _ k => ev_iload_n f113_14 rfl k) ?_
    refine eq_if (tgt := 22) f113_15 rfl (fun _ => ?_) (fun w => absurd h1 w)
    refine eq_ (fun _ k => ev_iconstN (n := 0) f113_22 k) ?_
    refine eq_ (fun _ k => ev_istore f113_23 k) ?_
    refine eq_ (fun _ k => ev_iconstN (n := 0) f113_25 k) ?_
    refine eq_ (fun _ k => ev_istore f113_26 k) ?_
    refine eq_ (fun _ k => ev_iload f113_28 rfl k) ?_
    refine eq_ (fun _ k => ev_sipushN (n := 4096) (by decide +kernel) f113_30 k) ?_
    refine eq_icN (by omega) (by omega) (tgt := 95) f113_33 rfl (fun h9 => absurd h9 (by simp only [akN] at *; omega)) (fun _ => ?_)
    refine eq_ (fun _ k => ev_iload f113_36 rfl k) ?_
    refine eq_ifN (by omega) (tgt := 95) f113_38 rfl (fun _ => ?_) (fun h9 => absurd rfl h9)
    refine eq_ (fun _ k => ev_aload_n f113_95 rfl k) ?_
    refine eq_ (fun _ k => ev_iconstN (n := 1) f113_96 k) ?_
    refine eq_putf f113_97 (by assumption) rfl (Nat.le_of_ble_eq_true rfl) (fun hs2 e2 => ?_)
    refine eq_ (fun _ k => ev_iconstN (n := 0) f113_100 k) ?_
    refine ⟨_, ev_iret f113_101 (rI rfl _) rfl, ?_⟩
    exact ⟨hs2, rfl, m1.set39 (l2 := 1) e2, f1.tr (Fr.st e2 (by omega) (by omega))⟩
  · obtain ⟨x, hx, rfl⟩ := i32_nat h1
    refine eq_ (fun _ k => ev_iload_n f113_0 rfl k) ?_
    refine eq_ (fun _ k => ev_istore_n f113_1 k) ?_
    refine eq_ (fun _ k => ev_aload_n f113_2 rfl k) ?_
    refine eq_ (fun _ k => ev_iload_n f113_3 rfl k) ?_
    refine eq_ (fun _ k => ev_s1 f113_4 (by decide) ow80 rfl (Nat.le_of_ble_eq_true rfl) (c80 hf) k) ?_
    refine eq_ (fun _ k => ev_iconstN (n := 1) f113_7 k) ?_
    refine eq_ (fun _ k => ev_v2 f113_8 ow82 (by assumption) rfl rfl (Nat.le_of_ble_eq_true rfl) (k1) k) ?_
    refine eq_ifeqB (tgt := 22) f113_11 rfl (fun h9 => Bool.noConfusion (h9.symm.trans (rfl))) (fun _ => ?_)
    refine eq_ (fun _ k => ev_iload_n f113_14 rfl k) ?_
    refine eq_ifN (by omega) (tgt := 22) f113_15 rfl (fun h9 => absurd h9 (by simp only [akN] at *; omega)) (fun _ => ?_)
    refine eq_ (fun _ k => ev_iconstN (n := 1) f113_18 k) ?_
    refine eq_ (fun _ k => ev_goto (tgt := 23) f113_19 rfl k) ?_
    refine eq_ (fun _ k => ev_istore f113_23 k) ?_
    refine eq_ (fun _ k => ev_iconstN (n := 0) f113_25 k) ?_
    refine eq_ (fun _ k => ev_istore f113_26 k) ?_
    obtain ⟨o, o1, o2⟩ := l113 m1 hf (hi.le hf).2 (nI x) hx 4096 0 none rfl (Nat.zero_le x)
    refine ⟨o, o1, ?_⟩
    rcases o2 with ⟨j, j1, j2, j3, j4⟩ | ⟨j1, hs2, j2, j3, j4⟩
    · exact absurd ⟨x, by rw [← j3]; exact nzN_lt j1 j2, rfl⟩ hp
    · exact ⟨hs2, j2, j3, f1.tr j4⟩
theorem d113 (h : MS hs q g l) (hi : MI q g) (hf : f < 4) (hk : k < 4096) (h0 : 0 < g f k) : CrQ 113 [.ref 39, .int (nI f), .int (nI (nzN (g f) k))] hs (some (.int (nI k))) (MP hs q g 0) := by
  have a := h.1
  obtain ⟨hs1, k1, m1, f1⟩ := go_y h
  have a1 := m1.1
  have hlt := nzN_lt hk h0
  have hle := nzN_le (g f) 4096
  refine crq_mk ow113 (Nat.le_of_ble_eq_true rfl) ?_
  refine eq_ (fun _ k => ev_iload_n f113_0 rfl k) ?_
  refine eq_ (fun _ k => ev_istore_n f113_1 k) ?_
  refine eq_ (fun _ k => ev_aload_n f113_2 rfl k) ?_
  refine eq_ (fun _ k => ev_iload_n f113_3 rfl k) ?_
  refine eq_ (fun _ k => ev_s1 f113_4 (by decide) ow80 rfl (Nat.le_of_ble_eq_true rfl) (c80 hf) k) ?_
  refine eq_ (fun _ k => ev_iconstN (n := 1) f113_7 k) ?_
  refine eq_ (fun _ k => ev_v2 f113_8 ow82 (by assumption) rfl rfl (Nat.le_of_ble_eq_true rfl) (k1) k) ?_
  refine eq_ifeqB (tgt := 22) f113_11 rfl (fun h9 => Bool.noConfusion (h9.symm.trans (rfl))) (fun _ => ?_)
  refine eq_ (fun _ k => ev_iload_n f113_14 rfl k) ?_
  refine eq_ifN (by omega) (tgt := 22) f113_15 rfl (fun h9 => absurd h9 (by simp only [akN] at *; omega)) (fun _ => ?_)
  refine eq_ (fun _ k => ev_iconstN (n := 1) f113_18 k) ?_
  refine eq_ (fun _ k => ev_goto (tgt := 23) f113_19 rfl k) ?_
  refine eq_ (fun _ k => ev_istore f113_23 k) ?_
  refine eq_ (fun _ k => ev_iconstN (n := 0) f113_25 k) ?_
  refine eq_ (fun _ k => ev_istore f113_26 k) ?_
  obtain ⟨o, o1, o2⟩ := l113 m1 hf (hi.le hf).2 (nI (nzN (g f) k)) (x := nzN (g f) k) (by omega) 4096 0 none rfl (Nat.zero_le _)
  refine ⟨o, o1, ?_⟩
  rcases o2 with ⟨j, j1, j2, j3, j4⟩ | ⟨j1, j2⟩
  · have ejk : j = k := by
      rcases Nat.lt_trichotomy j k with w | w | w
      · have := nzN_lt w j2
        omega
      · exact w
      · have := nzN_lt w h0
        omega
    rw [ejk] at j4
    exact ⟨hs1, j4, m1, f1⟩
  · omega
end MO
