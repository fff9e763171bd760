/-! the model's calls on keys, fingerprints, whole filters; rows laid by wip/whole/walk.py -/
theorem am_dv : ∀ q, q ≤ 8 → 3 ≤ q → 2 ^ q = 8 * (2 ^ q / 8) := by decide
theorem am_rm {q a : Nat} (h3 : 3 ≤ q) (h8 : q ≤ 8) : a ≤ 2 ^ q / 8 * 7 ↔ a * 8 ≤ 7 * 2 ^ q := by
  have := am_dv q h8 h3
  omega
/-- what a call of the model leaves -/
def MP (hs : amH) (q : Nat → Nat) (g : Nat → Nat → Nat) (l : Nat) : amH → Prop := fun hs' => MS hs' q g l ∧ Fr hs hs' 39 47
section MO
variable {hs : amH} {q : Nat → Nat} {g : Nat → Nat → Nat} {l f k : Nat} {p0 v1 v2 key : Int32}
theorem c93 (h : MS hs q g l) : CrQ 93 [.ref 39, .int key] hs (some (.int (nI (prN key)))) (MP hs q g 0) := by
  have h9 := h
  obtain ⟨a0, -⟩ := h
  refine crq_mk ow93 (Nat.le_of_ble_eq_true rfl) ?_
  refine eq_ (fun _ k => ev_aload_n f93_0 rfl k) ?_
  refine eq_ (fun _ k => ev_iconstN (n := 0) f93_1 k) ?_
  refine eq_putf f93_2 (by assumption) rfl (Nat.le_of_ble_eq_true rfl) (fun hs1 e1 => ?_)
  refine eq_ (fun _ k => ev_iload_n f93_5 rfl k) ?_
  refine eq_ (fun _ k => ev_s1 f93_6 (by decide) ow87 rfl (Nat.le_of_ble_eq_true rfl) (c87 key) k) ?_
  refine ⟨_, ev_iret f93_9 (rI rfl _) rfl, ?_⟩
  exact ⟨hs1, rfl, h9.set39 (l2 := 0) e1, Fr.st e1 (by omega) (by omega)⟩
theorem c94 (h : MS hs q g l) (hi : MI q g) (hf : f < 4) {v : Nat} (hk : k < 4096) (hv : v < 2 ^ 20) : CrQ 94 [.ref 39, .int (nI f), .int (nI k), .int (nI v)] hs (some (.int (nI (decide (EE (updN (g f) k v) 4096 * 8 ≤ 7 * 2 ^ q f)).toNat))) (MP hs q (if EE (updN (g f) k v) 4096 * 8 ≤ 7 * 2 ^ q f then updG g f (updN (g f) k v) else g) l) := by
  obtain ⟨o3, o8, o4, o5⟩ := hi f hf
  obtain ⟨l1, l2⟩ := hi.le hf
  obtain ⟨p1, p2⟩ := am_pow o3 o8
  have e4 := EE_upd4 (g := g f) (k := k) (v := v) hk
  have l3 := l2 k
  have e := ct (g := g) (f := f) hk
  have en : enN (cnt16 g (4096 * f + k)) ≤ EE (g f) 4096 := by
    rw [e]
    have := EE_mono (g f) (show k + 1 ≤ 4096 from hk)
    rw [EE_s] at this
    omega
  have h9 := h
  obtain ⟨a, b, c, -⟩ := h
  have hcnt : cnt16 g (4096 * f + k) ≤ 1568 := by rw [e]; exact l3
  have hsum : EE (g f) 4096 - enN (cnt16 g (4096 * f + k)) + enN v = EE (updN (g f) k v) 4096 := by
    rw [e] at en ⊢
    omega
  have k86 := c86 (hs := hs) (a := EE (updN (g f) k v) 4096) (n := 2 ^ q f) (by unfold enN at hsum; omega) p2
  rw [show decide (EE (updN (g f) k v) 4096 ≤ 2 ^ q f / 8 * 7) = decide (EE (updN (g f) k v) 4096 * 8 ≤ 7 * 2 ^ q f) from decide_eq_decide.mpr (am_rm o3 o8), ← hsum] at k86
  rw [hsum] at k86
  refine crq_mk ow94 (Nat.le_of_ble_eq_true rfl) ?_
  refine eq_ (fun _ k => ev_aload_n f94_0 rfl k) ?_
  refine eq_ (fun _ k => ev_getf f94_1 (by assumption) rfl k) ?_
  refine eq_ (fun _ k => ev_sipushN (n := 4096) (by decide +kernel) f94_4 k) ?_
  refine eq_ (fun _ k => ev_iload_n f94_7 rfl k) ?_
  first | refine eq_ (fun _ k => ev_imulN f94_8 k) ?_ | refine eq_ (fun _ k => ev_imul f94_8 k) ?_
  refine eq_ (fun _ k => ev_iload_n f94_9 rfl k) ?_
  first | refine eq_ (fun _ k => ev_iaddN f94_10 k) ?_ | refine eq_ (fun _ k => ev_iadd f94_10 k) ?_
  refine eq_ (fun _ k => ev_iald f94_11 (by assumption) (by omega) (by omega) k) ?_
  refine eq_ (fun _ k => ev_istore f94_12 k) ?_
  refine eq_ (fun _ k => ev_aload_n f94_14 rfl k) ?_
  refine eq_ (fun _ k => ev_iload_n f94_15 rfl k) ?_
  refine eq_ (fun _ k => ev_v1 f94_16 ow85 (by assumption) rfl (Nat.le_of_ble_eq_true rfl) (c85 h9 hf l2 (by omega)) k) ?_
  refine eq_ (fun _ k => ev_iload f94_19 rfl k) ?_
  refine eq_ (fun _ k => ev_s1 f94_21 (by decide) ow84 rfl (Nat.le_of_ble_eq_true rfl) (c84 (by omega)) k) ?_
  refine eq_ (fun _ k => ev_isubN (by omega) f94_24 k) ?_
  refine eq_ (fun _ k => ev_iload_n f94_25 rfl k) ?_
  refine eq_ (fun _ k => ev_s1 f94_26 (by decide) ow84 rfl (Nat.le_of_ble_eq_true rfl) (c84 (by omega)) k) ?_
  first | refine eq_ (fun _ k => ev_iaddN f94_29 k) ?_ | refine eq_ (fun _ k => ev_iadd f94_29 k) ?_
  refine eq_ (fun _ k => ev_istore f94_30 k) ?_
  rw [hsum]
  refine eq_ (fun _ k => ev_iload f94_32 rfl k) ?_
  refine eq_ (fun _ k => ev_aload_n f94_34 rfl k) ?_
  refine eq_ (fun _ k => ev_iload_n f94_35 rfl k) ?_
  refine eq_ (fun _ k => ev_v1 f94_36 ow83 (by assumption) rfl (Nat.le_of_ble_eq_true rfl) (c83 h9 hf o8) k) ?_
  refine eq_ (fun _ k => ev_s2 f94_39 (by decide) ow86 rfl rfl (Nat.le_of_ble_eq_true rfl) (k86) k) ?_
  refine eq_ (fun _ k => ev_istore f94_42 k) ?_
  refine eq_ (fun _ k => ev_aload_n f94_44 rfl k) ?_
  refine eq_ (fun _ k => ev_getf f94_45 (by assumption) rfl k) ?_
  refine eq_ (fun _ k => ev_sipushN (n := 4096) (by decide +kernel) f94_48 k) ?_
  refine eq_ (fun _ k => ev_iload_n f94_51 rfl k) ?_
  first | refine eq_ (fun _ k => ev_imulN f94_52 k) ?_ | refine eq_ (fun _ k => ev_imul f94_52 k) ?_
  refine eq_ (fun _ k => ev_iload_n f94_53 rfl k) ?_
  first | refine eq_ (fun _ k => ev_iaddN f94_54 k) ?_ | refine eq_ (fun _ k => ev_iadd f94_54 k) ?_
  refine eq_ (fun _ k => ev_iload f94_55 rfl k) ?_
  by_cases hE : EE (updN (g f) k v) 4096 * 8 ≤ 7 * 2 ^ q f
  · rw [if_pos hE, decide_eq_true hE]
    refine eq_ifeqB (tgt := 64) f94_57 rfl (fun h9 => Bool.noConfusion (h9.symm.trans (rfl))) (fun _ => ?_)
    refine eq_ (fun _ k => ev_iload_n f94_60 rfl k) ?_
    refine eq_ (fun _ k => ev_goto (tgt := 66) f94_61 rfl k) ?_
    refine eq_iast f94_66 (by assumption) (by omega) (by omega) (by omega) (fun hs1 e1 => ?_)
    refine eq_ (fun _ k => ev_iload f94_67 rfl k) ?_
    first | refine ⟨_, ev_iret f94_69 (rZ rfl true) rfl, ?_⟩ | refine ⟨_, ev_iret f94_69 (rZ rfl false) rfl, ?_⟩ | refine ⟨_, ev_iret f94_69 (rZ rfl _) rfl, ?_⟩
    exact ⟨hs1, rfl, h9.set40 hk e1, Fr.st e1 (by omega) (by omega)⟩
  · rw [if_neg hE, decide_eq_false hE]
    refine eq_ifeqB (tgt := 64) f94_57 rfl (fun _ => ?_) (fun h9 => Bool.noConfusion (h9.symm.trans (rfl)))
    refine eq_ (fun _ k => ev_iload f94_64 rfl k) ?_
    refine eq_iast f94_66 (by assumption) (by omega) (by omega) (by omega) (fun hs1 e1 => ?_)
    refine eq_ (fun _ k => ev_iload f94_67 rfl k) ?_
    first | refine ⟨_, ev_iret f94_69 (rZ rfl true) rfl, ?_⟩ | refine ⟨_, ev_iret f94_69 (rZ rfl false) rfl, ?_⟩ | refine ⟨_, ev_iret f94_69 (rZ rfl _) rfl, ?_⟩
    have m1 := h9.set40 hk e1
    rw [e, updN_same, updG_same] at m1
    exact ⟨hs1, rfl, m1, Fr.st e1 (by omega) (by omega)⟩
/-- isFilter and goes: a filter that there isn't -/
theorem go_n (h : MS hs q g l) : ∃ hs1, Cr 82 [.ref 39, .int (nI false.toNat), .int (nI 1)] hs (some (.int (nI false.toNat))) hs1 ∧ MP hs q g 1 hs1 := by
  obtain ⟨hs1, k1, m1⟩ := c82 h false true
  exact ⟨hs1, k1, m1⟩
theorem go_y (h : MS hs q g l) : ∃ hs1, Cr 82 [.ref 39, .int (nI true.toNat), .int (nI 1)] hs (some (.int (nI true.toNat))) hs1 ∧ MP hs q g 0 hs1 := by
  obtain ⟨hs1, k1, m1⟩ := c82 h true true
  exact ⟨hs1, k1, m1⟩
theorem d95t (h : MS hs q g l) (hp : ¬ inR p0 4) : CrQ 95 [.ref 39, .int p0, .int key] hs (some (.int (nI 0))) (MP hs q g 1) := by
  have a := h.1
  obtain ⟨hs1, k1, m1, f1⟩ := go_n h
  refine crq_mk ow95 (Nat.le_of_ble_eq_true rfl) ?_
  refine eq_ (fun _ k => ev_aload_n f95_0 rfl k) ?_
  refine eq_ (fun _ k => ev_iload_n f95_1 rfl k) ?_
  refine eq_ (fun _ k => ev_s1 f95_2 (by decide) ow80 rfl (Nat.le_of_ble_eq_true rfl) (c80n hp) k) ?_
  refine eq_ (fun _ k => ev_iconstN (n := 1) f95_5 k) ?_
  refine eq_ (fun _ k => ev_v2 f95_6 ow82 (by assumption) rfl rfl (Nat.le_of_ble_eq_true rfl) (k1) k) ?_
  refine eq_ifneB (tgt := 14) f95_9 rfl (fun h9 => Bool.noConfusion (h9.symm.trans (rfl))) (fun _ => ?_)
  refine eq_ (fun _ k => ev_iconstN (n := 0) f95_12 k) ?_
  refine ⟨_, ev_iret f95_13 (rI rfl _) rfl, ?_⟩
  exact ⟨hs1, rfl, m1, f1⟩
theorem d95 (h : MS hs q g l) (hi : MI q g) (hf : f < 4) : CrQ 95 [.ref 39, .int (nI f), .int key] hs (some (.int (nI (if EE (putN (g f) (prN key) 1) 4096 * 8 ≤ 7 * 2 ^ q f then g f (prN key) + 1 else 0)))) (MP hs q (if EE (putN (g f) (prN key) 1) 4096 * 8 ≤ 7 * 2 ^ q f then updG g f (putN (g f) (prN key) 1) else g) (if EE (putN (g f) (prN key) 1) 4096 * 8 ≤ 7 * 2 ^ q f then 0 else 2)) := by
  have hk := prN_lt key
  have a := h.1
  obtain ⟨hs1, k1, m1, f1⟩ := go_y h
  have e := ct (g := g) (f := f) hk
  obtain ⟨l1, l2⟩ := hi.le hf
  have l3 := l2 (prN key)
  obtain ⟨hs2, k2, m2, f2⟩ := c94 m1 hi hf (v := cnt16 g (4096 * f + prN key) + 1) hk (by omega)
  rw [show updN (g f) (prN key) (cnt16 g (4096 * f + prN key) + 1) = putN (g f) (prN key) 1 by rw [e]; rfl] at k2 m2
  have mm1 := m1
  obtain ⟨b1, b2, -⟩ := mm1
  have mm2 := m2
  obtain ⟨c1, -⟩ := mm2
  refine crq_mk ow95 (Nat.le_of_ble_eq_true rfl) ?_
  by_cases hE : EE (putN (g f) (prN key) 1) 4096 * 8 ≤ 7 * 2 ^ q f
  · rw [decide_eq_true hE] at k2
    rw [if_pos hE] at m2
    rw [if_pos hE, if_pos hE, if_pos hE]
    refine eq_ (fun _ k => ev_aload_n f95_0 rfl k) ?_
    refine eq_ (fun _ k => ev_iload_n f95_1 rfl k) ?_
    refine eq_ (fun _ k => ev_s1 f95_2 (by decide) ow80 rfl (Nat.le_of_ble_eq_true rfl) (c80 hf) k) ?_
    refine eq_ (fun _ k => ev_iconstN (n := 1) f95_5 k) ?_
    refine eq_ (fun _ k => ev_v2 f95_6 ow82 (by assumption) rfl rfl (Nat.le_of_ble_eq_true rfl) (k1) k) ?_
    refine eq_ifneB (tgt := 14) f95_9 rfl (fun _ => ?_) (fun h9 => Bool.noConfusion (h9.symm.trans (rfl)))
    refine eq_ (fun _ k => ev_sipushN (n := 4096) (by decide +kernel) f95_14 k) ?_
    refine eq_ (fun _ k => ev_iload_n f95_17 rfl k) ?_
    first | refine eq_ (fun _ k => ev_imulN f95_18 k) ?_ | refine eq_ (fun _ k => ev_imul f95_18 k) ?_
    refine eq_ (fun _ k => ev_iload_n f95_19 rfl k) ?_
    refine eq_ (fun _ k => ev_s1 f95_20 (by decide) ow87 rfl (Nat.le_of_ble_eq_true rfl) (c87 key) k) ?_
    first | refine eq_ (fun _ k => ev_iaddN f95_23 k) ?_ | refine eq_ (fun _ k => ev_iadd f95_23 k) ?_
    refine eq_ (fun _ k => ev_istore_n f95_24 k) ?_
    refine eq_ (fun _ k => ev_aload_n f95_25 rfl k) ?_
    refine eq_ (fun _ k => ev_aload_n f95_26 rfl k) ?_
    refine eq_ (fun _ k => ev_iload_n f95_27 rfl k) ?_
    refine eq_ (fun _ k => ev_iload_n f95_28 rfl k) ?_
    refine eq_ (fun _ k => ev_s1 f95_29 (by decide) ow87 rfl (Nat.le_of_ble_eq_true rfl) (c87 key) k) ?_
    refine eq_ (fun _ k => ev_aload_n f95_32 rfl k) ?_
    refine eq_ (fun _ k => ev_getf f95_33 (by assumption) rfl k) ?_
    refine eq_ (fun _ k => ev_iload_n f95_36 rfl k) ?_
    refine eq_ (fun _ k => ev_iald f95_37 (by assumption) (by omega) (by omega) k) ?_
    refine eq_ (fun _ k => ev_iconstN (n := 1) f95_38 k) ?_
    first | refine eq_ (fun _ k => ev_iaddN f95_39 k) ?_ | refine eq_ (fun _ k => ev_iadd f95_39 k) ?_
    refine eq_ (fun _ k => ev_v3 f95_40 ow94 (by assumption) rfl rfl rfl (Nat.le_of_ble_eq_true rfl) (k2) k) ?_
    refine eq_ifeqB (tgt := 50) f95_43 rfl (fun h9 => Bool.noConfusion (h9.symm.trans (rfl))) (fun _ => ?_)
    refine eq_ (fun _ k => ev_iconstN (n := 0) f95_46 k) ?_
    refine eq_ (fun _ k => ev_goto (tgt := 51) f95_47 rfl k) ?_
    refine eq_putf f95_51 (by assumption) rfl (Nat.le_of_ble_eq_true rfl) (fun hs3 e3 => ?_)
    have m3 := m2.set39 (l2 := 0) e3
    have mm3 := m3
    obtain ⟨w1, w2, -⟩ := mm3
    have ev : g f (prN key) + 1 = cnt16 (updG g f (putN (g f) (prN key) 1)) (4096 * f + prN key) := by
      rw [ct hk]
      unfold updG putN
      rw [if_pos rfl, updN_at]
    rw [ev]
    refine eq_ (fun _ k => ev_aload_n f95_54 rfl k) ?_
    refine eq_ (fun _ k => ev_getf f95_55 (by assumption) rfl k) ?_
    refine eq_ifN (by omega) (tgt := 70) f95_58 rfl (fun h9 => absurd h9 (fun w => w rfl)) (fun _ => ?_)
    refine eq_ (fun _ k => ev_aload_n f95_61 rfl k) ?_
    refine eq_ (fun _ k => ev_getf f95_62 (by assumption) rfl k) ?_
    refine eq_ (fun _ k => ev_iload_n f95_65 rfl k) ?_
    refine eq_ (fun _ k => ev_iald f95_66 (by assumption) (by omega) (by omega) k) ?_
    refine eq_ (fun _ k => ev_goto (tgt := 71) f95_67 rfl k) ?_
    refine ⟨_, ev_iret f95_71 (rI rfl _) rfl, ?_⟩
    exact ⟨hs3, rfl, m3, (f1.tr f2).tr (Fr.st e3 (by omega) (by omega))⟩
  · rw [decide_eq_false hE] at k2
    rw [if_neg hE] at m2
    rw [if_neg hE, if_neg hE, if_neg hE]
    refine eq_ (fun _ k => ev_aload_n f95_0 rfl k) ?_
    refine eq_ (fun _ k => ev_iload_n f95_1 rfl k) ?_
    refine eq_ (fun _ k => ev_s1 f95_2 (by decide) ow80 rfl (Nat.le_of_ble_eq_true rfl) (c80 hf) k) ?_
    refine eq_ (fun _ k => ev_iconstN (n := 1) f95_5 k) ?_
    refine eq_ (fun _ k => ev_v2 f95_6 ow82 (by assumption) rfl rfl (Nat.le_of_ble_eq_true rfl) (k1) k) ?_
    refine eq_ifneB (tgt := 14) f95_9 rfl (fun _ => ?_) (fun h9 => Bool.noConfusion (h9.symm.trans (rfl)))
    refine eq_ (fun _ k => ev_sipushN (n := 4096) (by decide +kernel) f95_14 k) ?_
    refine eq_ (fun _ k => ev_iload_n f95_17 rfl k) ?_
    first | refine eq_ (fun _ k => ev_imulN f95_18 k) ?_ | refine eq_ (fun _ k => ev_imul f95_18 k) ?_
    refine eq_ (fun _ k => ev_iload_n f95_19 rfl k) ?_
    refine eq_ (fun _ k => ev_s1 f95_20 (by decide) ow87 rfl (Nat.le_of_ble_eq_true rfl) (c87 key) k) ?_
    first | refine eq_ (fun _ k => ev_iaddN f95_23 k) ?_ | refine eq_ (fun _ k => ev_iadd f95_23 k) ?_
    refine eq_ (fun _ k => ev_istore_n f95_24 k) ?_
    refine eq_ (fun _ k => ev_aload_n f95_25 rfl k) ?_
    refine eq_ (fun _ k => ev_aload_n f95_26 rfl k) ?_
    refine eq_ (fun _ k => ev_iload_n f95_27 rfl k) ?_
    refine eq_ (fun _ k => ev_iload_n f95_28 rfl k) ?_
    refine eq_ (fun _ k => ev_s1 f95_29 (by decide) ow87 rfl (Nat.le_of_ble_eq_true rfl) (c87 key) k) ?_
    refine eq_ (fun _ k => ev_aload_n f95_32 rfl k) ?_
    refine eq_ (fun _ k => ev_getf f95_33 (by assumption) rfl k) ?_
    refine eq_ (fun _ k => ev_iload_n f95_36 rfl k) ?_
    refine eq_ (fun _ k => ev_iald f95_37 (by assumption) (by omega) (by omega) k) ?_
    refine eq_ (fun _ k => ev_iconstN (n := 1) f95_38 k) ?_
    first | refine eq_ (fun _ k => ev_iaddN f95_39 k) ?_ | refine eq_ (fun _ k => ev_iadd f95_39 k) ?_
    refine eq_ (fun _ k => ev_v3 f95_40 ow94 (by assumption) rfl rfl rfl (Nat.le_of_ble_eq_true rfl) (k2) k) ?_
    refine eq_ifeqB (tgt := 50) f95_43 rfl (fun _ => ?_) (fun h9 => Bool.noConfusion (h9.symm.trans (rfl)))
    refine eq_ (fun _ k => ev_iconstN (n := 2) f95_50 k) ?_
    refine eq_putf f95_51 (by assumption) rfl (Nat.le_of_ble_eq_true rfl) (fun hs3 e3 => ?_)
    have m3 := m2.set39 (l2 := 2) e3
    have mm3 := m3
    obtain ⟨w1, w2, -⟩ := mm3
    refine eq_ (fun _ k => ev_aload_n f95_54 rfl k) ?_
    refine eq_ (fun _ k => ev_getf f95_55 (by assumption) rfl k) ?_
    refine eq_ifN (by omega) (tgt := 70) f95_58 rfl (fun _ => ?_) (fun h9 => absurd (by simp only [akN] at *; omega) h9)
    refine eq_ (fun _ k => ev_iconstN (n := 0) f95_70 k) ?_
    refine ⟨_, ev_iret f95_71 (rI rfl _) rfl, ?_⟩
    exact ⟨hs3, rfl, m3, (f1.tr f2).tr (Fr.st e3 (by omega) (by omega))⟩
theorem d96t (h : MS hs q g l) (hp : ¬ inR p0 4) : CrQ 96 [.ref 39, .int p0, .int key] hs (some (.int (nI false.toNat))) (MP hs q g 1) := by
  have a := h.1
  obtain ⟨hs1, k1, m1, f1⟩ := go_n h
  refine crq_mk ow96 (Nat.le_of_ble_eq_true rfl) ?_
  refine eq_ (fun _ k => ev_aload_n f96_0 rfl k) ?_
  refine eq_ (fun _ k => ev_iload_n f96_1 rfl k) ?_
  refine eq_ (fun _ k => ev_s1 f96_2 (by decide) ow80 rfl (Nat.le_of_ble_eq_true rfl) (c80n hp) k) ?_
  refine eq_ (fun _ k => ev_iconstN (n := 1) f96_5 k) ?_
  refine eq_ (fun _ k => ev_v2 f96_6 ow82 (by assumption) rfl rfl (Nat.le_of_ble_eq_true rfl) (k1) k) ?_
  refine eq_ifneB (tgt := 14) f96_9 rfl (fun h9 => Bool.noConfusion (h9.symm.trans (rfl))) (fun _ => ?_)
  refine eq_ (fun _ k => ev_iconstN (n := 0) f96_12 k) ?_
  first | refine ⟨_, ev_iret f96_13 (rZ rfl true) rfl, ?_⟩ | refine ⟨_, ev_iret f96_13 (rZ rfl false) rfl, ?_⟩ | refine ⟨_, ev_iret f96_13 (rZ rfl _) rfl, ?_⟩
  exact ⟨hs1, rfl, m1, f1⟩
theorem d96 (h : MS hs q g l) (hi : MI q g) (hf : f < 4) : CrQ 96 [.ref 39, .int (nI f), .int key] hs (some (.int (nI (decide (0 < g f (prN key))).toNat))) (MP hs q (updG g f (takN (g f) (prN key) 1)) 0) := by
  have hk := prN_lt key
  have a := h.1
  obtain ⟨hs1, k1, m1, f1⟩ := go_y h
  have e := ct (g := g) (f := f) hk
  obtain ⟨l1, l2⟩ := hi.le hf
  obtain ⟨o3, o8, o4, o5⟩ := hi f hf
  have l3 := l2 (prN key)
  have mm1 := m1
  obtain ⟨b1, b2, -⟩ := mm1
  refine crq_mk ow96 (Nat.le_of_ble_eq_true rfl) ?_
  by_cases h0 : 0 < g f (prN key)
  · obtain ⟨hs2, k2, m2, f2⟩ := c94 m1 hi hf (v := cnt16 g (4096 * f + prN key) - 1) hk (by omega)
    have e5 : updN (g f) (prN key) (cnt16 g (4096 * f + prN key) - 1) = takN (g f) (prN key) 1 := by
      rw [e]
      unfold takN
      rw [show min 1 (g f (prN key)) = 1 by omega]
    rw [e5] at k2 m2
    have hE : EE (takN (g f) (prN key) 1) 4096 * 8 ≤ 7 * 2 ^ q f := by
      have := EE_le (g1 := takN (g f) (prN key) 1) (g2 := g f) (fun k => by
        unfold takN updN
        split
        · rename_i w
          rw [w]
          omega
        · exact Nat.le_refl _) 4096
      omega
    rw [decide_eq_true hE] at k2
    rw [if_pos hE] at m2
    rw [decide_eq_true h0]
    have e6 : 0 < cnt16 g (4096 * f + prN key) := by rw [e]; exact h0
    have e7 : cnt16 g (4096 * f + prN key) ≤ 1568 := by rw [e]; exact l3
    refine eq_ (fun _ k => ev_aload_n f96_0 rfl k) ?_
    refine eq_ (fun _ k => ev_iload_n f96_1 rfl k) ?_
    refine eq_ (fun _ k => ev_s1 f96_2 (by decide) ow80 rfl (Nat.le_of_ble_eq_true rfl) (c80 hf) k) ?_
    refine eq_ (fun _ k => ev_iconstN (n := 1) f96_5 k) ?_
    refine eq_ (fun _ k => ev_v2 f96_6 ow82 (by assumption) rfl rfl (Nat.le_of_ble_eq_true rfl) (k1) k) ?_
    refine eq_ifneB (tgt := 14) f96_9 rfl (fun _ => ?_) (fun h9 => Bool.noConfusion (h9.symm.trans (rfl)))
    refine eq_ (fun _ k => ev_aload_n f96_14 rfl k) ?_
    refine eq_ (fun _ k => ev_getf f96_15 (by assumption) rfl k) ?_
    refine eq_ (fun _ k => ev_sipushN (n := 4096) (by decide +kernel) f96_18 k) ?_
    refine eq_ (fun _ k => ev_iload_n f96_21 rfl k) ?_
    first | refine eq_ (fun _ k => ev_imulN f96_22 k) ?_ | refine eq_ (fun _ k => ev_imul f96_22 k) ?_
    refine eq_ (fun _ k => ev_iload_n f96_23 rfl k) ?_
    refine eq_ (fun _ k => ev_s1 f96_24 (by decide) ow87 rfl (Nat.le_of_ble_eq_true rfl) (c87 key) k) ?_
    first | refine eq_ (fun _ k => ev_iaddN f96_27 k) ?_ | refine eq_ (fun _ k => ev_iadd f96_27 k) ?_
    refine eq_ (fun _ k => ev_iald f96_28 (by assumption) (by omega) (by omega) k) ?_
    refine eq_ (fun _ k => ev_istore_n f96_29 k) ?_
    refine eq_ (fun _ k => ev_iload_n f96_30 rfl k) ?_
    refine eq_ifN (by omega) (tgt := 53) f96_31 rfl (fun h9 => absurd h9 (by simp only [akN] at *; omega)) (fun _ => ?_)
    refine eq_ (fun _ k => ev_aload_n f96_34 rfl k) ?_
    refine eq_ (fun _ k => ev_iload_n f96_35 rfl k) ?_
    refine eq_ (fun _ k => ev_iload_n f96_36 rfl k) ?_
    refine eq_ (fun _ k => ev_s1 f96_37 (by decide) ow87 rfl (Nat.le_of_ble_eq_true rfl) (c87 key) k) ?_
    refine eq_ (fun _ k => ev_iload_n f96_40 rfl k) ?_
    refine eq_ (fun _ k => ev_iconstN (n := 1) f96_41 k) ?_
    refine eq_ (fun _ k => ev_isubN (by omega) f96_42 k) ?_
    refine eq_ (fun _ k => ev_v3 f96_43 ow94 (by assumption) rfl rfl rfl (Nat.le_of_ble_eq_true rfl) (k2) k) ?_
    refine eq_ifeqB (tgt := 53) f96_46 rfl (fun h9 => Bool.noConfusion (h9.symm.trans (rfl))) (fun _ => ?_)
    refine eq_ (fun _ k => ev_iconstN (n := 1) f96_49 k) ?_
    refine eq_ (fun _ k => ev_goto (tgt := 54) f96_50 rfl k) ?_
    first | refine ⟨_, ev_iret f96_54 (rZ rfl true) rfl, ?_⟩ | refine ⟨_, ev_iret f96_54 (rZ rfl false) rfl, ?_⟩ | refine ⟨_, ev_iret f96_54 (rZ rfl _) rfl, ?_⟩
    exact ⟨hs2, rfl, m2, f1.tr f2⟩
  · rw [decide_eq_false h0]
    have e6 : cnt16 g (4096 * f + prN key) = 0 := by rw [e]; omega
    have e8 : updG g f (takN (g f) (prN key) 1) = g := by
      unfold takN
      rw [show min 1 (g f (prN key)) = 0 by omega, Nat.sub_zero, updN_same, updG_same]
    rw [e8]
    refine eq_ (fun _ k => ev_aload_n f96_0 rfl k) ?_
    refine eq_ (fun _ k => ev_iload_n f96_1 rfl k) ?_
    refine eq_ (fun _ k => ev_s1 f96_2 (by decide) ow80 rfl (Nat.le_of_ble_eq_true rfl) (c80 hf) k) ?_
    refine eq_ (fun _ k => ev_iconstN (n := 1) f96_5 k) ?_
    refine eq_ (fun _ k => ev_v2 f96_6 ow82 (by assumption) rfl rfl (Nat.le_of_ble_eq_true rfl) (k1) k) ?_
    refine eq_ifneB (tgt := 14) f96_9 rfl (fun _ => ?_) (fun h9 => Bool.noConfusion (h9.symm.trans (rfl)))
    refine eq_ (fun _ k => ev_aload_n f96_14 rfl k) ?_
    refine eq_ (fun _ k => ev_getf f96_15 (by assumption) rfl k) ?_
    refine eq_ (fun _ k => ev_sipushN (n := 4096) (by decide +kernel) f96_18 k) ?_
    refine eq_ (fun _ k => ev_iload_n f96_21 rfl k) ?_
    first | refine eq_ (fun _ k => ev_imulN f96_22 k) ?_ | refine eq_ (fun _ k => ev_imul f96_22 k) ?_
    refine eq_ (fun _ k => ev_iload_n f96_23 rfl k) ?_
    refine eq_ (fun _ k => ev_s1 f96_24 (by decide) ow87 rfl (Nat.le_of_ble_eq_true rfl) (c87 key) k) ?_
    first | refine eq_ (fun _ k => ev_iaddN f96_27 k) ?_ | refine eq_ (fun _ k => ev_iadd f96_27 k) ?_
    refine eq_ (fun _ k => ev_iald f96_28 (by assumption) (by omega) (by omega) k) ?_
    refine eq_ (fun _ k => ev_istore_n f96_29 k) ?_
    refine eq_ (fun _ k => ev_iload_n f96_30 rfl k) ?_
    refine eq_ifN (by omega) (tgt := 53) f96_31 rfl (fun _ => ?_) (fun h9 => absurd (by simp only [akN] at *; omega) h9)
    refine eq_ (fun _ k => ev_iconstN (n := 0) f96_53 k) ?_
    first | refine ⟨_, ev_iret f96_54 (rZ rfl true) rfl, ?_⟩ | refine ⟨_, ev_iret f96_54 (rZ rfl false) rfl, ?_⟩ | refine ⟨_, ev_iret f96_54 (rZ rfl _) rfl, ?_⟩
    exact ⟨hs1, rfl, m1, f1⟩
theorem d97t (h : MS hs q g l) (hp : ¬ inR p0 4) : CrQ 97 [.ref 39, .int p0, .int key] hs (some (.int (nI 0))) (MP hs q g 1) := by
  have a := h.1
  obtain ⟨hs1, k1, m1, f1⟩ := go_n h
  refine crq_mk ow97 (Nat.le_of_ble_eq_true rfl) ?_
  refine eq_ (fun _ k => ev_aload_n f97_0 rfl k) ?_
  refine eq_ (fun _ k => ev_iload_n f97_1 rfl k) ?_
  refine eq_ (fun _ k => ev_s1 f97_2 (by decide) ow80 rfl (Nat.le_of_ble_eq_true rfl) (c80n hp) k) ?_
  refine eq_ (fun _ k => ev_iconstN (n := 1) f97_5 k) ?_
  refine eq_ (fun _ k => ev_v2 f97_6 ow82 (by assumption) rfl rfl (Nat.le_of_ble_eq_true rfl) (k1) k) ?_
  refine eq_ifeqB (tgt := 30) f97_9 rfl (fun _ => ?_) (fun h9 => Bool.noConfusion (h9.symm.trans (rfl)))
  refine eq_ (fun _ k => ev_iconstN (n := 0) f97_30 k) ?_
  refine ⟨_, ev_iret f97_31 (rI rfl _) rfl, ?_⟩
  exact ⟨hs1, rfl, m1, f1⟩
theorem d97 (h : MS hs q g l) (hf : f < 4) : CrQ 97 [.ref 39, .int (nI f), .int key] hs (some (.int (nI (g f (prN key))))) (MP hs q g 0) := by
  have hk := prN_lt key
  have a := h.1
  obtain ⟨hs1, k1, m1, f1⟩ := go_y h
  rw [← ct (g := g) (f := f) hk]
  have mm1 := m1
  obtain ⟨b1, b2, -⟩ := mm1
  refine crq_mk ow97 (Nat.le_of_ble_eq_true rfl) ?_
  refine eq_ (fun _ k => ev_aload_n f97_0 rfl k) ?_
  refine eq_ (fun _ k => ev_iload_n f97_1 rfl k) ?_
  refine eq_ (fun _ k => ev_s1 f97_2 (by decide) ow80 rfl (Nat.le_of_ble_eq_true rfl) (c80 hf) k) ?_
  refine eq_ (fun _ k => ev_iconstN (n := 1) f97_5 k) ?_
  refine eq_ (fun _ k => ev_v2 f97_6 ow82 (by assumption) rfl rfl (Nat.le_of_ble_eq_true rfl) (k1) k) ?_
  refine eq_ifeqB (tgt := 30) f97_9 rfl (fun h9 => Bool.noConfusion (h9.symm.trans (rfl))) (fun _ => ?_)
  refine eq_ (fun _ k => ev_aload_n f97_12 rfl k) ?_
  refine eq_ (fun _ k => ev_getf f97_13 (by assumption) rfl k) ?_
  refine eq_ (fun _ k => ev_sipushN (n := 4096) (by decide +kernel) f97_16 k) ?_
  refine eq_ (fun _ k => ev_iload_n f97_19 rfl k) ?_
  first | refine eq_ (fun _ k => ev_imulN f97_20 k) ?_ | refine eq_ (fun _ k => ev_imul f97_20 k) ?_
  refine eq_ (fun _ k => ev_iload_n f97_21 rfl k) ?_
  refine eq_ (fun _ k => ev_s1 f97_22 (by decide) ow87 rfl (Nat.le_of_ble_eq_true rfl) (c87 key) k) ?_
  first | refine eq_ (fun _ k => ev_iaddN f97_25 k) ?_ | refine eq_ (fun _ k => ev_iadd f97_25 k) ?_
  refine eq_ (fun _ k => ev_iald f97_26 (by assumption) (by omega) (by omega) k) ?_
  refine eq_ (fun _ k => ev_goto (tgt := 31) f97_27 rfl k) ?_
  refine ⟨_, ev_iret f97_31 (rI rfl _) rfl, ?_⟩
  exact ⟨hs1, rfl, m1, f1⟩
end MO
