/-! the model's whole filters; rows laid by wip/whole/walk.py -/
theorem updG_at (g : Nat → Nat → Nat) (f : Nat) (a : Nat → Nat) : updG g f a f = a := if_pos rfl
theorem updG_ne (g : Nat → Nat → Nat) {f j : Nat} (a : Nat → Nat) (h : ¬ j = f) : updG g f a j = g j := if_neg h
theorem updG_2 (g : Nat → Nat → Nat) (f : Nat) (a b : Nat → Nat) : updG (updG g f a) f b = updG g f b := by
  funext j
  unfold updG
  split <;> rfl
section MO
variable {hs : amH} {q : Nat → Nat} {g : Nat → Nat → Nat} {l f e k : Nat} {p0 v1 v2 key : Int32}
theorem EvQ.mp {M pc : Nat} {ls : amL} {st : List Value} {hs1 : amH} {v : Option Value} {l2 : Nat} (h : EvQ M pc ls st hs1 0 0 (Rt v (MP hs1 q g l2))) (f1 : Fr hs hs1 39 47) : EvQ M pc ls st hs1 0 0 (Rt v (MP hs q g l2)) := by
  obtain ⟨o, o1, hs2, o2, o3, o4⟩ := h
  exact ⟨o, o1, hs2, o2, o3, f1.tr o4⟩
theorem d103t (h : MS hs q g l) (hp : ¬ inR p0 4) : CrQ 103 [.ref 39, .int p0] hs none (MP hs q g 1) := by
  have a := h.1
  obtain ⟨hs1, k1, m1, f1⟩ := go_n h
  refine crq_mk ow103 (Nat.le_of_ble_eq_true rfl) ?_
  refine eq_ (fun _ k => ev_aload_n f103_0 rfl k) ?_
  refine eq_ (fun _ k => ev_iload_n f103_1 rfl k) ?_
  refine eq_ (fun _ k => ev_s1 f103_2 (by decide) ow80 rfl (Nat.le_of_ble_eq_true rfl) (c80n hp) k) ?_
  refine eq_ (fun _ k => ev_iconstN (n := 1) f103_5 k) ?_
  refine eq_ (fun _ k => ev_v2 f103_6 ow82 (by assumption) rfl rfl (Nat.le_of_ble_eq_true rfl) (k1) k) ?_
  refine eq_ (fun _ k => ev_istore_n f103_9 k) ?_
  refine eq_ (fun _ k => ev_iconstN (n := 0) f103_10 k) ?_
  refine eq_ (fun _ k => ev_istore_n f103_11 k) ?_
  refine eq_ (fun _ k => ev_iload_n f103_12 rfl k) ?_
  refine eq_ (fun _ k => ev_sipushN (n := 4096) (by decide +kernel) f103_13 k) ?_
  refine eq_icN (by omega) (by omega) (tgt := 42) f103_16 rfl (fun h9 => absurd h9 (by simp only [akN] at *; omega)) (fun _ => ?_)
  refine eq_ (fun _ k => ev_iload_n f103_19 rfl k) ?_
  refine eq_ifeqB (tgt := 42) f103_20 rfl (fun _ => ?_) (fun h9 => Bool.noConfusion (h9.symm.trans (rfl)))
  refine ⟨_, ev_vret f103_42 rfl, ?_⟩
  exact ⟨hs1, rfl, m1, f1⟩
theorem l103 (hf : f < 4) : ∀ (d k : Nat) (hs : amH), k + d = 4096 → MS hs q (updG g f (wpN (g f) k)) 0 → EvQ 103 12 [some (.ref 39), some (.int (nI f)), some (.int (nI true.toNat)), some (.int (nI k))] [] hs 0 0 (Rt none (MP hs q (updG g f (wpN (g f) 4096)) 0)) := by
  intro d
  induction d with
  | zero =>
    intro k hs hk h
    have hk2 : k = 4096 := by omega
    subst hk2
    refine eq_ (fun _ k => ev_iload_n f103_12 rfl k) ?_
    refine eq_ (fun _ k => ev_sipushN (n := 4096) (by decide +kernel) f103_13 k) ?_
    refine eq_icN (by omega) (by omega) (tgt := 42) f103_16 rfl (fun _ => ?_) (fun h9 => absurd (by simp only [akN] at *; omega) h9)
    refine ⟨_, ev_vret f103_42 rfl, ?_⟩
    exact ⟨hs, rfl, h, Fr.refl⟩
  | succ d ih =>
    intro k hs hk h
    have h9 := h
    obtain ⟨a, b, -⟩ := h
    refine eq_ (fun _ k => ev_iload_n f103_12 rfl k) ?_
    refine eq_ (fun _ k => ev_sipushN (n := 4096) (by decide +kernel) f103_13 k) ?_
    refine eq_icN (by omega) (by omega) (tgt := 42) f103_16 rfl (fun h9 => absurd h9 (by simp only [akN] at *; omega)) (fun _ => ?_)
    refine eq_ (fun _ k => ev_iload_n f103_19 rfl k) ?_
    refine eq_ifeqB (tgt := 42) f103_20 rfl (fun h9 => Bool.noConfusion (h9.symm.trans (rfl))) (fun _ => ?_)
    refine eq_ (fun _ k => ev_aload_n f103_23 rfl k) ?_
    refine eq_ (fun _ k => ev_getf f103_24 (by assumption) rfl k) ?_
    refine eq_ (fun _ k => ev_sipushN (n := 4096) (by decide +kernel) f103_27 k) ?_
    refine eq_ (fun _ k => ev_iload_n f103_30 rfl k) ?_
    first | refine eq_ (fun _ k => ev_imulN f103_31 k) ?_ | refine eq_ (fun _ k => ev_imul f103_31 k) ?_
    refine eq_ (fun _ k => ev_iload_n f103_32 rfl k) ?_
    first | refine eq_ (fun _ k => ev_iaddN f103_33 k) ?_ | refine eq_ (fun _ k => ev_iadd f103_33 k) ?_
    refine eq_ (fun _ k => ev_iconstN (n := 0) f103_34 k) ?_
    refine eq_iast f103_35 (by assumption) (by omega) (by omega) (by omega) (fun hs1 e1 => ?_)
    refine eq_ (fun _ k => ev_iincN f103_36 rfl k) ?_
    refine eq_ (fun _ k => ev_goto (tgt := 12) f103_39 rfl k) ?_
    have m1 := h9.set40 (f := f) (k := k) (v := 0) (by omega) e1
    rw [updG_at, updG_2, wpN_s] at m1
    exact (ih (k + 1) hs1 (by omega) m1).mp (Fr.st e1 (by omega) (by omega))
theorem d103 (h : MS hs q g l) (hi : MI q g) (hf : f < 4) : CrQ 103 [.ref 39, .int (nI f)] hs none (MP hs q (updG g f (fun _ => 0)) 0) := by
  have a := h.1
  obtain ⟨hs1, k1, m1, f1⟩ := go_y h
  have ew : wpN (g f) 4096 = fun _ => 0 := by
    funext j
    unfold wpN
    split
    · rfl
    · exact (hi f hf).2.2.2 j (by omega)
  have m2 : MS hs1 q (updG g f (wpN (g f) 0)) 0 := by
    rw [show wpN (g f) 0 = g f from rfl, updG_same]
    exact m1
  have r := (l103 hf 4096 0 hs1 rfl m2).mp f1
  rw [ew] at r
  refine crq_mk ow103 (Nat.le_of_ble_eq_true rfl) ?_
  refine eq_ (fun _ k => ev_aload_n f103_0 rfl k) ?_
  refine eq_ (fun _ k => ev_iload_n f103_1 rfl k) ?_
  refine eq_ (fun _ k => ev_s1 f103_2 (by decide) ow80 rfl (Nat.le_of_ble_eq_true rfl) (c80 hf) k) ?_
  refine eq_ (fun _ k => ev_iconstN (n := 1) f103_5 k) ?_
  refine eq_ (fun _ k => ev_v2 f103_6 ow82 (by assumption) rfl rfl (Nat.le_of_ble_eq_true rfl) (k1) k) ?_
  refine eq_ (fun _ k => ev_istore_n f103_9 k) ?_
  refine eq_ (fun _ k => ev_iconstN (n := 0) f103_10 k) ?_
  refine eq_ (fun _ k => ev_istore_n f103_11 k) ?_
  exact r
theorem d104t (h : MS hs q g l) (hp : ¬ inR p0 4) : CrQ 104 [.ref 39, .int p0] hs (some (.int (nI 0))) (MP hs q g 1) := by
  have a := h.1
  obtain ⟨hs1, k1, m1, f1⟩ := c82 h false false
  refine crq_mk ow104 (Nat.le_of_ble_eq_true rfl) ?_
  refine eq_ (fun _ k => ev_iload_n f104_0 rfl k) ?_
  refine eq_ (fun _ k => ev_s1 f104_1 (by decide) ow80 rfl (Nat.le_of_ble_eq_true rfl) (c80n hp) k) ?_
  refine eq_ (fun _ k => ev_istore_n f104_4 k) ?_
  refine eq_ (fun _ k => ev_aload_n f104_5 rfl k) ?_
  refine eq_ (fun _ k => ev_iload_n f104_6 rfl k) ?_
  refine eq_ (fun _ k => ev_iload_n f104_7 rfl k) ?_
  refine eq_ifeqB (tgt := 26) f104_8 rfl (fun _ => ?_) (fun h9 => Bool.noConfusion (h9.symm.trans (rfl)))
  refine eq_ (fun _ k => ev_iconstN (n := 0) f104_26 k) ?_
  refine eq_ (fun _ k => ev_v2 f104_27 ow82 (by assumption) rfl rfl (Nat.le_of_ble_eq_true rfl) (k1) k) ?_
  refine eq_ifneB (tgt := 35) f104_30 rfl (fun h9 => Bool.noConfusion (h9.symm.trans (rfl))) (fun _ => ?_)
  refine eq_ (fun _ k => ev_iconstN (n := 0) f104_33 k) ?_
  refine ⟨_, ev_iret f104_34 (rI rfl _) rfl, ?_⟩
  exact ⟨hs1, rfl, m1, f1⟩
theorem d104 (h : MS hs q g l) (hi : MI q g) (hf : f < 4) : CrQ 104 [.ref 39, .int (nI f)] hs (some (.int (nI (if q f < 8 then 2 ^ (q f + 1) else 0)))) (MP hs (if q f < 8 then updN q f (q f + 1) else q) g (if q f < 8 then 0 else 2)) := by
  have h9 := h
  obtain ⟨a, b, c, -⟩ := h
  obtain ⟨o3, o8, o4, o5⟩ := hi f hf
  refine crq_mk ow104 (Nat.le_of_ble_eq_true rfl) ?_
  by_cases hq : q f < 8
  · obtain ⟨hs1, k1, m1, f1⟩ := c82 h9 true true
    have mm1 := m1
    obtain ⟨b1, b2, b3, -⟩ := mm1
    rw [if_pos hq, if_pos hq, if_pos hq]
    refine eq_ (fun _ k => ev_iload_n f104_0 rfl k) ?_
    refine eq_ (fun _ k => ev_s1 f104_1 (by decide) ow80 rfl (Nat.le_of_ble_eq_true rfl) (c80 hf) k) ?_
    refine eq_ (fun _ k => ev_istore_n f104_4 k) ?_
    refine eq_ (fun _ k => ev_aload_n f104_5 rfl k) ?_
    refine eq_ (fun _ k => ev_iload_n f104_6 rfl k) ?_
    refine eq_ (fun _ k => ev_iload_n f104_7 rfl k) ?_
    refine eq_ifeqB (tgt := 26) f104_8 rfl (fun h9 => Bool.noConfusion (h9.symm.trans (rfl))) (fun _ => ?_)
    refine eq_ (fun _ k => ev_aload_n f104_11 rfl k) ?_
    refine eq_ (fun _ k => ev_getf f104_12 (by assumption) rfl k) ?_
    refine eq_ (fun _ k => ev_iload_n f104_15 rfl k) ?_
    refine eq_ (fun _ k => ev_iald f104_16 (by assumption) (by omega) (by omega) k) ?_
    refine eq_ (fun _ k => ev_bipushN (n := 8) (by omega) f104_17 k) ?_
    refine eq_icN (by omega) (by omega) (tgt := 26) f104_19 rfl (fun h9 => absurd h9 (by simp only [akN] at *; omega)) (fun _ => ?_)
    refine eq_ (fun _ k => ev_iconstN (n := 1) f104_22 k) ?_
    refine eq_ (fun _ k => ev_goto (tgt := 27) f104_23 rfl k) ?_
    refine eq_ (fun _ k => ev_v2 f104_27 ow82 (by assumption) rfl rfl (Nat.le_of_ble_eq_true rfl) (k1) k) ?_
    refine eq_ifneB (tgt := 35) f104_30 rfl (fun _ => ?_) (fun h9 => Bool.noConfusion (h9.symm.trans (rfl)))
    refine eq_ (fun _ k => ev_aload_n f104_35 rfl k) ?_
    refine eq_ (fun _ k => ev_getf f104_36 (by assumption) rfl k) ?_
    refine eq_ (fun _ k => ev_iload_n f104_39 rfl k) ?_
    refine eq_ (fun _ k => ev_dup2 f104_40 rfl rfl k) ?_
    refine eq_ (fun _ k => ev_iald f104_41 (by assumption) (by omega) (by omega) k) ?_
    refine eq_ (fun _ k => ev_iconstN (n := 1) f104_42 k) ?_
    first | refine eq_ (fun _ k => ev_iaddN f104_43 k) ?_ | refine eq_ (fun _ k => ev_iadd f104_43 k) ?_
    refine eq_iast f104_44 (by assumption) (by omega) (by omega) (by omega) (fun hs2 e2 => ?_)
    have m2 := m1.set41 e2
    have mm2 := m2
    obtain ⟨w1, -⟩ := mm2
    have k3 := c83 m2 hf (by rw [updN_at]; omega)
    rw [updN_at] at k3
    refine eq_ (fun _ k => ev_aload_n f104_45 rfl k) ?_
    refine eq_ (fun _ k => ev_iload_n f104_46 rfl k) ?_
    refine eq_ (fun _ k => ev_v1 f104_47 ow83 (by assumption) rfl (Nat.le_of_ble_eq_true rfl) (k3) k) ?_
    refine ⟨_, ev_iret f104_50 (rI rfl _) rfl, ?_⟩
    exact ⟨hs2, rfl, m2, f1.tr (Fr.st e2 (by omega) (by omega))⟩
  · obtain ⟨hs1, k1, m1, f1⟩ := c82 h9 true false
    rw [if_neg hq, if_neg hq, if_neg hq]
    refine eq_ (fun _ k => ev_iload_n f104_0 rfl k) ?_
    refine eq_ (fun _ k => ev_s1 f104_1 (by decide) ow80 rfl (Nat.le_of_ble_eq_true rfl) (c80 hf) k) ?_
    refine eq_ (fun _ k => ev_istore_n f104_4 k) ?_
    refine eq_ (fun _ k => ev_aload_n f104_5 rfl k) ?_
    refine eq_ (fun _ k => ev_iload_n f104_6 rfl k) ?_
    refine eq_ (fun _ k => ev_iload_n f104_7 rfl k) ?_
    refine eq_ifeqB (tgt := 26) f104_8 rfl (fun h9 => Bool.noConfusion (h9.symm.trans (rfl))) (fun _ => ?_)
    refine eq_ (fun _ k => ev_aload_n f104_11 rfl k) ?_
    refine eq_ (fun _ k => ev_getf f104_12 (by assumption) rfl k) ?_
    refine eq_ (fun _ k => ev_iload_n f104_15 rfl k) ?_
    refine eq_ (fun _ k => ev_iald f104_16 (by assumption) (by omega) (by omega) k) ?_
    refine eq_ (fun _ k => ev_bipushN (n := 8) (by omega) f104_17 k) ?_
    refine eq_icN (by omega) (by omega) (tgt := 26) f104_19 rfl (fun _ => ?_) (fun h9 => absurd (by simp only [akN] at *; omega) h9)
    refine eq_ (fun _ k => ev_iconstN (n := 0) f104_26 k) ?_
    refine eq_ (fun _ k => ev_v2 f104_27 ow82 (by assumption) rfl rfl (Nat.le_of_ble_eq_true rfl) (k1) k) ?_
    refine eq_ifneB (tgt := 35) f104_30 rfl (fun h9 => Bool.noConfusion (h9.symm.trans (rfl))) (fun _ => ?_)
    refine eq_ (fun _ k => ev_iconstN (n := 0) f104_33 k) ?_
    refine ⟨_, ev_iret f104_34 (rI rfl _) rfl, ?_⟩
    exact ⟨hs1, rfl, m1, f1⟩
theorem d105t (h : MS hs q g l) (hp : ¬ inR p0 4) : CrQ 105 [.ref 39, .int p0] hs (some (.int (nI 0))) (MP hs q g 1) := by
  have a := h.1
  obtain ⟨hs1, k1, m1, f1⟩ := c82 h false false
  refine crq_mk ow105 (Nat.le_of_ble_eq_true rfl) ?_
  refine eq_ (fun _ k => ev_iload_n f105_0 rfl k) ?_
  refine eq_ (fun _ k => ev_s1 f105_1 (by decide) ow80 rfl (Nat.le_of_ble_eq_true rfl) (c80n hp) k) ?_
  refine eq_ (fun _ k => ev_istore_n f105_4 k) ?_
  refine eq_ (fun _ k => ev_aload_n f105_5 rfl k) ?_
  refine eq_ (fun _ k => ev_iload_n f105_6 rfl k) ?_
  refine eq_ (fun _ k => ev_iload_n f105_7 rfl k) ?_
  refine eq_ifeqB (tgt := 43) f105_8 rfl (fun _ => ?_) (fun h9 => Bool.noConfusion (h9.symm.trans (rfl)))
  refine eq_ (fun _ k => ev_iconstN (n := 0) f105_43 k) ?_
  refine eq_ (fun _ k => ev_v2 f105_44 ow82 (by assumption) rfl rfl (Nat.le_of_ble_eq_true rfl) (k1) k) ?_
  refine eq_ifneB (tgt := 52) f105_47 rfl (fun h9 => Bool.noConfusion (h9.symm.trans (rfl))) (fun _ => ?_)
  refine eq_ (fun _ k => ev_iconstN (n := 0) f105_50 k) ?_
  refine ⟨_, ev_iret f105_51 (rI rfl _) rfl, ?_⟩
  exact ⟨hs1, rfl, m1, f1⟩
theorem d105 (h : MS hs q g l) (hi : MI q g) (hf : f < 4) : CrQ 105 [.ref 39, .int (nI f)] hs (some (.int (nI (if 3 < q f ∧ EE (g f) 4096 * 8 ≤ 7 * 2 ^ (q f - 1) then 2 ^ (q f - 1) else 0)))) (MP hs (if 3 < q f ∧ EE (g f) 4096 * 8 ≤ 7 * 2 ^ (q f - 1) then updN q f (q f - 1) else q) g (if 3 < q f ∧ EE (g f) 4096 * 8 ≤ 7 * 2 ^ (q f - 1) then 0 else 2)) := by
  have h9 := h
  obtain ⟨a, b, c, -⟩ := h
  obtain ⟨o3, o8, o4, o5⟩ := hi f hf
  obtain ⟨l1, l2⟩ := hi.le hf
  obtain ⟨p1, p2⟩ := am_pow o3 o8
  refine crq_mk ow105 (Nat.le_of_ble_eq_true rfl) ?_
  by_cases hq : 3 < q f
  · have e2 : 2 ^ q f / 2 = 2 ^ (q f - 1) := by
      have : 2 ^ q f = 2 ^ (q f - 1) * 2 := by rw [← Nat.pow_succ, show (q f - 1).succ = q f by omega]
      omega
    have k86 := c86 (hs := hs) (a := EE (g f) 4096) (n := 2 ^ q f / 2) (by omega) (by omega)
    rw [e2, show decide (EE (g f) 4096 ≤ 2 ^ (q f - 1) / 8 * 7) = decide (EE (g f) 4096 * 8 ≤ 7 * 2 ^ (q f - 1)) from decide_eq_decide.mpr (am_rm (by omega) (by omega)), ← e2] at k86
    rw [e2] at k86
    rw [← e2] at k86
    by_cases hE : EE (g f) 4096 * 8 ≤ 7 * 2 ^ (q f - 1)
    · obtain ⟨hs1, k1, m1, f1⟩ := c82 h9 true true
      have mm1 := m1
      obtain ⟨b1, b2, b3, -⟩ := mm1
      rw [e2, decide_eq_true hE, ← e2] at k86
      rw [if_pos ⟨hq, hE⟩, if_pos ⟨hq, hE⟩, if_pos ⟨hq, hE⟩]
      refine eq_ (fun _ k => ev_iload_n f105_0 rfl k) ?_
      refine eq_ (fun _ k => ev_s1 f105_1 (by decide) ow80 rfl (Nat.le_of_ble_eq_true rfl) (c80 hf) k) ?_
      refine eq_ (fun _ k => ev_istore_n f105_4 k) ?_
      refine eq_ (fun _ k => ev_aload_n f105_5 rfl k) ?_
      refine eq_ (fun _ k => ev_iload_n f105_6 rfl k) ?_
      refine eq_ (fun _ k => ev_iload_n f105_7 rfl k) ?_
      refine eq_ifeqB (tgt := 43) f105_8 rfl (fun h9 => Bool.noConfusion (h9.symm.trans (rfl))) (fun _ => ?_)
      refine eq_ (fun _ k => ev_aload_n f105_11 rfl k) ?_
      refine eq_ (fun _ k => ev_getf f105_12 (by assumption) rfl k) ?_
      refine eq_ (fun _ k => ev_iload_n f105_15 rfl k) ?_
      refine eq_ (fun _ k => ev_iald f105_16 (by assumption) (by omega) (by omega) k) ?_
      refine eq_ (fun _ k => ev_iconstN (n := 3) f105_17 k) ?_
      refine eq_icN (by omega) (by omega) (tgt := 43) f105_18 rfl (fun h9 => absurd h9 (by simp only [akN] at *; omega)) (fun _ => ?_)
      refine eq_ (fun _ k => ev_aload_n f105_21 rfl k) ?_
      refine eq_ (fun _ k => ev_iload_n f105_22 rfl k) ?_
      refine eq_ (fun _ k => ev_v1 f105_23 ow85 (by assumption) rfl (Nat.le_of_ble_eq_true rfl) (c85 h9 hf l2 (by omega)) k) ?_
      refine eq_ (fun _ k => ev_aload_n f105_26 rfl k) ?_
      refine eq_ (fun _ k => ev_iload_n f105_27 rfl k) ?_
      refine eq_ (fun _ k => ev_v1 f105_28 ow83 (by assumption) rfl (Nat.le_of_ble_eq_true rfl) (c83 h9 hf o8) k) ?_
      refine eq_ (fun _ k => ev_iconstN (n := 2) f105_31 k) ?_
      refine eq_ (fun _ k => ev_idivN (by omega) (by omega) (by omega) f105_32 k) ?_
      refine eq_ (fun _ k => ev_s2 f105_33 (by decide) ow86 rfl rfl (Nat.le_of_ble_eq_true rfl) (k86) k) ?_
      refine eq_ifeqB (tgt := 43) f105_36 rfl (fun h9 => Bool.noConfusion (h9.symm.trans (rfl))) (fun _ => ?_)
      refine eq_ (fun _ k => ev_iconstN (n := 1) f105_39 k) ?_
      refine eq_ (fun _ k => ev_goto (tgt := 44) f105_40 rfl k) ?_
      refine eq_ (fun _ k => ev_v2 f105_44 ow82 (by assumption) rfl rfl (Nat.le_of_ble_eq_true rfl) (k1) k) ?_
      refine eq_ifneB (tgt := 52) f105_47 rfl (fun _ => ?_) (fun h9 => Bool.noConfusion (h9.symm.trans (rfl)))
      refine eq_ (fun _ k => ev_aload_n f105_52 rfl k) ?_
      refine eq_ (fun _ k => ev_getf f105_53 (by assumption) rfl k) ?_
      refine eq_ (fun _ k => ev_iload_n f105_56 rfl k) ?_
      refine eq_ (fun _ k => ev_dup2 f105_57 rfl rfl k) ?_
      refine eq_ (fun _ k => ev_iald f105_58 (by assumption) (by omega) (by omega) k) ?_
      refine eq_ (fun _ k => ev_iconstN (n := 1) f105_59 k) ?_
      refine eq_ (fun _ k => ev_isubN (by omega) f105_60 k) ?_
      refine eq_iast f105_61 (by assumption) (by omega) (by omega) (by omega) (fun hs2 e3 => ?_)
      have m2 := m1.set41 e3
      have mm2 := m2
      obtain ⟨w1, -⟩ := mm2
      have k3 := c83 m2 hf (by rw [updN_at]; omega)
      rw [updN_at] at k3
      refine eq_ (fun _ k => ev_aload_n f105_62 rfl k) ?_
      refine eq_ (fun _ k => ev_iload_n f105_63 rfl k) ?_
      refine eq_ (fun _ k => ev_v1 f105_64 ow83 (by assumption) rfl (Nat.le_of_ble_eq_true rfl) (k3) k) ?_
      refine ⟨_, ev_iret f105_67 (rI rfl _) rfl, ?_⟩
      exact ⟨hs2, rfl, m2, f1.tr (Fr.st e3 (by omega) (by omega))⟩
    · obtain ⟨hs1, k1, m1, f1⟩ := c82 h9 true false
      rw [e2, decide_eq_false hE, ← e2] at k86
      rw [if_neg (fun w => hE w.2), if_neg (fun w => hE w.2), if_neg (fun w => hE w.2)]
      refine eq_ (fun _ k => ev_iload_n f105_0 rfl k) ?_
      refine eq_ (fun _ k => ev_s1 f105_1 (by decide) ow80 rfl (Nat.le_of_ble_eq_true rfl) (c80 hf) k) ?_
      refine eq_ (fun _ k => ev_istore_n f105_4 k) ?_
      refine eq_ (fun _ k => ev_aload_n f105_5 rfl k) ?_
      refine eq_ (fun _ k => ev_iload_n f105_6 rfl k) ?_
      refine eq_ (fun _ k => ev_iload_n f105_7 rfl k) ?_
      refine eq_ifeqB (tgt := 43) f105_8 rfl (fun h9 => Bool.noConfusion (h9.symm.trans (rfl))) (fun _ => ?_)
      refine eq_ (fun _ k => ev_aload_n f105_11 rfl k) ?_
      refine eq_ (fun _ k => ev_getf f105_12 (by assumption) rfl k) ?_
      refine eq_ (fun _ k => ev_iload_n f105_15 rfl k) ?_
      refine eq_ (fun _ k => ev_iald f105_16 (by assumption) (by omega) (by omega) k) ?_
      refine eq_ (fun _ k => ev_iconstN (n := 3) f105_17 k) ?_
      refine eq_icN (by omega) (by omega) (tgt := 43) f105_18 rfl (fun h9 => absurd h9 (by simp only [akN] at *; omega)) (fun _ => ?_)
      refine eq_ (fun _ k => ev_aload_n f105_21 rfl k) ?_
      refine eq_ (fun _ k => ev_iload_n f105_22 rfl k) ?_
      refine eq_ (fun _ k => ev_v1 f105_23 ow85 (by assumption) rfl (Nat.le_of_ble_eq_true rfl) (c85 h9 hf l2 (by omega)) k) ?_
      refine eq_ (fun _ k => ev_aload_n f105_26 rfl k) ?_
      refine eq_ (fun _ k => ev_iload_n f105_27 rfl k) ?_
      refine eq_ (fun _ k => ev_v1 f105_28 ow83 (by assumption) rfl (Nat.le_of_ble_eq_true rfl) (c83 h9 hf o8) k) ?_
      refine eq_ (fun _ k => ev_iconstN (n := 2) f105_31 k) ?_
      refine eq_ (fun _ k => ev_idivN (by omega) (by omega) (by omega) f105_32 k) ?_
      refine eq_ (fun _ k => ev_s2 f105_33 (by decide) ow86 rfl rfl (Nat.le_of_ble_eq_true rfl) (k86) k) ?_
      refine eq_ifeqB (tgt := 43) f105_36 rfl (fun _ => ?_) (fun h9 => Bool.noConfusion (h9.symm.trans (rfl)))
      refine eq_ (fun _ k => ev_iconstN (n := 0) f105_43 k) ?_
      refine eq_ (fun _ k => ev_v2 f105_44 ow82 (by assumption) rfl rfl (Nat.le_of_ble_eq_true rfl) (k1) k) ?_
      refine eq_ifneB (tgt := 52) f105_47 rfl (fun h9 => Bool.noConfusion (h9.symm.trans (rfl))) (fun _ => ?_)
      refine eq_ (fun _ k => ev_iconstN (n := 0) f105_50 k) ?_
      refine ⟨_, ev_iret f105_51 (rI rfl _) rfl, ?_⟩
      exact ⟨hs1, rfl, m1, f1⟩
  · obtain ⟨hs1, k1, m1, f1⟩ := c82 h9 true false
    rw [if_neg (fun w => hq w.1), if_neg (fun w => hq w.1), if_neg (fun w => hq w.1)]
    refine eq_ (fun _ k => ev_iload_n f105_0 rfl k) ?_
    refine eq_ (fun _ k => ev_s1 f105_1 (by decide) ow80 rfl (Nat.le_of_ble_eq_true rfl) (c80 hf) k) ?_
    refine eq_ (fun _ k => ev_istore_n f105_4 k) ?_
    refine eq_ (fun _ k => ev_aload_n f105_5 rfl k) ?_
    refine eq_ (fun _ k => ev_iload_n f105_6 rfl k) ?_
    refine eq_ (fun _ k => ev_iload_n f105_7 rfl k) ?_
    refine eq_ifeqB (tgt := 43) f105_8 rfl (fun h9 => Bool.noConfusion (h9.symm.trans (rfl))) (fun _ => ?_)
    refine eq_ (fun _ k => ev_aload_n f105_11 rfl k) ?_
    refine eq_ (fun _ k => ev_getf f105_12 (by assumption) rfl k) ?_
    refine eq_ (fun _ k => ev_iload_n f105_15 rfl k) ?_
    refine eq_ (fun _ k => ev_iald f105_16 (by assumption) (by omega) (by omega) k) ?_
    refine eq_ (fun _ k => ev_iconstN (n := 3) f105_17 k) ?_
    refine eq_icN (by omega) (by omega) (tgt := 43) f105_18 rfl (fun _ => ?_) (fun h9 => absurd (by simp only [akN] at *; omega) h9)
    refine eq_ (fun _ k => ev_iconstN (n := 0) f105_43 k) ?_
    refine eq_ (fun _ k => ev_v2 f105_44 ow82 (by assumption) rfl rfl (Nat.le_of_ble_eq_true rfl) (k1) k) ?_
    refine eq_ifneB (tgt := 52) f105_47 rfl (fun h9 => Bool.noConfusion (h9.symm.trans (rfl))) (fun _ => ?_)
    refine eq_ (fun _ k => ev_iconstN (n := 0) f105_50 k) ?_
    refine ⟨_, ev_iret f105_51 (rI rfl _) rfl, ?_⟩
    exact ⟨hs1, rfl, m1, f1⟩
theorem d109t (h : MS hs q g l) (hp : ¬ inR p0 4) : CrQ 109 [.ref 39, .int p0] hs (some (.int (nI 0))) (MP hs q g 1) := by
  have a := h.1
  obtain ⟨hs1, k1, m1, f1⟩ := go_n h
  refine crq_mk ow109 (Nat.le_of_ble_eq_true rfl) ?_
  refine eq_ (fun _ k => ev_aload_n f109_0 rfl k) ?_
  refine eq_ (fun _ k => ev_iload_n f109_1 rfl k) ?_
  refine eq_ (fun _ k => ev_s1 f109_2 (by decide) ow80 rfl (Nat.le_of_ble_eq_true rfl) (c80n hp) k) ?_
  refine eq_ (fun _ k => ev_iconstN (n := 1) f109_5 k) ?_
  refine eq_ (fun _ k => ev_v2 f109_6 ow82 (by assumption) rfl rfl (Nat.le_of_ble_eq_true rfl) (k1) k) ?_
  refine eq_ifeqB (tgt := 20) f109_9 rfl (fun _ => ?_) (fun h9 => Bool.noConfusion (h9.symm.trans (rfl)))
  refine eq_ (fun _ k => ev_iconstN (n := 0) f109_20 k) ?_
  refine ⟨_, ev_iret f109_21 (rI rfl _) rfl, ?_⟩
  exact ⟨hs1, rfl, m1, f1⟩
theorem d109 (h : MS hs q g l) (hi : MI q g) (hf : f < 4) : CrQ 109 [.ref 39, .int (nI f)] hs (some (.int (nI (2 ^ q f)))) (MP hs q g 0) := by
  have a := h.1
  obtain ⟨hs1, k1, m1, f1⟩ := go_y h
  have a1 := m1.1
  refine crq_mk ow109 (Nat.le_of_ble_eq_true rfl) ?_
  refine eq_ (fun _ k => ev_aload_n f109_0 rfl k) ?_
  refine eq_ (fun _ k => ev_iload_n f109_1 rfl k) ?_
  refine eq_ (fun _ k => ev_s1 f109_2 (by decide) ow80 rfl (Nat.le_of_ble_eq_true rfl) (c80 hf) k) ?_
  refine eq_ (fun _ k => ev_iconstN (n := 1) f109_5 k) ?_
  refine eq_ (fun _ k => ev_v2 f109_6 ow82 (by assumption) rfl rfl (Nat.le_of_ble_eq_true rfl) (k1) k) ?_
  refine eq_ifeqB (tgt := 20) f109_9 rfl (fun h9 => Bool.noConfusion (h9.symm.trans (rfl))) (fun _ => ?_)
  refine eq_ (fun _ k => ev_aload_n f109_12 rfl k) ?_
  refine eq_ (fun _ k => ev_iload_n f109_13 rfl k) ?_
  refine eq_ (fun _ k => ev_v1 f109_14 ow83 (by assumption) rfl (Nat.le_of_ble_eq_true rfl) (c83 m1 hf (hi f hf).2.1) k) ?_
  refine eq_ (fun _ k => ev_goto (tgt := 21) f109_17 rfl k) ?_
  refine ⟨_, ev_iret f109_21 (rI rfl _) rfl, ?_⟩
  exact ⟨hs1, rfl, m1, f1⟩
theorem d110t (h : MS hs q g l) (hp : ¬ inR p0 4) : CrQ 110 [.ref 39, .int p0] hs (some (.int (nI 0))) (MP hs q g 1) := by
  have a := h.1
  obtain ⟨hs1, k1, m1, f1⟩ := go_n h
  refine crq_mk ow110 (Nat.le_of_ble_eq_true rfl) ?_
  refine eq_ (fun _ k => ev_aload_n f110_0 rfl k) ?_
  refine eq_ (fun _ k => ev_iload_n f110_1 rfl k) ?_
  refine eq_ (fun _ k => ev_s1 f110_2 (by decide) ow80 rfl (Nat.le_of_ble_eq_true rfl) (c80n hp) k) ?_
  refine eq_ (fun _ k => ev_iconstN (n := 1) f110_5 k) ?_
  refine eq_ (fun _ k => ev_v2 f110_6 ow82 (by assumption) rfl rfl (Nat.le_of_ble_eq_true rfl) (k1) k) ?_
  refine eq_ifeqB (tgt := 20) f110_9 rfl (fun _ => ?_) (fun h9 => Bool.noConfusion (h9.symm.trans (rfl)))
  refine eq_ (fun _ k => ev_iconstN (n := 0) f110_20 k) ?_
  refine ⟨_, ev_iret f110_21 (rI rfl _) rfl, ?_⟩
  exact ⟨hs1, rfl, m1, f1⟩
theorem d110 (h : MS hs q g l) (hi : MI q g) (hf : f < 4) : CrQ 110 [.ref 39, .int (nI f)] hs (some (.int (nI (EE (g f) 4096)))) (MP hs q g 0) := by
  have a := h.1
  obtain ⟨hs1, k1, m1, f1⟩ := go_y h
  have a1 := m1.1
  obtain ⟨l1, l2⟩ := hi.le hf
  refine crq_mk ow110 (Nat.le_of_ble_eq_true rfl) ?_
  refine eq_ (fun _ k => ev_aload_n f110_0 rfl k) ?_
  refine eq_ (fun _ k => ev_iload_n f110_1 rfl k) ?_
  refine eq_ (fun _ k => ev_s1 f110_2 (by decide) ow80 rfl (Nat.le_of_ble_eq_true rfl) (c80 hf) k) ?_
  refine eq_ (fun _ k => ev_iconstN (n := 1) f110_5 k) ?_
  refine eq_ (fun _ k => ev_v2 f110_6 ow82 (by assumption) rfl rfl (Nat.le_of_ble_eq_true rfl) (k1) k) ?_
  refine eq_ifeqB (tgt := 20) f110_9 rfl (fun h9 => Bool.noConfusion (h9.symm.trans (rfl))) (fun _ => ?_)
  refine eq_ (fun _ k => ev_aload_n f110_12 rfl k) ?_
  refine eq_ (fun _ k => ev_iload_n f110_13 rfl k) ?_
  refine eq_ (fun _ k => ev_v1 f110_14 ow85 (by assumption) rfl (Nat.le_of_ble_eq_true rfl) (c85 m1 hf l2 (by omega)) k) ?_
  refine eq_ (fun _ k => ev_goto (tgt := 21) f110_17 rfl k) ?_
  refine ⟨_, ev_iret f110_21 (rI rfl _) rfl, ?_⟩
  exact ⟨hs1, rfl, m1, f1⟩
end MO
