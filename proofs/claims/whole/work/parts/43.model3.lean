/-! the model's add, take, countOf, loops over counts; rows laid by wip/whole/walk.py -/
section MO
variable {hs : amH} {q : Nat → Nat} {g : Nat → Nat → Nat} {l f k : Nat} {p0 v1 v2 key : Int32}
theorem p98 {Q : amOut → Prop} {a : Int32} {w4 w5 : Option Value} {ls : amL} (hl : ls = [some (.ref 39), some (.int p0), some (.int v1), some (.int v2), w4]) (hq : ∀ b : Bool, (b = true ↔ inR v1 4096 ∧ inT v2) → EvQ 98 27 ls [.int (nI b.toNat), .int a, .ref 39] hs 0 0 Q) : EvQ 98 5 ls [.int a, .ref 39] hs 0 0 Q := by
  subst hl
  by_cases h1 : inR v1 4096
  · obtain ⟨k, k1, rfl⟩ := h1
    by_cases h2 : inT v2
    · have hq2 := hq true ⟨fun _ => ⟨⟨k, k1, rfl⟩, h2⟩, fun _ => rfl⟩
      obtain ⟨t, t1, t2, rfl⟩ := h2
      have k3 := c79 (hs := hs) (v := t) (a := 1) (b := 100) (by omega) (by omega) (by omega)
      rw [decide_eq_true ⟨t1, t2⟩] at k3
      refine eq_ (fun _ k => ev_iload_n f98_5 rfl k) ?_
      refine eq_ (fun _ k => ev_s1 f98_6 (by decide) ow81 rfl (Nat.le_of_ble_eq_true rfl) (c81 k1) k) ?_
      refine eq_ifeqB (tgt := 26) f98_9 rfl (fun h9 => Bool.noConfusion (h9.symm.trans (rfl))) (fun _ => ?_)
      refine eq_ (fun _ k => ev_iload_n f98_12 rfl k) ?_
      refine eq_ (fun _ k => ev_iconstN (n := 1) f98_13 k) ?_
      refine eq_ (fun _ k => ev_bipushN (n := 100) (by omega) f98_14 k) ?_
      refine eq_ (fun _ k => ev_s3 f98_16 (by decide) ow79 rfl rfl rfl (Nat.le_of_ble_eq_true rfl) (k3) k) ?_
      refine eq_ifeqB (tgt := 26) f98_19 rfl (fun h9 => Bool.noConfusion (h9.symm.trans (rfl))) (fun _ => ?_)
      refine eq_ (fun _ k => ev_iconstN (n := 1) f98_22 k) ?_
      refine eq_ (fun _ k => ev_goto (tgt := 27) f98_23 rfl k) ?_
      exact hq2
    · have hq2 := hq false ⟨fun w => Bool.noConfusion w, fun w => absurd w.2 h2⟩
      have k3 := c79n (hs := hs) (inT_no h2)
      refine eq_ (fun _ k => ev_iload_n f98_5 rfl k) ?_
      refine eq_ (fun _ k => ev_s1 f98_6 (by decide) ow81 rfl (Nat.le_of_ble_eq_true rfl) (c81 k1) k) ?_
      refine eq_ifeqB (tgt := 26) f98_9 rfl (fun h9 => Bool.noConfusion (h9.symm.trans (rfl))) (fun _ => ?_)
      refine eq_ (fun _ k => ev_iload_n f98_12 rfl k) ?_
      refine eq_ (fun _ k => ev_iconstN (n := 1) f98_13 k) ?_
      refine eq_ (fun _ k => ev_bipushN (n := 100) (by omega) f98_14 k) ?_
      refine eq_ (fun _ k => ev_s3 f98_16 (by decide) ow79 rfl rfl rfl (Nat.le_of_ble_eq_true rfl) (k3) k) ?_
      refine eq_ifeqB (tgt := 26) f98_19 rfl (fun _ => ?_) (fun h9 => Bool.noConfusion (h9.symm.trans (rfl)))
      refine eq_ (fun _ k => ev_iconstN (n := 0) f98_26 k) ?_
      exact hq2
  · have hq2 := hq false ⟨fun w => Bool.noConfusion w, fun w => absurd w.1 h1⟩
    refine eq_ (fun _ k => ev_iload_n f98_5 rfl k) ?_
    refine eq_ (fun _ k => ev_s1 f98_6 (by decide) ow81 rfl (Nat.le_of_ble_eq_true rfl) (c81n h1) k) ?_
    refine eq_ifeqB (tgt := 26) f98_9 rfl (fun _ => ?_) (fun h9 => Bool.noConfusion (h9.symm.trans (rfl)))
    refine eq_ (fun _ k => ev_iconstN (n := 0) f98_26 k) ?_
    exact hq2
theorem d98t (h : MS hs q g l) (hp : ¬ inR p0 4) : CrQ 98 [.ref 39, .int p0, .int v1, .int v2] hs (some (.int (nI 0))) (MP hs q g 1) := by
  have a := h.1
  refine crq_mk ow98 (Nat.le_of_ble_eq_true rfl) ?_
  refine eq_ (fun _ k => ev_aload_n f98_0 rfl k) ?_
  refine eq_ (fun _ k => ev_iload_n f98_1 rfl k) ?_
  refine eq_ (fun _ k => ev_s1 f98_2 (by decide) ow80 rfl (Nat.le_of_ble_eq_true rfl) (c80n hp) k) ?_
  refine p98 (w4 := none) (w5 := none) rfl (fun b hb => ?_)
  obtain ⟨hs1, k1, m1, f1⟩ := c82 h false b
  refine eq_ (fun _ k => ev_v2 f98_27 ow82 (by assumption) rfl rfl (Nat.le_of_ble_eq_true rfl) (k1) k) ?_
  refine eq_ifneB (tgt := 35) f98_30 rfl (fun h9 => Bool.noConfusion (h9.symm.trans (rfl))) (fun _ => ?_)
  refine eq_ (fun _ k => ev_iconstN (n := 0) f98_33 k) ?_
  refine ⟨_, ev_iret f98_34 (rI rfl _) rfl, ?_⟩
  exact ⟨hs1, rfl, m1, f1⟩
theorem d98n (h : MS hs q g l) (hf : f < 4) (hp : ¬ (inR v1 4096 ∧ inT v2)) : CrQ 98 [.ref 39, .int (nI f), .int v1, .int v2] hs (some (.int (nI 0))) (MP hs q g 2) := by
  have a := h.1
  refine crq_mk ow98 (Nat.le_of_ble_eq_true rfl) ?_
  refine eq_ (fun _ k => ev_aload_n f98_0 rfl k) ?_
  refine eq_ (fun _ k => ev_iload_n f98_1 rfl k) ?_
  refine eq_ (fun _ k => ev_s1 f98_2 (by decide) ow80 rfl (Nat.le_of_ble_eq_true rfl) (c80 hf) k) ?_
  refine p98 (w4 := none) (w5 := none) rfl (fun b hb => ?_)
  have hb2 : b = false := Bool.eq_false_iff.mpr (fun w => hp (hb.mp w))
  subst hb2
  obtain ⟨hs1, k1, m1, f1⟩ := c82 h true false
  refine eq_ (fun _ k => ev_v2 f98_27 ow82 (by assumption) rfl rfl (Nat.le_of_ble_eq_true rfl) (k1) k) ?_
  refine eq_ifneB (tgt := 35) f98_30 rfl (fun h9 => Bool.noConfusion (h9.symm.trans (rfl))) (fun _ => ?_)
  refine eq_ (fun _ k => ev_iconstN (n := 0) f98_33 k) ?_
  refine ⟨_, ev_iret f98_34 (rI rfl _) rfl, ?_⟩
  exact ⟨hs1, rfl, m1, f1⟩
theorem p99 {Q : amOut → Prop} {a : Int32} {w4 w5 : Option Value} {ls : amL} (hl : ls = [some (.ref 39), some (.int p0), some (.int v1), some (.int v2), w4, w5]) (hq : ∀ b : Bool, (b = true ↔ inR v1 4096 ∧ inT v2) → EvQ 99 27 ls [.int (nI b.toNat), .int a, .ref 39] hs 0 0 Q) : EvQ 99 5 ls [.int a, .ref 39] hs 0 0 Q := by
  subst hl
  by_cases h1 : inR v1 4096
  · obtain ⟨k, k1, rfl⟩ := h1
    by_cases h2 : inT v2
    · have hq2 := hq true ⟨fun _ => ⟨⟨k, k1, rfl⟩, h2⟩, fun _ => rfl⟩
      obtain ⟨t, t1, t2, rfl⟩ := h2
      have k3 := c79 (hs := hs) (v := t) (a := 1) (b := 100) (by omega) (by omega) (by omega)
      rw [decide_eq_true ⟨t1, t2⟩] at k3
      refine eq_ (fun _ k => ev_iload_n f99_5 rfl k) ?_
      refine eq_ (fun _ k => ev_s1 f99_6 (by decide) ow81 rfl (Nat.le_of_ble_eq_true rfl) (c81 k1) k) ?_
      refine eq_ifeqB (tgt := 26) f99_9 rfl (fun h9 => Bool.noConfusion (h9.symm.trans (rfl))) (fun _ => ?_)
      refine eq_ (fun _ k => ev_iload_n f99_12 rfl k) ?_
      refine eq_ (fun _ k => ev_iconstN (n := 1) f99_13 k) ?_
      refine eq_ (fun _ k => ev_bipushN (n := 100) (by omega) f99_14 k) ?_
      refine eq_ (fun _ k => ev_s3 f99_16 (by decide) ow79 rfl rfl rfl (Nat.le_of_ble_eq_true rfl) (k3) k) ?_
      refine eq_ifeqB (tgt := 26) f99_19 rfl (fun h9 => Bool.noConfusion (h9.symm.trans (rfl))) (fun _ => ?_)
      refine eq_ (fun _ k => ev_iconstN (n := 1) f99_22 k) ?_
      refine eq_ (fun _ k => ev_goto (tgt := 27) f99_23 rfl k) ?_
      exact hq2
    · have hq2 := hq false ⟨fun w => Bool.noConfusion w, fun w => absurd w.2 h2⟩
      have k3 := c79n (hs := hs) (inT_no h2)
      refine eq_ (fun _ k => ev_iload_n f99_5 rfl k) ?_
      refine eq_ (fun _ k => ev_s1 f99_6 (by decide) ow81 rfl (Nat.le_of_ble_eq_true rfl) (c81 k1) k) ?_
      refine eq_ifeqB (tgt := 26) f99_9 rfl (fun h9 => Bool.noConfusion (h9.symm.trans (rfl))) (fun _ => ?_)
      refine eq_ (fun _ k => ev_iload_n f99_12 rfl k) ?_
      refine eq_ (fun _ k => ev_iconstN (n := 1) f99_13 k) ?_
      refine eq_ (fun _ k => ev_bipushN (n := 100) (by omega) f99_14 k) ?_
      refine eq_ (fun _ k => ev_s3 f99_16 (by decide) ow79 rfl rfl rfl (Nat.le_of_ble_eq_true rfl) (k3) k) ?_
      refine eq_ifeqB (tgt := 26) f99_19 rfl (fun _ => ?_) (fun h9 => Bool.noConfusion (h9.symm.trans (rfl)))
      refine eq_ (fun _ k => ev_iconstN (n := 0) f99_26 k) ?_
      exact hq2
  · have hq2 := hq false ⟨fun w => Bool.noConfusion w, fun w => absurd w.1 h1⟩
    refine eq_ (fun _ k => ev_iload_n f99_5 rfl k) ?_
    refine eq_ (fun _ k => ev_s1 f99_6 (by decide) ow81 rfl (Nat.le_of_ble_eq_true rfl) (c81n h1) k) ?_
    refine eq_ifeqB (tgt := 26) f99_9 rfl (fun _ => ?_) (fun h9 => Bool.noConfusion (h9.symm.trans (rfl)))
    refine eq_ (fun _ k => ev_iconstN (n := 0) f99_26 k) ?_
    exact hq2
theorem d99t (h : MS hs q g l) (hp : ¬ inR p0 4) : CrQ 99 [.ref 39, .int p0, .int v1, .int v2] hs (some (.int (nI 0))) (MP hs q g 1) := by
  have a := h.1
  refine crq_mk ow99 (Nat.le_of_ble_eq_true rfl) ?_
  refine eq_ (fun _ k => ev_aload_n f99_0 rfl k) ?_
  refine eq_ (fun _ k => ev_iload_n f99_1 rfl k) ?_
  refine eq_ (fun _ k => ev_s1 f99_2 (by decide) ow80 rfl (Nat.le_of_ble_eq_true rfl) (c80n hp) k) ?_
  refine p99 (w4 := none) (w5 := none) rfl (fun b hb => ?_)
  obtain ⟨hs1, k1, m1, f1⟩ := c82 h false b
  refine eq_ (fun _ k => ev_v2 f99_27 ow82 (by assumption) rfl rfl (Nat.le_of_ble_eq_true rfl) (k1) k) ?_
  refine eq_ifneB (tgt := 35) f99_30 rfl (fun h9 => Bool.noConfusion (h9.symm.trans (rfl))) (fun _ => ?_)
  refine eq_ (fun _ k => ev_iconstN (n := 0) f99_33 k) ?_
  refine ⟨_, ev_iret f99_34 (rI rfl _) rfl, ?_⟩
  exact ⟨hs1, rfl, m1, f1⟩
theorem d99n (h : MS hs q g l) (hf : f < 4) (hp : ¬ (inR v1 4096 ∧ inT v2)) : CrQ 99 [.ref 39, .int (nI f), .int v1, .int v2] hs (some (.int (nI 0))) (MP hs q g 2) := by
  have a := h.1
  refine crq_mk ow99 (Nat.le_of_ble_eq_true rfl) ?_
  refine eq_ (fun _ k => ev_aload_n f99_0 rfl k) ?_
  refine eq_ (fun _ k => ev_iload_n f99_1 rfl k) ?_
  refine eq_ (fun _ k => ev_s1 f99_2 (by decide) ow80 rfl (Nat.le_of_ble_eq_true rfl) (c80 hf) k) ?_
  refine p99 (w4 := none) (w5 := none) rfl (fun b hb => ?_)
  have hb2 : b = false := Bool.eq_false_iff.mpr (fun w => hp (hb.mp w))
  subst hb2
  obtain ⟨hs1, k1, m1, f1⟩ := c82 h true false
  refine eq_ (fun _ k => ev_v2 f99_27 ow82 (by assumption) rfl rfl (Nat.le_of_ble_eq_true rfl) (k1) k) ?_
  refine eq_ifneB (tgt := 35) f99_30 rfl (fun h9 => Bool.noConfusion (h9.symm.trans (rfl))) (fun _ => ?_)
  refine eq_ (fun _ k => ev_iconstN (n := 0) f99_33 k) ?_
  refine ⟨_, ev_iret f99_34 (rI rfl _) rfl, ?_⟩
  exact ⟨hs1, rfl, m1, f1⟩
theorem d98 {c : Nat} (h : MS hs q g l) (hi : MI q g) (hf : f < 4) (hk : k < 4096) (hc1 : 1 ≤ c) (hc : c ≤ 100) : CrQ 98 [.ref 39, .int (nI f), .int (nI k), .int (nI c)] hs (some (.int (nI (if EE (putN (g f) k c) 4096 * 8 ≤ 7 * 2 ^ q f then g f k + c else 0)))) (MP hs q (if EE (putN (g f) k c) 4096 * 8 ≤ 7 * 2 ^ q f then updG g f (putN (g f) k c) else g) (if EE (putN (g f) k c) 4096 * 8 ≤ 7 * 2 ^ q f then 0 else 3)) := by
  have a := h.1
  have e := ct (g := g) (f := f) hk
  obtain ⟨l1, l2⟩ := hi.le hf
  have l3 := l2 k
  refine crq_mk ow98 (Nat.le_of_ble_eq_true rfl) ?_
  refine eq_ (fun _ k => ev_aload_n f98_0 rfl k) ?_
  refine eq_ (fun _ k => ev_iload_n f98_1 rfl k) ?_
  refine eq_ (fun _ k => ev_s1 f98_2 (by decide) ow80 rfl (Nat.le_of_ble_eq_true rfl) (c80 hf) k) ?_
  refine p98 (w4 := none) (w5 := none) rfl (fun b hb => ?_)
  have hb2 : b = true := hb.mpr ⟨⟨k, hk, rfl⟩, c, hc1, hc, rfl⟩
  subst hb2
  obtain ⟨hs1, k1, m1, f1⟩ := go_y h
  obtain ⟨hs2, k2, m2, f2⟩ := c94 m1 hi hf (v := cnt16 g (4096 * f + k) + c) hk (by omega)
  rw [show updN (g f) k (cnt16 g (4096 * f + k) + c) = putN (g f) k c by rw [e]; rfl] at k2 m2
  have mm1 := m1
  obtain ⟨b1, b2, -⟩ := mm1
  have mm2 := m2
  obtain ⟨c1, -⟩ := mm2
  by_cases hE : EE (putN (g f) k c) 4096 * 8 ≤ 7 * 2 ^ q f
  · rw [decide_eq_true hE] at k2
    rw [if_pos hE] at m2
    rw [if_pos hE, if_pos hE, if_pos hE, ← e]
    refine eq_ (fun _ k => ev_v2 f98_27 ow82 (by assumption) rfl rfl (Nat.le_of_ble_eq_true rfl) (k1) k) ?_
    refine eq_ifneB (tgt := 35) f98_30 rfl (fun _ => ?_) (fun h9 => Bool.noConfusion (h9.symm.trans (rfl)))
    refine eq_ (fun _ k => ev_aload_n f98_35 rfl k) ?_
    refine eq_ (fun _ k => ev_getf f98_36 (by assumption) rfl k) ?_
    refine eq_ (fun _ k => ev_sipushN (n := 4096) (by decide +kernel) f98_39 k) ?_
    refine eq_ (fun _ k => ev_iload_n f98_42 rfl k) ?_
    first | refine eq_ (fun _ k => ev_imulN f98_43 k) ?_ | refine eq_ (fun _ k => ev_imul f98_43 k) ?_
    refine eq_ (fun _ k => ev_iload_n f98_44 rfl k) ?_
    first | refine eq_ (fun _ k => ev_iaddN f98_45 k) ?_ | refine eq_ (fun _ k => ev_iadd f98_45 k) ?_
    refine eq_ (fun _ k => ev_iald f98_46 (by assumption) (by omega) (by omega) k) ?_
    refine eq_ (fun _ k => ev_iload_n f98_47 rfl k) ?_
    first | refine eq_ (fun _ k => ev_iaddN f98_48 k) ?_ | refine eq_ (fun _ k => ev_iadd f98_48 k) ?_
    refine eq_ (fun _ k => ev_istore f98_49 k) ?_
    refine eq_ (fun _ k => ev_aload_n f98_51 rfl k) ?_
    refine eq_ (fun _ k => ev_aload_n f98_52 rfl k) ?_
    refine eq_ (fun _ k => ev_iload_n f98_53 rfl k) ?_
    refine eq_ (fun _ k => ev_iload_n f98_54 rfl k) ?_
    refine eq_ (fun _ k => ev_iload f98_55 rfl k) ?_
    refine eq_ (fun _ k => ev_v3 f98_57 ow94 (by assumption) rfl rfl rfl (Nat.le_of_ble_eq_true rfl) (k2) k) ?_
    refine eq_ifeqB (tgt := 67) f98_60 rfl (fun h9 => Bool.noConfusion (h9.symm.trans (rfl))) (fun _ => ?_)
    refine eq_ (fun _ k => ev_iconstN (n := 0) f98_63 k) ?_
    refine eq_ (fun _ k => ev_goto (tgt := 68) f98_64 rfl k) ?_
    refine eq_putf f98_68 (by assumption) rfl (Nat.le_of_ble_eq_true rfl) (fun hs3 e3 => ?_)
    have m3 := m2.set39 (l2 := 0) e3
    have mm3 := m3
    obtain ⟨w1, w2, -⟩ := mm3
    refine eq_ (fun _ k => ev_aload_n f98_71 rfl k) ?_
    refine eq_ (fun _ k => ev_getf f98_72 (by assumption) rfl k) ?_
    refine eq_ifN (by omega) (tgt := 83) f98_75 rfl (fun h9 => absurd h9 (fun w => w rfl)) (fun _ => ?_)
    refine eq_ (fun _ k => ev_iload f98_78 rfl k) ?_
    refine eq_ (fun _ k => ev_goto (tgt := 84) f98_80 rfl k) ?_
    refine ⟨_, ev_iret f98_84 (rI rfl _) rfl, ?_⟩
    exact ⟨hs3, rfl, m3, (f1.tr f2).tr (Fr.st e3 (by omega) (by omega))⟩
  · rw [decide_eq_false hE] at k2
    rw [if_neg hE] at m2
    rw [if_neg hE, if_neg hE, if_neg hE]
    refine eq_ (fun _ k => ev_v2 f98_27 ow82 (by assumption) rfl rfl (Nat.le_of_ble_eq_true rfl) (k1) k) ?_
    refine eq_ifneB (tgt := 35) f98_30 rfl (fun _ => ?_) (fun h9 => Bool.noConfusion (h9.symm.trans (rfl)))
    refine eq_ (fun _ k => ev_aload_n f98_35 rfl k) ?_
    refine eq_ (fun _ k => ev_getf f98_36 (by assumption) rfl k) ?_
    refine eq_ (fun _ k => ev_sipushN (n := 4096) (by decide +kernel) f98_39 k) ?_
    refine eq_ (fun _ k => ev_iload_n f98_42 rfl k) ?_
    first | refine eq_ (fun _ k => ev_imulN f98_43 k) ?_ | refine eq_ (fun _ k => ev_imul f98_43 k) ?_
    refine eq_ (fun _ k => ev_iload_n f98_44 rfl k) ?_
    first | refine eq_ (fun _ k => ev_iaddN f98_45 k) ?_ | refine eq_ (fun _ k => ev_iadd f98_45 k) ?_
    refine eq_ (fun _ k => ev_iald f98_46 (by assumption) (by omega) (by omega) k) ?_
    refine eq_ (fun _ k => ev_iload_n f98_47 rfl k) ?_
    first | refine eq_ (fun _ k => ev_iaddN f98_48 k) ?_ | refine eq_ (fun _ k => ev_iadd f98_48 k) ?_
    refine eq_ (fun _ k => ev_istore f98_49 k) ?_
    refine eq_ (fun _ k => ev_aload_n f98_51 rfl k) ?_
    refine eq_ (fun _ k => ev_aload_n f98_52 rfl k) ?_
    refine eq_ (fun _ k => ev_iload_n f98_53 rfl k) ?_
    refine eq_ (fun _ k => ev_iload_n f98_54 rfl k) ?_
    refine eq_ (fun _ k => ev_iload f98_55 rfl k) ?_
    refine eq_ (fun _ k => ev_v3 f98_57 ow94 (by assumption) rfl rfl rfl (Nat.le_of_ble_eq_true rfl) (k2) k) ?_
    refine eq_ifeqB (tgt := 67) f98_60 rfl (fun _ => ?_) (fun h9 => Bool.noConfusion (h9.symm.trans (rfl)))
    refine eq_ (fun _ k => ev_iconstN (n := 3) f98_67 k) ?_
    refine eq_putf f98_68 (by assumption) rfl (Nat.le_of_ble_eq_true rfl) (fun hs3 e3 => ?_)
    have m3 := m2.set39 (l2 := 3) e3
    have mm3 := m3
    obtain ⟨w1, w2, -⟩ := mm3
    refine eq_ (fun _ k => ev_aload_n f98_71 rfl k) ?_
    refine eq_ (fun _ k => ev_getf f98_72 (by assumption) rfl k) ?_
    refine eq_ifN (by omega) (tgt := 83) f98_75 rfl (fun _ => ?_) (fun h9 => absurd (by simp only [akN] at *; omega) h9)
    refine eq_ (fun _ k => ev_iconstN (n := 0) f98_83 k) ?_
    refine ⟨_, ev_iret f98_84 (rI rfl _) rfl, ?_⟩
    exact ⟨hs3, rfl, m3, (f1.tr f2).tr (Fr.st e3 (by omega) (by omega))⟩
theorem d99 {c : Nat} (h : MS hs q g l) (hi : MI q g) (hf : f < 4) (hk : k < 4096) (hc1 : 1 ≤ c) (hc : c ≤ 100) : CrQ 99 [.ref 39, .int (nI f), .int (nI k), .int (nI c)] hs (some (.int (nI (min c (g f k))))) (MP hs q (updG g f (takN (g f) k c)) 0) := by
  have a := h.1
  have e := ct (g := g) (f := f) hk
  obtain ⟨l1, l2⟩ := hi.le hf
  have l3 := l2 k
  have e7 : cnt16 g (4096 * f + k) ≤ 1568 := by rw [e]; exact l3
  refine crq_mk ow99 (Nat.le_of_ble_eq_true rfl) ?_
  refine eq_ (fun _ k => ev_aload_n f99_0 rfl k) ?_
  refine eq_ (fun _ k => ev_iload_n f99_1 rfl k) ?_
  refine eq_ (fun _ k => ev_s1 f99_2 (by decide) ow80 rfl (Nat.le_of_ble_eq_true rfl) (c80 hf) k) ?_
  refine p99 (w4 := none) (w5 := none) rfl (fun b hb => ?_)
  have hb2 : b = true := hb.mpr ⟨⟨k, hk, rfl⟩, c, hc1, hc, rfl⟩
  subst hb2
  obtain ⟨hs1, k1, m1, f1⟩ := go_y h
  have mm1 := m1
  obtain ⟨b1, b2, -⟩ := mm1
  by_cases hm : c ≤ cnt16 g (4096 * f + k)
  · refine eq_ (fun _ k => ev_v2 f99_27 ow82 (by assumption) rfl rfl (Nat.le_of_ble_eq_true rfl) (k1) k) ?_
    refine eq_ifneB (tgt := 35) f99_30 rfl (fun _ => ?_) (fun h9 => Bool.noConfusion (h9.symm.trans (rfl)))
    refine eq_ (fun _ k => ev_aload_n f99_35 rfl k) ?_
    refine eq_ (fun _ k => ev_getf f99_36 (by assumption) rfl k) ?_
    refine eq_ (fun _ k => ev_sipushN (n := 4096) (by decide +kernel) f99_39 k) ?_
    refine eq_ (fun _ k => ev_iload_n f99_42 rfl k) ?_
    first | refine eq_ (fun _ k => ev_imulN f99_43 k) ?_ | refine eq_ (fun _ k => ev_imul f99_43 k) ?_
    refine eq_ (fun _ k => ev_iload_n f99_44 rfl k) ?_
    first | refine eq_ (fun _ k => ev_iaddN f99_45 k) ?_ | refine eq_ (fun _ k => ev_iadd f99_45 k) ?_
    refine eq_ (fun _ k => ev_iald f99_46 (by assumption) (by omega) (by omega) k) ?_
    refine eq_ (fun _ k => ev_istore f99_47 k) ?_
    refine eq_ (fun _ k => ev_iload_n f99_49 rfl k) ?_
    refine eq_ (fun _ k => ev_iload f99_50 rfl k) ?_
    refine eq_icN (by omega) (by omega) (tgt := 60) f99_52 rfl (fun _ => ?_) (fun h9 => absurd (by simp only [akN] at *; omega) h9)
    refine eq_ (fun _ k => ev_iload_n f99_60 rfl k) ?_
    refine eq_ (fun _ k => ev_istore f99_61 k) ?_
    refine eq_ (fun _ k => ev_aload_n f99_63 rfl k) ?_
    refine eq_ (fun _ k => ev_getf f99_64 (by assumption) rfl k) ?_
    refine eq_ (fun _ k => ev_sipushN (n := 4096) (by decide +kernel) f99_67 k) ?_
    refine eq_ (fun _ k => ev_iload_n f99_70 rfl k) ?_
    first | refine eq_ (fun _ k => ev_imulN f99_71 k) ?_ | refine eq_ (fun _ k => ev_imul f99_71 k) ?_
    refine eq_ (fun _ k => ev_iload_n f99_72 rfl k) ?_
    first | refine eq_ (fun _ k => ev_iaddN f99_73 k) ?_ | refine eq_ (fun _ k => ev_iadd f99_73 k) ?_
    refine eq_ (fun _ k => ev_iload f99_74 rfl k) ?_
    refine eq_ (fun _ k => ev_iload f99_76 rfl k) ?_
    refine eq_ (fun _ k => ev_isubN (by omega) f99_78 k) ?_
    refine eq_iast f99_79 (by assumption) (by omega) (by omega) (by omega) (fun hs2 e2 => ?_)
    refine eq_ (fun _ k => ev_iload f99_80 rfl k) ?_
    refine ⟨_, ev_iret f99_82 (rI rfl _) rfl, ?_⟩
    have m2 := MS.set40 m1 hk e2
    rw [e] at m2 hm
    rw [show min c (g f k) = c by omega]
    refine ⟨hs2, rfl, ?_, f1.tr (Fr.st e2 (by omega) (by omega))⟩
    unfold takN
    rw [show min c (g f k) = c by omega]
    exact m2
  · refine eq_ (fun _ k => ev_v2 f99_27 ow82 (by assumption) rfl rfl (Nat.le_of_ble_eq_true rfl) (k1) k) ?_
    refine eq_ifneB (tgt := 35) f99_30 rfl (fun _ => ?_) (fun h9 => Bool.noConfusion (h9.symm.trans (rfl)))
    refine eq_ (fun _ k => ev_aload_n f99_35 rfl k) ?_
    refine eq_ (fun _ k => ev_getf f99_36 (by assumption) rfl k) ?_
    refine eq_ (fun _ k => ev_sipushN (n := 4096) (by decide +kernel) f99_39 k) ?_
    refine eq_ (fun _ k => ev_iload_n f99_42 rfl k) ?_
    first | refine eq_ (fun _ k => ev_imulN f99_43 k) ?_ | refine eq_ (fun _ k => ev_imul f99_43 k) ?_
    refine eq_ (fun _ k => ev_iload_n f99_44 rfl k) ?_
    first | refine eq_ (fun _ k => ev_iaddN f99_45 k) ?_ | refine eq_ (fun _ k => ev_iadd f99_45 k) ?_
    refine eq_ (fun _ k => ev_iald f99_46 (by assumption) (by omega) (by omega) k) ?_
    refine eq_ (fun _ k => ev_istore f99_47 k) ?_
    refine eq_ (fun _ k => ev_iload_n f99_49 rfl k) ?_
    refine eq_ (fun _ k => ev_iload f99_50 rfl k) ?_
    refine eq_icN (by omega) (by omega) (tgt := 60) f99_52 rfl (fun h9 => absurd h9 (by simp only [akN] at *; omega)) (fun _ => ?_)
    refine eq_ (fun _ k => ev_iload f99_55 rfl k) ?_
    refine eq_ (fun _ k => ev_goto (tgt := 61) f99_57 rfl k) ?_
    refine eq_ (fun _ k => ev_istore f99_61 k) ?_
    refine eq_ (fun _ k => ev_aload_n f99_63 rfl k) ?_
    refine eq_ (fun _ k => ev_getf f99_64 (by assumption) rfl k) ?_
    refine eq_ (fun _ k => ev_sipushN (n := 4096) (by decide +kernel) f99_67 k) ?_
    refine eq_ (fun _ k => ev_iload_n f99_70 rfl k) ?_
    first | refine eq_ (fun _ k => ev_imulN f99_71 k) ?_ | refine eq_ (fun _ k => ev_imul f99_71 k) ?_
    refine eq_ (fun _ k => ev_iload_n f99_72 rfl k) ?_
    first | refine eq_ (fun _ k => ev_iaddN f99_73 k) ?_ | refine eq_ (fun _ k => ev_iadd f99_73 k) ?_
    refine eq_ (fun _ k => ev_iload f99_74 rfl k) ?_
    refine eq_ (fun _ k => ev_iload f99_76 rfl k) ?_
    refine eq_ (fun _ k => ev_isubN (by omega) f99_78 k) ?_
    refine eq_iast f99_79 (by assumption) (by omega) (by omega) (by omega) (fun hs2 e2 => ?_)
    refine eq_ (fun _ k => ev_iload f99_80 rfl k) ?_
    refine ⟨_, ev_iret f99_82 (rI rfl _) rfl, ?_⟩
    have m2 := MS.set40 m1 hk e2
    rw [e] at m2 hm
    refine ⟨hs2, ?_, ?_, f1.tr (Fr.st e2 (by omega) (by omega))⟩
    · rw [show min c (g f k) = g f k by omega, e]
    · unfold takN
      rw [show min c (g f k) = g f k by omega]
      exact m2
theorem d100t (h : MS hs q g l) (hp : ¬ inR p0 4) : CrQ 100 [.ref 39, .int p0, .int v1] hs (some (.int (nI 0))) (MP hs q g 1) := by
  have a := h.1
  refine crq_mk ow100 (Nat.le_of_ble_eq_true rfl) ?_
  by_cases h1 : inR v1 4096
  · obtain ⟨k, k1, rfl⟩ := h1
    obtain ⟨hs1, k2, m1, f1⟩ := c82 h false true
    refine eq_ (fun _ k => ev_aload_n f100_0 rfl k) ?_
    refine eq_ (fun _ k => ev_iload_n f100_1 rfl k) ?_
    refine eq_ (fun _ k => ev_s1 f100_2 (by decide) ow80 rfl (Nat.le_of_ble_eq_true rfl) (c80n hp) k) ?_
    refine eq_ (fun _ k => ev_iload_n f100_5 rfl k) ?_
    refine eq_ (fun _ k => ev_s1 f100_6 (by decide) ow81 rfl (Nat.le_of_ble_eq_true rfl) (c81 k1) k) ?_
    refine eq_ (fun _ k => ev_v2 f100_9 ow82 (by assumption) rfl rfl (Nat.le_of_ble_eq_true rfl) (k2) k) ?_
    refine eq_ifeqB (tgt := 30) f100_12 rfl (fun _ => ?_) (fun h9 => Bool.noConfusion (h9.symm.trans (rfl)))
    refine eq_ (fun _ k => ev_iconstN (n := 0) f100_30 k) ?_
    refine ⟨_, ev_iret f100_31 (rI rfl _) rfl, ?_⟩
    exact ⟨hs1, rfl, m1, f1⟩
  · obtain ⟨hs1, k2, m1, f1⟩ := c82 h false false
    refine eq_ (fun _ k => ev_aload_n f100_0 rfl k) ?_
    refine eq_ (fun _ k => ev_iload_n f100_1 rfl k) ?_
    refine eq_ (fun _ k => ev_s1 f100_2 (by decide) ow80 rfl (Nat.le_of_ble_eq_true rfl) (c80n hp) k) ?_
    refine eq_ (fun _ k => ev_iload_n f100_5 rfl k) ?_
    refine eq_ (fun _ k => ev_s1 f100_6 (by decide) ow81 rfl (Nat.le_of_ble_eq_true rfl) (c81n h1) k) ?_
    refine eq_ (fun _ k => ev_v2 f100_9 ow82 (by assumption) rfl rfl (Nat.le_of_ble_eq_true rfl) (k2) k) ?_
    refine eq_ifeqB (tgt := 30) f100_12 rfl (fun _ => ?_) (fun h9 => Bool.noConfusion (h9.symm.trans (rfl)))
    refine eq_ (fun _ k => ev_iconstN (n := 0) f100_30 k) ?_
    refine ⟨_, ev_iret f100_31 (rI rfl _) rfl, ?_⟩
    exact ⟨hs1, rfl, m1, f1⟩
theorem d100n (h : MS hs q g l) (hf : f < 4) (hp : ¬ inR v1 4096) : CrQ 100 [.ref 39, .int (nI f), .int v1] hs (some (.int (nI 0))) (MP hs q g 2) := by
  have a := h.1
  refine crq_mk ow100 (Nat.le_of_ble_eq_true rfl) ?_
  obtain ⟨hs1, k2, m1, f1⟩ := c82 h true false
  refine eq_ (fun _ k => ev_aload_n f100_0 rfl k) ?_
  refine eq_ (fun _ k => ev_iload_n f100_1 rfl k) ?_
  refine eq_ (fun _ k => ev_s1 f100_2 (by decide) ow80 rfl (Nat.le_of_ble_eq_true rfl) (c80 hf) k) ?_
  refine eq_ (fun _ k => ev_iload_n f100_5 rfl k) ?_
  refine eq_ (fun _ k => ev_s1 f100_6 (by decide) ow81 rfl (Nat.le_of_ble_eq_true rfl) (c81n hp) k) ?_
  refine eq_ (fun _ k => ev_v2 f100_9 ow82 (by assumption) rfl rfl (Nat.le_of_ble_eq_true rfl) (k2) k) ?_
  refine eq_ifeqB (tgt := 30) f100_12 rfl (fun _ => ?_) (fun h9 => Bool.noConfusion (h9.symm.trans (rfl)))
  refine eq_ (fun _ k => ev_iconstN (n := 0) f100_30 k) ?_
  refine ⟨_, ev_iret f100_31 (rI rfl _) rfl, ?_⟩
  exact ⟨hs1, rfl, m1, f1⟩
theorem d100 (h : MS hs q g l) (hf : f < 4) (hk : k < 4096) : CrQ 100 [.ref 39, .int (nI f), .int (nI k)] hs (some (.int (nI (g f k)))) (MP hs q g 0) := by
  have a := h.1
  have e := ct (g := g) (f := f) hk
  rw [← e]
  obtain ⟨hs1, k2, m1, f1⟩ := go_y h
  have mm1 := m1
  obtain ⟨b1, b2, -⟩ := mm1
  refine crq_mk ow100 (Nat.le_of_ble_eq_true rfl) ?_
  refine eq_ (fun _ k => ev_aload_n f100_0 rfl k) ?_
  refine eq_ (fun _ k => ev_iload_n f100_1 rfl k) ?_
  refine eq_ (fun _ k => ev_s1 f100_2 (by decide) ow80 rfl (Nat.le_of_ble_eq_true rfl) (c80 hf) k) ?_
  refine eq_ (fun _ k => ev_iload_n f100_5 rfl k) ?_
  refine eq_ (fun _ k => ev_s1 f100_6 (by decide) ow81 rfl (Nat.le_of_ble_eq_true rfl) (c81 hk) k) ?_
  refine eq_ (fun _ k => ev_v2 f100_9 ow82 (by assumption) rfl rfl (Nat.le_of_ble_eq_true rfl) (k2) k) ?_
  refine eq_ifeqB (tgt := 30) f100_12 rfl (fun h9 => Bool.noConfusion (h9.symm.trans (rfl))) (fun _ => ?_)
  refine eq_ (fun _ k => ev_aload_n f100_15 rfl k) ?_
  refine eq_ (fun _ k => ev_getf f100_16 (by assumption) rfl k) ?_
  refine eq_ (fun _ k => ev_sipushN (n := 4096) (by decide +kernel) f100_19 k) ?_
  refine eq_ (fun _ k => ev_iload_n f100_22 rfl k) ?_
  first | refine eq_ (fun _ k => ev_imulN f100_23 k) ?_ | refine eq_ (fun _ k => ev_imul f100_23 k) ?_
  refine eq_ (fun _ k => ev_iload_n f100_24 rfl k) ?_
  first | refine eq_ (fun _ k => ev_iaddN f100_25 k) ?_ | refine eq_ (fun _ k => ev_iadd f100_25 k) ?_
  refine eq_ (fun _ k => ev_iald f100_26 (by assumption) (by omega) (by omega) k) ?_
  refine eq_ (fun _ k => ev_goto (tgt := 31) f100_27 rfl k) ?_
  refine ⟨_, ev_iret f100_31 (rI rfl _) rfl, ?_⟩
  exact ⟨hs1, rfl, m1, f1⟩
theorem d101 {P : amH → Prop} (h : MS hs q g l) (hc : CrQ 100 [.ref 39, .int p0, .int v1] hs (some (.int key)) P) : CrQ 101 [.ref 39, .int p0, .int v1] hs (some (.int key)) P := by
  have a := h.1
  obtain ⟨hs1, k1, m1⟩ := hc
  refine crq_mk ow101 (Nat.le_of_ble_eq_true rfl) ?_
  refine eq_ (fun _ k => ev_aload_n f101_0 rfl k) ?_
  refine eq_ (fun _ k => ev_iload_n f101_1 rfl k) ?_
  refine eq_ (fun _ k => ev_iload_n f101_2 rfl k) ?_
  refine eq_ (fun _ k => ev_v2 f101_3 ow100 (by assumption) rfl rfl (Nat.le_of_ble_eq_true rfl) (k1) k) ?_
  refine ⟨_, ev_iret f101_6 (rI rfl _) rfl, ?_⟩
  exact ⟨hs1, rfl, m1⟩
end MO
