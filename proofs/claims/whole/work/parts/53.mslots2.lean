/-! the model's answers about slots; rows laid by wip/whole/walk.py -/
section MQ
variable {hs : amH} {q : Nat → Nat} {g : Nat → Nat → Nat} {l f s k i : Nat}
theorem d115 (h : MS hs q g l) (hi : MI q g) (hf : f < 4) (hs2 : s < 2 ^ q f) (he : SlotE (2 ^ q f) (2 ^ (12 - q f)) (g f) s k i) : CrQ 115 [.ref 39, .int (nI f), .int (nI s)] hs (some (.int (nI (k % 2 ^ (12 - q f))))) (MP hs q g 0) := by
  have a := h.1
  obtain ⟨hn, hm, hnm, hN, p2, o8⟩ := hi.fa hf
  obtain ⟨hs1, k1, ⟨A, B, C, D, E, m1, L, hC, hD⟩, f1⟩ := d114 h hi hf hs2
  obtain ⟨ha, hb⟩ := lm_ent hn hm hN L he
  have hk : k < 4096 := by have := he.1; omega
  have k90 := c90 m1 (show s < 256 by omega) (by omega)
  rw [decide_eq_true (show 0 < A s by omega)] at k90
  have k91 := c91 m1 hf o8 (show s < 256 by omega) ha hk
  have k92 := c92 m1 hf o8 (show s < 256 by omega) ha hk
  have k83 := c83 m1.ms hf o8
  have mm := m1
  obtain ⟨b0, b1, b2, b3, b4, b5, b6, b7⟩ := mm
  refine crq_mk ow115 (Nat.le_of_ble_eq_true rfl) ?_
  refine eq_ (fun _ k => ev_aload_n f115_0 rfl k) ?_
  refine eq_ (fun _ k => ev_iload_n f115_1 rfl k) ?_
  refine eq_ (fun _ k => ev_iload_n f115_2 rfl k) ?_
  refine eq_ (fun _ k => ev_v2 f115_3 ow114 (by assumption) rfl rfl (Nat.le_of_ble_eq_true rfl) (k1) k) ?_
  refine eq_ifneB (tgt := 11) f115_6 rfl (fun _ => ?_) (fun h9 => Bool.noConfusion (h9.symm.trans (rfl)))
  refine eq_ (fun _ k => ev_aload_n f115_11 rfl k) ?_
  refine eq_ (fun _ k => ev_iload_n f115_12 rfl k) ?_
  refine eq_ (fun _ k => ev_v1 f115_13 ow90 (by assumption) rfl (Nat.le_of_ble_eq_true rfl) (k90) k) ?_
  refine eq_ifeqB (tgt := 44) f115_16 rfl (fun h9 => Bool.noConfusion (h9.symm.trans (rfl))) (fun _ => ?_)
  refine eq_ (fun _ k => ev_aload_n f115_19 rfl k) ?_
  refine eq_ (fun _ k => ev_getf f115_20 (by assumption) rfl k) ?_
  refine eq_ (fun _ k => ev_iload_n f115_23 rfl k) ?_
  refine eq_ (fun _ k => ev_iald f115_24 (by assumption) (by omega) (by omega) k) ?_
  rw [ha]
  refine eq_ (fun _ k => ev_iconstN (n := 1) f115_25 k) ?_
  refine eq_ (fun _ k => ev_isubN (by omega) f115_26 k) ?_
  refine eq_ (fun _ k => ev_iconstN (n := 1) f115_27 k) ?_
  refine eq_ (fun _ k => ev_bipushN (n := 12) (by omega) f115_28 k) ?_
  refine eq_ (fun _ k => ev_aload_n f115_30 rfl k) ?_
  refine eq_ (fun _ k => ev_getf f115_31 (by assumption) rfl k) ?_
  refine eq_ (fun _ k => ev_iload_n f115_34 rfl k) ?_
  refine eq_ (fun _ k => ev_iald f115_35 (by assumption) (by omega) (by omega) k) ?_
  refine eq_ (fun _ k => ev_isubN (by omega) f115_36 k) ?_
  refine eq_ (fun _ k => ev_ishl f115_37 k) ?_
  rw [am_shl1 (by omega)]
  refine eq_ (fun _ k => ev_iconstN (n := 1) f115_38 k) ?_
  refine eq_ (fun _ k => ev_isubN (by omega) f115_39 k) ?_
  refine eq_ (fun _ k => ev_iand f115_40 k) ?_
  rw [am_mask (by omega) (by omega)]
  refine eq_ (fun _ k => ev_goto (tgt := 45) f115_41 rfl k) ?_
  refine ⟨_, ev_iret f115_45 (rI rfl _) rfl, ?_⟩
  exact ⟨hs1, rfl, m1.ms, f1⟩
theorem d115n (h : MS hs q g l) (hi : MI q g) (hf : f < 4) (hs2 : s < 2 ^ q f) (he : ∀ k i, ¬ SlotE (2 ^ q f) (2 ^ (12 - q f)) (g f) s k i) : CrQ 115 [.ref 39, .int (nI f), .int (nI s)] hs (some (.int (Int32.ofInt (-1)))) (MP hs q g 0) := by
  have a := h.1
  obtain ⟨hn, hm, hnm, hN, p2, o8⟩ := hi.fa hf
  obtain ⟨hs1, k1, ⟨A, B, C, D, E, m1, L, hC, hD⟩, f1⟩ := d114 h hi hf hs2
  obtain ⟨ha, hb⟩ := lm_no L hs2 he
  have k90 := c90 m1 (show s < 256 by omega) (by omega)
  rw [decide_eq_false (show ¬ 0 < A s by omega)] at k90
  have k92 := c92n (v1 := nI f) m1 (show s < 256 by omega) ha
  have mm := m1
  obtain ⟨b0, b1, b2, b3, b4, b5, b6, b7⟩ := mm
  refine crq_mk ow115 (Nat.le_of_ble_eq_true rfl) ?_
  refine eq_ (fun _ k => ev_aload_n f115_0 rfl k) ?_
  refine eq_ (fun _ k => ev_iload_n f115_1 rfl k) ?_
  refine eq_ (fun _ k => ev_iload_n f115_2 rfl k) ?_
  refine eq_ (fun _ k => ev_v2 f115_3 ow114 (by assumption) rfl rfl (Nat.le_of_ble_eq_true rfl) (k1) k) ?_
  refine eq_ifneB (tgt := 11) f115_6 rfl (fun _ => ?_) (fun h9 => Bool.noConfusion (h9.symm.trans (rfl)))
  refine eq_ (fun _ k => ev_aload_n f115_11 rfl k) ?_
  refine eq_ (fun _ k => ev_iload_n f115_12 rfl k) ?_
  refine eq_ (fun _ k => ev_v1 f115_13 ow90 (by assumption) rfl (Nat.le_of_ble_eq_true rfl) (k90) k) ?_
  refine eq_ifeqB (tgt := 44) f115_16 rfl (fun _ => ?_) (fun h9 => Bool.noConfusion (h9.symm.trans (rfl)))
  refine eq_ (fun _ k => ev_iconst f115_44 k) ?_
  refine ⟨_, ev_iret f115_45 (rI rfl _) rfl, ?_⟩
  exact ⟨hs1, rfl, m1.ms, f1⟩
theorem d116 (h : MS hs q g l) (hi : MI q g) (hf : f < 4) (hs2 : s < 2 ^ q f) (he : SlotE (2 ^ q f) (2 ^ (12 - q f)) (g f) s k i) : CrQ 116 [.ref 39, .int (nI f), .int (nI s)] hs (some (.int (nI (min (g f k - 7 * i) 7)))) (MP hs q g 0) := by
  have a := h.1
  obtain ⟨hn, hm, hnm, hN, p2, o8⟩ := hi.fa hf
  obtain ⟨hs1, k1, ⟨A, B, C, D, E, m1, L, hC, hD⟩, f1⟩ := d114 h hi hf hs2
  obtain ⟨ha, hb⟩ := lm_ent hn hm hN L he
  have hk : k < 4096 := by have := he.1; omega
  have k90 := c90 m1 (show s < 256 by omega) (by omega)
  rw [decide_eq_true (show 0 < A s by omega)] at k90
  have k91 := c91 m1 hf o8 (show s < 256 by omega) ha hk
  have k92 := c92 m1 hf o8 (show s < 256 by omega) ha hk
  have k83 := c83 m1.ms hf o8
  have mm := m1
  obtain ⟨b0, b1, b2, b3, b4, b5, b6, b7⟩ := mm
  rw [← hb]
  refine crq_mk ow116 (Nat.le_of_ble_eq_true rfl) ?_
  refine eq_ (fun _ k => ev_aload_n f116_0 rfl k) ?_
  refine eq_ (fun _ k => ev_iload_n f116_1 rfl k) ?_
  refine eq_ (fun _ k => ev_iload_n f116_2 rfl k) ?_
  refine eq_ (fun _ k => ev_v2 f116_3 ow114 (by assumption) rfl rfl (Nat.le_of_ble_eq_true rfl) (k1) k) ?_
  refine eq_ifeqB (tgt := 18) f116_6 rfl (fun h9 => Bool.noConfusion (h9.symm.trans (rfl))) (fun _ => ?_)
  refine eq_ (fun _ k => ev_aload_n f116_9 rfl k) ?_
  refine eq_ (fun _ k => ev_getf f116_10 (by assumption) rfl k) ?_
  refine eq_ (fun _ k => ev_iload_n f116_13 rfl k) ?_
  refine eq_ (fun _ k => ev_iald f116_14 (by assumption) (by omega) (by omega) k) ?_
  refine eq_ (fun _ k => ev_goto (tgt := 19) f116_15 rfl k) ?_
  refine ⟨_, ev_iret f116_19 (rI rfl _) rfl, ?_⟩
  exact ⟨hs1, rfl, m1.ms, f1⟩
theorem d116n (h : MS hs q g l) (hi : MI q g) (hf : f < 4) (hs2 : s < 2 ^ q f) (he : ∀ k i, ¬ SlotE (2 ^ q f) (2 ^ (12 - q f)) (g f) s k i) : CrQ 116 [.ref 39, .int (nI f), .int (nI s)] hs (some (.int (nI 0))) (MP hs q g 0) := by
  have a := h.1
  obtain ⟨hn, hm, hnm, hN, p2, o8⟩ := hi.fa hf
  obtain ⟨hs1, k1, ⟨A, B, C, D, E, m1, L, hC, hD⟩, f1⟩ := d114 h hi hf hs2
  obtain ⟨ha, hb⟩ := lm_no L hs2 he
  have k90 := c90 m1 (show s < 256 by omega) (by omega)
  rw [decide_eq_false (show ¬ 0 < A s by omega)] at k90
  have k92 := c92n (v1 := nI f) m1 (show s < 256 by omega) ha
  have mm := m1
  obtain ⟨b0, b1, b2, b3, b4, b5, b6, b7⟩ := mm
  refine crq_mk ow116 (Nat.le_of_ble_eq_true rfl) ?_
  refine eq_ (fun _ k => ev_aload_n f116_0 rfl k) ?_
  refine eq_ (fun _ k => ev_iload_n f116_1 rfl k) ?_
  refine eq_ (fun _ k => ev_iload_n f116_2 rfl k) ?_
  refine eq_ (fun _ k => ev_v2 f116_3 ow114 (by assumption) rfl rfl (Nat.le_of_ble_eq_true rfl) (k1) k) ?_
  refine eq_ifeqB (tgt := 18) f116_6 rfl (fun h9 => Bool.noConfusion (h9.symm.trans (rfl))) (fun _ => ?_)
  refine eq_ (fun _ k => ev_aload_n f116_9 rfl k) ?_
  refine eq_ (fun _ k => ev_getf f116_10 (by assumption) rfl k) ?_
  refine eq_ (fun _ k => ev_iload_n f116_13 rfl k) ?_
  refine eq_ (fun _ k => ev_iald f116_14 (by assumption) (by omega) (by omega) k) ?_
  refine eq_ (fun _ k => ev_goto (tgt := 19) f116_15 rfl k) ?_
  refine ⟨_, ev_iret f116_19 (rI rfl _) rfl, ?_⟩
  exact ⟨hs1, by rw [hb], m1.ms, f1⟩
theorem d117 (h : MS hs q g l) (hi : MI q g) (hf : f < 4) (hs2 : s < 2 ^ q f) (he : SlotE (2 ^ q f) (2 ^ (12 - q f)) (g f) s k i) : CrQ 117 [.ref 39, .int (nI f), .int (nI s)] hs (some (.int (nI (k / 2 ^ (12 - q f))))) (MP hs q g 0) := by
  have a := h.1
  obtain ⟨hn, hm, hnm, hN, p2, o8⟩ := hi.fa hf
  obtain ⟨hs1, k1, ⟨A, B, C, D, E, m1, L, hC, hD⟩, f1⟩ := d114 h hi hf hs2
  obtain ⟨ha, hb⟩ := lm_ent hn hm hN L he
  have hk : k < 4096 := by have := he.1; omega
  have k90 := c90 m1 (show s < 256 by omega) (by omega)
  rw [decide_eq_true (show 0 < A s by omega)] at k90
  have k91 := c91 m1 hf o8 (show s < 256 by omega) ha hk
  have k92 := c92 m1 hf o8 (show s < 256 by omega) ha hk
  have k83 := c83 m1.ms hf o8
  have mm := m1
  obtain ⟨b0, b1, b2, b3, b4, b5, b6, b7⟩ := mm
  refine crq_mk ow117 (Nat.le_of_ble_eq_true rfl) ?_
  refine eq_ (fun _ k => ev_aload_n f117_0 rfl k) ?_
  refine eq_ (fun _ k => ev_iload_n f117_1 rfl k) ?_
  refine eq_ (fun _ k => ev_iload_n f117_2 rfl k) ?_
  refine eq_ (fun _ k => ev_v2 f117_3 ow114 (by assumption) rfl rfl (Nat.le_of_ble_eq_true rfl) (k1) k) ?_
  refine eq_ifneB (tgt := 11) f117_6 rfl (fun _ => ?_) (fun h9 => Bool.noConfusion (h9.symm.trans (rfl)))
  refine eq_ (fun _ k => ev_aload_n f117_11 rfl k) ?_
  refine eq_ (fun _ k => ev_iload_n f117_12 rfl k) ?_
  refine eq_ (fun _ k => ev_v1 f117_13 ow90 (by assumption) rfl (Nat.le_of_ble_eq_true rfl) (k90) k) ?_
  refine eq_ifeqB (tgt := 28) f117_16 rfl (fun h9 => Bool.noConfusion (h9.symm.trans (rfl))) (fun _ => ?_)
  refine eq_ (fun _ k => ev_aload_n f117_19 rfl k) ?_
  refine eq_ (fun _ k => ev_iload_n f117_20 rfl k) ?_
  refine eq_ (fun _ k => ev_iload_n f117_21 rfl k) ?_
  refine eq_ (fun _ k => ev_v2 f117_22 ow91 (by assumption) rfl rfl (Nat.le_of_ble_eq_true rfl) (k91) k) ?_
  refine eq_ (fun _ k => ev_goto (tgt := 29) f117_25 rfl k) ?_
  refine ⟨_, ev_iret f117_29 (rI rfl _) rfl, ?_⟩
  exact ⟨hs1, rfl, m1.ms, f1⟩
theorem d117n (h : MS hs q g l) (hi : MI q g) (hf : f < 4) (hs2 : s < 2 ^ q f) (he : ∀ k i, ¬ SlotE (2 ^ q f) (2 ^ (12 - q f)) (g f) s k i) : CrQ 117 [.ref 39, .int (nI f), .int (nI s)] hs (some (.int (Int32.ofInt (-1)))) (MP hs q g 0) := by
  have a := h.1
  obtain ⟨hn, hm, hnm, hN, p2, o8⟩ := hi.fa hf
  obtain ⟨hs1, k1, ⟨A, B, C, D, E, m1, L, hC, hD⟩, f1⟩ := d114 h hi hf hs2
  obtain ⟨ha, hb⟩ := lm_no L hs2 he
  have k90 := c90 m1 (show s < 256 by omega) (by omega)
  rw [decide_eq_false (show ¬ 0 < A s by omega)] at k90
  have k92 := c92n (v1 := nI f) m1 (show s < 256 by omega) ha
  have mm := m1
  obtain ⟨b0, b1, b2, b3, b4, b5, b6, b7⟩ := mm
  refine crq_mk ow117 (Nat.le_of_ble_eq_true rfl) ?_
  refine eq_ (fun _ k => ev_aload_n f117_0 rfl k) ?_
  refine eq_ (fun _ k => ev_iload_n f117_1 rfl k) ?_
  refine eq_ (fun _ k => ev_iload_n f117_2 rfl k) ?_
  refine eq_ (fun _ k => ev_v2 f117_3 ow114 (by assumption) rfl rfl (Nat.le_of_ble_eq_true rfl) (k1) k) ?_
  refine eq_ifneB (tgt := 11) f117_6 rfl (fun _ => ?_) (fun h9 => Bool.noConfusion (h9.symm.trans (rfl)))
  refine eq_ (fun _ k => ev_aload_n f117_11 rfl k) ?_
  refine eq_ (fun _ k => ev_iload_n f117_12 rfl k) ?_
  refine eq_ (fun _ k => ev_v1 f117_13 ow90 (by assumption) rfl (Nat.le_of_ble_eq_true rfl) (k90) k) ?_
  refine eq_ifeqB (tgt := 28) f117_16 rfl (fun _ => ?_) (fun h9 => Bool.noConfusion (h9.symm.trans (rfl)))
  refine eq_ (fun _ k => ev_iconst f117_28 k) ?_
  refine ⟨_, ev_iret f117_29 (rI rfl _) rfl, ?_⟩
  exact ⟨hs1, rfl, m1.ms, f1⟩
theorem d120 (h : MS hs q g l) (hi : MI q g) (hf : f < 4) (hs2 : s < 2 ^ q f) (he : SlotE (2 ^ q f) (2 ^ (12 - q f)) (g f) s k i) : CrQ 120 [.ref 39, .int (nI f), .int (nI s)] hs (some (.int (nI (!decide (s = k / 2 ^ (12 - q f))).toNat))) (MP hs q g 0) := by
  have a := h.1
  obtain ⟨hn, hm, hnm, hN, p2, o8⟩ := hi.fa hf
  obtain ⟨hs1, k1, ⟨A, B, C, D, E, m1, L, hC, hD⟩, f1⟩ := d114 h hi hf hs2
  obtain ⟨ha, hb⟩ := lm_ent hn hm hN L he
  have hk : k < 4096 := by have := he.1; omega
  have k90 := c90 m1 (show s < 256 by omega) (by omega)
  rw [decide_eq_true (show 0 < A s by omega)] at k90
  have k91 := c91 m1 hf o8 (show s < 256 by omega) ha hk
  have k92 := c92 m1 hf o8 (show s < 256 by omega) ha hk
  have k83 := c83 m1.ms hf o8
  have mm := m1
  obtain ⟨b0, b1, b2, b3, b4, b5, b6, b7⟩ := mm
  refine crq_mk ow120 (Nat.le_of_ble_eq_true rfl) ?_
  by_cases h0 : s = k / 2 ^ (12 - q f)
  · rw [decide_eq_true h0] at k92 ⊢
    refine eq_ (fun _ k => ev_aload_n f120_0 rfl k) ?_
    refine eq_ (fun _ k => ev_iload_n f120_1 rfl k) ?_
    refine eq_ (fun _ k => ev_iload_n f120_2 rfl k) ?_
    refine eq_ (fun _ k => ev_v2 f120_3 ow114 (by assumption) rfl rfl (Nat.le_of_ble_eq_true rfl) (k1) k) ?_
    refine eq_ifeqB (tgt := 22) f120_6 rfl (fun h9 => Bool.noConfusion (h9.symm.trans (rfl))) (fun _ => ?_)
    refine eq_ (fun _ k => ev_aload_n f120_9 rfl k) ?_
    refine eq_ (fun _ k => ev_iload_n f120_10 rfl k) ?_
    refine eq_ (fun _ k => ev_iload_n f120_11 rfl k) ?_
    refine eq_ (fun _ k => ev_v2 f120_12 ow92 (by assumption) rfl rfl (Nat.le_of_ble_eq_true rfl) (k92) k) ?_
    refine eq_ifeqB (tgt := 22) f120_15 rfl (fun _ => ?_) (fun h9 => Bool.noConfusion (h9.symm.trans (rfl)))
    refine eq_ (fun _ k => ev_iconstN (n := 0) f120_22 k) ?_
    first | refine ⟨_, ev_iret f120_23 (rZ rfl true) rfl, ?_⟩ | refine ⟨_, ev_iret f120_23 (rZ rfl false) rfl, ?_⟩ | refine ⟨_, ev_iret f120_23 (rZ rfl _) rfl, ?_⟩
    exact ⟨hs1, rfl, m1.ms, f1⟩
  · rw [decide_eq_false h0] at k92 ⊢
    refine eq_ (fun _ k => ev_aload_n f120_0 rfl k) ?_
    refine eq_ (fun _ k => ev_iload_n f120_1 rfl k) ?_
    refine eq_ (fun _ k => ev_iload_n f120_2 rfl k) ?_
    refine eq_ (fun _ k => ev_v2 f120_3 ow114 (by assumption) rfl rfl (Nat.le_of_ble_eq_true rfl) (k1) k) ?_
    refine eq_ifeqB (tgt := 22) f120_6 rfl (fun h9 => Bool.noConfusion (h9.symm.trans (rfl))) (fun _ => ?_)
    refine eq_ (fun _ k => ev_aload_n f120_9 rfl k) ?_
    refine eq_ (fun _ k => ev_iload_n f120_10 rfl k) ?_
    refine eq_ (fun _ k => ev_iload_n f120_11 rfl k) ?_
    refine eq_ (fun _ k => ev_v2 f120_12 ow92 (by assumption) rfl rfl (Nat.le_of_ble_eq_true rfl) (k92) k) ?_
    refine eq_ifeqB (tgt := 22) f120_15 rfl (fun h9 => Bool.noConfusion (h9.symm.trans (rfl))) (fun _ => ?_)
    refine eq_ (fun _ k => ev_iconstN (n := 1) f120_18 k) ?_
    refine eq_ (fun _ k => ev_goto (tgt := 23) f120_19 rfl k) ?_
    first | refine ⟨_, ev_iret f120_23 (rZ rfl true) rfl, ?_⟩ | refine ⟨_, ev_iret f120_23 (rZ rfl false) rfl, ?_⟩ | refine ⟨_, ev_iret f120_23 (rZ rfl _) rfl, ?_⟩
    exact ⟨hs1, rfl, m1.ms, f1⟩
theorem d120n (h : MS hs q g l) (hi : MI q g) (hf : f < 4) (hs2 : s < 2 ^ q f) (he : ∀ k i, ¬ SlotE (2 ^ q f) (2 ^ (12 - q f)) (g f) s k i) : CrQ 120 [.ref 39, .int (nI f), .int (nI s)] hs (some (.int (nI false.toNat))) (MP hs q g 0) := by
  have a := h.1
  obtain ⟨hn, hm, hnm, hN, p2, o8⟩ := hi.fa hf
  obtain ⟨hs1, k1, ⟨A, B, C, D, E, m1, L, hC, hD⟩, f1⟩ := d114 h hi hf hs2
  obtain ⟨ha, hb⟩ := lm_no L hs2 he
  have k90 := c90 m1 (show s < 256 by omega) (by omega)
  rw [decide_eq_false (show ¬ 0 < A s by omega)] at k90
  have k92 := c92n (v1 := nI f) m1 (show s < 256 by omega) ha
  have mm := m1
  obtain ⟨b0, b1, b2, b3, b4, b5, b6, b7⟩ := mm
  refine crq_mk ow120 (Nat.le_of_ble_eq_true rfl) ?_
  refine eq_ (fun _ k => ev_aload_n f120_0 rfl k) ?_
  refine eq_ (fun _ k => ev_iload_n f120_1 rfl k) ?_
  refine eq_ (fun _ k => ev_iload_n f120_2 rfl k) ?_
  refine eq_ (fun _ k => ev_v2 f120_3 ow114 (by assumption) rfl rfl (Nat.le_of_ble_eq_true rfl) (k1) k) ?_
  refine eq_ifeqB (tgt := 22) f120_6 rfl (fun h9 => Bool.noConfusion (h9.symm.trans (rfl))) (fun _ => ?_)
  refine eq_ (fun _ k => ev_aload_n f120_9 rfl k) ?_
  refine eq_ (fun _ k => ev_iload_n f120_10 rfl k) ?_
  refine eq_ (fun _ k => ev_iload_n f120_11 rfl k) ?_
  refine eq_ (fun _ k => ev_v2 f120_12 ow92 (by assumption) rfl rfl (Nat.le_of_ble_eq_true rfl) (k92) k) ?_
  refine eq_ifeqB (tgt := 22) f120_15 rfl (fun _ => ?_) (fun h9 => Bool.noConfusion (h9.symm.trans (rfl)))
  refine eq_ (fun _ k => ev_iconstN (n := 0) f120_22 k) ?_
  first | refine ⟨_, ev_iret f120_23 (rZ rfl true) rfl, ?_⟩ | refine ⟨_, ev_iret f120_23 (rZ rfl false) rfl, ?_⟩ | refine ⟨_, ev_iret f120_23 (rZ rfl _) rfl, ?_⟩
  exact ⟨hs1, rfl, m1.ms, f1⟩
theorem d118 (h : MS hs q g l) (hi : MI q g) (hf : f < 4) (hs2 : s < 2 ^ q f)  : CrQ 118 [.ref 39, .int (nI f), .int (nI s)] hs (some (.int (nI (decide (0 < lnN (2 ^ (12 - q f)) (g f) s)).toNat))) (MP hs q g 0) := by
  have a := h.1
  obtain ⟨hn, hm, hnm, hN, p2, o8⟩ := hi.fa hf
  obtain ⟨hs1, k1, ⟨A, B, C, D, E, m1, L, hC, hD⟩, f1⟩ := d114 h hi hf hs2
  have hc := hC s hs2
  have k83 := c83 m1.ms hf o8
  have mm := m1
  obtain ⟨b0, b1, b2, b3, b4, b5, b6, b7⟩ := mm
  have hle := ctq_le (2 ^ (12 - q f)) (g f) 4096 s (Nat.le_refl _)
  rw [show ctqN (2 ^ (12 - q f)) (g f) 4096 s = lnN (2 ^ (12 - q f)) (g f) s by rw [← hnm]; exact ctq_n hs2] at hle
  have hE := (hi.le hf).1
  rw [← hc] at hle ⊢
  refine crq_mk ow118 (Nat.le_of_ble_eq_true rfl) ?_
  by_cases h0 : 0 < C s
  · rw [decide_eq_true h0]
    refine eq_ (fun _ k => ev_aload_n f118_0 rfl k) ?_
    refine eq_ (fun _ k => ev_iload_n f118_1 rfl k) ?_
    refine eq_ (fun _ k => ev_iload_n f118_2 rfl k) ?_
    refine eq_ (fun _ k => ev_v2 f118_3 ow114 (by assumption) rfl rfl (Nat.le_of_ble_eq_true rfl) (k1) k) ?_
    refine eq_ifeqB (tgt := 22) f118_6 rfl (fun h9 => Bool.noConfusion (h9.symm.trans (rfl))) (fun _ => ?_)
    refine eq_ (fun _ k => ev_aload_n f118_9 rfl k) ?_
    refine eq_ (fun _ k => ev_getf f118_10 (by assumption) rfl k) ?_
    refine eq_ (fun _ k => ev_iload_n f118_13 rfl k) ?_
    refine eq_ (fun _ k => ev_iald f118_14 (by assumption) (by omega) (by omega) k) ?_
    refine eq_ifN (by omega) (tgt := 22) f118_15 rfl (fun h9 => absurd h9 (by simp only [akN] at *; omega)) (fun _ => ?_)
    refine eq_ (fun _ k => ev_iconstN (n := 1) f118_18 k) ?_
    refine eq_ (fun _ k => ev_goto (tgt := 23) f118_19 rfl k) ?_
    first | refine ⟨_, ev_iret f118_23 (rZ rfl true) rfl, ?_⟩ | refine ⟨_, ev_iret f118_23 (rZ rfl false) rfl, ?_⟩ | refine ⟨_, ev_iret f118_23 (rZ rfl _) rfl, ?_⟩
    exact ⟨hs1, rfl, m1.ms, f1⟩
  · rw [decide_eq_false h0]
    refine eq_ (fun _ k => ev_aload_n f118_0 rfl k) ?_
    refine eq_ (fun _ k => ev_iload_n f118_1 rfl k) ?_
    refine eq_ (fun _ k => ev_iload_n f118_2 rfl k) ?_
    refine eq_ (fun _ k => ev_v2 f118_3 ow114 (by assumption) rfl rfl (Nat.le_of_ble_eq_true rfl) (k1) k) ?_
    refine eq_ifeqB (tgt := 22) f118_6 rfl (fun h9 => Bool.noConfusion (h9.symm.trans (rfl))) (fun _ => ?_)
    refine eq_ (fun _ k => ev_aload_n f118_9 rfl k) ?_
    refine eq_ (fun _ k => ev_getf f118_10 (by assumption) rfl k) ?_
    refine eq_ (fun _ k => ev_iload_n f118_13 rfl k) ?_
    refine eq_ (fun _ k => ev_iald f118_14 (by assumption) (by omega) (by omega) k) ?_
    refine eq_ifN (by omega) (tgt := 22) f118_15 rfl (fun _ => ?_) (fun h9 => absurd (by simp only [akN] at *; omega) h9)
    refine eq_ (fun _ k => ev_iconstN (n := 0) f118_22 k) ?_
    first | refine ⟨_, ev_iret f118_23 (rZ rfl true) rfl, ?_⟩ | refine ⟨_, ev_iret f118_23 (rZ rfl false) rfl, ?_⟩ | refine ⟨_, ev_iret f118_23 (rZ rfl _) rfl, ?_⟩
    exact ⟨hs1, rfl, m1.ms, f1⟩
theorem d122 (h : MS hs q g l) (hi : MI q g) (hf : f < 4) (hs2 : s < 2 ^ q f)  : CrQ 122 [.ref 39, .int (nI f), .int (nI s)] hs (some (.int (nI (lnN (2 ^ (12 - q f)) (g f) s)))) (MP hs q g 0) := by
  have a := h.1
  obtain ⟨hn, hm, hnm, hN, p2, o8⟩ := hi.fa hf
  obtain ⟨hs1, k1, ⟨A, B, C, D, E, m1, L, hC, hD⟩, f1⟩ := d114 h hi hf hs2
  have hc := hC s hs2
  have k83 := c83 m1.ms hf o8
  have mm := m1
  obtain ⟨b0, b1, b2, b3, b4, b5, b6, b7⟩ := mm
  rw [← hc]
  refine crq_mk ow122 (Nat.le_of_ble_eq_true rfl) ?_
  refine eq_ (fun _ k => ev_aload_n f122_0 rfl k) ?_
  refine eq_ (fun _ k => ev_iload_n f122_1 rfl k) ?_
  refine eq_ (fun _ k => ev_iload_n f122_2 rfl k) ?_
  refine eq_ (fun _ k => ev_v2 f122_3 ow114 (by assumption) rfl rfl (Nat.le_of_ble_eq_true rfl) (k1) k) ?_
  refine eq_ifeqB (tgt := 18) f122_6 rfl (fun h9 => Bool.noConfusion (h9.symm.trans (rfl))) (fun _ => ?_)
  refine eq_ (fun _ k => ev_aload_n f122_9 rfl k) ?_
  refine eq_ (fun _ k => ev_getf f122_10 (by assumption) rfl k) ?_
  refine eq_ (fun _ k => ev_iload_n f122_13 rfl k) ?_
  refine eq_ (fun _ k => ev_iald f122_14 (by assumption) (by omega) (by omega) k) ?_
  refine eq_ (fun _ k => ev_goto (tgt := 19) f122_15 rfl k) ?_
  refine ⟨_, ev_iret f122_19 (rI rfl _) rfl, ?_⟩
  exact ⟨hs1, rfl, m1.ms, f1⟩
end MQ
