/-! the model's runStart, isContinuation; rows laid by wip/whole/walk.py -/
section MQ
variable {hs : amH} {q : Nat → Nat} {g : Nat → Nat → Nat} {l f s k i : Nat}
theorem d121 (h : MS hs q g l) (hi : MI q g) (hf : f < 4) (hs2 : s < 2 ^ q f) : CrQ 121 [.ref 39, .int (nI f), .int (nI s)] hs (some (.int (if 0 < lnN (2 ^ (12 - q f)) (g f) s then nI (PN (2 ^ q f) (2 ^ (12 - q f)) (g f) s % 2 ^ q f) else Int32.ofInt (-1)))) (MP hs q g 0) := by
  have a := h.1
  obtain ⟨hn, hm, hnm, hN, p2, o8⟩ := hi.fa hf
  obtain ⟨hs1, k1, ⟨A, B, C, D, E, m1, L, hC, hD⟩, f1⟩ := d114 h hi hf hs2
  have hc := hC s hs2
  have hd := hD s hs2
  have k83 := c83 m1.ms hf o8
  have hle := ctq_le (2 ^ (12 - q f)) (g f) 4096 s (Nat.le_refl _)
  rw [show ctqN (2 ^ (12 - q f)) (g f) 4096 s = lnN (2 ^ (12 - q f)) (g f) s by rw [← hnm]; exact ctq_n hs2] at hle
  have hE := (hi.le hf).1
  have hP := lp_P0 (lay_lin hn hN) s
  rw [PN_lt hs2] at hP ⊢
  have mm := m1
  obtain ⟨b0, b1, b2, b3, b4, b5, b6, b7⟩ := mm
  refine crq_mk ow121 (Nat.le_of_ble_eq_true rfl) ?_
  by_cases h0 : 0 < lnN (2 ^ (12 - q f)) (g f) s
  · have hd2 := hd h0
    rw [if_pos h0, ← hd2]
    refine eq_ (fun _ k => ev_aload_n f121_0 rfl k) ?_
    refine eq_ (fun _ k => ev_iload_n f121_1 rfl k) ?_
    refine eq_ (fun _ k => ev_iload_n f121_2 rfl k) ?_
    refine eq_ (fun _ k => ev_v2 f121_3 ow114 (by assumption) rfl rfl (Nat.le_of_ble_eq_true rfl) (k1) k) ?_
    refine eq_ifneB (tgt := 11) f121_6 rfl (fun _ => ?_) (fun h9 => Bool.noConfusion (h9.symm.trans (rfl)))
    refine eq_ (fun _ k => ev_aload_n f121_11 rfl k) ?_
    refine eq_ (fun _ k => ev_getf f121_12 (by assumption) rfl k) ?_
    refine eq_ (fun _ k => ev_iload_n f121_15 rfl k) ?_
    refine eq_ (fun _ k => ev_iald f121_16 (by assumption) (by omega) (by omega) k) ?_
    refine eq_ifN (by omega) (tgt := 35) f121_17 rfl (fun h9 => absurd h9 (by simp only [akN] at *; omega)) (fun _ => ?_)
    refine eq_ (fun _ k => ev_aload_n f121_20 rfl k) ?_
    refine eq_ (fun _ k => ev_getf f121_21 (by assumption) rfl k) ?_
    refine eq_ (fun _ k => ev_iload_n f121_24 rfl k) ?_
    refine eq_ (fun _ k => ev_iald f121_25 (by assumption) (by omega) (by omega) k) ?_
    refine eq_ (fun _ k => ev_aload_n f121_26 rfl k) ?_
    refine eq_ (fun _ k => ev_iload_n f121_27 rfl k) ?_
    refine eq_ (fun _ k => ev_v1 f121_28 ow83 (by assumption) rfl (Nat.le_of_ble_eq_true rfl) (k83) k) ?_
    refine eq_ (fun _ k => ev_iremN (by omega) (by omega) (by omega) f121_31 k) ?_
    refine eq_ (fun _ k => ev_goto (tgt := 36) f121_32 rfl k) ?_
    refine ⟨_, ev_iret f121_36 (rI rfl _) rfl, ?_⟩
    exact ⟨hs1, rfl, m1.ms, f1⟩
  · rw [if_neg h0]
    refine eq_ (fun _ k => ev_aload_n f121_0 rfl k) ?_
    refine eq_ (fun _ k => ev_iload_n f121_1 rfl k) ?_
    refine eq_ (fun _ k => ev_iload_n f121_2 rfl k) ?_
    refine eq_ (fun _ k => ev_v2 f121_3 ow114 (by assumption) rfl rfl (Nat.le_of_ble_eq_true rfl) (k1) k) ?_
    refine eq_ifneB (tgt := 11) f121_6 rfl (fun _ => ?_) (fun h9 => Bool.noConfusion (h9.symm.trans (rfl)))
    refine eq_ (fun _ k => ev_aload_n f121_11 rfl k) ?_
    refine eq_ (fun _ k => ev_getf f121_12 (by assumption) rfl k) ?_
    refine eq_ (fun _ k => ev_iload_n f121_15 rfl k) ?_
    refine eq_ (fun _ k => ev_iald f121_16 (by assumption) (by omega) (by omega) k) ?_
    refine eq_ifN (by omega) (tgt := 35) f121_17 rfl (fun _ => ?_) (fun h9 => absurd (by simp only [akN] at *; omega) h9)
    refine eq_ (fun _ k => ev_iconst f121_35 k) ?_
    refine ⟨_, ev_iret f121_36 (rI rfl _) rfl, ?_⟩
    exact ⟨hs1, rfl, m1.ms, f1⟩
theorem d119 (h : MS hs q g l) (hi : MI q g) (hf : f < 4) (hs2 : s < 2 ^ q f) (he : SlotE (2 ^ q f) (2 ^ (12 - q f)) (g f) s k i) : CrQ 119 [.ref 39, .int (nI f), .int (nI s)] hs (some (.int (nI (decide (0 < EE (g f) k - EE (g f) (k / 2 ^ (12 - q f) * 2 ^ (12 - q f)) + i)).toNat))) (MP hs q g 0) := by
  have a := h.1
  obtain ⟨hn, hm, hnm, hN, p2, o8⟩ := hi.fa hf
  obtain ⟨hs1, k1, ⟨A, B, C, D, E, m1, L, hC, hD⟩, f1⟩ := d114 h hi hf hs2
  obtain ⟨ha, hb⟩ := lm_ent hn hm hN L he
  have hk : k < 4096 := by have := he.1; omega
  have hq := am_quo (hi f hf).1 o8 hk
  have k90 := c90 m1 (show s < 256 by omega) (by omega)
  rw [decide_eq_true (show 0 < A s by omega)] at k90
  have k91 := c91 m1 hf o8 (show s < 256 by omega) ha hk
  have k83 := c83 m1.ms hf o8
  have hl := lay_lin hn hN
  have hin := ps_inL (g := g f) hm hq
  obtain ⟨x1, x2, x3⟩ := he
  have hd := hD _ hq (by rw [LN_lt hq] at hin; omega)
  have hdis := lp_disp hl (x := k / 2 ^ (12 - q f)) (by omega)
  have hge := hl.2.2.2.2.1 (k / 2 ^ (12 - q f))
  have hPN : PN (2 ^ q f) (2 ^ (12 - q f)) (g f) (k / 2 ^ (12 - q f)) = D (k / 2 ^ (12 - q f)) := by rw [PN_lt hq, hd]
  have hps : psN (2 ^ q f) (2 ^ (12 - q f)) (g f) k + i = D (k / 2 ^ (12 - q f)) + (EE (g f) k - EE (g f) (k / 2 ^ (12 - q f) * 2 ^ (12 - q f)) + i) := by
    unfold psN
    rw [hPN]
    omega
  rw [hps] at x3
  rw [hPN] at hdis hge
  have mm := m1
  obtain ⟨b0, b1, b2, b3, b4, b5, b6, b7⟩ := mm
  refine crq_mk ow119 (Nat.le_of_ble_eq_true rfl) ?_
  by_cases h0 : 0 < EE (g f) k - EE (g f) (k / 2 ^ (12 - q f) * 2 ^ (12 - q f)) + i
  · rw [decide_eq_true h0]
    have hne : ¬ D (k / 2 ^ (12 - q f)) % 2 ^ q f = s := by
      rw [← x3]
      exact lt_mod_ne (by omega) (by omega)
    refine eq_ (fun _ k => ev_aload_n f119_0 rfl k) ?_
    refine eq_ (fun _ k => ev_iload_n f119_1 rfl k) ?_
    refine eq_ (fun _ k => ev_iload_n f119_2 rfl k) ?_
    refine eq_ (fun _ k => ev_v2 f119_3 ow114 (by assumption) rfl rfl (Nat.le_of_ble_eq_true rfl) (k1) k) ?_
    refine eq_ifeqB (tgt := 42) f119_6 rfl (fun h9 => Bool.noConfusion (h9.symm.trans (rfl))) (fun _ => ?_)
    refine eq_ (fun _ k => ev_aload_n f119_9 rfl k) ?_
    refine eq_ (fun _ k => ev_iload_n f119_10 rfl k) ?_
    refine eq_ (fun _ k => ev_v1 f119_11 ow90 (by assumption) rfl (Nat.le_of_ble_eq_true rfl) (k90) k) ?_
    refine eq_ifeqB (tgt := 42) f119_14 rfl (fun h9 => Bool.noConfusion (h9.symm.trans (rfl))) (fun _ => ?_)
    refine eq_ (fun _ k => ev_aload_n f119_17 rfl k) ?_
    refine eq_ (fun _ k => ev_getf f119_18 (by assumption) rfl k) ?_
    refine eq_ (fun _ k => ev_aload_n f119_21 rfl k) ?_
    refine eq_ (fun _ k => ev_iload_n f119_22 rfl k) ?_
    refine eq_ (fun _ k => ev_iload_n f119_23 rfl k) ?_
    refine eq_ (fun _ k => ev_v2 f119_24 ow91 (by assumption) rfl rfl (Nat.le_of_ble_eq_true rfl) (k91) k) ?_
    refine eq_ (fun _ k => ev_iald f119_27 (by assumption) (by omega) (by omega) k) ?_
    refine eq_ (fun _ k => ev_aload_n f119_28 rfl k) ?_
    refine eq_ (fun _ k => ev_iload_n f119_29 rfl k) ?_
    refine eq_ (fun _ k => ev_v1 f119_30 ow83 (by assumption) rfl (Nat.le_of_ble_eq_true rfl) (k83) k) ?_
    refine eq_ (fun _ k => ev_iremN (by omega) (by omega) (by omega) f119_33 k) ?_
    refine eq_ (fun _ k => ev_iload_n f119_34 rfl k) ?_
    refine eq_icN (by omega) (by omega) (tgt := 42) f119_35 rfl (fun h9 => absurd h9 (fun w => hne w)) (fun _ => ?_)
    refine eq_ (fun _ k => ev_iconstN (n := 1) f119_38 k) ?_
    refine eq_ (fun _ k => ev_goto (tgt := 43) f119_39 rfl k) ?_
    first | refine ⟨_, ev_iret f119_43 (rZ rfl true) rfl, ?_⟩ | refine ⟨_, ev_iret f119_43 (rZ rfl false) rfl, ?_⟩ | refine ⟨_, ev_iret f119_43 (rZ rfl _) rfl, ?_⟩
    exact ⟨hs1, rfl, m1.ms, f1⟩
  · rw [decide_eq_false h0]
    have hne : D (k / 2 ^ (12 - q f)) % 2 ^ q f = s := by
      rw [← x3, show EE (g f) k - EE (g f) (k / 2 ^ (12 - q f) * 2 ^ (12 - q f)) + i = 0 by omega, Nat.add_zero]
    refine eq_ (fun _ k => ev_aload_n f119_0 rfl k) ?_
    refine eq_ (fun _ k => ev_iload_n f119_1 rfl k) ?_
    refine eq_ (fun _ k => ev_iload_n f119_2 rfl k) ?_
    refine eq_ (fun _ k => ev_v2 f119_3 ow114 (by assumption) rfl rfl (Nat.le_of_ble_eq_true rfl) (k1) k) ?_
    refine eq_ifeqB (tgt := 42) f119_6 rfl (fun h9 => Bool.noConfusion (h9.symm.trans (rfl))) (fun _ => ?_)
    refine eq_ (fun _ k => ev_aload_n f119_9 rfl k) ?_
    refine eq_ (fun _ k => ev_iload_n f119_10 rfl k) ?_
    refine eq_ (fun _ k => ev_v1 f119_11 ow90 (by assumption) rfl (Nat.le_of_ble_eq_true rfl) (k90) k) ?_
    refine eq_ifeqB (tgt := 42) f119_14 rfl (fun h9 => Bool.noConfusion (h9.symm.trans (rfl))) (fun _ => ?_)
    refine eq_ (fun _ k => ev_aload_n f119_17 rfl k) ?_
    refine eq_ (fun _ k => ev_getf f119_18 (by assumption) rfl k) ?_
    refine eq_ (fun _ k => ev_aload_n f119_21 rfl k) ?_
    refine eq_ (fun _ k => ev_iload_n f119_22 rfl k) ?_
    refine eq_ (fun _ k => ev_iload_n f119_23 rfl k) ?_
    refine eq_ (fun _ k => ev_v2 f119_24 ow91 (by assumption) rfl rfl (Nat.le_of_ble_eq_true rfl) (k91) k) ?_
    refine eq_ (fun _ k => ev_iald f119_27 (by assumption) (by omega) (by omega) k) ?_
    refine eq_ (fun _ k => ev_aload_n f119_28 rfl k) ?_
    refine eq_ (fun _ k => ev_iload_n f119_29 rfl k) ?_
    refine eq_ (fun _ k => ev_v1 f119_30 ow83 (by assumption) rfl (Nat.le_of_ble_eq_true rfl) (k83) k) ?_
    refine eq_ (fun _ k => ev_iremN (by omega) (by omega) (by omega) f119_33 k) ?_
    refine eq_ (fun _ k => ev_iload_n f119_34 rfl k) ?_
    refine eq_icN (by omega) (by omega) (tgt := 42) f119_35 rfl (fun _ => ?_) (fun h9 => absurd hne h9)
    refine eq_ (fun _ k => ev_iconstN (n := 0) f119_42 k) ?_
    first | refine ⟨_, ev_iret f119_43 (rZ rfl true) rfl, ?_⟩ | refine ⟨_, ev_iret f119_43 (rZ rfl false) rfl, ?_⟩ | refine ⟨_, ev_iret f119_43 (rZ rfl _) rfl, ?_⟩
    exact ⟨hs1, rfl, m1.ms, f1⟩
theorem d119n (h : MS hs q g l) (hi : MI q g) (hf : f < 4) (hs2 : s < 2 ^ q f) (he : ∀ k i, ¬ SlotE (2 ^ q f) (2 ^ (12 - q f)) (g f) s k i) : CrQ 119 [.ref 39, .int (nI f), .int (nI s)] hs (some (.int (nI false.toNat))) (MP hs q g 0) := by
  have a := h.1
  obtain ⟨hn, hm, hnm, hN, p2, o8⟩ := hi.fa hf
  obtain ⟨hs1, k1, ⟨A, B, C, D, E, m1, L, hC, hD⟩, f1⟩ := d114 h hi hf hs2
  obtain ⟨ha, hb⟩ := lm_no L hs2 he
  have k90 := c90 m1 (show s < 256 by omega) (by omega)
  rw [decide_eq_false (show ¬ 0 < A s by omega)] at k90
  have mm := m1
  obtain ⟨b0, b1, b2, b3, b4, b5, b6, b7⟩ := mm
  refine crq_mk ow119 (Nat.le_of_ble_eq_true rfl) ?_
  refine eq_ (fun _ k => ev_aload_n f119_0 rfl k) ?_
  refine eq_ (fun _ k => ev_iload_n f119_1 rfl k) ?_
  refine eq_ (fun _ k => ev_iload_n f119_2 rfl k) ?_
  refine eq_ (fun _ k => ev_v2 f119_3 ow114 (by assumption) rfl rfl (Nat.le_of_ble_eq_true rfl) (k1) k) ?_
  refine eq_ifeqB (tgt := 42) f119_6 rfl (fun h9 => Bool.noConfusion (h9.symm.trans (rfl))) (fun _ => ?_)
  refine eq_ (fun _ k => ev_aload_n f119_9 rfl k) ?_
  refine eq_ (fun _ k => ev_iload_n f119_10 rfl k) ?_
  refine eq_ (fun _ k => ev_v1 f119_11 ow90 (by assumption) rfl (Nat.le_of_ble_eq_true rfl) (k90) k) ?_
  refine eq_ifeqB (tgt := 42) f119_14 rfl (fun _ => ?_) (fun h9 => Bool.noConfusion (h9.symm.trans (rfl)))
  refine eq_ (fun _ k => ev_iconstN (n := 0) f119_42 k) ?_
  first | refine ⟨_, ev_iret f119_43 (rZ rfl true) rfl, ?_⟩ | refine ⟨_, ev_iret f119_43 (rZ rfl false) rfl, ?_⟩ | refine ⟨_, ev_iret f119_43 (rZ rfl _) rfl, ?_⟩
  exact ⟨hs1, rfl, m1.ms, f1⟩
end MQ
