/-! the model's questions about slots; rows laid by wip/whole/walk.py -/
section MQ
variable {hs : amH} {q : Nat → Nat} {g : Nat → Nat → Nat} {l f s k i : Nat} {A B C D E : Nat → Nat} {p0 v1 : Int32}
theorem c90 (h : MSx hs q g l A B C D E) (hs2 : s < 256) (ha : A s < 2 ^ 31) : Cr 90 [.ref 39, .int (nI s)] hs (some (.int (nI (decide (0 < A s)).toNat))) hs := by
  obtain ⟨a, b, c, d1, -⟩ := h
  refine cr_mk ow90 (Nat.le_of_ble_eq_true rfl) ?_
  by_cases h0 : 0 < A s
  · rw [decide_eq_true h0]
    refine ev_aload_n f90_0 rfl ?_
    refine ev_getf f90_1 (by assumption) rfl ?_
    refine ev_iload_n f90_4 rfl ?_
    refine ev_iald f90_5 (by assumption) (by omega) (by omega) ?_
    refine ev_ifN (by omega) (tgt := 13) f90_6 rfl (fun h9 => absurd h9 (by simp only [akN] at *; omega)) (fun _ => ?_)
    refine ev_iconstN (n := 1) f90_9 ?_
    refine ev_goto (tgt := 14) f90_10 rfl ?_
    first | exact ev_iret f90_14 (rZ rfl true) rfl | exact ev_iret f90_14 (rZ rfl false) rfl | exact ev_iret f90_14 (rZ rfl _) rfl
  · rw [decide_eq_false h0]
    refine ev_aload_n f90_0 rfl ?_
    refine ev_getf f90_1 (by assumption) rfl ?_
    refine ev_iload_n f90_4 rfl ?_
    refine ev_iald f90_5 (by assumption) (by omega) (by omega) ?_
    refine ev_ifN (by omega) (tgt := 13) f90_6 rfl (fun _ => ?_) (fun h9 => absurd (by simp only [akN] at *; omega) h9)
    refine ev_iconstN (n := 0) f90_13 ?_
    first | exact ev_iret f90_14 (rZ rfl true) rfl | exact ev_iret f90_14 (rZ rfl false) rfl | exact ev_iret f90_14 (rZ rfl _) rfl
theorem c91 (h : MSx hs q g l A B C D E) (hf : f < 4) (hq : q f ≤ 8) (hs2 : s < 256) (ha : A s = k + 1) (hk : k < 4096) : Cr 91 [.ref 39, .int (nI f), .int (nI s)] hs (some (.int (nI (k / 2 ^ (12 - q f))))) hs := by
  obtain ⟨a, b, c, d1, -⟩ := h
  refine cr_mk ow91 (Nat.le_of_ble_eq_true rfl) ?_
  refine ev_aload_n f91_0 rfl ?_
  refine ev_getf f91_1 (by assumption) rfl ?_
  refine ev_iload_n f91_4 rfl ?_
  refine ev_iald f91_5 (by assumption) (by omega) (by omega) ?_
  rw [ha]
  refine ev_iconstN (n := 1) f91_6 ?_
  refine ev_isubN (by omega) f91_7 ?_
  refine ev_bipushN (n := 12) (by omega) f91_8 ?_
  refine ev_aload_n f91_10 rfl ?_
  refine ev_getf f91_11 (by assumption) rfl ?_
  refine ev_iload_n f91_14 rfl ?_
  refine ev_iald f91_15 (by assumption) (by omega) (by omega) ?_
  refine ev_isubN (by omega) f91_16 ?_
  refine ev_ishr f91_17 ?_
  rw [pk_shrN (by omega) _ (12 - q f) (am_sh _ (by omega))]
  exact ev_iret f91_18 (rI rfl _) rfl
theorem c92 (h : MSx hs q g l A B C D E) (hf : f < 4) (hq : q f ≤ 8) (hs2 : s < 256) (ha : A s = k + 1) (hk : k < 4096) : Cr 92 [.ref 39, .int (nI f), .int (nI s)] hs (some (.int (nI (!decide (s = k / 2 ^ (12 - q f))).toNat))) hs := by
  have k90 := c90 h hs2 (by omega)
  rw [decide_eq_true (show 0 < A s by omega)] at k90
  have k91 := c91 h hf hq hs2 ha hk
  have hle : k / 2 ^ (12 - q f) ≤ k := Nat.div_le_self _ _
  obtain ⟨a, b, c, d1, -⟩ := h
  refine cr_mk ow92 (Nat.le_of_ble_eq_true rfl) ?_
  by_cases h0 : s = k / 2 ^ (12 - q f)
  · rw [decide_eq_true h0]
    refine ev_aload_n f92_0 rfl ?_
    refine ev_iload_n f92_1 rfl ?_
    refine ev_v1 f92_2 ow90 (by assumption) rfl (Nat.le_of_ble_eq_true rfl) (k90) ?_
    refine ev_ifeqB (tgt := 22) f92_5 rfl (fun h9 => Bool.noConfusion (h9.symm.trans (rfl))) (fun _ => ?_)
    refine ev_aload_n f92_8 rfl ?_
    refine ev_iload_n f92_9 rfl ?_
    refine ev_iload_n f92_10 rfl ?_
    refine ev_v2 f92_11 ow91 (by assumption) rfl rfl (Nat.le_of_ble_eq_true rfl) (k91) ?_
    refine ev_iload_n f92_14 rfl ?_
    refine ev_icN (by omega) (by omega) (tgt := 22) f92_15 rfl (fun _ => ?_) (fun h9 => absurd h0.symm h9)
    refine ev_iconstN (n := 0) f92_22 ?_
    first | exact ev_iret f92_23 (rZ rfl true) rfl | exact ev_iret f92_23 (rZ rfl false) rfl | exact ev_iret f92_23 (rZ rfl _) rfl
  · rw [decide_eq_false h0]
    refine ev_aload_n f92_0 rfl ?_
    refine ev_iload_n f92_1 rfl ?_
    refine ev_v1 f92_2 ow90 (by assumption) rfl (Nat.le_of_ble_eq_true rfl) (k90) ?_
    refine ev_ifeqB (tgt := 22) f92_5 rfl (fun h9 => Bool.noConfusion (h9.symm.trans (rfl))) (fun _ => ?_)
    refine ev_aload_n f92_8 rfl ?_
    refine ev_iload_n f92_9 rfl ?_
    refine ev_iload_n f92_10 rfl ?_
    refine ev_v2 f92_11 ow91 (by assumption) rfl rfl (Nat.le_of_ble_eq_true rfl) (k91) ?_
    refine ev_iload_n f92_14 rfl ?_
    refine ev_icN (by omega) (by omega) (tgt := 22) f92_15 rfl (fun h9 => absurd h9 (fun w => h0 (Eq.symm w))) (fun _ => ?_)
    refine ev_iconstN (n := 1) f92_18 ?_
    refine ev_goto (tgt := 23) f92_19 rfl ?_
    first | exact ev_iret f92_23 (rZ rfl true) rfl | exact ev_iret f92_23 (rZ rfl false) rfl | exact ev_iret f92_23 (rZ rfl _) rfl
theorem c92n (h : MSx hs q g l A B C D E) (hs2 : s < 256) (ha : A s = 0) : Cr 92 [.ref 39, .int v1, .int (nI s)] hs (some (.int (nI false.toNat))) hs := by
  have k90 := c90 h hs2 (by omega)
  rw [decide_eq_false (show ¬ 0 < A s by omega)] at k90
  obtain ⟨a, b, c, d1, -⟩ := h
  refine cr_mk ow92 (Nat.le_of_ble_eq_true rfl) ?_
  refine ev_aload_n f92_0 rfl ?_
  refine ev_iload_n f92_1 rfl ?_
  refine ev_v1 f92_2 ow90 (by assumption) rfl (Nat.le_of_ble_eq_true rfl) (k90) ?_
  refine ev_ifeqB (tgt := 22) f92_5 rfl (fun _ => ?_) (fun h9 => Bool.noConfusion (h9.symm.trans (rfl)))
  refine ev_iconstN (n := 0) f92_22 ?_
  first | exact ev_iret f92_23 (rZ rfl true) rfl | exact ev_iret f92_23 (rZ rfl false) rfl | exact ev_iret f92_23 (rZ rfl _) rfl
theorem d114t (h : MS hs q g l) (hp : ¬ inR p0 4) : CrQ 114 [.ref 39, .int p0, .int v1] hs (some (.int (nI false.toNat))) (MP hs q g 1) := by
  have a := h.1
  obtain ⟨hs1, k1, m1, f1⟩ := go_n h
  refine crq_mk ow114 (Nat.le_of_ble_eq_true rfl) ?_
  refine eq_ (fun _ k => ev_aload_n f114_0 rfl k) ?_
  refine eq_ (fun _ k => ev_iload_n f114_1 rfl k) ?_
  refine eq_ (fun _ k => ev_s1 f114_2 (by decide) ow80 rfl (Nat.le_of_ble_eq_true rfl) (c80n hp) k) ?_
  refine eq_ifeqB (tgt := 27) f114_5 rfl (fun _ => ?_) (fun h9 => Bool.noConfusion (h9.symm.trans (rfl)))
  refine eq_ (fun _ k => ev_iconstN (n := 0) f114_27 k) ?_
  refine eq_ (fun _ k => ev_iconstN (n := 1) f114_28 k) ?_
  refine eq_ (fun _ k => ev_v2 f114_29 ow82 (by assumption) rfl rfl (Nat.le_of_ble_eq_true rfl) (k1) k) ?_
  refine eq_ifneB (tgt := 37) f114_32 rfl (fun h9 => Bool.noConfusion (h9.symm.trans (rfl))) (fun _ => ?_)
  refine eq_ (fun _ k => ev_iconstN (n := 0) f114_35 k) ?_
  first | refine ⟨_, ev_iret f114_36 (rZ rfl true) rfl, ?_⟩ | refine ⟨_, ev_iret f114_36 (rZ rfl false) rfl, ?_⟩ | refine ⟨_, ev_iret f114_36 (rZ rfl _) rfl, ?_⟩
  exact ⟨hs1, rfl, m1, f1⟩
theorem d114s (h : MS hs q g l) (hi : MI q g) (hf : f < 4) (hp : ¬ inR v1 (2 ^ q f)) : CrQ 114 [.ref 39, .int (nI f), .int v1] hs (some (.int (nI false.toNat))) (MP hs q g 1) := by
  have a := h.1
  obtain ⟨o3, o8, o4, o5⟩ := hi f hf
  obtain ⟨p1, p2⟩ := am_pow o3 o8
  obtain ⟨hs1, k1, m1, f1⟩ := go_n h
  have k79 := c79n (hs := hs) (inR_no1 (by omega) (by omega) hp)
  refine crq_mk ow114 (Nat.le_of_ble_eq_true rfl) ?_
  refine eq_ (fun _ k => ev_aload_n f114_0 rfl k) ?_
  refine eq_ (fun _ k => ev_iload_n f114_1 rfl k) ?_
  refine eq_ (fun _ k => ev_s1 f114_2 (by decide) ow80 rfl (Nat.le_of_ble_eq_true rfl) (c80 hf) k) ?_
  refine eq_ifeqB (tgt := 27) f114_5 rfl (fun h9 => Bool.noConfusion (h9.symm.trans (rfl))) (fun _ => ?_)
  refine eq_ (fun _ k => ev_iload_n f114_8 rfl k) ?_
  refine eq_ (fun _ k => ev_iconstN (n := 0) f114_9 k) ?_
  refine eq_ (fun _ k => ev_aload_n f114_10 rfl k) ?_
  refine eq_ (fun _ k => ev_iload_n f114_11 rfl k) ?_
  refine eq_ (fun _ k => ev_v1 f114_12 ow83 (by assumption) rfl (Nat.le_of_ble_eq_true rfl) (c83 h hf o8) k) ?_
  refine eq_ (fun _ k => ev_iconstN (n := 1) f114_15 k) ?_
  refine eq_ (fun _ k => ev_isubN (by omega) f114_16 k) ?_
  refine eq_ (fun _ k => ev_s3 f114_17 (by decide) ow79 rfl rfl rfl (Nat.le_of_ble_eq_true rfl) (k79) k) ?_
  refine eq_ifeqB (tgt := 27) f114_20 rfl (fun _ => ?_) (fun h9 => Bool.noConfusion (h9.symm.trans (rfl)))
  refine eq_ (fun _ k => ev_iconstN (n := 0) f114_27 k) ?_
  refine eq_ (fun _ k => ev_iconstN (n := 1) f114_28 k) ?_
  refine eq_ (fun _ k => ev_v2 f114_29 ow82 (by assumption) rfl rfl (Nat.le_of_ble_eq_true rfl) (k1) k) ?_
  refine eq_ifneB (tgt := 37) f114_32 rfl (fun h9 => Bool.noConfusion (h9.symm.trans (rfl))) (fun _ => ?_)
  refine eq_ (fun _ k => ev_iconstN (n := 0) f114_35 k) ?_
  first | refine ⟨_, ev_iret f114_36 (rZ rfl true) rfl, ?_⟩ | refine ⟨_, ev_iret f114_36 (rZ rfl false) rfl, ?_⟩ | refine ⟨_, ev_iret f114_36 (rZ rfl _) rfl, ?_⟩
  exact ⟨hs1, rfl, m1, f1⟩
theorem d114 (h : MS hs q g l) (hi : MI q g) (hf : f < 4) (hs2 : s < 2 ^ q f) : CrQ 114 [.ref 39, .int (nI f), .int (nI s)] hs (some (.int (nI true.toNat))) (fun hs' => MLaid hs' q g 0 f ∧ Fr hs hs' 39 47) := by
  have a := h.1
  obtain ⟨o3, o8, o4, o5⟩ := hi f hf
  obtain ⟨p1, p2⟩ := am_pow o3 o8
  obtain ⟨hs1, k1, m1, f1⟩ := go_y h
  have k79 := c79 (hs := hs) (v := s) (a := 0) (b := 2 ^ q f - 1) (by omega) (by omega) (by omega)
  rw [decide_eq_true ⟨by omega, by omega⟩] at k79
  obtain ⟨hs3, k3, m3, f3⟩ := c89 m1 hi hf
  have a1 := m1.1
  refine crq_mk ow114 (Nat.le_of_ble_eq_true rfl) ?_
  refine eq_ (fun _ k => ev_aload_n f114_0 rfl k) ?_
  refine eq_ (fun _ k => ev_iload_n f114_1 rfl k) ?_
  refine eq_ (fun _ k => ev_s1 f114_2 (by decide) ow80 rfl (Nat.le_of_ble_eq_true rfl) (c80 hf) k) ?_
  refine eq_ifeqB (tgt := 27) f114_5 rfl (fun h9 => Bool.noConfusion (h9.symm.trans (rfl))) (fun _ => ?_)
  refine eq_ (fun _ k => ev_iload_n f114_8 rfl k) ?_
  refine eq_ (fun _ k => ev_iconstN (n := 0) f114_9 k) ?_
  refine eq_ (fun _ k => ev_aload_n f114_10 rfl k) ?_
  refine eq_ (fun _ k => ev_iload_n f114_11 rfl k) ?_
  refine eq_ (fun _ k => ev_v1 f114_12 ow83 (by assumption) rfl (Nat.le_of_ble_eq_true rfl) (c83 h hf o8) k) ?_
  refine eq_ (fun _ k => ev_iconstN (n := 1) f114_15 k) ?_
  refine eq_ (fun _ k => ev_isubN (by omega) f114_16 k) ?_
  refine eq_ (fun _ k => ev_s3 f114_17 (by decide) ow79 rfl rfl rfl (Nat.le_of_ble_eq_true rfl) (k79) k) ?_
  refine eq_ifeqB (tgt := 27) f114_20 rfl (fun h9 => Bool.noConfusion (h9.symm.trans (rfl))) (fun _ => ?_)
  refine eq_ (fun _ k => ev_iconstN (n := 1) f114_23 k) ?_
  refine eq_ (fun _ k => ev_goto (tgt := 28) f114_24 rfl k) ?_
  refine eq_ (fun _ k => ev_iconstN (n := 1) f114_28 k) ?_
  refine eq_ (fun _ k => ev_v2 f114_29 ow82 (by assumption) rfl rfl (Nat.le_of_ble_eq_true rfl) (k1) k) ?_
  refine eq_ifneB (tgt := 37) f114_32 rfl (fun _ => ?_) (fun h9 => Bool.noConfusion (h9.symm.trans (rfl)))
  refine eq_ (fun _ k => ev_aload_n f114_37 rfl k) ?_
  refine eq_ (fun _ k => ev_iload_n f114_38 rfl k) ?_
  refine eq_ (fun _ k => ev_v1 f114_39 ow89 (by assumption) rfl (Nat.le_of_ble_eq_true rfl) (k3) k) ?_
  refine eq_ (fun _ k => ev_iconstN (n := 1) f114_42 k) ?_
  first | refine ⟨_, ev_iret f114_43 (rZ rfl true) rfl, ?_⟩ | refine ⟨_, ev_iret f114_43 (rZ rfl false) rfl, ?_⟩ | refine ⟨_, ev_iret f114_43 (rZ rfl _) rfl, ?_⟩
  exact ⟨hs3, rfl, m3, f1.tr f3⟩
theorem lm_ent {n m : Nat} {g : Nat → Nat} (hn : 0 < n) (hm : 0 < m) (hN : EE g (n * m) < n) (h : LayM n m g (ovN n m g + n) A B) (hs : SlotE n m g s k i) : A s = k + 1 ∧ B s = min (g k - 7 * i) 7 := by
  obtain ⟨a1, a2, a3⟩ := hs
  have h1 := h.1 k i ⟨a1, a2, by have := ps_hi hn hm hN a1; omega⟩
  rw [a3] at h1
  exact h1
theorem lm_no {n m : Nat} {g : Nat → Nat} (h : LayM n m g (ovN n m g + n) A B) (hs : s < n) (hno : ∀ k i, ¬ SlotE n m g s k i) : A s = 0 ∧ B s = 0 :=
  h.2 s hs (fun k i ⟨q1, q2, _⟩ e => hno k i ⟨q1, q2, e⟩)
theorem MI.fa (hi : MI q g) (hf : f < 4) : 0 < 2 ^ q f ∧ 0 < 2 ^ (12 - q f) ∧ 2 ^ q f * 2 ^ (12 - q f) = 4096 ∧ EE (g f) (2 ^ q f * 2 ^ (12 - q f)) < 2 ^ q f ∧ 2 ^ q f ≤ 256 ∧ q f ≤ 8 := by
  obtain ⟨o3, o8, o4, o5⟩ := hi f hf
  obtain ⟨p1, p2⟩ := am_pow o3 o8
  have hnm := am_nm o8
  exact ⟨by omega, Nat.two_pow_pos _, hnm, by rw [hnm]; omega, p2, o8⟩
theorem d115t (h : MS hs q g l) (hp : ¬ inR p0 4) : CrQ 115 [.ref 39, .int p0, .int v1] hs (some (.int (nI 0))) (MP hs q g 1) := by
  have a := h.1
  obtain ⟨hs1, k1, m1, f1⟩ := d114t (v1 := v1) h hp
  refine crq_mk ow115 (Nat.le_of_ble_eq_true rfl) ?_
  refine eq_ (fun _ k => ev_aload_n f115_0 rfl k) ?_
  refine eq_ (fun _ k => ev_iload_n f115_1 rfl k) ?_
  refine eq_ (fun _ k => ev_iload_n f115_2 rfl k) ?_
  refine eq_ (fun _ k => ev_v2 f115_3 ow114 (by assumption) rfl rfl (Nat.le_of_ble_eq_true rfl) (k1) k) ?_
  refine eq_ifneB (tgt := 11) f115_6 rfl (fun h9 => Bool.noConfusion (h9.symm.trans (rfl))) (fun _ => ?_)
  refine eq_ (fun _ k => ev_iconstN (n := 0) f115_9 k) ?_
  refine ⟨_, ev_iret f115_10 (rI rfl _) rfl, ?_⟩
  exact ⟨hs1, rfl, m1, f1⟩
theorem d115s (h : MS hs q g l) (hi : MI q g) (hf : f < 4) (hp : ¬ inR v1 (2 ^ q f)) : CrQ 115 [.ref 39, .int (nI f), .int v1] hs (some (.int (nI 0))) (MP hs q g 1) := by
  have a := h.1
  obtain ⟨hs1, k1, m1, f1⟩ := d114s h hi hf hp
  refine crq_mk ow115 (Nat.le_of_ble_eq_true rfl) ?_
  refine eq_ (fun _ k => ev_aload_n f115_0 rfl k) ?_
  refine eq_ (fun _ k => ev_iload_n f115_1 rfl k) ?_
  refine eq_ (fun _ k => ev_iload_n f115_2 rfl k) ?_
  refine eq_ (fun _ k => ev_v2 f115_3 ow114 (by assumption) rfl rfl (Nat.le_of_ble_eq_true rfl) (k1) k) ?_
  refine eq_ifneB (tgt := 11) f115_6 rfl (fun h9 => Bool.noConfusion (h9.symm.trans (rfl))) (fun _ => ?_)
  refine eq_ (fun _ k => ev_iconstN (n := 0) f115_9 k) ?_
  refine ⟨_, ev_iret f115_10 (rI rfl _) rfl, ?_⟩
  exact ⟨hs1, rfl, m1, f1⟩
theorem d116t (h : MS hs q g l) (hp : ¬ inR p0 4) : CrQ 116 [.ref 39, .int p0, .int v1] hs (some (.int (nI 0))) (MP hs q g 1) := by
  have a := h.1
  obtain ⟨hs1, k1, m1, f1⟩ := d114t (v1 := v1) h hp
  refine crq_mk ow116 (Nat.le_of_ble_eq_true rfl) ?_
  refine eq_ (fun _ k => ev_aload_n f116_0 rfl k) ?_
  refine eq_ (fun _ k => ev_iload_n f116_1 rfl k) ?_
  refine eq_ (fun _ k => ev_iload_n f116_2 rfl k) ?_
  refine eq_ (fun _ k => ev_v2 f116_3 ow114 (by assumption) rfl rfl (Nat.le_of_ble_eq_true rfl) (k1) k) ?_
  refine eq_ifeqB (tgt := 18) f116_6 rfl (fun _ => ?_) (fun h9 => Bool.noConfusion (h9.symm.trans (rfl)))
  refine eq_ (fun _ k => ev_iconstN (n := 0) f116_18 k) ?_
  refine ⟨_, ev_iret f116_19 (rI rfl _) rfl, ?_⟩
  exact ⟨hs1, rfl, m1, f1⟩
theorem d116s (h : MS hs q g l) (hi : MI q g) (hf : f < 4) (hp : ¬ inR v1 (2 ^ q f)) : CrQ 116 [.ref 39, .int (nI f), .int v1] hs (some (.int (nI 0))) (MP hs q g 1) := by
  have a := h.1
  obtain ⟨hs1, k1, m1, f1⟩ := d114s h hi hf hp
  refine crq_mk ow116 (Nat.le_of_ble_eq_true rfl) ?_
  refine eq_ (fun _ k => ev_aload_n f116_0 rfl k) ?_
  refine eq_ (fun _ k => ev_iload_n f116_1 rfl k) ?_
  refine eq_ (fun _ k => ev_iload_n f116_2 rfl k) ?_
  refine eq_ (fun _ k => ev_v2 f116_3 ow114 (by assumption) rfl rfl (Nat.le_of_ble_eq_true rfl) (k1) k) ?_
  refine eq_ifeqB (tgt := 18) f116_6 rfl (fun _ => ?_) (fun h9 => Bool.noConfusion (h9.symm.trans (rfl)))
  refine eq_ (fun _ k => ev_iconstN (n := 0) f116_18 k) ?_
  refine ⟨_, ev_iret f116_19 (rI rfl _) rfl, ?_⟩
  exact ⟨hs1, rfl, m1, f1⟩
theorem d117t (h : MS hs q g l) (hp : ¬ inR p0 4) : CrQ 117 [.ref 39, .int p0, .int v1] hs (some (.int (nI 0))) (MP hs q g 1) := by
  have a := h.1
  obtain ⟨hs1, k1, m1, f1⟩ := d114t (v1 := v1) h hp
  refine crq_mk ow117 (Nat.le_of_ble_eq_true rfl) ?_
  refine eq_ (fun _ k => ev_aload_n f117_0 rfl k) ?_
  refine eq_ (fun _ k => ev_iload_n f117_1 rfl k) ?_
  refine eq_ (fun _ k => ev_iload_n f117_2 rfl k) ?_
  refine eq_ (fun _ k => ev_v2 f117_3 ow114 (by assumption) rfl rfl (Nat.le_of_ble_eq_true rfl) (k1) k) ?_
  refine eq_ifneB (tgt := 11) f117_6 rfl (fun h9 => Bool.noConfusion (h9.symm.trans (rfl))) (fun _ => ?_)
  refine eq_ (fun _ k => ev_iconstN (n := 0) f117_9 k) ?_
  refine ⟨_, ev_iret f117_10 (rI rfl _) rfl, ?_⟩
  exact ⟨hs1, rfl, m1, f1⟩
theorem d117s (h : MS hs q g l) (hi : MI q g) (hf : f < 4) (hp : ¬ inR v1 (2 ^ q f)) : CrQ 117 [.ref 39, .int (nI f), .int v1] hs (some (.int (nI 0))) (MP hs q g 1) := by
  have a := h.1
  obtain ⟨hs1, k1, m1, f1⟩ := d114s h hi hf hp
  refine crq_mk ow117 (Nat.le_of_ble_eq_true rfl) ?_
  refine eq_ (fun _ k => ev_aload_n f117_0 rfl k) ?_
  refine eq_ (fun _ k => ev_iload_n f117_1 rfl k) ?_
  refine eq_ (fun _ k => ev_iload_n f117_2 rfl k) ?_
  refine eq_ (fun _ k => ev_v2 f117_3 ow114 (by assumption) rfl rfl (Nat.le_of_ble_eq_true rfl) (k1) k) ?_
  refine eq_ifneB (tgt := 11) f117_6 rfl (fun h9 => Bool.noConfusion (h9.symm.trans (rfl))) (fun _ => ?_)
  refine eq_ (fun _ k => ev_iconstN (n := 0) f117_9 k) ?_
  refine ⟨_, ev_iret f117_10 (rI rfl _) rfl, ?_⟩
  exact ⟨hs1, rfl, m1, f1⟩
theorem d118t (h : MS hs q g l) (hp : ¬ inR p0 4) : CrQ 118 [.ref 39, .int p0, .int v1] hs (some (.int (nI false.toNat))) (MP hs q g 1) := by
  have a := h.1
  obtain ⟨hs1, k1, m1, f1⟩ := d114t (v1 := v1) h hp
  refine crq_mk ow118 (Nat.le_of_ble_eq_true rfl) ?_
  refine eq_ (fun _ k => ev_aload_n f118_0 rfl k) ?_
  refine eq_ (fun _ k => ev_iload_n f118_1 rfl k) ?_
  refine eq_ (fun _ k => ev_iload_n f118_2 rfl k) ?_
  refine eq_ (fun _ k => ev_v2 f118_3 ow114 (by assumption) rfl rfl (Nat.le_of_ble_eq_true rfl) (k1) k) ?_
  refine eq_ifeqB (tgt := 22) f118_6 rfl (fun _ => ?_) (fun h9 => Bool.noConfusion (h9.symm.trans (rfl)))
  refine eq_ (fun _ k => ev_iconstN (n := 0) f118_22 k) ?_
  first | refine ⟨_, ev_iret f118_23 (rZ rfl true) rfl, ?_⟩ | refine ⟨_, ev_iret f118_23 (rZ rfl false) rfl, ?_⟩ | refine ⟨_, ev_iret f118_23 (rZ rfl _) rfl, ?_⟩
  exact ⟨hs1, rfl, m1, f1⟩
theorem d118s (h : MS hs q g l) (hi : MI q g) (hf : f < 4) (hp : ¬ inR v1 (2 ^ q f)) : CrQ 118 [.ref 39, .int (nI f), .int v1] hs (some (.int (nI false.toNat))) (MP hs q g 1) := by
  have a := h.1
  obtain ⟨hs1, k1, m1, f1⟩ := d114s h hi hf hp
  refine crq_mk ow118 (Nat.le_of_ble_eq_true rfl) ?_
  refine eq_ (fun _ k => ev_aload_n f118_0 rfl k) ?_
  refine eq_ (fun _ k => ev_iload_n f118_1 rfl k) ?_
  refine eq_ (fun _ k => ev_iload_n f118_2 rfl k) ?_
  refine eq_ (fun _ k => ev_v2 f118_3 ow114 (by assumption) rfl rfl (Nat.le_of_ble_eq_true rfl) (k1) k) ?_
  refine eq_ifeqB (tgt := 22) f118_6 rfl (fun _ => ?_) (fun h9 => Bool.noConfusion (h9.symm.trans (rfl)))
  refine eq_ (fun _ k => ev_iconstN (n := 0) f118_22 k) ?_
  first | refine ⟨_, ev_iret f118_23 (rZ rfl true) rfl, ?_⟩ | refine ⟨_, ev_iret f118_23 (rZ rfl false) rfl, ?_⟩ | refine ⟨_, ev_iret f118_23 (rZ rfl _) rfl, ?_⟩
  exact ⟨hs1, rfl, m1, f1⟩
theorem d119t (h : MS hs q g l) (hp : ¬ inR p0 4) : CrQ 119 [.ref 39, .int p0, .int v1] hs (some (.int (nI false.toNat))) (MP hs q g 1) := by
  have a := h.1
  obtain ⟨hs1, k1, m1, f1⟩ := d114t (v1 := v1) h hp
  refine crq_mk ow119 (Nat.le_of_ble_eq_true rfl) ?_
  refine eq_ (fun _ k => ev_aload_n f119_0 rfl k) ?_
  refine eq_ (fun _ k => ev_iload_n f119_1 rfl k) ?_
  refine eq_ (fun _ k => ev_iload_n f119_2 rfl k) ?_
  refine eq_ (fun _ k => ev_v2 f119_3 ow114 (by assumption) rfl rfl (Nat.le_of_ble_eq_true rfl) (k1) k) ?_
  refine eq_ifeqB (tgt := 42) f119_6 rfl (fun _ => ?_) (fun h9 => Bool.noConfusion (h9.symm.trans (rfl)))
  refine eq_ (fun _ k => ev_iconstN (n := 0) f119_42 k) ?_
  first | refine ⟨_, ev_iret f119_43 (rZ rfl true) rfl, ?_⟩ | refine ⟨_, ev_iret f119_43 (rZ rfl false) rfl, ?_⟩ | refine ⟨_, ev_iret f119_43 (rZ rfl _) rfl, ?_⟩
  exact ⟨hs1, rfl, m1, f1⟩
theorem d119s (h : MS hs q g l) (hi : MI q g) (hf : f < 4) (hp : ¬ inR v1 (2 ^ q f)) : CrQ 119 [.ref 39, .int (nI f), .int v1] hs (some (.int (nI false.toNat))) (MP hs q g 1) := by
  have a := h.1
  obtain ⟨hs1, k1, m1, f1⟩ := d114s h hi hf hp
  refine crq_mk ow119 (Nat.le_of_ble_eq_true rfl) ?_
  refine eq_ (fun _ k => ev_aload_n f119_0 rfl k) ?_
  refine eq_ (fun _ k => ev_iload_n f119_1 rfl k) ?_
  refine eq_ (fun _ k => ev_iload_n f119_2 rfl k) ?_
  refine eq_ (fun _ k => ev_v2 f119_3 ow114 (by assumption) rfl rfl (Nat.le_of_ble_eq_true rfl) (k1) k) ?_
  refine eq_ifeqB (tgt := 42) f119_6 rfl (fun _ => ?_) (fun h9 => Bool.noConfusion (h9.symm.trans (rfl)))
  refine eq_ (fun _ k => ev_iconstN (n := 0) f119_42 k) ?_
  first | refine ⟨_, ev_iret f119_43 (rZ rfl true) rfl, ?_⟩ | refine ⟨_, ev_iret f119_43 (rZ rfl false) rfl, ?_⟩ | refine ⟨_, ev_iret f119_43 (rZ rfl _) rfl, ?_⟩
  exact ⟨hs1, rfl, m1, f1⟩
theorem d120t (h : MS hs q g l) (hp : ¬ inR p0 4) : CrQ 120 [.ref 39, .int p0, .int v1] hs (some (.int (nI false.toNat))) (MP hs q g 1) := by
  have a := h.1
  obtain ⟨hs1, k1, m1, f1⟩ := d114t (v1 := v1) h hp
  refine crq_mk ow120 (Nat.le_of_ble_eq_true rfl) ?_
  refine eq_ (fun _ k => ev_aload_n f120_0 rfl k) ?_
  refine eq_ (fun _ k => ev_iload_n f120_1 rfl k) ?_
  refine eq_ (fun _ k => ev_iload_n f120_2 rfl k) ?_
  refine eq_ (fun _ k => ev_v2 f120_3 ow114 (by assumption) rfl rfl (Nat.le_of_ble_eq_true rfl) (k1) k) ?_
  refine eq_ifeqB (tgt := 22) f120_6 rfl (fun _ => ?_) (fun h9 => Bool.noConfusion (h9.symm.trans (rfl)))
  refine eq_ (fun _ k => ev_iconstN (n := 0) f120_22 k) ?_
  first | refine ⟨_, ev_iret f120_23 (rZ rfl true) rfl, ?_⟩ | refine ⟨_, ev_iret f120_23 (rZ rfl false) rfl, ?_⟩ | refine ⟨_, ev_iret f120_23 (rZ rfl _) rfl, ?_⟩
  exact ⟨hs1, rfl, m1, f1⟩
theorem d120s (h : MS hs q g l) (hi : MI q g) (hf : f < 4) (hp : ¬ inR v1 (2 ^ q f)) : CrQ 120 [.ref 39, .int (nI f), .int v1] hs (some (.int (nI false.toNat))) (MP hs q g 1) := by
  have a := h.1
  obtain ⟨hs1, k1, m1, f1⟩ := d114s h hi hf hp
  refine crq_mk ow120 (Nat.le_of_ble_eq_true rfl) ?_
  refine eq_ (fun _ k => ev_aload_n f120_0 rfl k) ?_
  refine eq_ (fun _ k => ev_iload_n f120_1 rfl k) ?_
  refine eq_ (fun _ k => ev_iload_n f120_2 rfl k) ?_
  refine eq_ (fun _ k => ev_v2 f120_3 ow114 (by assumption) rfl rfl (Nat.le_of_ble_eq_true rfl) (k1) k) ?_
  refine eq_ifeqB (tgt := 22) f120_6 rfl (fun _ => ?_) (fun h9 => Bool.noConfusion (h9.symm.trans (rfl)))
  refine eq_ (fun _ k => ev_iconstN (n := 0) f120_22 k) ?_
  first | refine ⟨_, ev_iret f120_23 (rZ rfl true) rfl, ?_⟩ | refine ⟨_, ev_iret f120_23 (rZ rfl false) rfl, ?_⟩ | refine ⟨_, ev_iret f120_23 (rZ rfl _) rfl, ?_⟩
  exact ⟨hs1, rfl, m1, f1⟩
theorem d121t (h : MS hs q g l) (hp : ¬ inR p0 4) : CrQ 121 [.ref 39, .int p0, .int v1] hs (some (.int (nI 0))) (MP hs q g 1) := by
  have a := h.1
  obtain ⟨hs1, k1, m1, f1⟩ := d114t (v1 := v1) h hp
  refine crq_mk ow121 (Nat.le_of_ble_eq_true rfl) ?_
  refine eq_ (fun _ k => ev_aload_n f121_0 rfl k) ?_
  refine eq_ (fun _ k => ev_iload_n f121_1 rfl k) ?_
  refine eq_ (fun _ k => ev_iload_n f121_2 rfl k) ?_
  refine eq_ (fun _ k => ev_v2 f121_3 ow114 (by assumption) rfl rfl (Nat.le_of_ble_eq_true rfl) (k1) k) ?_
  refine eq_ifneB (tgt := 11) f121_6 rfl (fun h9 => Bool.noConfusion (h9.symm.trans (rfl))) (fun _ => ?_)
  refine eq_ (fun _ k => ev_iconstN (n := 0) f121_9 k) ?_
  refine ⟨_, ev_iret f121_10 (rI rfl _) rfl, ?_⟩
  exact ⟨hs1, rfl, m1, f1⟩
theorem d121s (h : MS hs q g l) (hi : MI q g) (hf : f < 4) (hp : ¬ inR v1 (2 ^ q f)) : CrQ 121 [.ref 39, .int (nI f), .int v1] hs (some (.int (nI 0))) (MP hs q g 1) := by
  have a := h.1
  obtain ⟨hs1, k1, m1, f1⟩ := d114s h hi hf hp
  refine crq_mk ow121 (Nat.le_of_ble_eq_true rfl) ?_
  refine eq_ (fun _ k => ev_aload_n f121_0 rfl k) ?_
  refine eq_ (fun _ k => ev_iload_n f121_1 rfl k) ?_
  refine eq_ (fun _ k => ev_iload_n f121_2 rfl k) ?_
  refine eq_ (fun _ k => ev_v2 f121_3 ow114 (by assumption) rfl rfl (Nat.le_of_ble_eq_true rfl) (k1) k) ?_
  refine eq_ifneB (tgt := 11) f121_6 rfl (fun h9 => Bool.noConfusion (h9.symm.trans (rfl))) (fun _ => ?_)
  refine eq_ (fun _ k => ev_iconstN (n := 0) f121_9 k) ?_
  refine ⟨_, ev_iret f121_10 (rI rfl _) rfl, ?_⟩
  exact ⟨hs1, rfl, m1, f1⟩
theorem d122t (h : MS hs q g l) (hp : ¬ inR p0 4) : CrQ 122 [.ref 39, .int p0, .int v1] hs (some (.int (nI 0))) (MP hs q g 1) := by
  have a := h.1
  obtain ⟨hs1, k1, m1, f1⟩ := d114t (v1 := v1) h hp
  refine crq_mk ow122 (Nat.le_of_ble_eq_true rfl) ?_
  refine eq_ (fun _ k => ev_aload_n f122_0 rfl k) ?_
  refine eq_ (fun _ k => ev_iload_n f122_1 rfl k) ?_
  refine eq_ (fun _ k => ev_iload_n f122_2 rfl k) ?_
  refine eq_ (fun _ k => ev_v2 f122_3 ow114 (by assumption) rfl rfl (Nat.le_of_ble_eq_true rfl) (k1) k) ?_
  refine eq_ifeqB (tgt := 18) f122_6 rfl (fun _ => ?_) (fun h9 => Bool.noConfusion (h9.symm.trans (rfl)))
  refine eq_ (fun _ k => ev_iconstN (n := 0) f122_18 k) ?_
  refine ⟨_, ev_iret f122_19 (rI rfl _) rfl, ?_⟩
  exact ⟨hs1, rfl, m1, f1⟩
theorem d122s (h : MS hs q g l) (hi : MI q g) (hf : f < 4) (hp : ¬ inR v1 (2 ^ q f)) : CrQ 122 [.ref 39, .int (nI f), .int v1] hs (some (.int (nI 0))) (MP hs q g 1) := by
  have a := h.1
  obtain ⟨hs1, k1, m1, f1⟩ := d114s h hi hf hp
  refine crq_mk ow122 (Nat.le_of_ble_eq_true rfl) ?_
  refine eq_ (fun _ k => ev_aload_n f122_0 rfl k) ?_
  refine eq_ (fun _ k => ev_iload_n f122_1 rfl k) ?_
  refine eq_ (fun _ k => ev_iload_n f122_2 rfl k) ?_
  refine eq_ (fun _ k => ev_v2 f122_3 ow114 (by assumption) rfl rfl (Nat.le_of_ble_eq_true rfl) (k1) k) ?_
  refine eq_ifeqB (tgt := 18) f122_6 rfl (fun _ => ?_) (fun h9 => Bool.noConfusion (h9.symm.trans (rfl)))
  refine eq_ (fun _ k => ev_iconstN (n := 0) f122_18 k) ?_
  refine ⟨_, ev_iret f122_19 (rI rfl _) rfl, ?_⟩
  exact ⟨hs1, rfl, m1, f1⟩
theorem d123t (h : MS hs q g l) (hp : ¬ inR p0 4) : CrQ 123 [.ref 39, .int p0, .int v1] hs (some (.int (nI 0))) (MP hs q g 1) := by
  have a := h.1
  obtain ⟨hs1, k1, m1, f1⟩ := d114t (v1 := v1) h hp
  refine crq_mk ow123 (Nat.le_of_ble_eq_true rfl) ?_
  refine eq_ (fun _ k => ev_aload_n f123_0 rfl k) ?_
  refine eq_ (fun _ k => ev_iload_n f123_1 rfl k) ?_
  refine eq_ (fun _ k => ev_iload_n f123_2 rfl k) ?_
  refine eq_ (fun _ k => ev_v2 f123_3 ow114 (by assumption) rfl rfl (Nat.le_of_ble_eq_true rfl) (k1) k) ?_
  refine eq_ifneB (tgt := 11) f123_6 rfl (fun h9 => Bool.noConfusion (h9.symm.trans (rfl))) (fun _ => ?_)
  refine eq_ (fun _ k => ev_iconstN (n := 0) f123_9 k) ?_
  refine ⟨_, ev_iret f123_10 (rI rfl _) rfl, ?_⟩
  exact ⟨hs1, rfl, m1, f1⟩
theorem d123s (h : MS hs q g l) (hi : MI q g) (hf : f < 4) (hp : ¬ inR v1 (2 ^ q f)) : CrQ 123 [.ref 39, .int (nI f), .int v1] hs (some (.int (nI 0))) (MP hs q g 1) := by
  have a := h.1
  obtain ⟨hs1, k1, m1, f1⟩ := d114s h hi hf hp
  refine crq_mk ow123 (Nat.le_of_ble_eq_true rfl) ?_
  refine eq_ (fun _ k => ev_aload_n f123_0 rfl k) ?_
  refine eq_ (fun _ k => ev_iload_n f123_1 rfl k) ?_
  refine eq_ (fun _ k => ev_iload_n f123_2 rfl k) ?_
  refine eq_ (fun _ k => ev_v2 f123_3 ow114 (by assumption) rfl rfl (Nat.le_of_ble_eq_true rfl) (k1) k) ?_
  refine eq_ifneB (tgt := 11) f123_6 rfl (fun h9 => Bool.noConfusion (h9.symm.trans (rfl))) (fun _ => ?_)
  refine eq_ (fun _ k => ev_iconstN (n := 0) f123_9 k) ?_
  refine ⟨_, ev_iret f123_10 (rI rfl _) rfl, ?_⟩
  exact ⟨hs1, rfl, m1, f1⟩
end MQ
