/-! the model's loops over all counts; rows laid by wip/whole/walk.py -/
section MO
variable {hs : amH} {q : Nat → Nat} {g : Nat → Nat → Nat} {l f e k : Nat} {p0 v1 v2 key : Int32}
theorem d111t (h : MS hs q g l) (hp : ¬ inR p0 4) : CrQ 111 [.ref 39, .int p0] hs (some (.int (nI 0))) (MP hs q g 1) := by
  have a := h.1
  obtain ⟨hs1, k1, m1, f1⟩ := go_n h
  refine crq_mk ow111 (Nat.le_of_ble_eq_true rfl) ?_
  refine eq_ (fun _ k => ev_iconstN (n := 0) f111_0 k) ?_
  refine eq_ (fun _ k => ev_istore_n f111_1 k) ?_
  refine eq_ (fun _ k => ev_aload_n f111_2 rfl k) ?_
  refine eq_ (fun _ k => ev_iload_n f111_3 rfl k) ?_
  refine eq_ (fun _ k => ev_s1 f111_4 (by decide) ow80 rfl (Nat.le_of_ble_eq_true rfl) (c80n hp) k) ?_
  refine eq_ (fun _ k => ev_iconstN (n := 1) f111_7 k) ?_
  refine eq_ (fun _ k => ev_v2 f111_8 ow82 (by assumption) rfl rfl (Nat.le_of_ble_eq_true rfl) (k1) k) ?_
  refine eq_ (fun _ k => ev_istore_n f111_11 k) ?_
  refine eq_ (fun _ k => ev_iconstN (n := 0) f111_12 k) ?_
  refine eq_ (fun _ k => ev_istore f111_13 k) ?_
  refine eq_ (fun _ k => ev_iload f111_15 rfl k) ?_
  refine eq_ (fun _ k => ev_sipushN (n := 4096) (by decide +kernel) f111_17 k) ?_
  refine eq_icN (by omega) (by omega) (tgt := 57) f111_20 rfl (fun h9 => absurd h9 (by simp only [akN] at *; omega)) (fun _ => ?_)
  refine eq_ (fun _ k => ev_iload_n f111_23 rfl k) ?_
  refine eq_ifeqB (tgt := 57) f111_24 rfl (fun _ => ?_) (fun h9 => Bool.noConfusion (h9.symm.trans (rfl)))
  refine eq_ (fun _ k => ev_iload_n f111_57 rfl k) ?_
  refine ⟨_, ev_iret f111_58 (rI rfl _) rfl, ?_⟩
  exact ⟨hs1, rfl, m1, f1⟩
theorem l111 (h : MS hs q g l) (hf : f < 4) (hg : ∀ k, g f k ≤ 1568) : ∀ (d k : Nat), k + d = 4096 → Ev 111 15 [some (.ref 39), some (.int (nI f)), some (.int (nI (nzN (g f) k))), some (.int (nI true.toNat)), some (.int (nI k))] [] hs 0 0 (.inl (some (.int (nI (nzN (g f) 4096)))), hs, 0, 0) := by
  obtain ⟨a, b, c, -⟩ := h
  intro d
  induction d with
  | zero =>
    intro k hk
    have hk2 : k = 4096 := by omega
    subst hk2
    refine ev_iload f111_15 rfl ?_
    refine ev_sipushN (n := 4096) (by decide +kernel) f111_17 ?_
    refine ev_icN (by omega) (by omega) (tgt := 57) f111_20 rfl (fun _ => ?_) (fun h9 => absurd (by simp only [akN] at *; omega) h9)
    refine ev_iload_n f111_57 rfl ?_
    exact ev_iret f111_58 (rI rfl _) rfl
  | succ d ih =>
    intro k hk
    have hi := ih (k + 1) (by omega)
    have e := ct (g := g) (f := f) (show k < 4096 by omega)
    have hgk := hg k
    rw [← e] at hgk
    by_cases h0 : g f k = 0
    · rw [nzN_zero h0] at hi
      have e2 : cnt16 g (4096 * f + k) = 0 := by rw [e]; exact h0
      refine ev_iload f111_15 rfl ?_
      refine ev_sipushN (n := 4096) (by decide +kernel) f111_17 ?_
      refine ev_icN (by omega) (by omega) (tgt := 57) f111_20 rfl (fun h9 => absurd h9 (by simp only [akN] at *; omega)) (fun _ => ?_)
      refine ev_iload_n f111_23 rfl ?_
      refine ev_ifeqB (tgt := 57) f111_24 rfl (fun h9 => Bool.noConfusion (h9.symm.trans (rfl))) (fun _ => ?_)
      refine ev_iload_n f111_27 rfl ?_
      refine ev_aload_n f111_28 rfl ?_
      refine ev_getf f111_29 (by assumption) rfl ?_
      refine ev_sipushN (n := 4096) (by decide +kernel) f111_32 ?_
      refine ev_iload_n f111_35 rfl ?_
      first | refine ev_imulN f111_36 ?_ | refine ev_imul f111_36 ?_
      refine ev_iload f111_37 rfl ?_
      first | refine ev_iaddN f111_39 ?_ | refine ev_iadd f111_39 ?_
      refine ev_iald f111_40 (by assumption) (by omega) (by omega) ?_
      refine ev_ifN (by omega) (tgt := 48) f111_41 rfl (fun _ => ?_) (fun h9 => absurd (by simp only [akN] at *; omega) h9)
      refine ev_iconstN (n := 0) f111_48 ?_
      first | refine ev_iaddN f111_49 ?_ | refine ev_iadd f111_49 ?_
      refine ev_istore_n f111_50 ?_
      refine ev_iincN f111_51 rfl ?_
      refine ev_goto (tgt := 15) f111_54 rfl ?_
      exact hi
    · rw [nzN_pos (by omega)] at hi
      have e2 : 0 < cnt16 g (4096 * f + k) := by rw [e]; omega
      refine ev_iload f111_15 rfl ?_
      refine ev_sipushN (n := 4096) (by decide +kernel) f111_17 ?_
      refine ev_icN (by omega) (by omega) (tgt := 57) f111_20 rfl (fun h9 => absurd h9 (by simp only [akN] at *; omega)) (fun _ => ?_)
      refine ev_iload_n f111_23 rfl ?_
      refine ev_ifeqB (tgt := 57) f111_24 rfl (fun h9 => Bool.noConfusion (h9.symm.trans (rfl))) (fun _ => ?_)
      refine ev_iload_n f111_27 rfl ?_
      refine ev_aload_n f111_28 rfl ?_
      refine ev_getf f111_29 (by assumption) rfl ?_
      refine ev_sipushN (n := 4096) (by decide +kernel) f111_32 ?_
      refine ev_iload_n f111_35 rfl ?_
      first | refine ev_imulN f111_36 ?_ | refine ev_imul f111_36 ?_
      refine ev_iload f111_37 rfl ?_
      first | refine ev_iaddN f111_39 ?_ | refine ev_iadd f111_39 ?_
      refine ev_iald f111_40 (by assumption) (by omega) (by omega) ?_
      refine ev_ifN (by omega) (tgt := 48) f111_41 rfl (fun h9 => absurd h9 (by simp only [akN] at *; omega)) (fun _ => ?_)
      refine ev_iconstN (n := 1) f111_44 ?_
      refine ev_goto (tgt := 49) f111_45 rfl ?_
      first | refine ev_iaddN f111_49 ?_ | refine ev_iadd f111_49 ?_
      refine ev_istore_n f111_50 ?_
      refine ev_iincN f111_51 rfl ?_
      refine ev_goto (tgt := 15) f111_54 rfl ?_
      exact hi
theorem d111 (h : MS hs q g l) (hi : MI q g) (hf : f < 4) : CrQ 111 [.ref 39, .int (nI f)] hs (some (.int (nI (nzN (g f) 4096)))) (MP hs q g 0) := by
  have a := h.1
  obtain ⟨hs1, k1, m1, f1⟩ := go_y h
  refine crq_mk ow111 (Nat.le_of_ble_eq_true rfl) ?_
  refine eq_ (fun _ k => ev_iconstN (n := 0) f111_0 k) ?_
  refine eq_ (fun _ k => ev_istore_n f111_1 k) ?_
  refine eq_ (fun _ k => ev_aload_n f111_2 rfl k) ?_
  refine eq_ (fun _ k => ev_iload_n f111_3 rfl k) ?_
  refine eq_ (fun _ k => ev_s1 f111_4 (by decide) ow80 rfl (Nat.le_of_ble_eq_true rfl) (c80 hf) k) ?_
  refine eq_ (fun _ k => ev_iconstN (n := 1) f111_7 k) ?_
  refine eq_ (fun _ k => ev_v2 f111_8 ow82 (by assumption) rfl rfl (Nat.le_of_ble_eq_true rfl) (k1) k) ?_
  refine eq_ (fun _ k => ev_istore_n f111_11 k) ?_
  refine eq_ (fun _ k => ev_iconstN (n := 0) f111_12 k) ?_
  refine eq_ (fun _ k => ev_istore f111_13 k) ?_
  exact ⟨_, l111 m1 hf (hi.le hf).2 4096 0 rfl, hs1, rfl, m1, f1⟩
theorem d112t (h : MS hs q g l) (hp : ¬ inR p0 4) : CrQ 112 [.ref 39, .int p0] hs (some (.int (nI 0))) (MP hs q g 1) := by
  have a := h.1
  obtain ⟨hs1, k1, m1, f1⟩ := go_n h
  refine crq_mk ow112 (Nat.le_of_ble_eq_true rfl) ?_
  refine eq_ (fun _ k => ev_iconstN (n := 0) f112_0 k) ?_
  refine eq_ (fun _ k => ev_istore_n f112_1 k) ?_
  refine eq_ (fun _ k => ev_aload_n f112_2 rfl k) ?_
  refine eq_ (fun _ k => ev_iload_n f112_3 rfl k) ?_
  refine eq_ (fun _ k => ev_s1 f112_4 (by decide) ow80 rfl (Nat.le_of_ble_eq_true rfl) (c80n hp) k) ?_
  refine eq_ (fun _ k => ev_iconstN (n := 1) f112_7 k) ?_
  refine eq_ (fun _ k => ev_v2 f112_8 ow82 (by assumption) rfl rfl (Nat.le_of_ble_eq_true rfl) (k1) k) ?_
  refine eq_ (fun _ k => ev_istore_n f112_11 k) ?_
  refine eq_ (fun _ k => ev_iconstN (n := 0) f112_12 k) ?_
  refine eq_ (fun _ k => ev_istore f112_13 k) ?_
  refine eq_ (fun _ k => ev_iload f112_15 rfl k) ?_
  refine eq_ (fun _ k => ev_sipushN (n := 4096) (by decide +kernel) f112_17 k) ?_
  refine eq_icN (by omega) (by omega) (tgt := 49) f112_20 rfl (fun h9 => absurd h9 (by simp only [akN] at *; omega)) (fun _ => ?_)
  refine eq_ (fun _ k => ev_iload_n f112_23 rfl k) ?_
  refine eq_ifeqB (tgt := 49) f112_24 rfl (fun _ => ?_) (fun h9 => Bool.noConfusion (h9.symm.trans (rfl)))
  refine eq_ (fun _ k => ev_iload_n f112_49 rfl k) ?_
  refine ⟨_, ev_iret f112_50 (rI rfl _) rfl, ?_⟩
  exact ⟨hs1, rfl, m1, f1⟩
theorem l112 (h : MS hs q g l) (hf : f < 4) : ∀ (d k : Nat), k + d = 4096 → Ev 112 15 [some (.ref 39), some (.int (nI f)), some (.int (nI (smN (g f) k))), some (.int (nI true.toNat)), some (.int (nI k))] [] hs 0 0 (.inl (some (.int (nI (smN (g f) 4096)))), hs, 0, 0) := by
  obtain ⟨a, b, c, -⟩ := h
  intro d
  induction d with
  | zero =>
    intro k hk
    have hk2 : k = 4096 := by omega
    subst hk2
    refine ev_iload f112_15 rfl ?_
    refine ev_sipushN (n := 4096) (by decide +kernel) f112_17 ?_
    refine ev_icN (by omega) (by omega) (tgt := 49) f112_20 rfl (fun _ => ?_) (fun h9 => absurd (by simp only [akN] at *; omega) h9)
    refine ev_iload_n f112_49 rfl ?_
    exact ev_iret f112_50 (rI rfl _) rfl
  | succ d ih =>
    intro k hk
    have hi := ih (k + 1) (by omega)
    have e := ct (g := g) (f := f) (show k < 4096 by omega)
    rw [show smN (g f) (k + 1) = smN (g f) k + cnt16 g (4096 * f + k) by rw [e]; rfl] at hi
    refine ev_iload f112_15 rfl ?_
    refine ev_sipushN (n := 4096) (by decide +kernel) f112_17 ?_
    refine ev_icN (by omega) (by omega) (tgt := 49) f112_20 rfl (fun h9 => absurd h9 (by simp only [akN] at *; omega)) (fun _ => ?_)
    refine ev_iload_n f112_23 rfl ?_
    refine ev_ifeqB (tgt := 49) f112_24 rfl (fun h9 => Bool.noConfusion (h9.symm.trans (rfl))) (fun _ => ?_)
    refine ev_iload_n f112_27 rfl ?_
    refine ev_aload_n f112_28 rfl ?_
    refine ev_getf f112_29 (by assumption) rfl ?_
    refine ev_sipushN (n := 4096) (by decide +kernel) f112_32 ?_
    refine ev_iload_n f112_35 rfl ?_
    first | refine ev_imulN f112_36 ?_ | refine ev_imul f112_36 ?_
    refine ev_iload f112_37 rfl ?_
    first | refine ev_iaddN f112_39 ?_ | refine ev_iadd f112_39 ?_
    refine ev_iald f112_40 (by assumption) (by omega) (by omega) ?_
    first | refine ev_iaddN f112_41 ?_ | refine ev_iadd f112_41 ?_
    refine ev_istore_n f112_42 ?_
    refine ev_iincN f112_43 rfl ?_
    refine ev_goto (tgt := 15) f112_46 rfl ?_
    exact hi
theorem d112 (h : MS hs q g l) (hf : f < 4) : CrQ 112 [.ref 39, .int (nI f)] hs (some (.int (nI (smN (g f) 4096)))) (MP hs q g 0) := by
  have a := h.1
  obtain ⟨hs1, k1, m1, f1⟩ := go_y h
  refine crq_mk ow112 (Nat.le_of_ble_eq_true rfl) ?_
  refine eq_ (fun _ k => ev_iconstN (n := 0) f112_0 k) ?_
  refine eq_ (fun _ k => ev_istore_n f112_1 k) ?_
  refine eq_ (fun _ k => ev_aload_n f112_2 rfl k) ?_
  refine eq_ (fun _ k => ev_iload_n f112_3 rfl k) ?_
  refine eq_ (fun _ k => ev_s1 f112_4 (by decide) ow80 rfl (Nat.le_of_ble_eq_true rfl) (c80 hf) k) ?_
  refine eq_ (fun _ k => ev_iconstN (n := 1) f112_7 k) ?_
  refine eq_ (fun _ k => ev_v2 f112_8 ow82 (by assumption) rfl rfl (Nat.le_of_ble_eq_true rfl) (k1) k) ?_
  refine eq_ (fun _ k => ev_istore_n f112_11 k) ?_
  refine eq_ (fun _ k => ev_iconstN (n := 0) f112_12 k) ?_
  refine eq_ (fun _ k => ev_istore f112_13 k) ?_
  exact ⟨_, l112 m1 hf 4096 0 rfl, hs1, rfl, m1, f1⟩
/-- isFilter of both -/
theorem d108t (h : MS hs q g l) (hp : ¬ (inR p0 4 ∧ inR v1 4)) : CrQ 108 [.ref 39, .int p0, .int v1] hs (some (.int (nI false.toNat))) (MP hs q g 1) := by
  have a := h.1
  obtain ⟨hs1, k1, m1, f1⟩ := go_n h
  refine crq_mk ow108 (Nat.le_of_ble_eq_true rfl) ?_
  by_cases h1 : inR p0 4
  · obtain ⟨f, hf, rfl⟩ := h1
    have h2 : ¬ inR v1 4 := fun w => hp ⟨⟨f, hf, rfl⟩, w⟩
    refine eq_ (fun _ k => ev_aload_n f108_0 rfl k) ?_
    refine eq_ (fun _ k => ev_iload_n f108_1 rfl k) ?_
    refine eq_ (fun _ k => ev_s1 f108_2 (by decide) ow80 rfl (Nat.le_of_ble_eq_true rfl) (c80 hf) k) ?_
    refine eq_ifeqB (tgt := 19) f108_5 rfl (fun h9 => Bool.noConfusion (h9.symm.trans (rfl))) (fun _ => ?_)
    refine eq_ (fun _ k => ev_iload_n f108_8 rfl k) ?_
    refine eq_ (fun _ k => ev_s1 f108_9 (by decide) ow80 rfl (Nat.le_of_ble_eq_true rfl) (c80n h2) k) ?_
    refine eq_ifeqB (tgt := 19) f108_12 rfl (fun _ => ?_) (fun h9 => Bool.noConfusion (h9.symm.trans (rfl)))
    refine eq_ (fun _ k => ev_iconstN (n := 0) f108_19 k) ?_
    refine eq_ (fun _ k => ev_iconstN (n := 1) f108_20 k) ?_
    refine eq_ (fun _ k => ev_v2 f108_21 ow82 (by assumption) rfl rfl (Nat.le_of_ble_eq_true rfl) (k1) k) ?_
    refine eq_ (fun _ k => ev_istore_n f108_24 k) ?_
    refine eq_ (fun _ k => ev_iconstN (n := 0) f108_25 k) ?_
    refine eq_ (fun _ k => ev_istore f108_26 k) ?_
    refine eq_ (fun _ k => ev_iload f108_28 rfl k) ?_
    refine eq_ (fun _ k => ev_sipushN (n := 4096) (by decide +kernel) f108_30 k) ?_
    refine eq_icN (by omega) (by omega) (tgt := 81) f108_33 rfl (fun h9 => absurd h9 (by simp only [akN] at *; omega)) (fun _ => ?_)
    refine eq_ (fun _ k => ev_iload_n f108_36 rfl k) ?_
    refine eq_ifeqB (tgt := 81) f108_37 rfl (fun _ => ?_) (fun h9 => Bool.noConfusion (h9.symm.trans (rfl)))
    refine eq_ (fun _ k => ev_iload_n f108_81 rfl k) ?_
    first | refine ⟨_, ev_iret f108_82 (rZ rfl true) rfl, ?_⟩ | refine ⟨_, ev_iret f108_82 (rZ rfl false) rfl, ?_⟩ | refine ⟨_, ev_iret f108_82 (rZ rfl _) rfl, ?_⟩
    exact ⟨hs1, rfl, m1, f1⟩
  · refine eq_ (fun _ k => ev_aload_n f108_0 rfl k) ?_
    refine eq_ (fun _ k => ev_iload_n f108_1 rfl k) ?_
    refine eq_ (fun _ k => ev_s1 f108_2 (by decide) ow80 rfl (Nat.le_of_ble_eq_true rfl) (c80n h1) k) ?_
    refine eq_ifeqB (tgt := 19) f108_5 rfl (fun _ => ?_) (fun h9 => Bool.noConfusion (h9.symm.trans (rfl)))
    refine eq_ (fun _ k => ev_iconstN (n := 0) f108_19 k) ?_
    refine eq_ (fun _ k => ev_iconstN (n := 1) f108_20 k) ?_
    refine eq_ (fun _ k => ev_v2 f108_21 ow82 (by assumption) rfl rfl (Nat.le_of_ble_eq_true rfl) (k1) k) ?_
    refine eq_ (fun _ k => ev_istore_n f108_24 k) ?_
    refine eq_ (fun _ k => ev_iconstN (n := 0) f108_25 k) ?_
    refine eq_ (fun _ k => ev_istore f108_26 k) ?_
    refine eq_ (fun _ k => ev_iload f108_28 rfl k) ?_
    refine eq_ (fun _ k => ev_sipushN (n := 4096) (by decide +kernel) f108_30 k) ?_
    refine eq_icN (by omega) (by omega) (tgt := 81) f108_33 rfl (fun h9 => absurd h9 (by simp only [akN] at *; omega)) (fun _ => ?_)
    refine eq_ (fun _ k => ev_iload_n f108_36 rfl k) ?_
    refine eq_ifeqB (tgt := 81) f108_37 rfl (fun _ => ?_) (fun h9 => Bool.noConfusion (h9.symm.trans (rfl)))
    refine eq_ (fun _ k => ev_iload_n f108_81 rfl k) ?_
    first | refine ⟨_, ev_iret f108_82 (rZ rfl true) rfl, ?_⟩ | refine ⟨_, ev_iret f108_82 (rZ rfl false) rfl, ?_⟩ | refine ⟨_, ev_iret f108_82 (rZ rfl _) rfl, ?_⟩
    exact ⟨hs1, rfl, m1, f1⟩
theorem l108 (h : MS hs q g l) (hf : f < 4) (he : e < 4) (hg : ∀ k, g f k ≤ 1568) (hg2 : ∀ k, g e k ≤ 1568) : ∀ (d k : Nat), k + d = 4096 → (∀ j, j < k → g f j = g e j) → ∃ r : Bool, (r = true ↔ saN (g f) (g e)) ∧ Ev 108 28 [some (.ref 39), some (.int (nI f)), some (.int (nI e)), some (.int (nI true.toNat)), some (.int (nI k))] [] hs 0 0 (.inl (some (.int (nI r.toNat))), hs, 0, 0) := by
  obtain ⟨a, b, c, -⟩ := h
  intro d
  induction d with
  | zero =>
    intro k hk hs2
    have hk2 : k = 4096 := by omega
    subst hk2
    refine ⟨true, ⟨fun _ => hs2, fun _ => rfl⟩, ?_⟩
    refine ev_iload f108_28 rfl ?_
    refine ev_sipushN (n := 4096) (by decide +kernel) f108_30 ?_
    refine ev_icN (by omega) (by omega) (tgt := 81) f108_33 rfl (fun _ => ?_) (fun h9 => absurd (by simp only [akN] at *; omega) h9)
    refine ev_iload_n f108_81 rfl ?_
    first | exact ev_iret f108_82 (rZ rfl true) rfl | exact ev_iret f108_82 (rZ rfl false) rfl | exact ev_iret f108_82 (rZ rfl _) rfl
  | succ d ih =>
    intro k hk hs2
    have e1 := ct (g := g) (f := f) (show k < 4096 by omega)
    have e2 := ct (g := g) (f := e) (show k < 4096 by omega)
    have h1 := hg k
    have h2 := hg2 k
    rw [← e1] at h1
    rw [← e2] at h2
    by_cases h3 : g f k = g e k
    · obtain ⟨r, r1, r2⟩ := ih (k + 1) (by omega) (fun j hj => by
        by_cases w : j = k
        · rw [w]; exact h3
        · exact hs2 j (by omega))
      refine ⟨r, r1, ?_⟩
      have h4 : cnt16 g (4096 * f + k) = cnt16 g (4096 * e + k) := by rw [e1, e2]; exact h3
      refine ev_iload f108_28 rfl ?_
      refine ev_sipushN (n := 4096) (by decide +kernel) f108_30 ?_
      refine ev_icN (by omega) (by omega) (tgt := 81) f108_33 rfl (fun h9 => absurd h9 (by simp only [akN] at *; omega)) (fun _ => ?_)
      refine ev_iload_n f108_36 rfl ?_
      refine ev_ifeqB (tgt := 81) f108_37 rfl (fun h9 => Bool.noConfusion (h9.symm.trans (rfl))) (fun _ => ?_)
      refine ev_aload_n f108_40 rfl ?_
      refine ev_getf f108_41 (by assumption) rfl ?_
      refine ev_sipushN (n := 4096) (by decide +kernel) f108_44 ?_
      refine ev_iload_n f108_47 rfl ?_
      first | refine ev_imulN f108_48 ?_ | refine ev_imul f108_48 ?_
      refine ev_iload f108_49 rfl ?_
      first | refine ev_iaddN f108_51 ?_ | refine ev_iadd f108_51 ?_
      refine ev_iald f108_52 (by assumption) (by omega) (by omega) ?_
      refine ev_aload_n f108_53 rfl ?_
      refine ev_getf f108_54 (by assumption) rfl ?_
      refine ev_sipushN (n := 4096) (by decide +kernel) f108_57 ?_
      refine ev_iload_n f108_60 rfl ?_
      first | refine ev_imulN f108_61 ?_ | refine ev_imul f108_61 ?_
      refine ev_iload f108_62 rfl ?_
      first | refine ev_iaddN f108_64 ?_ | refine ev_iadd f108_64 ?_
      refine ev_iald f108_65 (by assumption) (by omega) (by omega) ?_
      refine ev_icN (by omega) (by omega) (tgt := 73) f108_66 rfl (fun h9 => absurd h9 (fun w => w h4)) (fun _ => ?_)
      refine ev_iconstN (n := 1) f108_69 ?_
      refine ev_goto (tgt := 74) f108_70 rfl ?_
      refine ev_istore_n f108_74 ?_
      refine ev_iincN f108_75 rfl ?_
      refine ev_goto (tgt := 28) f108_78 rfl ?_
      exact r2
    · refine ⟨false, ⟨fun w => Bool.noConfusion w, fun w => absurd (w k (by omega)) h3⟩, ?_⟩
      have h4 : ¬ cnt16 g (4096 * f + k) = cnt16 g (4096 * e + k) := by rw [e1, e2]; exact h3
      refine ev_iload f108_28 rfl ?_
      refine ev_sipushN (n := 4096) (by decide +kernel) f108_30 ?_
      refine ev_icN (by omega) (by omega) (tgt := 81) f108_33 rfl (fun h9 => absurd h9 (by simp only [akN] at *; omega)) (fun _ => ?_)
      refine ev_iload_n f108_36 rfl ?_
      refine ev_ifeqB (tgt := 81) f108_37 rfl (fun h9 => Bool.noConfusion (h9.symm.trans (rfl))) (fun _ => ?_)
      refine ev_aload_n f108_40 rfl ?_
      refine ev_getf f108_41 (by assumption) rfl ?_
      refine ev_sipushN (n := 4096) (by decide +kernel) f108_44 ?_
      refine ev_iload_n f108_47 rfl ?_
      first | refine ev_imulN f108_48 ?_ | refine ev_imul f108_48 ?_
      refine ev_iload f108_49 rfl ?_
      first | refine ev_iaddN f108_51 ?_ | refine ev_iadd f108_51 ?_
      refine ev_iald f108_52 (by assumption) (by omega) (by omega) ?_
      refine ev_aload_n f108_53 rfl ?_
      refine ev_getf f108_54 (by assumption) rfl ?_
      refine ev_sipushN (n := 4096) (by decide +kernel) f108_57 ?_
      refine ev_iload_n f108_60 rfl ?_
      first | refine ev_imulN f108_61 ?_ | refine ev_imul f108_61 ?_
      refine ev_iload f108_62 rfl ?_
      first | refine ev_iaddN f108_64 ?_ | refine ev_iadd f108_64 ?_
      refine ev_iald f108_65 (by assumption) (by omega) (by omega) ?_
      refine ev_icN (by omega) (by omega) (tgt := 73) f108_66 rfl (fun _ => ?_) (fun h9 => absurd h4 h9)
      refine ev_iconstN (n := 0) f108_73 ?_
      refine ev_istore_n f108_74 ?_
      refine ev_iincN f108_75 rfl ?_
      refine ev_goto (tgt := 28) f108_78 rfl ?_
      show Ev 108 28 [some (.ref 39), some (.int (nI f)), some (.int (nI e)), some (.int (nI false.toNat)), some (.int (nI (k + 1)))] [] hs 0 0 _
      by_cases hz : k + 1 = 4096
      · rw [hz]
        refine ev_iload f108_28 rfl ?_
        refine ev_sipushN (n := 4096) (by decide +kernel) f108_30 ?_
        refine ev_icN (by omega) (by omega) (tgt := 81) f108_33 rfl (fun _ => ?_) (fun h9 => absurd (by simp only [akN] at *; omega) h9)
        refine ev_iload_n f108_81 rfl ?_
        first | exact ev_iret f108_82 (rZ rfl true) rfl | exact ev_iret f108_82 (rZ rfl false) rfl | exact ev_iret f108_82 (rZ rfl _) rfl
      · refine ev_iload f108_28 rfl ?_
        refine ev_sipushN (n := 4096) (by decide +kernel) f108_30 ?_
        refine ev_icN (by omega) (by omega) (tgt := 81) f108_33 rfl (fun h9 => absurd h9 (by simp only [akN] at *; omega)) (fun _ => ?_)
        refine ev_iload_n f108_36 rfl ?_
        refine ev_ifeqB (tgt := 81) f108_37 rfl (fun _ => ?_) (fun h9 => Bool.noConfusion (h9.symm.trans (rfl)))
        refine ev_iload_n f108_81 rfl ?_
        first | exact ev_iret f108_82 (rZ rfl true) rfl | exact ev_iret f108_82 (rZ rfl false) rfl | exact ev_iret f108_82 (rZ rfl _) rfl
theorem d108 (h : MS hs q g l) (hi : MI q g) (hf : f < 4) (he : e < 4) : ∃ r : Bool, (r = true ↔ saN (g f) (g e)) ∧ CrQ 108 [.ref 39, .int (nI f), .int (nI e)] hs (some (.int (nI r.toNat))) (MP hs q g 0) := by
  have a := h.1
  obtain ⟨hs1, k1, m1, f1⟩ := go_y h
  obtain ⟨r, r1, r2⟩ := l108 m1 hf he (hi.le hf).2 (hi.le he).2 4096 0 rfl (fun j hj => absurd hj (Nat.not_lt_zero j))
  refine ⟨r, r1, ?_⟩
  refine crq_mk ow108 (Nat.le_of_ble_eq_true rfl) ?_
  refine eq_ (fun _ k => ev_aload_n f108_0 rfl k) ?_
  refine eq_ (fun _ k => ev_iload_n f108_1 rfl k) ?_
  refine eq_ (fun _ k => ev_s1 f108_2 (by decide) ow80 rfl (Nat.le_of_ble_eq_true rfl) (c80 hf) k) ?_
  refine eq_ifeqB (tgt := 19) f108_5 rfl (fun h9 => Bool.noConfusion (h9.symm.trans (rfl))) (fun _ => ?_)
  refine eq_ (fun _ k => ev_iload_n f108_8 rfl k) ?_
  refine eq_ (fun _ k => ev_s1 f108_9 (by decide) ow80 rfl (Nat.le_of_ble_eq_true rfl) (c80 he) k) ?_
  refine eq_ifeqB (tgt := 19) f108_12 rfl (fun h9 => Bool.noConfusion (h9.symm.trans (rfl))) (fun _ => ?_)
  refine eq_ (fun _ k => ev_iconstN (n := 1) f108_15 k) ?_
  refine eq_ (fun _ k => ev_goto (tgt := 20) f108_16 rfl k) ?_
  refine eq_ (fun _ k => ev_iconstN (n := 1) f108_20 k) ?_
  refine eq_ (fun _ k => ev_v2 f108_21 ow82 (by assumption) rfl rfl (Nat.le_of_ble_eq_true rfl) (k1) k) ?_
  refine eq_ (fun _ k => ev_istore_n f108_24 k) ?_
  refine eq_ (fun _ k => ev_iconstN (n := 0) f108_25 k) ?_
  refine eq_ (fun _ k => ev_istore f108_26 k) ?_
  exact ⟨_, r2, hs1, rfl, m1, f1⟩
theorem d107t (h : MS hs q g l) (hp : ¬ (inR p0 4 ∧ inR v1 4)) : CrQ 107 [.ref 39, .int p0, .int v1] hs (some (.int (nI 0))) (MP hs q g 1) := by
  have a := h.1
  obtain ⟨hs1, k1, m1, f1⟩ := go_n h
  refine crq_mk ow107 (Nat.le_of_ble_eq_true rfl) ?_
  by_cases h1 : inR p0 4
  · obtain ⟨f, hf, rfl⟩ := h1
    have h2 : ¬ inR v1 4 := fun w => hp ⟨⟨f, hf, rfl⟩, w⟩
    refine eq_ (fun _ k => ev_aload_n f107_0 rfl k) ?_
    refine eq_ (fun _ k => ev_iload_n f107_1 rfl k) ?_
    refine eq_ (fun _ k => ev_s1 f107_2 (by decide) ow80 rfl (Nat.le_of_ble_eq_true rfl) (c80 hf) k) ?_
    refine eq_ifeqB (tgt := 19) f107_5 rfl (fun h9 => Bool.noConfusion (h9.symm.trans (rfl))) (fun _ => ?_)
    refine eq_ (fun _ k => ev_iload_n f107_8 rfl k) ?_
    refine eq_ (fun _ k => ev_s1 f107_9 (by decide) ow80 rfl (Nat.le_of_ble_eq_true rfl) (c80n h2) k) ?_
    refine eq_ifeqB (tgt := 19) f107_12 rfl (fun _ => ?_) (fun h9 => Bool.noConfusion (h9.symm.trans (rfl)))
    refine eq_ (fun _ k => ev_iconstN (n := 0) f107_19 k) ?_
    refine eq_ (fun _ k => ev_iconstN (n := 1) f107_20 k) ?_
    refine eq_ (fun _ k => ev_v2 f107_21 ow82 (by assumption) rfl rfl (Nat.le_of_ble_eq_true rfl) (k1) k) ?_
    refine eq_ifneB (tgt := 29) f107_24 rfl (fun h9 => Bool.noConfusion (h9.symm.trans (rfl))) (fun _ => ?_)
    refine eq_ (fun _ k => ev_iconstN (n := 0) f107_27 k) ?_
    refine ⟨_, ev_iret f107_28 (rI rfl _) rfl, ?_⟩
    exact ⟨hs1, rfl, m1, f1⟩
  · refine eq_ (fun _ k => ev_aload_n f107_0 rfl k) ?_
    refine eq_ (fun _ k => ev_iload_n f107_1 rfl k) ?_
    refine eq_ (fun _ k => ev_s1 f107_2 (by decide) ow80 rfl (Nat.le_of_ble_eq_true rfl) (c80n h1) k) ?_
    refine eq_ifeqB (tgt := 19) f107_5 rfl (fun _ => ?_) (fun h9 => Bool.noConfusion (h9.symm.trans (rfl)))
    refine eq_ (fun _ k => ev_iconstN (n := 0) f107_19 k) ?_
    refine eq_ (fun _ k => ev_iconstN (n := 1) f107_20 k) ?_
    refine eq_ (fun _ k => ev_v2 f107_21 ow82 (by assumption) rfl rfl (Nat.le_of_ble_eq_true rfl) (k1) k) ?_
    refine eq_ifneB (tgt := 29) f107_24 rfl (fun h9 => Bool.noConfusion (h9.symm.trans (rfl))) (fun _ => ?_)
    refine eq_ (fun _ k => ev_iconstN (n := 0) f107_27 k) ?_
    refine ⟨_, ev_iret f107_28 (rI rfl _) rfl, ?_⟩
    exact ⟨hs1, rfl, m1, f1⟩
/-- the first k counts of a, the others of b -/
def mixN (a b : Nat → Nat) (k : Nat) : Nat → Nat := fun j => if j < k then a j else b j
theorem mixN_0 (a b : Nat → Nat) : mixN a b 0 = b := rfl
theorem mixN_ge (a b : Nat → Nat) {k j : Nat} (h : k ≤ j) : mixN a b k j = b j := if_neg (Nat.not_lt.mpr h)
theorem mixN_s (a b : Nat → Nat) (k : Nat) : updN (mixN a b k) k (a k) = mixN a b (k + 1) := by
  funext j
  unfold updN mixN
  by_cases h : j = k
  · rw [if_pos h, if_pos (by omega), h]
  · rw [if_neg h]
    by_cases h2 : j < k
    · rw [if_pos h2, if_pos (by omega)]
    · rw [if_neg h2, if_neg (by omega)]
theorem mixN_all (a b : Nat → Nat) (h : ∀ j, 4096 ≤ j → a j = b j) : mixN a b 4096 = a := by
  funext j
  unfold mixN
  by_cases h2 : j < 4096
  · rw [if_pos h2]
  · rw [if_neg h2, h j (by omega)]
theorem l107 (hf : f < 4) (he : e < 4) (hg : ∀ k, g f k ≤ 1568) (hg2 : ∀ k, g e k ≤ 1568) {Q : amOut → Prop} {hs0 : amH} (hfin : ∀ (hs : amH) (w : Option Value), MS hs q (updG g f (mixN (miN (g f) (g e)) (g f) 4096)) 0 → Fr hs0 hs 39 47 → EvQ 107 104 [some (.ref 39), some (.int (nI f)), some (.int (nI e)), some (.int (nI 4096)), w] [] hs 0 0 Q) : ∀ (d k : Nat) (hs : amH) (w : Option Value), k + d = 4096 → MS hs q (updG g f (mixN (miN (g f) (g e)) (g f) k)) 0 → Fr hs0 hs 39 47 → EvQ 107 31 [some (.ref 39), some (.int (nI f)), some (.int (nI e)), some (.int (nI k)), w] [] hs 0 0 Q := by
  intro d
  induction d with
  | zero =>
    intro k hs w hk h fr
    have hk2 : k = 4096 := by omega
    subst hk2
    refine eq_ (fun _ k => ev_iload_n f107_31 rfl k) ?_
    refine eq_ (fun _ k => ev_sipushN (n := 4096) (by decide +kernel) f107_32 k) ?_
    refine eq_icN (by omega) (by omega) (tgt := 104) f107_35 rfl (fun _ => ?_) (fun h9 => absurd (by simp only [akN] at *; omega) h9)
    exact hfin hs w h fr
  | succ d ih =>
    intro k hs w hk h fr
    have h9 := h
    obtain ⟨a, b, -⟩ := h
    have e1 := ct (g := updG g f (mixN (miN (g f) (g e)) (g f) k)) (f := f) (show k < 4096 by omega)
    have e2 := ct (g := updG g f (mixN (miN (g f) (g e)) (g f) k)) (f := e) (show k < 4096 by omega)
    rw [updG_at, mixN_ge _ _ (Nat.le_refl k)] at e1
    have e3 : updG g f (mixN (miN (g f) (g e)) (g f) k) e k = g e k := by
      unfold updG
      by_cases w : e = f
      · rw [if_pos w, mixN_ge _ _ (Nat.le_refl k), w]
      · rw [if_neg w]
    rw [e3] at e2
    have h1 := hg k
    have h2 := hg2 k
    have b1 : cnt16 (updG g f (mixN (miN (g f) (g e)) (g f) k)) (4096 * f + k) ≤ 1568 := by rw [e1]; exact h1
    have b2 : cnt16 (updG g f (mixN (miN (g f) (g e)) (g f) k)) (4096 * e + k) ≤ 1568 := by rw [e2]; exact h2
    have fin : ∀ (hs1 : amH) (v : Nat) (w : Option Value), v = miN (g f) (g e) k → hs1 = hs.set 40 (.inl (.int, 16384, .inl (upd (fun j => nI (cnt16 (updG g f (mixN (miN (g f) (g e)) (g f) k)) j)) (4096 * f + k) (nI v)))) → EvQ 107 31 [some (.ref 39), some (.int (nI f)), some (.int (nI e)), some (.int (nI (k + 1))), w] [] hs1 0 0 Q := by
      intro hs1 v w hv e4
      have m1 := h9.set40 (f := f) (k := k) (v := v) (by omega) e4
      rw [updG_at, updG_2, hv, mixN_s] at m1
      exact ih (k + 1) hs1 w (by omega) m1 (fr.tr (Fr.st e4 (by omega) (by omega)))
    refine eq_ (fun _ k => ev_iload_n f107_31 rfl k) ?_
    refine eq_ (fun _ k => ev_sipushN (n := 4096) (by decide +kernel) f107_32 k) ?_
    refine eq_icN (by omega) (by omega) (tgt := 104) f107_35 rfl (fun h9 => absurd h9 (by simp only [akN] at *; omega)) (fun _ => ?_)
    refine eq_ (fun _ k => ev_aload_n f107_38 rfl k) ?_
    refine eq_ (fun _ k => ev_getf f107_39 (by assumption) rfl k) ?_
    refine eq_ (fun _ k => ev_sipushN (n := 4096) (by decide +kernel) f107_42 k) ?_
    refine eq_ (fun _ k => ev_iload_n f107_45 rfl k) ?_
    first | refine eq_ (fun _ k => ev_imulN f107_46 k) ?_ | refine eq_ (fun _ k => ev_imul f107_46 k) ?_
    refine eq_ (fun _ k => ev_iload_n f107_47 rfl k) ?_
    first | refine eq_ (fun _ k => ev_iaddN f107_48 k) ?_ | refine eq_ (fun _ k => ev_iadd f107_48 k) ?_
    refine eq_ (fun _ k => ev_iald f107_49 (by assumption) (by omega) (by omega) k) ?_
    refine eq_ (fun _ k => ev_istore f107_50 k) ?_
    refine eq_ (fun _ k => ev_aload_n f107_52 rfl k) ?_
    refine eq_ (fun _ k => ev_getf f107_53 (by assumption) rfl k) ?_
    refine eq_ (fun _ k => ev_sipushN (n := 4096) (by decide +kernel) f107_56 k) ?_
    refine eq_ (fun _ k => ev_iload_n f107_59 rfl k) ?_
    first | refine eq_ (fun _ k => ev_imulN f107_60 k) ?_ | refine eq_ (fun _ k => ev_imul f107_60 k) ?_
    refine eq_ (fun _ k => ev_iload_n f107_61 rfl k) ?_
    first | refine eq_ (fun _ k => ev_iaddN f107_62 k) ?_ | refine eq_ (fun _ k => ev_iadd f107_62 k) ?_
    refine eq_ (fun _ k => ev_iload f107_63 rfl k) ?_
    refine eq_ (fun _ k => ev_aload_n f107_65 rfl k) ?_
    refine eq_ (fun _ k => ev_getf f107_66 (by assumption) rfl k) ?_
    refine eq_ (fun _ k => ev_sipushN (n := 4096) (by decide +kernel) f107_69 k) ?_
    refine eq_ (fun _ k => ev_iload_n f107_72 rfl k) ?_
    first | refine eq_ (fun _ k => ev_imulN f107_73 k) ?_ | refine eq_ (fun _ k => ev_imul f107_73 k) ?_
    refine eq_ (fun _ k => ev_iload_n f107_74 rfl k) ?_
    first | refine eq_ (fun _ k => ev_iaddN f107_75 k) ?_ | refine eq_ (fun _ k => ev_iadd f107_75 k) ?_
    refine eq_ (fun _ k => ev_iald f107_76 (by assumption) (by omega) (by omega) k) ?_
    by_cases hc : cnt16 (updG g f (mixN (miN (g f) (g e)) (g f) k)) (4096 * e + k) < cnt16 (updG g f (mixN (miN (g f) (g e)) (g f) k)) (4096 * f + k)
    · refine eq_icN (by omega) (by omega) (tgt := 85) f107_77 rfl (fun h9 => absurd h9 (by simp only [akN] at *; omega)) (fun _ => ?_)
      refine eq_ (fun _ k => ev_iload f107_80 rfl k) ?_
      refine eq_ (fun _ k => ev_goto (tgt := 97) f107_82 rfl k) ?_
      refine eq_iast f107_97 (by assumption) (by omega) (by omega) (by omega) (fun hs1 e4 => ?_)
      refine eq_ (fun _ k => ev_iincN f107_98 rfl k) ?_
      refine eq_ (fun _ k => ev_goto (tgt := 31) f107_101 rfl k) ?_
      exact fin hs1 _ _ (by rw [e1, e2] at hc; rw [e2]; unfold miN; omega) e4
    · refine eq_icN (by omega) (by omega) (tgt := 85) f107_77 rfl (fun _ => ?_) (fun h9 => absurd (by simp only [akN] at *; omega) h9)
      refine eq_ (fun _ k => ev_aload_n f107_85 rfl k) ?_
      refine eq_ (fun _ k => ev_getf f107_86 (by assumption) rfl k) ?_
      refine eq_ (fun _ k => ev_sipushN (n := 4096) (by decide +kernel) f107_89 k) ?_
      refine eq_ (fun _ k => ev_iload_n f107_92 rfl k) ?_
      first | refine eq_ (fun _ k => ev_imulN f107_93 k) ?_ | refine eq_ (fun _ k => ev_imul f107_93 k) ?_
      refine eq_ (fun _ k => ev_iload_n f107_94 rfl k) ?_
      first | refine eq_ (fun _ k => ev_iaddN f107_95 k) ?_ | refine eq_ (fun _ k => ev_iadd f107_95 k) ?_
      refine eq_ (fun _ k => ev_iald f107_96 (by assumption) (by omega) (by omega) k) ?_
      refine eq_iast f107_97 (by assumption) (by omega) (by omega) (by omega) (fun hs1 e4 => ?_)
      refine eq_ (fun _ k => ev_iincN f107_98 rfl k) ?_
      refine eq_ (fun _ k => ev_goto (tgt := 31) f107_101 rfl k) ?_
      exact fin hs1 _ _ (by rw [e1, e2] at hc; rw [e1]; unfold miN; omega) e4
theorem d107 (h : MS hs q g l) (hi : MI q g) (hf : f < 4) (he : e < 4) : CrQ 107 [.ref 39, .int (nI f), .int (nI e)] hs (some (.int (nI (EE (miN (g f) (g e)) 4096)))) (MP hs q (updG g f (miN (g f) (g e))) 0) := by
  have a := h.1
  obtain ⟨hs1, k1, m1, f1⟩ := go_y h
  have ea : mixN (miN (g f) (g e)) (g f) 4096 = miN (g f) (g e) := mixN_all _ _ (fun j hj => by
    unfold miN
    rw [(hi f hf).2.2.2 j hj]
    omega)
  obtain ⟨l1, l2⟩ := hi.le hf
  have hEE := EE_le (g1 := miN (g f) (g e)) (g2 := g f) (fun k => Nat.min_le_left _ _) 4096
  refine crq_mk ow107 (Nat.le_of_ble_eq_true rfl) ?_
  refine eq_ (fun _ k => ev_aload_n f107_0 rfl k) ?_
  refine eq_ (fun _ k => ev_iload_n f107_1 rfl k) ?_
  refine eq_ (fun _ k => ev_s1 f107_2 (by decide) ow80 rfl (Nat.le_of_ble_eq_true rfl) (c80 hf) k) ?_
  refine eq_ifeqB (tgt := 19) f107_5 rfl (fun h9 => Bool.noConfusion (h9.symm.trans (rfl))) (fun _ => ?_)
  refine eq_ (fun _ k => ev_iload_n f107_8 rfl k) ?_
  refine eq_ (fun _ k => ev_s1 f107_9 (by decide) ow80 rfl (Nat.le_of_ble_eq_true rfl) (c80 he) k) ?_
  refine eq_ifeqB (tgt := 19) f107_12 rfl (fun h9 => Bool.noConfusion (h9.symm.trans (rfl))) (fun _ => ?_)
  refine eq_ (fun _ k => ev_iconstN (n := 1) f107_15 k) ?_
  refine eq_ (fun _ k => ev_goto (tgt := 20) f107_16 rfl k) ?_
  refine eq_ (fun _ k => ev_iconstN (n := 1) f107_20 k) ?_
  refine eq_ (fun _ k => ev_v2 f107_21 ow82 (by assumption) rfl rfl (Nat.le_of_ble_eq_true rfl) (k1) k) ?_
  refine eq_ifneB (tgt := 29) f107_24 rfl (fun _ => ?_) (fun h9 => Bool.noConfusion (h9.symm.trans (rfl)))
  refine eq_ (fun _ k => ev_iconstN (n := 0) f107_29 k) ?_
  refine eq_ (fun _ k => ev_istore_n f107_30 k) ?_
  refine l107 hf he l2 (hi.le he).2 (fun hs2 w m2 f2 => ?_) 4096 0 hs1 _ rfl (by rw [mixN_0, updG_same]; exact m1) f1
  rw [ea] at m2
  have a2 := m2.1
  have k2 := c85 m2 hf (by
    rw [updG_at]
    exact fun k => Nat.le_trans (Nat.min_le_left _ _) (l2 k)) (by rw [updG_at]; omega)
  rw [updG_at] at k2
  refine eq_ (fun _ k => ev_aload_n f107_104 rfl k) ?_
  refine eq_ (fun _ k => ev_iload_n f107_105 rfl k) ?_
  refine eq_ (fun _ k => ev_v1 f107_106 ow85 (by assumption) rfl (Nat.le_of_ble_eq_true rfl) (k2) k) ?_
  refine ⟨_, ev_iret f107_109 (rI rfl _) rfl, ?_⟩
  exact ⟨hs2, rfl, m2, f2⟩
end MO
