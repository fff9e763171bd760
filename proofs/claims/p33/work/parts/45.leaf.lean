/-! the law's world, its small methods; rows laid by wip/p33/walk.py -/
/-- the law's world: script, class, and three rows: fingerprints at 39, counts at 40, bits at 41 -/
def LW (X : amC) (q : Nat → Nat) (g : Nat → Nat → Nat) (P C Q : Nat → Nat) (hs : amH) : Prop := hs[0]? = some X ∧ CS hs q g ∧ hs[39]? = some (.inl (.int, 16, .inl (fun j => nI (P j)))) ∧ hs[40]? = some (.inl (.int, 64, .inl (fun j => nI (C j)))) ∧ hs[41]? = some (.inl (.int, 4, .inl (fun j => nI (Q j))))
/-- the law's entries of fingerprint j of filter f -/
def cfN (C : Nat → Nat) (f : Nat) : Nat → Nat := fun j => C (16 * f + j)
def ceN (C : Nat → Nat) (f : Nat) : Nat → Nat := fun j => enN (C (16 * f + j))
def rnN (P C : Nat → Nat) (f m t : Nat) : Nat → Nat := fun j => if P j / m = t then enN (C (16 * f + j)) else 0
theorem nI_bv (x : Int32) : x = nI x.toBitVec.toNat := by
  apply Int32.toBitVec_inj.mp
  show x.toBitVec = BitVec.ofNat 32 x.toBitVec.toNat
  rw [BitVec.ofNat_toNat, BitVec.setWidth_eq]
theorem and31 (x : Int32) : ∃ y, y < 2 ^ 31 ∧ x &&& nI 2147483647 = nI y := by
  refine ⟨x.toBitVec.toNat % 2 ^ 31, Nat.mod_lt _ (by decide), ?_⟩
  conv => lhs; rw [nI_bv x]
  exact pk_andN x.toBitVec.isLt 31 (by decide)
theorem and20 (x : Int32) : ∃ y, y < 2 ^ 20 ∧ x &&& nI 1048575 = nI y := by
  refine ⟨x.toBitVec.toNat % 2 ^ 20, Nat.mod_lt _ (by decide), ?_⟩
  conv => lhs; rw [nI_bv x]
  exact pk_andN x.toBitVec.isLt 20 (by decide)
section LF
variable {hs : amH} {X : amC} {P C Q : Nat → Nat} {f : Nat}
theorem c77 {L k b : Nat} {xs : Nat → Int32} (h0 : hs[0]? = some (.inl (.int, L, .inl xs))) (hL : L ≤ 260) (hk : k < 1000) (hb : 0 < b) (hb2 : b < 2 ^ 31) : ∃ r, r < b ∧ Cr 77 [.ref 0, .int (nI k), .int (nI b)] hs (some (.int (nI r))) hs := by
  by_cases hz : L = 0
  · subst hz
    obtain ⟨y, hy, ey⟩ := and31 (nI (59 * k + 13))
    have hm := Nat.mod_lt y hb
    refine ⟨y % b, hm, ?_⟩
    refine cr_mk ow77 (Nat.le_of_ble_eq_true rfl) ?_
    refine ev_aload_n f77_0 rfl ?_
    refine ev_alen f77_1 (by assumption) ?_
    refine ev_ifN (by omega) (tgt := 15) f77_2 rfl (fun h9 => absurd h9 (fun w => w rfl)) (fun _ => ?_)
    refine ev_bipushN (n := 59) (by omega) f77_5 ?_
    refine ev_iload_n f77_7 rfl ?_
    first | refine ev_imulN f77_8 ?_ | refine ev_imul f77_8 ?_
    refine ev_bipushN (n := 13) (by omega) f77_9 ?_
    first | refine ev_iaddN f77_11 ?_ | refine ev_iadd f77_11 ?_
    refine ev_goto (tgt := 26) f77_12 rfl ?_
    refine ev_istore_n f77_26 ?_
    refine ev_iload_n f77_27 rfl ?_
    refine ev_ldc (v := nI 2147483647) rfl (by decide) f77_28 ?_
    refine ev_iand f77_30 ?_
    rw [ey]
    refine ev_iload_n f77_31 rfl ?_
    refine ev_iremN (by omega) (by omega) (by omega) f77_32 ?_
    exact ev_iret f77_33 (rI rfl _) rfl
  · have hm2 := Nat.mod_lt k (show 0 < L by omega)
    obtain ⟨y, hy, ey⟩ := and31 (xs (k % L) ^^^ nI (60493 * k))
    have hm := Nat.mod_lt y hb
    refine ⟨y % b, hm, ?_⟩
    refine cr_mk ow77 (Nat.le_of_ble_eq_true rfl) ?_
    refine ev_aload_n f77_0 rfl ?_
    refine ev_alen f77_1 (by assumption) ?_
    refine ev_ifN (by omega) (tgt := 15) f77_2 rfl (fun _ => ?_) (fun h9 => absurd (by simp only [akN] at *; omega) h9)
    refine ev_aload_n f77_15 rfl ?_
    refine ev_iload_n f77_16 rfl ?_
    refine ev_aload_n f77_17 rfl ?_
    refine ev_alen f77_18 (by assumption) ?_
    refine ev_iremN (by omega) (by omega) (by omega) f77_19 ?_
    refine ev_iald f77_20 (by assumption) (by omega) (by omega) ?_
    refine ev_ldc (v := nI 60493) rfl (by decide) f77_21 ?_
    refine ev_iload_n f77_23 rfl ?_
    first | refine ev_imulN f77_24 ?_ | refine ev_imul f77_24 ?_
    refine ev_ixor f77_25 ?_
    refine ev_istore_n f77_26 ?_
    refine ev_iload_n f77_27 rfl ?_
    refine ev_ldc (v := nI 2147483647) rfl (by decide) f77_28 ?_
    refine ev_iand f77_30 ?_
    rw [ey]
    refine ev_iload_n f77_31 rfl ?_
    refine ev_iremN (by omega) (by omega) (by omega) f77_32 ?_
    exact ev_iret f77_33 (rI rfl _) rfl
theorem c78 {a : Nat} (ha : a < 2 ^ 30) : Cr 78 [.int (nI a)] hs (some (.int (nI (enN a)))) hs := by
  refine cr_mk ow78 (Nat.le_of_ble_eq_true rfl) ?_
  by_cases h : a % 7 = 0
  · rw [show enN a = a / 7 + 0 by unfold enN; omega]
    refine ev_iload_n f78_0 rfl ?_
    refine ev_bipushN (n := 7) (by omega) f78_1 ?_
    refine ev_idivN (by omega) (by omega) (by omega) f78_3 ?_
    refine ev_iload_n f78_4 rfl ?_
    refine ev_bipushN (n := 7) (by omega) f78_5 ?_
    refine ev_iremN (by omega) (by omega) (by omega) f78_7 ?_
    refine ev_ifN (by omega) (tgt := 15) f78_8 rfl (fun _ => ?_) (fun h9 => absurd (by simp only [akN] at *; omega) h9)
    refine ev_iconstN (n := 0) f78_15 ?_
    first | refine ev_iaddN f78_16 ?_ | refine ev_iadd f78_16 ?_
    exact ev_iret f78_17 (rI rfl _) rfl
  · rw [show enN a = a / 7 + 1 by unfold enN; omega]
    refine ev_iload_n f78_0 rfl ?_
    refine ev_bipushN (n := 7) (by omega) f78_1 ?_
    refine ev_idivN (by omega) (by omega) (by omega) f78_3 ?_
    refine ev_iload_n f78_4 rfl ?_
    refine ev_bipushN (n := 7) (by omega) f78_5 ?_
    refine ev_iremN (by omega) (by omega) (by omega) f78_7 ?_
    refine ev_ifN (by omega) (tgt := 15) f78_8 rfl (fun h9 => absurd h9 (by simp only [akN] at *; omega)) (fun _ => ?_)
    refine ev_iconstN (n := 1) f78_11 ?_
    refine ev_goto (tgt := 16) f78_12 rfl ?_
    first | refine ev_iaddN f78_16 ?_ | refine ev_iadd f78_16 ?_
    exact ev_iret f78_17 (rI rfl _) rfl
theorem l79 (hf : f < 4) (h : hs[40]? = some (.inl (.int, 64, .inl (fun j => nI (C j))))) (hC : ∀ j, C j < 2 ^ 20) : ∀ d i, i + d = 15 → Ev 79 4 [some (.ref 40), some (.int (nI f)), some (.int (nI (smN (ceN C f) i))), some (.int (nI i))] [] hs 0 0 (.inl (some (.int (nI (smN (ceN C f) 15)))), hs, 0, 0) := by
  intro d
  induction d with
  | zero =>
    intro i hi
    have e : i = 15 := by omega
    subst e
    refine ev_iload_n f79_4 rfl ?_
    refine ev_bipushN (n := 15) (by omega) f79_5 ?_
    refine ev_icN (by omega) (by omega) (tgt := 30) f79_7 rfl (fun _ => ?_) (fun h9 => absurd (by simp only [akN] at *; omega) h9)
    refine ev_iload_n f79_30 rfl ?_
    exact ev_iret f79_31 (rI rfl _) rfl
  | succ d ih =>
    intro i hi
    have ih2 := ih (i + 1) (by omega)
    have hc := hC (16 * f + i)
    refine ev_iload_n f79_4 rfl ?_
    refine ev_bipushN (n := 15) (by omega) f79_5 ?_
    refine ev_icN (by omega) (by omega) (tgt := 30) f79_7 rfl (fun h9 => absurd h9 (by simp only [akN] at *; omega)) (fun _ => ?_)
    refine ev_iload_n f79_10 rfl ?_
    refine ev_aload_n f79_11 rfl ?_
    refine ev_bipushN (n := 16) (by omega) f79_12 ?_
    refine ev_iload_n f79_14 rfl ?_
    first | refine ev_imulN f79_15 ?_ | refine ev_imul f79_15 ?_
    refine ev_iload_n f79_16 rfl ?_
    first | refine ev_iaddN f79_17 ?_ | refine ev_iadd f79_17 ?_
    refine ev_iald f79_18 (by assumption) (by omega) (by omega) ?_
    refine ev_s1 f79_19 (by decide) ow78 rfl (Nat.le_of_ble_eq_true rfl) (c78 (by omega)) ?_
    first | refine ev_iaddN f79_22 ?_ | refine ev_iadd f79_22 ?_
    refine ev_istore_n f79_23 ?_
    refine ev_iincN (d := 1) f79_24 rfl ?_
    refine ev_goto (tgt := 4) f79_27 rfl ?_
    exact ih2
theorem c79 (hf : f < 4) (h : hs[40]? = some (.inl (.int, 64, .inl (fun j => nI (C j))))) (hC : ∀ j, C j < 2 ^ 20) : Cr 79 [.ref 40, .int (nI f)] hs (some (.int (nI (smN (ceN C f) 15)))) hs := by
  refine cr_mk ow79 (Nat.le_of_ble_eq_true rfl) ?_
  refine ev_iconstN (n := 0) f79_0 ?_
  refine ev_istore_n f79_1 ?_
  refine ev_iconstN (n := 0) f79_2 ?_
  refine ev_istore_n f79_3 ?_
  exact l79 hf h hC 15 0 rfl
theorem c80 {i q : Nat} (h : hs[39]? = some (.inl (.int, 16, .inl (fun j => nI (P j))))) (hi : i < 16) (hP : P i < 4096) (hq : q ≤ 8) : Cr 80 [.ref 39, .int (nI i), .int (nI q)] hs (some (.int (nI (P i / 2 ^ (12 - q))))) hs := by
  refine cr_mk ow80 (Nat.le_of_ble_eq_true rfl) ?_
  refine ev_aload_n f80_0 rfl ?_
  refine ev_iload_n f80_1 rfl ?_
  refine ev_iald f80_2 (by assumption) (by omega) (by omega) ?_
  refine ev_bipushN (n := 12) (by omega) f80_3 ?_
  refine ev_iload_n f80_5 rfl ?_
  refine ev_isubN (by omega) f80_6 ?_
  refine ev_ishr f80_7 ?_
  rw [pk_shrN (by omega) _ (12 - q) (am_sh _ (by omega))]
  exact ev_iret f80_8 (rI rfl _) rfl
theorem l81 {q t : Nat} (hf : f < 4) (hp : hs[39]? = some (.inl (.int, 16, .inl (fun j => nI (P j))))) (h : hs[40]? = some (.inl (.int, 64, .inl (fun j => nI (C j))))) (hP : ∀ j, j < 15 → P j < 4096) (hC : ∀ j, C j < 2 ^ 20) (hq : q ≤ 8) (ht : t < 4096) : ∀ d i, i + d = 15 → Ev 81 6 [some (.ref 39), some (.ref 40), some (.int (nI f)), some (.int (nI q)), some (.int (nI t)), some (.int (nI (smN (rnN P C f (2 ^ (12 - q)) t) i))), some (.int (nI i))] [] hs 0 0 (.inl (some (.int (nI (smN (rnN P C f (2 ^ (12 - q)) t) 15)))), hs, 0, 0) := by
  intro d
  induction d with
  | zero =>
    intro i hi
    have e : i = 15 := by omega
    subst e
    refine ev_iload f81_6 rfl ?_
    refine ev_bipushN (n := 15) (by omega) f81_8 ?_
    refine ev_icN (by omega) (by omega) (tgt := 52) f81_10 rfl (fun _ => ?_) (fun h9 => absurd (by simp only [akN] at *; omega) h9)
    refine ev_iload f81_52 rfl ?_
    exact ev_iret f81_54 (rI rfl _) rfl
  | succ d ih =>
    intro i hi
    have ih2 := ih (i + 1) (by omega)
    have hc := hC (16 * f + i)
    have hpi := hP i (by omega)
    have hdl := Nat.div_le_self (P i) (2 ^ (12 - q))
    by_cases e : P i / 2 ^ (12 - q) = t
    · rw [show smN (rnN P C f (2 ^ (12 - q)) t) (i + 1) = smN (rnN P C f (2 ^ (12 - q)) t) i + enN (C (16 * f + i)) from congrArg _ (if_pos e)] at ih2
      refine ev_iload f81_6 rfl ?_
      refine ev_bipushN (n := 15) (by omega) f81_8 ?_
      refine ev_icN (by omega) (by omega) (tgt := 52) f81_10 rfl (fun h9 => absurd h9 (by simp only [akN] at *; omega)) (fun _ => ?_)
      refine ev_iload f81_13 rfl ?_
      refine ev_aload_n f81_15 rfl ?_
      refine ev_iload f81_16 rfl ?_
      refine ev_iload_n f81_18 rfl ?_
      refine ev_s3 f81_19 (by decide) ow80 rfl rfl rfl (Nat.le_of_ble_eq_true rfl) (c80 hp (by omega) hpi hq) ?_
      refine ev_iload f81_22 rfl ?_
      refine ev_icN (by omega) (by omega) (tgt := 42) f81_24 rfl (fun h9 => absurd h9 (fun w => w e)) (fun _ => ?_)
      refine ev_aload_n f81_27 rfl ?_
      refine ev_bipushN (n := 16) (by omega) f81_28 ?_
      refine ev_iload_n f81_30 rfl ?_
      first | refine ev_imulN f81_31 ?_ | refine ev_imul f81_31 ?_
      refine ev_iload f81_32 rfl ?_
      first | refine ev_iaddN f81_34 ?_ | refine ev_iadd f81_34 ?_
      refine ev_iald f81_35 (by assumption) (by omega) (by omega) ?_
      refine ev_s1 f81_36 (by decide) ow78 rfl (Nat.le_of_ble_eq_true rfl) (c78 (by omega)) ?_
      refine ev_goto (tgt := 43) f81_39 rfl ?_
      first | refine ev_iaddN f81_43 ?_ | refine ev_iadd f81_43 ?_
      refine ev_istore f81_44 ?_
      refine ev_iincN (d := 1) f81_46 rfl ?_
      refine ev_goto (tgt := 6) f81_49 rfl ?_
      exact ih2
    · rw [show smN (rnN P C f (2 ^ (12 - q)) t) (i + 1) = smN (rnN P C f (2 ^ (12 - q)) t) i + 0 from congrArg (fun z => smN (rnN P C f (2 ^ (12 - q)) t) i + z) (if_neg e)] at ih2
      refine ev_iload f81_6 rfl ?_
      refine ev_bipushN (n := 15) (by omega) f81_8 ?_
      refine ev_icN (by omega) (by omega) (tgt := 52) f81_10 rfl (fun h9 => absurd h9 (by simp only [akN] at *; omega)) (fun _ => ?_)
      refine ev_iload f81_13 rfl ?_
      refine ev_aload_n f81_15 rfl ?_
      refine ev_iload f81_16 rfl ?_
      refine ev_iload_n f81_18 rfl ?_
      refine ev_s3 f81_19 (by decide) ow80 rfl rfl rfl (Nat.le_of_ble_eq_true rfl) (c80 hp (by omega) hpi hq) ?_
      refine ev_iload f81_22 rfl ?_
      refine ev_icN (by omega) (by omega) (tgt := 42) f81_24 rfl (fun _ => ?_) (fun h9 => absurd e h9)
      refine ev_iconstN (n := 0) f81_42 ?_
      first | refine ev_iaddN f81_43 ?_ | refine ev_iadd f81_43 ?_
      refine ev_istore f81_44 ?_
      refine ev_iincN (d := 1) f81_46 rfl ?_
      refine ev_goto (tgt := 6) f81_49 rfl ?_
      exact ih2
theorem c81 {q t : Nat} (hf : f < 4) (hp : hs[39]? = some (.inl (.int, 16, .inl (fun j => nI (P j))))) (h : hs[40]? = some (.inl (.int, 64, .inl (fun j => nI (C j))))) (hP : ∀ j, j < 15 → P j < 4096) (hC : ∀ j, C j < 2 ^ 20) (hq : q ≤ 8) (ht : t < 4096) : Cr 81 [.ref 39, .ref 40, .int (nI f), .int (nI q), .int (nI t)] hs (some (.int (nI (smN (rnN P C f (2 ^ (12 - q)) t) 15)))) hs := by
  refine cr_mk ow81 (Nat.le_of_ble_eq_true rfl) ?_
  refine ev_iconstN (n := 0) f81_0 ?_
  refine ev_istore f81_1 ?_
  refine ev_iconstN (n := 0) f81_3 ?_
  refine ev_istore f81_4 ?_
  exact l81 hf hp h hP hC hq ht 15 0 rfl
/-- a key with a fingerprint -/
def kyN (k : Nat) (b : Int32) : Int32 := ((nI k <<< (nI 20 &&& 31)) ||| (b &&& nI 1048575)) * nI 340573321
theorem c87 {k : Nat} {b : Int32} : Cr 87 [.int (nI k), .int b] hs (some (.int (kyN k b))) hs := by
  refine cr_mk ow87 (Nat.le_of_ble_eq_true rfl) ?_
  refine ev_iload_n f87_0 rfl ?_
  refine ev_bipushN (n := 20) (by omega) f87_1 ?_
  refine ev_ishl f87_3 ?_
  refine ev_iload_n f87_4 rfl ?_
  refine ev_ldc (v := nI 1048575) rfl (by decide) f87_5 ?_
  refine ev_iand f87_7 ?_
  refine ev_ior f87_8 ?_
  refine ev_ldc (v := nI 340573321) rfl (by decide) f87_9 ?_
  refine ev_imul f87_11 ?_
  exact ev_iret f87_12 (rI rfl _) rfl
theorem pr_ky {k : Nat} (hk : k < 4096) (b : Int32) : prN (kyN k b) = k := by
  obtain ⟨y, hy, ey⟩ := and20 b
  have e1 : nI k <<< (nI 20 &&& 31) = nI (k * 2 ^ 20) := pk_shlN _ 20 (am_sh _ (by omega)) (by omega)
  have e2 : kyN k b * (-1640531527) = nI (k * 2 ^ 20 + y) := by
    unfold kyN
    rw [ey, e1, am_orSum k hy, Int32.mul_assoc, show nI 340573321 * (-1640531527) = 1 by decide, Int32.mul_one]
  unfold prN
  rw [e2]
  have e3 : (nI (k * 2 ^ 20 + y)).toUInt32.toNat = k * 2 ^ 20 + y := by
    show (BitVec.ofNat 32 (k * 2 ^ 20 + y)).toNat = _
    rw [BitVec.toNat_ofNat]
    exact Nat.mod_eq_of_lt (by omega)
  rw [e3]
  omega
theorem c93 {e q : Nat} (he : e < 2 ^ 20) (hq : q ≤ 8) : Cr 93 [.int (nI e), .int (nI q)] hs (some (.int (nI (decide (8 * e ≤ 7 * 2 ^ q)).toNat))) hs := by
  have hp : 2 ^ q ≤ 2 ^ 8 := Nat.pow_le_pow_right (by omega) hq
  refine cr_mk ow93 (Nat.le_of_ble_eq_true rfl) ?_
  by_cases h : 8 * e ≤ 7 * 2 ^ q
  · rw [decide_eq_true h]
    refine ev_bipushN (n := 8) (by omega) f93_0 ?_
    refine ev_iload_n f93_2 rfl ?_
    first | refine ev_imulN f93_3 ?_ | refine ev_imul f93_3 ?_
    refine ev_bipushN (n := 7) (by omega) f93_4 ?_
    refine ev_iload_n f93_6 rfl ?_
    refine ev_ishl f93_7 ?_
    rw [am_shl7 q (by omega)]
    refine ev_icN (by omega) (by omega) (tgt := 15) f93_8 rfl (fun h9 => absurd h9 (fun w => absurd h (Nat.not_le.mpr w))) (fun _ => ?_)
    refine ev_iconstN (n := 1) f93_11 ?_
    refine ev_goto (tgt := 16) f93_12 rfl ?_
    first | exact ev_iret f93_16 (rZ rfl true) rfl | exact ev_iret f93_16 (rZ rfl false) rfl | exact ev_iret f93_16 (rZ rfl _) rfl
  · rw [decide_eq_false h]
    refine ev_bipushN (n := 8) (by omega) f93_0 ?_
    refine ev_iload_n f93_2 rfl ?_
    first | refine ev_imulN f93_3 ?_ | refine ev_imul f93_3 ?_
    refine ev_bipushN (n := 7) (by omega) f93_4 ?_
    refine ev_iload_n f93_6 rfl ?_
    refine ev_ishl f93_7 ?_
    rw [am_shl7 q (by omega)]
    refine ev_icN (by omega) (by omega) (tgt := 15) f93_8 rfl (fun _ => ?_) (fun h9 => absurd (Nat.not_le.mp h) h9)
    refine ev_iconstN (n := 0) f93_15 ?_
    first | exact ev_iret f93_16 (rZ rfl true) rfl | exact ev_iret f93_16 (rZ rfl false) rfl | exact ev_iret f93_16 (rZ rfl _) rfl
end LF
