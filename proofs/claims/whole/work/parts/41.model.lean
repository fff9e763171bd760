/-! the model: its state, its small methods; rows laid by wip/whole/walk.py -/
def cnt16 (g : Nat → Nat → Nat) : Nat → Nat := fun j => g (j / 4096) (j % 4096)
theorem ct {g : Nat → Nat → Nat} {f k : Nat} (hk : k < 4096) : cnt16 g (4096 * f + k) = g f k := by
  unfold cnt16
  rw [show (4096 * f + k) / 4096 = f by omega, show (4096 * f + k) % 4096 = k by omega]
theorem ct_put {g : Nat → Nat → Nat} {f k v : Nat} (hk : k < 4096) : updN (cnt16 g) (4096 * f + k) v = cnt16 (updG g f (updN (g f) k v)) := by
  funext j
  unfold updN cnt16 updG
  by_cases e : j = 4096 * f + k
  · rw [if_pos e, if_pos (show j / 4096 = f by omega), if_pos (show j % 4096 = k by omega)]
  · rw [if_neg e]
    by_cases e1 : j / 4096 = f
    · rw [if_pos e1, if_neg (show ¬ j % 4096 = k by omega), e1]
    · rw [if_neg e1]
/-- what holds of the counts and sizes of the four filters -/
def MI (q : Nat → Nat) (g : Nat → Nat → Nat) : Prop := ∀ f, f < 4 → 3 ≤ q f ∧ q f ≤ 8 ∧ EE (g f) 4096 * 8 ≤ 7 * 2 ^ q f ∧ ∀ k, 4096 ≤ k → g f k = 0
theorem CS.mi {hs : amH} {q : Nat → Nat} {g : Nat → Nat → Nat} (h : CS hs q g) : MI q g := fun f hf => ⟨(h.2.2.1 f hf).obj.1, (h.2.2.1 f hf).obj.2.1, (h.2.2.1 f hf).le.2.2.2.1, (h.2.2.1 f hf).le.2.2.2.2⟩
theorem MI.le {q : Nat → Nat} {g : Nat → Nat → Nat} (h : MI q g) {f : Nat} (hf : f < 4) : EE (g f) 4096 ≤ 224 ∧ ∀ k, g f k ≤ 1568 := by
  obtain ⟨h3, h8, hE, hg⟩ := h f hf
  obtain ⟨p1, p2⟩ := am_pow h3 h8
  refine ⟨by omega, fun k => ?_⟩
  by_cases hk : k < 4096
  · have := EE_g (g f) hk
    omega
  · rw [hg k (by omega)]
    omega
def MS (hs : amH) (q : Nat → Nat) (g : Nat → Nat → Nat) (l : Nat) : Prop := hs[39]? = some (.inr (4, [.ref 40, .ref 41, .ref 42, .ref 43, .ref 44, .ref 45, .ref 46, .int (nI l)])) ∧ hs[40]? = some (.inl (.int, 16384, .inl (fun j => nI (cnt16 g j)))) ∧ hs[41]? = some (.inl (.int, 4, .inl (fun j => nI (q j)))) ∧ (∃ A : Nat → Nat, hs[42]? = some (.inl (.int, 256, .inl (fun j => nI (A j))))) ∧ (∃ A : Nat → Nat, hs[43]? = some (.inl (.int, 256, .inl (fun j => nI (A j))))) ∧ (∃ A : Nat → Nat, hs[44]? = some (.inl (.int, 256, .inl (fun j => nI (A j))))) ∧ (∃ A : Nat → Nat, hs[45]? = some (.inl (.int, 256, .inl (fun j => nI (A j))))) ∧ ∃ A : Nat → Nat, hs[46]? = some (.inl (.int, 256, .inl (fun j => nI (A j))))
section MO
variable {hs : amH} {q : Nat → Nat} {g : Nat → Nat → Nat} {l f : Nat}
theorem MS.set39 {hs1 : amH} {l2 : Nat} (h : MS hs q g l) (e : hs1 = hs.set 39 (.inr (4, [.ref 40, .ref 41, .ref 42, .ref 43, .ref 44, .ref 45, .ref 46, .int (nI l2)]))) : MS hs1 q g l2 := by
  obtain ⟨a, b, c, ⟨A, d⟩, ⟨B, e1⟩, ⟨C, e2⟩, ⟨D, e3⟩, E, e4⟩ := h
  exact ⟨am_set e a, (am_set2 e (by omega)).trans b, (am_set2 e (by omega)).trans c, ⟨A, (am_set2 e (by omega)).trans d⟩, ⟨B, (am_set2 e (by omega)).trans e1⟩, ⟨C, (am_set2 e (by omega)).trans e2⟩, ⟨D, (am_set2 e (by omega)).trans e3⟩, E, (am_set2 e (by omega)).trans e4⟩
theorem MS.set40 {hs1 : amH} {k v : Nat} (h : MS hs q g l) (hk : k < 4096) (e : hs1 = hs.set 40 (.inl (.int, 16384, .inl (upd (fun j => nI (cnt16 g j)) (4096 * f + k) (nI v))))) : MS hs1 q (updG g f (updN (g f) k v)) l := by
  obtain ⟨a, b, c, ⟨A, d⟩, ⟨B, e1⟩, ⟨C, e2⟩, ⟨D, e3⟩, E, e4⟩ := h
  have b2 := am_set e b
  rw [upd_N, ct_put hk] at b2
  exact ⟨(am_set2 e (by omega)).trans a, b2, (am_set2 e (by omega)).trans c, ⟨A, (am_set2 e (by omega)).trans d⟩, ⟨B, (am_set2 e (by omega)).trans e1⟩, ⟨C, (am_set2 e (by omega)).trans e2⟩, ⟨D, (am_set2 e (by omega)).trans e3⟩, E, (am_set2 e (by omega)).trans e4⟩
theorem MS.set41 {hs1 : amH} {v : Nat} (h : MS hs q g l) (e : hs1 = hs.set 41 (.inl (.int, 4, .inl (upd (fun j => nI (q j)) f (nI v))))) : MS hs1 (updN q f v) g l := by
  obtain ⟨a, b, c, ⟨A, d⟩, ⟨B, e1⟩, ⟨C, e2⟩, ⟨D, e3⟩, E, e4⟩ := h
  have c2 := am_set e c
  rw [upd_N] at c2
  exact ⟨(am_set2 e (by omega)).trans a, (am_set2 e (by omega)).trans b, c2, ⟨A, (am_set2 e (by omega)).trans d⟩, ⟨B, (am_set2 e (by omega)).trans e1⟩, ⟨C, (am_set2 e (by omega)).trans e2⟩, ⟨D, (am_set2 e (by omega)).trans e3⟩, E, (am_set2 e (by omega)).trans e4⟩
theorem c78 (h : MS hs q g l) : Cr 78 [.ref 39] hs (some (.int (nI l))) hs := by
  obtain ⟨a, -⟩ := h
  refine cr_mk ow78 (Nat.le_of_ble_eq_true rfl) ?_
  refine ev_aload_n f78_0 rfl ?_
  refine ev_getf f78_1 (by assumption) rfl ?_
  exact ev_iret f78_4 (rI rfl _) rfl
theorem c79 {v a b : Nat} (hv : v < 2 ^ 31) (ha : a < 2 ^ 31) (hb : b < 2 ^ 31) : Cr 79 [.int (nI v), .int (nI a), .int (nI b)] hs (some (.int (nI (decide (a ≤ v ∧ v ≤ b)).toNat))) hs := by
  refine cr_mk ow79 (Nat.le_of_ble_eq_true rfl) ?_
  by_cases h1 : a ≤ v
  · by_cases h2 : v ≤ b
    · rw [decide_eq_true ⟨h1, h2⟩]
      refine ev_iload_n f79_0 rfl ?_
      refine ev_iload_n f79_1 rfl ?_
      refine ev_icN (by omega) (by omega) (tgt := 14) f79_2 rfl (fun h9 => absurd h9 (by simp only [akN] at *; omega)) (fun _ => ?_)
      refine ev_iload_n f79_5 rfl ?_
      refine ev_iload_n f79_6 rfl ?_
      refine ev_icN (by omega) (by omega) (tgt := 14) f79_7 rfl (fun h9 => absurd h9 (by simp only [akN] at *; omega)) (fun _ => ?_)
      refine ev_iconstN (n := 1) f79_10 ?_
      refine ev_goto (tgt := 15) f79_11 rfl ?_
      first | exact ev_iret f79_15 (rZ rfl true) rfl | exact ev_iret f79_15 (rZ rfl false) rfl | exact ev_iret f79_15 (rZ rfl _) rfl
    · rw [decide_eq_false (fun w => h2 w.2)]
      refine ev_iload_n f79_0 rfl ?_
      refine ev_iload_n f79_1 rfl ?_
      refine ev_icN (by omega) (by omega) (tgt := 14) f79_2 rfl (fun h9 => absurd h9 (by simp only [akN] at *; omega)) (fun _ => ?_)
      refine ev_iload_n f79_5 rfl ?_
      refine ev_iload_n f79_6 rfl ?_
      refine ev_icN (by omega) (by omega) (tgt := 14) f79_7 rfl (fun _ => ?_) (fun h9 => absurd (by simp only [akN] at *; omega) h9)
      refine ev_iconstN (n := 0) f79_14 ?_
      first | exact ev_iret f79_15 (rZ rfl true) rfl | exact ev_iret f79_15 (rZ rfl false) rfl | exact ev_iret f79_15 (rZ rfl _) rfl
  · rw [decide_eq_false (fun w => h1 w.1)]
    refine ev_iload_n f79_0 rfl ?_
    refine ev_iload_n f79_1 rfl ?_
    refine ev_icN (by omega) (by omega) (tgt := 14) f79_2 rfl (fun _ => ?_) (fun h9 => absurd (by simp only [akN] at *; omega) h9)
    refine ev_iconstN (n := 0) f79_14 ?_
    first | exact ev_iret f79_15 (rZ rfl true) rfl | exact ev_iret f79_15 (rZ rfl false) rfl | exact ev_iret f79_15 (rZ rfl _) rfl
theorem c79n {v : Int32} {a b : Nat} (h : v < nI a ∨ ¬ v ≤ nI b) : Cr 79 [.int v, .int (nI a), .int (nI b)] hs (some (.int (nI false.toNat))) hs := by
  refine cr_mk ow79 (Nat.le_of_ble_eq_true rfl) ?_
  refine ev_iload_n f79_0 rfl ?_
  refine ev_iload_n f79_1 rfl ?_
  refine ev_ic (tgt := 14) f79_2 rfl (fun hc => ?_) (fun hc => ?_)
  · refine ev_iconstN (n := 0) f79_14 ?_
    first | exact ev_iret f79_15 (rZ rfl true) rfl | exact ev_iret f79_15 (rZ rfl false) rfl | exact ev_iret f79_15 (rZ rfl _) rfl
  · refine ev_iload_n f79_5 rfl ?_
    refine ev_iload_n f79_6 rfl ?_
    refine ev_ic (tgt := 14) f79_7 rfl (fun hc => ?_) (fun hc => ?_)
    · refine ev_iconstN (n := 0) f79_14 ?_
      first | exact ev_iret f79_15 (rZ rfl true) rfl | exact ev_iret f79_15 (rZ rfl false) rfl | exact ev_iret f79_15 (rZ rfl _) rfl
    · rename_i hc1
      exact absurd (Int32.not_lt.mp hc) (h.resolve_left hc1)
theorem inR_no1 {p : Int32} {N : Nat} (hN : 0 < N) (hN2 : N < 2 ^ 31) (h : ¬ inR p N) : p < nI 0 ∨ ¬ p ≤ nI (N - 1) := by
  rcases inR_no hN2 h with w | w
  · exact Or.inl w
  · refine Or.inr (fun w2 => w ?_)
    have h1 := Int32.le_iff_toInt_le.mp w2
    rw [nI_toInt (by omega)] at h1
    refine Int32.lt_iff_toInt_lt.mpr ?_
    rw [nI_toInt (by omega)]
    omega
theorem c80 (hf : f < 4) : Cr 80 [.int (nI f)] hs (some (.int (nI true.toNat))) hs := by
  have k := c79 (hs := hs) (v := f) (a := 0) (b := 3) (by omega) (by omega) (by omega)
  rw [decide_eq_true ⟨by omega, by omega⟩] at k
  refine cr_mk ow80 (Nat.le_of_ble_eq_true rfl) ?_
  refine ev_iload_n f80_0 rfl ?_
  refine ev_iconstN (n := 0) f80_1 ?_
  refine ev_iconstN (n := 3) f80_2 ?_
  refine ev_s3 f80_3 (by decide) ow79 rfl rfl rfl (Nat.le_of_ble_eq_true rfl) k ?_
  exact ev_iret f80_6 (rZ rfl true) rfl
theorem c80n {p : Int32} (hp : ¬ inR p 4) : Cr 80 [.int p] hs (some (.int (nI false.toNat))) hs := by
  have k := c79n (hs := hs) (inR_no1 (by omega) (by omega) hp)
  refine cr_mk ow80 (Nat.le_of_ble_eq_true rfl) ?_
  refine ev_iload_n f80_0 rfl ?_
  refine ev_iconstN (n := 0) f80_1 ?_
  refine ev_iconstN (n := 3) f80_2 ?_
  refine ev_s3 f80_3 (by decide) ow79 rfl rfl rfl (Nat.le_of_ble_eq_true rfl) k ?_
  exact ev_iret f80_6 (rZ rfl false) rfl
theorem c81 {k : Nat} (hk : k < 4096) : Cr 81 [.int (nI k)] hs (some (.int (nI true.toNat))) hs := by
  have k2 := c79 (hs := hs) (v := k) (a := 0) (b := 4095) (by omega) (by omega) (by omega)
  rw [decide_eq_true ⟨by omega, by omega⟩] at k2
  refine cr_mk ow81 (Nat.le_of_ble_eq_true rfl) ?_
  refine ev_iload_n f81_0 rfl ?_
  refine ev_iconstN (n := 0) f81_1 ?_
  refine ev_sipushN (n := 4095) (by decide +kernel) f81_2 ?_
  refine ev_s3 f81_5 (by decide) ow79 rfl rfl rfl (Nat.le_of_ble_eq_true rfl) (k2) ?_
  first | exact ev_iret f81_8 (rZ rfl true) rfl | exact ev_iret f81_8 (rZ rfl false) rfl | exact ev_iret f81_8 (rZ rfl _) rfl
theorem c81n {p : Int32} (hp : ¬ inR p 4096) : Cr 81 [.int p] hs (some (.int (nI false.toNat))) hs := by
  have k2 := c79n (hs := hs) (inR_no1 (by omega) (by omega) hp)
  refine cr_mk ow81 (Nat.le_of_ble_eq_true rfl) ?_
  refine ev_iload_n f81_0 rfl ?_
  refine ev_iconstN (n := 0) f81_1 ?_
  refine ev_sipushN (n := 4095) (by decide +kernel) f81_2 ?_
  refine ev_s3 f81_5 (by decide) ow79 rfl rfl rfl (Nat.le_of_ble_eq_true rfl) (k2) ?_
  first | exact ev_iret f81_8 (rZ rfl true) rfl | exact ev_iret f81_8 (rZ rfl false) rfl | exact ev_iret f81_8 (rZ rfl _) rfl
/-- which exception, by what is known and what fits -/
def gsN (a b : Bool) : Nat := if a = false then 1 else if b = true then 0 else 2
theorem c82 (h : MS hs q g l) (a b : Bool) : CrQ 82 [.ref 39, .int (nI a.toNat), .int (nI b.toNat)] hs (some (.int (nI (a && b).toNat))) (fun hs' => MS hs' q g (gsN a b) ∧ Fr hs hs' 39 47) := by
  have h9 := h
  obtain ⟨a0, -⟩ := h
  refine crq_mk ow82 (Nat.le_of_ble_eq_true rfl) ?_
  cases a
  · refine eq_ (fun _ k => ev_aload_n f82_0 rfl k) ?_
    refine eq_ (fun _ k => ev_iload_n f82_1 rfl k) ?_
    refine eq_ifneB (tgt := 9) f82_2 rfl (fun h9 => Bool.noConfusion (h9.symm.trans (rfl))) (fun _ => ?_)
    refine eq_ (fun _ k => ev_iconstN (n := 1) f82_5 k) ?_
    refine eq_ (fun _ k => ev_goto (tgt := 18) f82_6 rfl k) ?_
    refine eq_putf f82_18 (by assumption) rfl (Nat.le_of_ble_eq_true rfl) (fun hs1 e1 => ?_)
    have m1 := h9.set39 (l2 := 1) e1
    have mm := m1
    obtain ⟨b0, -⟩ := mm
    refine eq_ (fun _ k => ev_aload_n f82_21 rfl k) ?_
    refine eq_ (fun _ k => ev_getf f82_22 (by assumption) rfl k) ?_
    refine eq_ifN (by omega) (tgt := 32) f82_25 rfl (fun _ => ?_) (fun h9 => absurd (by simp only [akN] at *; omega) h9)
    refine eq_ (fun _ k => ev_iconstN (n := 0) f82_32 k) ?_
    first | refine ⟨_, ev_iret f82_33 (rZ rfl true) rfl, ?_⟩ | refine ⟨_, ev_iret f82_33 (rZ rfl false) rfl, ?_⟩ | refine ⟨_, ev_iret f82_33 (rZ rfl _) rfl, ?_⟩
    exact ⟨hs1, rfl, m1, Fr.st e1 (by omega) (by omega)⟩
  · cases b
    · refine eq_ (fun _ k => ev_aload_n f82_0 rfl k) ?_
      refine eq_ (fun _ k => ev_iload_n f82_1 rfl k) ?_
      refine eq_ifneB (tgt := 9) f82_2 rfl (fun _ => ?_) (fun h9 => Bool.noConfusion (h9.symm.trans (rfl)))
      refine eq_ (fun _ k => ev_iload_n f82_9 rfl k) ?_
      refine eq_ifeqB (tgt := 17) f82_10 rfl (fun _ => ?_) (fun h9 => Bool.noConfusion (h9.symm.trans (rfl)))
      refine eq_ (fun _ k => ev_iconstN (n := 2) f82_17 k) ?_
      refine eq_putf f82_18 (by assumption) rfl (Nat.le_of_ble_eq_true rfl) (fun hs1 e1 => ?_)
      have m1 := h9.set39 (l2 := 2) e1
      have mm := m1
      obtain ⟨b0, -⟩ := mm
      refine eq_ (fun _ k => ev_aload_n f82_21 rfl k) ?_
      refine eq_ (fun _ k => ev_getf f82_22 (by assumption) rfl k) ?_
      refine eq_ifN (by omega) (tgt := 32) f82_25 rfl (fun _ => ?_) (fun h9 => absurd (by simp only [akN] at *; omega) h9)
      refine eq_ (fun _ k => ev_iconstN (n := 0) f82_32 k) ?_
      first | refine ⟨_, ev_iret f82_33 (rZ rfl true) rfl, ?_⟩ | refine ⟨_, ev_iret f82_33 (rZ rfl false) rfl, ?_⟩ | refine ⟨_, ev_iret f82_33 (rZ rfl _) rfl, ?_⟩
      exact ⟨hs1, rfl, m1, Fr.st e1 (by omega) (by omega)⟩
    · refine eq_ (fun _ k => ev_aload_n f82_0 rfl k) ?_
      refine eq_ (fun _ k => ev_iload_n f82_1 rfl k) ?_
      refine eq_ifneB (tgt := 9) f82_2 rfl (fun _ => ?_) (fun h9 => Bool.noConfusion (h9.symm.trans (rfl)))
      refine eq_ (fun _ k => ev_iload_n f82_9 rfl k) ?_
      refine eq_ifeqB (tgt := 17) f82_10 rfl (fun h9 => Bool.noConfusion (h9.symm.trans (rfl))) (fun _ => ?_)
      refine eq_ (fun _ k => ev_iconstN (n := 0) f82_13 k) ?_
      refine eq_ (fun _ k => ev_goto (tgt := 18) f82_14 rfl k) ?_
      refine eq_putf f82_18 (by assumption) rfl (Nat.le_of_ble_eq_true rfl) (fun hs1 e1 => ?_)
      have m1 := h9.set39 (l2 := 0) e1
      have mm := m1
      obtain ⟨b0, -⟩ := mm
      refine eq_ (fun _ k => ev_aload_n f82_21 rfl k) ?_
      refine eq_ (fun _ k => ev_getf f82_22 (by assumption) rfl k) ?_
      refine eq_ifN (by omega) (tgt := 32) f82_25 rfl (fun h9 => absurd h9 (fun w => w rfl)) (fun _ => ?_)
      refine eq_ (fun _ k => ev_iconstN (n := 1) f82_28 k) ?_
      refine eq_ (fun _ k => ev_goto (tgt := 33) f82_29 rfl k) ?_
      first | refine ⟨_, ev_iret f82_33 (rZ rfl true) rfl, ?_⟩ | refine ⟨_, ev_iret f82_33 (rZ rfl false) rfl, ?_⟩ | refine ⟨_, ev_iret f82_33 (rZ rfl _) rfl, ?_⟩
      exact ⟨hs1, rfl, m1, Fr.st e1 (by omega) (by omega)⟩
theorem c83 (h : MS hs q g l) (hf : f < 4) (hq : q f ≤ 8) : Cr 83 [.ref 39, .int (nI f)] hs (some (.int (nI (2 ^ q f)))) hs := by
  obtain ⟨a, b, c, -⟩ := h
  refine cr_mk ow83 (Nat.le_of_ble_eq_true rfl) ?_
  refine ev_iconstN (n := 1) f83_0 ?_
  refine ev_aload_n f83_1 rfl ?_
  refine ev_getf f83_2 (by assumption) rfl ?_
  refine ev_iload_n f83_5 rfl ?_
  refine ev_iald f83_6 (by assumption) (by omega) (by omega) ?_
  refine ev_ishl f83_7 ?_
  rw [am_shl1 (by omega)]
  exact ev_iret f83_8 (rI rfl _) rfl
theorem c84 {k : Nat} (hk : k < 2 ^ 30) : Cr 84 [.int (nI k)] hs (some (.int (nI (enN k)))) hs := by
  refine cr_mk ow84 (Nat.le_of_ble_eq_true rfl) ?_
  refine ev_iload_n f84_0 rfl ?_
  refine ev_bipushN (n := 7) (by omega) f84_1 ?_
  first | refine ev_iaddN f84_3 ?_ | refine ev_iadd f84_3 ?_
  refine ev_iconstN (n := 1) f84_4 ?_
  refine ev_isubN (by omega) f84_5 ?_
  refine ev_bipushN (n := 7) (by omega) f84_6 ?_
  refine ev_idivN (by omega) (by omega) (by omega) f84_8 ?_
  exact ev_iret f84_9 (rI rfl _) rfl
theorem c87 (key : Int32) : Cr 87 [.int key] hs (some (.int (nI (prN key)))) hs := by
  refine cr_mk ow87 (Nat.le_of_ble_eq_true rfl) ?_
  refine ev_iload_n f87_0 rfl ?_
  refine ev_ldc rfl f87_1 ?_
  first | refine ev_imulN f87_3 ?_ | refine ev_imul f87_3 ?_
  refine ev_bipushN (n := 20) (by omega) f87_4 ?_
  refine ev_iushr f87_6 ?_
  rw [pr_sh key]
  exact ev_iret f87_7 (rI rfl _) rfl
theorem c86 {a n : Nat} (ha : a < 2 ^ 30) (hn : n ≤ 256) : Cr 86 [.int (nI a), .int (nI n)] hs (some (.int (nI (decide (a ≤ n / 8 * 7)).toNat))) hs := by
  refine cr_mk ow86 (Nat.le_of_ble_eq_true rfl) ?_
  by_cases h : a ≤ n / 8 * 7
  · rw [decide_eq_true h]
    refine ev_iload_n f86_0 rfl ?_
    refine ev_iload_n f86_1 rfl ?_
    refine ev_bipushN (n := 8) (by omega) f86_2 ?_
    refine ev_idivN (by omega) (by omega) (by omega) f86_4 ?_
    refine ev_bipushN (n := 7) (by omega) f86_5 ?_
    first | refine ev_imulN f86_7 ?_ | refine ev_imul f86_7 ?_
    refine ev_icN (by omega) (by omega) (tgt := 15) f86_8 rfl (fun h9 => absurd h9 (by simp only [akN] at *; omega)) (fun _ => ?_)
    refine ev_iconstN (n := 1) f86_11 ?_
    refine ev_goto (tgt := 16) f86_12 rfl ?_
    first | exact ev_iret f86_16 (rZ rfl true) rfl | exact ev_iret f86_16 (rZ rfl false) rfl | exact ev_iret f86_16 (rZ rfl _) rfl
  · rw [decide_eq_false h]
    refine ev_iload_n f86_0 rfl ?_
    refine ev_iload_n f86_1 rfl ?_
    refine ev_bipushN (n := 8) (by omega) f86_2 ?_
    refine ev_idivN (by omega) (by omega) (by omega) f86_4 ?_
    refine ev_bipushN (n := 7) (by omega) f86_5 ?_
    first | refine ev_imulN f86_7 ?_ | refine ev_imul f86_7 ?_
    refine ev_icN (by omega) (by omega) (tgt := 15) f86_8 rfl (fun _ => ?_) (fun h9 => absurd (by simp only [akN] at *; omega) h9)
    refine ev_iconstN (n := 0) f86_15 ?_
    first | exact ev_iret f86_16 (rZ rfl true) rfl | exact ev_iret f86_16 (rZ rfl false) rfl | exact ev_iret f86_16 (rZ rfl _) rfl
theorem l85 (h : MS hs q g l) (hf : f < 4) (hg : ∀ k, g f k ≤ 1568) (hE : EE (g f) 4096 ≤ 65536) : ∀ (d k : Nat), k + d = 4096 → Ev 85 4 [some (.ref 39), some (.int (nI f)), some (.int (nI (EE (g f) k))), some (.int (nI k))] [] hs 0 0 (.inl (some (.int (nI (EE (g f) 4096)))), hs, 0, 0) := by
  obtain ⟨a, b, c, -⟩ := h
  intro d
  induction d with
  | zero =>
    intro k hk
    have hk2 : k = 4096 := by omega
    subst hk2
    refine ev_iload_n f85_4 rfl ?_
    refine ev_sipushN (n := 4096) (by decide +kernel) f85_5 ?_
    refine ev_icN (by omega) (by omega) (tgt := 35) f85_8 rfl (fun _ => ?_) (fun h9 => absurd (by simp only [akN] at *; omega) h9)
    refine ev_iload_n f85_35 rfl ?_
    exact ev_iret f85_36 (rI rfl _) rfl
  | succ d ih =>
    intro k hk
    have hi := ih (k + 1) (by omega)
    have e := ct (g := g) (f := f) (show k < 4096 by omega)
    have hgk := hg k
    rw [EE_s, ← e] at hi
    rw [← e] at hgk
    refine ev_iload_n f85_4 rfl ?_
    refine ev_sipushN (n := 4096) (by decide +kernel) f85_5 ?_
    refine ev_icN (by omega) (by omega) (tgt := 35) f85_8 rfl (fun h9 => absurd h9 (by simp only [akN] at *; omega)) (fun _ => ?_)
    refine ev_iload_n f85_11 rfl ?_
    refine ev_aload_n f85_12 rfl ?_
    refine ev_getf f85_13 (by assumption) rfl ?_
    refine ev_sipushN (n := 4096) (by decide +kernel) f85_16 ?_
    refine ev_iload_n f85_19 rfl ?_
    first | refine ev_imulN f85_20 ?_ | refine ev_imul f85_20 ?_
    refine ev_iload_n f85_21 rfl ?_
    first | refine ev_iaddN f85_22 ?_ | refine ev_iadd f85_22 ?_
    refine ev_iald f85_23 (by assumption) (by omega) (by omega) ?_
    refine ev_s1 f85_24 (by decide) ow84 rfl (Nat.le_of_ble_eq_true rfl) (c84 (by omega)) ?_
    first | refine ev_iaddN f85_27 ?_ | refine ev_iadd f85_27 ?_
    refine ev_istore_n f85_28 ?_
    refine ev_iincN f85_29 rfl ?_
    refine ev_goto (tgt := 4) f85_32 rfl ?_
    exact hi
theorem c85 (h : MS hs q g l) (hf : f < 4) (hg : ∀ k, g f k ≤ 1568) (hE : EE (g f) 4096 ≤ 65536) : Cr 85 [.ref 39, .int (nI f)] hs (some (.int (nI (EE (g f) 4096)))) hs := by
  refine cr_mk ow85 (Nat.le_of_ble_eq_true rfl) ?_
  refine ev_iconstN (n := 0) f85_0 ?_
  refine ev_istore_n f85_1 ?_
  refine ev_iconstN (n := 0) f85_2 ?_
  refine ev_istore_n f85_3 ?_
  exact l85 h hf hg hE 4096 0 rfl
end MO
