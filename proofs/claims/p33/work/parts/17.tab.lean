/-! the table's small methods; rows laid by wip/whole/walk.py -/
theorem am_sh : ∀ n, n < 32 → ((nI n &&& 31).toBitVec.smod 32).toNat = n := by decide +kernel
theorem am_orI (a b : Nat) : nI a ||| nI b = nI (a ||| b) := by
  apply Int32.toBitVec_inj.mp
  show BitVec.ofNat 32 a ||| BitVec.ofNat 32 b = BitVec.ofNat 32 (a ||| b)
  rw [BitVec.ofNat_or]
theorem am_orSum {a k : Nat} (b : Nat) (h : a < 2 ^ k) : nI (b * 2 ^ k) ||| nI a = nI (b * 2 ^ k + a) := by
  rw [am_orI, Nat.mul_comm, ← Nat.two_pow_add_eq_or_of_lt h]
theorem am_mask {x k : Nat} (h : x < 2 ^ 31) (hk : k ≤ 12) : nI x &&& nI (2 ^ k - 1) = nI (x % 2 ^ k) := by
  have h1 : ∀ k, k ≤ 12 → (nI (2 ^ k - 1)).toBitVec.toNat = 2 ^ k - 1 := by decide +kernel
  exact pk_andN (by omega) k (h1 k hk)
theorem am_maskM {k : Nat} (hk : k ≤ 12) : (nI 0 - nI 1) &&& nI (2 ^ k - 1) = nI (2 ^ k - 1) := by
  have h1 : ∀ k, k ≤ 12 → (nI 0 - nI 1) &&& nI (2 ^ k - 1) = nI (2 ^ k - 1) := by decide +kernel
  exact h1 k hk
theorem c14 {hs : amH} {p q : Nat} {T : amTab} (h : TabAt hs p q T) : Cr 14 [.ref p] hs (some (.int (nI (2 ^ q)))) hs := by
  obtain ⟨h0, h3, h8, a0, a1, a2, a3, a4, a5, b1, b2⟩ := h
  refine cr_mk ow14 (Nat.le_of_ble_eq_true rfl) ?_
  refine ev_iconstN (n := 1) f14_0 ?_
  refine ev_aload_n f14_1 rfl ?_
  refine ev_getf f14_2 (by assumption) rfl ?_
  refine ev_ishl f14_5 ?_
  rw [am_shl1 (by omega)]
  exact ev_iret f14_6 (rI rfl _) rfl
theorem c15 {hs : amH} {p q : Nat} {T : amTab} (h : TabAt hs p q T) {j : Nat} (hj : j < 256) : Cr 15 [.ref p, .int (nI j)] hs (some (.int (nI (decide (T.2.1 j = 0)).toNat))) hs := by
  obtain ⟨h0, h3, h8, a0, a1, a2, a3, a4, a5, b1, b2⟩ := h
  refine cr_mk ow15 (Nat.le_of_ble_eq_true rfl) ?_
  have hb := b2 j
  refine ev_aload_n f15_0 rfl ?_
  refine ev_getf f15_1 (by assumption) rfl ?_
  refine ev_iload_n f15_4 rfl ?_
  refine ev_iald f15_5 (by assumption) (by omega) (by omega) ?_
  refine ev_ifN (by omega) (tgt := 13) f15_6 rfl (fun hc => ?_) (fun hc => ?_)
  · have e : decide (T.2.1 j = 0) = false := decide_eq_false hc
    rw [e]
    refine ev_iconstN (n := 0) f15_13 ?_
    first | exact ev_iret f15_14 (rZ rfl true) rfl | exact ev_iret f15_14 (rZ rfl false) rfl | exact ev_iret f15_14 (rZ rfl _) rfl
  · have e : decide (T.2.1 j = 0) = true := decide_eq_true (by simp only [akN] at hc; omega)
    rw [e]
    refine ev_iconstN (n := 1) f15_9 ?_
    refine ev_goto (tgt := 14) f15_10 rfl ?_
    first | exact ev_iret f15_14 (rZ rfl true) rfl | exact ev_iret f15_14 (rZ rfl false) rfl | exact ev_iret f15_14 (rZ rfl _) rfl
theorem c16 {hs : amH} {p q : Nat} {T : amTab} (h : TabAt hs p q T) {j : Nat} (hj : j < 2 ^ 31) : Cr 16 [.ref p, .int (nI j)] hs (some (.int (nI (j % 2 ^ q)))) hs := by
  have h9 := h
  obtain ⟨h0, h3, h8, a0, a1, a2, a3, a4, a5, b1, b2⟩ := h
  obtain ⟨p1, p2⟩ := am_pow h3 h8
  refine cr_mk ow16 (Nat.le_of_ble_eq_true rfl) ?_
  refine ev_iload_n f16_0 rfl ?_
  refine ev_aload_n f16_1 rfl ?_
  refine ev_v0 f16_2 ow14 (by assumption) (Nat.le_of_ble_eq_true rfl) (c14 h9) ?_
  refine ev_iconstN (n := 1) f16_5 ?_
  refine ev_isubN (by omega) f16_6 ?_
  refine ev_iand f16_7 ?_
  rw [am_mask hj (by omega)]
  exact ev_iret f16_8 (rI rfl _) rfl
theorem c16m {hs : amH} {p q : Nat} {T : amTab} (h : TabAt hs p q T) {j : Nat} (hj : j < 2 ^ q) : Cr 16 [.ref p, .int (nI j - nI 1)] hs (some (.int (nI ((j + (2 ^ q - 1)) % 2 ^ q)))) hs := by
  have h9 := h
  obtain ⟨h0, h3, h8, a0, a1, a2, a3, a4, a5, b1, b2⟩ := h
  obtain ⟨p1, p2⟩ := am_pow h3 h8
  by_cases hz : j = 0
  · subst hz
    rw [show (0 + (2 ^ q - 1)) % 2 ^ q = 2 ^ q - 1 from by rw [Nat.zero_add]; exact Nat.mod_eq_of_lt (by omega)]
    refine cr_mk ow16 (Nat.le_of_ble_eq_true rfl) ?_
    refine ev_iload_n f16_0 rfl ?_
    refine ev_aload_n f16_1 rfl ?_
    refine ev_v0 f16_2 ow14 (by assumption) (Nat.le_of_ble_eq_true rfl) (c14 h9) ?_
    refine ev_iconstN (n := 1) f16_5 ?_
    refine ev_isubN (by omega) f16_6 ?_
    refine ev_iand f16_7 ?_
    rw [am_maskM (by omega)]
    exact ev_iret f16_8 (rI rfl _) rfl
  · rw [pk_sub (by omega), show (j + (2 ^ q - 1)) % 2 ^ q = (j - 1) % 2 ^ q from by rw [show j + (2 ^ q - 1) = (j - 1) + 2 ^ q by omega, Nat.add_mod_right]]
    exact c16 h9 (by omega)
theorem c17 {hs : amH} {p q : Nat} {T : amTab} (h : TabAt hs p q T) {k : Nat} (hk : k < 4096) : Cr 17 [.ref p, .int (nI k)] hs (some (.int (nI (k / 2 ^ (12 - q))))) hs := by
  obtain ⟨h0, h3, h8, a0, a1, a2, a3, a4, a5, b1, b2⟩ := h
  refine cr_mk ow17 (Nat.le_of_ble_eq_true rfl) ?_
  refine ev_iload_n f17_0 rfl ?_
  refine ev_bipushN (n := 12) (by omega) f17_1 ?_
  refine ev_aload_n f17_3 rfl ?_
  refine ev_getf f17_4 (by assumption) rfl ?_
  refine ev_isubN (by omega) f17_7 ?_
  refine ev_ishr f17_8 ?_
  rw [pk_shrN (by omega) _ (12 - q) (am_sh _ (by omega))]
  exact ev_iret f17_9 (rI rfl _) rfl
theorem c18 {hs : amH} {p q : Nat} {T : amTab} (h : TabAt hs p q T) {k : Nat} (hk : k < 4096) : Cr 18 [.ref p, .int (nI k)] hs (some (.int (nI (k % 2 ^ (12 - q))))) hs := by
  obtain ⟨h0, h3, h8, a0, a1, a2, a3, a4, a5, b1, b2⟩ := h
  refine cr_mk ow18 (Nat.le_of_ble_eq_true rfl) ?_
  have hp : 1 ≤ 2 ^ (12 - q) := Nat.one_le_two_pow
  refine ev_iload_n f18_0 rfl ?_
  refine ev_iconstN (n := 1) f18_1 ?_
  refine ev_bipushN (n := 12) (by omega) f18_2 ?_
  refine ev_aload_n f18_4 rfl ?_
  refine ev_getf f18_5 (by assumption) rfl ?_
  refine ev_isubN (by omega) f18_8 ?_
  refine ev_ishl f18_9 ?_
  rw [am_shl1 (by omega)]
  refine ev_iconstN (n := 1) f18_10 ?_
  refine ev_isubN (by omega) f18_11 ?_
  refine ev_iand f18_12 ?_
  rw [am_mask (by omega) (by omega)]
  exact ev_iret f18_13 (rI rfl _) rfl
theorem c19 {hs : amH} {p q : Nat} {T : amTab} (h : TabAt hs p q T) {a b : Nat} (ha : a < 2 ^ q) (hb : b < 2 ^ (12 - q)) : Cr 19 [.ref p, .int (nI a), .int (nI b)] hs (some (.int (nI (a * 2 ^ (12 - q) + b)))) hs := by
  obtain ⟨h0, h3, h8, a0, a1, a2, a3, a4, a5, b1, b2⟩ := h
  obtain ⟨p1, p2⟩ := am_pow h3 h8
  have hm : a * 2 ^ (12 - q) < 2 ^ 32 := by
    have h1 : 2 ^ (12 - q) ≤ 2 ^ 12 := Nat.pow_le_pow_right (by omega) (by omega)
    have h2 : a * 2 ^ (12 - q) ≤ 256 * 2 ^ 12 := Nat.mul_le_mul (by omega) h1
    omega
  refine cr_mk ow19 (Nat.le_of_ble_eq_true rfl) ?_
  refine ev_iload_n f19_0 rfl ?_
  refine ev_bipushN (n := 12) (by omega) f19_1 ?_
  refine ev_aload_n f19_3 rfl ?_
  refine ev_getf f19_4 (by assumption) rfl ?_
  refine ev_isubN (by omega) f19_7 ?_
  refine ev_ishl f19_8 ?_
  rw [pk_shlN _ (12 - q) (am_sh _ (by omega)) hm]
  refine ev_iload_n f19_9 rfl ?_
  refine ev_ior f19_10 ?_
  rw [am_orSum a hb]
  exact ev_iret f19_11 (rI rfl _) rfl
/-- how many of the first n places are not 0 -/
def nzN (f : Nat → Nat) : Nat → Nat
  | 0 => 0
  | n + 1 => nzN f n + if f n = 0 then 0 else 1
def smN (f : Nat → Nat) : Nat → Nat
  | 0 => 0
  | n + 1 => smN f n + f n
theorem nzN_le (f : Nat → Nat) : ∀ n, nzN f n ≤ n
  | 0 => Nat.le_refl 0
  | n + 1 => by
    have h := nzN_le f n
    unfold nzN
    split <;> omega
theorem smN_le {f : Nat → Nat} {b : Nat} (h : ∀ j, f j ≤ b) : ∀ n, smN f n ≤ n * b
  | 0 => Nat.zero_le _
  | n + 1 => by
    have h1 := smN_le h n
    have h2 := h n
    unfold smN
    rw [Nat.succ_mul]
    omega
theorem l20 {hs : amH} {p q : Nat} {T : amTab} (h : TabAt hs p q T) : ∀ (d k : Nat), k + d = 2 ^ q → Ev 20 4 [some (.ref p), some (.int (nI (nzN T.2.1 k))), some (.int (nI k))] [] hs 0 0 (.inl (some (.int (nI (nzN T.2.1 (2 ^ q))))), hs, 0, 0) := by
  have h9 := h
  obtain ⟨h0, h3, h8, a0, a1, a2, a3, a4, a5, b1, b2⟩ := h
  obtain ⟨p1, p2⟩ := am_pow h3 h8
  intro d
  induction d with
  | zero =>
    intro k hk
    have hk2 : k = 2 ^ q := by omega
    subst hk2
    refine ev_iload_n f20_4 rfl ?_
    refine ev_aload_n f20_5 rfl ?_
    refine ev_v0 f20_6 ow14 (by assumption) (Nat.le_of_ble_eq_true rfl) (c14 h9) ?_
    refine ev_icN (by omega) (by omega) (tgt := 34) f20_9 rfl (fun _ => ?_) (fun h9 => absurd (by simp only [akN] at *; omega) h9)
    refine ev_iload_n f20_34 rfl ?_
    exact ev_iret f20_35 (rI rfl _) rfl
  | succ d ih =>
    intro k hk
    have hi := ih (k + 1) (by omega)
    refine ev_iload_n f20_4 rfl ?_
    refine ev_aload_n f20_5 rfl ?_
    refine ev_v0 f20_6 ow14 (by assumption) (Nat.le_of_ble_eq_true rfl) (c14 h9) ?_
    refine ev_icN (by omega) (by omega) (tgt := 34) f20_9 rfl (fun h9 => absurd h9 (by simp only [akN] at *; omega)) (fun _ => ?_)
    refine ev_iload_n f20_12 rfl ?_
    refine ev_aload_n f20_13 rfl ?_
    refine ev_iload_n f20_14 rfl ?_
    refine ev_v1 f20_15 ow15 (by assumption) rfl (Nat.le_of_ble_eq_true rfl) (c15 h9 (by omega)) ?_
    refine ev_ifeqB (tgt := 25) f20_18 rfl (fun hc => ?_) (fun hc => ?_)
    · have e : nzN T.2.1 (k + 1) = nzN T.2.1 k + 1 := by
        have h1 := of_decide_eq_false hc
        simp only [nzN, if_neg h1]
      rw [e] at hi
      refine ev_iconstN (n := 1) f20_25 ?_
      first | refine ev_iaddN f20_26 ?_ | refine ev_iadd f20_26 ?_
      refine ev_istore_n f20_27 ?_
      refine ev_iincN f20_28 rfl ?_
      refine ev_goto (tgt := 4) f20_31 rfl ?_
      exact hi
    · have e : nzN T.2.1 (k + 1) = nzN T.2.1 k + 0 := by
        have h1 := of_decide_eq_true hc
        simp only [nzN, if_pos h1]
      rw [e] at hi
      refine ev_iconstN (n := 0) f20_21 ?_
      refine ev_goto (tgt := 26) f20_22 rfl ?_
      first | refine ev_iaddN f20_26 ?_ | refine ev_iadd f20_26 ?_
      refine ev_istore_n f20_27 ?_
      refine ev_iincN f20_28 rfl ?_
      refine ev_goto (tgt := 4) f20_31 rfl ?_
      exact hi
theorem c20 {hs : amH} {p q : Nat} {T : amTab} (h : TabAt hs p q T) : Cr 20 [.ref p] hs (some (.int (nI (nzN T.2.1 (2 ^ q))))) hs := by
  refine cr_mk ow20 (Nat.le_of_ble_eq_true rfl) ?_
  refine ev_iconstN (n := 0) f20_0 ?_
  refine ev_istore_n f20_1 ?_
  refine ev_iconstN (n := 0) f20_2 ?_
  refine ev_istore_n f20_3 ?_
  exact l20 h (2 ^ q) 0 (by omega)
