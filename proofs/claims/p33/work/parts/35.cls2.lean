/-! the class's shared calls; rows laid by wip/whole/walk.py -/
theorem u32_nI (w : UInt32) : w.toInt32 = nI w.toNat := by
  apply Int32.toBitVec_inj.mp
  simp [nI]
/-- a key's fingerprint -/
def prN (key : Int32) : Nat := (key * (-1640531527)).toUInt32.toNat / 2 ^ 20
theorem prN_lt (key : Int32) : prN key < 4096 := by
  unfold prN
  have := (key * (-1640531527)).toUInt32.toNat_lt
  omega
theorem pr_sh (key : Int32) : ((key * (-1640531527)).toUInt32 >>> ((nI 20).toUInt32 &&& Int32.toUInt32 31)).toInt32 = nI (prN key) := by
  rw [u32_nI, UInt32.toNat_shiftRight]
  rw [show (((nI 20).toUInt32 &&& Int32.toUInt32 31).toNat % 32) = 20 from by decide]
  rw [Nat.shiftRight_eq_div_pow]
  rfl
theorem c37 {hs : amH} (a : Nat) (key : Int32) : Cr 37 [.ref a, .int key] hs (some (.int (nI (prN key)))) hs := by
  refine cr_mk ow37 (Nat.le_of_ble_eq_true rfl) ?_
  refine ev_iload_n f37_0 rfl ?_
  refine ev_ldc (v := -1640531527) rfl (by decide) f37_1 ?_
  first | refine ev_imulN f37_3 ?_ | refine ev_imul f37_3 ?_
  refine ev_bipushN (n := 20) (by omega) f37_4 ?_
  refine ev_iushr f37_6 ?_
  rw [pr_sh key]
  exact ev_iret f37_7 (rI rfl _) rfl
/-! contracts in terms of a filter -/
theorem FilAt.tab {hs : amH} {p q : Nat} {g : Nat → Nat} (h : FilAt hs p q g) : ∃ T, TabAt hs p q T ∧ Lay (2 ^ q) (2 ^ (12 - q)) g (ovN (2 ^ q) (2 ^ (12 - q)) g + 2 ^ q) T ∧ 0 < 2 ^ q ∧ 0 < 2 ^ (12 - q) ∧ 2 ^ q * 2 ^ (12 - q) = 4096 ∧ EE g (2 ^ q * 2 ^ (12 - q)) < 2 ^ q ∧ TabL (2 ^ q) (PN (2 ^ q) (2 ^ (12 - q)) g) (LN (2 ^ q) (2 ^ (12 - q)) g) T := by
  obtain ⟨T, t, hlay, hN, hg⟩ := h
  have h3 := t.2.1
  have h8 := t.2.2.1
  obtain ⟨p1, p2⟩ := am_pow h3 h8
  have hnm := am_nm h8
  have hm : 0 < 2 ^ (12 - q) := Nat.two_pow_pos _
  have hN2 : EE g (2 ^ q * 2 ^ (12 - q)) < 2 ^ q := by rw [hnm]; omega
  exact ⟨T, t, hlay, by omega, hm, hnm, hN2, lay_tab (by omega) hm hN2 hlay⟩
theorem FilAt.obj {hs : amH} {p q : Nat} {g : Nat → Nat} (h : FilAt hs p q g) : 3 ≤ q ∧ q ≤ 8 ∧ hs[p]? = some (.inr (2, [.ref (p + 1), .ref (p + 2), .ref (p + 3), .ref (p + 4), .ref (p + 5), .int (nI q)])) := by
  obtain ⟨T, t, -⟩ := h
  exact ⟨t.2.1, t.2.2.1, t.2.2.2.1⟩
theorem FilAt.le {hs : amH} {p q : Nat} {g : Nat → Nat} (h : FilAt hs p q g) : EE g 4096 ≤ 224 ∧ nzN g 4096 ≤ 224 ∧ (∀ k, g k ≤ 1568) ∧ EE g 4096 * 8 ≤ 7 * 2 ^ q ∧ ∀ k, 4096 ≤ k → g k = 0 := by
  obtain ⟨T, t, hlay, hN, hg⟩ := h
  obtain ⟨p1, p2⟩ := am_pow t.2.1 t.2.2.1
  have := nz_EE g 4096
  refine ⟨by omega, by omega, fun k => ?_, hN, hg⟩
  by_cases hk : k < 4096
  · have := EE_g g hk
    omega
  · rw [hg k (by omega)]
    omega
theorem f14 {hs : amH} {p q : Nat} {g : Nat → Nat} (h : FilAt hs p q g) : Cr 14 [.ref p] hs (some (.int (nI (2 ^ q)))) hs := by
  obtain ⟨T, t, -⟩ := h
  exact c14 t
theorem f20 {hs : amH} {p q : Nat} {g : Nat → Nat} (h : FilAt hs p q g) : Cr 20 [.ref p] hs (some (.int (nI (EE g 4096)))) hs := by
  obtain ⟨T, t, hlay, hn, hm, hnm, hN2, hT⟩ := h.tab
  have := ans_used hn hm hN2 hlay
  rw [hnm] at this
  rw [← this]
  exact c20 t
theorem f21 {hs : amH} {p q : Nat} {g : Nat → Nat} (h : FilAt hs p q g) : Cr 21 [.ref p] hs (some (.int (nI (smN g 4096)))) hs := by
  obtain ⟨T, t, hlay, hn, hm, hnm, hN2, hT⟩ := h.tab
  have := ans_total hn hm hN2 hlay
  rw [hnm] at this
  rw [← this]
  exact c21 t
theorem f28 {hs : amH} {p q k : Nat} {g : Nat → Nat} (h : FilAt hs p q g) (hk : k < 4096) : Cr 28 [.ref p, .int (nI k)] hs (some (.int (nI (g k)))) hs := by
  obtain ⟨T, t, hlay, hn, hm, hnm, hN2, hT⟩ := h.tab
  have hq := am_quo t.2.1 t.2.2.1 hk
  have e : cirN T q k = g k := by
    unfold cirN
    have h1 := tl_oc hT (k / 2 ^ (12 - q))
    rw [Nat.mod_eq_of_lt hq] at h1
    by_cases hL : 0 < LN (2 ^ q) (2 ^ (12 - q)) g (k / 2 ^ (12 - q))
    · rw [if_pos (h1.mpr hL), ans_fr hn hT hq hL, ans_lr hn hT hL, LN_lt hq]
      exact ans_sum hn hm hN2 hlay (by rw [hnm]; exact hk)
    · rw [if_neg (fun e => hL (h1.mp e))]
      rw [LN_lt hq] at hL
      exact (lay_no hm (by omega)).symm
  rw [← e]
  exact c28 t hk
theorem f29 {hs : amH} {p q k : Nat} {g : Nat → Nat} (h : FilAt hs p q g) (hk : k < 4096) : Cr 29 [.ref p, .int (nI k)] hs (some (.int (nI (lookN (2 ^ (12 - q)) g k)))) hs := by
  obtain ⟨T, t, hlay, hn, hm, hnm, hN2, hT⟩ := h.tab
  have hq := am_quo t.2.1 t.2.2.1 hk
  have e : lkN T q k = lookN (2 ^ (12 - q)) g k := by
    unfold lkN
    have h1 := tl_oc hT (k / 2 ^ (12 - q))
    rw [Nat.mod_eq_of_lt hq] at h1
    by_cases hL : 0 < LN (2 ^ q) (2 ^ (12 - q)) g (k / 2 ^ (12 - q))
    · rw [if_pos (h1.mpr hL), ans_fr hn hT hq hL, ans_lr hn hT hL, LN_lt hq]
      exact ans_look hn hm hN2 hlay (by rw [hnm]; exact hk)
    · rw [if_neg (fun e => hL (h1.mp e))]
      rw [LN_lt hq] at hL
      unfold lookN
      omega
  rw [← e]
  exact c29 t hk
theorem f33 {hs : amH} {p q q2 b : Nat} {g g2 : Nat → Nat} (h : FilAt hs p q g) (hb : BagAt hs b g2) (h3 : 3 ≤ q2) (h8 : q2 ≤ 8) (hE : EE g2 4096 * 8 ≤ 7 * 2 ^ q2) (hg : ∀ k, 4096 ≤ k → g2 k = 0) (hd : b + 3 ≤ p ∨ p + 6 ≤ b) : CrQ 33 [.ref p, .int (nI q2), .ref b] hs none (fun hs' => FilAt hs' p q2 g2 ∧ Fr hs hs' p (p + 6)) := by
  obtain ⟨T, t, -⟩ := h
  obtain ⟨p1, p2⟩ := am_pow h3 h8
  obtain ⟨hs1, k1, k2, k3⟩ := c33 t hb h3 h8 (by omega) hd
  exact ⟨hs1, k1, ⟨_, k2, fi_lay h3 h8 (by omega) T, hE, hg⟩, k3⟩
theorem EE_0 : EE (fun _ => 0) 4096 = 0 := sm_0 4096 (fun _ _ => (show enN 0 = 0 from rfl))
theorem f32 {hs : amH} {p q : Nat} {g : Nat → Nat} (h : FilAt hs p q g) : CrQ 32 [.ref p] hs none (fun hs' => FilAt hs' p q (fun _ => 0) ∧ Fr hs hs' p (p + 6)) := by
  obtain ⟨T, t, -⟩ := h
  obtain ⟨hs1, k1, k2, k3⟩ := c32 t
  have e : fiT q (elN q 0 (fun _ => 0) 4096 - 2 ^ q) (fun _ => 0) (wpT T 256) 4096 = wpT T 256 := by
    have : ∀ k, fiT q (elN q 0 (fun _ => 0) 4096 - 2 ^ q) (fun _ => 0) (wpT T 256) k = wpT T 256 := by
      intro k
      induction k with
      | zero => rfl
      | succ k ih => exact (if_pos rfl).trans ih
    exact this 4096
  obtain ⟨p1, p2⟩ := am_pow t.2.1 t.2.2.1
  refine ⟨hs1, k1, ⟨_, k2, ?_, ?_, fun _ _ => rfl⟩, k3⟩
  · have := fi_lay (g := fun _ => 0) t.2.1 t.2.2.1 (by rw [EE_0]; omega) T
    rw [e] at this
    exact this
  · rw [EE_0]
    omega
/-! the class's state, after a stretch of it changed -/
def updG (g : Nat → Nat → Nat) (i : Nat) (v : Nat → Nat) : Nat → Nat → Nat := fun j => if j = i then v else g j
theorem CS.r27 {hs hs1 : amH} {q : Nat → Nat} {g : Nat → Nat → Nat} {a : Nat → Nat} (h : CS hs q g) (f : Fr hs hs1 27 (27 + 3)) (b : BagAt hs1 27 a) : CS hs1 q g := by
  obtain ⟨a1, ⟨TF, a2, a3⟩, a4, a5, ⟨b6, a6⟩, ⟨b7, a7⟩, F, X, a8⟩ := h
  exact ⟨(f.2 _ (by omega)).trans a1, ⟨TF, (f.2 _ (by omega)).trans a2, a3⟩, fun i hi => (a4 i hi).fr f (by omega), ⟨a, b⟩, ⟨b6, a6.fr f (by omega)⟩, ⟨b7, a7.fr f (by omega)⟩, F, X, a8.fr f (by omega)⟩
theorem CS.r30 {hs hs1 : amH} {q : Nat → Nat} {g : Nat → Nat → Nat} {a : Nat → Nat} (h : CS hs q g) (f : Fr hs hs1 30 (30 + 3)) (b : BagAt hs1 30 a) : CS hs1 q g := by
  obtain ⟨a1, ⟨TF, a2, a3⟩, a4, ⟨b5, a5⟩, a6, ⟨b7, a7⟩, F, X, a8⟩ := h
  exact ⟨(f.2 _ (by omega)).trans a1, ⟨TF, (f.2 _ (by omega)).trans a2, a3⟩, fun i hi => (a4 i hi).fr f (by omega), ⟨b5, a5.fr f (by omega)⟩, ⟨a, b⟩, ⟨b7, a7.fr f (by omega)⟩, F, X, a8.fr f (by omega)⟩
theorem CS.r33 {hs hs1 : amH} {q : Nat → Nat} {g : Nat → Nat → Nat} {a : Nat → Nat} (h : CS hs q g) (f : Fr hs hs1 33 (33 + 3)) (b : BagAt hs1 33 a) : CS hs1 q g := by
  obtain ⟨a1, ⟨TF, a2, a3⟩, a4, ⟨b5, a5⟩, ⟨b6, a6⟩, a7, F, X, a8⟩ := h
  exact ⟨(f.2 _ (by omega)).trans a1, ⟨TF, (f.2 _ (by omega)).trans a2, a3⟩, fun i hi => (a4 i hi).fr f (by omega), ⟨b5, a5.fr f (by omega)⟩, ⟨b6, a6.fr f (by omega)⟩, ⟨a, b⟩, F, X, a8.fr f (by omega)⟩
theorem CS.r36 {hs hs1 : amH} {q : Nat → Nat} {g : Nat → Nat → Nat} {F1 X1 : Nat → Int32} (h : CS hs q g) (f : Fr hs hs1 36 (36 + 3)) (b : LisC hs1 36 F1 X1) : CS hs1 q g := by
  obtain ⟨a1, ⟨TF, a2, a3⟩, a4, ⟨b5, a5⟩, ⟨b6, a6⟩, ⟨b7, a7⟩, F, X, a8⟩ := h
  exact ⟨(f.2 _ (by omega)).trans a1, ⟨TF, (f.2 _ (by omega)).trans a2, a3⟩, fun i hi => (a4 i hi).fr f (by omega), ⟨b5, a5.fr f (by omega)⟩, ⟨b6, a6.fr f (by omega)⟩, ⟨b7, a7.fr f (by omega)⟩, F1, X1, b⟩
theorem CS.tab {hs hs1 : amH} {q : Nat → Nat} {g : Nat → Nat → Nat} {i q2 : Nat} {g2 : Nat → Nat} (h : CS hs q g) (hi : i < 4) (f : Fr hs hs1 (3 + 6 * i) (3 + 6 * i + 6)) (b : FilAt hs1 (3 + 6 * i) q2 g2) : CS hs1 (updN q i q2) (updG g i g2) := by
  obtain ⟨a1, ⟨TF, a2, a3⟩, a4, ⟨b5, a5⟩, ⟨b6, a6⟩, ⟨b7, a7⟩, F, X, a8⟩ := h
  refine ⟨(f.2 _ (by omega)).trans a1, ⟨TF, (f.2 _ (by omega)).trans a2, a3⟩, fun j hj => ?_, ⟨b5, a5.fr f (by omega)⟩, ⟨b6, a6.fr f (by omega)⟩, ⟨b7, a7.fr f (by omega)⟩, F, X, a8.fr f (by omega)⟩
  unfold updN updG
  by_cases e : j = i
  · rw [if_pos e, if_pos e, e]
    exact b
  · rw [if_neg e, if_neg e]
    exact (a4 j hj).fr f (by omega)
def rcN (r : Option Value ⊕ Nat) : Nat := match r with
  | .inl _ => 0
  | .inr _ => 1
def rsN6 (r : Option Value ⊕ Nat) : Nat := match r with
  | .inl _ => 0
  | .inr _ => 6
/-- a call of the class: what it answers, what its state is then -/
def ClO (M : Nat) (as : List Value) (hs : amH) (r : Option Value ⊕ Nat) (q : Nat → Nat) (g : Nat → Nat → Nat) : Prop := ∃ hs', Ca M as hs (r, hs', rcN r, rsN6 r) ∧ CS hs' q g ∧ Fr hs hs' 3 39
def RsC (hs : amH) (r : Option Value ⊕ Nat) (q : Nat → Nat) (g : Nat → Nat → Nat) : amOut → Prop := fun o => ∃ hs', o = (r, hs', rcN r, rsN6 r) ∧ CS hs' q g ∧ Fr hs hs' 3 39
theorem clo_mk {M own mL : Nat} {as : List Value} {hs : amH} {r : Option Value ⊕ Nat} {q : Nat → Nat} {g : Nat → Nat → Nat} (ho : amOwnL M = some (own, mL)) (hl : as.length ≤ mL) (h : EvQ M 0 (amEntry as mL) [] hs 0 0 (RsC hs r q g)) : ClO M as hs r q g := by
  obtain ⟨o, h1, hs', rfl, h2⟩ := h
  exact ⟨hs', ca_mk ho hl h1, h2⟩
