/-! readInto; rows laid by wip/whole/walk.py -/
/-- how much of each count lies before a place of the line -/
def partG (n m : Nat) (g : Nat → Nat) (u : Nat) : Nat → Nat := fun k => min (g k) (7 * (u - psN n m g k))
theorem nz_EE (g : Nat → Nat) : ∀ k, nzN g k ≤ EE g k
  | 0 => Nat.le_refl _
  | k + 1 => by
    have h := nz_EE g k
    rw [EE_s]
    simp only [nzN]
    unfold enN
    split <;> omega
theorem EE_g (g : Nat → Nat) {k n : Nat} (h : k < n) : g k ≤ 7 * EE g n := by
  have h1 := EE_mono g (show k + 1 ≤ n from h)
  rw [EE_s] at h1
  unfold enN at h1
  omega
section PG
variable {n m : Nat} {g : Nat → Nat} {T : amTab}
theorem part_put (hn : 0 < n) (hm : 0 < m) (hN : EE g (n * m) < n) (hg : ∀ k, n * m ≤ k → g k = 0) {k i : Nat} (hk : k < n * m) (hi : i < enN (g k)) : partG n m g (psN n m g k + i + 1) = updN (partG n m g (psN n m g k + i)) k (partG n m g (psN n m g k + i) k + min (g k - 7 * i) 7) := by
  funext j
  unfold updN partG
  by_cases e : j = k
  · rw [if_pos e, e]
    unfold enN at hi
    omega
  · rw [if_neg e]
    by_cases hj : j < n * m
    · rcases Nat.lt_or_gt_of_ne e with q | q
      · have h1 := ps_lt hn hm hN q (by omega)
        unfold enN at h1
        omega
      · have h1 := ps_lt hn hm hN q (by omega)
        omega
    · rw [hg j (by omega)]
      omega
theorem part_skip (hn : 0 < n) (hg : ∀ k, n * m ≤ k → g k = 0) {u : Nat} (hno : ∀ k i, ¬ SlotE n m g (u % n) k i) : partG n m g (u + 1) = partG n m g u := by
  funext j
  unfold partG
  by_cases hj : j < n * m
  · by_cases h1 : psN n m g j ≤ u ∧ u < psN n m g j + enN (g j)
    · refine absurd ?_ (hno j (u - psN n m g j))
      refine ⟨hj, by omega, ?_⟩
      rw [show psN n m g j + (u - psN n m g j) = u by omega]
    · unfold enN at h1
      omega
  · rw [hg j (by omega)]
    omega
theorem w_oa0 {oc : Nat → Bool} {s : Nat} (h : ∀ t, oc ((s + t) % n) = false) : oaN oc n s = s := by
  have hq : ∀ d t, oaF oc n s d t = s := by
    intro d
    induction d with
    | zero => exact fun _ => rfl
    | succ d ih =>
      intro t
      unfold oaF
      rw [h t, if_neg (by decide)]
      exact ih _
  exact hq _ _
/-- what lies in a window that begins with a run -/
theorem win_pos (hn : 0 < n) (hm : 0 < m) (hN : EE g (n * m) < n) {t0 u k i : Nat} (h0 : t0 < n) (hf : ∀ z, z < t0 → LN n m g z = 0) (h1 : PN n m g t0 ≤ u) (h2 : u < PN n m g t0 + n) (hs : SlotE n m g (u % n) k i) : u = psN n m g k + i := by
  obtain ⟨a1, a2, a3⟩ := hs
  have hdn : k / m < n := Nat.div_lt_of_lt_mul (by rw [Nat.mul_comm]; omega)
  have h3 := ps_inL hm hdn (g := g)
  have h4 : t0 ≤ k / m := by
    refine Nat.le_of_not_lt (fun q => ?_)
    have := hf _ q
    omega
  have h5 := lp_mono (lay_lin hn hN) h4
  have h6 := ps_hi hn hm hN a1
  have h7 := lp_mono (lay_lin hn hN) (Nat.zero_le t0)
  rw [show PN n m g 0 = ovN n m g from PN_lt hn] at h7
  have h8 : PN n m g (k / m) ≤ psN n m g k := Nat.le_add_right _ _
  rcases Nat.lt_trichotomy (psN n m g k + i) u with q | q | q
  · exact absurd a3 (lt_mod_ne q (by omega))
  · exact q.symm
  · exact absurd a3.symm (lt_mod_ne q (by omega))
/-- the quotient of the last entry before u -/
def RdI (n m : Nat) (g : Nat → Nat) (t0 r u : Nat) : Prop := (r = n - 1 ∧ u = PN n m g t0) ∨ (r < n ∧ 0 < LN n m g r ∧ PN n m g r < u ∧ ∀ y, r < y → y < n → 0 < LN n m g y → u ≤ PN n m g y)
theorem rd_step (hn : 0 < n) (hm : 0 < m) (hN : EE g (n * m) < n) (h : Lay n m g (ovN n m g + n) T) (ht : TabL n (PN n m g) (LN n m g) T) {t0 u r k i : Nat} (h0 : t0 < n) (hL : 0 < LN n m g t0) (hf : ∀ z, z < t0 → LN n m g z = 0) (h1 : PN n m g t0 ≤ u) (h2 : u < PN n m g t0 + n) (hI : RdI n m g t0 r u) (hs : SlotE n m g (u % n) k i) : (if T.2.2.2.1 (u % n) = true then r else oaN T.2.2.1 n r) = k / m ∧ RdI n m g t0 (k / m) (u + 1) := by
  have hu := win_pos hn hm hN h0 hf h1 h2 hs
  obtain ⟨e1, e2, e3, e4, e5⟩ := slot_ent hn hm hN h hs
  obtain ⟨a1, a2, a3⟩ := hs
  have hl := lay_lin hn hN
  have hdn : k / m < n := Nat.div_lt_of_lt_mul (by rw [Nat.mul_comm]; omega)
  have h3 := ps_inL hm hdn (g := g)
  have hu2 : u = PN n m g (k / m) + (EE g k - EE g (k / m * m) + i) := by rw [hu]; unfold psN; omega
  have hnew : RdI n m g t0 (k / m) (u + 1) := by
    refine Or.inr ⟨hdn, by omega, by omega, fun y y1 y2 y3 => ?_⟩
    have := lp_run hl y1
    omega
  refine ⟨?_, hnew⟩
  rw [e4]
  by_cases hoff : 0 < EE g k - EE g (k / m * m) + i
  · rw [decide_eq_true hoff, if_pos rfl]
    rcases hI with ⟨q1, q2⟩ | ⟨q1, q2, q3, q4⟩
    · have := lp_uniq hl (x := t0) (y := k / m) (i := 0) (j := EE g k - EE g (k / m * m) + i) hL (by omega) (by omega)
      omega
    · rcases Nat.lt_trichotomy r (k / m) with q | q | q
      · have := q4 _ q hdn (by omega)
        omega
      · exact q
      · have := lp_run hl q
        omega
  · rw [decide_eq_false hoff, if_neg (by decide)]
    rcases hI with ⟨q1, q2⟩ | ⟨q1, q2, q3, q4⟩
    · have h4 := lp_uniq hl (x := t0) (y := k / m) (i := 0) (j := EE g k - EE g (k / m * m) + i) hL (by omega) (by omega)
      have h5 := tl_oa ht (r := n - 1) (y := t0 + n) (by omega) (by omega) (by rw [hl.2.2.2.1]; exact hL) (fun z z1 z2 => by
        have := hf (z - n) (by omega)
        rw [← hl.2.2.2.1, show z - n + n = z by omega] at this
        exact this)
      rw [Nat.mod_eq_of_lt (show n - 1 < n by omega), Nat.add_mod_right, Nat.mod_eq_of_lt h0] at h5
      rw [q1, h5, h4.1]
    · have h4 : r < k / m := by
        refine Nat.lt_of_not_le (fun q => ?_)
        rcases Nat.lt_or_ge (k / m) r with q5 | q5
        · have := lp_run hl q5
          omega
        · have e : k / m = r := by omega
          rw [e] at hu2 hoff
          omega
      have h5 := tl_oa ht (r := r) (y := k / m) h4 (by omega) (by omega) (fun z z1 z2 => by
        refine Classical.byContradiction (fun hz => ?_)
        have b1 := q4 z z1 (by omega) (by omega)
        have b2 := lp_run hl z2
        omega)
      rw [Nat.mod_eq_of_lt q1, Nat.mod_eq_of_lt hdn] at h5
      exact h5
theorem rd_skip (hn : 0 < n) (hm : 0 < m) {t0 u r : Nat} (h0 : t0 < n) (hL : 0 < LN n m g t0) (hI : RdI n m g t0 r u) (hno : ∀ k i, ¬ SlotE n m g (u % n) k i) : RdI n m g t0 r (u + 1) := by
  have hh : ∀ y, y < n → 0 < LN n m g y → ¬ u = PN n m g y := by
    intro y y1 y2 e
    obtain ⟨k, i, k1, k2, k3, k4, k5⟩ := ps_slot (n := n) hm y2
    refine hno k i ⟨?_, k3, ?_⟩
    · exact Nat.lt_of_lt_of_le k2 (Nat.mul_le_mul_right m (Nat.mod_lt y hn))
    · rw [← k5, e, Nat.add_zero]
  rcases hI with ⟨q1, q2⟩ | ⟨q1, q2, q3, q4⟩
  · exact absurd q2 (hh t0 h0 hL)
  · refine Or.inr ⟨q1, q2, by omega, fun y y1 y2 y3 => ?_⟩
    have := q4 y y1 y2 y3
    have := hh y y2 y3
    omega
theorem rd_lt (hn : 0 < n) {t0 r u : Nat} (hI : RdI n m g t0 r u) : r < n := by
  rcases hI with ⟨q1, q2⟩ | ⟨q1, q2, q3, q4⟩ <;> omega
end PG
theorem l31 {p q b : Nat} {T : amTab} {g : Nat → Nat} (hg : ∀ k, 4096 ≤ k → g k = 0) (hN : EE g 4096 * 8 ≤ 7 * 2 ^ q) (hlay : Lay (2 ^ q) (2 ^ (12 - q)) g (ovN (2 ^ q) (2 ^ (12 - q)) g + 2 ^ q) T) {t0 : Nat} (ht0 : t0 < 2 ^ q) (hL : 0 < LN (2 ^ q) (2 ^ (12 - q)) g t0) (hf : ∀ z, z < t0 → LN (2 ^ q) (2 ^ (12 - q)) g z = 0) (hd : p + 6 ≤ b ∨ b + 3 ≤ p) : ∀ (d c r : Nat) (hs : amH) (w : Option Value), c + d = 2 ^ q → TabAt hs p q T → RdI (2 ^ q) (2 ^ (12 - q)) g t0 r (PN (2 ^ q) (2 ^ (12 - q)) g t0 + c) → BagAt hs b (partG (2 ^ q) (2 ^ (12 - q)) g (PN (2 ^ q) (2 ^ (12 - q)) g t0 + c)) → EvQ 31 30 [some (.ref p), some (.ref b), some (.int (nI r)), some (.int (nI (PN (2 ^ q) (2 ^ (12 - q)) g t0 % 2 ^ q))), some (.int (nI c)), w] [] hs 0 0 (Rt none (fun hs' => BagAt hs' b (partG (2 ^ q) (2 ^ (12 - q)) g (PN (2 ^ q) (2 ^ (12 - q)) g t0 + 2 ^ q)) ∧ Fr hs hs' b (b + 3))) := by
  intro d
  induction d with
  | zero =>
    intro c r hs w hc h hI hb
    have h9 := h
    obtain ⟨h0, h3, h8, a0, a1, a2, a3, a4, a5, b1, b2⟩ := h
    obtain ⟨p1, p2⟩ := am_pow h3 h8
    have hc2 : c = 2 ^ q := by omega
    rw [hc2] at hb
    refine eq_ (fun _ k => ev_iload f31_30 rfl k) ?_
    refine eq_ (fun _ k => ev_aload_n f31_32 rfl k) ?_
    refine eq_ (fun _ k => ev_v0 f31_33 ow14 (by assumption) (Nat.le_of_ble_eq_true rfl) (c14 h9) k) ?_
    refine eq_icN (by omega) (by omega) (tgt := 107) f31_36 rfl (fun _ => ?_) (fun h9 => absurd (by simp only [akN] at *; omega) h9)
    refine ⟨_, ev_vret f31_107 rfl, ?_⟩
    exact ⟨_, rfl, hb, Fr.refl⟩
  | succ d ih =>
    intro c r hs w hc h hI hb
    have h9 := h
    obtain ⟨h0, h3, h8, a0, a1, a2, a3, a4, a5, b1, b2⟩ := h
    obtain ⟨p1, p2⟩ := am_pow h3 h8
    have hn : 0 < 2 ^ q := by omega
    have hm : 0 < 2 ^ (12 - q) := Nat.two_pow_pos _
    have hnm := am_nm h8
    have hN2 : EE g (2 ^ q * 2 ^ (12 - q)) < 2 ^ q := by rw [hnm]; omega
    have hTL := lay_tab hn hm hN2 hlay
    have hr := rd_lt hn hI
    have hml : PN (2 ^ q) (2 ^ (12 - q)) g t0 % 2 ^ q < 2 ^ q := Nat.mod_lt _ hn
    have hul : (PN (2 ^ q) (2 ^ (12 - q)) g t0 + c) % 2 ^ q < 2 ^ q := Nat.mod_lt _ hn
    have k16 := c16 h9 (j := PN (2 ^ q) (2 ^ (12 - q)) g t0 % 2 ^ q + c) (by omega)
    rw [Nat.mod_add_mod] at k16
    obtain ⟨fs, ob⟩ := hb.obj
    by_cases hex : ∃ k i, SlotE (2 ^ q) (2 ^ (12 - q)) g ((PN (2 ^ q) (2 ^ (12 - q)) g t0 + c) % 2 ^ q) k i
    · obtain ⟨k, i, hse⟩ := hex
      obtain ⟨s1, s2⟩ := rd_step hn hm hN2 hlay hTL ht0 hL hf (Nat.le_add_right _ _) (by omega) hI hse
      obtain ⟨e1, e2, e3, e4, e5⟩ := slot_ent hn hm hN2 hlay hse
      have hu := win_pos hn hm hN2 ht0 hf (Nat.le_add_right _ _) (by omega) hse
      obtain ⟨x1, x2, x3⟩ := hse
      have hk : k < 4096 := by omega
      have hdn := am_quo h3 h8 hk
      have hkm := am_md k (2 ^ (12 - q))
      have hkl : k % 2 ^ (12 - q) < 2 ^ (12 - q) := Nat.mod_lt _ hm
      have hpp := part_put hn hm hN2 (by rw [hnm]; exact hg) x1 x2
      have k19 : Cr 19 [.ref p, .int (nI (k / 2 ^ (12 - q))), .int (nI (T.1 ((PN (2 ^ q) (2 ^ (12 - q)) g t0 + c) % 2 ^ q)))] hs (some (.int (nI k))) hs := by
        have := c19 h9 hdn (b := k % 2 ^ (12 - q)) hkl
        rw [show k / 2 ^ (12 - q) * 2 ^ (12 - q) + k % 2 ^ (12 - q) = k by omega] at this
        rw [e1]
        exact this
      rw [← hu] at hpp
      have hgk := EE_g g hk
      obtain ⟨hs1, k1, k2, k3⟩ := c2 (c := T.2.1 ((PN (2 ^ q) (2 ^ (12 - q)) g t0 + c) % 2 ^ q)) hb hk (fun j j1 j2 => by
        have := ps_lt hn hm hN2 j1 (by omega)
        unfold partG
        omega) (by
        rw [e2]
        have : partG (2 ^ q) (2 ^ (12 - q)) g (PN (2 ^ q) (2 ^ (12 - q)) g t0 + c) k ≤ g k := Nat.min_le_left _ _
        omega) (by
        have h5 : nzN (partG (2 ^ q) (2 ^ (12 - q)) g (PN (2 ^ q) (2 ^ (12 - q)) g t0 + c)) k ≤ nzN g k := nzN_imp (fun j hj => by unfold partG at hj; omega) k
        have h6 := nz_EE g k
        have h7 := EE_mono g (show k ≤ 4096 by omega)
        omega)
      rw [e2, ← hpp] at k2
      have hres := fun w => (ih (c + 1) _ hs1 w (by omega) (h9.fr k3 hd) s2 k2).fr k3
      refine eq_ (fun _ k => ev_iload f31_30 rfl k) ?_
      refine eq_ (fun _ k => ev_aload_n f31_32 rfl k) ?_
      refine eq_ (fun _ k => ev_v0 f31_33 ow14 (by assumption) (Nat.le_of_ble_eq_true rfl) (c14 h9) k) ?_
      refine eq_icN (by omega) (by omega) (tgt := 107) f31_36 rfl (fun h9 => absurd h9 (by simp only [akN] at *; omega)) (fun _ => ?_)
      refine eq_ (fun _ k => ev_aload_n f31_39 rfl k) ?_
      refine eq_ (fun _ k => ev_iload_n f31_40 rfl k) ?_
      refine eq_ (fun _ k => ev_iload f31_41 rfl k) ?_
      first | refine eq_ (fun _ k => ev_iaddN f31_43 k) ?_ | refine eq_ (fun _ k => ev_iadd f31_43 k) ?_
      refine eq_ (fun _ k => ev_v1 f31_44 ow16 (by assumption) rfl (Nat.le_of_ble_eq_true rfl) (k16) k) ?_
      refine eq_ (fun _ k => ev_istore f31_47 k) ?_
      refine eq_ (fun _ k => ev_aload_n f31_49 rfl k) ?_
      refine eq_ (fun _ k => ev_iload f31_50 rfl k) ?_
      refine eq_ (fun _ k => ev_v1 f31_52 ow15 (by assumption) rfl (Nat.le_of_ble_eq_true rfl) (c15 h9 (by omega)) k) ?_
      refine eq_ifneB (tgt := 101) f31_55 rfl (fun h9 => Bool.noConfusion (h9.symm.trans ((decide_eq_false e3)))) (fun _ => ?_)
      refine eq_ (fun _ k => ev_aload_n f31_58 rfl k) ?_
      refine eq_ (fun _ k => ev_getf f31_59 (by assumption) rfl k) ?_
      refine eq_ (fun _ k => ev_iload f31_62 rfl k) ?_
      refine eq_ (fun _ k => ev_bald f31_64 (by assumption) (by omega) (by omega) k) ?_
      refine eq_ifeqB (tgt := 72) f31_65 rfl (fun hc => ?_) (fun hc => ?_)
      · rw [hc] at s1
        rw [if_neg (by decide)] at s1
        have k23 := c23 h9 hr
        rw [s1] at k23
        refine eq_ (fun _ k => ev_aload_n f31_72 rfl k) ?_
        refine eq_ (fun _ k => ev_iload_n f31_73 rfl k) ?_
        refine eq_ (fun _ k => ev_v1 f31_74 ow23 (by assumption) rfl (Nat.le_of_ble_eq_true rfl) (k23) k) ?_
        refine eq_ (fun _ k => ev_istore_n f31_77 k) ?_
        refine eq_ (fun _ k => ev_aload_n f31_78 rfl k) ?_
        refine eq_ (fun _ k => ev_aload_n f31_79 rfl k) ?_
        refine eq_ (fun _ k => ev_iload_n f31_80 rfl k) ?_
        refine eq_ (fun _ k => ev_aload_n f31_81 rfl k) ?_
        refine eq_ (fun _ k => ev_getf f31_82 (by assumption) rfl k) ?_
        refine eq_ (fun _ k => ev_iload f31_85 rfl k) ?_
        refine eq_ (fun _ k => ev_iald f31_87 (by assumption) (by omega) (by omega) k) ?_
        refine eq_ (fun _ k => ev_v2 f31_88 ow19 (by assumption) rfl rfl (Nat.le_of_ble_eq_true rfl) (k19) k) ?_
        refine eq_ (fun _ k => ev_aload_n f31_91 rfl k) ?_
        refine eq_ (fun _ k => ev_getf f31_92 (by assumption) rfl k) ?_
        refine eq_ (fun _ k => ev_iload f31_95 rfl k) ?_
        refine eq_ (fun _ k => ev_iald f31_97 (by assumption) (by omega) (by omega) k) ?_
        refine eq_ (fun _ k => ev_v2 f31_98 ow2 (by assumption) rfl rfl (Nat.le_of_ble_eq_true rfl) (k1) k) ?_
        refine eq_ (fun _ k => ev_iincN f31_101 rfl k) ?_
        refine eq_ (fun _ k => ev_goto (tgt := 30) f31_104 rfl k) ?_
        exact hres _
      · rw [hc] at s1
        rw [if_pos rfl] at s1
        rw [s1]
        refine eq_ (fun _ k => ev_iload_n f31_68 rfl k) ?_
        refine eq_ (fun _ k => ev_goto (tgt := 77) f31_69 rfl k) ?_
        refine eq_ (fun _ k => ev_istore_n f31_77 k) ?_
        refine eq_ (fun _ k => ev_aload_n f31_78 rfl k) ?_
        refine eq_ (fun _ k => ev_aload_n f31_79 rfl k) ?_
        refine eq_ (fun _ k => ev_iload_n f31_80 rfl k) ?_
        refine eq_ (fun _ k => ev_aload_n f31_81 rfl k) ?_
        refine eq_ (fun _ k => ev_getf f31_82 (by assumption) rfl k) ?_
        refine eq_ (fun _ k => ev_iload f31_85 rfl k) ?_
        refine eq_ (fun _ k => ev_iald f31_87 (by assumption) (by omega) (by omega) k) ?_
        refine eq_ (fun _ k => ev_v2 f31_88 ow19 (by assumption) rfl rfl (Nat.le_of_ble_eq_true rfl) (k19) k) ?_
        refine eq_ (fun _ k => ev_aload_n f31_91 rfl k) ?_
        refine eq_ (fun _ k => ev_getf f31_92 (by assumption) rfl k) ?_
        refine eq_ (fun _ k => ev_iload f31_95 rfl k) ?_
        refine eq_ (fun _ k => ev_iald f31_97 (by assumption) (by omega) (by omega) k) ?_
        refine eq_ (fun _ k => ev_v2 f31_98 ow2 (by assumption) rfl rfl (Nat.le_of_ble_eq_true rfl) (k1) k) ?_
        refine eq_ (fun _ k => ev_iincN f31_101 rfl k) ?_
        refine eq_ (fun _ k => ev_goto (tgt := 30) f31_104 rfl k) ?_
        exact hres _
    · have hno : ∀ k i, ¬ SlotE (2 ^ q) (2 ^ (12 - q)) g ((PN (2 ^ q) (2 ^ (12 - q)) g t0 + c) % 2 ^ q) k i := fun k i hq => hex ⟨k, i, hq⟩
      have e3 := (slot_no hlay hul hno).1
      have s2 := rd_skip hn hm ht0 hL hI hno
      have hpp := part_skip hn (by rw [hnm]; exact hg) hno
      rw [← hpp] at hb
      have hres := fun w => ih (c + 1) r hs w (by omega) h9 s2 hb
      refine eq_ (fun _ k => ev_iload f31_30 rfl k) ?_
      refine eq_ (fun _ k => ev_aload_n f31_32 rfl k) ?_
      refine eq_ (fun _ k => ev_v0 f31_33 ow14 (by assumption) (Nat.le_of_ble_eq_true rfl) (c14 h9) k) ?_
      refine eq_icN (by omega) (by omega) (tgt := 107) f31_36 rfl (fun h9 => absurd h9 (by simp only [akN] at *; omega)) (fun _ => ?_)
      refine eq_ (fun _ k => ev_aload_n f31_39 rfl k) ?_
      refine eq_ (fun _ k => ev_iload_n f31_40 rfl k) ?_
      refine eq_ (fun _ k => ev_iload f31_41 rfl k) ?_
      first | refine eq_ (fun _ k => ev_iaddN f31_43 k) ?_ | refine eq_ (fun _ k => ev_iadd f31_43 k) ?_
      refine eq_ (fun _ k => ev_v1 f31_44 ow16 (by assumption) rfl (Nat.le_of_ble_eq_true rfl) (k16) k) ?_
      refine eq_ (fun _ k => ev_istore f31_47 k) ?_
      refine eq_ (fun _ k => ev_aload_n f31_49 rfl k) ?_
      refine eq_ (fun _ k => ev_iload f31_50 rfl k) ?_
      refine eq_ (fun _ k => ev_v1 f31_52 ow15 (by assumption) rfl (Nat.le_of_ble_eq_true rfl) (c15 h9 (by omega)) k) ?_
      refine eq_ifneB (tgt := 101) f31_55 rfl (fun _ => ?_) (fun h9 => Bool.noConfusion (h9.symm.trans ((decide_eq_true e3))))
      refine eq_ (fun _ k => ev_iincN f31_101 rfl k) ?_
      refine eq_ (fun _ k => ev_goto (tgt := 30) f31_104 rfl k) ?_
      exact hres _
theorem ln_first {L : Nat → Nat} : ∀ n, (∃ t, t < n ∧ 0 < L t ∧ ∀ z, z < t → L z = 0) ∨ ∀ z, z < n → L z = 0
  | 0 => Or.inr (fun z h => absurd h (Nat.not_lt_zero z))
  | n + 1 => by
    rcases ln_first (L := L) n with ⟨t, h1, h2⟩ | h
    · exact Or.inl ⟨t, by omega, h2⟩
    · by_cases h0 : L n = 0
      · refine Or.inr (fun z hz => ?_)
        by_cases e : z = n
        · rw [e]; exact h0
        · exact h z (by omega)
      · exact Or.inl ⟨n, by omega, by omega, h⟩
theorem c31 {hs : amH} {p q b : Nat} {g g0 : Nat → Nat} (h : FilAt hs p q g) (hb : BagAt hs b g0) (hd : p + 6 ≤ b ∨ b + 3 ≤ p) : CrQ 31 [.ref p, .ref b] hs none (fun hs' => BagAt hs' b g ∧ Fr hs hs' b (b + 3)) := by
  obtain ⟨T, h9, hlay, hN, hg⟩ := h
  obtain ⟨hs1, k1, k2, k3⟩ := c1 hb
  obtain ⟨fs, ob⟩ := hb.obj
  have t9 := h9.fr k3 hd
  have h := h9
  obtain ⟨h0, h3, h8, -⟩ := h
  obtain ⟨p1, p2⟩ := am_pow h3 h8
  have hn : 0 < 2 ^ q := by omega
  have hm : 0 < 2 ^ (12 - q) := Nat.two_pow_pos _
  have hnm := am_nm h8
  have hN2 : EE g (2 ^ q * 2 ^ (12 - q)) < 2 ^ q := by rw [hnm]; omega
  have hTL := lay_tab hn hm hN2 hlay
  have hlin := lay_lin hn hN2
  have hbd : ∀ k, g k < 2 ^ 20 := fun k => by
    by_cases hk : k < 4096
    · have := EE_g g hk
      omega
    · rw [hg k (by omega)]
      omega
  have k23 := c23 t9 (s := 2 ^ q - 1) (by omega)
  refine crq_mk ow31 (Nat.le_of_ble_eq_true rfl) ?_
  rcases ln_first (L := LN (2 ^ q) (2 ^ (12 - q)) g) (2 ^ q) with ⟨t0, ht0, hL, hf⟩ | hall
  · have hoa := tl_oa hTL (r := 2 ^ q - 1) (y := t0 + 2 ^ q) (by omega) (by omega) (by rw [hlin.2.2.2.1]; exact hL) (fun z z1 z2 => by
        have := hf (z - 2 ^ q) (by omega)
        rw [← hlin.2.2.2.1, show z - 2 ^ q + 2 ^ q = z by omega] at this
        exact this)
    rw [Nat.mod_eq_of_lt (show 2 ^ q - 1 < 2 ^ q by omega), Nat.add_mod_right, Nat.mod_eq_of_lt ht0] at hoa
    rw [hoa] at k23
    have k25 := c25 t9 ht0 (by
      have := (tl_oc hTL t0).mpr hL
      rw [Nat.mod_eq_of_lt ht0] at this
      exact this)
    rw [ans_fr hn hTL ht0 hL] at k25
    have hml : PN (2 ^ q) (2 ^ (12 - q)) g t0 % 2 ^ q < 2 ^ q := Nat.mod_lt _ hn
    have hz : (fun _ => 0) = partG (2 ^ q) (2 ^ (12 - q)) g (PN (2 ^ q) (2 ^ (12 - q)) g t0 + 0) := by
      funext k
      unfold partG
      by_cases hk : k < 4096
      · have hdn := am_quo h3 h8 hk
        by_cases hlt : k / 2 ^ (12 - q) < t0
        · have h1 := hf _ hlt
          rw [LN_lt hdn] at h1
          rw [lay_no hm h1]
          omega
        · have h5 := lp_mono hlin (show t0 ≤ k / 2 ^ (12 - q) by omega)
          unfold psN
          omega
      · rw [hg k (by omega)]
        omega
    rw [hz] at k2
    obtain ⟨o, o1, hs2, rfl, o2, o3⟩ := l31 hg hN hlay ht0 hL hf hd (2 ^ q) 0 (2 ^ q - 1) hs1 none (by omega) t9 (Or.inl ⟨rfl, rfl⟩) k2
    clear h3 h8
    have tt := t9
    obtain ⟨-, h3, h8, a0, a1, a2, a3, a4, a5, -, -⟩ := t9
    refine eq_ (fun _ k => ev_aload_n f31_0 rfl k) ?_
    refine eq_ (fun _ k => ev_v0 f31_1 ow1 (by assumption) (Nat.le_of_ble_eq_true rfl) (k1) k) ?_
    refine eq_ (fun _ k => ev_aload_n f31_4 rfl k) ?_
    refine eq_ (fun _ k => ev_v0 f31_5 ow14 (by assumption) (Nat.le_of_ble_eq_true rfl) (c14 tt) k) ?_
    refine eq_ (fun _ k => ev_iconstN (n := 1) f31_8 k) ?_
    refine eq_ (fun _ k => ev_isubN (by omega) f31_9 k) ?_
    refine eq_ (fun _ k => ev_istore_n f31_10 k) ?_
    refine eq_ (fun _ k => ev_aload_n f31_11 rfl k) ?_
    refine eq_ (fun _ k => ev_aload_n f31_12 rfl k) ?_
    refine eq_ (fun _ k => ev_iload_n f31_13 rfl k) ?_
    refine eq_ (fun _ k => ev_v1 f31_14 ow23 (by assumption) rfl (Nat.le_of_ble_eq_true rfl) (k23) k) ?_
    refine eq_ (fun _ k => ev_v1 f31_17 ow25 (by assumption) rfl (Nat.le_of_ble_eq_true rfl) (k25) k) ?_
    refine eq_ (fun _ k => ev_istore_n f31_20 k) ?_
    refine eq_ (fun _ k => ev_iload_n f31_21 rfl k) ?_
    refine eq_ (fun _ k => ev_iconst f31_22 k) ?_
    refine eq_ic (tgt := 27) f31_23 rfl (fun _ => ?_) (fun hc => absurd (am_m1 _ (by omega)) hc)
    refine eq_ (fun _ k => ev_iconstN (n := 0) f31_27 k) ?_
    refine eq_ (fun _ k => ev_istore f31_28 k) ?_
    refine ⟨_, o1, hs2, rfl, o2.cg (fun k hk => ?_) hbd, k3.tr o3⟩
    have h5 := ps_hi hn hm hN2 (show k < 2 ^ q * 2 ^ (12 - q) by omega)
    have h6 := lp_mono hlin (Nat.zero_le t0)
    rw [show PN (2 ^ q) (2 ^ (12 - q)) g 0 = ovN (2 ^ q) (2 ^ (12 - q)) g from PN_lt hn] at h6
    unfold partG
    unfold enN at h5
    omega
  · have hocc : ∀ t, T.2.2.1 (t % 2 ^ q) = false := fun t => (tl_ocf hTL t).mpr (by rw [LN_md]; exact hall _ (Nat.mod_lt _ hn))
    rw [w_oa0 (fun t => hocc _)] at k23
    have k25 := c25n t9 (t := 2 ^ q - 1) (by omega) (by
      have := hocc (2 ^ q - 1)
      rw [Nat.mod_eq_of_lt (by omega)] at this
      exact this)
    have tt := t9
    obtain ⟨-, h3, h8, a0, a1, a2, a3, a4, a5, -, -⟩ := t9
    refine eq_ (fun _ k => ev_aload_n f31_0 rfl k) ?_
    refine eq_ (fun _ k => ev_v0 f31_1 ow1 (by assumption) (Nat.le_of_ble_eq_true rfl) (k1) k) ?_
    refine eq_ (fun _ k => ev_aload_n f31_4 rfl k) ?_
    refine eq_ (fun _ k => ev_v0 f31_5 ow14 (by assumption) (Nat.le_of_ble_eq_true rfl) (c14 tt) k) ?_
    refine eq_ (fun _ k => ev_iconstN (n := 1) f31_8 k) ?_
    refine eq_ (fun _ k => ev_isubN (by omega) f31_9 k) ?_
    refine eq_ (fun _ k => ev_istore_n f31_10 k) ?_
    refine eq_ (fun _ k => ev_aload_n f31_11 rfl k) ?_
    refine eq_ (fun _ k => ev_aload_n f31_12 rfl k) ?_
    refine eq_ (fun _ k => ev_iload_n f31_13 rfl k) ?_
    refine eq_ (fun _ k => ev_v1 f31_14 ow23 (by assumption) rfl (Nat.le_of_ble_eq_true rfl) (k23) k) ?_
    refine eq_ (fun _ k => ev_v1 f31_17 ow25 (by assumption) rfl (Nat.le_of_ble_eq_true rfl) (k25) k) ?_
    refine eq_ (fun _ k => ev_istore_n f31_20 k) ?_
    refine eq_ (fun _ k => ev_iload_n f31_21 rfl k) ?_
    refine eq_ (fun _ k => ev_iconst f31_22 k) ?_
    refine eq_ic (tgt := 27) f31_23 rfl (fun hc => absurd rfl hc) (fun _ => ?_)
    refine ⟨_, ev_vret f31_26 rfl, ?_⟩
    refine ⟨_, rfl, k2.cg (fun k hk => ?_) hbd, k3⟩
    have h1 := hall _ (am_quo h3 h8 hk)
    rw [LN_lt (am_quo h3 h8 hk)] at h1
    exact (lay_no hm h1).symm
