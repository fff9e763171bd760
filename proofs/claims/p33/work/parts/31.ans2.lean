/-! count, looks, slots of a laid out table; by hand -/
section AN
variable {n m : Nat} {g : Nat → Nat} {T : amTab}
/-- the places of a quotient's run, by fingerprints -/
theorem run_ent (hn : 0 < n) (hm : 0 < m) (hN : EE g (n * m) < n) (h : Lay n m g (ovN n m g + n) T) {k i : Nat} (hk : k < n * m) (hi : i < enN (g k)) : T.1 ((PN n m g (k / m) % n + (EE g k - EE g (k / m * m) + i)) % n) = k % m ∧ T.2.1 ((PN n m g (k / m) % n + (EE g k - EE g (k / m * m) + i)) % n) = min (g k - 7 * i) 7 := by
  have h1 := h.1 k i ⟨hk, hi, by have := ps_hi hn hm hN hk; omega⟩
  have e : (PN n m g (k / m) % n + (EE g k - EE g (k / m * m) + i)) % n = (psN n m g k + i) % n := by
    rw [Nat.mod_add_mod]
    unfold psN
    rw [Nat.add_assoc]
  rw [e]
  exact ⟨h1.1, h1.2.1⟩
theorem ans_sum (hn : 0 < n) (hm : 0 < m) (hN : EE g (n * m) < n) (h : Lay n m g (ovN n m g + n) T) {k : Nat} (hk : k < n * m) : smN (ciG T n (PN n m g (k / m) % n) (k % m)) (lnN m g (k / m)) = g k := by
  have hkm := am_md k m
  have hkl := Nat.mod_lt k hm
  have hdn : k / m < n := Nat.div_lt_of_lt_mul (by rw [Nat.mul_comm]; omega)
  have hq : ∀ d, d ≤ m → smN (ciG T n (PN n m g (k / m) % n) (k % m)) (EE g (k / m * m + d) - EE g (k / m * m)) = if k < k / m * m + d then g k else 0 := by
    intro d
    induction d with
    | zero =>
      intro _
      rw [if_neg (by omega), Nat.add_zero, Nat.sub_self]
      rfl
    | succ d ih =>
      intro hd
      have h1 := ih (by omega)
      have hk2 : k / m * m + d < n * m := by
        have := Nat.mul_le_mul_right m (show k / m + 1 ≤ n from hdn)
        rw [Nat.succ_mul] at this
        omega
      have e1 : (k / m * m + d) / m = k / m := by
        rw [Nat.add_comm, Nat.add_mul_div_right _ _ hm, Nat.div_eq_of_lt (by omega), Nat.zero_add]
      have e2 : (k / m * m + d) % m = d := by
        rw [Nat.add_comm, Nat.add_mul_mod_self_right, Nat.mod_eq_of_lt (by omega)]
      have h2 := EE_mono g (show k / m * m ≤ k / m * m + d by omega)
      have h3 : EE g (k / m * m + (d + 1)) = EE g (k / m * m + d) + enN (g (k / m * m + d)) := rfl
      rw [show EE g (k / m * m + (d + 1)) - EE g (k / m * m) = (EE g (k / m * m + d) - EE g (k / m * m)) + enN (g (k / m * m + d)) by omega, sm_add, h1]
      have hent : ∀ i, i < enN (g (k / m * m + d)) → ciG T n (PN n m g (k / m) % n) (k % m) (EE g (k / m * m + d) - EE g (k / m * m) + i) = if d = k % m then min (g (k / m * m + d) - 7 * i) 7 else 0 := by
        intro i hi
        have h4 := run_ent hn hm hN h hk2 hi
        rw [e1, e2] at h4
        unfold ciG
        rw [h4.1, h4.2]
      by_cases hc : d = k % m
      · have e3 : k / m * m + d = k := by omega
        rw [if_neg (by omega), if_pos (by omega), Nat.zero_add]
        have h5 := sm_cg (enN (g (k / m * m + d))) hent
        rw [h5]
        rw [e3]
        have h6 := wt_id _ (g k) rfl
        exact (sm_cg _ (fun i _ => if_pos hc)).trans h6
      · have h5 := sm_0 (enN (g (k / m * m + d))) (fun i hi => (hent i hi).trans (if_neg hc))
        rw [h5]
        by_cases h7 : k < k / m * m + d
        · rw [if_pos h7, if_pos (by omega)]
          rfl
        · rw [if_neg h7, if_neg (by omega)]
  have h1 := hq m (Nat.le_refl _)
  rw [if_pos (by omega), ← Nat.succ_mul] at h1
  exact h1
theorem lay_no (hm : 0 < m) {k : Nat} (hL : lnN m g (k / m) = 0) : g k = 0 := by
  have h := ps_in (g := g) hm k
  rw [hL] at h
  have h2 : enN (g k) = 0 := by omega
  unfold enN at h2
  omega
/-- how many entries a search looks at -/
def lookN (m : Nat) (g : Nat → Nat) (k : Nat) : Nat := min (EE g k - EE g (k / m * m) + 1) (lnN m g (k / m))
theorem lkF_eq {f : Nat → Nat} {r j0 : Nat} (h1 : ∀ j, j < j0 → f j < r) : ∀ (d i : Nat), i ≤ j0 → j0 ≤ i + d → (j0 < i + d → r ≤ f j0) → lkF f r d i = min (j0 + 1) (i + d)
  | 0, i, a, b, _ => by
    show i = _
    omega
  | d + 1, i, a, b, c => by
    unfold lkF
    by_cases e : i = j0
    · rw [if_neg (by rw [e]; exact Nat.not_lt.mpr (c (by omega)))]
      omega
    · rw [if_pos (h1 i (by omega)), lkF_eq h1 d (i + 1) (by omega) (by omega) (fun q => c (by omega))]
      omega
theorem ans_look (hn : 0 < n) (hm : 0 < m) (hN : EE g (n * m) < n) (h : Lay n m g (ovN n m g + n) T) {k : Nat} (hk : k < n * m) : lkF (fun i => T.1 ((PN n m g (k / m) % n + i) % n)) (k % m) (lnN m g (k / m)) 0 = lookN m g k := by
  have hkm := am_md k m
  have hkl := Nat.mod_lt k hm
  have hdn : k / m < n := Nat.div_lt_of_lt_mul (by rw [Nat.mul_comm]; omega)
  have hin := ps_in (g := g) hm k
  have key : ∀ j, j < lnN m g (k / m) → ∃ k', k' / m = k / m ∧ k' < n * m ∧ T.1 ((PN n m g (k / m) % n + j) % n) = k' % m ∧ EE g k' - EE g (k / m * m) ≤ j ∧ j < EE g k' - EE g (k / m * m) + enN (g k') := by
    intro j hj
    obtain ⟨k', i, k1, k2, k3, k4, k5⟩ := ps_slot (n := n) (x := k / m) hm (by rw [LN_lt hdn]; exact hj)
    rw [Nat.mod_eq_of_lt hdn] at k1 k2
    have hk2 : k' < n * m := Nat.lt_of_lt_of_le k2 (Nat.mul_le_mul_right m hdn)
    have h4 := run_ent hn hm hN h hk2 k3
    rw [k4, k1] at h4
    rw [k1] at k4
    exact ⟨k', k1, hk2, h4.1, by omega, by omega⟩
  have hcmp : ∀ k', k' / m = k / m → k' = k' % m + k / m * m := fun k' e => by
    have := am_md k' m
    rw [e] at this
    exact this
  unfold lookN
  rw [lkF_eq (j0 := EE g k - EE g (k / m * m)) ?_ _ 0 (by omega) (by omega) ?_, Nat.zero_add]
  · intro j hj
    obtain ⟨k', q1, q2, q3, q4, q5⟩ := key j (by omega)
    show T.1 _ < _
    rw [q3]
    have h6 := hcmp k' q1
    refine Nat.lt_of_not_le (fun q => ?_)
    have h7 := EE_mono g (show k ≤ k' by omega)
    omega
  · intro hj
    obtain ⟨k', q1, q2, q3, q4, q5⟩ := key (EE g k - EE g (k / m * m)) (by omega)
    show _ ≤ T.1 _
    rw [q3]
    have h6 := hcmp k' q1
    refine Nat.le_of_not_lt (fun q => ?_)
    have h7 := EE_mono g (show k' + 1 ≤ k by omega)
    rw [EE_s] at h7
    have h8 := EE_mono g (show k / m * m ≤ k' by omega)
    omega
/-- a slot: of an entry, or empty -/
def SlotE (n m : Nat) (g : Nat → Nat) (s k i : Nat) : Prop := k < n * m ∧ i < enN (g k) ∧ (psN n m g k + i) % n = s
theorem slot_uniq (hn : 0 < n) (hm : 0 < m) (hN : EE g (n * m) < n) {s k i k' i' : Nat} (h1 : SlotE n m g s k i) (h2 : SlotE n m g s k' i') : k = k' ∧ i = i' := by
  obtain ⟨a1, a2, a3⟩ := h1
  obtain ⟨b1, b2, b3⟩ := h2
  have c1 := ps_lo hn hN (m := m) (g := g) k
  have c2 := ps_lo hn hN (m := m) (g := g) k'
  have c3 := ps_hi hn hm hN a1
  have c4 := ps_hi hn hm hN b1
  refine ps_uniq hn hm hN a1 b1 a2 b2 ?_
  rcases Nat.lt_trichotomy (psN n m g k + i) (psN n m g k' + i') with q | q | q
  · exact absurd (a3.trans b3.symm) (lt_mod_ne q (by omega))
  · exact q
  · exact absurd (b3.trans a3.symm) (lt_mod_ne q (by omega))
theorem slot_ent (hn : 0 < n) (hm : 0 < m) (hN : EE g (n * m) < n) (h : Lay n m g (ovN n m g + n) T) {s k i : Nat} (hs : SlotE n m g s k i) : T.1 s = k % m ∧ T.2.1 s = min (g k - 7 * i) 7 ∧ ¬ T.2.1 s = 0 ∧ T.2.2.2.1 s = decide (0 < EE g k - EE g (k / m * m) + i) ∧ T.2.2.2.2 s = !decide (s = k / m) := by
  obtain ⟨a1, a2, a3⟩ := hs
  obtain ⟨e1, e2, e3, e4⟩ := h.1 k i ⟨a1, a2, by have := ps_hi hn hm hN a1; omega⟩
  rw [a3] at e1 e2 e3 e4
  refine ⟨e1, e2, ?_, e3, e4⟩
  rw [e2]
  unfold enN at a2
  omega
theorem slot_no (h : Lay n m g (ovN n m g + n) T) {s : Nat} (hs : s < n) (hno : ∀ k i, ¬ SlotE n m g s k i) : T.2.1 s = 0 ∧ T.2.2.2.1 s = false ∧ T.2.2.2.2 s = false :=
  h.2.1 s hs (fun k i ⟨q1, q2, _⟩ e => hno k i ⟨q1, q2, e⟩)
theorem ans_qe (hn : 0 < n) (hm : 0 < m) (ht : TabL n (PN n m g) (LN n m g) T) {s k i : Nat} (hs : SlotE n m g s k i) : qeN T n s = k / m := by
  obtain ⟨a1, a2, a3⟩ := hs
  have hdn : k / m < n := Nat.div_lt_of_lt_mul (by rw [Nat.mul_comm]; omega)
  have h1 := ps_inL hm hdn (g := g)
  have e1 := PN_md (n := n) (m := m) (g := g) (k / m + n + n)
  rw [Nat.add_mod_right, Nat.add_mod_right, Nat.mod_eq_of_lt hdn, Nat.add_div_right _ hn, Nat.add_div_right _ hn, Nat.div_eq_of_lt hdn] at e1
  have h2 := tl_qe ht (x := k / m + n + n) (i := EE g k - EE g (k / m * m) + i) (by rw [(PN_2 (k / m)).2]; omega) (by rw [e1]; omega)
  rw [Nat.add_mod_right, Nat.add_mod_right, Nat.mod_eq_of_lt hdn] at h2
  rw [← h2]
  have e2 : PN n m g (k / m + n + n) + (EE g k - EE g (k / m * m) + i) = psN n m g k + i + (0 + 1 + 1) * n := by
    rw [e1]
    unfold psN
    omega
  rw [e2, Nat.add_mul_mod_self_right, a3]
end AN
