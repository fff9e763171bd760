/-! the line of a filter: n quotients, m fingerprints each; by hand -/
def lnN (m : Nat) (g : Nat → Nat) (t : Nat) : Nat := EE g ((t + 1) * m) - EE g (t * m)
def plN (m : Nat) (g : Nat → Nat) (o : Nat) : Nat → Nat
  | 0 => o
  | t + 1 => max (plN m g o t + lnN m g t) (t + 1)
def ovN (n m : Nat) (g : Nat → Nat) : Nat := plN m g 0 n - n
def PN (n m : Nat) (g : Nat → Nat) (x : Nat) : Nat := plN m g (ovN n m g) (x % n) + x / n * n
def LN (n m : Nat) (g : Nat → Nat) (x : Nat) : Nat := lnN m g (x % n)
/-- where the entries of fingerprint k begin -/
def psN (n m : Nat) (g : Nat → Nat) (k : Nat) : Nat := PN n m g (k / m) + (EE g k - EE g (k / m * m))
section LL
variable {n m : Nat} {g : Nat → Nat}
theorem ln_s (t : Nat) : EE g ((t + 1) * m) = EE g (t * m) + lnN m g t := by
  have h := EE_mono g (show t * m ≤ (t + 1) * m from Nat.mul_le_mul_right m (by omega))
  unfold lnN
  omega
theorem pl_cl (o : Nat) : ∀ t, plN m g o t = max (plN m g 0 t) (o + EE g (t * m))
  | 0 => by
    rw [Nat.zero_mul]
    show o = max 0 (o + 0)
    omega
  | t + 1 => by
    have h := pl_cl o t
    have h2 := ln_s (m := m) (g := g) t
    show max (plN m g o t + lnN m g t) (t + 1) = max (max (plN m g 0 t + lnN m g t) (t + 1)) (o + EE g ((t + 1) * m))
    omega
theorem pl_ge (o : Nat) : ∀ t, t ≤ plN m g o t
  | 0 => Nat.zero_le _
  | t + 1 => Nat.le_max_right _ _
theorem pl_n (hN : EE g (n * m) ≤ n) : plN m g (ovN n m g) n = ovN n m g + n := by
  have h := pl_cl (m := m) (g := g) (ovN n m g) n
  have h2 := pl_ge (m := m) (g := g) 0 n
  have h3 : ovN n m g = plN m g 0 n - n := rfl
  omega
theorem PN_lt {x : Nat} (hx : x < n) : PN n m g x = plN m g (ovN n m g) x := by
  unfold PN
  rw [Nat.mod_eq_of_lt hx, Nat.div_eq_of_lt hx]
  omega
theorem LN_lt {x : Nat} (hx : x < n) : LN n m g x = lnN m g x := by
  unfold LN
  rw [Nat.mod_eq_of_lt hx]
theorem PN_n (hn : 0 < n) : PN n m g n = ovN n m g + n := by
  unfold PN
  rw [Nat.mod_self, Nat.div_self hn, Nat.one_mul]
  rfl
theorem lay_lin (hn : 0 < n) (hN : EE g (n * m) < n) : LinP n (PN n m g) (LN n m g) := by
  refine ⟨hn, fun x => ?_, fun x => ?_, fun x => ?_, fun x => ?_, ?_⟩
  · have hd := Nat.div_add_mod x n
    have hm := Nat.mod_lt x hn
    rw [Nat.mul_comm] at hd
    by_cases hc : x % n + 1 < n
    · have e1 : (x + 1) % n = x % n + 1 := by
        rw [show x + 1 = x % n + 1 + x / n * n by omega, Nat.add_mul_mod_self_right, Nat.mod_eq_of_lt hc]
      have e2 : (x + 1) / n = x / n := by
        rw [show x + 1 = x % n + 1 + x / n * n by omega, Nat.add_mul_div_right _ _ hn, Nat.div_eq_of_lt hc, Nat.zero_add]
      unfold PN LN
      rw [e1, e2]
      show max (plN m g (ovN n m g) (x % n) + lnN m g (x % n)) (x % n + 1) + x / n * n = _
      omega
    · have e1 : (x + 1) % n = 0 := by
        rw [show x + 1 = (x / n + 1) * n by rw [Nat.succ_mul]; omega]
        exact Nat.mul_mod_left _ _
      have e2 : (x + 1) / n = x / n + 1 := by
        rw [show x + 1 = (x / n + 1) * n by rw [Nat.succ_mul]; omega]
        exact Nat.mul_div_cancel _ hn
      have h1 := pl_n (n := n) (m := m) (g := g) (by omega)
      obtain ⟨n', hn'⟩ : ∃ n', n = n' + 1 := ⟨n - 1, by omega⟩
      have h2 : plN m g (ovN n m g) n = max (plN m g (ovN n m g) n' + lnN m g n') n := by
        conv => lhs; rw [hn']
        rw [hn']
        rfl
      have h3 : x % n = n' := by omega
      unfold PN LN
      rw [e1, e2, h3, Nat.succ_mul]
      show ovN n m g + _ = _
      omega
  · unfold PN
    rw [Nat.add_mod_right, Nat.add_div_right _ hn, Nat.succ_mul]
    omega
  · unfold LN
    rw [Nat.add_mod_right]
  · have hd := Nat.div_add_mod x n
    have h1 := pl_ge (m := m) (g := g) (ovN n m g) (x % n)
    rw [Nat.mul_comm] at hd
    unfold PN
    omega
  · refine Classical.byContradiction (fun hc => ?_)
    have hq : ∀ t, t ≤ n → plN m g (ovN n m g) t = ovN n m g + EE g (t * m) := by
      intro t
      induction t with
      | zero =>
        intro _
        rw [Nat.zero_mul]
        rfl
      | succ t ih =>
        intro ht
        have h1 := ih (by omega)
        have h2 := ln_s (m := m) (g := g) t
        have h3 := pl_ge (m := m) (g := g) (ovN n m g) t
        have h4 : ¬ (plN m g (ovN n m g) t = t ∧ lnN m g t = 0) := fun q => hc ⟨t, by omega, by rw [PN_lt (by omega)]; exact q.1, by rw [LN_lt (by omega)]; exact q.2⟩
        show max (plN m g (ovN n m g) t + lnN m g t) (t + 1) = _
        omega
    have h1 := hq n (Nat.le_refl _)
    rw [pl_n (by omega)] at h1
    omega
/-- what lies in the line at a place of a run -/
theorem ps_of (hm : 0 < m) {x j : Nat} (hj : j < LN n m g x) : ∃ k i, k / m = x % n ∧ k < (x % n + 1) * m ∧ i < enN (g k) ∧ EE g k - EE g (k / m * m) + i = j := by
  have h1 := ln_s (m := m) (g := g) (x % n)
  have h2 : LN n m g x = lnN m g (x % n) := rfl
  obtain ⟨k, k1, k2, k3⟩ := lp_find (P := EE g) (EE g (x % n * m) + j) (Nat.zero_le _) ((x % n + 1) * m) (by omega)
  have h3 : x % n * m ≤ k := by
    refine Nat.le_of_not_lt (fun q => ?_)
    have := EE_mono g (show k + 1 ≤ x % n * m from q)
    omega
  have h4 : k / m = x % n := by
    rw [Nat.succ_mul] at k1
    rw [show k = k - x % n * m + x % n * m by omega, Nat.add_mul_div_right _ _ hm, Nat.div_eq_of_lt (by omega), Nat.zero_add]
  rw [EE_s] at k3
  have h5 := EE_mono g h3
  refine ⟨k, EE g (x % n * m) + j - EE g k, h4, k1, by omega, ?_⟩
  rw [h4]
  omega
theorem ps_in (hm : 0 < m) (k : Nat) : EE g k - EE g (k / m * m) + enN (g k) ≤ lnN m g (k / m) := by
  have hd := Nat.div_add_mod k m
  have hl := Nat.mod_lt k hm
  rw [Nat.mul_comm] at hd
  have h1 := EE_mono g (show k / m * m ≤ k by omega)
  have h2 := EE_mono g (show k + 1 ≤ (k / m + 1) * m by rw [Nat.succ_mul]; omega)
  rw [EE_s] at h2
  have h3 := ln_s (m := m) (g := g) (k / m)
  omega
theorem ps_inL (hm : 0 < m) {k : Nat} (hk : k / m < n) : EE g k - EE g (k / m * m) + enN (g k) ≤ LN n m g (k / m) := by
  rw [LN_lt hk]
  exact ps_in hm k
theorem ps_lt (hn : 0 < n) (hm : 0 < m) (hN : EE g (n * m) < n) {k k' : Nat} (h : k < k') (hk : k' ≤ n * m) : psN n m g k + enN (g k) ≤ psN n m g k' := by
  have hl := lay_lin hn hN
  have hd := Nat.div_add_mod k' m
  have hd2 := Nat.div_add_mod k m
  rw [Nat.mul_comm] at hd hd2
  have h0 : k / m < n := Nat.div_lt_of_lt_mul (by rw [Nat.mul_comm]; omega)
  have h1 := ps_inL hm h0 (g := g)
  have h2 : k / m ≤ k' / m := Nat.div_le_div_right (by omega)
  rcases Nat.lt_or_ge (k / m) (k' / m) with q | q
  · have h3 := lp_run hl q
    unfold psN
    omega
  · have e : k' / m = k / m := by omega
    have h3 := EE_mono g (show k + 1 ≤ k' from h)
    rw [EE_s] at h3
    have h4 := EE_mono g (show k / m * m ≤ k by omega)
    unfold psN
    rw [e]
    omega
theorem ps_le (hn : 0 < n) (hm : 0 < m) (hN : EE g (n * m) < n) {k k' : Nat} (h : k ≤ k') (hk : k' ≤ n * m) : psN n m g k ≤ psN n m g k' := by
  rcases Nat.lt_or_ge k k' with q | q
  · have := ps_lt hn hm hN q hk
    omega
  · rw [show k = k' by omega]
    exact Nat.le_refl _
theorem ps_lo (hn : 0 < n) (hN : EE g (n * m) < n) (k : Nat) : ovN n m g ≤ psN n m g k := by
  have h1 := lp_mono (lay_lin hn hN) (Nat.zero_le (k / m))
  have h2 : PN n m g 0 = ovN n m g := PN_lt hn
  unfold psN
  omega
theorem ps_hi (hn : 0 < n) (hm : 0 < m) (hN : EE g (n * m) < n) {k : Nat} (hk : k < n * m) : psN n m g k + enN (g k) ≤ ovN n m g + n := by
  have h0 : k / m < n := Nat.div_lt_of_lt_mul (by rw [Nat.mul_comm]; omega)
  have h1 := ps_inL hm h0 (g := g)
  have h2 := lp_run (lay_lin hn hN) h0
  rw [PN_n hn] at h2
  unfold psN
  omega
theorem ps_n (hn : 0 < n) (hm : 0 < m) : psN n m g (n * m) = ovN n m g + n := by
  unfold psN
  rw [Nat.mul_div_cancel _ hm, PN_n hn]
  omega
theorem ps_uniq (hn : 0 < n) (hm : 0 < m) (hN : EE g (n * m) < n) {k i k' i' : Nat} (hk : k < n * m) (hk' : k' < n * m) (hi : i < enN (g k)) (hi' : i' < enN (g k')) (e : psN n m g k + i = psN n m g k' + i') : k = k' ∧ i = i' := by
  have hkk : k = k' := by
    rcases Nat.lt_trichotomy k k' with q | q | q
    · have := ps_lt hn hm hN q (by omega)
      omega
    · exact q
    · have := ps_lt hn hm hN q (by omega)
      omega
  subst hkk
  exact ⟨rfl, by omega⟩
theorem ps_first (hm : 0 < m) {k : Nat} (h : 0 < EE g k - EE g (k / m * m)) : ∃ k', k' < k ∧ k' / m = k / m ∧ 0 < enN (g k') := by
  obtain ⟨k', k1, k2, k3⟩ := lp_find (P := EE g) (EE g (k / m * m)) (Nat.zero_le _) k (by omega)
  have hd := Nat.div_add_mod k m
  have hl := Nat.mod_lt k hm
  rw [Nat.mul_comm] at hd
  have h3 : k / m * m ≤ k' := by
    refine Nat.le_of_not_lt (fun q => ?_)
    have := EE_mono g (show k' + 1 ≤ k / m * m from q)
    omega
  rw [EE_s] at k3
  refine ⟨k', k1, ?_, by omega⟩
  rw [show k' = k' - k / m * m + k / m * m by omega, Nat.add_mul_div_right _ _ hm, Nat.div_eq_of_lt (by omega), Nat.zero_add]
end LL
