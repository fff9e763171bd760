/-! fill lays a table out; by hand -/
theorem am_nm {q : Nat} (h8 : q ≤ 8) : 2 ^ q * 2 ^ (12 - q) = 4096 := by
  rw [← Nat.pow_add, show q + (12 - q) = 12 by omega]
theorem el_ps {q o : Nat} {g : Nat → Nat} : ∀ k, max (elN q o g k) (k / 2 ^ (12 - q)) = plN (2 ^ (12 - q)) g o (k / 2 ^ (12 - q)) + (EE g k - EE g (k / 2 ^ (12 - q) * 2 ^ (12 - q)))
  | 0 => by
    rw [Nat.zero_div, Nat.zero_mul]
    show max o 0 = o + (EE g 0 - EE g 0)
    omega
  | k + 1 => by
    have ih := el_ps (q := q) (o := o) (g := g) k
    have hm : 0 < 2 ^ (12 - q) := Nat.two_pow_pos _
    generalize hM : 2 ^ (12 - q) = m at *
    have hd := am_md k m
    have hl := Nat.mod_lt k hm
    have hE := EE_s g k
    have hmo := EE_mono g (show k / m * m ≤ k by omega)
    have hel : max (elN q o g (k + 1)) (k / m) = plN m g o (k / m) + (EE g (k + 1) - EE g (k / m * m)) := by
      have h1 : elN q o g (k + 1) = if g k = 0 then elN q o g k else max (elN q o g k) (k / m) + enN (g k) := by rw [← hM]; rfl
      rw [h1]
      by_cases h0 : g k = 0
      · rw [if_pos h0, hE, h0, show enN 0 = 0 from rfl]
        exact ih
      · rw [if_neg h0]
        omega
    by_cases hc : k % m + 1 < m
    · have e : (k + 1) / m = k / m := by
        rw [show k + 1 = k % m + 1 + k / m * m by omega, Nat.add_mul_div_right _ _ hm, Nat.div_eq_of_lt hc, Nat.zero_add]
      rw [e]
      exact hel
    · have e0 : k + 1 = (k / m + 1) * m := by rw [Nat.succ_mul]; omega
      have e : (k + 1) / m = k / m + 1 := by rw [e0]; exact Nat.mul_div_cancel _ hm
      have hs := ln_s (m := m) (g := g) (k / m)
      rw [e, ← e0, Nat.sub_self]
      rw [← e0] at hs
      show _ = max (plN m g o (k / m) + lnN m g (k / m)) (k / m + 1) + 0
      omega
theorem el_ov {q : Nat} {g : Nat → Nat} (h8 : q ≤ 8) : elN q 0 g 4096 - 2 ^ q = ovN (2 ^ q) (2 ^ (12 - q)) g := by
  have h := el_ps (q := q) (o := 0) (g := g) 4096
  have hm : 0 < 2 ^ (12 - q) := Nat.two_pow_pos _
  have hnm := am_nm h8
  have e : 4096 / 2 ^ (12 - q) = 2 ^ q := by
    rw [← hnm]
    exact Nat.mul_div_cancel _ hm
  rw [e, hnm, Nat.sub_self] at h
  unfold ovN
  omega
theorem el_psN {q k : Nat} {g : Nat → Nat} (h3 : 3 ≤ q) (h8 : q ≤ 8) (hk : k < 4096) : max (elN q (ovN (2 ^ q) (2 ^ (12 - q)) g) g k) (k / 2 ^ (12 - q)) = psN (2 ^ q) (2 ^ (12 - q)) g k := by
  rw [el_ps]
  unfold psN
  rw [PN_lt (am_quo h3 h8 hk)]
theorem we_lay {q k : Nat} {g : Nat → Nat} (h8 : q ≤ 8) (hk : k < 4096) (hN : EE g 4096 < 2 ^ q) : ∀ (d i : Nat) (T : amTab), i + d = enN (g k) → Lay (2 ^ q) (2 ^ (12 - q)) g (psN (2 ^ q) (2 ^ (12 - q)) g k + i) T → Lay (2 ^ q) (2 ^ (12 - q)) g (psN (2 ^ q) (2 ^ (12 - q)) g k + enN (g k)) (weF q k d (psN (2 ^ q) (2 ^ (12 - q)) g k + i) (g k - 7 * i) T) := by
  have hnm := am_nm h8
  intro d
  induction d with
  | zero =>
    intro i T hi h
    rw [show i = enN (g k) by omega] at h
    exact h
  | succ d ih =>
    intro i T hi h
    have h1 := lay_put (Nat.two_pow_pos _) (Nat.two_pow_pos _) (by rw [hnm]; exact hN) h rfl (by rw [hnm]; exact hk) (by omega)
    have h2 := ih (i + 1) _ (by omega) h1
    rw [show g k - 7 * (i + 1) = g k - 7 * i - 7 by omega] at h2
    exact h2
theorem fi_lay {q : Nat} {g : Nat → Nat} (h3 : 3 ≤ q) (h8 : q ≤ 8) (hN : EE g 4096 < 2 ^ q) (T : amTab) : Lay (2 ^ q) (2 ^ (12 - q)) g (ovN (2 ^ q) (2 ^ (12 - q)) g + 2 ^ q) (fiT q (elN q 0 g 4096 - 2 ^ q) g (wpT T 256) 4096) := by
  have hnm := am_nm h8
  obtain ⟨p1, p2⟩ := am_pow h3 h8
  have hn : 0 < 2 ^ q := by omega
  have hm : 0 < 2 ^ (12 - q) := Nat.two_pow_pos _
  have hN2 : EE g (2 ^ q * 2 ^ (12 - q)) < 2 ^ q := by rw [hnm]; exact hN
  rw [el_ov h8]
  have hq : ∀ k, k ≤ 4096 → Lay (2 ^ q) (2 ^ (12 - q)) g (psN (2 ^ q) (2 ^ (12 - q)) g k) (fiT q (ovN (2 ^ q) (2 ^ (12 - q)) g) g (wpT T 256) k) := by
    intro k
    induction k with
    | zero =>
      intro _
      have h0 : ∀ k i, k < 2 ^ q * 2 ^ (12 - q) → ¬ psN (2 ^ q) (2 ^ (12 - q)) g k + i < psN (2 ^ q) (2 ^ (12 - q)) g 0 := fun k i hk q => by
        have := ps_le hn hm hN2 (Nat.zero_le k) (by omega)
        omega
      refine ⟨fun k i ⟨q1, q2, q3⟩ => absurd q3 (h0 k i q1), fun s hs _ => ?_, fun t ht => ?_⟩
      · have hs2 : s < 256 := by omega
        exact ⟨if_pos hs2, if_pos hs2, if_pos hs2⟩
      · have e : (wpT T 256).2.2.1 t = false := if_pos (show t < 256 by omega)
        constructor
        · intro q1
          exact absurd (e.symm.trans q1) (by decide)
        · intro ⟨k, i, ⟨q1, q2, q3⟩, q4⟩
          exact absurd q3 (h0 k i q1)
    | succ k ih =>
      intro hk
      have h1 := ih (by omega)
      have hle := ps_lt hn hm hN2 (show k < k + 1 by omega) (by omega)
      have hno : ∀ k' i, k' < 2 ^ q * 2 ^ (12 - q) → i < enN (g k') → psN (2 ^ q) (2 ^ (12 - q)) g k' + i < psN (2 ^ q) (2 ^ (12 - q)) g (k + 1) → psN (2 ^ q) (2 ^ (12 - q)) g k' + i < psN (2 ^ q) (2 ^ (12 - q)) g k + enN (g k) := by
        intro k' i q1 q2 q3
        rcases Nat.lt_trichotomy k' k with q | q | q
        · have := ps_lt hn hm hN2 q (by omega)
          omega
        · rw [q] at q2 ⊢
          omega
        · have := ps_le hn hm hN2 (show k + 1 ≤ k' from q) (by omega)
          omega
      show Lay _ _ _ _ (if g k = 0 then _ else _)
      by_cases h0 : g k = 0
      · rw [if_pos h0]
        rw [h0, show enN 0 = 0 from rfl] at hle hno
        exact lay_skip h1 (by omega) hno
      · rw [if_neg h0, el_psN h3 h8 (by omega)]
        exact lay_skip (we_lay h8 (by omega) hN (enN (g k)) 0 _ (by omega) h1) hle hno
  have h := hq 4096 (Nat.le_refl _)
  have e : psN (2 ^ q) (2 ^ (12 - q)) g 4096 = ovN (2 ^ q) (2 ^ (12 - q)) g + 2 ^ q := by
    have := ps_n (g := g) hn hm
    rw [hnm] at this
    exact this
  rw [e] at h
  exact h
