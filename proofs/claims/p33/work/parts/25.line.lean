/-! the line: runs laid one behind the other, without end; by hand -/
def LinP (n : Nat) (P L : Nat → Nat) : Prop := 0 < n ∧ (∀ x, P (x + 1) = max (P x + L x) (x + 1)) ∧ (∀ x, P (x + n) = P x + n) ∧ (∀ x, L (x + n) = L x) ∧ (∀ x, x ≤ P x) ∧ ∃ e, e < n ∧ P e = e ∧ L e = 0
section LP
variable {n : Nat} {P L : Nat → Nat}
theorem lp_mono (h : LinP n P L) {x y : Nat} (hxy : x ≤ y) : P x ≤ P y := by
  obtain ⟨hn, h1, h2, h3, h4, h5⟩ := h
  induction hxy with
  | refl => exact Nat.le_refl _
  | @step m _ ih =>
    have := h1 m
    show P x ≤ P (m + 1)
    omega
theorem lp_run (h : LinP n P L) {x y : Nat} (hxy : x < y) : P x + L x ≤ P y := by
  have h6 := lp_mono h (show x + 1 ≤ y from hxy)
  have h7 := h.2.1 x
  omega
theorem lp_per (h : LinP n P L) (x : Nat) : ∀ j, P (x + j * n) = P x + j * n ∧ L (x + j * n) = L x
  | 0 => by simp
  | j + 1 => by
    have h1 := lp_per h x j
    rw [Nat.succ_mul, ← Nat.add_assoc, h.2.2.1, h.2.2.2.1, h1.1, h1.2]
    exact ⟨by omega, rfl⟩
/-- an empty place in every round -/
theorem lp_emp (h : LinP n P L) (x : Nat) : ∃ e, x ≤ e ∧ e < x + n ∧ P e = e ∧ L e = 0 := by
  obtain ⟨e, h1, h2, h3⟩ := h.2.2.2.2.2
  have hn := h.1
  have hd := Nat.div_add_mod x n
  have hm := Nat.mod_lt x hn
  rw [Nat.mul_comm] at hd
  by_cases hc : x % n ≤ e
  · have hp := lp_per h e (x / n)
    exact ⟨e + x / n * n, by omega, by omega, by omega, by omega⟩
  · have hp := lp_per h e (x / n + 1)
    rw [Nat.succ_mul] at hp
    exact ⟨e + (x / n * n + n), by omega, by omega, by omega, by omega⟩
theorem lp_disp (h : LinP n P L) {x : Nat} (hx : 0 < L x) : P x + L x < x + n := by
  obtain ⟨e, e1, e2, e3, e4⟩ := lp_emp h x
  have h1 : x < e := by
    refine Nat.lt_of_le_of_ne e1 (fun q => ?_)
    rw [← q] at e4
    omega
  have h2 := lp_run h h1
  omega
theorem lp_P0 (h : LinP n P L) (x : Nat) : P x < x + n := by
  obtain ⟨e, e1, e2, e3, e4⟩ := lp_emp h x
  have h2 := lp_mono h e1
  omega
theorem lp_find (u : Nat) (h0 : P 0 ≤ u) : ∀ y, u < P y → ∃ x, x < y ∧ P x ≤ u ∧ u < P (x + 1)
  | 0, h => absurd h0 (by omega)
  | y + 1, h => by
    by_cases hy : u < P y
    · obtain ⟨x, x1, x2⟩ := lp_find u h0 y hy
      exact ⟨x, by omega, x2⟩
    · exact ⟨y, by omega, by omega, h⟩
theorem lp_cases (h : LinP n P L) {u : Nat} (hu : n ≤ u) : (∃ x i, i < L x ∧ u = P x + i ∧ x ≤ u) ∨ (P u = u ∧ L u = 0) := by
  have h0 := lp_P0 h 0
  obtain ⟨hn, h1, h2, h3, h4, h5⟩ := h
  obtain ⟨x, x1, x2, x3⟩ := lp_find (P := P) u (by omega) (u + 1) (by have := h4 (u + 1); omega)
  have h6 := h1 x
  have h7 := h4 x
  by_cases hc : u < P x + L x
  · exact Or.inl ⟨x, u - P x, by omega, by omega, by omega⟩
  · have hx : x = u := by omega
    subst hx
    exact Or.inr ⟨by omega, by omega⟩
theorem lp_uniq (h : LinP n P L) {x y i j : Nat} (hi : i < L x) (hj : j < L y) (e : P x + i = P y + j) : x = y ∧ i = j := by
  have hxy : x = y := by
    rcases Nat.lt_trichotomy x y with q | q | q
    · have := lp_run h q
      omega
    · exact q
    · have := lp_run h q
      omega
  subst hxy
  exact ⟨rfl, by omega⟩
/-- entries are apart, round the table too -/
theorem lp_mod (h : LinP n P L) {x y i j : Nat} (hi : i < L x) (hj : j < L y) (e : (P x + i) % n = (P y + j) % n) : x % n = y % n ∧ i = j := by
  have hn := h.1
  have d1 := Nat.div_add_mod (P x + i) n
  have d2 := Nat.div_add_mod (P y + j) n
  rw [Nat.mul_comm] at d1 d2
  have p1 := lp_per h x ((P y + j) / n)
  have p2 := lp_per h y ((P x + i) / n)
  have q := lp_uniq h (x := x + (P y + j) / n * n) (y := y + (P x + i) / n * n) (i := i) (j := j) (by omega) (by omega) (by omega)
  refine ⟨?_, q.2⟩
  have q1 := q.1
  have e1 : (x + (P y + j) / n * n) % n = x % n := Nat.add_mul_mod_self_right _ _ _
  have e2 : (y + (P x + i) / n * n) % n = y % n := Nat.add_mul_mod_self_right _ _ _
  rw [← e1, q1, e2]
theorem lp_filled (h : LinP n P L) {x i : Nat} (hi : i < L x) : ¬ (P (P x + i) = P x + i ∧ L (P x + i) = 0) := by
  intro ⟨q1, q2⟩
  have hx := h.2.2.2.2.1 x
  rcases Nat.lt_or_ge x (P x + i) with q | q
  · have := lp_run h q
    omega
  · have e : P x + i = x := by omega
    rw [e] at q2
    omega
theorem lp_shift (h : LinP n P L) {x i : Nat} (hi : i < L x) : x < P x + i ↔ P x + i < P (P x + i) := by
  have hx := h.2.2.2.2.1 x
  constructor
  · intro q
    have := lp_run h q
    omega
  · intro q
    refine Nat.lt_of_not_le (fun q2 => ?_)
    have e : P x + i = x := by omega
    rw [e] at q
    omega
/-- the run's start is not moved: its place is its quotient -/
theorem lp_head (h : LinP n P L) {u x i : Nat} (hi : i < L x) (e : u = P x + i) (hu : P u = u) : x = u ∧ i = 0 := by
  have hx := h.2.2.2.2.1 x
  rcases Nat.lt_or_ge x u with q | q
  · have := lp_run h q
    omega
  · omega
theorem lp_next (h : LinP n P L) {x : Nat} (hx : x + 1 < P (x + 1)) : P (x + 1) = P x + L x := by
  have := h.2.1 x
  omega
theorem lp_clu (h : LinP n P L) (e : Nat) (he : P e = e) : ∀ d, ∃ c, e ≤ c ∧ c ≤ e + d ∧ P c = c ∧ ∀ y, c < y → y ≤ e + d → y < P y
  | 0 => ⟨e, Nat.le_refl _, Nat.le_refl _, he, fun y h1 h2 => by omega⟩
  | d + 1 => by
    by_cases hc : P (e + (d + 1)) = e + (d + 1)
    · exact ⟨e + (d + 1), by omega, Nat.le_refl _, hc, fun y h1 h2 => by omega⟩
    · obtain ⟨c, c1, c2, c3, c4⟩ := lp_clu h e he d
      refine ⟨c, c1, by omega, c3, fun y h1 h2 => ?_⟩
      by_cases hy : y = e + (d + 1)
      · have := h.2.2.2.2.1 y
        rw [hy] at this ⊢
        omega
      · exact c4 y h1 (by omega)
/-- the cluster's start -/
theorem lp_cst (h : LinP n P L) {u : Nat} (hu : n ≤ u) : ∃ c, c ≤ u ∧ u < c + n ∧ P c = c ∧ ∀ y, c < y → y ≤ u → y < P y := by
  obtain ⟨e, e1, e2, e3, e4⟩ := lp_emp h (u + 1 - n)
  have hn := h.1
  obtain ⟨c, c1, c2, c3, c4⟩ := lp_clu h e e3 (u - e)
  exact ⟨c, by omega, by omega, c3, fun y h1 h2 => c4 y h1 (by omega)⟩
theorem lp_occ {r : Nat} : ∀ (N d : Nat), d < N → 0 < L (r + 1 + d) → ∃ y, r < y ∧ y ≤ r + 1 + d ∧ 0 < L y ∧ ∀ z, r < z → z < y → L z = 0
  | 0, d, hd, _ => absurd hd (Nat.not_lt_zero d)
  | N + 1, d, hd, h => by
    by_cases hc : ∃ d4, d4 < d ∧ 0 < L (r + 1 + d4)
    · obtain ⟨d4, q1, q2⟩ := hc
      obtain ⟨y, y1, y2, y3, y4⟩ := lp_occ N d4 (by omega) q2
      exact ⟨y, y1, by omega, y3, y4⟩
    · refine ⟨r + 1 + d, by omega, Nat.le_refl _, h, fun z z1 z2 => ?_⟩
      refine Classical.byContradiction (fun q => hc ⟨z - (r + 1), by omega, ?_⟩)
      rw [show r + 1 + (z - (r + 1)) = z by omega]
      omega
/-- the next occupied place -/
theorem lp_occN {r y : Nat} (hr : r < y) (hy : 0 < L y) : ∃ y', r < y' ∧ y' ≤ y ∧ 0 < L y' ∧ ∀ z, r < z → z < y' → L z = 0 := by
  obtain ⟨y', y1, y2, y3, y4⟩ := lp_occ (L := L) (r := r) (y - (r + 1) + 1) (y - (r + 1)) (by omega) (by rw [show r + 1 + (y - (r + 1)) = y by omega]; exact hy)
  exact ⟨y', y1, by omega, y3, y4⟩
/-- the next run begins where this one ends, inside a cluster -/
theorem lp_cont (h : LinP n P L) {r y : Nat} (hr : r < y) (h0 : ∀ z, r < z → z < y → L z = 0) (h1 : ∀ z, r < z → z ≤ y → z < P z) : P y = P r + L r := by
  have hq : ∀ d, r + 1 + d ≤ y → P (r + 1 + d) = P r + L r := by
    intro d
    induction d with
    | zero => exact fun hd => lp_next h (h1 (r + 1) (by omega) (by omega))
    | succ d ih =>
      intro hd
      have h2 := ih (by omega)
      have h3 := lp_next h (x := r + 1 + d) (h1 (r + 1 + d + 1) (by omega) (by omega))
      rw [h0 (r + 1 + d) (by omega) (by omega)] at h3
      rw [show r + 1 + (d + 1) = r + 1 + d + 1 by omega]
      omega
  have h2 := hq (y - (r + 1)) (by omega)
  rw [show r + 1 + (y - (r + 1)) = y by omega] at h2
  exact h2
end LP
