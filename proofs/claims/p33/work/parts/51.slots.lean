/-! slots, said of the line: what stands ahead of an entry, its cluster; by hand -/
section SL
variable {n m : Nat} {g : Nat → Nat}
theorem slot_line (hl : LinP n (PN n m g) (LN n m g)) (hm : 0 < m) {x o : Nat} (ho : o < LN n m g x) : ∃ k i, SlotE n m g ((PN n m g x + o) % n) k i ∧ k / m = x % n ∧ EE g k - EE g (k / m * m) + i = o := by
  obtain ⟨k, i, h1, h2, h3, h4, h5⟩ := ps_slot hm ho
  have h6 := Nat.mod_lt x hl.1
  have h7 := Nat.mul_le_mul_right m (show x % n + 1 ≤ n from h6)
  exact ⟨k, i, ⟨by omega, h3, h5.symm⟩, h1, h4⟩
theorem line_slot (hl : LinP n (PN n m g) (LN n m g)) (hm : 0 < m) {u k i : Nat} (hu : n + n ≤ u) (S : SlotE n m g (u % n) k i) : ∃ x, x % n = k / m ∧ u = PN n m g x + (EE g k - EE g (k / m * m) + i) ∧ EE g k - EE g (k / m * m) + i < LN n m g x := by
  have hn := hl.1
  obtain ⟨s1, s2, s3⟩ := S
  have hq : k / m < n := Nat.div_lt_of_lt_mul (by rw [Nat.mul_comm]; exact s1)
  have h1 := ps_inL hm hq (g := g)
  have h2 := lp_disp hl (x := k / m) (by omega)
  have h3 : psN n m g k + i ≤ u := by
    unfold psN
    omega
  have d1 := am_md (psN n m g k + i) n
  have d2 := am_md u n
  rw [s3] at d1
  have h4 : (psN n m g k + i) / n ≤ u / n := Nat.div_le_div_right h3
  obtain ⟨z, hz⟩ : ∃ z, u / n = (psN n m g k + i) / n + z := ⟨u / n - (psN n m g k + i) / n, by omega⟩
  rw [hz, Nat.add_mul] at d2
  have h5 := lp_per hl (k / m) z
  refine ⟨k / m + z * n, by rw [Nat.add_mul_mod_self_right, Nat.mod_eq_of_lt hq], ?_, by omega⟩
  have e1 : psN n m g k = PN n m g (k / m) + (EE g k - EE g (k / m * m)) := rfl
  omega
theorem mod_far {x y : Nat} (h : x < y) (e : x % n = y % n) : x + n ≤ y := by
  refine Nat.le_of_not_lt (fun w => ?_)
  exact lt_mod_ne h w e
/-- the entry ahead of an entry is of the same run if that isn't the run's first -/
theorem bef_iff (hl : LinP n (PN n m g) (LN n m g)) (hm : 0 < m) (hN : EE g (n * m) < n) {u k i k' i' : Nat} (hu : n + n + n ≤ u) (S : SlotE n m g (u % n) k i) (S' : SlotE n m g ((u - 1) % n) k' i') : k' / m = k / m ↔ 0 < EE g k - EE g (k / m * m) + i := by
  have hn := hl.1
  obtain ⟨x, x1, x2, x3⟩ := line_slot hl hm (by omega) S
  obtain ⟨y, y1, y2, y3⟩ := line_slot hl hm (by omega) S'
  constructor
  · intro e
    refine Nat.pos_of_ne_zero (fun w => ?_)
    rw [w] at x2
    have hyx : y < x := by
      refine Nat.lt_of_not_le (fun q => ?_)
      have := lp_mono hl q
      omega
    have h1 := mod_far (n := n) hyx (by rw [y1, x1, e])
    have h2 := lp_disp hl (x := y) (by omega)
    have h3 := hl.2.2.2.2.1 x
    omega
  · intro w
    have e := lp_uniq hl (x := x) (y := y) (i := EE g k - EE g (k / m * m) + i - 1) (j := EE g k' - EE g (k' / m * m) + i') (by omega) y3 (by omega)
    rw [← y1, ← x1, e.1]
theorem bef_no (hl : LinP n (PN n m g) (LN n m g)) (hm : 0 < m) {u k i : Nat} (hu : n + n + n ≤ u) (S : SlotE n m g (u % n) k i) (h : ∀ k i, ¬ SlotE n m g ((u - 1) % n) k i) : ¬ 0 < EE g k - EE g (k / m * m) + i := by
  intro w
  obtain ⟨x, x1, x2, x3⟩ := line_slot hl hm (by omega) S
  obtain ⟨k', i', S', -, -⟩ := slot_line hl hm (x := x) (o := EE g k - EE g (k / m * m) + i - 1) (by omega)
  rw [show PN n m g x + (EE g k - EE g (k / m * m) + i - 1) = u - 1 by omega] at S'
  exact h k' i' S'
/-- the cluster of an entry: entries from its start on, none but the first in its own place -/
theorem clu_ent (hl : LinP n (PN n m g) (LN n m g)) (hm : 0 < m) {u k i : Nat} (hu : n + n ≤ u) (S : SlotE n m g (u % n) k i) : ∃ c, c ≤ u ∧ u < c + n ∧ PN n m g c = c ∧ (∀ y, c < y → y ≤ u → y < PN n m g y) ∧ ∀ y, c ≤ y → y ≤ u → ∃ k' i', SlotE n m g (y % n) k' i' ∧ (k' / m = y % n ↔ y = c) := by
  have hn := hl.1
  obtain ⟨c, c1, c2, c3, c4⟩ := lp_cst hl (show n ≤ u by omega)
  have hfull : 0 < LN n m g c := by
    rcases Nat.lt_or_ge c u with w | w
    · exact lp_cfull hl w c3 c4
    · obtain ⟨x, x1, x2, x3⟩ := line_slot hl hm hu S
      have e : c = u := by omega
      refine Nat.pos_of_ne_zero (fun w2 => ?_)
      have := lp_filled hl x3
      rw [← x2, ← e] at this
      exact this ⟨c3, w2⟩
  refine ⟨c, c1, c2, c3, c4, fun y y1 y2 => ?_⟩
  by_cases e : y = c
  · subst e
    obtain ⟨k', i', S', h1, -⟩ := slot_line hl hm hfull
    rw [Nat.add_zero, c3] at S'
    exact ⟨k', i', S', fun _ => rfl, fun _ => h1⟩
  · have hy := c4 y (by omega) y2
    rcases lp_cases hl (show n ≤ y by omega) with ⟨x, o, h1, h2, h3⟩ | ⟨h1, h2⟩
    · obtain ⟨k', i', S', h4, -⟩ := slot_line hl hm h1
      rw [← h2] at S'
      have h5 := (lp_shift hl h1).mpr (by rw [← h2]; exact hy)
      have h6 := lp_disp hl (x := x) (by omega)
      refine ⟨k', i', S', fun w => ?_, fun w => absurd w e⟩
      rw [h4] at w
      exact absurd w (lt_mod_ne (by omega) (by omega))
    · omega
end SL
