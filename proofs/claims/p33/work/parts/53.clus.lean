/-! the longest cluster, a step at a time; slots' heads; by hand -/
section CS2
variable {n : Nat} {P L : Nat → Nat}
/-- after t places from an empty one on: the longest so far, and how long the one at hand is -/
def LlI (n : Nat) (P L : Nat → Nat) (z t m g : Nat) : Prop := (∀ c j, z + n ≤ c → ClG P L c j → c + j < z + n + t → j + 1 ≤ m) ∧ (m = 0 ∨ ∃ c j, n ≤ c ∧ ClG P L c j ∧ m = j + 1) ∧ ∀ u, u + 1 = z + n + t → z + n ≤ u → ¬ (P u = u ∧ L u = 0) → ∃ c j, z + n ≤ c ∧ ClG P L c j ∧ c + j = u ∧ g = j + 1
theorem ll_0 (z : Nat) : LlI n P L z 0 0 0 := ⟨fun c j a1 a2 a3 => by omega, Or.inl rfl, fun u u1 u2 _ => by omega⟩
theorem ll_e {z t m g : Nat} (h : LlI n P L z t m g) (e1 : P (z + n + t) = z + n + t) (e2 : L (z + n + t) = 0) : LlI n P L z (t + 1) m 0 := by
  obtain ⟨h1, h2, h3⟩ := h
  refine ⟨fun c j a1 a2 a3 => ?_, h2, fun u u1 u2 u3 => ?_⟩
  · by_cases w : c + j < z + n + t
    · exact h1 c j a1 a2 w
    · exfalso
      by_cases w2 : j = 0
      · have := a2.2.1
        rw [show c = z + n + t by omega] at this
        omega
      · have := a2.2.2 (z + n + t) (by omega) (by omega)
        omega
  · rw [show u = z + n + t by omega] at u3
    exact absurd ⟨e1, e2⟩ u3
theorem ll_m (hl : LinP n P L) {z t m g : Nat} (h : LlI n P L z t m g) (hP : P (z + n) = z + n) (mv : z + n + t < P (z + n + t)) : LlI n P L z (t + 1) (max m (g + 1)) (g + 1) := by
  obtain ⟨h1, h2, h3⟩ := h
  have t0 : 0 < t := by
    refine Nat.pos_of_ne_zero (fun w => ?_)
    rw [w, Nat.add_zero] at mv
    omega
  obtain ⟨u, hu⟩ : ∃ u, u + 1 = z + n + t := ⟨z + n + t - 1, by omega⟩
  have hp := lp_next hl (x := u) (by rw [hu]; exact mv)
  rw [hu] at hp
  obtain ⟨c, j, a1, a2, a3, a4⟩ := h3 u hu (by omega) (by omega)
  have ga : ClG P L c (j + 1) := ⟨a2.1, a2.2.1, fun y y1 y2 => by
    by_cases w : y ≤ c + j
    · exact a2.2.2 y y1 w
    · rw [show y = z + n + t by omega]
      exact mv⟩
  refine ⟨fun c' j' b1 b2 b3 => ?_, Or.inr ?_, fun v v1 v2 v3 => ⟨c, j + 1, a1, ga, by omega, by omega⟩⟩
  · by_cases w : c' + j' < z + n + t
    · have := h1 c' j' b1 b2 w
      omega
    · have := clg_start b2 ga (by omega)
      omega
  · rcases h2 with w | ⟨c', j', b1, b2, b3⟩
    · exact ⟨c, j + 1, by omega, ga, by omega⟩
    · by_cases w : m ≤ g + 1
      · exact ⟨c, j + 1, by omega, ga, by omega⟩
      · exact ⟨c', j', b1, b2, by omega⟩
theorem ll_h {z t m g : Nat} (h : LlI n P L z t m g) (e1 : P (z + n + t) = z + n + t) (e2 : ¬ L (z + n + t) = 0) : LlI n P L z (t + 1) (max m 1) 1 := by
  obtain ⟨h1, h2, h3⟩ := h
  have ga : ClG P L (z + n + t) 0 := ⟨e1, by omega, fun y y1 y2 => by omega⟩
  refine ⟨fun c' j' b1 b2 b3 => ?_, Or.inr ?_, fun v v1 v2 v3 => ⟨z + n + t, 0, by omega, ga, by omega, rfl⟩⟩
  · by_cases w : c' + j' < z + n + t
    · have := h1 c' j' b1 b2 w
      omega
    · have := clg_start b2 ga (by omega)
      omega
  · rcases h2 with w | ⟨c', j', b1, b2, b3⟩
    · exact ⟨z + n + t, 0, by omega, ga, by omega⟩
    · exact ⟨c', j', b1, b2, by omega⟩
theorem ll_fin (hl : LinP n P L) {z m g : Nat} (h : LlI n P L z n m g) (hP : P (z + n) = z + n) : ClM n P L m := by
  obtain ⟨r1, r2, -⟩ := h
  refine ⟨fun c j hc hg => ?_, r2⟩
  have hn := hl.1
  have hzz : z + n ≤ (z + n) * n := Nat.le_mul_of_pos_right _ hn
  have dm := am_md (c + (z + n) * n - (z + n)) n
  have ml := Nat.mod_lt (c + (z + n) * n - (z + n)) hn
  have g1 := (clg_per hl c (z + n) j).mpr hg
  rw [show c + (z + n) * n = z + n + (c + (z + n) * n - (z + n)) % n + (c + (z + n) * n - (z + n)) / n * n by omega] at g1
  have g2 := (clg_per hl _ _ j).mp g1
  refine r1 _ j (Nat.le_add_right _ _) g2 ?_
  refine Nat.lt_of_not_le (fun w => ?_)
  have g3 := g2.2.2 (z + n + n) (by omega) (by omega)
  have := hl.2.2.1 (z + n)
  omega
end CS2
section SH
variable {n m : Nat} {g : Nat → Nat}
theorem slot_head (hl : LinP n (PN n m g) (LN n m g)) (hm : 0 < m) (hN : EE g (n * m) < n) {u k i : Nat} (hu : n ≤ u) (S : SlotE n m g (u % n) k i) : (k / m = u % n ↔ PN n m g u = u) ∧ ¬ (PN n m g u = u ∧ LN n m g u = 0) := by
  have hn := hl.1
  rcases lp_cases hl hu with ⟨x, o, h1, h2, h3⟩ | ⟨h1, h2⟩
  · obtain ⟨k', i', S', h4, -⟩ := slot_line hl hm h1
    rw [← h2] at S'
    obtain ⟨e1, -⟩ := slot_uniq hn hm hN S S'
    rw [← e1] at h4
    have h5 := lp_shift hl h1
    have h6 := lp_disp hl (x := x) (by omega)
    have h7 := lp_filled hl h1
    have h8 := hl.2.2.2.2.1 u
    rw [← h2] at h5 h7
    refine ⟨⟨fun w => ?_, fun w => ?_⟩, h7⟩
    · rw [h4] at w
      refine Classical.byContradiction (fun w2 => ?_)
      exact lt_mod_ne (show x < u by omega) (by omega) w
    · rw [h4, show x = u by omega]
  · exfalso
    obtain ⟨s1, s2, s3⟩ := S
    have hq : k / m < n := Nat.div_lt_of_lt_mul (by rw [Nat.mul_comm]; exact s1)
    have h3 := ps_inL hm hq (g := g)
    have S2 : SlotE n m g ((u + n) % n) k i := ⟨s1, s2, by rw [Nat.add_mod_right]; exact s3⟩
    obtain ⟨x, x1, x2, x3⟩ := line_slot hl hm (by omega) S2
    have h7 := lp_filled hl x3
    rw [← x2, hl.2.2.1, hl.2.2.2.1] at h7
    exact h7 ⟨by omega, h2⟩
theorem slot_none (hl : LinP n (PN n m g) (LN n m g)) (hm : 0 < m) {u : Nat} (hu : n ≤ u) (h : ∀ k i, ¬ SlotE n m g (u % n) k i) : PN n m g u = u ∧ LN n m g u = 0 := by
  rcases lp_cases hl hu with ⟨x, o, h1, h2, h3⟩ | h1
  · obtain ⟨k', i', S', -, -⟩ := slot_line hl hm h1
    rw [← h2] at S'
    exact absurd S' (h _ _)
  · exact h1
end SH
