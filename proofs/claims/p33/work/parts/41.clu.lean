/-! the longest cluster, said of the line; out of whole -/
/-- c is a cluster's start, and j more places of it lie behind -/
def ClG (P L : Nat → Nat) (c j : Nat) : Prop := P c = c ∧ 0 < L c ∧ ∀ y, c < y → y ≤ c + j → y < P y
def ClM (n : Nat) (P L : Nat → Nat) (V : Nat) : Prop := (∀ c j, n ≤ c → ClG P L c j → j + 1 ≤ V) ∧ (V = 0 ∨ ∃ c j, n ≤ c ∧ ClG P L c j ∧ V = j + 1)
section CL
variable {n : Nat} {P L : Nat → Nat} {T : amTab}
theorem clm_uniq {V W : Nat} (h : ClM n P L V) (k : ClM n P L W) : V = W := by
  obtain ⟨h1, h2⟩ := h
  obtain ⟨k1, k2⟩ := k
  rcases h2 with e | ⟨c, j, a1, a2, a3⟩
  · rcases k2 with e2 | ⟨c, j, a1, a2, a3⟩
    · omega
    · have := h1 c j a1 a2
      omega
  · rcases k2 with e2 | ⟨c2, j2, b1, b2, b3⟩
    · have := k1 c j a1 a2
      omega
    · have := k1 c j a1 a2
      have := h1 c2 j2 b1 b2
      omega
theorem clg_per (h : LinP n P L) (c a j : Nat) : ClG P L (c + a * n) j ↔ ClG P L c j := by
  obtain ⟨p1, p2⟩ := lp_per h c a
  constructor
  · intro ⟨h1, h2, h3⟩
    refine ⟨by omega, by omega, fun y y1 y2 => ?_⟩
    obtain ⟨q1, q2⟩ := lp_per h y a
    have := h3 (y + a * n) (by omega) (by omega)
    omega
  · intro ⟨h1, h2, h3⟩
    refine ⟨by omega, by omega, fun y y1 y2 => ?_⟩
    obtain ⟨q1, q2⟩ := lp_per h (y - a * n) a
    rw [show y - a * n + a * n = y by omega] at q1
    have := h3 (y - a * n) (by omega) (by omega)
    omega
theorem clg_start {c j c2 j2 : Nat} (h : ClG P L c j) (h2 : ClG P L c2 j2) (e : c + j = c2 + j2) : j = j2 := by
  rcases Nat.lt_trichotomy c c2 with q | q | q
  · have := h.2.2 c2 q (by omega)
    have := h2.1
    omega
  · omega
  · have := h2.2.2 c q (by omega)
    have := h.1
    omega
theorem clg_lt (h : LinP n P L) {c j : Nat} (hg : ClG P L c j) : j < n := by
  obtain ⟨e, e1, e2, e3, e4⟩ := lp_emp h c
  refine Nat.lt_of_not_le (fun w => ?_)
  by_cases e0 : e = c
  · have := hg.2.1
    rw [e0] at e4
    omega
  · have := hg.2.2 e (by omega) (by omega)
    omega
theorem clg_max (h : LinP n P L) {c : Nat} (h0 : P c = c) (h1 : 0 < L c) : ∃ J, ClG P L c J ∧ ¬ c + J + 1 < P (c + J + 1) := by
  refine Classical.byContradiction (fun w => ?_)
  have all : ∀ j, ClG P L c j := by
    intro j
    induction j with
    | zero => exact ⟨h0, h1, fun y a b => by omega⟩
    | succ j ih =>
      refine ⟨h0, h1, fun y a b => ?_⟩
      by_cases e : y ≤ c + j
      · exact ih.2.2 y a e
      · have e2 : c + j + 1 < P (c + j + 1) := Classical.byContradiction (fun w2 => w ⟨j, ih, w2⟩)
        rw [show y = c + j + 1 by omega]
        exact e2
  have := clg_lt h (all n)
  omega
theorem ll_inv (h : TabL n P L T) {z : Nat} (hP : P (z + n) = z + n) : ∀ (d t m g : Nat), t + d = n → (∀ c j, z + n ≤ c → ClG P L c j → c + j < z + n + t → j + 1 ≤ m) → (m = 0 ∨ ∃ c j, n ≤ c ∧ ClG P L c j ∧ m = j + 1) → (∀ u, u + 1 = z + n + t → z + n ≤ u → ¬ (P u = u ∧ L u = 0) → ∃ c j, z + n ≤ c ∧ ClG P L c j ∧ c + j = u ∧ g = j + 1) → (∀ c j, z + n ≤ c → ClG P L c j → c + j < z + n + n → j + 1 ≤ llF T n z d t m g) ∧ (llF T n z d t m g = 0 ∨ ∃ c j, n ≤ c ∧ ClG P L c j ∧ llF T n z d t m g = j + 1) := by
  intro d
  induction d with
  | zero =>
    intro t m g ht h1 h2 h3
    have e : t = n := by omega
    subst e
    exact ⟨h1, h2⟩
  | succ d ih =>
    intro t m g ht h1 h2 h3
    have em := tl_em h (u := z + t + n) (by omega)
    have sh := tl_sh h (u := z + t + n) (by omega)
    rw [Nat.add_mod_right] at em sh
    rw [show z + t + n = z + n + t by omega] at em sh
    unfold llF
    by_cases c0 : T.2.1 ((z + t) % n) = 0
    · rw [if_pos c0]
      obtain ⟨e1, e2⟩ := em.mp c0
      refine ih (t + 1) m g (by omega) (fun c j a1 a2 a3 => ?_) h2 (fun u u1 u2 u3 => ?_)
      · by_cases w : c + j < z + n + t
        · exact h1 c j a1 a2 w
        · exfalso
          by_cases w2 : j = 0
          · have := a2.2.1
            rw [show c = z + n + t by omega] at this
            omega
          · have := a2.2.2 (z + n + t) (by omega) (by omega)
            omega
      · rw [show u = z + n + t by omega] at u3
        exact absurd ⟨e1, e2⟩ u3
    · rw [if_neg c0]
      have ne : ¬ (P (z + n + t) = z + n + t ∧ L (z + n + t) = 0) := fun w => c0 (em.mpr w)
      have lp := h.1.2.2.2.2.1 (z + n + t)
      by_cases c1 : T.2.2.2.2 ((z + t) % n) = true
      · rw [if_pos c1]
        rw [c1] at sh
        have mv : z + n + t < P (z + n + t) := of_decide_eq_true sh.symm
        have t0 : 0 < t := by
          refine Nat.pos_of_ne_zero (fun w => ?_)
          rw [w, Nat.add_zero] at mv
          omega
        obtain ⟨u, hu⟩ : ∃ u, u + 1 = z + n + t := ⟨z + n + t - 1, by omega⟩
        have hp := lp_next h.1 (x := u) (by rw [hu]; exact mv)
        rw [hu] at hp
        obtain ⟨c, j, a1, a2, a3, a4⟩ := h3 u hu (by omega) (by omega)
        have ga : ClG P L c (j + 1) := ⟨a2.1, a2.2.1, fun y y1 y2 => by
          by_cases w : y ≤ c + j
          · exact a2.2.2 y y1 w
          · rw [show y = z + n + t by omega]
            exact mv⟩
        refine ih (t + 1) (max m (g + 1)) (g + 1) (by omega) (fun c' j' b1 b2 b3 => ?_) (Or.inr ?_) (fun v v1 v2 v3 => ⟨c, j + 1, a1, ga, by omega, by omega⟩)
        · by_cases w : c' + j' < z + n + t
          · have := h1 c' j' b1 b2 w
            omega
          · have := clg_start b2 ga (by omega)
            omega
        · rcases h2 with w | ⟨c', j', b1, b2, b3⟩
          · exact ⟨c, j + 1, by omega, ga, by omega⟩
          · by_cases w : m ≤ g + 1
            · exact ⟨c, j + 1, by omega, ga, by omega⟩
            · exact ⟨c', j', b1, b2, by omega⟩
      · rw [if_neg c1]
        have sh2 : ¬ z + n + t < P (z + n + t) := fun w => c1 (sh.trans (decide_eq_true w))
        have ga : ClG P L (z + n + t) 0 := ⟨by omega, by omega, fun y y1 y2 => by omega⟩
        refine ih (t + 1) (max m 1) 1 (by omega) (fun c' j' b1 b2 b3 => ?_) (Or.inr ?_) (fun v v1 v2 v3 => ⟨z + n + t, 0, by omega, ga, by omega, rfl⟩)
        · by_cases w : c' + j' < z + n + t
          · have := h1 c' j' b1 b2 w
            omega
          · have := clg_start b2 ga (by omega)
            omega
        · rcases h2 with w | ⟨c', j', b1, b2, b3⟩
          · exact ⟨z + n + t, 0, by omega, ga, by omega⟩
          · exact ⟨c', j', b1, b2, by omega⟩
theorem ll_clm (h : TabL n P L T) : ClM n P L (llN T n) := by
  obtain ⟨z1, z2, z3⟩ := tl_fz h
  generalize hz : fzF T.2.1 (n - 1) 0 = z at *
  have e0 : llN T n = llF T n z n 0 0 0 := by
    unfold llN
    rw [hz]
  rw [e0]
  obtain ⟨r1, r2⟩ := ll_inv h z2 n 0 0 0 (by omega) (fun c j a1 a2 a3 => by omega) (Or.inl rfl) (fun u u1 u2 _ => by omega)
  refine ⟨fun c j hc hg => ?_, r2⟩
  have hn := h.1.1
  have hzz : z + n ≤ (z + n) * n := Nat.le_mul_of_pos_right _ hn
  have dm := am_md (c + (z + n) * n - (z + n)) n
  have ml := Nat.mod_lt (c + (z + n) * n - (z + n)) hn
  have g1 := (clg_per h.1 c (z + n) j).mpr hg
  rw [show c + (z + n) * n = z + n + (c + (z + n) * n - (z + n)) % n + (c + (z + n) * n - (z + n)) / n * n by omega] at g1
  have g2 := (clg_per h.1 _ _ j).mp g1
  refine r1 _ j (Nat.le_add_right _ _) g2 ?_
  refine Nat.lt_of_not_le (fun w => ?_)
  have g3 := g2.2.2 (z + n + n) (by omega) (by omega)
  have := h.1.2.2.1 (z + n)
  omega
end CL
