/-! a table that is filled is laid out; by hand -/
def LayE (n m : Nat) (g : Nat → Nat) (T : amTab) (k i : Nat) : Prop := T.1 ((psN n m g k + i) % n) = k % m ∧ T.2.1 ((psN n m g k + i) % n) = min (g k - 7 * i) 7 ∧ T.2.2.2.1 ((psN n m g k + i) % n) = decide (0 < EE g k - EE g (k / m * m) + i) ∧ T.2.2.2.2 ((psN n m g k + i) % n) = !decide ((psN n m g k + i) % n = k / m)
def EntU (n m : Nat) (g : Nat → Nat) (U k i : Nat) : Prop := k < n * m ∧ i < enN (g k) ∧ psN n m g k + i < U
def Lay (n m : Nat) (g : Nat → Nat) (U : Nat) (T : amTab) : Prop := (∀ k i, EntU n m g U k i → LayE n m g T k i) ∧ (∀ s, s < n → (∀ k i, EntU n m g U k i → ¬ (psN n m g k + i) % n = s) → T.2.1 s = 0 ∧ T.2.2.2.1 s = false ∧ T.2.2.2.2 s = false) ∧ ∀ t, t < n → (T.2.2.1 t = true ↔ ∃ k i, EntU n m g U k i ∧ k / m = t)
def putG (n m k a l : Nat) (T : amTab) : amTab := (updN T.1 (a % n) (k % m), updN T.2.1 (a % n) (min l 7), updB T.2.2.1 (k / m) true, updB T.2.2.2.1 (a % n) (T.2.2.1 (k / m)), updB T.2.2.2.2 (a % n) (!decide (a % n = k / m)))
theorem updB_at (f : Nat → Bool) (k : Nat) (v : Bool) : updB f k v k = v := if_pos rfl
theorem updB_ne (f : Nat → Bool) {k j : Nat} (v : Bool) (h : ¬ j = k) : updB f k v j = f j := if_neg h
section LY
variable {n m : Nat} {g : Nat → Nat} {T : amTab}
theorem lay_put (hn : 0 < n) (hm : 0 < m) (hN : EE g (n * m) < n) {U k i : Nat} (h : Lay n m g U T) (hU : U = psN n m g k + i) (hk : k < n * m) (hi : i < enN (g k)) : Lay n m g (U + 1) (putG n m k U (g k - 7 * i) T) := by
  have h0 : k / m < n := Nat.div_lt_of_lt_mul (by rw [Nat.mul_comm]; omega)
  have hU1 := ps_lo hn hN k
  have hU2 := ps_hi hn hm hN hk
  have ne : ∀ k' i', EntU n m g U k' i' → ¬ (psN n m g k' + i') % n = U % n := fun k' i' ⟨q1, q2, q3⟩ => lt_mod_ne q3 (by have := ps_lo hn hN k'; omega)
  have sp : ∀ k' i', EntU n m g (U + 1) k' i' → EntU n m g U k' i' ∨ (k' = k ∧ i' = i) := by
    intro k' i' ⟨q1, q2, q3⟩
    by_cases e : psN n m g k' + i' = U
    · exact Or.inr (ps_uniq hn hm hN q1 hk q2 hi (by omega))
    · exact Or.inl ⟨q1, q2, by omega⟩
  have me : EntU n m g (U + 1) k i := ⟨hk, hi, by omega⟩
  have up : ∀ k' i', EntU n m g U k' i' → EntU n m g (U + 1) k' i' := fun k' i' ⟨q1, q2, q3⟩ => ⟨q1, q2, by omega⟩
  refine ⟨fun k' i' q => ?_, fun s hs q => ?_, fun t ht => ?_⟩
  · rcases sp k' i' q with q1 | ⟨rfl, rfl⟩
    · have h1 := h.1 k' i' q1
      have h2 := ne k' i' q1
      unfold LayE putG at *
      dsimp only
      rw [updN_ne _ _ h2, updN_ne _ _ h2, updB_ne _ _ h2, updB_ne _ _ h2]
      exact h1
    · unfold LayE putG
      dsimp only
      rw [← hU, updN_at, updN_at, updB_at, updB_at]
      refine ⟨rfl, rfl, ?_, rfl⟩
      have hiff : T.2.2.1 (k' / m) = true ↔ 0 < EE g k' - EE g (k' / m * m) + i' := by
        rw [h.2.2 (k' / m) h0]
        constructor
        · intro ⟨k2, i2, ⟨e1, e2, e3⟩, e4⟩
          have hle : k2 ≤ k' := by
            refine Nat.le_of_not_lt (fun q => ?_)
            have := ps_lt hn hm hN q (by omega)
            omega
          rcases Nat.lt_or_ge k2 k' with q | q
          · have h3 := EE_mono g (show k2 + 1 ≤ k' from q)
            rw [EE_s] at h3
            have hd := Nat.div_add_mod k2 m
            rw [Nat.mul_comm] at hd
            have h4 := EE_mono g (show k2 / m * m ≤ k2 by omega)
            rw [e4] at h4
            omega
          · have e : k2 = k' := by omega
            subst e
            omega
        · intro q
          by_cases h5 : 0 < i'
          · exact ⟨k', i' - 1, ⟨hk, by omega, by omega⟩, rfl⟩
          · obtain ⟨k2, e1, e2, e3⟩ := ps_first (g := g) (m := m) hm (k := k') (by omega)
            have h6 := ps_lt hn hm hN e1 (by omega)
            exact ⟨k2, 0, ⟨by omega, e3, by omega⟩, e2⟩
      by_cases h7 : 0 < EE g k' - EE g (k' / m * m) + i'
      · rw [hiff.mpr h7, decide_eq_true h7]
      · rw [decide_eq_false h7]
        exact Bool.eq_false_iff.mpr (fun q => h7 (hiff.mp q))
  · have h2 : ¬ s = U % n := fun e => q k i me (by rw [← hU]; exact e.symm)
    have h1 := h.2.1 s hs (fun k' i' q1 => q k' i' (up k' i' q1))
    unfold putG
    dsimp only
    rw [updN_ne _ _ h2, updB_ne _ _ h2, updB_ne _ _ h2]
    exact h1
  · show updB T.2.2.1 (k / m) true t = true ↔ _
    by_cases e : t = k / m
    · rw [e, updB_at]
      exact ⟨fun _ => ⟨k, i, me, rfl⟩, fun _ => rfl⟩
    · rw [updB_ne _ _ e, h.2.2 t ht]
      constructor
      · intro ⟨k', i', q1, q2⟩
        exact ⟨k', i', up k' i' q1, q2⟩
      · intro ⟨k', i', q1, q2⟩
        rcases sp k' i' q1 with q3 | ⟨rfl, rfl⟩
        · exact ⟨k', i', q3, q2⟩
        · exact absurd q2.symm e
theorem lay_skip {U U' : Nat} (h : Lay n m g U T) (hU : U ≤ U') (hno : ∀ k i, k < n * m → i < enN (g k) → psN n m g k + i < U' → psN n m g k + i < U) : Lay n m g U' T := by
  have a : ∀ k i, EntU n m g U' k i → EntU n m g U k i := fun k i ⟨q1, q2, q3⟩ => ⟨q1, q2, hno k i q1 q2 q3⟩
  have b : ∀ k i, EntU n m g U k i → EntU n m g U' k i := fun k i ⟨q1, q2, q3⟩ => ⟨q1, q2, by omega⟩
  refine ⟨fun k i q => h.1 k i (a k i q), fun s hs q => h.2.1 s hs (fun k i q1 => q k i (b k i q1)), fun t ht => ?_⟩
  rw [h.2.2 t ht]
  constructor
  · intro ⟨k, i, q1, q2⟩
    exact ⟨k, i, b k i q1, q2⟩
  · intro ⟨k, i, q1, q2⟩
    exact ⟨k, i, a k i q1, q2⟩
theorem LayE.cg {g2 : Nat → Nat} {k i : Nat} (h : LayE n m g T k i) (e : g = g2) : LayE n m g2 T k i := e ▸ h
theorem am_md (x n : Nat) : x = x % n + x / n * n := by
  have := Nat.div_add_mod x n
  rw [Nat.mul_comm] at this
  omega
theorem PN_md (x : Nat) : PN n m g x = PN n m g (x % n) + x / n * n := by
  by_cases hn : 0 < n
  · rw [PN_lt (Nat.mod_lt x hn)]
    rfl
  · rw [show n = 0 by omega]
    simp
theorem LN_md (x : Nat) : LN n m g x = LN n m g (x % n) := by
  unfold LN
  rw [Nat.mod_mod]
/-- an entry of the line, as an entry of a fingerprint -/
theorem ps_slot (hm : 0 < m) {x j : Nat} (hj : j < LN n m g x) : ∃ k i, k / m = x % n ∧ k < (x % n + 1) * m ∧ i < enN (g k) ∧ EE g k - EE g (k / m * m) + i = j ∧ (PN n m g x + j) % n = (psN n m g k + i) % n := by
  obtain ⟨k, i, k1, k2, k3, k4⟩ := ps_of hm hj
  refine ⟨k, i, k1, k2, k3, k4, ?_⟩
  have e1 := PN_md (n := n) (m := m) (g := g) x
  have e2 : psN n m g k = PN n m g (x % n) + (EE g k - EE g (k / m * m)) := by
    unfold psN
    rw [k1]
  rw [show PN n m g x + j = psN n m g k + i + x / n * n by omega, Nat.add_mul_mod_self_right]
theorem lay_tab (hn : 0 < n) (hm : 0 < m) (hN : EE g (n * m) < n) (h : Lay n m g (ovN n m g + n) T) : TabL n (PN n m g) (LN n m g) T := by
  have hl := lay_lin hn hN
  have all : ∀ k i, k < n * m → i < enN (g k) → EntU n m g (ovN n m g + n) k i := fun k i q1 q2 => ⟨q1, q2, by have := ps_hi hn hm hN q1; omega⟩
  refine ⟨hl, fun x i hi => ?_, fun x hx hL => ?_, fun x => ?_⟩
  · obtain ⟨k, i', k1, k2, k3, k4, k5⟩ := ps_slot hm hi
    have hk : k < n * m := Nat.lt_of_lt_of_le k2 (Nat.mul_le_mul_right m (Nat.mod_lt x hn))
    obtain ⟨e1, e2, e3, e4⟩ := h.1 k i' (all k i' hk k3)
    rw [k5]
    refine ⟨?_, by rw [e3, k4], ?_⟩
    · rw [e2]
      unfold enN at k3
      omega
    · rw [e4, ← k5, k1]
      have h1 := lp_disp hl (show 0 < LN n m g x by omega)
      have h2 := hl.2.2.2.2.1 x
      rcases Nat.lt_or_ge x (PN n m g x + i) with q | q
      · rw [decide_eq_true q, decide_eq_false (fun e => lt_mod_ne q (by omega) e.symm)]
        rfl
      · rw [show PN n m g x + i = x by omega, decide_eq_true rfl, decide_eq_false (by omega)]
        rfl
  · refine h.2.1 (x % n) (Nat.mod_lt x hn) (fun k i q e => ?_)
    obtain ⟨q1, q2, q3⟩ := q
    have h0 : k / m < n := Nat.div_lt_of_lt_mul (by rw [Nat.mul_comm]; omega)
    have h1 := ps_inL hm h0 (g := g)
    have h2 : psN n m g k + i = PN n m g (k / m) + (EE g k - EE g (k / m * m) + i) := by unfold psN; omega
    have h3 := lp_filled hl (x := k / m) (i := EE g k - EE g (k / m * m) + i) (by omega)
    rw [← h2] at h3
    refine h3 ⟨?_, ?_⟩
    · have a1 := PN_md (n := n) (m := m) (g := g) x
      have a2 := PN_md (n := n) (m := m) (g := g) (psN n m g k + i)
      have a3 := am_md x n
      have a4 := am_md (psN n m g k + i) n
      rw [e] at a2 a4
      omega
    · rw [LN_md, e, ← LN_md]
      exact hL
  · have hx := Nat.mod_lt x hn
    have hiff : T.2.2.1 (x % n) = true ↔ 0 < LN n m g x := by
      rw [h.2.2 (x % n) hx]
      constructor
      · intro ⟨k, i, ⟨q1, q2, q3⟩, q4⟩
        have h1 := ps_inL hm (show k / m < n by omega) (g := g)
        rw [q4] at h1
        rw [LN_md]
        omega
      · intro q
        obtain ⟨k, i', k1, k2, k3, k4, k5⟩ := ps_slot hm q
        have hk : k < n * m := Nat.lt_of_lt_of_le k2 (Nat.mul_le_mul_right m hx)
        exact ⟨k, i', all k i' hk k3, k1⟩
    by_cases q : 0 < LN n m g x
    · rw [hiff.mpr q, decide_eq_true q]
    · rw [decide_eq_false q]
      exact Bool.eq_false_iff.mpr (fun e => q (hiff.mp e))
end LY
