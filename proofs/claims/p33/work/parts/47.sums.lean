/-! fifteen fingerprints: sums over all fingerprints as sums over them; by hand -/
/-- the law's fingerprints -/
def PI (P : Nat → Nat) : Prop := (∀ i j, i < j → j < 15 → P i < P j) ∧ ∀ i, i < 15 → P i < 4096
/-- what the class holds, as the law counts it -/
def GI (g : Nat → Nat → Nat) (P C : Nat → Nat) : Prop := ∀ f, f < 4 → (∀ i, i < 15 → g f (P i) = C (16 * f + i)) ∧ ∀ k, (∀ i, i < 15 → ¬ k = P i) → g f k = 0
theorem PI.inj {P : Nat → Nat} (h : PI P) {i j : Nat} (hi : i < 15) (hj : j < 15) (e : P i = P j) : i = j := by
  rcases Nat.lt_trichotomy i j with w | w | w
  · have := h.1 i j w hj
    omega
  · exact w
  · have := h.1 j i w hi
    omega
theorem PI.lt {P : Nat → Nat} (h : PI P) {i j : Nat} (hi : i < 15) (hj : j < 15) : P i < P j ↔ i < j := by
  constructor
  · intro w
    refine Nat.lt_of_not_le (fun q => ?_)
    rcases Nat.lt_or_ge j i with w2 | w2
    · have := h.1 j i w2 hi
      omega
    · rw [show j = i by omega] at w
      exact absurd w (Nat.lt_irrefl _)
  · exact fun w => h.1 i j w hj
theorem sm_plus (f g : Nat → Nat) : ∀ n, smN (fun j => f j + g j) n = smN f n + smN g n
  | 0 => rfl
  | n + 1 => by
    have := sm_plus f g n
    simp only [smN] at this ⊢
    omega
/-- one place alone -/
theorem sm_one {f : Nat → Nat} {a n : Nat} (ha : a < n) (h : ∀ j, j < n → ¬ j = a → f j = 0) : smN f n = f a := by
  induction n with
  | zero => omega
  | succ n ih =>
    show smN f n + f n = f a
    by_cases e : a = n
    · rw [sm_0 n (fun j hj => h j (by omega) (by omega)), e, Nat.zero_add]
    · rw [ih (by omega) (fun j hj => h j (by omega)), h n (by omega) (by omega), Nat.add_zero]
/-- a sum below K over all fingerprints, when all else is 0 -/
theorem sm_P {P w : Nat → Nat} (h : PI P) (h0 : ∀ k, (∀ i, i < 15 → ¬ k = P i) → w k = 0) : ∀ K, smN w K = smN (fun j => if P j < K then w (P j) else 0) 15
  | 0 => (sm_0 15 (fun j _ => if_neg (Nat.not_lt_zero _))).symm
  | K + 1 => by
    have ih := sm_P h h0 K
    have e : smN (fun j => if P j < K + 1 then w (P j) else 0) 15 = smN (fun j => if P j < K then w (P j) else 0) 15 + smN (fun j => if P j = K then w K else 0) 15 := by
      rw [← sm_plus]
      refine sm_cg 15 (fun j _ => ?_)
      by_cases a : P j < K
      · rw [if_pos (by omega), if_pos a, if_neg (by omega), Nat.add_zero]
      · by_cases b : P j = K
        · rw [if_pos (by omega), if_neg a, if_pos b, b, Nat.zero_add]
        · rw [if_neg (by omega), if_neg a, if_neg b]
    rw [e, ← ih]
    show smN w K + w K = _
    congr 1
    by_cases c : ∃ a, a < 15 ∧ K = P a
    · obtain ⟨a, ha, e2⟩ := c
      rw [sm_one ha (fun j hj w2 => if_neg (fun w3 => w2 (h.inj hj ha (by omega)))), if_pos e2.symm]
    · rw [h0 K (fun i hi w2 => c ⟨i, hi, w2⟩)]
      exact (sm_0 15 (fun j hj => by split <;> rfl)).symm
section GG
variable {g : Nat → Nat → Nat} {P C : Nat → Nat} {f : Nat}
theorem GI.en (G : GI g P C) (hf : f < 4) : ∀ k, (∀ i, i < 15 → ¬ k = P i) → enN (g f k) = 0 := fun k hk => by
  rw [(G f hf).2 k hk]
  rfl
/-- entries below K -/
theorem EE_P (h : PI P) (G : GI g P C) (hf : f < 4) (K : Nat) : EE (g f) K = smN (fun j => if P j < K then ceN C f j else 0) 15 := by
  have e : EE (g f) K = smN (fun k => enN (g f k)) K := rfl
  rw [e, sm_P h (G.en hf) K]
  refine sm_cg 15 (fun j hj => ?_)
  rw [(G f hf).1 j hj]
  rfl
theorem EE_all (h : PI P) (G : GI g P C) (hf : f < 4) : EE (g f) 4096 = smN (ceN C f) 15 := by
  rw [EE_P h G hf]
  exact sm_cg 15 (fun j hj => if_pos (h.2 j hj))
theorem sm_all (h : PI P) (G : GI g P C) (hf : f < 4) : smN (g f) 4096 = smN (cfN C f) 15 := by
  rw [sm_P h (G f hf).2]
  refine sm_cg 15 (fun j hj => ?_)
  rw [if_pos (h.2 j hj), (G f hf).1 j hj]
  rfl
/-- the run of quotient t -/
theorem ln_P (h : PI P) (G : GI g P C) (hf : f < 4) {m : Nat} (hm : 0 < m) (t : Nat) : lnN m (g f) t = smN (rnN P C f m t) 15 := by
  have h1 := ln_s (m := m) (g := g f) t
  rw [EE_P h G hf, EE_P h G hf] at h1
  have e : smN (fun j => if P j < (t + 1) * m then ceN C f j else 0) 15 = smN (fun j => if P j < t * m then ceN C f j else 0) 15 + smN (rnN P C f m t) 15 := by
    rw [← sm_plus]
    refine sm_cg 15 (fun j _ => ?_)
    have dm := Nat.div_add_mod (P j) m
    have ml := Nat.mod_lt (P j) hm
    rw [Nat.mul_comm] at dm
    have hs : (t + 1) * m = t * m + m := Nat.succ_mul t m
    unfold rnN
    by_cases a : P j < t * m
    · rw [if_pos a, if_pos (by omega), if_neg, Nat.add_zero]
      intro w
      rw [w] at dm
      omega
    · rw [if_neg a, Nat.zero_add]
      by_cases b : P j / m = t
      · rw [if_pos b, if_pos]
        · rfl
        · rw [b] at dm
          omega
      · rw [if_neg b, if_neg]
        intro w
        refine b (Nat.le_antisymm ?_ ?_)
        · exact Nat.le_of_lt_succ (Nat.div_lt_of_lt_mul (by rw [Nat.mul_comm]; exact w))
        · exact (Nat.le_div_iff_mul_le hm).mpr (by omega)
  omega
/-- entries of the same run before fingerprint i -/
theorem lk_P (h : PI P) (G : GI g P C) (hf : f < 4) {m i : Nat} (hm : 0 < m) (hi : i < 15) : EE (g f) (P i) - EE (g f) (P i / m * m) = smN (fun j => if P j / m = P i / m ∧ j < i then ceN C f j else 0) 15 := by
  have hd := Nat.div_add_mod (P i) m
  rw [Nat.mul_comm] at hd
  have e : EE (g f) (P i) = EE (g f) (P i / m * m) + smN (fun j => if P j / m = P i / m ∧ j < i then ceN C f j else 0) 15 := by
    rw [EE_P h G hf, EE_P h G hf, ← sm_plus]
    refine sm_cg 15 (fun j hj => ?_)
    have lt := h.lt hj hi
    by_cases a : P j < P i / m * m
    · rw [if_pos (by omega), if_pos a, if_neg, Nat.add_zero]
      intro w
      have dm := Nat.div_add_mod (P j) m
      rw [Nat.mul_comm, w.1] at dm
      omega
    · rw [if_neg a, Nat.zero_add]
      by_cases b : j < i
      · rw [if_pos (lt.mpr b), if_pos]
        refine ⟨Nat.le_antisymm (Nat.div_le_div_right (Nat.le_of_lt (lt.mpr b))) ?_, b⟩
        exact (Nat.le_div_iff_mul_le hm).mpr (by omega)
      · rw [if_neg (fun w => b (lt.mp w)), if_neg (fun w => b w.2)]
  omega
/-- different fingerprints below P i -/
theorem nz_P (h : PI P) (G : GI g P C) (hf : f < 4) (K : Nat) : nzN (g f) K = smN (fun j => if P j < K then (if cfN C f j = 0 then 0 else 1) else 0) 15 := by
  rw [nz_sm, sm_P h (fun k hk => if_pos ((G f hf).2 k hk))]
  refine sm_cg 15 (fun j hj => ?_)
  rw [(G f hf).1 j hj]
  rfl
theorem nz_Pi (h : PI P) (G : GI g P C) (hf : f < 4) {i : Nat} (hi : i ≤ 15) (K : Nat) (hK : ∀ j, j < 15 → (P j < K ↔ j < i)) : nzN (g f) K = smN (fun j => if cfN C f j = 0 then 0 else 1) i := by
  rw [nz_P h G hf, show (15 : Nat) = i + (15 - i) by omega, sm_add, sm_0 (15 - i) (fun j hj => if_neg (fun w => by have := (hK (i + j) (by omega)).mp w; omega)), Nat.add_zero]
  exact sm_cg i (fun j hj => if_pos ((hK j (by omega)).mpr hj))
end GG
