/-! the law's own laying of a table: what it writes, and that this is the line; by hand -/
def lyF (n j : Nat) : Nat → Nat → Nat → (Nat → Int32) → Nat → Int32
  | 0, _, _, t => t
  | d + 1, E, l, t => lyF n j d (E + 1) (l - 7) (upd t (E % n) (nI (8 * (j + 1) + min l 7)))
def lyJ (n m x : Nat) (P c : Nat → Nat) : Nat → Nat → Nat → (Nat → Int32) → Nat × (Nat → Int32)
  | 0, _, E, t => (E, t)
  | d + 1, j, E, t => if P j / m = x ∧ 0 < c j then lyJ n m x P c d (j + 1) (E + enN (c j)) (lyF n j (enN (c j)) E (c j) t) else lyJ n m x P c d (j + 1) E t
/-- entry i of fingerprint j is the o-th of run x -/
def EntL (n m : Nat) (P C : Nat → Nat) (g : Nat → Nat) (f j i x o : Nat) : Prop := j < 15 ∧ i < ceN C f j ∧ P j / m = x % n ∧ o = EE g (P j) - EE g (P j / m * m) + i
/-- all entries that lie ahead of U are written -/
def TAL (n m : Nat) (P C : Nat → Nat) (g : Nat → Nat) (f e : Nat) (t : Nat → Int32) (U : Nat) : Prop := ∀ s, s < n → (∀ x o j i, e < x → x < e + n → EntL n m P C g f j i x o → PN n m g x + o < U → (PN n m g x + o) % n = s → t s = nI (8 * (j + 1) + min (cfN C f j - 7 * i) 7)) ∧ ((∀ x o j i, e < x → x < e + n → EntL n m P C g f j i x o → PN n m g x + o < U → ¬ (PN n m g x + o) % n = s) → t s = nI 0)
section LY
variable {n m f e : Nat} {g : Nat → Nat → Nat} {P C : Nat → Nat} {t : Nat → Int32}
theorem ent_lt (hm : 0 < m) (G : GI g P C) (hf : f < 4) {j i x o : Nat} (h : EntL n m P C (g f) f j i x o) : o < LN n m (g f) x := by
  obtain ⟨h1, h2, h3, h4⟩ := h
  have h5 := ps_in (g := g f) hm (P j)
  rw [h3, (G f hf).1 j h1, ← h3] at h5
  have e1 : LN n m (g f) x = lnN m (g f) (x % n) := rfl
  have e2 : ceN C f j = enN (C (16 * f + j)) := rfl
  rw [← h3] at e1
  omega
theorem ent_uniq (hp : PI P) (G : GI g P C) (hf : f < 4) {j i j' i' x o : Nat} (h : EntL n m P C (g f) f j i x o) (k : EntL n m P C (g f) f j' i' x o) : j = j' ∧ i = i' := by
  obtain ⟨h1, h2, h3, h4⟩ := h
  obtain ⟨k1, k2, k3, k4⟩ := k
  have b1 := EE_mono (g f) (Nat.div_mul_le_self (P j) m)
  have b2 := EE_mono (g f) (Nat.div_mul_le_self (P j') m)
  rw [h3] at h4 b1
  rw [k3] at k4 b2
  rcases Nat.lt_trichotomy j j' with w | w | w
  · have w2 := EE_mono (g f) (show P j + 1 ≤ P j' from hp.1 j j' w k1)
    rw [EE_s, (G f hf).1 j h1] at w2
    have e2 : ceN C f j = enN (C (16 * f + j)) := rfl
    omega
  · subst w
    exact ⟨rfl, by omega⟩
  · have w2 := EE_mono (g f) (show P j' + 1 ≤ P j from hp.1 j' j w h1)
    rw [EE_s, (G f hf).1 j' k1] at w2
    have e2 : ceN C f j' = enN (C (16 * f + j')) := rfl
    omega
theorem lp_in {Pn Ln : Nat → Nat} (hl : LinP n Pn Ln) (hPe : Pn e = e) {x o : Nat} (h1 : e < x) (h2 : x < e + n) (ho : o < Ln x) : e < Pn x + o ∧ Pn x + o < e + n := by
  have a := hl.2.2.2.2.1 x
  have b := lp_run hl h2
  have c := hl.2.2.1 e
  omega
theorem ta_put (hl : LinP n (PN n m (g f)) (LN n m (g f))) (hm : 0 < m) (hp : PI P) (G : GI g P C) (hf : f < 4) (hPe : PN n m (g f) e = e) {U x o j i : Nat} (T : TAL n m P C (g f) f e t U) (h1 : e < x) (h2 : x < e + n) (hE : EntL n m P C (g f) f j i x o) (hU : U = PN n m (g f) x + o) : TAL n m P C (g f) f e (upd t (U % n) (nI (8 * (j + 1) + min (cfN C f j - 7 * i) 7))) (U + 1) := by
  have uo := ent_lt hm G hf hE
  have ui := lp_in hl hPe h1 h2 uo
  intro s hs
  obtain ⟨T1, T2⟩ := T s hs
  refine ⟨fun x' o' j' i' a1 a2 a3 a4 a5 => ?_, fun a => ?_⟩
  · have uo' := ent_lt hm G hf a3
    have ui' := lp_in hl hPe a1 a2 uo'
    by_cases w : PN n m (g f) x' + o' = U
    · obtain ⟨w1, w2⟩ := lp_uniq hl uo' uo (w.trans hU)
      subst w1 w2
      obtain ⟨w3, w4⟩ := ent_uniq hp G hf a3 hE
      subst w3 w4
      unfold upd
      rw [if_pos (by rw [← a5, w])]
    · have w2 : ¬ s = U % n := by
        rw [← a5]
        exact lt_mod_ne (by omega) (by omega)
      unfold upd
      rw [if_neg w2]
      exact T1 x' o' j' i' a1 a2 a3 (by omega) a5
  · have w2 : ¬ s = U % n := fun w => a x o j i h1 h2 hE (by omega) (by rw [← hU, w])
    unfold upd
    rw [if_neg w2]
    exact T2 (fun x' o' j' i' a1 a2 a3 a4 => a x' o' j' i' a1 a2 a3 (by omega))
theorem ta_skip {U U' : Nat} (T : TAL n m P C (g f) f e t U) (hU : U ≤ U') (hno : ∀ x o j i, e < x → x < e + n → EntL n m P C (g f) f j i x o → U ≤ PN n m (g f) x + o → PN n m (g f) x + o < U' → False) : TAL n m P C (g f) f e t U' := by
  intro s hs
  obtain ⟨T1, T2⟩ := T s hs
  refine ⟨fun x o j i a1 a2 a3 a4 a5 => T1 x o j i a1 a2 a3 (Nat.lt_of_not_le (fun w => hno x o j i a1 a2 a3 w a4)) a5, fun a => T2 (fun x o j i a1 a2 a3 a4 => a x o j i a1 a2 a3 (by omega))⟩
theorem ta_0 (hl : LinP n (PN n m (g f)) (LN n m (g f))) (h0 : ∀ s, s < n → t s = nI 0) : TAL n m P C (g f) f e t (e + 1) := by
  intro s hs
  refine ⟨fun x o j i a1 a2 a3 a4 a5 => ?_, fun _ => h0 s hs⟩
  have := hl.2.2.2.2.1 x
  omega
theorem ta_run (hl : LinP n (PN n m (g f)) (LN n m (g f))) (hm : 0 < m) (G : GI g P C) (hf : f < 4) {k : Nat} (T : TAL n m P C (g f) f e t (PN n m (g f) k + LN n m (g f) k)) : TAL n m P C (g f) f e t (PN n m (g f) (k + 1)) := by
  have h1 := hl.2.1 k
  refine ta_skip T (by omega) (fun x o j i a1 a2 a3 a4 a5 => ?_)
  have uo := ent_lt hm G hf a3
  rcases Nat.lt_trichotomy x k with w | w | w
  · have := lp_run hl w
    omega
  · subst w
    omega
  · have := lp_mono hl (show k + 1 ≤ x from w)
    omega
theorem ta_F (hl : LinP n (PN n m (g f)) (LN n m (g f))) (hm : 0 < m) (hp : PI P) (G : GI g P C) (hf : f < 4) (hPe : PN n m (g f) e = e) {x j : Nat} (h1 : e < x) (h2 : x < e + n) (hj : j < 15) (hq : P j / m = x % n) : ∀ (d i : Nat) (t : Nat → Int32), i + d = ceN C f j → TAL n m P C (g f) f e t (PN n m (g f) x + (EE (g f) (P j) - EE (g f) (P j / m * m)) + i) → TAL n m P C (g f) f e (lyF n j d (PN n m (g f) x + (EE (g f) (P j) - EE (g f) (P j / m * m)) + i) (cfN C f j - 7 * i) t) (PN n m (g f) x + (EE (g f) (P j) - EE (g f) (P j / m * m)) + ceN C f j) := by
  intro d
  induction d with
  | zero =>
    intro i t hi T
    rw [show ceN C f j = i by omega]
    exact T
  | succ d ih =>
    intro i t hi T
    have T2 := ta_put hl hm hp G hf hPe T h1 h2 ⟨hj, show i < ceN C f j by omega, hq, rfl⟩ (Nat.add_assoc _ _ _)
    have r := ih (i + 1) _ (by omega) T2
    rw [show cfN C f j - 7 * (i + 1) = cfN C f j - 7 * i - 7 by omega] at r
    exact r
/-- the run's entries ahead of fingerprint j -/
theorem oj_eq (hp : PI P) (G : GI g P C) (hf : f < 4) (hm : 0 < m) {x j : Nat} (hj : j < 15) (hq : P j / m = x) : smN (rnN P C f m x) j = EE (g f) (P j) - EE (g f) (P j / m * m) := by
  rw [lk_P hp G hf hm hj, show (15 : Nat) = j + (15 - j) by omega, sm_add, sm_0 (15 - j) (fun i hi => if_neg (fun w => by omega)), Nat.add_zero]
  refine sm_cg j (fun i hi => ?_)
  unfold rnN
  rw [hq]
  by_cases w : P i / m = x
  · rw [if_pos w, if_pos ⟨w, hi⟩]
    rfl
  · rw [if_neg w, if_neg (fun w2 => w w2.1)]
theorem ta_J (hl : LinP n (PN n m (g f)) (LN n m (g f))) (hm : 0 < m) (hp : PI P) (G : GI g P C) (hf : f < 4) (hPe : PN n m (g f) e = e) {x : Nat} (h1 : e < x) (h2 : x < e + n) : ∀ (d j : Nat) (t : Nat → Int32), j + d = 15 → TAL n m P C (g f) f e t (PN n m (g f) x + smN (rnN P C f m (x % n)) j) → (lyJ n m (x % n) P (cfN C f) d j (PN n m (g f) x + smN (rnN P C f m (x % n)) j) t).1 = PN n m (g f) x + LN n m (g f) x ∧ TAL n m P C (g f) f e (lyJ n m (x % n) P (cfN C f) d j (PN n m (g f) x + smN (rnN P C f m (x % n)) j) t).2 (PN n m (g f) x + LN n m (g f) x) := by
  intro d
  induction d with
  | zero =>
    intro j t hj T
    have e1 : j = 15 := by omega
    subst e1
    have e2 : LN n m (g f) x = smN (rnN P C f m (x % n)) 15 := ln_P hp G hf hm (x % n)
    rw [e2]
    exact ⟨rfl, T⟩
  | succ d ih =>
    intro j t hj T
    have i2 := ih (j + 1)
    unfold lyJ
    by_cases w : P j / m = x % n ∧ 0 < cfN C f j
    · rw [if_pos w]
      have e1 := oj_eq hp G hf hm (show j < 15 by omega) w.1
      have T2 := ta_F hl hm hp G hf hPe h1 h2 (show j < 15 by omega) w.1 (ceN C f j) 0 t (by omega)
      rw [← e1, Nat.add_zero] at T2
      have e2 : smN (rnN P C f m (x % n)) (j + 1) = smN (rnN P C f m (x % n)) j + enN (cfN C f j) := congrArg _ (if_pos w.1)
      rw [e2, ← Nat.add_assoc] at i2
      exact i2 _ (by omega) (T2 T)
    · rw [if_neg w]
      have e2 : smN (rnN P C f m (x % n)) (j + 1) = smN (rnN P C f m (x % n)) j := by
        show smN (rnN P C f m (x % n)) j + rnN P C f m (x % n) j = _
        have e3 : rnN P C f m (x % n) j = 0 := by
          unfold rnN
          by_cases w2 : P j / m = x % n
          · rw [if_pos w2]
            have w3 : cfN C f j = 0 := Nat.eq_zero_of_not_pos (fun w3 => w ⟨w2, w3⟩)
            show enN (cfN C f j) = 0
            rw [w3]
            rfl
          · exact if_neg w2
        rw [e3]
        rfl
      rw [e2] at i2
      exact i2 _ (by omega) T
/-- a slot's fingerprint is one of the law's -/
theorem slot_P (G : GI g P C) (hf : f < 4) {s k i : Nat} (h : SlotE n m (g f) s k i) : ∃ j, j < 15 ∧ k = P j := by
  refine Classical.byContradiction (fun w => ?_)
  have h0 := (G f hf).2 k (fun j hj e1 => w ⟨j, hj, e1⟩)
  have h1 := h.2.1
  rw [h0] at h1
  exact absurd (show i < 0 from h1) (Nat.not_lt_zero i)
theorem ta_slot (hl : LinP n (PN n m (g f)) (LN n m (g f))) (hm : 0 < m) (G : GI g P C) (hf : f < 4) (he : e < n) (hPe : PN n m (g f) e = e) (hLe : LN n m (g f) e = 0) (T : TAL n m P C (g f) f e t (e + n)) {s j i : Nat} (hj : j < 15) (hS : SlotE n m (g f) s (P j) i) : t s = nI (8 * (j + 1) + min (cfN C f j - 7 * i) 7) := by
  have hn := hl.1
  obtain ⟨s1, s2, s3⟩ := hS
  have hs : s < n := by
    rw [← s3]
    exact Nat.mod_lt _ hn
  have hqn : P j / m < n := Nat.div_lt_of_lt_mul (by rw [Nat.mul_comm]; exact s1)
  have h5 := ps_in (g := g f) hm (P j)
  have hr0 := Nat.zero_le (P j / m)
  rw [(G f hf).1 j hj] at s2 h5
  have hne : ¬ P j / m = e := fun w => by
    rw [LN_lt he, ← w] at hLe
    omega
  have hl2 : LN n m (g f) (P j / m) = lnN m (g f) (P j / m) := LN_lt hqn
  by_cases w : e < P j / m
  · have E1 : EntL n m P C (g f) f j i (P j / m) (EE (g f) (P j) - EE (g f) (P j / m * m) + i) := ⟨hj, s2, (Nat.mod_eq_of_lt hqn).symm, rfl⟩
    have b := lp_in hl hPe w (by omega) (ent_lt hm G hf E1)
    refine (T s hs).1 _ _ j i w (by omega) E1 b.2 ?_
    rw [← s3]
    unfold psN
    rw [Nat.add_assoc]
  · have E1 : EntL n m P C (g f) f j i (P j / m + n) (EE (g f) (P j) - EE (g f) (P j / m * m) + i) := ⟨hj, s2, by rw [Nat.add_mod_right, Nat.mod_eq_of_lt hqn], rfl⟩
    have b := lp_in hl hPe (show e < P j / m + n by omega) (by omega) (ent_lt hm G hf E1)
    refine (T s hs).1 _ _ j i (by omega) (by omega) E1 b.2 ?_
    rw [← s3, hl.2.2.1]
    unfold psN
    rw [show PN n m (g f) (P j / m) + n + (EE (g f) (P j) - EE (g f) (P j / m * m) + i) = PN n m (g f) (P j / m) + (EE (g f) (P j) - EE (g f) (P j / m * m)) + i + n by omega, Nat.add_mod_right]
theorem ta_none (hp : PI P) (G : GI g P C) (hf : f < 4) (hnm : n * m = 4096) (T : TAL n m P C (g f) f e t (e + n)) {s : Nat} (hs : s < n) (h : ∀ k i, ¬ SlotE n m (g f) s k i) : t s = nI 0 := by
  refine (T s hs).2 (fun x o j i a1 a2 a3 a4 a5 => h (P j) i ?_)
  obtain ⟨h1, h2, h3, h4⟩ := a3
  refine ⟨by rw [hnm]; exact hp.2 j h1, by rw [(G f hf).1 j h1]; exact h2, ?_⟩
  rw [← a5, PN_md x, ← h3, h4]
  unfold psN
  rw [show PN n m (g f) (P j / m) + x / n * n + (EE (g f) (P j) - EE (g f) (P j / m * m) + i) = PN n m (g f) (P j / m) + (EE (g f) (P j) - EE (g f) (P j / m * m)) + i + x / n * n by omega, Nat.add_mul_mod_self_right]
/-- all runs together, from any slot on -/
theorem sm_ln (g : Nat → Nat) : ∀ n, smN (lnN m g) n = EE g (n * m)
  | 0 => by
    rw [Nat.zero_mul]
    rfl
  | n + 1 => by
    rw [ln_s, ← sm_ln g n]
    rfl
theorem LN_sum {g : Nat → Nat} (hn : 0 < n) (e : Nat) : LN n m g e + smN (fun j => LN n m g (e + 1 + j)) (n - 1) = EE g (n * m) := by
  have h1 := sm_round (F := LN n m g) (n := n) (fun u => by unfold LN; rw [Nat.add_mod_right]) e
  have h2 : smN (LN n m g) n = EE g (n * m) := by
    rw [← sm_ln]
    exact sm_cg n (fun j hj => LN_lt hj)
  have h4 := sm_1 (fun j => LN n m g (e + j)) (n - 1)
  rw [show n - 1 + 1 = n by omega] at h4
  have h5 : smN (fun j => LN n m g (e + (j + 1))) (n - 1) = smN (fun j => LN n m g (e + 1 + j)) (n - 1) := sm_cg _ (fun j _ => by
    rw [show e + (j + 1) = e + 1 + j by omega])
  have h3 : smN (fun j => LN n m g (e + j)) n = LN n m g e + smN (fun j => LN n m g (e + 1 + j)) (n - 1) := by
    rw [h4, h5]
    rfl
  rw [← h3, h1, h2]
end LY
