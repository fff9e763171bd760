/-! what a laid out table answers; by hand -/
/-- a filter of the class: at p, 2^q slots, g k times fingerprint k -/
def FilAt (hs : amH) (p q : Nat) (g : Nat → Nat) : Prop := ∃ T, TabAt hs p q T ∧ Lay (2 ^ q) (2 ^ (12 - q)) g (ovN (2 ^ q) (2 ^ (12 - q)) g + 2 ^ q) T ∧ EE g 4096 * 8 ≤ 7 * 2 ^ q ∧ ∀ k, 4096 ≤ k → g k = 0
theorem FilAt.fr {hs hs' : amH} {p q lo hi : Nat} {g : Nat → Nat} (h : FilAt hs p q g) (f : Fr hs hs' lo hi) (hd : p + 6 ≤ lo ∨ hi ≤ p) : FilAt hs' p q g := by
  obtain ⟨T, h1, h2⟩ := h
  exact ⟨T, h1.fr f hd, h2⟩
theorem sm_add (f : Nat → Nat) (x : Nat) : ∀ y, smN f (x + y) = smN f x + smN (fun j => f (x + j)) y
  | 0 => rfl
  | y + 1 => by
    have h := sm_add f x y
    show smN f (x + y) + f (x + y) = smN f x + (smN (fun j => f (x + j)) y + f (x + y))
    omega
theorem sm_cg {f g : Nat → Nat} : ∀ n, (∀ j, j < n → f j = g j) → smN f n = smN g n
  | 0, _ => rfl
  | n + 1, h => by
    show smN f n + f n = smN g n + g n
    rw [sm_cg n (fun j hj => h j (by omega)), h n (by omega)]
theorem sm_0 {f : Nat → Nat} (n : Nat) (h : ∀ j, j < n → f j = 0) : smN f n = 0 := by
  have h1 := sm_cg (g := fun _ => 0) n h
  rw [h1]
  clear h h1
  induction n with
  | zero => rfl
  | succ n ih => exact ih
theorem sm_1 (f : Nat → Nat) (n : Nat) : smN f (n + 1) = f 0 + smN (fun j => f (j + 1)) n := by
  have h := sm_add f 1 n
  rw [Nat.add_comm 1 n] at h
  rw [h, show smN f 1 = 0 + f 0 from rfl, Nat.zero_add]
  exact congrArg (fun q => f 0 + smN q n) (by funext j; rw [Nat.add_comm])
/-- a sum once round, from wherever -/
theorem sm_round {F : Nat → Nat} {n : Nat} (hF : ∀ u, F (u + n) = F u) : ∀ a, smN (fun j => F (a + j)) n = smN F n
  | 0 => sm_cg n (fun j _ => by rw [Nat.zero_add])
  | a + 1 => by
    have h := sm_round hF a
    have h1 := sm_1 (fun j => F (a + j)) n
    have h2 : smN (fun j => F (a + j)) (n + 1) = smN (fun j => F (a + j)) n + F (a + n) := rfl
    rw [hF] at h2
    have h3 : smN (fun j => F (a + (j + 1))) n = smN (fun j => F (a + 1 + j)) n := sm_cg n (fun j _ => by rw [show a + (j + 1) = a + 1 + j by omega])
    rw [h3] at h1
    dsimp only [Nat.add_zero] at h1
    omega
/-- what the counters of a fingerprint's entries weigh -/
def wtN (w : Nat → Nat) (c : Nat) : Nat := smN (fun i => w (min (c - 7 * i) 7)) (enN c)
theorem wt_id : ∀ (d c : Nat), enN c = d → smN (fun i => min (c - 7 * i) 7) (enN c) = c
  | 0, c, h => by
    rw [h]
    unfold enN at h
    show 0 = c
    omega
  | d + 1, c, h => by
    have h1 : enN (c - 7) = d := by
      unfold enN at h ⊢
      omega
    have h2 := wt_id d (c - 7) h1
    rw [h, sm_1]
    rw [h1] at h2
    have h3 : smN (fun j => min (c - 7 * (j + 1)) 7) d = smN (fun i => min (c - 7 - 7 * i) 7) d := sm_cg d (fun j _ => by rw [show c - 7 * (j + 1) = c - 7 - 7 * j by omega])
    rw [h3, h2]
    unfold enN at h
    omega
theorem wt_nz (c : Nat) : wtN (fun v => if v = 0 then 0 else 1) c = enN c := by
  have h : ∀ d, d ≤ enN c → smN (fun i => if min (c - 7 * i) 7 = 0 then 0 else 1) d = d := by
    intro d
    induction d with
    | zero => exact fun _ => rfl
    | succ d ih =>
      intro hd
      have h1 : ¬ min (c - 7 * d) 7 = 0 := by
        unfold enN at hd
        omega
      show smN _ d + (if min (c - 7 * d) 7 = 0 then 0 else 1) = d + 1
      rw [ih (by omega), if_neg h1]
  exact h _ (Nat.le_refl _)
section AN
variable {n m : Nat} {g : Nat → Nat} {T : amTab}
theorem lay_gap (hn : 0 < n) (hm : 0 < m) (hN : EE g (n * m) < n) (h : Lay n m g (ovN n m g + n) T) {k u : Nat} (hk : k < n * m) (h1 : psN n m g k + enN (g k) ≤ u) (h2 : u < psN n m g (k + 1)) : T.2.1 (u % n) = 0 := by
  refine (h.2.1 (u % n) (Nat.mod_lt u hn) (fun k' i ⟨q1, q2, q3⟩ e => ?_)).1
  have a1 := ps_lo hn hN k'
  have a2 := ps_lo hn hN k
  have a3 := ps_le hn hm hN (show k + 1 ≤ n * m from hk) (Nat.le_refl _)
  rw [ps_n hn hm] at a3
  have e2 : psN n m g k' + i = u := by
    rcases Nat.lt_trichotomy (psN n m g k' + i) u with q | q | q
    · exact absurd e (lt_mod_ne q (by omega))
    · exact q
    · exact absurd e.symm (lt_mod_ne q (by omega))
  rcases Nat.lt_trichotomy k' k with q | q | q
  · have := ps_lt hn hm hN q (by omega)
    omega
  · rw [q] at e2 q2
    omega
  · have := ps_le hn hm hN (show k + 1 ≤ k' from q) (by omega)
    omega
theorem lay_sum (hn : 0 < n) (hm : 0 < m) (hN : EE g (n * m) < n) (h : Lay n m g (ovN n m g + n) T) (w : Nat → Nat) (hw : w 0 = 0) : smN (fun s => w (T.2.1 s)) n = smN (fun k => wtN w (g k)) (n * m) := by
  have hq : ∀ k, k ≤ n * m → smN (fun j => w (T.2.1 ((ovN n m g + j) % n))) (psN n m g k - ovN n m g) = smN (fun k => wtN w (g k)) k := by
    intro k
    induction k with
    | zero =>
      intro _
      have e : psN n m g 0 = ovN n m g := by
        unfold psN
        rw [Nat.zero_div, Nat.zero_mul, PN_lt hn]
        rfl
      rw [e, Nat.sub_self]
      rfl
    | succ k ih =>
      intro hk
      have h1 := ih (by omega)
      have h2 := ps_lt hn hm hN (show k < k + 1 by omega) hk
      have h3 := ps_lo hn hN (m := m) (g := g) k
      have e : psN n m g (k + 1) - ovN n m g = (psN n m g k - ovN n m g) + enN (g k) + (psN n m g (k + 1) - (psN n m g k + enN (g k))) := by omega
      rw [e, sm_add, sm_add, h1]
      have e1 : smN (fun j => w (T.2.1 ((ovN n m g + (psN n m g k - ovN n m g + j)) % n))) (enN (g k)) = wtN w (g k) := by
        refine sm_cg _ (fun j hj => ?_)
        have h4 := (h.1 k j ⟨by omega, hj, by have := ps_hi hn hm hN (show k < n * m by omega); omega⟩).2.1
        rw [show ovN n m g + (psN n m g k - ovN n m g + j) = psN n m g k + j by omega, h4]
      have e2 : smN (fun j => w (T.2.1 ((ovN n m g + (psN n m g k - ovN n m g + enN (g k) + j)) % n))) (psN n m g (k + 1) - (psN n m g k + enN (g k))) = 0 := by
        refine sm_0 _ (fun j hj => ?_)
        rw [lay_gap hn hm hN h (k := k) (u := ovN n m g + (psN n m g k - ovN n m g + enN (g k) + j)) (by omega) (by omega) (by omega)]
        exact hw
      rw [e1, e2]
      rfl
  have h1 := hq (n * m) (Nat.le_refl _)
  rw [ps_n hn hm, show ovN n m g + n - ovN n m g = n by omega, sm_round (F := fun u => w (T.2.1 (u % n))) (fun u => by rw [Nat.add_mod_right])] at h1
  rw [← h1]
  exact sm_cg n (fun j hj => by rw [Nat.mod_eq_of_lt hj])
theorem nz_sm (f : Nat → Nat) : ∀ n, nzN f n = smN (fun j => if f j = 0 then 0 else 1) n
  | 0 => rfl
  | n + 1 => by
    show nzN f n + _ = smN _ n + _
    rw [nz_sm f n]
theorem ans_used (hn : 0 < n) (hm : 0 < m) (hN : EE g (n * m) < n) (h : Lay n m g (ovN n m g + n) T) : nzN T.2.1 n = EE g (n * m) := by
  rw [nz_sm, lay_sum hn hm hN h (fun v => if v = 0 then 0 else 1) rfl]
  exact sm_cg _ (fun k _ => wt_nz (g k))
theorem ans_total (hn : 0 < n) (hm : 0 < m) (hN : EE g (n * m) < n) (h : Lay n m g (ovN n m g + n) T) : smN T.2.1 n = smN g (n * m) := by
  have h1 := lay_sum hn hm hN h (fun v => v) rfl
  rw [show smN T.2.1 n = smN (fun s => T.2.1 s) n from rfl, h1]
  exact sm_cg _ (fun k _ => wt_id _ _ rfl)
theorem PN_2 (t : Nat) : PN n m g (t + n + n) % n = PN n m g t % n ∧ LN n m g (t + n + n) = LN n m g t := by
  refine ⟨?_, ?_⟩
  · rw [PN_md, PN_md (x := t)]
    rw [Nat.add_mul_mod_self_right, Nat.add_mul_mod_self_right, Nat.add_mod_right, Nat.add_mod_right]
  · rw [LN_md, LN_md (x := t), Nat.add_mod_right, Nat.add_mod_right]
theorem ans_fr (hn : 0 < n) (h : TabL n (PN n m g) (LN n m g) T) {t : Nat} (ht : t < n) (hL : 0 < LN n m g t) : frN T n t = PN n m g t % n := by
  obtain ⟨e1, e2⟩ := PN_2 (n := n) (m := m) (g := g) t
  have h1 := tl_fr h (t := t + n + n) (by omega) (by omega)
  rw [e1, Nat.add_mod_right, Nat.add_mod_right, Nat.mod_eq_of_lt ht] at h1
  exact h1
theorem ans_lr (hn : 0 < n) (h : TabL n (PN n m g) (LN n m g) T) {t : Nat} (hL : 0 < LN n m g t) : lrN T.2.2.2.1 n (PN n m g t % n) = LN n m g t := by
  obtain ⟨e1, e2⟩ := PN_2 (n := n) (m := m) (g := g) t
  have h1 := tl_lr h (x := t + n + n) (by omega) (by omega)
  rw [e1, e2] at h1
  exact h1
end AN
