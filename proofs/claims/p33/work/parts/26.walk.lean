/-! a table that is laid out as the line tells: what the walks over its flags find; by hand -/
def TabL (n : Nat) (P L : Nat → Nat) (T : amTab) : Prop := LinP n P L ∧ (∀ x i, i < L x → ¬ T.2.1 ((P x + i) % n) = 0 ∧ T.2.2.2.1 ((P x + i) % n) = decide (0 < i) ∧ T.2.2.2.2 ((P x + i) % n) = decide (x < P x + i)) ∧ (∀ x, P x = x → L x = 0 → T.2.1 (x % n) = 0 ∧ T.2.2.2.1 (x % n) = false ∧ T.2.2.2.2 (x % n) = false) ∧ ∀ x, T.2.2.1 (x % n) = decide (0 < L x)
section WK
variable {n : Nat} {P L : Nat → Nat} {T : amTab}
theorem tl_sh (h : TabL n P L T) {u : Nat} (hu : n ≤ u) : T.2.2.2.2 (u % n) = decide (u < P u) := by
  rcases lp_cases h.1 hu with ⟨x, i, h1, h2, h3⟩ | ⟨h1, h2⟩
  · rw [h2, (h.2.1 x i h1).2.2]
    exact decide_eq_decide.mpr (lp_shift h.1 h1)
  · rw [(h.2.2.1 u h1 h2).2.2]
    exact (decide_eq_false (by omega)).symm
theorem tl_em (h : TabL n P L T) {u : Nat} (hu : n ≤ u) : T.2.1 (u % n) = 0 ↔ P u = u ∧ L u = 0 := by
  rcases lp_cases h.1 hu with ⟨x, i, h1, h2, h3⟩ | ⟨h1, h2⟩
  · rw [h2]
    exact ⟨fun q => absurd q (h.2.1 x i h1).1, fun q => absurd q (lp_filled h.1 h1)⟩
  · exact ⟨fun _ => ⟨h1, h2⟩, fun _ => (h.2.2.1 u h1 h2).1⟩
theorem tl_co (h : TabL n P L T) {u : Nat} (hu : n ≤ u) (q : T.2.2.2.1 (u % n) = true) : ∃ x i, 0 < i ∧ i < L x ∧ u = P x + i := by
  rcases lp_cases h.1 hu with ⟨x, i, h1, h2, h3⟩ | ⟨h1, h2⟩
  · rw [h2, (h.2.1 x i h1).2.1] at q
    exact ⟨x, i, of_decide_eq_true q, h1, h2⟩
  · rw [(h.2.2.1 u h1 h2).2.1] at q
    exact Bool.noConfusion q
theorem tl_oc (h : TabL n P L T) (x : Nat) : T.2.2.1 (x % n) = true ↔ 0 < L x := by
  rw [h.2.2.2 x]
  exact decide_eq_true_iff
theorem tl_ocf (h : TabL n P L T) (x : Nat) : T.2.2.1 (x % n) = false ↔ L x = 0 := by
  rw [h.2.2.2 x, decide_eq_false_iff_not]
  omega
theorem md_back (hn : 0 < n) (u : Nat) : ((u + 1) % n + (n - 1)) % n = u % n := by
  rw [Nat.mod_add_mod, show u + 1 + (n - 1) = u + n by omega, Nat.add_mod_right]
theorem w_fc {sh : Nat → Bool} (hn : 0 < n) {c : Nat} (hc : sh (c % n) = false) : ∀ (j d : Nat), j ≤ d → (∀ y, c < y → y ≤ c + j → sh (y % n) = true) → fcF sh n d ((c + j) % n) = c % n
  | 0, 0, _, _ => rfl
  | 0, d + 1, _, _ => by
    unfold fcF
    rw [Nat.add_zero, hc]
    exact if_neg (by decide)
  | j + 1, 0, h, _ => by omega
  | j + 1, d + 1, h, h1 => by
    unfold fcF
    rw [if_pos (h1 (c + (j + 1)) (by omega) (Nat.le_refl _)), show c + (j + 1) = c + j + 1 by omega, md_back hn]
    exact w_fc hn hc j d (by omega) (fun y y1 y2 => h1 y y1 (by omega))
theorem w_oa {oc : Nat → Bool} (hn : 0 < n) {r y : Nat} (h1 : r < y) (h2 : y ≤ r + n) (ho : oc (y % n) = true) (hf : ∀ z, r < z → z < y → oc (z % n) = false) : oaN oc n (r % n) = y % n := by
  have hq : ∀ d t, t + d = n → 1 ≤ t → r + t ≤ y → oaF oc n (r % n) d t = y % n := by
    intro d
    induction d with
    | zero =>
      intro t ht h3 h4
      have e : y = r + n := by omega
      rw [e, Nat.add_mod_right]
      rfl
    | succ d ih =>
      intro t ht h3 h4
      unfold oaF
      rw [Nat.mod_add_mod]
      by_cases e : r + t = y
      · rw [e, if_pos ho]
      · rw [hf (r + t) (by omega) (by omega), if_neg (by decide)]
        exact ih (t + 1) (by omega) (by omega) (by omega)
  exact hq (n - 1) 1 (by omega) (Nat.le_refl _) (by omega)
theorem w_lr {cn : Nat → Bool} {f l : Nat} (hl : 0 < l) (hl2 : l < n) (hc : ∀ j, 0 < j → j < l → cn ((f + j) % n) = true) (hf : cn ((f + l) % n) = false) : lrN cn n (f % n) = l := by
  have hq : ∀ d k, k + d = n → 1 ≤ k → k ≤ l → lrF cn n (f % n) d k = l := by
    intro d
    induction d with
    | zero => intro k hk h1 h2; omega
    | succ d ih =>
      intro k hk h1 h2
      unfold lrF
      rw [Nat.mod_add_mod]
      by_cases e : k = l
      · rw [e, hf]
        exact if_neg (by decide)
      · rw [hc k (by omega) (by omega), if_pos rfl]
        exact ih (k + 1) (by omega) (by omega) (by omega)
  exact hq (n - 1) 1 (by omega) (Nat.le_refl _) hl
theorem tl_lr (h : TabL n P L T) {x : Nat} (hx : n ≤ x) (hL : 0 < L x) : lrN T.2.2.2.1 n (P x % n) = L x := by
  have hd := lp_disp h.1 hL
  have hp := h.1.2.2.2.2.1 x
  refine w_lr hL (by omega) (fun j h1 h2 => ?_) ?_
  · rw [(h.2.1 x j h2).2.1]
    exact decide_eq_true h1
  · refine Bool.eq_false_iff.mpr (fun q => ?_)
    obtain ⟨y, i, h1, h2, h3⟩ := tl_co h (by omega) q
    have h4 := lp_uniq h.1 (x := x) (y := y) (i := L x - 1) (j := i - 1) (by omega) (by omega) (by omega)
    obtain ⟨rfl, h5⟩ := h4
    omega
theorem tl_oa (h : TabL n P L T) {r y : Nat} (h1 : r < y) (h2 : y ≤ r + n) (ho : 0 < L y) (hf : ∀ z, r < z → z < y → L z = 0) : oaN T.2.2.1 n (r % n) = y % n :=
  w_oa h.1.1 h1 h2 ((tl_oc h y).mpr ho) (fun z z1 z2 => (tl_ocf h z).mpr (hf z z1 z2))
/-- a cluster's start, as the class finds it -/
theorem tl_fc (h : TabL n P L T) {u : Nat} (hu : n + n ≤ u) : ∃ c, n ≤ c ∧ c ≤ u ∧ u < c + n ∧ P c = c ∧ (∀ y, c < y → y ≤ u → y < P y) ∧ fcN T.2.2.2.2 n (u % n) = c % n := by
  obtain ⟨c, c1, c2, c3, c4⟩ := lp_cst h.1 (show n ≤ u by omega)
  refine ⟨c, by omega, c1, c2, c3, c4, ?_⟩
  have hq := w_fc (sh := T.2.2.2.2) h.1.1 (c := c) (by rw [tl_sh h (by omega)]; exact decide_eq_false (by omega)) (u - c) n (by omega) (fun y y1 y2 => by
    rw [tl_sh h (by omega)]
    exact decide_eq_true (c4 y y1 (by omega)))
  rw [show c + (u - c) = u by omega] at hq
  exact hq
theorem lt_mod_ne {r t : Nat} (h1 : r < t) (h2 : t < r + n) : ¬ r % n = t % n := by
  intro q
  have d1 := Nat.div_add_mod r n
  have d2 := Nat.div_add_mod t n
  rw [q] at d1
  have h3 : n * (r / n) < n * (t / n) := by omega
  have h4 : r / n < t / n := Nat.lt_of_mul_lt_mul_left h3
  have h5 : n * (r / n + 1) ≤ n * (t / n) := Nat.mul_le_mul_left n h4
  rw [Nat.mul_add] at h5
  omega
theorem lp_cfull (h : LinP n P L) {c u : Nat} (h1 : c < u) (hc : P c = c) (hy : ∀ y, c < y → y ≤ u → y < P y) : 0 < L c := by
  have h2 := hy (c + 1) (by omega) (by omega)
  have h3 := lp_next h h2
  omega
/-- the first place of a run, as the class finds it -/
theorem tl_fr (h : TabL n P L T) {t : Nat} (ht : n + n ≤ t) (hL : 0 < L t) : frN T n (t % n) = P t % n := by
  obtain ⟨c, c1, c2, c3, c4, c5, c6⟩ := tl_fc h ht
  have hq : ∀ d r, c ≤ r → r ≤ t → t - r ≤ d → 0 < L r → frF T n (t % n) d (P r % n) (r % n) = P t % n := by
    intro d
    induction d with
    | zero =>
      intro r h1 h2 h3 h4
      have e : r = t := by omega
      rw [e]
      rfl
    | succ d ih =>
      intro r h1 h2 h3 h4
      unfold frF
      by_cases e : r = t
      · rw [e, if_pos rfl]
      · rw [if_neg (lt_mod_ne (by omega) (by omega)), tl_lr h (by omega) h4, Nat.mod_add_mod]
        obtain ⟨y, y1, y2, y3, y4⟩ := lp_occN (L := L) (show r < t by omega) hL
        rw [tl_oa h y1 (by omega) y3 y4, ← lp_cont h.1 y1 y4 (fun z z1 z2 => c5 z (by omega) (by omega))]
        exact ih y (by omega) y2 (by omega) y3
  have hc0 : 0 < L c := by
    by_cases e : c = t
    · rw [e]; exact hL
    · exact lp_cfull h.1 (show c < t by omega) c4 c5
  unfold frN
  rw [c6]
  have := hq n c (Nat.le_refl _) c2 (by omega) hc0
  rw [c4] at this
  exact this
/-- the quotient of an entry, as the class finds it -/
theorem tl_qe (h : TabL n P L T) {x i : Nat} (hi : i < L x) (hz : n + n ≤ P x + i) : qeN T n ((P x + i) % n) = x % n := by
  obtain ⟨c, c1, c2, c3, c4, c5, c6⟩ := tl_fc h hz
  have hq : ∀ d a u j, c ≤ a → a ≤ P x + i → P x + i - a ≤ d → j < L u → a = P u + j → qeF T n ((P x + i) % n) d (a % n) (u % n) = x % n := by
    intro d
    induction d with
    | zero =>
      intro a u j h1 h2 h3 h4 h5
      have e := lp_uniq h.1 (x := u) (y := x) h4 hi (by omega)
      rw [e.1]
      rfl
    | succ d ih =>
      intro a u j h1 h2 h3 h4 h5
      unfold qeF
      by_cases e : a = P x + i
      · rw [e, if_pos rfl, (lp_uniq h.1 (x := u) (y := x) h4 hi (by omega)).1]
      · rw [if_neg (lt_mod_ne (by omega) (by omega)), Nat.mod_add_mod]
        have h6 := c5 (a + 1) (by omega) (by omega)
        rcases lp_cases h.1 (show n ≤ a + 1 by omega) with ⟨u', j', q1, q2, q3⟩ | ⟨q1, q2⟩
        · by_cases hj : j' = 0
          · have hcf : T.2.2.2.1 ((a + 1) % n) = false := by
              rw [q2, (h.2.1 u' j' q1).2.1]
              exact decide_eq_false (by omega)
            have huu : u < u' := by
              refine Nat.lt_of_not_le (fun q => ?_)
              have := lp_mono h.1 q
              omega
            have hbt : ∀ z, u < z → z < u' → L z = 0 := by
              intro z z1 z2
              have b1 := lp_run h.1 z1
              have b2 := lp_run h.1 z2
              omega
            have hun : u' ≤ u + n := by
              refine Nat.le_of_not_lt (fun q => ?_)
              have := hbt (u + n) (by have := h.1.1; omega) q
              rw [h.1.2.2.2.1] at this
              omega
            rw [hcf, if_neg (by decide), tl_oa h huu hun (by omega) hbt]
            exact ih (a + 1) u' j' (by omega) (by omega) (by omega) q1 q2
          · have hcf : T.2.2.2.1 ((a + 1) % n) = true := by
              rw [q2, (h.2.1 u' j' q1).2.1]
              exact decide_eq_true (by omega)
            have e2 := lp_uniq h.1 (x := u) (y := u') (i := j) (j := j' - 1) h4 (by omega) (by omega)
            rw [hcf, if_pos rfl]
            refine ih (a + 1) u (j + 1) (by omega) (by omega) (by omega) ?_ (by omega)
            rw [e2.1]
            omega
        · omega
  have hfull : 0 < L c := by
    by_cases e : c = P x + i
    · have h1 := lp_head h.1 hi e c4
      rw [← h1.1]
      omega
    · exact lp_cfull h.1 (show c < P x + i by omega) c4 c5
  unfold qeN
  rw [c6]
  exact hq n c c 0 (Nat.le_refl _) c2 (by omega) hfull (by omega)
end WK
