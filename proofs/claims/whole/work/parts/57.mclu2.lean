/-! the longest cluster: what both find; the model's longestCluster; rows laid by wip/whole/walk.py -/
/-- c is a cluster's start, and j more places of it lie behind -/
def ClG (P L : Nat → Nat) (c j : Nat) : Prop := P c = c ∧ 0 < L c ∧ ∀ y, c < y → y ≤ c + j → y < P y
def ClM (n : Nat) (P L : Nat → Nat) (V : Nat) : Prop := (∀ c j, n ≤ c → ClG P L c j → j + 1 ≤ V) ∧ (V = 0 ∨ ∃ c j, n ≤ c ∧ ClG P L c j ∧ V = j + 1)
section CL
variable {n : Nat} {P L : Nat → Nat} {T : amTab}
theorem clm_uniq {V W : Nat} (h : ClM n P L V) (k : ClM n P L W) : V = W := by
  obtain ⟨h1, h2⟩ := h
  obtain ⟨k1, k2⟩ := k
  rcases h2 with e | ⟨c, j, a1, a2, a3⟩
  · rcases k2 with e2 | ⟨c, j, a1, a2, a3⟩
    · omega
    · have := h1 c j a1 a2
      omega
  · rcases k2 with e2 | ⟨c2, j2, b1, b2, b3⟩
    · have := k1 c j a1 a2
      omega
    · have := k1 c j a1 a2
      have := h1 c2 j2 b1 b2
      omega
theorem clg_per (h : LinP n P L) (c a j : Nat) : ClG P L (c + a * n) j ↔ ClG P L c j := by
  obtain ⟨p1, p2⟩ := lp_per h c a
  constructor
  · intro ⟨h1, h2, h3⟩
    refine ⟨by omega, by omega, fun y y1 y2 => ?_⟩
    obtain ⟨q1, q2⟩ := lp_per h y a
    have := h3 (y + a * n) (by omega) (by omega)
    omega
  · intro ⟨h1, h2, h3⟩
    refine ⟨by omega, by omega, fun y y1 y2 => ?_⟩
    obtain ⟨q1, q2⟩ := lp_per h (y - a * n) a
    rw [show y - a * n + a * n = y by omega] at q1
    have := h3 (y - a * n) (by omega) (by omega)
    omega
theorem clg_start {c j c2 j2 : Nat} (h : ClG P L c j) (h2 : ClG P L c2 j2) (e : c + j = c2 + j2) : j = j2 := by
  rcases Nat.lt_trichotomy c c2 with q | q | q
  · have := h.2.2 c2 q (by omega)
    have := h2.1
    omega
  · omega
  · have := h2.2.2 c q (by omega)
    have := h.1
    omega
theorem clg_lt (h : LinP n P L) {c j : Nat} (hg : ClG P L c j) : j < n := by
  obtain ⟨e, e1, e2, e3, e4⟩ := lp_emp h c
  refine Nat.lt_of_not_le (fun w => ?_)
  by_cases e0 : e = c
  · have := hg.2.1
    rw [e0] at e4
    omega
  · have := hg.2.2 e (by omega) (by omega)
    omega
theorem clg_max (h : LinP n P L) {c : Nat} (h0 : P c = c) (h1 : 0 < L c) : ∃ J, ClG P L c J ∧ ¬ c + J + 1 < P (c + J + 1) := by
  refine Classical.byContradiction (fun w => ?_)
  have all : ∀ j, ClG P L c j := by
    intro j
    induction j with
    | zero => exact ⟨h0, h1, fun y a b => by omega⟩
    | succ j ih =>
      refine ⟨h0, h1, fun y a b => ?_⟩
      by_cases e : y ≤ c + j
      · exact ih.2.2 y a e
      · have e2 : c + j + 1 < P (c + j + 1) := Classical.byContradiction (fun w2 => w ⟨j, ih, w2⟩)
        rw [show y = c + j + 1 by omega]
        exact e2
  have := clg_lt h (all n)
  omega
theorem ll_inv (h : TabL n P L T) {z : Nat} (hP : P (z + n) = z + n) : ∀ (d t m g : Nat), t + d = n → (∀ c j, z + n ≤ c → ClG P L c j → c + j < z + n + t → j + 1 ≤ m) → (m = 0 ∨ ∃ c j, n ≤ c ∧ ClG P L c j ∧ m = j + 1) → (∀ u, u + 1 = z + n + t → z + n ≤ u → ¬ (P u = u ∧ L u = 0) → ∃ c j, z + n ≤ c ∧ ClG P L c j ∧ c + j = u ∧ g = j + 1) → (∀ c j, z + n ≤ c → ClG P L c j → c + j < z + n + n → j + 1 ≤ llF T n z d t m g) ∧ (llF T n z d t m g = 0 ∨ ∃ c j, n ≤ c ∧ ClG P L c j ∧ llF T n z d t m g = j + 1) := by
  intro d
  induction d with
  | zero =>
    intro t m g ht h1 h2 h3
    have e : t = n := by omega
    subst e
    exact ⟨h1, h2⟩
  | succ d ih =>
    intro t m g ht h1 h2 h3
    have em := tl_em h (u := z + t + n) (by omega)
    have sh := tl_sh h (u := z + t + n) (by omega)
    rw [Nat.add_mod_right] at em sh
    rw [show z + t + n = z + n + t by omega] at em sh
    unfold llF
    by_cases c0 : T.2.1 ((z + t) % n) = 0
    · rw [if_pos c0]
      obtain ⟨e1, e2⟩ := em.mp c0
      refine ih (t + 1) m g (by omega) (fun c j a1 a2 a3 => ?_) h2 (fun u u1 u2 u3 => ?_)
      · by_cases w : c + j < z + n + t
        · exact h1 c j a1 a2 w
        · exfalso
          by_cases w2 : j = 0
          · have := a2.2.1
            rw [show c = z + n + t by omega] at this
            omega
          · have := a2.2.2 (z + n + t) (by omega) (by omega)
            omega
      · rw [show u = z + n + t by omega] at u3
        exact absurd ⟨e1, e2⟩ u3
    · rw [if_neg c0]
      have ne : ¬ (P (z + n + t) = z + n + t ∧ L (z + n + t) = 0) := fun w => c0 (em.mpr w)
      have lp := h.1.2.2.2.2.1 (z + n + t)
      by_cases c1 : T.2.2.2.2 ((z + t) % n) = true
      · rw [if_pos c1]
        rw [c1] at sh
        have mv : z + n + t < P (z + n + t) := of_decide_eq_true sh.symm
        have t0 : 0 < t := by
          refine Nat.pos_of_ne_zero (fun w => ?_)
          rw [w, Nat.add_zero] at mv
          omega
        obtain ⟨u, hu⟩ : ∃ u, u + 1 = z + n + t := ⟨z + n + t - 1, by omega⟩
        have hp := lp_next h.1 (x := u) (by rw [hu]; exact mv)
        rw [hu] at hp
        obtain ⟨c, j, a1, a2, a3, a4⟩ := h3 u hu (by omega) (by omega)
        have ga : ClG P L c (j + 1) := ⟨a2.1, a2.2.1, fun y y1 y2 => by
          by_cases w : y ≤ c + j
          · exact a2.2.2 y y1 w
          · rw [show y = z + n + t by omega]
            exact mv⟩
        refine ih (t + 1) (max m (g + 1)) (g + 1) (by omega) (fun c' j' b1 b2 b3 => ?_) (Or.inr ?_) (fun v v1 v2 v3 => ⟨c, j + 1, a1, ga, by omega, by omega⟩)
        · by_cases w : c' + j' < z + n + t
          · have := h1 c' j' b1 b2 w
            omega
          · have := clg_start b2 ga (by omega)
            omega
        · rcases h2 with w | ⟨c', j', b1, b2, b3⟩
          · exact ⟨c, j + 1, by omega, ga, by omega⟩
          · by_cases w : m ≤ g + 1
            · exact ⟨c, j + 1, by omega, ga, by omega⟩
            · exact ⟨c', j', b1, b2, by omega⟩
      · rw [if_neg c1]
        have sh2 : ¬ z + n + t < P (z + n + t) := fun w => c1 (sh.trans (decide_eq_true w))
        have ga : ClG P L (z + n + t) 0 := ⟨by omega, by omega, fun y y1 y2 => by omega⟩
        refine ih (t + 1) (max m 1) 1 (by omega) (fun c' j' b1 b2 b3 => ?_) (Or.inr ?_) (fun v v1 v2 v3 => ⟨z + n + t, 0, by omega, ga, by omega, rfl⟩)
        · by_cases w : c' + j' < z + n + t
          · have := h1 c' j' b1 b2 w
            omega
          · have := clg_start b2 ga (by omega)
            omega
        · rcases h2 with w | ⟨c', j', b1, b2, b3⟩
          · exact ⟨z + n + t, 0, by omega, ga, by omega⟩
          · exact ⟨c', j', b1, b2, by omega⟩
theorem ll_clm (h : TabL n P L T) : ClM n P L (llN T n) := by
  obtain ⟨z1, z2, z3⟩ := tl_fz h
  generalize hz : fzF T.2.1 (n - 1) 0 = z at *
  have e0 : llN T n = llF T n z n 0 0 0 := by
    unfold llN
    rw [hz]
  rw [e0]
  obtain ⟨r1, r2⟩ := ll_inv h z2 n 0 0 0 (by omega) (fun c j a1 a2 a3 => by omega) (Or.inl rfl) (fun u u1 u2 _ => by omega)
  refine ⟨fun c j hc hg => ?_, r2⟩
  have hn := h.1.1
  have hzz : z + n ≤ (z + n) * n := Nat.le_mul_of_pos_right _ hn
  have dm := am_md (c + (z + n) * n - (z + n)) n
  have ml := Nat.mod_lt (c + (z + n) * n - (z + n)) hn
  have g1 := (clg_per h.1 c (z + n) j).mpr hg
  rw [show c + (z + n) * n = z + n + (c + (z + n) * n - (z + n)) % n + (c + (z + n) * n - (z + n)) / n * n by omega] at g1
  have g2 := (clg_per h.1 _ _ j).mp g1
  refine r1 _ j (Nat.le_add_right _ _) g2 ?_
  refine Nat.lt_of_not_le (fun w => ?_)
  have g3 := g2.2.2 (z + n + n) (by omega) (by omega)
  have := h.1.2.2.1 (z + n)
  omega
end CL
section MQ
variable {hs : amH} {q : Nat → Nat} {g : Nat → Nat → Nat} {l f s k i : Nat} {A B C D E : Nat → Nat} {p0 : Int32}
theorem ml_en (h : MSx hs q g l A B C D E) (hi : MI q g) (hf : f < 4) (L : LayM (2 ^ q f) (2 ^ (12 - q f)) (g f) (ovN (2 ^ q f) (2 ^ (12 - q f)) (g f) + 2 ^ q f) A B) {u : Nat} (hu : 2 ^ q f ≤ u) : Cr 90 [.ref 39, .int (nI (u % 2 ^ q f))] hs (some (.int (nI (decide (¬ (PN (2 ^ q f) (2 ^ (12 - q f)) (g f) u = u ∧ LN (2 ^ q f) (2 ^ (12 - q f)) (g f) u = 0))).toNat))) hs := by
  obtain ⟨hn, hm, hnm, hN, p2, o8⟩ := hi.fa hf
  have hlay := fi_lay (q := q f) (g := g f) (hi f hf).1 o8 (by rw [hnm] at hN; exact hN) (fun _ => 0, fun _ => 0, fun _ => false, fun _ => false, fun _ => false)
  have hT := lay_tab hn hm hN hlay
  have hem := tl_em hT hu
  have hsl : u % 2 ^ q f < 2 ^ q f := Nat.mod_lt _ hn
  by_cases hex : ∃ k i, SlotE (2 ^ q f) (2 ^ (12 - q f)) (g f) (u % 2 ^ q f) k i
  · obtain ⟨k, i, he⟩ := hex
    obtain ⟨ha, hb⟩ := lm_ent hn hm hN L he
    have hk : k < 4096 := by have := he.1; omega
    have h3 := (slot_ent hn hm hN hlay he).2.2.1
    have k90 := c90 h (show u % 2 ^ q f < 256 by omega) (by omega)
    rw [decide_eq_true (show 0 < A (u % 2 ^ q f) by omega)] at k90
    have h4 : ¬ (PN (2 ^ q f) (2 ^ (12 - q f)) (g f) u = u ∧ LN (2 ^ q f) (2 ^ (12 - q f)) (g f) u = 0) := fun w => h3 (hem.mpr w)
    rw [decide_eq_true h4]
    exact k90
  · have hno : ∀ k i, ¬ SlotE (2 ^ q f) (2 ^ (12 - q f)) (g f) (u % 2 ^ q f) k i := fun k i w => hex ⟨k, i, w⟩
    obtain ⟨ha, hb⟩ := lm_no L hsl hno
    have h3 := (slot_no hlay hsl hno).1
    have k90 := c90 h (show u % 2 ^ q f < 256 by omega) (by omega)
    rw [decide_eq_false (show ¬ 0 < A (u % 2 ^ q f) by omega)] at k90
    have h4 : ¬ ¬ (PN (2 ^ q f) (2 ^ (12 - q f)) (g f) u = u ∧ LN (2 ^ q f) (2 ^ (12 - q f)) (g f) u = 0) := fun w => w (hem.mp h3)
    rw [decide_eq_false h4]
    exact k90
theorem l124a (h : MSx hs q g l A B C D E) (hi : MI q g) (hf : f < 4) (L : LayM (2 ^ q f) (2 ^ (12 - q f)) (g f) (ovN (2 ^ q f) (2 ^ (12 - q f)) (g f) + 2 ^ q f) A B) {k v J : Nat} (hk : k < 2 ^ q f) (hJ : ClG (PN (2 ^ q f) (2 ^ (12 - q f)) (g f)) (LN (2 ^ q f) (2 ^ (12 - q f)) (g f)) (k + 2 ^ q f) J) (hJ1 : J < 2 ^ q f) (hJ2 : ¬ k + 2 ^ q f + J + 1 < PN (2 ^ q f) (2 ^ (12 - q f)) (g f) (k + 2 ^ q f + J + 1)) {o : amOut} (hfin : Ev 124 78 [some (.ref 39), some (.int (nI f)), some (.int (nI v)), some (.int (nI (2 ^ q f))), some (.int (nI k)), some (.int (nI (J + 1)))] [] hs 0 0 o) : ∀ d i, 1 ≤ i → i + d = J + 1 → Ev 124 52 [some (.ref 39), some (.int (nI f)), some (.int (nI v)), some (.int (nI (2 ^ q f))), some (.int (nI k)), some (.int (nI i))] [] hs 0 0 o := by
  obtain ⟨hn, hm, hnm, hN, p2, o8⟩ := hi.fa hf
  intro d
  induction d with
  | zero =>
    intro i h1 h2
    have e : i = J + 1 := by omega
    subst e
    have k92 := ml_mv h hi hf L (u := k + (J + 1) + 2 ^ q f) (by omega)
    rw [Nat.add_mod_right, decide_eq_false (by rw [show k + (J + 1) + 2 ^ q f = k + 2 ^ q f + J + 1 by omega]; exact hJ2)] at k92
    obtain ⟨b0, b1, -⟩ := h
    refine ev_iload f124_52 rfl ?_
    refine ev_ifN (by omega) (tgt := 78) f124_54 rfl (fun h9 => absurd h9 (by simp only [akN] at *; omega)) (fun _ => ?_)
    refine ev_aload_n f124_57 rfl ?_
    refine ev_iload_n f124_58 rfl ?_
    refine ev_iload f124_59 rfl ?_
    refine ev_iload f124_61 rfl ?_
    first | refine ev_iaddN f124_63 ?_ | refine ev_iadd f124_63 ?_
    refine ev_iload_n f124_64 rfl ?_
    refine ev_iremN (by omega) (by omega) (by omega) f124_65 ?_
    refine ev_v2 f124_66 ow92 (by assumption) rfl rfl (Nat.le_of_ble_eq_true rfl) (k92) ?_
    refine ev_ifeqB (tgt := 78) f124_69 rfl (fun _ => ?_) (fun h9 => Bool.noConfusion (h9.symm.trans (rfl)))
    exact hfin
  | succ d ih =>
    intro i h1 h2
    have hi2 := ih (i + 1) (by omega) (by omega)
    have k92 := ml_mv h hi hf L (u := k + i + 2 ^ q f) (by omega)
    rw [Nat.add_mod_right, decide_eq_true (hJ.2.2 (k + i + 2 ^ q f) (by omega) (by omega))] at k92
    obtain ⟨b0, b1, -⟩ := h
    refine ev_iload f124_52 rfl ?_
    refine ev_ifN (by omega) (tgt := 78) f124_54 rfl (fun h9 => absurd h9 (by simp only [akN] at *; omega)) (fun _ => ?_)
    refine ev_aload_n f124_57 rfl ?_
    refine ev_iload_n f124_58 rfl ?_
    refine ev_iload f124_59 rfl ?_
    refine ev_iload f124_61 rfl ?_
    first | refine ev_iaddN f124_63 ?_ | refine ev_iadd f124_63 ?_
    refine ev_iload_n f124_64 rfl ?_
    refine ev_iremN (by omega) (by omega) (by omega) f124_65 ?_
    refine ev_v2 f124_66 ow92 (by assumption) rfl rfl (Nat.le_of_ble_eq_true rfl) (k92) ?_
    refine ev_ifeqB (tgt := 78) f124_69 rfl (fun h9 => Bool.noConfusion (h9.symm.trans (rfl))) (fun _ => ?_)
    refine ev_iincN (d := 1) f124_72 rfl ?_
    refine ev_goto (tgt := 52) f124_75 rfl ?_
    exact hi2
theorem l124 (h : MSx hs q g l A B C D E) (hi : MI q g) (hf : f < 4) (L : LayM (2 ^ q f) (2 ^ (12 - q f)) (g f) (ovN (2 ^ q f) (2 ^ (12 - q f)) (g f) + 2 ^ q f) A B) {V : Nat} (hV : ClM (2 ^ q f) (PN (2 ^ q f) (2 ^ (12 - q f)) (g f)) (LN (2 ^ q f) (2 ^ (12 - q f)) (g f)) V) : ∀ (d k v : Nat) (w5 : Option Value), k + d = 2 ^ q f → v ≤ 2 ^ q f → (∀ c j, 2 ^ q f ≤ c → c < k + 2 ^ q f → ClG (PN (2 ^ q f) (2 ^ (12 - q f)) (g f)) (LN (2 ^ q f) (2 ^ (12 - q f)) (g f)) c j → j + 1 ≤ v) → (v = 0 ∨ ∃ c j, 2 ^ q f ≤ c ∧ ClG (PN (2 ^ q f) (2 ^ (12 - q f)) (g f)) (LN (2 ^ q f) (2 ^ (12 - q f)) (g f)) c j ∧ v = j + 1) → Ev 124 20 [some (.ref 39), some (.int (nI f)), some (.int (nI v)), some (.int (nI (2 ^ q f))), some (.int (nI k)), w5] [] hs 0 0 (.inl (some (.int (nI V))), hs, 0, 0) := by
  obtain ⟨hn, hm, hnm, hN, p2, o8⟩ := hi.fa hf
  have hl := lay_lin (n := 2 ^ q f) (m := 2 ^ (12 - q f)) (g := g f) hn hN
  intro d
  induction d with
  | zero =>
    intro k v w5 hk hv h1 h2
    have hk2 : k = 2 ^ q f := by omega
    have e : v = V := by
      refine clm_uniq ⟨fun c j hc hg => ?_, h2⟩ hV
      have dm := am_md c (2 ^ q f)
      have ml := Nat.mod_lt c hn
      have d1 : 1 ≤ c / 2 ^ q f := (Nat.le_div_iff_mul_le hn).mpr (by omega)
      obtain ⟨a, ha⟩ : ∃ a, c / 2 ^ q f = a + 1 := ⟨c / 2 ^ q f - 1, by omega⟩
      rw [ha, Nat.succ_mul] at dm
      rw [show c = c % 2 ^ q f + 2 ^ q f + a * 2 ^ q f by omega] at hg
      exact h1 _ j (Nat.le_add_left _ _) (by omega) ((clg_per hl _ a j).mp hg)
    subst hk2
    subst e
    refine ev_iload f124_20 rfl ?_
    refine ev_iload_n f124_22 rfl ?_
    refine ev_icN (by omega) (by omega) (tgt := 97) f124_23 rfl (fun _ => ?_) (fun h9 => absurd (by simp only [akN] at *; omega) h9)
    refine ev_iload_n f124_97 rfl ?_
    exact ev_iret f124_98 (rI rfl _) rfl
  | succ d ih =>
    intro k v w5 hk hv h1 h2
    have hk2 : k < 2 ^ q f := by omega
    have k90 := ml_en h hi hf L (u := k + 2 ^ q f) (by omega)
    have k92 := ml_mv h hi hf L (u := k + 2 ^ q f) (by omega)
    rw [Nat.add_mod_right, Nat.mod_eq_of_lt hk2] at k90 k92
    have lp := hl.2.2.2.2.1 (k + 2 ^ q f)
    have h9 := h
    obtain ⟨b0, b1, -⟩ := h
    by_cases c0 : PN (2 ^ q f) (2 ^ (12 - q f)) (g f) (k + 2 ^ q f) = k + 2 ^ q f ∧ LN (2 ^ q f) (2 ^ (12 - q f)) (g f) (k + 2 ^ q f) = 0
    · rw [decide_eq_false (Classical.not_not.mpr c0)] at k90
      have nx := ih (k + 1) v (some (.int (nI 0))) (by omega) hv (fun c j a1 a2 a3 => by
        by_cases w : c < k + 2 ^ q f
        · exact h1 c j a1 w a3
        · have := a3.2.1
          rw [show c = k + 2 ^ q f by omega] at this
          omega) h2
      refine ev_iload f124_20 rfl ?_
      refine ev_iload_n f124_22 rfl ?_
      refine ev_icN (by omega) (by omega) (tgt := 97) f124_23 rfl (fun h9 => absurd h9 (by simp only [akN] at *; omega)) (fun _ => ?_)
      refine ev_aload_n f124_26 rfl ?_
      refine ev_iload f124_27 rfl ?_
      refine ev_v1 f124_29 ow90 (by assumption) rfl (Nat.le_of_ble_eq_true rfl) (k90) ?_
      refine ev_ifeqB (tgt := 49) f124_32 rfl (fun _ => ?_) (fun h9 => Bool.noConfusion (h9.symm.trans (rfl)))
      refine ev_iconstN (n := 0) f124_49 ?_
      refine ev_istore f124_50 ?_
      refine ev_iload f124_52 rfl ?_
      refine ev_ifN (by omega) (tgt := 78) f124_54 rfl (fun _ => ?_) (fun h9 => absurd (by simp only [akN] at *; omega) h9)
      refine ev_iload f124_78 rfl ?_
      refine ev_iload_n f124_80 rfl ?_
      refine ev_icN (by omega) (by omega) (tgt := 89) f124_81 rfl (fun _ => ?_) (fun h9 => absurd (by simp only [akN] at *; omega) h9)
      refine ev_iload_n f124_89 rfl ?_
      refine ev_istore_n f124_90 ?_
      refine ev_iincN (d := 1) f124_91 rfl ?_
      refine ev_goto (tgt := 20) f124_94 rfl ?_
      exact nx
    · rw [decide_eq_true c0] at k90
      by_cases c1 : k + 2 ^ q f < PN (2 ^ q f) (2 ^ (12 - q f)) (g f) (k + 2 ^ q f)
      · rw [decide_eq_true c1] at k92
        have nx := ih (k + 1) v (some (.int (nI 0))) (by omega) hv (fun c j a1 a2 a3 => by
          by_cases w : c < k + 2 ^ q f
          · exact h1 c j a1 w a3
          · have := a3.1
            rw [show c = k + 2 ^ q f by omega] at this
            omega) h2
        refine ev_iload f124_20 rfl ?_
        refine ev_iload_n f124_22 rfl ?_
        refine ev_icN (by omega) (by omega) (tgt := 97) f124_23 rfl (fun h9 => absurd h9 (by simp only [akN] at *; omega)) (fun _ => ?_)
        refine ev_aload_n f124_26 rfl ?_
        refine ev_iload f124_27 rfl ?_
        refine ev_v1 f124_29 ow90 (by assumption) rfl (Nat.le_of_ble_eq_true rfl) (k90) ?_
        refine ev_ifeqB (tgt := 49) f124_32 rfl (fun h9 => Bool.noConfusion (h9.symm.trans (rfl))) (fun _ => ?_)
        refine ev_aload_n f124_35 rfl ?_
        refine ev_iload_n f124_36 rfl ?_
        refine ev_iload f124_37 rfl ?_
        refine ev_v2 f124_39 ow92 (by assumption) rfl rfl (Nat.le_of_ble_eq_true rfl) (k92) ?_
        refine ev_ifneB (tgt := 49) f124_42 rfl (fun _ => ?_) (fun h9 => Bool.noConfusion (h9.symm.trans (rfl)))
        refine ev_iconstN (n := 0) f124_49 ?_
        refine ev_istore f124_50 ?_
        refine ev_iload f124_52 rfl ?_
        refine ev_ifN (by omega) (tgt := 78) f124_54 rfl (fun _ => ?_) (fun h9 => absurd (by simp only [akN] at *; omega) h9)
        refine ev_iload f124_78 rfl ?_
        refine ev_iload_n f124_80 rfl ?_
        refine ev_icN (by omega) (by omega) (tgt := 89) f124_81 rfl (fun _ => ?_) (fun h9 => absurd (by simp only [akN] at *; omega) h9)
        refine ev_iload_n f124_89 rfl ?_
        refine ev_istore_n f124_90 ?_
        refine ev_iincN (d := 1) f124_91 rfl ?_
        refine ev_goto (tgt := 20) f124_94 rfl ?_
        exact nx
      · rw [decide_eq_false c1] at k92
        obtain ⟨J, hJ, hJ2⟩ := clg_max hl (c := k + 2 ^ q f) (by omega) (by omega)
        have hJ1 := clg_lt hl hJ
        have up : ∀ c j, c < k + 1 + 2 ^ q f → 2 ^ q f ≤ c → ClG (PN (2 ^ q f) (2 ^ (12 - q f)) (g f)) (LN (2 ^ q f) (2 ^ (12 - q f)) (g f)) c j → j + 1 ≤ v ∨ j ≤ J := by
          intro c j a1 a2 a3
          by_cases w : c < k + 2 ^ q f
          · exact Or.inl (h1 c j a2 w a3)
          · refine Or.inr (Nat.le_of_not_lt (fun w2 => hJ2 ?_))
            rw [show c = k + 2 ^ q f by omega] at a3
            exact a3.2.2 _ (by omega) (by omega)
        refine ev_iload f124_20 rfl ?_
        refine ev_iload_n f124_22 rfl ?_
        refine ev_icN (by omega) (by omega) (tgt := 97) f124_23 rfl (fun h9 => absurd h9 (by simp only [akN] at *; omega)) (fun _ => ?_)
        refine ev_aload_n f124_26 rfl ?_
        refine ev_iload f124_27 rfl ?_
        refine ev_v1 f124_29 ow90 (by assumption) rfl (Nat.le_of_ble_eq_true rfl) (k90) ?_
        refine ev_ifeqB (tgt := 49) f124_32 rfl (fun h9 => Bool.noConfusion (h9.symm.trans (rfl))) (fun _ => ?_)
        refine ev_aload_n f124_35 rfl ?_
        refine ev_iload_n f124_36 rfl ?_
        refine ev_iload f124_37 rfl ?_
        refine ev_v2 f124_39 ow92 (by assumption) rfl rfl (Nat.le_of_ble_eq_true rfl) (k92) ?_
        refine ev_ifneB (tgt := 49) f124_42 rfl (fun h9 => Bool.noConfusion (h9.symm.trans (rfl))) (fun _ => ?_)
        refine ev_iconstN (n := 1) f124_45 ?_
        refine ev_goto (tgt := 50) f124_46 rfl ?_
        refine ev_istore f124_50 ?_
        refine l124a h9 hi hf L hk2 hJ hJ1 hJ2 ?_ J 1 (by omega) (by omega)
        by_cases c2 : J + 1 ≤ v
        · have nx := ih (k + 1) v (some (.int (nI (J + 1)))) (by omega) hv (fun c j a1 a2 a3 => by
            have := up c j a2 a1 a3
            omega) h2
          refine ev_iload f124_78 rfl ?_
          refine ev_iload_n f124_80 rfl ?_
          refine ev_icN (by omega) (by omega) (tgt := 89) f124_81 rfl (fun _ => ?_) (fun h9 => absurd (by simp only [akN] at *; omega) h9)
          refine ev_iload_n f124_89 rfl ?_
          refine ev_istore_n f124_90 ?_
          refine ev_iincN (d := 1) f124_91 rfl ?_
          refine ev_goto (tgt := 20) f124_94 rfl ?_
          exact nx
        · have nx := ih (k + 1) (J + 1) (some (.int (nI (J + 1)))) (by omega) (by omega) (fun c j a1 a2 a3 => by
            have := up c j a2 a1 a3
            omega) (Or.inr ⟨k + 2 ^ q f, J, by omega, hJ, rfl⟩)
          refine ev_iload f124_78 rfl ?_
          refine ev_iload_n f124_80 rfl ?_
          refine ev_icN (by omega) (by omega) (tgt := 89) f124_81 rfl (fun h9 => absurd h9 (by simp only [akN] at *; omega)) (fun _ => ?_)
          refine ev_iload f124_84 rfl ?_
          refine ev_goto (tgt := 90) f124_86 rfl ?_
          refine ev_istore_n f124_90 ?_
          refine ev_iincN (d := 1) f124_91 rfl ?_
          refine ev_goto (tgt := 20) f124_94 rfl ?_
          exact nx
theorem d124 (h : MS hs q g l) (hi : MI q g) (hf : f < 4) {V : Nat} (hV : ClM (2 ^ q f) (PN (2 ^ q f) (2 ^ (12 - q f)) (g f)) (LN (2 ^ q f) (2 ^ (12 - q f)) (g f)) V) : CrQ 124 [.ref 39, .int (nI f)] hs (some (.int (nI V))) (MP hs q g 0) := by
  have a := h.1
  obtain ⟨hn, hm, hnm, hN, p2, o8⟩ := hi.fa hf
  obtain ⟨hs1, k1, ⟨A, B, C, D, E, m1, L, hC, hD⟩, f1⟩ := d114 h hi hf (s := 0) hn
  have k83 := c83 m1.ms hf o8
  have st := l124 m1 hi hf L hV (2 ^ q f) 0 0 none (Nat.zero_add _) (Nat.zero_le _) (fun c j a1 a2 a3 => by omega) (Or.inl rfl)
  have mm := m1
  obtain ⟨b0, b1, -⟩ := mm
  refine crq_mk ow124 (Nat.le_of_ble_eq_true rfl) ?_
  refine eq_ (fun _ k => ev_iconstN (n := 0) f124_0 k) ?_
  refine eq_ (fun _ k => ev_istore_n f124_1 k) ?_
  refine eq_ (fun _ k => ev_aload_n f124_2 rfl k) ?_
  refine eq_ (fun _ k => ev_iload_n f124_3 rfl k) ?_
  refine eq_ (fun _ k => ev_iconstN (n := 0) f124_4 k) ?_
  refine eq_ (fun _ k => ev_v2 f124_5 ow114 (by assumption) rfl rfl (Nat.le_of_ble_eq_true rfl) (k1) k) ?_
  refine eq_ifeqB (tgt := 97) f124_8 rfl (fun h9 => Bool.noConfusion (h9.symm.trans (rfl))) (fun _ => ?_)
  refine eq_ (fun _ k => ev_aload_n f124_11 rfl k) ?_
  refine eq_ (fun _ k => ev_iload_n f124_12 rfl k) ?_
  refine eq_ (fun _ k => ev_v1 f124_13 ow83 (by assumption) rfl (Nat.le_of_ble_eq_true rfl) (k83) k) ?_
  refine eq_ (fun _ k => ev_istore_n f124_16 k) ?_
  refine eq_ (fun _ k => ev_iconstN (n := 0) f124_17 k) ?_
  refine eq_ (fun _ k => ev_istore f124_18 k) ?_
  exact ⟨_, st, hs1, rfl, m1.ms, f1⟩
theorem d124t (h : MS hs q g l) (hp : ¬ inR p0 4) : CrQ 124 [.ref 39, .int p0] hs (some (.int (nI 0))) (MP hs q g 1) := by
  have a := h.1
  obtain ⟨hs1, k1, m1, f1⟩ := d114t (v1 := nI 0) h hp
  refine crq_mk ow124 (Nat.le_of_ble_eq_true rfl) ?_
  refine eq_ (fun _ k => ev_iconstN (n := 0) f124_0 k) ?_
  refine eq_ (fun _ k => ev_istore_n f124_1 k) ?_
  refine eq_ (fun _ k => ev_aload_n f124_2 rfl k) ?_
  refine eq_ (fun _ k => ev_iload_n f124_3 rfl k) ?_
  refine eq_ (fun _ k => ev_iconstN (n := 0) f124_4 k) ?_
  refine eq_ (fun _ k => ev_v2 f124_5 ow114 (by assumption) rfl rfl (Nat.le_of_ble_eq_true rfl) (k1) k) ?_
  refine eq_ifeqB (tgt := 97) f124_8 rfl (fun _ => ?_) (fun h9 => Bool.noConfusion (h9.symm.trans (rfl)))
  refine eq_ (fun _ k => ev_iload_n f124_97 rfl k) ?_
  refine ⟨_, ev_iret f124_98 (rI rfl _) rfl, ?_⟩
  exact ⟨hs1, rfl, m1, f1⟩
end MQ
