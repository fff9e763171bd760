/-! becomeSum, hasSameAs; rows laid by wip/whole/walk.py -/
theorem BagAt.obj {hs : amH} {b : Nat} {g : Nat → Nat} (h : BagAt hs b g) : ∃ fs, hs[b]? = some (.inr (0, fs)) := by
  obtain ⟨F0, C0, z0, q, _⟩ := h
  exact ⟨_, q.2.2.1⟩
theorem EvQ.fr {M pc : Nat} {ls : amL} {st : List Value} {hs hs1 : amH} {c s lo hi : Nat} {v : Option Value} {P : amH → Prop} (h : EvQ M pc ls st hs1 c s (Rt v (fun hs' => P hs' ∧ Fr hs1 hs' lo hi))) (f : Fr hs hs1 lo hi) : EvQ M pc ls st hs1 c s (Rt v (fun hs' => P hs' ∧ Fr hs hs' lo hi)) := by
  obtain ⟨o, o1, hs2, o4, o2, o3⟩ := h
  exact ⟨o, o1, hs2, o4, o2, f.tr o3⟩
def suN (g1 g2 : Nat → Nat) : Nat → Nat := fun j => g1 j + g2 j
/-- u, and beside it g from k on below m -/
def adN (u g : Nat → Nat) (k m : Nat) : Nat → Nat := fun j => if k ≤ j ∧ j < m then u j + g j else u j
theorem adN_in {u g : Nat → Nat} {k m j : Nat} (h1 : k ≤ j) (h2 : j < m) : adN u g k m j = u j + g j := if_pos ⟨h1, h2⟩
theorem adN_out {u g : Nat → Nat} {k m j : Nat} (h : ¬ (k ≤ j ∧ j < m)) : adN u g k m j = u j := if_neg h
theorem adN_self (u g : Nat → Nat) (k : Nat) : adN u g k k = u := by
  funext j
  exact adN_out (by omega)
theorem adN_zero {u g : Nat → Nat} {k m : Nat} (h : g k = 0) : adN u g (k + 1) m = adN u g k m := by
  funext j
  by_cases h1 : k + 1 ≤ j ∧ j < m
  · rw [adN_in h1.1 h1.2, adN_in (by omega) h1.2]
  · rw [adN_out h1]
    by_cases h2 : k ≤ j ∧ j < m
    · have e : j = k := by omega
      rw [adN_in h2.1 h2.2, e, h, Nat.add_zero]
    · rw [adN_out h2]
theorem adN_step {u g : Nat → Nat} {k m : Nat} (h : k < m) : adN (updN u k (u k + g k)) g (k + 1) m = adN u g k m := by
  funext j
  by_cases e : j = k
  · rw [adN_out (by omega), adN_in (by omega) (by omega), e, updN_at]
  · by_cases h2 : k ≤ j ∧ j < m
    · rw [adN_in (by omega) h2.2, adN_in h2.1 h2.2, updN_ne _ _ e]
    · rw [adN_out (by omega), adN_out h2, updN_ne _ _ e]
theorem cutN_le (g : Nat → Nat) (k j : Nat) : cutN g k j ≤ g j := by
  unfold cutN
  split
  · exact Nat.le_refl _
  · exact Nat.zero_le _
theorem adN_cut (g1 g2 : Nat → Nat) {k p m : Nat} (h : p ≤ m) : adN (suN (cutN g1 k) (cutN g2 p)) g2 p m = suN (cutN g1 k) (cutN g2 m) := by
  funext j
  by_cases h2 : p ≤ j ∧ j < m
  · rw [adN_in h2.1 h2.2]
    show cutN g1 k j + cutN g2 p j + g2 j = cutN g1 k j + cutN g2 m j
    rw [cutN_ge h2.1, cutN_lt h2.2, Nat.add_zero]
  · rw [adN_out h2]
    show cutN g1 k j + cutN g2 p j = cutN g1 k j + cutN g2 m j
    by_cases h3 : j < p
    · rw [cutN_lt (g := g2) h3, cutN_lt (g := g2) (k := m) (by omega)]
    · rw [cutN_ge (g := g2) (k := p) (by omega), cutN_ge (g := g2) (k := m) (by omega)]
theorem l99 {b b2 m : Nat} {g1 g2 F2 C2 : Nat → Nat} {z2 : Nat} (i2 : BagIs g2 F2 C2 z2) (hm : m ≤ 4096) (hz : nzN g1 4096 + nzN g2 4096 ≤ 512) (hd2 : b + 3 ≤ b2 ∨ b2 + 3 ≤ b) (w : Option Value) : ∀ (d k : Nat) (hs : amH) (u : Nat → Nat), k + d = m → (∀ j, k ≤ j → u j + g2 j < 2 ^ 20) → (∀ j, 0 < u j → 0 < suN g1 g2 j) → (∀ j, k < j → j < 4096 → u j = 0) → BagAt hs b u → BagC hs b2 F2 C2 z2 → EvQ 99 3 [some (.ref b), some (.ref b2), w, some (.int (nI (nzN g2 m))), some (.int (nI (nzN g2 k)))] [] hs 0 0 (Rt none (fun hs' => BagAt hs' b (adN u g2 k m) ∧ Fr hs hs' b (b + 3))) := by
  obtain ⟨hz2, hg2, hF2⟩ := i2
  have m0 := nzN_mono g2 hm
  intro d
  induction d with
  | zero =>
    intro k hs u hk _ _ _ hb h2
    have hk2 : k = m := by omega
    subst hk2
    refine eq_ (fun _ k => ev_iload f99_3 rfl k) ?_
    refine eq_ (fun _ k => ev_iload_n f99_5 rfl k) ?_
    refine eq_icN (by omega) (by omega) (tgt := 33) f99_6 rfl (fun _ => ?_) (fun h9 => absurd (by simp only [akN] at *; omega) h9)
    refine ⟨_, ev_vret f99_33 rfl, ?_⟩
    rw [adN_self]
    exact ⟨_, rfl, hb, Fr.refl⟩
  | succ d ih =>
    intro k hs u hk hu1 hu2 hu3 hb h2
    have hi := ih (k + 1)
    have h8 := h2
    obtain ⟨b0', z5', a0', a1', a2'⟩ := h2
    by_cases y2 : g2 k = 0
    · rw [nzN_zero y2] at hi
      have hi2 := hi hs u (by omega) (fun j hj => hu1 j (by omega)) hu2 (fun j hj => hu3 j (by omega)) hb h8
      rw [adN_zero y2] at hi2
      exact hi2
    · have n2 := nzN_lt (n := m) (show k < m by omega) (show 0 < g2 k by omega)
      have n1 := nzN_mono g1 (show k ≤ 4096 by omega)
      obtain ⟨e3, e4⟩ := hF2 k (by omega) (by omega)
      obtain ⟨fs, ob⟩ := hb.obj
      have n3 : nzN u k ≤ nzN g1 k + nzN g2 k := Nat.le_trans (nzN_imp hu2 k) (nzN_sum g1 g2 k)
      have n4 := hu1 k (Nat.le_refl k)
      obtain ⟨hs1, k1, k2, k3⟩ := c2 (c := C2 (nzN g2 k)) hb (show F2 (nzN g2 k) < 4096 by omega) (fun j j1 j2 => hu3 j (by omega) j2) (by rw [e3, e4]; omega) (by rw [e3]; omega)
      rw [e3, e4] at k2
      have hi2 := (hi hs1 (updN u k (u k + g2 k)) (by omega) (fun j hj => by rw [updN_ne _ _ (by omega)]; exact hu1 j (by omega)) (fun j hj => by
        by_cases e : j = k
        · subst e
          show 0 < g1 j + g2 j
          omega
        · rw [updN_ne _ _ e] at hj
          exact hu2 j hj) (fun j hj hj2 => by rw [updN_ne _ _ (by omega)]; exact hu3 j (by omega) hj2) k2 (h8.fr k3 (by omega))).fr k3
      rw [adN_step (by omega), nzN_pos (f := g2) (k := k) (by omega)] at hi2
      refine eq_ (fun _ k => ev_iload f99_3 rfl k) ?_
      refine eq_ (fun _ k => ev_iload_n f99_5 rfl k) ?_
      refine eq_icN (by omega) (by omega) (tgt := 33) f99_6 rfl (fun h9 => absurd h9 (by simp only [akN] at *; omega)) (fun _ => ?_)
      refine eq_ (fun _ k => ev_aload_n f99_9 rfl k) ?_
      refine eq_ (fun _ k => ev_aload_n f99_10 rfl k) ?_
      refine eq_ (fun _ k => ev_getf f99_11 (by assumption) rfl k) ?_
      refine eq_ (fun _ k => ev_iload f99_14 rfl k) ?_
      refine eq_ (fun _ k => ev_iald f99_16 (by assumption) (by omega) (by omega) k) ?_
      refine eq_ (fun _ k => ev_aload_n f99_17 rfl k) ?_
      refine eq_ (fun _ k => ev_getf f99_18 (by assumption) rfl k) ?_
      refine eq_ (fun _ k => ev_iload f99_21 rfl k) ?_
      refine eq_ (fun _ k => ev_iald f99_23 (by assumption) (by omega) (by omega) k) ?_
      refine eq_ (fun _ k => ev_v2 f99_24 ow2 (by assumption) rfl rfl (Nat.le_of_ble_eq_true rfl) (k1) k) ?_
      refine eq_ (fun _ k => ev_iincN (d := 1) f99_27 rfl k) ?_
      refine eq_ (fun _ k => ev_goto (tgt := 3) f99_30 rfl k) ?_
      exact hi2
theorem c99 {hs : amH} {b b2 k m : Nat} {g1 g2 u F2 C2 : Nat → Nat} {z2 : Nat} (hb : BagAt hs b u) (h2 : BagC hs b2 F2 C2 z2) (i2 : BagIs g2 F2 C2 z2) (hk : k ≤ m) (hm : m ≤ 4096) (hz : nzN g1 4096 + nzN g2 4096 ≤ 512) (hd2 : b + 3 ≤ b2 ∨ b2 + 3 ≤ b) (hu1 : ∀ j, k ≤ j → u j + g2 j < 2 ^ 20) (hu2 : ∀ j, 0 < u j → 0 < suN g1 g2 j) (hu3 : ∀ j, k < j → j < 4096 → u j = 0) : CrQ 99 [.ref b, .ref b2, .int (nI (nzN g2 k)), .int (nI (nzN g2 m))] hs none (fun hs' => BagAt hs' b (adN u g2 k m) ∧ Fr hs hs' b (b + 3)) := by
  refine crq_mk ow99 (Nat.le_of_ble_eq_true rfl) ?_
  refine eq_ (fun _ k => ev_iload_n f99_0 rfl k) ?_
  refine eq_ (fun _ k => ev_istore f99_1 k) ?_
  exact l99 i2 hm hz hd2 _ (m - k) k hs u (by omega) hu1 hu2 hu3 hb h2
theorem l3 {b b1 b2 : Nat} {g1 F1 C1 g2 F2 C2 : Nat → Nat} {z1 z2 : Nat} (i1 : BagIs g1 F1 C1 z1) (i2 : BagIs g2 F2 C2 z2) (hz : nzN g1 4096 + nzN g2 4096 ≤ 512) (hs3 : ∀ j, suN g1 g2 j < 2 ^ 20) (hd1 : b + 3 ≤ b1 ∨ b1 + 3 ≤ b) (hd2 : b + 3 ≤ b2 ∨ b2 + 3 ≤ b) : ∀ (d k p : Nat) (hs : amH) (w : Option Value), k + d = 4096 → p ≤ k → (∀ j, p < j → j < k → g1 j = 0) → BagAt hs b (suN (cutN g1 k) (cutN g2 p)) → BagC hs b1 F1 C1 z1 → BagC hs b2 F2 C2 z2 → EvQ 3 9 [some (.ref b), some (.ref b1), some (.ref b2), some (.int (nI (nzN g2 p))), some (.int (nI (nzN g1 k))), w] [] hs 0 0 (Rt none (fun hs' => BagAt hs' b (suN (cutN g1 4096) (cutN g2 4096)) ∧ Fr hs hs' b (b + 3))) := by
  have j9 := i2
  obtain ⟨hz1, hg1, hF1⟩ := i1
  have part : ∀ (hs : amH) (k p m : Nat), p ≤ m → m ≤ 4096 → (∀ j, p < j → j < k → g1 j = 0) → BagAt hs b (suN (cutN g1 k) (cutN g2 p)) → BagC hs b2 F2 C2 z2 → CrQ 99 [.ref b, .ref b2, .int (nI (nzN g2 p)), .int (nI (nzN g2 m))] hs none (fun hs' => BagAt hs' b (suN (cutN g1 k) (cutN g2 m)) ∧ Fr hs hs' b (b + 3)) := by
    intro hs k p m p1 p2 p3 p4 p5
    have r := c99 (g1 := g1) p4 p5 j9 p1 p2 hz hd2 (fun j hj => by
      have h1 := cutN_le g1 k j
      have h2 := hs3 j
      have h3 : cutN g2 p j = 0 := cutN_ge hj
      simp only [suN] at h2 ⊢
      omega) (fun j hj => by
      have h1 := cutN_le g1 k j
      have h3 := cutN_le g2 p j
      simp only [suN] at hj ⊢
      omega) (fun j hj hj2 => by
      have h3 : cutN g2 p j = 0 := cutN_ge (by omega)
      have h4 : cutN g1 k j = 0 := by
        by_cases h5 : j < k
        · rw [cutN_lt h5]
          exact p3 j hj h5
        · exact cutN_ge (by omega)
      simp only [suN]
      omega)
    rw [adN_cut g1 g2 p1] at r
    exact r
  intro d
  induction d with
  | zero =>
    intro k p hs w hk hp hg hb h1 h2
    have hk2 : k = 4096 := by omega
    subst hk2
    have h8 := h2
    obtain ⟨fs, ob⟩ := hb.obj
    obtain ⟨b0, z5, a0, a1, a2⟩ := h1
    obtain ⟨b0', z5', a0', a1', a2'⟩ := h2
    have m2 := nzN_mono g2 hp
    have hz2 := j9.1
    obtain ⟨hs1, k1, k2, k3⟩ := part hs 4096 p 4096 hp (Nat.le_refl _) hg hb h8
    rw [← hz2] at k1
    refine eq_ (fun _ k => ev_iload f3_9 rfl k) ?_
    refine eq_ (fun _ k => ev_aload_n f3_11 rfl k) ?_
    refine eq_ (fun _ k => ev_getf f3_12 (by assumption) rfl k) ?_
    refine eq_icN (by omega) (by omega) (tgt := 67) f3_15 rfl (fun _ => ?_) (fun h9 => absurd (by simp only [akN] at *; omega) h9)
    refine eq_ (fun _ k => ev_aload_n f3_67 rfl k) ?_
    refine eq_ (fun _ k => ev_aload_n f3_68 rfl k) ?_
    refine eq_ (fun _ k => ev_iload_n f3_69 rfl k) ?_
    refine eq_ (fun _ k => ev_aload_n f3_70 rfl k) ?_
    refine eq_ (fun _ k => ev_getf f3_71 (by assumption) rfl k) ?_
    refine eq_ (fun _ k => ev_v3 f3_74 ow99 (by assumption) rfl rfl rfl (Nat.le_of_ble_eq_true rfl) (k1) k) ?_
    refine ⟨_, ev_vret f3_77 rfl, ?_⟩
    exact ⟨_, rfl, k2, k3⟩
  | succ d ih =>
    intro k p hs w hk hp hg hb h1 h2
    have hi := ih (k + 1)
    have h9 := h1
    have h8 := h2
    obtain ⟨b0, z5, a0, a1, a2⟩ := h1
    obtain ⟨b0', z5', a0', a1', a2'⟩ := h2
    have m1 := nzN_mono g1 (show k ≤ 4096 by omega)
    have m2 := nzN_mono g2 (show k ≤ 4096 by omega)
    have m3 := nzN_mono g2 hp
    by_cases y1 : g1 k = 0
    · rw [nzN_zero y1, cutN_same y1] at hi
      refine hi p hs w (by omega) (by omega) (fun j j1 j2 => ?_) hb h9 h8
      by_cases e : j = k
      · rw [e]
        exact y1
      · exact hg j j1 (by omega)
    · have n1 := nzN_lt (n := 4096) (show k < 4096 by omega) (show 0 < g1 k by omega)
      obtain ⟨e1, e2⟩ := hF1 k (by omega) (by omega)
      obtain ⟨fs, ob⟩ := hb.obj
      have k6 : Cr 6 [.ref b2, .int (nI (F1 (nzN g1 k))), .int (nI (nzN g2 p))] hs (some (.int (nI (nzN g2 k)))) hs := by
        rw [e1]
        exact c6 h8 j9 (by omega) (nzN_mono g2 hp)
      obtain ⟨hsA, q1, q2, q3⟩ := part hs k p k hp (by omega) hg hb h8
      have h9A := h9.fr q3 (by omega)
      have h8A := h8.fr q3 (by omega)
      have h9B := h9A
      obtain ⟨_, _, c0, c1, c2'⟩ := h9B
      obtain ⟨fsA, obA⟩ := q2.obj
      have hu0 : suN (cutN g1 k) (cutN g2 k) k = 0 := by
        show cutN g1 k k + cutN g2 k k = 0
        rw [cutN_ge (Nat.le_refl k), cutN_ge (Nat.le_refl k)]
      have n6 := hg1 k
      have n7 : nzN (suN (cutN g1 k) (cutN g2 k)) k ≤ nzN g1 k + nzN g2 k := Nat.le_trans (nzN_imp (fun j hj => by
        have t1 := cutN_le g1 k j
        have t2 := cutN_le g2 k j
        show 0 < g1 j + g2 j
        simp only [suN] at hj
        omega) k) (nzN_sum g1 g2 k)
      obtain ⟨hs1, k1, k2, k3⟩ := c2 (c := C1 (nzN g1 k)) q2 (show F1 (nzN g1 k) < 4096 by omega) (fun j j1 j2 => by
        show cutN g1 k j + cutN g2 k j = 0
        rw [cutN_ge (by omega), cutN_ge (by omega)]) (by rw [e1, hu0, e2]; omega) (by rw [e1]; omega)
      rw [e1, hu0, Nat.zero_add, e2, show updN (suN (cutN g1 k) (cutN g2 k)) k (g1 k) = suN (cutN g1 (k + 1)) (cutN g2 k) by
        funext j
        show _ = cutN g1 (k + 1) j + cutN g2 k j
        by_cases e : j = k
        · subst e
          rw [updN_at, cutN_lt (by omega), cutN_ge (Nat.le_refl j), Nat.add_zero]
        · rw [updN_ne _ _ e]
          show cutN g1 k j + cutN g2 k j = _
          by_cases e2 : j < k
          · rw [cutN_lt e2, cutN_lt (g := g1) (by omega)]
          · rw [cutN_ge (by omega), cutN_ge (g := g1) (k := k + 1) (by omega)]] at k2
      have hi2 := fun w => ((hi k hs1 w (by omega) (by omega) (fun j j1 j2 => absurd j1 (by omega)) k2 (h9A.fr k3 (by omega)) (h8A.fr k3 (by omega)))).fr (q3.tr k3)
      rw [nzN_pos (f := g1) (k := k) (by omega)] at hi2
      refine eq_ (fun _ k => ev_iload f3_9 rfl k) ?_
      refine eq_ (fun _ k => ev_aload_n f3_11 rfl k) ?_
      refine eq_ (fun _ k => ev_getf f3_12 (by assumption) rfl k) ?_
      refine eq_icN (by omega) (by omega) (tgt := 67) f3_15 rfl (fun h9 => absurd h9 (by simp only [akN] at *; omega)) (fun _ => ?_)
      refine eq_ (fun _ k => ev_aload_n f3_18 rfl k) ?_
      refine eq_ (fun _ k => ev_aload_n f3_19 rfl k) ?_
      refine eq_ (fun _ k => ev_getf f3_20 (by assumption) rfl k) ?_
      refine eq_ (fun _ k => ev_iload f3_23 rfl k) ?_
      refine eq_ (fun _ k => ev_iald f3_25 (by assumption) (by omega) (by omega) k) ?_
      refine eq_ (fun _ k => ev_iload_n f3_26 rfl k) ?_
      refine eq_ (fun _ k => ev_v2 f3_27 ow6 (by assumption) rfl rfl (Nat.le_of_ble_eq_true rfl) (k6) k) ?_
      refine eq_ (fun _ k => ev_istore f3_30 k) ?_
      refine eq_ (fun _ k => ev_aload_n f3_32 rfl k) ?_
      refine eq_ (fun _ k => ev_aload_n f3_33 rfl k) ?_
      refine eq_ (fun _ k => ev_iload_n f3_34 rfl k) ?_
      refine eq_ (fun _ k => ev_iload f3_35 rfl k) ?_
      refine eq_ (fun _ k => ev_v3 f3_37 ow99 (by assumption) rfl rfl rfl (Nat.le_of_ble_eq_true rfl) (q1) k) ?_
      refine eq_ (fun _ k => ev_aload_n f3_40 rfl k) ?_
      refine eq_ (fun _ k => ev_aload_n f3_41 rfl k) ?_
      refine eq_ (fun _ k => ev_getf f3_42 (by assumption) rfl k) ?_
      refine eq_ (fun _ k => ev_iload f3_45 rfl k) ?_
      refine eq_ (fun _ k => ev_iald f3_47 (by assumption) (by omega) (by omega) k) ?_
      refine eq_ (fun _ k => ev_aload_n f3_48 rfl k) ?_
      refine eq_ (fun _ k => ev_getf f3_49 (by assumption) rfl k) ?_
      refine eq_ (fun _ k => ev_iload f3_52 rfl k) ?_
      refine eq_ (fun _ k => ev_iald f3_54 (by assumption) (by omega) (by omega) k) ?_
      refine eq_ (fun _ k => ev_v2 f3_55 ow2 (by assumption) rfl rfl (Nat.le_of_ble_eq_true rfl) (k1) k) ?_
      refine eq_ (fun _ k => ev_iload f3_58 rfl k) ?_
      refine eq_ (fun _ k => ev_istore_n f3_60 k) ?_
      refine eq_ (fun _ k => ev_iincN (d := 1) f3_61 rfl k) ?_
      refine eq_ (fun _ k => ev_goto (tgt := 9) f3_64 rfl k) ?_
      exact hi2 _
theorem c3 {hs : amH} {b b1 b2 : Nat} {g1 g2 g0 : Nat → Nat} (h : BagAt hs b g0) (h1 : BagAt hs b1 g1) (h2 : BagAt hs b2 g2) (hz : nzN g1 4096 + nzN g2 4096 ≤ 512) (hs3 : ∀ j, suN g1 g2 j < 2 ^ 20) (hd1 : b + 3 ≤ b1 ∨ b1 + 3 ≤ b) (hd2 : b + 3 ≤ b2 ∨ b2 + 3 ≤ b) : CrQ 3 [.ref b, .ref b1, .ref b2] hs none (fun hs' => BagAt hs' b (suN g1 g2) ∧ Fr hs hs' b (b + 3)) := by
  obtain ⟨F1, C1, z1, q1, q2⟩ := h1
  obtain ⟨F2, C2, z2, r1, r2⟩ := h2
  obtain ⟨hs1, k1, k2, k3⟩ := c1 h
  obtain ⟨fs, a0⟩ := h.obj
  rw [show (fun _ => 0 : Nat → Nat) = suN (cutN g1 0) (cutN g2 0) by rw [cutN_0, cutN_0]; rfl] at k2
  have q3 := q1.fr k3 (by omega)
  have r3 := r1.fr k3 (by omega)
  obtain ⟨o, o1, hs2, rfl, o2, o3⟩ := l3 q2 r2 hz hs3 hd1 hd2 4096 0 0 hs1 none rfl (Nat.le_refl 0) (fun j _ j2 => absurd j2 (Nat.not_lt_zero j)) k2 q3 r3
  refine crq_mk ow3 (Nat.le_of_ble_eq_true rfl) ?_
  refine eq_ (fun _ k => ev_aload_n f3_0 rfl k) ?_
  refine eq_ (fun _ k => ev_v0 f3_1 ow1 (by assumption) (Nat.le_of_ble_eq_true rfl) (k1) k) ?_
  refine eq_ (fun _ k => ev_iconstN (n := 0) f3_4 k) ?_
  refine eq_ (fun _ k => ev_istore_n f3_5 k) ?_
  refine eq_ (fun _ k => ev_iconstN (n := 0) f3_6 k) ?_
  refine eq_ (fun _ k => ev_istore f3_7 k) ?_
  exact ⟨_, o1, hs2, rfl, o2.cg (fun j hj => by
    show cutN g1 4096 j + cutN g2 4096 j = g1 j + g2 j
    rw [cutN_lt hj, cutN_lt hj]) hs3, k3.tr o3⟩
def saN (g1 g2 : Nat → Nat) : Prop := ∀ j, j < 4096 → g1 j = g2 j
theorem saN_f {g1 g2 : Nat → Nat} {k : Nat} (hk : k < 4096) (h : ¬ g1 k = g2 k) : ¬ saN g1 g2 := fun q => h (q k hk)
theorem l7 {hs : amH} {b1 b2 : Nat} {g1 F1 C1 g2 F2 C2 : Nat → Nat} {z1 z2 : Nat} (i1 : BagIs g1 F1 C1 z1) (i2 : BagIs g2 F2 C2 z2) (hz : z1 = z2) (h1 : BagC hs b1 F1 C1 z1) (h2 : BagC hs b2 F2 C2 z2) : ∀ (d k : Nat), k + d = 4096 → (∀ j, j < k → g1 j = g2 j) → ∃ r : Bool, (r = true ↔ saN g1 g2) ∧ Ev 7 15 [some (.ref b1), some (.ref b2), some (.int (nI (nzN g1 k)))] [] hs 0 0 (.inl (some (.int (nI r.toNat))), hs, 0, 0) := by
  have i9 := i1
  have j9 := i2
  obtain ⟨hz1, hg1, hF1⟩ := i1
  obtain ⟨hz2, hg2, hF2⟩ := i2
  obtain ⟨b0, z5, a0, a1, a2⟩ := h1
  obtain ⟨b0', z5', a0', a1', a2'⟩ := h2
  intro d
  induction d with
  | zero =>
    intro k hk he
    have hk2 : k = 4096 := by omega
    subst hk2
    refine ⟨true, ⟨fun _ => he, fun _ => rfl⟩, ?_⟩
    refine ev_iload_n f7_15 rfl ?_
    refine ev_aload_n f7_16 rfl ?_
    refine ev_getf f7_17 (by assumption) rfl ?_
    refine ev_icN (by omega) (by omega) (tgt := 61) f7_20 rfl (fun _ => ?_) (fun h9 => absurd (by simp only [akN] at *; omega) h9)
    refine ev_iconstN (n := 1) f7_61 ?_
    first | exact ev_iret f7_62 (rZ rfl true) rfl | exact ev_iret f7_62 (rZ rfl false) rfl | exact ev_iret f7_62 (rZ rfl _) rfl
  | succ d ih =>
    intro k hk he
    have hi := ih (k + 1) (by omega)
    have hnz : nzN g1 k = nzN g2 k := nzN_congr (fun j hj => by rw [he j hj])
    have m1 := nzN_mono g1 (show k ≤ 4096 by omega)
    by_cases y1 : g1 k = 0
    · by_cases y2 : g2 k = 0
      · rw [nzN_zero y1] at hi
        refine hi (fun j hj => ?_)
        by_cases e : j = k
        · rw [e, y1, y2]
        · exact he j (by omega)
      · refine ⟨false, ⟨fun h => Bool.noConfusion h, fun h => absurd h (saN_f (k := k) (by omega) (by omega))⟩, ?_⟩
        have n2 := nzN_lt (n := 4096) (show k < 4096 by omega) (show 0 < g2 k by omega)
        obtain ⟨e3, e4⟩ := hF2 k (by omega) (by omega)
        have n3 := bag_ge i9 (show k + 1 ≤ 4096 by omega) (show nzN g1 (k + 1) ≤ nzN g1 k by rw [nzN_zero y1]; omega) (show nzN g1 k < z1 by omega)
        rw [← hnz] at e3 e4
        have n4 := n3.1
        have n5 := n3.2.1
        refine ev_iload_n f7_15 rfl ?_
        refine ev_aload_n f7_16 rfl ?_
        refine ev_getf f7_17 (by assumption) rfl ?_
        refine ev_icN (by omega) (by omega) (tgt := 61) f7_20 rfl (fun h9 => absurd h9 (by simp only [akN] at *; omega)) (fun _ => ?_)
        refine ev_aload_n f7_23 rfl ?_
        refine ev_getf f7_24 (by assumption) rfl ?_
        refine ev_iload_n f7_27 rfl ?_
        refine ev_iald f7_28 (by assumption) (by omega) (by omega) ?_
        refine ev_aload_n f7_29 rfl ?_
        refine ev_getf f7_30 (by assumption) rfl ?_
        refine ev_iload_n f7_33 rfl ?_
        refine ev_iald f7_34 (by assumption) (by omega) (by omega) ?_
        refine ev_icN (by omega) (by omega) (tgt := 53) f7_35 rfl (fun _ => ?_) (fun h9 => absurd (by simp only [akN] at *; omega) h9)
        refine ev_iconstN (n := 0) f7_53 ?_
        first | exact ev_iret f7_54 (rZ rfl true) rfl | exact ev_iret f7_54 (rZ rfl false) rfl | exact ev_iret f7_54 (rZ rfl _) rfl
    · have n1 := nzN_lt (n := 4096) (show k < 4096 by omega) (show 0 < g1 k by omega)
      obtain ⟨e1, e2⟩ := hF1 k (by omega) (by omega)
      have n6 := hg1 k
      by_cases y2 : g2 k = 0
      · refine ⟨false, ⟨fun h => Bool.noConfusion h, fun h => absurd h (saN_f (k := k) (by omega) (by omega))⟩, ?_⟩
        have n3 := bag_ge j9 (show k + 1 ≤ 4096 by omega) (show nzN g2 (k + 1) ≤ nzN g1 k by rw [nzN_zero y2]; omega) (show nzN g1 k < z2 by omega)
        have n4 := n3.1
        have n5 := n3.2.1
        refine ev_iload_n f7_15 rfl ?_
        refine ev_aload_n f7_16 rfl ?_
        refine ev_getf f7_17 (by assumption) rfl ?_
        refine ev_icN (by omega) (by omega) (tgt := 61) f7_20 rfl (fun h9 => absurd h9 (by simp only [akN] at *; omega)) (fun _ => ?_)
        refine ev_aload_n f7_23 rfl ?_
        refine ev_getf f7_24 (by assumption) rfl ?_
        refine ev_iload_n f7_27 rfl ?_
        refine ev_iald f7_28 (by assumption) (by omega) (by omega) ?_
        refine ev_aload_n f7_29 rfl ?_
        refine ev_getf f7_30 (by assumption) rfl ?_
        refine ev_iload_n f7_33 rfl ?_
        refine ev_iald f7_34 (by assumption) (by omega) (by omega) ?_
        refine ev_icN (by omega) (by omega) (tgt := 53) f7_35 rfl (fun _ => ?_) (fun h9 => absurd (by simp only [akN] at *; omega) h9)
        refine ev_iconstN (n := 0) f7_53 ?_
        first | exact ev_iret f7_54 (rZ rfl true) rfl | exact ev_iret f7_54 (rZ rfl false) rfl | exact ev_iret f7_54 (rZ rfl _) rfl
      · obtain ⟨e3, e4⟩ := hF2 k (by omega) (by omega)
        rw [← hnz] at e3 e4
        have n7 := hg2 k
        by_cases y3 : g1 k = g2 k
        · rw [nzN_pos (f := g1) (by omega)] at hi
          obtain ⟨r, r1, r2⟩ := hi (fun j hj => by
            by_cases e : j = k
            · rw [e, y3]
            · exact he j (by omega))
          refine ⟨r, r1, ?_⟩
          refine ev_iload_n f7_15 rfl ?_
          refine ev_aload_n f7_16 rfl ?_
          refine ev_getf f7_17 (by assumption) rfl ?_
          refine ev_icN (by omega) (by omega) (tgt := 61) f7_20 rfl (fun h9 => absurd h9 (by simp only [akN] at *; omega)) (fun _ => ?_)
          refine ev_aload_n f7_23 rfl ?_
          refine ev_getf f7_24 (by assumption) rfl ?_
          refine ev_iload_n f7_27 rfl ?_
          refine ev_iald f7_28 (by assumption) (by omega) (by omega) ?_
          refine ev_aload_n f7_29 rfl ?_
          refine ev_getf f7_30 (by assumption) rfl ?_
          refine ev_iload_n f7_33 rfl ?_
          refine ev_iald f7_34 (by assumption) (by omega) (by omega) ?_
          refine ev_icN (by omega) (by omega) (tgt := 53) f7_35 rfl (fun h9 => absurd h9 (by simp only [akN] at *; omega)) (fun _ => ?_)
          refine ev_aload_n f7_38 rfl ?_
          refine ev_getf f7_39 (by assumption) rfl ?_
          refine ev_iload_n f7_42 rfl ?_
          refine ev_iald f7_43 (by assumption) (by omega) (by omega) ?_
          refine ev_aload_n f7_44 rfl ?_
          refine ev_getf f7_45 (by assumption) rfl ?_
          refine ev_iload_n f7_48 rfl ?_
          refine ev_iald f7_49 (by assumption) (by omega) (by omega) ?_
          refine ev_icN (by omega) (by omega) (tgt := 55) f7_50 rfl (fun _ => ?_) (fun h9 => absurd (by simp only [akN] at *; omega) h9)
          refine ev_iincN (d := 1) f7_55 rfl ?_
          refine ev_goto (tgt := 15) f7_58 rfl ?_
          exact r2
        · refine ⟨false, ⟨fun h => Bool.noConfusion h, fun h => absurd h (saN_f (k := k) (by omega) y3)⟩, ?_⟩
          refine ev_iload_n f7_15 rfl ?_
          refine ev_aload_n f7_16 rfl ?_
          refine ev_getf f7_17 (by assumption) rfl ?_
          refine ev_icN (by omega) (by omega) (tgt := 61) f7_20 rfl (fun h9 => absurd h9 (by simp only [akN] at *; omega)) (fun _ => ?_)
          refine ev_aload_n f7_23 rfl ?_
          refine ev_getf f7_24 (by assumption) rfl ?_
          refine ev_iload_n f7_27 rfl ?_
          refine ev_iald f7_28 (by assumption) (by omega) (by omega) ?_
          refine ev_aload_n f7_29 rfl ?_
          refine ev_getf f7_30 (by assumption) rfl ?_
          refine ev_iload_n f7_33 rfl ?_
          refine ev_iald f7_34 (by assumption) (by omega) (by omega) ?_
          refine ev_icN (by omega) (by omega) (tgt := 53) f7_35 rfl (fun h9 => absurd h9 (by simp only [akN] at *; omega)) (fun _ => ?_)
          refine ev_aload_n f7_38 rfl ?_
          refine ev_getf f7_39 (by assumption) rfl ?_
          refine ev_iload_n f7_42 rfl ?_
          refine ev_iald f7_43 (by assumption) (by omega) (by omega) ?_
          refine ev_aload_n f7_44 rfl ?_
          refine ev_getf f7_45 (by assumption) rfl ?_
          refine ev_iload_n f7_48 rfl ?_
          refine ev_iald f7_49 (by assumption) (by omega) (by omega) ?_
          refine ev_icN (by omega) (by omega) (tgt := 55) f7_50 rfl (fun h9 => absurd h9 (by simp only [akN] at *; omega)) (fun _ => ?_)
          refine ev_iconstN (n := 0) f7_53 ?_
          first | exact ev_iret f7_54 (rZ rfl true) rfl | exact ev_iret f7_54 (rZ rfl false) rfl | exact ev_iret f7_54 (rZ rfl _) rfl
theorem c7 {hs : amH} {b1 b2 : Nat} {g1 g2 : Nat → Nat} (h1 : BagAt hs b1 g1) (h2 : BagAt hs b2 g2) : ∃ r : Bool, (r = true ↔ saN g1 g2) ∧ Cr 7 [.ref b1, .ref b2] hs (some (.int (nI r.toNat))) hs := by
  obtain ⟨F1, C1, z1, h3, i1⟩ := h1
  obtain ⟨F2, C2, z2, h4, i2⟩ := h2
  have h5 := h3
  have h6 := h4
  obtain ⟨b0, z5, a0, a1, a2⟩ := h3
  obtain ⟨b0', z5', a0', a1', a2'⟩ := h4
  by_cases hz : z1 = z2
  · obtain ⟨r, r1, r2⟩ := l7 i1 i2 hz h5 h6 4096 0 rfl (fun j hj => absurd hj (Nat.not_lt_zero _))
    refine ⟨r, r1, ?_⟩
    refine cr_mk ow7 (Nat.le_of_ble_eq_true rfl) ?_
    refine ev_aload_n f7_0 rfl ?_
    refine ev_getf f7_1 (by assumption) rfl ?_
    refine ev_aload_n f7_4 rfl ?_
    refine ev_getf f7_5 (by assumption) rfl ?_
    refine ev_icN (by omega) (by omega) (tgt := 13) f7_8 rfl (fun _ => ?_) (fun h9 => absurd (by simp only [akN] at *; omega) h9)
    refine ev_iconstN (n := 0) f7_13 ?_
    refine ev_istore_n f7_14 ?_
    exact r2
  · refine ⟨false, ⟨fun h => Bool.noConfusion h, fun h => absurd ?_ hz⟩, ?_⟩
    · rw [i1.1, i2.1]
      exact nzN_congr (fun j hj => by rw [h j hj])
    · refine cr_mk ow7 (Nat.le_of_ble_eq_true rfl) ?_
      refine ev_aload_n f7_0 rfl ?_
      refine ev_getf f7_1 (by assumption) rfl ?_
      refine ev_aload_n f7_4 rfl ?_
      refine ev_getf f7_5 (by assumption) rfl ?_
      refine ev_icN (by omega) (by omega) (tgt := 13) f7_8 rfl (fun h9 => absurd h9 (by simp only [akN] at *; omega)) (fun _ => ?_)
      refine ev_iconstN (n := 0) f7_11 ?_
      first | exact ev_iret f7_12 (rZ rfl true) rfl | exact ev_iret f7_12 (rZ rfl false) rfl | exact ev_iret f7_12 (rZ rfl _) rfl
