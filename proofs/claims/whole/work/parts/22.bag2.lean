/-! becomeSum, hasSameAs; rows laid by wip/whole/walk.py -/
theorem BagAt.obj {hs : amH} {b : Nat} {g : Nat → Nat} (h : BagAt hs b g) : ∃ fs, hs[b]? = some (.inr (0, fs)) := by
  obtain ⟨F0, C0, z0, q, _⟩ := h
  exact ⟨_, q.2.2.1⟩
theorem EvQ.fr {M pc : Nat} {ls : amL} {st : List Value} {hs hs1 : amH} {c s lo hi : Nat} {v : Option Value} {P : amH → Prop} (h : EvQ M pc ls st hs1 c s (Rt v (fun hs' => P hs' ∧ Fr hs1 hs' lo hi))) (f : Fr hs hs1 lo hi) : EvQ M pc ls st hs1 c s (Rt v (fun hs' => P hs' ∧ Fr hs hs' lo hi)) := by
  obtain ⟨o, o1, hs2, o4, o2, o3⟩ := h
  exact ⟨o, o1, hs2, o4, o2, f.tr o3⟩
def suN (g1 g2 : Nat → Nat) : Nat → Nat := fun j => g1 j + g2 j
theorem l3 {b b1 b2 : Nat} {g1 F1 C1 g2 F2 C2 : Nat → Nat} {z1 z2 : Nat} (i1 : BagIs g1 F1 C1 z1) (i2 : BagIs g2 F2 C2 z2) (hz : z1 + z2 ≤ 512) (hs3 : ∀ j, suN g1 g2 j < 2 ^ 20) (hd1 : b + 3 ≤ b1 ∨ b1 + 3 ≤ b) (hd2 : b + 3 ≤ b2 ∨ b2 + 3 ≤ b) : ∀ (d k l : Nat) (hs : amH), k + d = 4096 → l = z1 - nzN g1 k + (z2 - nzN g2 k) → BagAt hs b (cutN (suN g1 g2) k) → BagC hs b1 F1 C1 z1 → BagC hs b2 F2 C2 z2 → EvQ 3 20 [some (.ref b), some (.ref b1), some (.ref b2), some (.int (nI (nzN g1 k))), some (.int (nI (nzN g2 k))), some (.int (nI l))] [] hs 0 0 (Rt none (fun hs' => BagAt hs' b (cutN (suN g1 g2) 4096) ∧ Fr hs hs' b (b + 3))) := by
  have i9 := i1
  have j9 := i2
  obtain ⟨hz1, hg1, hF1⟩ := i1
  obtain ⟨hz2, hg2, hF2⟩ := i2
  intro d
  induction d with
  | zero =>
    intro k l hs hk hl hb h1 h2
    have hk2 : k = 4096 := by omega
    subst hk2
    have hl2 : l = 0 := by omega
    subst hl2
    refine eq_ (fun _ k => ev_iload f3_20 rfl k) ?_
    refine eq_ifN (by omega) (tgt := 107) f3_22 rfl (fun _ => ?_) (fun h9 => absurd (by simp only [akN] at *; omega) h9)
    refine ⟨_, ev_vret f3_107 rfl, ?_⟩
    exact ⟨_, rfl, hb, Fr.refl⟩
  | succ d ih =>
    intro k l hs hk hl hb h1 h2
    have hi := ih (k + 1)
    have h9 := h1
    have h8 := h2
    obtain ⟨b0, z5, a0, a1, a2⟩ := h1
    obtain ⟨b0', z5', a0', a1', a2'⟩ := h2
    have m1 := nzN_mono g1 (show k ≤ 4096 by omega)
    have m2 := nzN_mono g2 (show k ≤ 4096 by omega)
    have m3 := nzN_mono g1 (show k + 1 ≤ 4096 by omega)
    have m4 := nzN_mono g2 (show k + 1 ≤ 4096 by omega)
    have m5 : nzN (cutN (suN g1 g2) k) k ≤ nzN g1 k + nzN g2 k := by
      rw [cutN_nz]
      exact nzN_sum g1 g2 k
    have hs4 : g1 k + g2 k < 2 ^ 20 := hs3 k
    have hcut := cutN_ge (g := suN g1 g2) (Nat.le_refl k)
    -- the second bag's entry, once the first's is dealt with
    have two : ∀ (hs0 : amH) (u : Nat → Nat) (i l0 : Nat), 0 < g2 k → i = nzN g1 (k + 1) → l0 = z1 - i + (z2 - nzN g2 k) → (∀ j, k < j → j < 4096 → u j = 0) → u k = g1 k → nzN u k < 512 → updN u k (u k + g2 k) = cutN (suN g1 g2) (k + 1) → BagAt hs0 b u → BagC hs0 b1 F1 C1 z1 → BagC hs0 b2 F2 C2 z2 → EvQ 3 20 [some (.ref b), some (.ref b1), some (.ref b2), some (.int (nI i)), some (.int (nI (nzN g2 k))), some (.int (nI l0))] [] hs0 0 0 (Rt none (fun hs' => BagAt hs' b (cutN (suN g1 g2) 4096) ∧ Fr hs0 hs' b (b + 3))) := by
      intro hs0 u i l0 p1 p2 p3 p4 p5 p6 p7 ub u1 u2
      obtain ⟨fs, ob⟩ := ub.obj
      have u9 := u1
      have u8 := u2
      clear a0 a1 a2 a0' a1' a2' ih hb
      obtain ⟨_, _, a0, a1, a2⟩ := u1
      obtain ⟨_, _, a0', a1', a2'⟩ := u2
      have n2 := nzN_lt (n := 4096) (show k < 4096 by omega) p1
      obtain ⟨e3, e4⟩ := hF2 k (by omega) p1
      obtain ⟨hs1, k1, k2, k3⟩ := c2 (c := C2 (nzN g2 k)) ub (show F2 (nzN g2 k) < 4096 by omega) (fun j j1 j2 => p4 j (by omega) j2) (by rw [e3, p5, e4]; omega) (by rw [e3]; omega)
      rw [e3, e4, p7] at k2
      have hl5 : l0 - 1 = z1 - nzN g1 (k + 1) + (z2 - nzN g2 (k + 1)) := by
        rw [nzN_pos (f := g2) p1]
        omega
      have hi2 := (hi (l0 - 1) hs1 (by omega) hl5 k2 (u9.fr k3 (by omega)) (u8.fr k3 (by omega))).fr k3
      rw [nzN_pos (f := g2) p1, ← p2] at hi2
      by_cases hi3 : i = z1
      · refine eq_ (fun _ k => ev_iload f3_20 rfl k) ?_
        refine eq_ifN (by omega) (tgt := 107) f3_22 rfl (fun h9 => absurd h9 (by simp only [akN] at *; omega)) (fun _ => ?_)
        refine eq_ (fun _ k => ev_iload f3_25 rfl k) ?_
        refine eq_ (fun _ k => ev_aload_n f3_27 rfl k) ?_
        refine eq_ (fun _ k => ev_getf f3_28 (by assumption) rfl k) ?_
        refine eq_icN (by omega) (by omega) (tgt := 58) f3_31 rfl (fun h9 => absurd h9 (by simp only [akN] at *; omega)) (fun _ => ?_)
        refine eq_ (fun _ k => ev_iload_n f3_34 rfl k) ?_
        refine eq_ (fun _ k => ev_aload_n f3_35 rfl k) ?_
        refine eq_ (fun _ k => ev_getf f3_36 (by assumption) rfl k) ?_
        refine eq_icN (by omega) (by omega) (tgt := 80) f3_39 rfl (fun _ => ?_) (fun h9 => absurd (by simp only [akN] at *; omega) h9)
        refine eq_ (fun _ k => ev_aload_n f3_80 rfl k) ?_
        refine eq_ (fun _ k => ev_aload_n f3_81 rfl k) ?_
        refine eq_ (fun _ k => ev_getf f3_82 (by assumption) rfl k) ?_
        refine eq_ (fun _ k => ev_iload f3_85 rfl k) ?_
        refine eq_ (fun _ k => ev_iald f3_87 (by assumption) (by omega) (by omega) k) ?_
        refine eq_ (fun _ k => ev_aload_n f3_88 rfl k) ?_
        refine eq_ (fun _ k => ev_getf f3_89 (by assumption) rfl k) ?_
        refine eq_ (fun _ k => ev_iload f3_92 rfl k) ?_
        refine eq_ (fun _ k => ev_iald f3_94 (by assumption) (by omega) (by omega) k) ?_
        refine eq_ (fun _ k => ev_v2 f3_95 ow2 (by assumption) rfl rfl (Nat.le_of_ble_eq_true rfl) (k1) k) ?_
        refine eq_ (fun _ k => ev_iincN f3_98 rfl k) ?_
        refine eq_ (fun _ k => ev_iincM (by omega) f3_101 rfl k) ?_
        refine eq_ (fun _ k => ev_goto (tgt := 20) f3_104 rfl k) ?_
        exact hi2
      · have n3 := bag_ge i9 (show k + 1 ≤ 4096 by omega) (Nat.le_of_eq p2.symm) (by omega)
        have n4 := n3.1
        have n5 := n3.2.1
        refine eq_ (fun _ k => ev_iload f3_20 rfl k) ?_
        refine eq_ifN (by omega) (tgt := 107) f3_22 rfl (fun h9 => absurd h9 (by simp only [akN] at *; omega)) (fun _ => ?_)
        refine eq_ (fun _ k => ev_iload f3_25 rfl k) ?_
        refine eq_ (fun _ k => ev_aload_n f3_27 rfl k) ?_
        refine eq_ (fun _ k => ev_getf f3_28 (by assumption) rfl k) ?_
        refine eq_icN (by omega) (by omega) (tgt := 58) f3_31 rfl (fun h9 => absurd h9 (by simp only [akN] at *; omega)) (fun _ => ?_)
        refine eq_ (fun _ k => ev_iload_n f3_34 rfl k) ?_
        refine eq_ (fun _ k => ev_aload_n f3_35 rfl k) ?_
        refine eq_ (fun _ k => ev_getf f3_36 (by assumption) rfl k) ?_
        refine eq_icN (by omega) (by omega) (tgt := 80) f3_39 rfl (fun h9 => absurd h9 (by simp only [akN] at *; omega)) (fun _ => ?_)
        refine eq_ (fun _ k => ev_aload_n f3_42 rfl k) ?_
        refine eq_ (fun _ k => ev_getf f3_43 (by assumption) rfl k) ?_
        refine eq_ (fun _ k => ev_iload_n f3_46 rfl k) ?_
        refine eq_ (fun _ k => ev_iald f3_47 (by assumption) (by omega) (by omega) k) ?_
        refine eq_ (fun _ k => ev_aload_n f3_48 rfl k) ?_
        refine eq_ (fun _ k => ev_getf f3_49 (by assumption) rfl k) ?_
        refine eq_ (fun _ k => ev_iload f3_52 rfl k) ?_
        refine eq_ (fun _ k => ev_iald f3_54 (by assumption) (by omega) (by omega) k) ?_
        refine eq_icN (by omega) (by omega) (tgt := 80) f3_55 rfl (fun _ => ?_) (fun h9 => absurd (by simp only [akN] at *; omega) h9)
        refine eq_ (fun _ k => ev_aload_n f3_80 rfl k) ?_
        refine eq_ (fun _ k => ev_aload_n f3_81 rfl k) ?_
        refine eq_ (fun _ k => ev_getf f3_82 (by assumption) rfl k) ?_
        refine eq_ (fun _ k => ev_iload f3_85 rfl k) ?_
        refine eq_ (fun _ k => ev_iald f3_87 (by assumption) (by omega) (by omega) k) ?_
        refine eq_ (fun _ k => ev_aload_n f3_88 rfl k) ?_
        refine eq_ (fun _ k => ev_getf f3_89 (by assumption) rfl k) ?_
        refine eq_ (fun _ k => ev_iload f3_92 rfl k) ?_
        refine eq_ (fun _ k => ev_iald f3_94 (by assumption) (by omega) (by omega) k) ?_
        refine eq_ (fun _ k => ev_v2 f3_95 ow2 (by assumption) rfl rfl (Nat.le_of_ble_eq_true rfl) (k1) k) ?_
        refine eq_ (fun _ k => ev_iincN f3_98 rfl k) ?_
        refine eq_ (fun _ k => ev_iincM (by omega) f3_101 rfl k) ?_
        refine eq_ (fun _ k => ev_goto (tgt := 20) f3_104 rfl k) ?_
        exact hi2
    by_cases y1 : g1 k = 0
    · by_cases y2 : g2 k = 0
      · rw [nzN_zero y1, nzN_zero y2, cutN_same (show suN g1 g2 k = 0 by unfold suN; omega)] at hi
        exact hi l hs (by omega) (by omega) hb h9 h8
      · exact two hs (cutN (suN g1 g2) k) _ l (by omega) (nzN_zero y1).symm hl (fun j j1 _ => cutN_ge (by omega)) (by omega) (by
          have := nzN_lt (n := 4096) (show k < 4096 by omega) (show 0 < g2 k by omega)
          omega) (by rw [cutN_succ, hcut, show suN g1 g2 k = g2 k by unfold suN; omega]) hb h9 h8
    · have n1 := nzN_lt (n := 4096) (show k < 4096 by omega) (show 0 < g1 k by omega)
      obtain ⟨e1, e2⟩ := hF1 k (by omega) (by omega)
      obtain ⟨fs, ob⟩ := hb.obj
      obtain ⟨hs1, k1, k2, k3⟩ := c2 (c := C1 (nzN g1 k)) hb (show F1 (nzN g1 k) < 4096 by omega) (fun j j1 j2 => cutN_ge (by omega)) (by rw [e1, hcut, e2]; omega) (by rw [e1]; omega)
      rw [e1, hcut, Nat.zero_add, e2] at k2
      have hp := nzN_pos (f := g1) (k := k) (by omega)
      have rest : EvQ 3 20 [some (.ref b), some (.ref b1), some (.ref b2), some (.int (nI (nzN g1 k + 1))), some (.int (nI (nzN g2 k))), some (.int (nI (l - 1)))] [] hs1 0 0 (Rt none (fun hs' => BagAt hs' b (cutN (suN g1 g2) 4096) ∧ Fr hs hs' b (b + 3))) := by
        refine EvQ.fr ?_ k3
        by_cases y2 : g2 k = 0
        · have hi2 := hi (l - 1) hs1 (by omega) (by rw [nzN_zero y2]; omega)
          rw [nzN_zero y2, hp, cutN_succ, hcut, Nat.zero_add, show suN g1 g2 k = g1 k by unfold suN; omega] at hi2
          exact hi2 k2 (h9.fr k3 (by omega)) (h8.fr k3 (by omega))
        · have n2 := nzN_lt (n := 4096) (show k < 4096 by omega) (show 0 < g2 k by omega)
          refine two hs1 _ _ (l - 1) (by omega) hp.symm (by omega) (fun j j1 j2 => ?_) (updN_at _ _ _) ?_ ?_ k2 (h9.fr k3 (by omega)) (h8.fr k3 (by omega))
          · rw [updN_ne _ _ (by omega)]
            exact cutN_ge (by omega)
          · rw [nzN_congr (g := cutN (suN g1 g2) k) (fun j hj => by rw [updN_ne _ _ (by omega)])]
            omega
          · rw [updN_at, cutN_succ, hcut, Nat.zero_add]
            funext j
            unfold updN
            split <;> rfl
      by_cases hz3 : nzN g2 k = z2
      · refine eq_ (fun _ k => ev_iload f3_20 rfl k) ?_
        refine eq_ifN (by omega) (tgt := 107) f3_22 rfl (fun h9 => absurd h9 (by simp only [akN] at *; omega)) (fun _ => ?_)
        refine eq_ (fun _ k => ev_iload f3_25 rfl k) ?_
        refine eq_ (fun _ k => ev_aload_n f3_27 rfl k) ?_
        refine eq_ (fun _ k => ev_getf f3_28 (by assumption) rfl k) ?_
        refine eq_icN (by omega) (by omega) (tgt := 58) f3_31 rfl (fun _ => ?_) (fun h9 => absurd (by simp only [akN] at *; omega) h9)
        refine eq_ (fun _ k => ev_aload_n f3_58 rfl k) ?_
        refine eq_ (fun _ k => ev_aload_n f3_59 rfl k) ?_
        refine eq_ (fun _ k => ev_getf f3_60 (by assumption) rfl k) ?_
        refine eq_ (fun _ k => ev_iload_n f3_63 rfl k) ?_
        refine eq_ (fun _ k => ev_iald f3_64 (by assumption) (by omega) (by omega) k) ?_
        refine eq_ (fun _ k => ev_aload_n f3_65 rfl k) ?_
        refine eq_ (fun _ k => ev_getf f3_66 (by assumption) rfl k) ?_
        refine eq_ (fun _ k => ev_iload_n f3_69 rfl k) ?_
        refine eq_ (fun _ k => ev_iald f3_70 (by assumption) (by omega) (by omega) k) ?_
        refine eq_ (fun _ k => ev_v2 f3_71 ow2 (by assumption) rfl rfl (Nat.le_of_ble_eq_true rfl) (k1) k) ?_
        refine eq_ (fun _ k => ev_iincN f3_74 rfl k) ?_
        refine eq_ (fun _ k => ev_goto (tgt := 101) f3_77 rfl k) ?_
        refine eq_ (fun _ k => ev_iincM (by omega) f3_101 rfl k) ?_
        refine eq_ (fun _ k => ev_goto (tgt := 20) f3_104 rfl k) ?_
        exact rest
      · have n3 := bag_ge j9 (show k ≤ 4096 by omega) (Nat.le_refl _) (show nzN g2 k < z2 by omega)
        have n4 := n3.1
        have n5 := n3.2.1
        refine eq_ (fun _ k => ev_iload f3_20 rfl k) ?_
        refine eq_ifN (by omega) (tgt := 107) f3_22 rfl (fun h9 => absurd h9 (by simp only [akN] at *; omega)) (fun _ => ?_)
        refine eq_ (fun _ k => ev_iload f3_25 rfl k) ?_
        refine eq_ (fun _ k => ev_aload_n f3_27 rfl k) ?_
        refine eq_ (fun _ k => ev_getf f3_28 (by assumption) rfl k) ?_
        refine eq_icN (by omega) (by omega) (tgt := 58) f3_31 rfl (fun h9 => absurd h9 (by simp only [akN] at *; omega)) (fun _ => ?_)
        refine eq_ (fun _ k => ev_iload_n f3_34 rfl k) ?_
        refine eq_ (fun _ k => ev_aload_n f3_35 rfl k) ?_
        refine eq_ (fun _ k => ev_getf f3_36 (by assumption) rfl k) ?_
        refine eq_icN (by omega) (by omega) (tgt := 80) f3_39 rfl (fun h9 => absurd h9 (by simp only [akN] at *; omega)) (fun _ => ?_)
        refine eq_ (fun _ k => ev_aload_n f3_42 rfl k) ?_
        refine eq_ (fun _ k => ev_getf f3_43 (by assumption) rfl k) ?_
        refine eq_ (fun _ k => ev_iload_n f3_46 rfl k) ?_
        refine eq_ (fun _ k => ev_iald f3_47 (by assumption) (by omega) (by omega) k) ?_
        refine eq_ (fun _ k => ev_aload_n f3_48 rfl k) ?_
        refine eq_ (fun _ k => ev_getf f3_49 (by assumption) rfl k) ?_
        refine eq_ (fun _ k => ev_iload f3_52 rfl k) ?_
        refine eq_ (fun _ k => ev_iald f3_54 (by assumption) (by omega) (by omega) k) ?_
        refine eq_icN (by omega) (by omega) (tgt := 80) f3_55 rfl (fun h9 => absurd h9 (by simp only [akN] at *; omega)) (fun _ => ?_)
        refine eq_ (fun _ k => ev_aload_n f3_58 rfl k) ?_
        refine eq_ (fun _ k => ev_aload_n f3_59 rfl k) ?_
        refine eq_ (fun _ k => ev_getf f3_60 (by assumption) rfl k) ?_
        refine eq_ (fun _ k => ev_iload_n f3_63 rfl k) ?_
        refine eq_ (fun _ k => ev_iald f3_64 (by assumption) (by omega) (by omega) k) ?_
        refine eq_ (fun _ k => ev_aload_n f3_65 rfl k) ?_
        refine eq_ (fun _ k => ev_getf f3_66 (by assumption) rfl k) ?_
        refine eq_ (fun _ k => ev_iload_n f3_69 rfl k) ?_
        refine eq_ (fun _ k => ev_iald f3_70 (by assumption) (by omega) (by omega) k) ?_
        refine eq_ (fun _ k => ev_v2 f3_71 ow2 (by assumption) rfl rfl (Nat.le_of_ble_eq_true rfl) (k1) k) ?_
        refine eq_ (fun _ k => ev_iincN f3_74 rfl k) ?_
        refine eq_ (fun _ k => ev_goto (tgt := 101) f3_77 rfl k) ?_
        refine eq_ (fun _ k => ev_iincM (by omega) f3_101 rfl k) ?_
        refine eq_ (fun _ k => ev_goto (tgt := 20) f3_104 rfl k) ?_
        exact rest
theorem c3 {hs : amH} {b b1 b2 : Nat} {g1 g2 g0 : Nat → Nat} (h : BagAt hs b g0) (h1 : BagAt hs b1 g1) (h2 : BagAt hs b2 g2) (hz : nzN g1 4096 + nzN g2 4096 ≤ 512) (hs3 : ∀ j, suN g1 g2 j < 2 ^ 20) (hd1 : b + 3 ≤ b1 ∨ b1 + 3 ≤ b) (hd2 : b + 3 ≤ b2 ∨ b2 + 3 ≤ b) : CrQ 3 [.ref b, .ref b1, .ref b2] hs none (fun hs' => BagAt hs' b (suN g1 g2) ∧ Fr hs hs' b (b + 3)) := by
  obtain ⟨F1, C1, z1, q1, q2⟩ := h1
  obtain ⟨F2, C2, z2, r1, r2⟩ := h2
  obtain ⟨hs1, k1, k2, k3⟩ := c1 h
  obtain ⟨fs, a0⟩ := h.obj
  rw [← cutN_0 (suN g1 g2)] at k2
  have q3 := q1.fr k3 (by omega)
  have r3 := r1.fr k3 (by omega)
  obtain ⟨o, o1, hs2, rfl, o2, o3⟩ := l3 q2 r2 (by rw [q2.1, r2.1]; exact hz) hs3 hd1 hd2 4096 0 (z1 + z2) hs1 rfl rfl k2 q3 r3
  obtain ⟨_, _, x0, _, _⟩ := q3
  obtain ⟨_, _, y0, _, _⟩ := r3
  refine crq_mk ow3 (Nat.le_of_ble_eq_true rfl) ?_
  refine eq_ (fun _ k => ev_aload_n f3_0 rfl k) ?_
  refine eq_ (fun _ k => ev_v0 f3_1 ow1 (by assumption) (Nat.le_of_ble_eq_true rfl) (k1) k) ?_
  refine eq_ (fun _ k => ev_iconstN (n := 0) f3_4 k) ?_
  refine eq_ (fun _ k => ev_istore_n f3_5 k) ?_
  refine eq_ (fun _ k => ev_iconstN (n := 0) f3_6 k) ?_
  refine eq_ (fun _ k => ev_istore f3_7 k) ?_
  refine eq_ (fun _ k => ev_aload_n f3_9 rfl k) ?_
  refine eq_ (fun _ k => ev_getf f3_10 (by assumption) rfl k) ?_
  refine eq_ (fun _ k => ev_aload_n f3_13 rfl k) ?_
  refine eq_ (fun _ k => ev_getf f3_14 (by assumption) rfl k) ?_
  first | refine eq_ (fun _ k => ev_iaddN f3_17 k) ?_ | refine eq_ (fun _ k => ev_iadd f3_17 k) ?_
  refine eq_ (fun _ k => ev_istore f3_18 k) ?_
  exact ⟨_, o1, hs2, rfl, o2.cg (fun j hj => cutN_lt hj) hs3, k3.tr o3⟩
def saN (g1 g2 : Nat → Nat) : Prop := ∀ j, j < 4096 → g1 j = g2 j
theorem saN_f {g1 g2 : Nat → Nat} {k : Nat} (hk : k < 4096) (h : ¬ g1 k = g2 k) : ¬ saN g1 g2 := fun q => h (q k hk)
theorem l7 {hs : amH} {b1 b2 : Nat} {g1 F1 C1 g2 F2 C2 : Nat → Nat} {z1 z2 : Nat} (i1 : BagIs g1 F1 C1 z1) (i2 : BagIs g2 F2 C2 z2) (hz : z1 = z2) (h1 : BagC hs b1 F1 C1 z1) (h2 : BagC hs b2 F2 C2 z2) : ∀ (d k : Nat), k + d = 4096 → (∀ j, j < k → g1 j = g2 j) → ∃ r : Bool, (r = true ↔ saN g1 g2) ∧ Ev 7 15 [some (.ref b1), some (.ref b2), some (.int (nI (nzN g1 k)))] [] hs 0 0 (.inl (some (.int (nI r.toNat))), hs, 0, 0) := by
  have i9 := i1
  have j9 := i2
  obtain ⟨hz1, hg1, hF1⟩ := i1
  obtain ⟨hz2, hg2, hF2⟩ := i2
  obtain ⟨b0, z5, a0, a1, a2⟩ := h1
  obtain ⟨b0', z5', a0', a1', a2'⟩ := h2
  intro d
  induction d with
  | zero =>
    intro k hk he
    have hk2 : k = 4096 := by omega
    subst hk2
    refine ⟨true, ⟨fun _ => he, fun _ => rfl⟩, ?_⟩
    refine ev_iload_n f7_15 rfl ?_
    refine ev_aload_n f7_16 rfl ?_
    refine ev_getf f7_17 (by assumption) rfl ?_
    refine ev_icN (by omega) (by omega) (tgt := 61) f7_20 rfl (fun _ => ?_) (fun h9 => absurd (by simp only [akN] at *; omega) h9)
    refine ev_iconstN (n := 1) f7_61 ?_
    first | exact ev_iret f7_62 (rZ rfl true) rfl | exact ev_iret f7_62 (rZ rfl false) rfl | exact ev_iret f7_62 (rZ rfl _) rfl
  | succ d ih =>
    intro k hk he
    have hi := ih (k + 1) (by omega)
    have hnz : nzN g1 k = nzN g2 k := nzN_congr (fun j hj => by rw [he j hj])
    have m1 := nzN_mono g1 (show k ≤ 4096 by omega)
    by_cases y1 : g1 k = 0
    · by_cases y2 : g2 k = 0
      · rw [nzN_zero y1] at hi
        refine hi (fun j hj => ?_)
        by_cases e : j = k
        · rw [e, y1, y2]
        · exact he j (by omega)
      · refine ⟨false, ⟨fun h => Bool.noConfusion h, fun h => absurd h (saN_f (k := k) (by omega) (by omega))⟩, ?_⟩
        have n2 := nzN_lt (n := 4096) (show k < 4096 by omega) (show 0 < g2 k by omega)
        obtain ⟨e3, e4⟩ := hF2 k (by omega) (by omega)
        have n3 := bag_ge i9 (show k + 1 ≤ 4096 by omega) (show nzN g1 (k + 1) ≤ nzN g1 k by rw [nzN_zero y1]; omega) (show nzN g1 k < z1 by omega)
        rw [← hnz] at e3 e4
        have n4 := n3.1
        have n5 := n3.2.1
        refine ev_iload_n f7_15 rfl ?_
        refine ev_aload_n f7_16 rfl ?_
        refine ev_getf f7_17 (by assumption) rfl ?_
        refine ev_icN (by omega) (by omega) (tgt := 61) f7_20 rfl (fun h9 => absurd h9 (by simp only [akN] at *; omega)) (fun _ => ?_)
        refine ev_aload_n f7_23 rfl ?_
        refine ev_getf f7_24 (by assumption) rfl ?_
        refine ev_iload_n f7_27 rfl ?_
        refine ev_iald f7_28 (by assumption) (by omega) (by omega) ?_
        refine ev_aload_n f7_29 rfl ?_
        refine ev_getf f7_30 (by assumption) rfl ?_
        refine ev_iload_n f7_33 rfl ?_
        refine ev_iald f7_34 (by assumption) (by omega) (by omega) ?_
        refine ev_icN (by omega) (by omega) (tgt := 53) f7_35 rfl (fun _ => ?_) (fun h9 => absurd (by simp only [akN] at *; omega) h9)
        refine ev_iconstN (n := 0) f7_53 ?_
        first | exact ev_iret f7_54 (rZ rfl true) rfl | exact ev_iret f7_54 (rZ rfl false) rfl | exact ev_iret f7_54 (rZ rfl _) rfl
    · have n1 := nzN_lt (n := 4096) (show k < 4096 by omega) (show 0 < g1 k by omega)
      obtain ⟨e1, e2⟩ := hF1 k (by omega) (by omega)
      have n6 := hg1 k
      by_cases y2 : g2 k = 0
      · refine ⟨false, ⟨fun h => Bool.noConfusion h, fun h => absurd h (saN_f (k := k) (by omega) (by omega))⟩, ?_⟩
        have n3 := bag_ge j9 (show k + 1 ≤ 4096 by omega) (show nzN g2 (k + 1) ≤ nzN g1 k by rw [nzN_zero y2]; omega) (show nzN g1 k < z2 by omega)
        have n4 := n3.1
        have n5 := n3.2.1
        refine ev_iload_n f7_15 rfl ?_
        refine ev_aload_n f7_16 rfl ?_
        refine ev_getf f7_17 (by assumption) rfl ?_
        refine ev_icN (by omega) (by omega) (tgt := 61) f7_20 rfl (fun h9 => absurd h9 (by simp only [akN] at *; omega)) (fun _ => ?_)
        refine ev_aload_n f7_23 rfl ?_
        refine ev_getf f7_24 (by assumption) rfl ?_
        refine ev_iload_n f7_27 rfl ?_
        refine ev_iald f7_28 (by assumption) (by omega) (by omega) ?_
        refine ev_aload_n f7_29 rfl ?_
        refine ev_getf f7_30 (by assumption) rfl ?_
        refine ev_iload_n f7_33 rfl ?_
        refine ev_iald f7_34 (by assumption) (by omega) (by omega) ?_
        refine ev_icN (by omega) (by omega) (tgt := 53) f7_35 rfl (fun _ => ?_) (fun h9 => absurd (by simp only [akN] at *; omega) h9)
        refine ev_iconstN (n := 0) f7_53 ?_
        first | exact ev_iret f7_54 (rZ rfl true) rfl | exact ev_iret f7_54 (rZ rfl false) rfl | exact ev_iret f7_54 (rZ rfl _) rfl
      · obtain ⟨e3, e4⟩ := hF2 k (by omega) (by omega)
        rw [← hnz] at e3 e4
        have n7 := hg2 k
        by_cases y3 : g1 k = g2 k
        · rw [nzN_pos (f := g1) (by omega)] at hi
          obtain ⟨r, r1, r2⟩ := hi (fun j hj => by
            by_cases e : j = k
            · rw [e, y3]
            · exact he j (by omega))
          refine ⟨r, r1, ?_⟩
          refine ev_iload_n f7_15 rfl ?_
          refine ev_aload_n f7_16 rfl ?_
          refine ev_getf f7_17 (by assumption) rfl ?_
          refine ev_icN (by omega) (by omega) (tgt := 61) f7_20 rfl (fun h9 => absurd h9 (by simp only [akN] at *; omega)) (fun _ => ?_)
          refine ev_aload_n f7_23 rfl ?_
          refine ev_getf f7_24 (by assumption) rfl ?_
          refine ev_iload_n f7_27 rfl ?_
          refine ev_iald f7_28 (by assumption) (by omega) (by omega) ?_
          refine ev_aload_n f7_29 rfl ?_
          refine ev_getf f7_30 (by assumption) rfl ?_
          refine ev_iload_n f7_33 rfl ?_
          refine ev_iald f7_34 (by assumption) (by omega) (by omega) ?_
          refine ev_icN (by omega) (by omega) (tgt := 53) f7_35 rfl (fun h9 => absurd h9 (by simp only [akN] at *; omega)) (fun _ => ?_)
          refine ev_aload_n f7_38 rfl ?_
          refine ev_getf f7_39 (by assumption) rfl ?_
          refine ev_iload_n f7_42 rfl ?_
          refine ev_iald f7_43 (by assumption) (by omega) (by omega) ?_
          refine ev_aload_n f7_44 rfl ?_
          refine ev_getf f7_45 (by assumption) rfl ?_
          refine ev_iload_n f7_48 rfl ?_
          refine ev_iald f7_49 (by assumption) (by omega) (by omega) ?_
          refine ev_icN (by omega) (by omega) (tgt := 55) f7_50 rfl (fun _ => ?_) (fun h9 => absurd (by simp only [akN] at *; omega) h9)
          refine ev_iincN f7_55 rfl ?_
          refine ev_goto (tgt := 15) f7_58 rfl ?_
          exact r2
        · refine ⟨false, ⟨fun h => Bool.noConfusion h, fun h => absurd h (saN_f (k := k) (by omega) y3)⟩, ?_⟩
          refine ev_iload_n f7_15 rfl ?_
          refine ev_aload_n f7_16 rfl ?_
          refine ev_getf f7_17 (by assumption) rfl ?_
          refine ev_icN (by omega) (by omega) (tgt := 61) f7_20 rfl (fun h9 => absurd h9 (by simp only [akN] at *; omega)) (fun _ => ?_)
          refine ev_aload_n f7_23 rfl ?_
          refine ev_getf f7_24 (by assumption) rfl ?_
          refine ev_iload_n f7_27 rfl ?_
          refine ev_iald f7_28 (by assumption) (by omega) (by omega) ?_
          refine ev_aload_n f7_29 rfl ?_
          refine ev_getf f7_30 (by assumption) rfl ?_
          refine ev_iload_n f7_33 rfl ?_
          refine ev_iald f7_34 (by assumption) (by omega) (by omega) ?_
          refine ev_icN (by omega) (by omega) (tgt := 53) f7_35 rfl (fun h9 => absurd h9 (by simp only [akN] at *; omega)) (fun _ => ?_)
          refine ev_aload_n f7_38 rfl ?_
          refine ev_getf f7_39 (by assumption) rfl ?_
          refine ev_iload_n f7_42 rfl ?_
          refine ev_iald f7_43 (by assumption) (by omega) (by omega) ?_
          refine ev_aload_n f7_44 rfl ?_
          refine ev_getf f7_45 (by assumption) rfl ?_
          refine ev_iload_n f7_48 rfl ?_
          refine ev_iald f7_49 (by assumption) (by omega) (by omega) ?_
          refine ev_icN (by omega) (by omega) (tgt := 55) f7_50 rfl (fun h9 => absurd h9 (by simp only [akN] at *; omega)) (fun _ => ?_)
          refine ev_iconstN (n := 0) f7_53 ?_
          first | exact ev_iret f7_54 (rZ rfl true) rfl | exact ev_iret f7_54 (rZ rfl false) rfl | exact ev_iret f7_54 (rZ rfl _) rfl
theorem c7 {hs : amH} {b1 b2 : Nat} {g1 g2 : Nat → Nat} (h1 : BagAt hs b1 g1) (h2 : BagAt hs b2 g2) : ∃ r : Bool, (r = true ↔ saN g1 g2) ∧ Cr 7 [.ref b1, .ref b2] hs (some (.int (nI r.toNat))) hs := by
  obtain ⟨F1, C1, z1, h3, i1⟩ := h1
  obtain ⟨F2, C2, z2, h4, i2⟩ := h2
  have h5 := h3
  have h6 := h4
  obtain ⟨b0, z5, a0, a1, a2⟩ := h3
  obtain ⟨b0', z5', a0', a1', a2'⟩ := h4
  by_cases hz : z1 = z2
  · obtain ⟨r, r1, r2⟩ := l7 i1 i2 hz h5 h6 4096 0 rfl (fun j hj => absurd hj (Nat.not_lt_zero _))
    refine ⟨r, r1, ?_⟩
    refine cr_mk ow7 (Nat.le_of_ble_eq_true rfl) ?_
    refine ev_aload_n f7_0 rfl ?_
    refine ev_getf f7_1 (by assumption) rfl ?_
    refine ev_aload_n f7_4 rfl ?_
    refine ev_getf f7_5 (by assumption) rfl ?_
    refine ev_icN (by omega) (by omega) (tgt := 13) f7_8 rfl (fun _ => ?_) (fun h9 => absurd (by simp only [akN] at *; omega) h9)
    refine ev_iconstN (n := 0) f7_13 ?_
    refine ev_istore_n f7_14 ?_
    exact r2
  · refine ⟨false, ⟨fun h => Bool.noConfusion h, fun h => absurd ?_ hz⟩, ?_⟩
    · rw [i1.1, i2.1]
      exact nzN_congr (fun j hj => by rw [h j hj])
    · refine cr_mk ow7 (Nat.le_of_ble_eq_true rfl) ?_
      refine ev_aload_n f7_0 rfl ?_
      refine ev_getf f7_1 (by assumption) rfl ?_
      refine ev_aload_n f7_4 rfl ?_
      refine ev_getf f7_5 (by assumption) rfl ?_
      refine ev_icN (by omega) (by omega) (tgt := 13) f7_8 rfl (fun h9 => absurd h9 (by simp only [akN] at *; omega)) (fun _ => ?_)
      refine ev_iconstN (n := 0) f7_11 ?_
      first | exact ev_iret f7_12 (rZ rfl true) rfl | exact ev_iret f7_12 (rZ rfl false) rfl | exact ev_iret f7_12 (rZ rfl _) rfl
