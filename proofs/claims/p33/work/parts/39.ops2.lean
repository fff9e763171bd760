/-! merge, intersect, isSame, distinct, fingerprintAt; rows laid by wip/whole/walk.py -/
theorem en_mono {a b : Nat} (h : a ≤ b) : enN a ≤ enN b := by
  unfold enN
  omega
theorem EE_le {g1 g2 : Nat → Nat} (h : ∀ k, g1 k ≤ g2 k) : ∀ n, EE g1 n ≤ EE g2 n
  | 0 => Nat.le_refl _
  | n + 1 => by
    have h1 := EE_le h n
    have h2 := en_mono (h n)
    rw [EE_s, EE_s]
    omega
theorem EE_su (g1 g2 : Nat → Nat) : ∀ n, EE (suN g1 g2) n ≤ EE g1 n + EE g2 n
  | 0 => Nat.le_refl _
  | n + 1 => by
    have h1 := EE_su g1 g2 n
    have h2 : enN (suN g1 g2 n) ≤ enN (g1 n) + enN (g2 n) := by
      unfold enN suN
      omega
    rw [EE_s, EE_s, EE_s]
    omega
section OP
variable {hs : amH} {q : Nat → Nat} {g : Nat → Nat → Nat} {f e : Nat}
theorem two_read (h : CS hs q g) (hf : f < 4) (he : e < 4) : ∃ hs1 hs2, Cr 31 [.ref (3 + 6 * f), .ref 27] hs none hs1 ∧ CS hs1 q g ∧ Cr 31 [.ref (3 + 6 * e), .ref 30] hs1 none hs2 ∧ CS hs2 q g ∧ BagAt hs2 27 (g f) ∧ BagAt hs2 30 (g e) ∧ Fr hs hs2 3 39 := by
  have hh := h
  obtain ⟨a1, a2, a4, ⟨b5, a5⟩, a6⟩ := hh
  obtain ⟨hs1, k1, m1, f1⟩ := c31 (a4 f hf) a5 (by omega)
  have h1 := h.r27 f1 m1
  have hh := h1
  obtain ⟨-, -, a4', -, ⟨b6, a6'⟩, -⟩ := hh
  obtain ⟨hs2, k2, m2, f2⟩ := c31 (a4' e he) a6' (by omega)
  exact ⟨hs1, hs2, k1, h1, k2, h1.r30 f2 m2, m1.fr f2 (by omega), m2, (f1.wide (by omega) (by omega)).tr (f2.wide (by omega) (by omega))⟩
theorem m49 (h : CS hs q g) (hf : f < 4) (he : e < 4) : ClO 49 [.ref 1, .int (nI f), .int (nI e)] hs (if EE (suN (g f) (g e)) 4096 * 8 ≤ 7 * 2 ^ q f then .inl (some (.int (nI (EE (suN (g f) (g e)) 4096)))) else .inr 2) q (if EE (suN (g f) (g e)) 4096 * 8 ≤ 7 * 2 ^ q f then updG g f (suN (g f) (g e)) else g) := by
  obtain ⟨o3, o8, -⟩ := (h.2.2.1 f hf).obj
  obtain ⟨l1, l2, l3, l4, l5⟩ := (h.2.2.1 f hf).le
  obtain ⟨r1, r2, r3, r4, r5⟩ := (h.2.2.1 e he).le
  obtain ⟨hs1, hs2, k1, h1, k2, h2, m1, m2, f2⟩ := two_read h hf he
  have hh := h2
  obtain ⟨-, -, -, -, -, ⟨b7, a7⟩, -⟩ := hh
  obtain ⟨hs3, k3, m3, f3⟩ := c3 a7 m1 m2 (by omega) (fun j => by
    have := l3 j
    have := r3 j
    unfold suN
    omega) (by omega) (by omega)
  have h3 := h2.r33 f3 m3
  have fr3 := f2.tr (f3.wide (show 3 ≤ 33 by omega) (show 33 + 3 ≤ 39 by omega))
  have hEE := EE_su (g f) (g e) 4096
  obtain ⟨x1, x2, ⟨_, x3⟩, ⟨_, x4⟩, ⟨_, x5⟩, x6⟩ := h.cells hf
  obtain ⟨-, x7, -⟩ := h.cells he
  obtain ⟨y1, y2, ⟨_, y3⟩, ⟨_, y4⟩, ⟨_, y5⟩, y6⟩ := h1.cells hf
  obtain ⟨-, y7, -⟩ := h1.cells he
  obtain ⟨z1, z2, ⟨_, z3⟩, ⟨_, z4⟩, ⟨_, z5⟩, z6⟩ := h2.cells hf
  obtain ⟨u1, u2, ⟨_, u3⟩, ⟨_, u4⟩, ⟨_, u5⟩, u6⟩ := h3.cells hf
  refine clo_mk ow49 (Nat.le_of_ble_eq_true rfl) ?_
  refine eq_ (fun _ k => ev_aload_n f49_0 rfl k) ?_
  refine eq_ (fun _ k => ev_iload_n f49_1 rfl k) ?_
  refine eq_ (fun _ k => ev_v1 f49_2 ow67 (by assumption) rfl (Nat.le_of_ble_eq_true rfl) (c67 h hf) k) ?_
  refine eq_ (fun _ k => ev_astore_n f49_5 k) ?_
  refine eq_ (fun _ k => ev_aload_n f49_6 rfl k) ?_
  refine eq_ (fun _ k => ev_iload_n f49_7 rfl k) ?_
  refine eq_ (fun _ k => ev_v1 f49_8 ow67 (by assumption) rfl (Nat.le_of_ble_eq_true rfl) (c67 h he) k) ?_
  refine eq_ (fun _ k => ev_astore f49_11 k) ?_
  refine eq_ (fun _ k => ev_aload_n f49_13 rfl k) ?_
  refine eq_ (fun _ k => ev_aload_n f49_14 rfl k) ?_
  refine eq_ (fun _ k => ev_getf f49_15 (by assumption) rfl k) ?_
  refine eq_ (fun _ k => ev_v1 f49_18 ow31 (by assumption) rfl (Nat.le_of_ble_eq_true rfl) (k1) k) ?_
  refine eq_ (fun _ k => ev_aload f49_21 rfl k) ?_
  refine eq_ (fun _ k => ev_aload_n f49_23 rfl k) ?_
  refine eq_ (fun _ k => ev_getf f49_24 (by assumption) rfl k) ?_
  refine eq_ (fun _ k => ev_v1 f49_27 ow31 (by assumption) rfl (Nat.le_of_ble_eq_true rfl) (k2) k) ?_
  refine eq_ (fun _ k => ev_aload_n f49_30 rfl k) ?_
  refine eq_ (fun _ k => ev_getf f49_31 (by assumption) rfl k) ?_
  refine eq_ (fun _ k => ev_aload_n f49_34 rfl k) ?_
  refine eq_ (fun _ k => ev_getf f49_35 (by assumption) rfl k) ?_
  refine eq_ (fun _ k => ev_aload_n f49_38 rfl k) ?_
  refine eq_ (fun _ k => ev_getf f49_39 (by assumption) rfl k) ?_
  refine eq_ (fun _ k => ev_v2 f49_42 ow3 (by assumption) rfl rfl (Nat.le_of_ble_eq_true rfl) (k3) k) ?_
  refine eq_ (fun _ k => ev_aload_n f49_45 rfl k) ?_
  refine eq_ (fun _ k => ev_getf f49_46 (by assumption) rfl k) ?_
  refine eq_ (fun _ k => ev_aload_n f49_49 rfl k) ?_
  refine eq_ (fun _ k => ev_getf f49_50 (by assumption) rfl k) ?_
  by_cases hE : EE (suN (g f) (g e)) 4096 * 8 ≤ 7 * 2 ^ q f
  · rw [if_pos hE, if_pos hE]
    obtain ⟨hs5, k5, m5, f5⟩ := f33 (h3.2.2.1 f hf) m3 o3 o8 hE (fun j hj => by unfold suN; rw [l5 j hj, r5 j hj]) (by omega)
    have h5 := h3.tab hf f5 m5
    rw [updN_same] at h5
    have k6 := f20 m5
    obtain ⟨w1, w2, w3⟩ := h5.cells hf
    refine eq_ (fun _ k => ev_s2 f49_53 (by decide) ow71 rfl rfl (Nat.le_of_ble_eq_true rfl) (c71 m3 o3 o8 hE) k) ?_
    refine eq_ (fun _ k => ev_aload_n f49_56 rfl k) ?_
    refine eq_ (fun _ k => ev_aload_n f49_57 rfl k) ?_
    refine eq_ (fun _ k => ev_getf f49_58 (by assumption) rfl k) ?_
    refine eq_ (fun _ k => ev_aload_n f49_61 rfl k) ?_
    refine eq_ (fun _ k => ev_getf f49_62 (by assumption) rfl k) ?_
    refine eq_ (fun _ k => ev_v2 f49_65 ow33 (by assumption) rfl rfl (Nat.le_of_ble_eq_true rfl) (k5) k) ?_
    refine eq_ (fun _ k => ev_aload_n f49_68 rfl k) ?_
    refine eq_ (fun _ k => ev_v0 f49_69 ow20 (by assumption) (Nat.le_of_ble_eq_true rfl) (k6) k) ?_
    refine ⟨_, ev_iret f49_72 (rI rfl _) rfl, ?_⟩
    exact ⟨hs5, rfl, h5, fr3.tr (f5.wide (by omega) (by omega))⟩
  · rw [if_neg hE, if_neg hE]
    refine ⟨_, ev_st2 f49_53 ow71 rfl rfl (Nat.le_of_ble_eq_true rfl) (c71t m3 o3 o8 (by omega) hE) rfl rfl, ?_⟩
    exact ⟨hs3, rfl, h3, fr3⟩
theorem m50 (h : CS hs q g) (hf : f < 4) (he : e < 4) : ClO 50 [.ref 1, .int (nI f), .int (nI e)] hs (.inl (some (.int (nI (EE (miN (g f) (g e)) 4096))))) q (updG g f (miN (g f) (g e))) := by
  obtain ⟨o3, o8, -⟩ := (h.2.2.1 f hf).obj
  obtain ⟨l1, l2, l3, l4, l5⟩ := (h.2.2.1 f hf).le
  obtain ⟨hs1, hs2, k1, h1, k2, h2, m1, m2, f2⟩ := two_read h hf he
  have hh := h2
  obtain ⟨-, -, -, -, -, ⟨b7, a7⟩, -⟩ := hh
  obtain ⟨hs3, k3, m3, f3⟩ := c4 a7 m1 m2 (by omega) (by omega)
  have h3 := h2.r33 f3 m3
  have fr3 := f2.tr (f3.wide (show 3 ≤ 33 by omega) (show 33 + 3 ≤ 39 by omega))
  have hEE := EE_le (g1 := miN (g f) (g e)) (g2 := g f) (fun k => Nat.min_le_left _ _) 4096
  obtain ⟨hs5, k5, m5, f5⟩ := f33 (h3.2.2.1 f hf) m3 o3 o8 (by omega) (fun j hj => by unfold miN; rw [l5 j hj]; omega) (by omega)
  have h5 := h3.tab hf f5 m5
  rw [updN_same] at h5
  have k6 := f20 m5
  obtain ⟨x1, x2, ⟨_, x3⟩, ⟨_, x4⟩, ⟨_, x5⟩, x6⟩ := h.cells hf
  obtain ⟨-, x7, -⟩ := h.cells he
  obtain ⟨y1, y2, ⟨_, y3⟩, ⟨_, y4⟩, ⟨_, y5⟩, y6⟩ := h1.cells hf
  obtain ⟨-, y7, -⟩ := h1.cells he
  obtain ⟨z1, z2, ⟨_, z3⟩, ⟨_, z4⟩, ⟨_, z5⟩, z6⟩ := h2.cells hf
  obtain ⟨u1, u2, ⟨_, u3⟩, ⟨_, u4⟩, ⟨_, u5⟩, u6⟩ := h3.cells hf
  obtain ⟨w1, w2, w3⟩ := h5.cells hf
  refine clo_mk ow50 (Nat.le_of_ble_eq_true rfl) ?_
  refine eq_ (fun _ k => ev_aload_n f50_0 rfl k) ?_
  refine eq_ (fun _ k => ev_iload_n f50_1 rfl k) ?_
  refine eq_ (fun _ k => ev_v1 f50_2 ow67 (by assumption) rfl (Nat.le_of_ble_eq_true rfl) (c67 h hf) k) ?_
  refine eq_ (fun _ k => ev_astore_n f50_5 k) ?_
  refine eq_ (fun _ k => ev_aload_n f50_6 rfl k) ?_
  refine eq_ (fun _ k => ev_iload_n f50_7 rfl k) ?_
  refine eq_ (fun _ k => ev_v1 f50_8 ow67 (by assumption) rfl (Nat.le_of_ble_eq_true rfl) (c67 h he) k) ?_
  refine eq_ (fun _ k => ev_astore f50_11 k) ?_
  refine eq_ (fun _ k => ev_aload_n f50_13 rfl k) ?_
  refine eq_ (fun _ k => ev_aload_n f50_14 rfl k) ?_
  refine eq_ (fun _ k => ev_getf f50_15 (by assumption) rfl k) ?_
  refine eq_ (fun _ k => ev_v1 f50_18 ow31 (by assumption) rfl (Nat.le_of_ble_eq_true rfl) (k1) k) ?_
  refine eq_ (fun _ k => ev_aload f50_21 rfl k) ?_
  refine eq_ (fun _ k => ev_aload_n f50_23 rfl k) ?_
  refine eq_ (fun _ k => ev_getf f50_24 (by assumption) rfl k) ?_
  refine eq_ (fun _ k => ev_v1 f50_27 ow31 (by assumption) rfl (Nat.le_of_ble_eq_true rfl) (k2) k) ?_
  refine eq_ (fun _ k => ev_aload_n f50_30 rfl k) ?_
  refine eq_ (fun _ k => ev_getf f50_31 (by assumption) rfl k) ?_
  refine eq_ (fun _ k => ev_aload_n f50_34 rfl k) ?_
  refine eq_ (fun _ k => ev_getf f50_35 (by assumption) rfl k) ?_
  refine eq_ (fun _ k => ev_aload_n f50_38 rfl k) ?_
  refine eq_ (fun _ k => ev_getf f50_39 (by assumption) rfl k) ?_
  refine eq_ (fun _ k => ev_v2 f50_42 ow4 (by assumption) rfl rfl (Nat.le_of_ble_eq_true rfl) (k3) k) ?_
  refine eq_ (fun _ k => ev_aload_n f50_45 rfl k) ?_
  refine eq_ (fun _ k => ev_aload_n f50_46 rfl k) ?_
  refine eq_ (fun _ k => ev_getf f50_47 (by assumption) rfl k) ?_
  refine eq_ (fun _ k => ev_aload_n f50_50 rfl k) ?_
  refine eq_ (fun _ k => ev_getf f50_51 (by assumption) rfl k) ?_
  refine eq_ (fun _ k => ev_v2 f50_54 ow33 (by assumption) rfl rfl (Nat.le_of_ble_eq_true rfl) (k5) k) ?_
  refine eq_ (fun _ k => ev_aload_n f50_57 rfl k) ?_
  refine eq_ (fun _ k => ev_v0 f50_58 ow20 (by assumption) (Nat.le_of_ble_eq_true rfl) (k6) k) ?_
  refine ⟨_, ev_iret f50_61 (rI rfl _) rfl, ?_⟩
  exact ⟨hs5, rfl, h5, fr3.tr (f5.wide (by omega) (by omega))⟩
theorem m51 (h : CS hs q g) (hf : f < 4) (he : e < 4) : ∃ r : Bool, (r = true ↔ saN (g f) (g e)) ∧ ClO 51 [.ref 1, .int (nI f), .int (nI e)] hs (.inl (some (.int (nI r.toNat)))) q g := by
  obtain ⟨hs1, hs2, k1, h1, k2, h2, m1, m2, f2⟩ := two_read h hf he
  obtain ⟨r, r1, k3⟩ := c7 m1 m2
  obtain ⟨x1, x2, ⟨_, x3⟩, ⟨_, x4⟩, ⟨_, x5⟩, x6⟩ := h.cells hf
  obtain ⟨-, x7, -⟩ := h.cells he
  obtain ⟨y1, y2, ⟨_, y3⟩, ⟨_, y4⟩, ⟨_, y5⟩, y6⟩ := h1.cells hf
  obtain ⟨-, y7, -⟩ := h1.cells he
  obtain ⟨z1, z2, ⟨_, z3⟩, ⟨_, z4⟩, ⟨_, z5⟩, z6⟩ := h2.cells hf
  refine ⟨r, r1, ?_⟩
  refine clo_mk ow51 (Nat.le_of_ble_eq_true rfl) ?_
  refine eq_ (fun _ k => ev_aload_n f51_0 rfl k) ?_
  refine eq_ (fun _ k => ev_iload_n f51_1 rfl k) ?_
  refine eq_ (fun _ k => ev_v1 f51_2 ow67 (by assumption) rfl (Nat.le_of_ble_eq_true rfl) (c67 h hf) k) ?_
  refine eq_ (fun _ k => ev_astore_n f51_5 k) ?_
  refine eq_ (fun _ k => ev_aload_n f51_6 rfl k) ?_
  refine eq_ (fun _ k => ev_iload_n f51_7 rfl k) ?_
  refine eq_ (fun _ k => ev_v1 f51_8 ow67 (by assumption) rfl (Nat.le_of_ble_eq_true rfl) (c67 h he) k) ?_
  refine eq_ (fun _ k => ev_astore f51_11 k) ?_
  refine eq_ (fun _ k => ev_aload_n f51_13 rfl k) ?_
  refine eq_ (fun _ k => ev_aload_n f51_14 rfl k) ?_
  refine eq_ (fun _ k => ev_getf f51_15 (by assumption) rfl k) ?_
  refine eq_ (fun _ k => ev_v1 f51_18 ow31 (by assumption) rfl (Nat.le_of_ble_eq_true rfl) (k1) k) ?_
  refine eq_ (fun _ k => ev_aload f51_21 rfl k) ?_
  refine eq_ (fun _ k => ev_aload_n f51_23 rfl k) ?_
  refine eq_ (fun _ k => ev_getf f51_24 (by assumption) rfl k) ?_
  refine eq_ (fun _ k => ev_v1 f51_27 ow31 (by assumption) rfl (Nat.le_of_ble_eq_true rfl) (k2) k) ?_
  refine eq_ (fun _ k => ev_aload_n f51_30 rfl k) ?_
  refine eq_ (fun _ k => ev_getf f51_31 (by assumption) rfl k) ?_
  refine eq_ (fun _ k => ev_aload_n f51_34 rfl k) ?_
  refine eq_ (fun _ k => ev_getf f51_35 (by assumption) rfl k) ?_
  refine eq_ (fun _ k => ev_v1 f51_38 ow7 (by assumption) rfl (Nat.le_of_ble_eq_true rfl) (k3) k) ?_
  first | refine ⟨_, ev_iret f51_41 (rZ rfl true) rfl, ?_⟩ | refine ⟨_, ev_iret f51_41 (rZ rfl false) rfl, ?_⟩ | refine ⟨_, ev_iret f51_41 (rZ rfl _) rfl, ?_⟩
  exact ⟨hs2, rfl, h2, f2⟩
theorem one_read (h : CS hs q g) (hf : f < 4) : ∃ hs1, Cr 31 [.ref (3 + 6 * f), .ref 27] hs none hs1 ∧ CS hs1 q g ∧ BagAt hs1 27 (g f) ∧ Fr hs hs1 3 39 := by
  have hh := h
  obtain ⟨a1, a2, a4, ⟨b5, a5⟩, a6⟩ := hh
  obtain ⟨hs1, k1, m1, f1⟩ := c31 (a4 f hf) a5 (by omega)
  exact ⟨hs1, k1, h.r27 f1 m1, m1, f1.wide (by omega) (by omega)⟩
theorem m54 (h : CS hs q g) (hf : f < 4) : ClO 54 [.ref 1, .int (nI f)] hs (.inl (some (.int (nI (nzN (g f) 4096))))) q g := by
  obtain ⟨hs1, k1, h1, m1, f1⟩ := one_read h hf
  obtain ⟨x1, x2, -⟩ := h.cells hf
  have y1 := h1.1
  obtain ⟨F, C, z, ⟨b0, z5, a0, a1, a2⟩, hz0, hg, hF⟩ := m1
  rw [hz0] at a0
  refine clo_mk ow54 (Nat.le_of_ble_eq_true rfl) ?_
  refine eq_ (fun _ k => ev_aload_n f54_0 rfl k) ?_
  refine eq_ (fun _ k => ev_iload_n f54_1 rfl k) ?_
  refine eq_ (fun _ k => ev_v1 f54_2 ow67 (by assumption) rfl (Nat.le_of_ble_eq_true rfl) (c67 h hf) k) ?_
  refine eq_ (fun _ k => ev_aload_n f54_5 rfl k) ?_
  refine eq_ (fun _ k => ev_getf f54_6 (by assumption) rfl k) ?_
  refine eq_ (fun _ k => ev_v1 f54_9 ow31 (by assumption) rfl (Nat.le_of_ble_eq_true rfl) (k1) k) ?_
  refine eq_ (fun _ k => ev_aload_n f54_12 rfl k) ?_
  refine eq_ (fun _ k => ev_getf f54_13 (by assumption) rfl k) ?_
  refine eq_ (fun _ k => ev_getf f54_16 (by assumption) rfl k) ?_
  refine ⟨_, ev_iret f54_19 (rI rfl _) rfl, ?_⟩
  exact ⟨hs1, rfl, h1, f1⟩
theorem m56 {k : Nat} (h : CS hs q g) (hf : f < 4) (hk : k < 4096) (h0 : 0 < g f k) : ClO 56 [.ref 1, .int (nI f), .int (nI (nzN (g f) k))] hs (.inl (some (.int (nI k)))) q g := by
  obtain ⟨hs1, k1, h1, m1, f1⟩ := one_read h hf
  obtain ⟨x1, x2, -⟩ := h.cells hf
  have y1 := h1.1
  have hlt := nzN_lt hk h0
  obtain ⟨F, C, z, ⟨b0, z5, a0, a1, a2⟩, hz0, hg, hF⟩ := m1
  have e1 := (hF k hk h0).1
  conv => arg 4; rw [← e1]
  refine clo_mk ow56 (Nat.le_of_ble_eq_true rfl) ?_
  refine eq_ (fun _ k => ev_aload_n f56_0 rfl k) ?_
  refine eq_ (fun _ k => ev_iload_n f56_1 rfl k) ?_
  refine eq_ (fun _ k => ev_v1 f56_2 ow67 (by assumption) rfl (Nat.le_of_ble_eq_true rfl) (c67 h hf) k) ?_
  refine eq_ (fun _ k => ev_aload_n f56_5 rfl k) ?_
  refine eq_ (fun _ k => ev_getf f56_6 (by assumption) rfl k) ?_
  refine eq_ (fun _ k => ev_v1 f56_9 ow31 (by assumption) rfl (Nat.le_of_ble_eq_true rfl) (k1) k) ?_
  refine eq_ (fun _ k => ev_iload_n f56_12 rfl k) ?_
  refine eq_ifN (by omega) (tgt := 27) f56_13 rfl (fun h9 => absurd h9 (by simp only [akN] at *; omega)) (fun _ => ?_)
  refine eq_ (fun _ k => ev_iload_n f56_16 rfl k) ?_
  refine eq_ (fun _ k => ev_aload_n f56_17 rfl k) ?_
  refine eq_ (fun _ k => ev_getf f56_18 (by assumption) rfl k) ?_
  refine eq_ (fun _ k => ev_getf f56_21 (by assumption) rfl k) ?_
  refine eq_icN (by omega) (by omega) (tgt := 37) f56_24 rfl (fun _ => ?_) (fun h9 => absurd (by simp only [akN] at *; omega) h9)
  refine eq_ (fun _ k => ev_aload_n f56_37 rfl k) ?_
  refine eq_ (fun _ k => ev_getf f56_38 (by assumption) rfl k) ?_
  refine eq_ (fun _ k => ev_getf f56_41 (by assumption) rfl k) ?_
  refine eq_ (fun _ k => ev_iload_n f56_44 rfl k) ?_
  refine eq_ (fun _ k => ev_iald f56_45 (by assumption) (by omega) (by omega) k) ?_
  refine ⟨_, ev_iret f56_46 (rI rfl _) rfl, ?_⟩
  exact ⟨hs1, rfl, h1, f1⟩
theorem m56p {p : Int32} (h : CS hs q g) (hf : f < 4) (hp : ¬ inR p (nzN (g f) 4096)) : ClO 56 [.ref 1, .int (nI f), .int p] hs (.inr 1) q g := by
  obtain ⟨hs1, k1, h1, m1, f1⟩ := one_read h hf
  obtain ⟨x1, x2, -⟩ := h.cells hf
  have y1 := h1.1
  have hle := nzN_le (g f) 4096
  have h2 := inR_no (by omega) hp
  obtain ⟨F, C, z, ⟨b0, z5, a0, a1, a2⟩, hz0, hg, hF⟩ := m1
  rw [hz0] at a0
  refine clo_mk ow56 (Nat.le_of_ble_eq_true rfl) ?_
  refine eq_ (fun _ k => ev_aload_n f56_0 rfl k) ?_
  refine eq_ (fun _ k => ev_iload_n f56_1 rfl k) ?_
  refine eq_ (fun _ k => ev_v1 f56_2 ow67 (by assumption) rfl (Nat.le_of_ble_eq_true rfl) (c67 h hf) k) ?_
  refine eq_ (fun _ k => ev_aload_n f56_5 rfl k) ?_
  refine eq_ (fun _ k => ev_getf f56_6 (by assumption) rfl k) ?_
  refine eq_ (fun _ k => ev_v1 f56_9 ow31 (by assumption) rfl (Nat.le_of_ble_eq_true rfl) (k1) k) ?_
  refine eq_ (fun _ k => ev_iload_n f56_12 rfl k) ?_
  refine eq_if (tgt := 27) f56_13 rfl (fun hc => ?_) (fun hc => ?_)
  · refine ⟨_, ev_throw f56_27 (Nat.le_of_ble_eq_true rfl) rfl, ?_⟩
    exact ⟨hs1, rfl, h1, f1⟩
  · refine eq_ (fun _ k => ev_iload_n f56_16 rfl k) ?_
    refine eq_ (fun _ k => ev_aload_n f56_17 rfl k) ?_
    refine eq_ (fun _ k => ev_getf f56_18 (by assumption) rfl k) ?_
    refine eq_ (fun _ k => ev_getf f56_21 (by assumption) rfl k) ?_
    refine eq_ic (tgt := 37) f56_24 rfl (fun hc => ?_) (fun hc => ?_)
    · exact absurd hc (h2.resolve_left (by assumption))
    · refine ⟨_, ev_throw f56_27 (Nat.le_of_ble_eq_true rfl) rfl, ?_⟩
      exact ⟨hs1, rfl, h1, f1⟩
end OP
