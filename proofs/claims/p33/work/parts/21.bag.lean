/-! the bags' methods; rows laid by wip/whole/walk.py -/
theorem updN_same (f : Nat → Nat) (k : Nat) : updN f k (f k) = f := by
  funext j
  unfold updN
  split
  · rename_i h; rw [h]
  · rfl
theorem updN_at (f : Nat → Nat) (k v : Nat) : updN f k v k = v := if_pos rfl
theorem updN_ne (f : Nat → Nat) {k j : Nat} (v : Nat) (h : ¬ j = k) : updN f k v j = f j := if_neg h
theorem nz0 : nzN (fun _ => 0) 4096 = 0 := (nzN_above (f := fun _ => 0) (Nat.zero_le 4096) (fun _ _ _ => rfl)).trans rfl
theorem c1 {hs : amH} {b : Nat} {g : Nat → Nat} (h : BagAt hs b g) : CrQ 1 [.ref b] hs none (fun hs' => BagAt hs' b (fun _ => 0) ∧ Fr hs hs' b (b + 3)) := by
  obtain ⟨F, C, z, ⟨b0, z5, a0, a1, a2⟩, hz0, hg, hF⟩ := h
  refine crq_mk ow1 (Nat.le_of_ble_eq_true rfl) ?_
  refine eq_ (fun _ k => ev_aload_n f1_0 rfl k) ?_
  refine eq_ (fun _ k => ev_iconstN (n := 0) f1_1 k) ?_
  refine eq_putf f1_2 (by assumption) rfl (Nat.le_of_ble_eq_true rfl) (fun hs1 e1 => ?_)
  refine ⟨_, ev_vret f1_5 rfl, ?_⟩
  refine ⟨_, rfl, ⟨F, C, 0, ⟨b0, by omega, am_set e1 a0, (am_set2 e1 (by omega)).trans a1, (am_set2 e1 (by omega)).trans a2⟩, nz0.symm, fun _ => Nat.zero_lt_succ _, fun k _ h0 => absurd h0 (Nat.lt_irrefl 0)⟩, Fr.st e1 (by omega) (by omega)⟩
theorem l2 {hs : amH} {b z k c : Nat} {g F C : Nat → Nat} (h : BagC hs b F C z) (hi : BagIs g F C z) (hk : k < 4096) (hk0 : g k = 0) (ha : ∀ j, k < j → j < 4096 → g j = 0) (hc : g k + c < 2 ^ 20) (hz : z < 512) (w : Option Value) : EvQ 2 34 [some (.ref b), some (.int (nI k)), some (.int (nI c)), w] [] hs 0 0 (Rt none (fun hs' => BagAt hs' b (updN g k (g k + c)) ∧ Fr hs hs' b (b + 3))) := by
  have h9 := h
  have i9 := hi
  obtain ⟨b0, z5, a0, a1, a2⟩ := h
  obtain ⟨hz0, hg, hF⟩ := hi
  by_cases c0 : c = 0
  · subst c0
    refine eq_ (fun _ k => ev_iload_n f2_34 rfl k) ?_
    refine eq_ifN (by omega) (tgt := 80) f2_35 rfl (fun _ => ?_) (fun h9 => absurd (by simp only [akN] at *; omega) h9)
    refine ⟨_, ev_vret f2_80 rfl, ?_⟩
    refine ⟨_, rfl, ?_, Fr.refl⟩
    rw [Nat.add_zero, updN_same]
    exact ⟨F, C, z, h9, i9⟩
  · refine eq_ (fun _ k => ev_iload_n f2_34 rfl k) ?_
    refine eq_ifN (by omega) (tgt := 80) f2_35 rfl (fun h9 => absurd h9 (by simp only [akN] at *; omega)) (fun _ => ?_)
    refine eq_ (fun _ k => ev_aload_n f2_38 rfl k) ?_
    refine eq_ (fun _ k => ev_getf f2_39 (by assumption) rfl k) ?_
    refine eq_ (fun _ k => ev_aload_n f2_42 rfl k) ?_
    refine eq_ (fun _ k => ev_getf f2_43 (by assumption) rfl k) ?_
    refine eq_ (fun _ k => ev_alen f2_46 (by assumption) k) ?_
    refine eq_icN (by omega) (by omega) (tgt := 80) f2_47 rfl (fun h9 => absurd h9 (by simp only [akN] at *; omega)) (fun _ => ?_)
    refine eq_ (fun _ k => ev_aload_n f2_50 rfl k) ?_
    refine eq_ (fun _ k => ev_getf f2_51 (by assumption) rfl k) ?_
    refine eq_ (fun _ k => ev_aload_n f2_54 rfl k) ?_
    refine eq_ (fun _ k => ev_getf f2_55 (by assumption) rfl k) ?_
    refine eq_ (fun _ k => ev_iload_n f2_58 rfl k) ?_
    refine eq_iast f2_59 (by assumption) (by omega) (by omega) (by omega) (fun hs1 e1 => ?_)
    have a0' := (am_set2 e1 (show ¬ b + 1 = b by omega)).trans a0
    have a1' := am_set e1 a1
    have a2' := (am_set2 e1 (show ¬ b + 1 = b + 2 by omega)).trans a2
    refine eq_ (fun _ k => ev_aload_n f2_60 rfl k) ?_
    refine eq_ (fun _ k => ev_getf f2_61 (by assumption) rfl k) ?_
    refine eq_ (fun _ k => ev_aload_n f2_64 rfl k) ?_
    refine eq_ (fun _ k => ev_getf f2_65 (by assumption) rfl k) ?_
    refine eq_ (fun _ k => ev_iload_n f2_68 rfl k) ?_
    refine eq_iast f2_69 (by assumption) (by omega) (by omega) (by omega) (fun hs2 e2 => ?_)
    have a0'' := (am_set2 e2 (show ¬ b + 2 = b by omega)).trans a0'
    have a1'' := (am_set2 e2 (show ¬ b + 2 = b + 1 by omega)).trans a1'
    have a2'' := am_set e2 a2'
    refine eq_ (fun _ k => ev_aload_n f2_70 rfl k) ?_
    refine eq_ (fun _ k => ev_dup f2_71 rfl k) ?_
    refine eq_ (fun _ k => ev_getf f2_72 (by assumption) rfl k) ?_
    refine eq_ (fun _ k => ev_iconstN (n := 1) f2_75 k) ?_
    first | refine eq_ (fun _ k => ev_iaddN f2_76 k) ?_ | refine eq_ (fun _ k => ev_iadd f2_76 k) ?_
    refine eq_putf f2_77 (by assumption) rfl (Nat.le_of_ble_eq_true rfl) (fun hs3 e3 => ?_)
    refine ⟨_, ev_vret f2_80 rfl, ?_⟩
    have a0f := am_set e3 a0''
    have a1f := (am_set2 e3 (show ¬ b = b + 1 by omega)).trans a1''
    have a2f := (am_set2 e3 (show ¬ b = b + 2 by omega)).trans a2''
    rw [upd_N] at a1f a2f
    have hnz : nzN g 4096 = nzN g k := nzN_above (by omega) (fun j h1 h2 => by
      by_cases e : j = k
      · rw [e]; exact hk0
      · exact ha j (by omega) h2)
    have hlow : ∀ j, j ≤ k → nzN (updN g k (g k + c)) j = nzN g j := fun j hj => nzN_congr (fun i hi2 => by rw [updN_ne _ _ (by omega)])
    refine ⟨_, rfl, ⟨updN F z k, updN C z c, z + 1, ⟨b0, by omega, a0f, a1f, a2f⟩, ?_, ?_, ?_⟩, ((Fr.st e1 (by omega) (by omega)).tr (Fr.st e2 (by omega) (by omega))).tr (Fr.st e3 (by omega) (by omega))⟩
    · rw [nzN_above (f := updN g k (g k + c)) (show k + 1 ≤ 4096 by omega) (fun j h1 h2 => by rw [updN_ne _ _ (by omega)]; exact ha j (by omega) h2), nzN_pos (by rw [updN_at]; omega), hlow k (Nat.le_refl k), ← hnz, ← hz0]
    · intro j
      unfold updN
      split
      · exact hc
      · exact hg j
    · intro j h1 h2
      by_cases e : j = k
      · subst e
        rw [hlow j (Nat.le_refl j), ← hnz, ← hz0, updN_at, updN_at, updN_at]
        exact ⟨rfl, by omega⟩
      · rw [updN_ne _ _ e] at h2 ⊢
        have h3 : j < k := by
          refine Nat.lt_of_not_le (fun h4 => ?_)
          have := ha j (by omega) h1
          omega
        have h5 := nzN_lt h3 h2
        rw [hlow j (by omega), updN_ne _ _ (by omega), updN_ne _ _ (by omega)]
        exact hF j h1 h2
theorem c2 {hs : amH} {b k c : Nat} {g : Nat → Nat} (h : BagAt hs b g) (hk : k < 4096) (ha : ∀ j, k < j → j < 4096 → g j = 0) (hc : g k + c < 2 ^ 20) (hz : nzN g k < 512) : CrQ 2 [.ref b, .int (nI k), .int (nI c)] hs none (fun hs' => BagAt hs' b (updN g k (g k + c)) ∧ Fr hs hs' b (b + 3)) := by
  obtain ⟨F, C, z, h9, i9⟩ := h
  have h := h9
  have hi := i9
  obtain ⟨b0, z5, a0, a1, a2⟩ := h
  obtain ⟨hz0, hg, hF⟩ := hi
  refine crq_mk ow2 (Nat.le_of_ble_eq_true rfl) ?_
  have hup : nzN g 4096 = nzN g (k + 1) := nzN_above (by omega) (fun j h1 h2 => ha j (by omega) h2)
  by_cases z0 : z = 0
  · have hk0 : g k = 0 := by
      refine Classical.byContradiction (fun h1 => ?_)
      have := nzN_lt hk (show 0 < g k by omega)
      omega
    subst z0
    refine eq_ (fun _ k => ev_aload_n f2_0 rfl k) ?_
    refine eq_ (fun _ k => ev_getf f2_1 (by assumption) rfl k) ?_
    refine eq_ (fun _ k => ev_iconstN (n := 1) f2_4 k) ?_
    refine eq_ (fun _ k => ev_isub f2_5 k) ?_
    refine eq_ (fun _ k => ev_istore_n f2_6 k) ?_
    refine eq_ (fun _ k => ev_iload_n f2_7 rfl k) ?_
    refine eq_if (tgt := 34) f2_8 rfl (fun _ => ?_) (fun h => absurd (show ak0 .lt (nI 0 - nI 1) by simp only [ak0]; decide) h)
    exact l2 h9 i9 hk hk0 ha hc (by omega) _
  · by_cases hk0 : g k = 0
    · have hz2 : z = nzN g k := by rw [hz0, hup, nzN_zero hk0]
      have hz3 := bag_ge i9 (show 0 ≤ 4096 by omega) (Nat.zero_le _) (show z - 1 < z by omega)
      have hne : ¬ F (z - 1) = k := fun e => by
        rw [e] at hz3
        omega
      have hbb := hz3.2.1
      refine eq_ (fun _ k => ev_aload_n f2_0 rfl k) ?_
      refine eq_ (fun _ k => ev_getf f2_1 (by assumption) rfl k) ?_
      refine eq_ (fun _ k => ev_iconstN (n := 1) f2_4 k) ?_
      refine eq_ (fun _ k => ev_isubN (by omega) f2_5 k) ?_
      refine eq_ (fun _ k => ev_istore_n f2_6 k) ?_
      refine eq_ (fun _ k => ev_iload_n f2_7 rfl k) ?_
      refine eq_ifN (by omega) (tgt := 34) f2_8 rfl (fun h9 => absurd h9 (by simp only [akN] at *; omega)) (fun _ => ?_)
      refine eq_ (fun _ k => ev_aload_n f2_11 rfl k) ?_
      refine eq_ (fun _ k => ev_getf f2_12 (by assumption) rfl k) ?_
      refine eq_ (fun _ k => ev_iload_n f2_15 rfl k) ?_
      refine eq_ (fun _ k => ev_iald f2_16 (by assumption) (by omega) (by omega) k) ?_
      refine eq_ (fun _ k => ev_iload_n f2_17 rfl k) ?_
      refine eq_icN (by omega) (by omega) (tgt := 34) f2_18 rfl (fun _ => ?_) (fun h9 => absurd hne h9)
      exact l2 h9 i9 hk hk0 ha hc (by omega) _
    · have hz2 : z = nzN g k + 1 := by rw [hz0, hup, nzN_pos (by omega)]
      obtain ⟨f1, f2⟩ := hF k hk (by omega)
      have f3 : F (z - 1) = k := by rw [show z - 1 = nzN g k by omega]; exact f1
      have f4 : C (z - 1) = g k := by rw [show z - 1 = nzN g k by omega]; exact f2
      have hgk := hg k
      refine eq_ (fun _ k => ev_aload_n f2_0 rfl k) ?_
      refine eq_ (fun _ k => ev_getf f2_1 (by assumption) rfl k) ?_
      refine eq_ (fun _ k => ev_iconstN (n := 1) f2_4 k) ?_
      refine eq_ (fun _ k => ev_isubN (by omega) f2_5 k) ?_
      refine eq_ (fun _ k => ev_istore_n f2_6 k) ?_
      refine eq_ (fun _ k => ev_iload_n f2_7 rfl k) ?_
      refine eq_ifN (by omega) (tgt := 34) f2_8 rfl (fun h9 => absurd h9 (by simp only [akN] at *; omega)) (fun _ => ?_)
      refine eq_ (fun _ k => ev_aload_n f2_11 rfl k) ?_
      refine eq_ (fun _ k => ev_getf f2_12 (by assumption) rfl k) ?_
      refine eq_ (fun _ k => ev_iload_n f2_15 rfl k) ?_
      refine eq_ (fun _ k => ev_iald f2_16 (by assumption) (by omega) (by omega) k) ?_
      refine eq_ (fun _ k => ev_iload_n f2_17 rfl k) ?_
      refine eq_icN (by omega) (by omega) (tgt := 34) f2_18 rfl (fun h9 => absurd h9 (fun q => q f3)) (fun _ => ?_)
      refine eq_ (fun _ k => ev_aload_n f2_21 rfl k) ?_
      refine eq_ (fun _ k => ev_getf f2_22 (by assumption) rfl k) ?_
      refine eq_ (fun _ k => ev_iload_n f2_25 rfl k) ?_
      refine eq_ (fun _ k => ev_dup2 f2_26 rfl rfl k) ?_
      refine eq_ (fun _ k => ev_iald f2_27 (by assumption) (by omega) (by omega) k) ?_
      refine eq_ (fun _ k => ev_iload_n f2_28 rfl k) ?_
      first | refine eq_ (fun _ k => ev_iaddN f2_29 k) ?_ | refine eq_ (fun _ k => ev_iadd f2_29 k) ?_
      refine eq_iast f2_30 (by assumption) (by omega) (by omega) (by omega) (fun hs1 e1 => ?_)
      refine eq_ (fun _ k => ev_goto (tgt := 80) f2_31 rfl k) ?_
      refine ⟨_, ev_vret f2_80 rfl, ?_⟩
      have a1f := (am_set2 e1 (show ¬ b + 2 = b + 1 by omega)).trans a1
      have a0f := (am_set2 e1 (show ¬ b + 2 = b by omega)).trans a0
      have a2f := am_set e1 a2
      rw [upd_N] at a2f
      have hlow : ∀ j, nzN (updN g k (g k + c)) j = nzN g j := fun j => nzN_congr (fun i hi2 => by
        unfold updN
        split
        · rename_i e; subst e; omega
        · exact Iff.rfl)
      refine ⟨_, rfl, ⟨F, updN C (z - 1) (C (z - 1) + c), z, ⟨b0, by omega, a0f, a1f, a2f⟩, ?_, ?_, ?_⟩, Fr.st e1 (by omega) (by omega)⟩
      · rw [hlow]; exact hz0
      · intro j
        unfold updN
        split
        · exact hc
        · exact hg j
      · intro j h1 h2
        rw [hlow]
        by_cases e : j = k
        · subst e
          rw [updN_at, f1, show nzN g j = z - 1 by omega, updN_at, f4]
          exact ⟨rfl, rfl⟩
        · rw [updN_ne _ _ e] at h2 ⊢
          have h3 : ¬ nzN g j = z - 1 := fun e2 => by
            rcases Nat.lt_or_gt_of_ne e with h4 | h4
            · have := nzN_lt h4 h2
              omega
            · have := nzN_lt h4 (show 0 < g k by omega)
              omega
          rw [updN_ne _ _ h3]
          exact hF j h1 h2
theorem c73 {hs : amH} {k : Nat} (hk : k < 2 ^ 30) : Cr 73 [.int (nI k)] hs (some (.int (nI (enN k)))) hs := by
  refine cr_mk ow73 (Nat.le_of_ble_eq_true rfl) ?_
  refine ev_iload_n f73_0 rfl ?_
  refine ev_bipushN (n := 7) (by omega) f73_1 ?_
  first | refine ev_iaddN f73_3 ?_ | refine ev_iadd f73_3 ?_
  refine ev_iconstN (n := 1) f73_4 ?_
  refine ev_isubN (by omega) f73_5 ?_
  refine ev_bipushN (n := 7) (by omega) f73_6 ?_
  refine ev_idivN (by omega) (by omega) (by omega) f73_8 ?_
  exact ev_iret f73_9 (rI rfl _) rfl
theorem l8 {hs : amH} {b : Nat} {g F C : Nat → Nat} {z : Nat} (h : BagC hs b F C z) (hi : BagIs g F C z) : ∀ (d k : Nat), k + d = 4096 → Ev 8 4 [some (.ref b), some (.int (nI (smN (fun j => enN (g j)) k))), some (.int (nI (nzN g k)))] [] hs 0 0 (.inl (some (.int (nI (smN (fun j => enN (g j)) 4096)))), hs, 0, 0) := by
  obtain ⟨b0, z5, a0, a1, a2⟩ := h
  obtain ⟨hz0, hg, hF⟩ := hi
  intro d
  induction d with
  | zero =>
    intro k hk
    have hk2 : k = 4096 := by omega
    subst hk2
    refine ev_iload_n f8_4 rfl ?_
    refine ev_aload_n f8_5 rfl ?_
    refine ev_getf f8_6 (by assumption) rfl ?_
    refine ev_icN (by omega) (by omega) (tgt := 30) f8_9 rfl (fun _ => ?_) (fun h9 => absurd (by simp only [akN] at *; omega) h9)
    refine ev_iload_n f8_30 rfl ?_
    exact ev_iret f8_31 (rI rfl _) rfl
  | succ d ih =>
    intro k hk
    have hi := ih (k + 1) (by omega)
    by_cases h0 : g k = 0
    · rw [nzN_zero h0, show smN (fun j => enN (g j)) (k + 1) = smN (fun j => enN (g j)) k by show _ + enN (g k) = _; rw [h0]; rfl] at hi
      exact hi
    · have h1 := nzN_lt (n := 4096) (show k < 4096 by omega) (show 0 < g k by omega)
      obtain ⟨e1, e2⟩ := hF k (by omega) (by omega)
      have h2 := hg k
      rw [nzN_pos (by omega), show smN (fun j => enN (g j)) (k + 1) = smN (fun j => enN (g j)) k + enN (C (nzN g k)) by rw [e2]; rfl] at hi
      refine ev_iload_n f8_4 rfl ?_
      refine ev_aload_n f8_5 rfl ?_
      refine ev_getf f8_6 (by assumption) rfl ?_
      refine ev_icN (by omega) (by omega) (tgt := 30) f8_9 rfl (fun h9 => absurd h9 (by simp only [akN] at *; omega)) (fun _ => ?_)
      refine ev_iload_n f8_12 rfl ?_
      refine ev_aload_n f8_13 rfl ?_
      refine ev_getf f8_14 (by assumption) rfl ?_
      refine ev_iload_n f8_17 rfl ?_
      refine ev_iald f8_18 (by assumption) (by omega) (by omega) ?_
      refine ev_s1 f8_19 (by decide) ow73 rfl (Nat.le_of_ble_eq_true rfl) (c73 (by omega)) ?_
      first | refine ev_iaddN f8_22 ?_ | refine ev_iadd f8_22 ?_
      refine ev_istore_n f8_23 ?_
      refine ev_iincN f8_24 rfl ?_
      refine ev_goto (tgt := 4) f8_27 rfl ?_
      exact hi
theorem c8 {hs : amH} {b : Nat} {g : Nat → Nat} (h : BagAt hs b g) : Cr 8 [.ref b] hs (some (.int (nI (smN (fun j => enN (g j)) 4096)))) hs := by
  obtain ⟨F, C, z, h1, h2⟩ := h
  refine cr_mk ow8 (Nat.le_of_ble_eq_true rfl) ?_
  refine ev_iconstN (n := 0) f8_0 ?_
  refine ev_istore_n f8_1 ?_
  refine ev_iconstN (n := 0) f8_2 ?_
  refine ev_istore_n f8_3 ?_
  exact l8 h1 h2 4096 0 rfl
theorem l6 {hs : amH} {b k : Nat} {g F C : Nat → Nat} {z : Nat} (h : BagC hs b F C z) (hi : BagIs g F C z) (hk : k < 4096) (w : Option Value) : ∀ (d j : Nat), j + d = nzN g k → Ev 6 2 [some (.ref b), some (.int (nI k)), w, some (.int (nI j))] [] hs 0 0 (.inl (some (.int (nI (nzN g k)))), hs, 0, 0) := by
  have i9 := hi
  obtain ⟨b0, z5, a0, a1, a2⟩ := h
  obtain ⟨hz0, hg, hF⟩ := hi
  have hm := nzN_mono g (show k ≤ 4096 by omega)
  intro d
  induction d with
  | zero =>
    intro j hj
    have hj2 : j = nzN g k := by omega
    subst hj2
    by_cases hz : nzN g k = z
    · refine ev_iload_n f6_2 rfl ?_
      refine ev_aload_n f6_3 rfl ?_
      refine ev_getf f6_4 (by assumption) rfl ?_
      refine ev_icN (by omega) (by omega) (tgt := 26) f6_7 rfl (fun _ => ?_) (fun h9 => absurd (by simp only [akN] at *; omega) h9)
      refine ev_iload_n f6_26 rfl ?_
      exact ev_iret f6_27 (rI rfl _) rfl
    · have h1 := bag_ge i9 (show k ≤ 4096 by omega) (Nat.le_refl _) (by omega)
      have h2 := h1.1
      have h3 := h1.2.1
      refine ev_iload_n f6_2 rfl ?_
      refine ev_aload_n f6_3 rfl ?_
      refine ev_getf f6_4 (by assumption) rfl ?_
      refine ev_icN (by omega) (by omega) (tgt := 26) f6_7 rfl (fun h9 => absurd h9 (by simp only [akN] at *; omega)) (fun _ => ?_)
      refine ev_aload_n f6_10 rfl ?_
      refine ev_getf f6_11 (by assumption) rfl ?_
      refine ev_iload_n f6_14 rfl ?_
      refine ev_iald f6_15 (by assumption) (by omega) (by omega) ?_
      refine ev_iload_n f6_16 rfl ?_
      refine ev_icN (by omega) (by omega) (tgt := 26) f6_17 rfl (fun _ => ?_) (fun h9 => absurd (by simp only [akN] at *; omega) h9)
      refine ev_iload_n f6_26 rfl ?_
      exact ev_iret f6_27 (rI rfl _) rfl
  | succ d ih =>
    intro j hj
    have hi := ih (j + 1) (by omega)
    have h1 := bag_ge i9 (show 0 ≤ 4096 by omega) (Nat.zero_le _) (show j < z by omega)
    have h2 : F j < k := by
      refine Nat.lt_of_not_le (fun h2 => ?_)
      have := nzN_mono g h2
      omega
    refine ev_iload_n f6_2 rfl ?_
    refine ev_aload_n f6_3 rfl ?_
    refine ev_getf f6_4 (by assumption) rfl ?_
    refine ev_icN (by omega) (by omega) (tgt := 26) f6_7 rfl (fun h9 => absurd h9 (by simp only [akN] at *; omega)) (fun _ => ?_)
    refine ev_aload_n f6_10 rfl ?_
    refine ev_getf f6_11 (by assumption) rfl ?_
    refine ev_iload_n f6_14 rfl ?_
    refine ev_iald f6_15 (by assumption) (by omega) (by omega) ?_
    refine ev_iload_n f6_16 rfl ?_
    refine ev_icN (by omega) (by omega) (tgt := 26) f6_17 rfl (fun h9 => absurd h9 (by simp only [akN] at *; omega)) (fun _ => ?_)
    refine ev_iincN f6_20 rfl ?_
    refine ev_goto (tgt := 2) f6_23 rfl ?_
    exact hi
theorem c6 {hs : amH} {b k j : Nat} {g F C : Nat → Nat} {z : Nat} (h : BagC hs b F C z) (hi : BagIs g F C z) (hk : k < 4096) (hj : j ≤ nzN g k) : Cr 6 [.ref b, .int (nI k), .int (nI j)] hs (some (.int (nI (nzN g k)))) hs := by
  refine cr_mk ow6 (Nat.le_of_ble_eq_true rfl) ?_
  refine ev_iload_n f6_0 rfl ?_
  refine ev_istore_n f6_1 ?_
  exact l6 h hi hk _ (nzN g k - j) j (by omega)
/-- becomeRest -/
def rsN (g : Nat → Nat) (a t : Nat) : Nat → Nat := fun j => if j = a then g j - t else g j
theorem l5 {b b1 a t : Nat} {g F C : Nat → Nat} {z : Nat} (hi : BagIs g F C z) (ha : a < 4096) (ht : t ≤ g a) (hd : b + 3 ≤ b1 ∨ b1 + 3 ≤ b) : ∀ (d k : Nat) (hs : amH) (w : Option Value), k + d = 4096 → BagAt hs b (cutN (rsN g a t) k) → BagC hs b1 F C z → EvQ 5 7 [some (.ref b), some (.ref b1), some (.int (nI a)), some (.int (nI t)), some (.int (nI (nzN g k))), w] [] hs 0 0 (Rt none (fun hs' => BagAt hs' b (cutN (rsN g a t) 4096) ∧ Fr hs hs' b (b + 3))) := by
  obtain ⟨hz0, hg, hF⟩ := hi
  intro d
  induction d with
  | zero =>
    intro k hs w hk hb h
    have hk2 : k = 4096 := by omega
    subst hk2
    have h9 := h
    obtain ⟨b0, z5, a0, a1, a2⟩ := h
    refine eq_ (fun _ k => ev_iload f5_7 rfl k) ?_
    refine eq_ (fun _ k => ev_aload_n f5_9 rfl k) ?_
    refine eq_ (fun _ k => ev_getf f5_10 (by assumption) rfl k) ?_
    refine eq_icN (by omega) (by omega) (tgt := 61) f5_13 rfl (fun _ => ?_) (fun h9 => absurd (by simp only [akN] at *; omega) h9)
    refine ⟨_, ev_vret f5_61 rfl, ?_⟩
    exact ⟨_, rfl, hb, Fr.refl⟩
  | succ d ih =>
    intro k hs w hk hb h
    have hi := ih (k + 1)
    have h9 := h
    obtain ⟨b0, z5, a0, a1, a2⟩ := h
    by_cases h0 : g k = 0
    · rw [nzN_zero h0, cutN_same (show rsN g a t k = 0 by unfold rsN; split <;> omega)] at hi
      exact hi hs w (by omega) hb h9
    · have h1 := nzN_lt (n := 4096) (show k < 4096 by omega) (show 0 < g k by omega)
      obtain ⟨e1, e2⟩ := hF k (by omega) (by omega)
      have h2 := hg k
      have h3 : nzN (rsN g a t) k ≤ nzN g k := nzN_imp (fun j h => by
        unfold rsN at h
        split at h <;> omega) k
      have b3 : 0 < b ∧ ∃ fs, hs[b]? = some (.inr (0, fs)) := by
        obtain ⟨F0, C0, z0, q, _⟩ := hb
        exact ⟨q.1, _, q.2.2.1⟩
      obtain ⟨b4, fs, b5⟩ := b3
      have hE : rsN g a t k = C (nzN g k) - (if F (nzN g k) = a then t else 0) := by
        rw [e1, e2]
        unfold rsN
        split <;> omega
      have hT : (if F (nzN g k) = a then t else 0) ≤ C (nzN g k) := by
        rw [e1, e2]
        split
        · rename_i e; rw [e]; exact ht
        · omega
      obtain ⟨hs1, k1, k2, k3⟩ := c2 (c := C (nzN g k) - (if F (nzN g k) = a then t else 0)) hb (show F (nzN g k) < 4096 by omega) (fun j j1 j2 => cutN_ge (by omega)) (by rw [e1, cutN_ge (Nat.le_refl k), e2]; omega) (by rw [e1, cutN_nz]; omega)
      rw [← hE, e1, ← cutN_succ] at k2
      have hi2 := fun w => hi hs1 w (by omega) k2 (h9.fr k3 (by omega))
      rw [nzN_pos (by omega)] at hi2
      have hi3 : ∀ w, EvQ 5 7 [some (.ref b), some (.ref b1), some (.int (nI a)), some (.int (nI t)), some (.int (nI (nzN g k + 1))), w] [] hs1 0 0 (Rt none (fun hs' => BagAt hs' b (cutN (rsN g a t) 4096) ∧ Fr hs hs' b (b + 3))) := fun w => by
        obtain ⟨o, o1, hs2, rfl, o2, o3⟩ := hi2 w
        exact ⟨_, o1, hs2, rfl, o2, k3.tr o3⟩
      refine eq_ (fun _ k => ev_iload f5_7 rfl k) ?_
      refine eq_ (fun _ k => ev_aload_n f5_9 rfl k) ?_
      refine eq_ (fun _ k => ev_getf f5_10 (by assumption) rfl k) ?_
      refine eq_icN (by omega) (by omega) (tgt := 61) f5_13 rfl (fun h9 => absurd h9 (by simp only [akN] at *; omega)) (fun _ => ?_)
      refine eq_ (fun _ k => ev_aload_n f5_16 rfl k) ?_
      refine eq_ (fun _ k => ev_getf f5_17 (by assumption) rfl k) ?_
      refine eq_ (fun _ k => ev_iload f5_20 rfl k) ?_
      refine eq_ (fun _ k => ev_iald f5_22 (by assumption) (by omega) (by omega) k) ?_
      refine eq_ (fun _ k => ev_iload_n f5_23 rfl k) ?_
      refine eq_icN (by omega) (by omega) (tgt := 31) f5_24 rfl (fun hc => ?_) (fun hc => ?_)
      · have hc2 : ¬ F (nzN g k) = a := hc
        rw [if_neg hc2] at k1 hT
        refine eq_ (fun _ k => ev_iconstN (n := 0) f5_31 k) ?_
        refine eq_ (fun _ k => ev_istore f5_32 k) ?_
        refine eq_ (fun _ k => ev_aload_n f5_34 rfl k) ?_
        refine eq_ (fun _ k => ev_aload_n f5_35 rfl k) ?_
        refine eq_ (fun _ k => ev_getf f5_36 (by assumption) rfl k) ?_
        refine eq_ (fun _ k => ev_iload f5_39 rfl k) ?_
        refine eq_ (fun _ k => ev_iald f5_41 (by assumption) (by omega) (by omega) k) ?_
        refine eq_ (fun _ k => ev_aload_n f5_42 rfl k) ?_
        refine eq_ (fun _ k => ev_getf f5_43 (by assumption) rfl k) ?_
        refine eq_ (fun _ k => ev_iload f5_46 rfl k) ?_
        refine eq_ (fun _ k => ev_iald f5_48 (by assumption) (by omega) (by omega) k) ?_
        refine eq_ (fun _ k => ev_iload f5_49 rfl k) ?_
        refine eq_ (fun _ k => ev_isubN (by omega) f5_51 k) ?_
        refine eq_ (fun _ k => ev_v2 f5_52 ow2 (by assumption) rfl rfl (Nat.le_of_ble_eq_true rfl) (k1) k) ?_
        refine eq_ (fun _ k => ev_iincN f5_55 rfl k) ?_
        refine eq_ (fun _ k => ev_goto (tgt := 7) f5_58 rfl k) ?_
        exact hi3 _
      · have hc2 : F (nzN g k) = a := Classical.not_not.mp hc
        rw [if_pos hc2] at k1 hT
        refine eq_ (fun _ k => ev_iload_n f5_27 rfl k) ?_
        refine eq_ (fun _ k => ev_goto (tgt := 32) f5_28 rfl k) ?_
        refine eq_ (fun _ k => ev_istore f5_32 k) ?_
        refine eq_ (fun _ k => ev_aload_n f5_34 rfl k) ?_
        refine eq_ (fun _ k => ev_aload_n f5_35 rfl k) ?_
        refine eq_ (fun _ k => ev_getf f5_36 (by assumption) rfl k) ?_
        refine eq_ (fun _ k => ev_iload f5_39 rfl k) ?_
        refine eq_ (fun _ k => ev_iald f5_41 (by assumption) (by omega) (by omega) k) ?_
        refine eq_ (fun _ k => ev_aload_n f5_42 rfl k) ?_
        refine eq_ (fun _ k => ev_getf f5_43 (by assumption) rfl k) ?_
        refine eq_ (fun _ k => ev_iload f5_46 rfl k) ?_
        refine eq_ (fun _ k => ev_iald f5_48 (by assumption) (by omega) (by omega) k) ?_
        refine eq_ (fun _ k => ev_iload f5_49 rfl k) ?_
        refine eq_ (fun _ k => ev_isubN (by omega) f5_51 k) ?_
        refine eq_ (fun _ k => ev_v2 f5_52 ow2 (by assumption) rfl rfl (Nat.le_of_ble_eq_true rfl) (k1) k) ?_
        refine eq_ (fun _ k => ev_iincN f5_55 rfl k) ?_
        refine eq_ (fun _ k => ev_goto (tgt := 7) f5_58 rfl k) ?_
        exact hi3 _
theorem c5 {hs : amH} {b b1 a t : Nat} {g g0 : Nat → Nat} (h : BagAt hs b g0) (h1 : BagAt hs b1 g) (ha : a < 4096) (ht : t ≤ g a) (hd : b + 3 ≤ b1 ∨ b1 + 3 ≤ b) : CrQ 5 [.ref b, .ref b1, .int (nI a), .int (nI t)] hs none (fun hs' => BagAt hs' b (rsN g a t) ∧ Fr hs hs' b (b + 3)) := by
  obtain ⟨F, C, z, q1, q2⟩ := h1
  obtain ⟨hs1, k1, k2, k3⟩ := c1 h
  have a0 := (show ∃ fs, hs[b]? = some (.inr (0, fs)) by
        obtain ⟨F0, C0, z0, q, _⟩ := h
        exact ⟨_, q.2.2.1⟩)
  obtain ⟨fs, a0⟩ := a0
  rw [← cutN_0 (rsN g a t)] at k2
  obtain ⟨o, o1, hs2, rfl, o2, o3⟩ := l5 q2 ha ht hd 4096 0 hs1 none rfl k2 (q1.fr k3 (by omega))
  refine crq_mk ow5 (Nat.le_of_ble_eq_true rfl) ?_
  refine eq_ (fun _ k => ev_aload_n f5_0 rfl k) ?_
  refine eq_ (fun _ k => ev_v0 f5_1 ow1 (by assumption) (Nat.le_of_ble_eq_true rfl) (k1) k) ?_
  refine eq_ (fun _ k => ev_iconstN (n := 0) f5_4 k) ?_
  refine eq_ (fun _ k => ev_istore f5_5 k) ?_
  refine ⟨_, o1, hs2, rfl, o2.cg (fun j hj => cutN_lt hj) (fun j => ?_), k3.tr o3⟩
  have := q2.2.1 j
  unfold rsN
  split <;> omega
/-- becomeLesser -/
def miN (g1 g2 : Nat → Nat) : Nat → Nat := fun j => min (g1 j) (g2 j)
theorem l4 {b b1 b2 : Nat} {g1 F1 C1 g2 F2 C2 : Nat → Nat} {z1 z2 : Nat} (i1 : BagIs g1 F1 C1 z1) (i2 : BagIs g2 F2 C2 z2) (hd1 : b + 3 ≤ b1 ∨ b1 + 3 ≤ b) (hd2 : b + 3 ≤ b2 ∨ b2 + 3 ≤ b) : ∀ (d k j : Nat) (hs : amH) (w : Option Value), k + d = 4096 → j ≤ nzN g2 k → BagAt hs b (cutN (miN g1 g2) k) → BagC hs b1 F1 C1 z1 → BagC hs b2 F2 C2 z2 → EvQ 4 9 [some (.ref b), some (.ref b1), some (.ref b2), some (.int (nI j)), some (.int (nI (nzN g1 k))), w] [] hs 0 0 (Rt none (fun hs' => BagAt hs' b (cutN (miN g1 g2) 4096) ∧ Fr hs hs' b (b + 3))) := by
  have i9 := i1
  have j9 := i2
  obtain ⟨hz1, hg1, hF1⟩ := i1
  obtain ⟨hz2, hg2, hF2⟩ := i2
  intro d
  induction d with
  | zero =>
    intro k j hs w hk hj hb h1 h2
    have hk2 : k = 4096 := by omega
    subst hk2
    obtain ⟨b0, z5, a0, a1, a2⟩ := h1
    refine eq_ (fun _ k => ev_iload f4_9 rfl k) ?_
    refine eq_ (fun _ k => ev_aload_n f4_11 rfl k) ?_
    refine eq_ (fun _ k => ev_getf f4_12 (by assumption) rfl k) ?_
    refine eq_icN (by omega) (by omega) (tgt := 82) f4_15 rfl (fun _ => ?_) (fun h9 => absurd (by simp only [akN] at *; omega) h9)
    refine ⟨_, ev_vret f4_82 rfl, ?_⟩
    exact ⟨_, rfl, hb, Fr.refl⟩
  | succ d ih =>
    intro k j hs w hk hj hb h1 h2
    have hi := ih (k + 1)
    have h9 := h1
    have h8 := h2
    obtain ⟨b0, z5, a0, a1, a2⟩ := h1
    obtain ⟨b0', z5', a0', a1', a2'⟩ := h2
    have hmono := nzN_mono g2 (show k ≤ k + 1 by omega)
    have hm4 := nzN_mono g2 (show k ≤ 4096 by omega)
    by_cases h0 : g1 k = 0
    · rw [nzN_zero h0, cutN_same (show miN g1 g2 k = 0 by unfold miN; omega)] at hi
      exact hi j hs w (by omega) (by omega) hb h9 h8
    · have n1 := nzN_lt (n := 4096) (show k < 4096 by omega) (show 0 < g1 k by omega)
      obtain ⟨e1, e2⟩ := hF1 k (by omega) (by omega)
      have n2 := hg1 k
      rw [nzN_pos (f := g1) (by omega)] at hi
      have k6 : Cr 6 [.ref b2, .int (nI (F1 (nzN g1 k))), .int (nI j)] hs (some (.int (nI (nzN g2 k)))) hs := by
        rw [e1]
        exact c6 h8 j9 (by omega) hj
      refine eq_ (fun _ k => ev_iload f4_9 rfl k) ?_
      refine eq_ (fun _ k => ev_aload_n f4_11 rfl k) ?_
      refine eq_ (fun _ k => ev_getf f4_12 (by assumption) rfl k) ?_
      refine eq_icN (by omega) (by omega) (tgt := 82) f4_15 rfl (fun h9 => absurd h9 (by simp only [akN] at *; omega)) (fun _ => ?_)
      refine eq_ (fun _ k => ev_aload_n f4_18 rfl k) ?_
      refine eq_ (fun _ k => ev_getf f4_19 (by assumption) rfl k) ?_
      refine eq_ (fun _ k => ev_iload f4_22 rfl k) ?_
      refine eq_ (fun _ k => ev_iald f4_24 (by assumption) (by omega) (by omega) k) ?_
      refine eq_ (fun _ k => ev_istore f4_25 k) ?_
      refine eq_ (fun _ k => ev_aload_n f4_27 rfl k) ?_
      refine eq_ (fun _ k => ev_iload f4_28 rfl k) ?_
      refine eq_ (fun _ k => ev_iload_n f4_30 rfl k) ?_
      refine eq_ (fun _ k => ev_v2 f4_31 ow6 (by assumption) rfl rfl (Nat.le_of_ble_eq_true rfl) (k6) k) ?_
      refine eq_ (fun _ k => ev_istore_n f4_34 k) ?_
      by_cases hz : nzN g2 k = z2
      · have hk0 : g2 k = 0 := by
          refine Classical.byContradiction (fun h1 => ?_)
          have := nzN_lt (n := 4096) (show k < 4096 by omega) (show 0 < g2 k by omega)
          omega
        rw [cutN_same (show miN g1 g2 k = 0 by unfold miN; omega)] at hi
        refine eq_ (fun _ k => ev_iload_n f4_35 rfl k) ?_
        refine eq_ (fun _ k => ev_aload_n f4_36 rfl k) ?_
        refine eq_ (fun _ k => ev_getf f4_37 (by assumption) rfl k) ?_
        refine eq_icN (by omega) (by omega) (tgt := 76) f4_40 rfl (fun _ => ?_) (fun h9 => absurd (by simp only [akN] at *; omega) h9)
        refine eq_ (fun _ k => ev_iincN f4_76 rfl k) ?_
        refine eq_ (fun _ k => ev_goto (tgt := 9) f4_79 rfl k) ?_
        exact hi (nzN g2 k) hs _ (by omega) (by omega) hb h9 h8
      · have n3 := bag_ge j9 (show k ≤ 4096 by omega) (Nat.le_refl _) (show nzN g2 k < z2 by omega)
        have n4 := n3.2.1
        by_cases hk0 : g2 k = 0
        · rw [cutN_same (show miN g1 g2 k = 0 by unfold miN; omega)] at hi
          have n5 : ¬ F2 (nzN g2 k) = F1 (nzN g1 k) := fun e => by
            rw [e, e1] at n3
            omega
          refine eq_ (fun _ k => ev_iload_n f4_35 rfl k) ?_
          refine eq_ (fun _ k => ev_aload_n f4_36 rfl k) ?_
          refine eq_ (fun _ k => ev_getf f4_37 (by assumption) rfl k) ?_
          refine eq_icN (by omega) (by omega) (tgt := 76) f4_40 rfl (fun h9 => absurd h9 (by simp only [akN] at *; omega)) (fun _ => ?_)
          refine eq_ (fun _ k => ev_aload_n f4_43 rfl k) ?_
          refine eq_ (fun _ k => ev_getf f4_44 (by assumption) rfl k) ?_
          refine eq_ (fun _ k => ev_iload_n f4_47 rfl k) ?_
          refine eq_ (fun _ k => ev_iald f4_48 (by assumption) (by omega) (by omega) k) ?_
          refine eq_ (fun _ k => ev_iload f4_49 rfl k) ?_
          refine eq_icN (by omega) (by omega) (tgt := 76) f4_51 rfl (fun _ => ?_) (fun h9 => absurd n5 h9)
          refine eq_ (fun _ k => ev_iincN f4_76 rfl k) ?_
          refine eq_ (fun _ k => ev_goto (tgt := 9) f4_79 rfl k) ?_
          exact hi (nzN g2 k) hs _ (by omega) (by omega) hb h9 h8
        · obtain ⟨e3, e4⟩ := hF2 k (by omega) (by omega)
          have n5 : F2 (nzN g2 k) = F1 (nzN g1 k) := by rw [e1, e3]
          have n6 := hg2 k
          have n7 : nzN (miN g1 g2) k ≤ nzN g1 k := nzN_imp (fun j h => by unfold miN at h; omega) k
          have hE : miN g1 g2 k = min (C1 (nzN g1 k)) (C2 (nzN g2 k)) := by
            rw [e2, e4]
            rfl
          obtain ⟨hs1, k1, k2, k3⟩ := c2 (c := min (C1 (nzN g1 k)) (C2 (nzN g2 k))) hb (show F1 (nzN g1 k) < 4096 by omega) (fun j j1 j2 => cutN_ge (by omega)) (by rw [e1, cutN_ge (Nat.le_refl k), e2]; omega) (by rw [e1, cutN_nz]; omega)
          rw [← hE, e1, ← cutN_succ] at k2
          have b3 : ∃ fs, hs[b]? = some (.inr (0, fs)) := by
            obtain ⟨F0, C0, z0, q, _⟩ := hb
            exact ⟨_, q.2.2.1⟩
          obtain ⟨fs, b5⟩ := b3
          refine eq_ (fun _ k => ev_iload_n f4_35 rfl k) ?_
          refine eq_ (fun _ k => ev_aload_n f4_36 rfl k) ?_
          refine eq_ (fun _ k => ev_getf f4_37 (by assumption) rfl k) ?_
          refine eq_icN (by omega) (by omega) (tgt := 76) f4_40 rfl (fun h9 => absurd h9 (by simp only [akN] at *; omega)) (fun _ => ?_)
          refine eq_ (fun _ k => ev_aload_n f4_43 rfl k) ?_
          refine eq_ (fun _ k => ev_getf f4_44 (by assumption) rfl k) ?_
          refine eq_ (fun _ k => ev_iload_n f4_47 rfl k) ?_
          refine eq_ (fun _ k => ev_iald f4_48 (by assumption) (by omega) (by omega) k) ?_
          refine eq_ (fun _ k => ev_iload f4_49 rfl k) ?_
          refine eq_icN (by omega) (by omega) (tgt := 76) f4_51 rfl (fun h9 => absurd h9 (fun q => q n5)) (fun _ => ?_)
          refine eq_ (fun _ k => ev_aload_n f4_54 rfl k) ?_
          refine eq_ (fun _ k => ev_iload f4_55 rfl k) ?_
          refine eq_ (fun _ k => ev_aload_n f4_57 rfl k) ?_
          refine eq_ (fun _ k => ev_getf f4_58 (by assumption) rfl k) ?_
          refine eq_ (fun _ k => ev_iload f4_61 rfl k) ?_
          refine eq_ (fun _ k => ev_iald f4_63 (by assumption) (by omega) (by omega) k) ?_
          refine eq_ (fun _ k => ev_aload_n f4_64 rfl k) ?_
          refine eq_ (fun _ k => ev_getf f4_65 (by assumption) rfl k) ?_
          refine eq_ (fun _ k => ev_iload_n f4_68 rfl k) ?_
          refine eq_ (fun _ k => ev_iald f4_69 (by assumption) (by omega) (by omega) k) ?_
          refine eq_ (fun _ k => ev_minN (by omega) (by omega) f4_70 (Nat.le_of_ble_eq_true rfl) k) ?_
          refine eq_ (fun _ k => ev_v2 f4_73 ow2 (by assumption) rfl rfl (Nat.le_of_ble_eq_true rfl) (k1) k) ?_
          refine eq_ (fun _ k => ev_iincN f4_76 rfl k) ?_
          refine eq_ (fun _ k => ev_goto (tgt := 9) f4_79 rfl k) ?_
          obtain ⟨o, o1, hs2, rfl, o2, o3⟩ := hi (nzN g2 k) hs1 _ (by omega) hmono k2 (h9.fr k3 (by omega)) (h8.fr k3 (by omega))
          exact ⟨_, o1, hs2, rfl, o2, k3.tr o3⟩
theorem c4 {hs : amH} {b b1 b2 : Nat} {g1 g2 g0 : Nat → Nat} (h : BagAt hs b g0) (h1 : BagAt hs b1 g1) (h2 : BagAt hs b2 g2) (hd1 : b + 3 ≤ b1 ∨ b1 + 3 ≤ b) (hd2 : b + 3 ≤ b2 ∨ b2 + 3 ≤ b) : CrQ 4 [.ref b, .ref b1, .ref b2] hs none (fun hs' => BagAt hs' b (miN g1 g2) ∧ Fr hs hs' b (b + 3)) := by
  obtain ⟨F1, C1, z1, q1, q2⟩ := h1
  obtain ⟨F2, C2, z2, r1, r2⟩ := h2
  obtain ⟨hs1, k1, k2, k3⟩ := c1 h
  have a0 := (show ∃ fs, hs[b]? = some (.inr (0, fs)) by
        obtain ⟨F0, C0, z0, q, _⟩ := h
        exact ⟨_, q.2.2.1⟩)
  obtain ⟨fs, a0⟩ := a0
  rw [← cutN_0 (miN g1 g2)] at k2
  obtain ⟨o, o1, hs2, rfl, o2, o3⟩ := l4 q2 r2 hd1 hd2 4096 0 0 hs1 none rfl (Nat.zero_le _) k2 (q1.fr k3 (by omega)) (r1.fr k3 (by omega))
  refine crq_mk ow4 (Nat.le_of_ble_eq_true rfl) ?_
  refine eq_ (fun _ k => ev_aload_n f4_0 rfl k) ?_
  refine eq_ (fun _ k => ev_v0 f4_1 ow1 (by assumption) (Nat.le_of_ble_eq_true rfl) (k1) k) ?_
  refine eq_ (fun _ k => ev_iconstN (n := 0) f4_4 k) ?_
  refine eq_ (fun _ k => ev_istore_n f4_5 k) ?_
  refine eq_ (fun _ k => ev_iconstN (n := 0) f4_6 k) ?_
  refine eq_ (fun _ k => ev_istore f4_7 k) ?_
  refine ⟨_, o1, hs2, rfl, o2.cg (fun j hj => cutN_lt hj) (fun j => ?_), k3.tr o3⟩
  have := q2.2.1 j
  unfold miN
  omega
