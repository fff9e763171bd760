/-! the law's helpers round calls of the class; by wip/p33/gen46.py, rows laid by wip/p33/walk.py -/
theorem catL {as : List Value} (h : as.all (fun v => decide (v.category = 1)) = true) : ∀ v ∈ as, v.category = 1 := fun v hv => of_decide_eq_true (List.all_eq_true.mp h v hv)
/-- a run that ends with such an answer, in such a world, having made so much -/
def RtW (v : Option Value) (P : amH → Prop) (dc ds : Nat) : amOut → Prop := fun o => ∃ hs', o = (.inl v, hs', dc, ds) ∧ P hs'
theorem caw_mk {M own mL dc ds : Nat} {as : List Value} {hs : amH} {v : Option Value} {P : amH → Prop} (ho : amOwnL M = some (own, mL)) (hl : as.length ≤ mL) (h : EvQ M 0 (amEntry as mL) [] hs 0 0 (RtW v P dc ds)) : ∃ hs', Ca M as hs (.inl v, hs', dc, ds) ∧ P hs' := by
  obtain ⟨o, h1, hs', rfl, h2⟩ := h
  exact ⟨hs', ca_mk ho hl h1, h2⟩
section LH
variable {X : amC} {hs : amH} {q q' : Nat → Nat} {g g' : Nat → Nat → Nat} {P C Q : Nat → Nat} {v v1 v2 v3 : Int32}
theorem LW.fr {hs' : amH} {lo hi : Nat} (W : LW X q g P C Q hs) (k : Fr hs hs' lo hi) (hd : 42 ≤ lo) : LW X q g P C Q hs' := by
  obtain ⟨w0, ⟨a1, ⟨TF, a2, a3⟩, a4, ⟨b5, a5⟩, ⟨b6, a6⟩, ⟨b7, a7⟩, F, Y, a8⟩, w2, w3, w4⟩ := W
  refine ⟨(k.2 _ (by omega)).trans w0, ⟨(k.2 _ (by omega)).trans a1, ⟨TF, (k.2 _ (by omega)).trans a2, a3⟩, fun i hi => (a4 i hi).fr k (by omega), ⟨b5, a5.fr k (by omega)⟩, ⟨b6, a6.fr k (by omega)⟩, ⟨b7, a7.fr k (by omega)⟩, F, Y, a8.fr k (by omega)⟩, (k.2 _ (by omega)).trans w2, (k.2 _ (by omega)).trans w3, (k.2 _ (by omega)).trans w4⟩
theorem LW.cls (W : LW X q g P C Q hs) {M : Nat} {as : List Value} {r : Option Value ⊕ Nat} (k : ClO M as hs r q' g') : ∃ hs', Ca M as hs (r, hs', rcN r, rsN6 r) ∧ LW X q' g' P C Q hs' ∧ Fr hs hs' 3 39 := by
  obtain ⟨w0, w1, w2, w3, w4⟩ := W
  obtain ⟨hs', k1, k2, k3⟩ := k
  exact ⟨hs', k1, ⟨(k3.2 _ (by omega)).trans w0, k2, (k3.2 _ (by omega)).trans w2, (k3.2 _ (by omega)).trans w3, (k3.2 _ (by omega)).trans w4⟩, k3⟩
theorem h88 (W : LW X q g P C Q hs) (k : ClO 38 [.ref 1, .int v1, .int v2] hs (.inl (some (.int v))) q' g') : ∃ hs', Ca 88 [.ref 1, .int v1, .int v2] hs (.inl (some (.int v)), hs', 0, 0) ∧ LW X q' g' P C Q hs' ∧ Fr hs hs' 3 39 := by
  obtain ⟨hs1, k1, W1⟩ := W.cls k
  have x1 := W.2.1.1
  refine caw_mk ow88 (Nat.le_of_ble_eq_true rfl) ?_
  refine eq_ (fun _ k => ev_aload_n f88_0 rfl k) ?_
  refine eq_ (fun _ k => ev_iload_n f88_1 rfl k) ?_
  refine eq_ (fun _ k => ev_iload_n f88_2 rfl k) ?_
  refine eq_ (fun _ k => ev_v2 f88_3 ow38 (by assumption) rfl rfl (Nat.le_of_ble_eq_true rfl) (k1) k) ?_
  refine ⟨_, ev_iret f88_6 (rI rfl _) rfl, ?_⟩
  exact ⟨hs1, rfl, W1⟩
theorem h88x (W : LW X q g P C Q hs) (k : ClO 38 [.ref 1, .int v1, .int v2] hs (.inr 2) q' g') : ∃ hs', Ca 88 [.ref 1, .int v1, .int v2] hs (.inl (some (.int (Int32.ofInt (-1)))), hs', 1, 6) ∧ LW X q' g' P C Q hs' ∧ Fr hs hs' 3 39 := by
  obtain ⟨hs1, k1, W1⟩ := W.cls k
  have x1 := W.2.1.1
  refine caw_mk ow88 (Nat.le_of_ble_eq_true rfl) ?_
  refine eq_ (fun _ k => ev_aload_n f88_0 rfl k) ?_
  refine eq_ (fun _ k => ev_iload_n f88_1 rfl k) ?_
  refine eq_ (fun _ k => ev_iload_n f88_2 rfl k) ?_
  refine eq_ (fun _ k => ev_vh [.int v1, .int v2] f88_3 ow38 rfl rfl (by assumption) (catL rfl) (Nat.le_of_ble_eq_true rfl) k1 (by rfl) f88_7 k) ?_
  refine eq_ (fun _ k => ev_iconst f88_8 k) ?_
  refine ⟨_, ev_iret f88_9 (rI rfl _) rfl, ?_⟩
  exact ⟨hs1, rfl, W1⟩
theorem h89 (W : LW X q g P C Q hs) (k : ClO 41 [.ref 1, .int v1, .int v2, .int v3] hs (.inl (some (.int v))) q' g') : ∃ hs', Ca 89 [.ref 1, .int v1, .int v2, .int v3] hs (.inl (some (.int v)), hs', 0, 0) ∧ LW X q' g' P C Q hs' ∧ Fr hs hs' 3 39 := by
  obtain ⟨hs1, k1, W1⟩ := W.cls k
  have x1 := W.2.1.1
  refine caw_mk ow89 (Nat.le_of_ble_eq_true rfl) ?_
  refine eq_ (fun _ k => ev_aload_n f89_0 rfl k) ?_
  refine eq_ (fun _ k => ev_iload_n f89_1 rfl k) ?_
  refine eq_ (fun _ k => ev_iload_n f89_2 rfl k) ?_
  refine eq_ (fun _ k => ev_iload_n f89_3 rfl k) ?_
  refine eq_ (fun _ k => ev_v3 f89_4 ow41 (by assumption) rfl rfl rfl (Nat.le_of_ble_eq_true rfl) (k1) k) ?_
  refine ⟨_, ev_iret f89_7 (rI rfl _) rfl, ?_⟩
  exact ⟨hs1, rfl, W1⟩
theorem h89x (W : LW X q g P C Q hs) (k : ClO 41 [.ref 1, .int v1, .int v2, .int v3] hs (.inr 2) q' g') : ∃ hs', Ca 89 [.ref 1, .int v1, .int v2, .int v3] hs (.inl (some (.int (Int32.ofInt (-1)))), hs', 1, 6) ∧ LW X q' g' P C Q hs' ∧ Fr hs hs' 3 39 := by
  obtain ⟨hs1, k1, W1⟩ := W.cls k
  have x1 := W.2.1.1
  refine caw_mk ow89 (Nat.le_of_ble_eq_true rfl) ?_
  refine eq_ (fun _ k => ev_aload_n f89_0 rfl k) ?_
  refine eq_ (fun _ k => ev_iload_n f89_1 rfl k) ?_
  refine eq_ (fun _ k => ev_iload_n f89_2 rfl k) ?_
  refine eq_ (fun _ k => ev_iload_n f89_3 rfl k) ?_
  refine eq_ (fun _ k => ev_vhw [.int v1, .int v2, .int v3] f89_4 ow41 rfl rfl (by assumption) (catL rfl) (Nat.le_of_ble_eq_true rfl) k1 (by rfl) f89_8 k) ?_
  refine eq_ (fun _ k => ev_iconst f89_10 k) ?_
  refine ⟨_, ev_iret f89_11 (rI rfl _) rfl, ?_⟩
  exact ⟨hs1, rfl, W1⟩
theorem h90 (W : LW X q g P C Q hs) (k : ClO 47 [.ref 1, .int v1] hs (.inl (some (.int v))) q' g') : ∃ hs', Ca 90 [.ref 1, .int v1] hs (.inl (some (.int v)), hs', 0, 0) ∧ LW X q' g' P C Q hs' ∧ Fr hs hs' 3 39 := by
  obtain ⟨hs1, k1, W1⟩ := W.cls k
  have x1 := W.2.1.1
  refine caw_mk ow90 (Nat.le_of_ble_eq_true rfl) ?_
  refine eq_ (fun _ k => ev_aload_n f90_0 rfl k) ?_
  refine eq_ (fun _ k => ev_iload_n f90_1 rfl k) ?_
  refine eq_ (fun _ k => ev_v1 f90_2 ow47 (by assumption) rfl (Nat.le_of_ble_eq_true rfl) (k1) k) ?_
  refine ⟨_, ev_iret f90_5 (rI rfl _) rfl, ?_⟩
  exact ⟨hs1, rfl, W1⟩
theorem h90x (W : LW X q g P C Q hs) (k : ClO 47 [.ref 1, .int v1] hs (.inr 2) q' g') : ∃ hs', Ca 90 [.ref 1, .int v1] hs (.inl (some (.int (Int32.ofInt (-1)))), hs', 1, 6) ∧ LW X q' g' P C Q hs' ∧ Fr hs hs' 3 39 := by
  obtain ⟨hs1, k1, W1⟩ := W.cls k
  have x1 := W.2.1.1
  refine caw_mk ow90 (Nat.le_of_ble_eq_true rfl) ?_
  refine eq_ (fun _ k => ev_aload_n f90_0 rfl k) ?_
  refine eq_ (fun _ k => ev_iload_n f90_1 rfl k) ?_
  refine eq_ (fun _ k => ev_vh [.int v1] f90_2 ow47 rfl rfl (by assumption) (catL rfl) (Nat.le_of_ble_eq_true rfl) k1 (by rfl) f90_6 k) ?_
  refine eq_ (fun _ k => ev_iconst f90_7 k) ?_
  refine ⟨_, ev_iret f90_8 (rI rfl _) rfl, ?_⟩
  exact ⟨hs1, rfl, W1⟩
theorem h91 (W : LW X q g P C Q hs) (k : ClO 48 [.ref 1, .int v1] hs (.inl (some (.int v))) q' g') : ∃ hs', Ca 91 [.ref 1, .int v1] hs (.inl (some (.int v)), hs', 0, 0) ∧ LW X q' g' P C Q hs' ∧ Fr hs hs' 3 39 := by
  obtain ⟨hs1, k1, W1⟩ := W.cls k
  have x1 := W.2.1.1
  refine caw_mk ow91 (Nat.le_of_ble_eq_true rfl) ?_
  refine eq_ (fun _ k => ev_aload_n f91_0 rfl k) ?_
  refine eq_ (fun _ k => ev_iload_n f91_1 rfl k) ?_
  refine eq_ (fun _ k => ev_v1 f91_2 ow48 (by assumption) rfl (Nat.le_of_ble_eq_true rfl) (k1) k) ?_
  refine ⟨_, ev_iret f91_5 (rI rfl _) rfl, ?_⟩
  exact ⟨hs1, rfl, W1⟩
theorem h91x (W : LW X q g P C Q hs) (k : ClO 48 [.ref 1, .int v1] hs (.inr 2) q' g') : ∃ hs', Ca 91 [.ref 1, .int v1] hs (.inl (some (.int (Int32.ofInt (-1)))), hs', 1, 6) ∧ LW X q' g' P C Q hs' ∧ Fr hs hs' 3 39 := by
  obtain ⟨hs1, k1, W1⟩ := W.cls k
  have x1 := W.2.1.1
  refine caw_mk ow91 (Nat.le_of_ble_eq_true rfl) ?_
  refine eq_ (fun _ k => ev_aload_n f91_0 rfl k) ?_
  refine eq_ (fun _ k => ev_iload_n f91_1 rfl k) ?_
  refine eq_ (fun _ k => ev_vh [.int v1] f91_2 ow48 rfl rfl (by assumption) (catL rfl) (Nat.le_of_ble_eq_true rfl) k1 (by rfl) f91_6 k) ?_
  refine eq_ (fun _ k => ev_iconst f91_7 k) ?_
  refine ⟨_, ev_iret f91_8 (rI rfl _) rfl, ?_⟩
  exact ⟨hs1, rfl, W1⟩
theorem h92 (W : LW X q g P C Q hs) (k : ClO 49 [.ref 1, .int v1, .int v2] hs (.inl (some (.int v))) q' g') : ∃ hs', Ca 92 [.ref 1, .int v1, .int v2] hs (.inl (some (.int v)), hs', 0, 0) ∧ LW X q' g' P C Q hs' ∧ Fr hs hs' 3 39 := by
  obtain ⟨hs1, k1, W1⟩ := W.cls k
  have x1 := W.2.1.1
  refine caw_mk ow92 (Nat.le_of_ble_eq_true rfl) ?_
  refine eq_ (fun _ k => ev_aload_n f92_0 rfl k) ?_
  refine eq_ (fun _ k => ev_iload_n f92_1 rfl k) ?_
  refine eq_ (fun _ k => ev_iload_n f92_2 rfl k) ?_
  refine eq_ (fun _ k => ev_v2 f92_3 ow49 (by assumption) rfl rfl (Nat.le_of_ble_eq_true rfl) (k1) k) ?_
  refine ⟨_, ev_iret f92_6 (rI rfl _) rfl, ?_⟩
  exact ⟨hs1, rfl, W1⟩
theorem h92x (W : LW X q g P C Q hs) (k : ClO 49 [.ref 1, .int v1, .int v2] hs (.inr 2) q' g') : ∃ hs', Ca 92 [.ref 1, .int v1, .int v2] hs (.inl (some (.int (Int32.ofInt (-1)))), hs', 1, 6) ∧ LW X q' g' P C Q hs' ∧ Fr hs hs' 3 39 := by
  obtain ⟨hs1, k1, W1⟩ := W.cls k
  have x1 := W.2.1.1
  refine caw_mk ow92 (Nat.le_of_ble_eq_true rfl) ?_
  refine eq_ (fun _ k => ev_aload_n f92_0 rfl k) ?_
  refine eq_ (fun _ k => ev_iload_n f92_1 rfl k) ?_
  refine eq_ (fun _ k => ev_iload_n f92_2 rfl k) ?_
  refine eq_ (fun _ k => ev_vh [.int v1, .int v2] f92_3 ow49 rfl rfl (by assumption) (catL rfl) (Nat.le_of_ble_eq_true rfl) k1 (by rfl) f92_7 k) ?_
  refine eq_ (fun _ k => ev_iconst f92_8 k) ?_
  refine ⟨_, ev_iret f92_9 (rI rfl _) rfl, ?_⟩
  exact ⟨hs1, rfl, W1⟩
end LH
