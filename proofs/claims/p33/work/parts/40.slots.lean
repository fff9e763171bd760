/-! the class's calls on slots; rows laid by wip/whole/walk.py -/
section OP
variable {hs : amH} {q : Nat → Nat} {g : Nat → Nat → Nat} {f s k i : Nat}
theorem m57 (h : CS hs q g) (hf : f < 4) (hs2 : s < 2 ^ q f) (he : SlotE (2 ^ q f) (2 ^ (12 - q f)) (g f) s k i) : ClO 57 [.ref 1, .int (nI f), .int (nI s)] hs (.inl (some (.int (nI (k % 2 ^ (12 - q f)))))) q g := by
  have x1 := h.1
  obtain ⟨T, t, hlay, hn, hm, hnm, hN2, hT⟩ := (h.2.2.1 f hf).tab
  obtain ⟨e1, e2, e3, e4, e5⟩ := slot_ent hn hm hN2 hlay he
  have t9 := t
  obtain ⟨h0, h3, h8, a0, a1, a2, a3, a4, a5, b1, b2⟩ := t
  obtain ⟨p1, p2⟩ := am_pow h3 h8
  rw [← e1]
  refine clo_mk ow57 (Nat.le_of_ble_eq_true rfl) ?_
  refine eq_ (fun _ k => ev_aload_n f57_0 rfl k) ?_
  refine eq_ (fun _ k => ev_iload_n f57_1 rfl k) ?_
  refine eq_ (fun _ k => ev_v1 f57_2 ow67 (by assumption) rfl (Nat.le_of_ble_eq_true rfl) (c67 h hf) k) ?_
  refine eq_ (fun _ k => ev_astore_n f57_5 k) ?_
  refine eq_ (fun _ k => ev_aload_n f57_6 rfl k) ?_
  refine eq_ (fun _ k => ev_iload_n f57_7 rfl k) ?_
  refine eq_ (fun _ k => ev_s2 f57_8 (by decide) ow68 rfl rfl (Nat.le_of_ble_eq_true rfl) (c68 t9 hs2) k) ?_
  refine eq_ (fun _ k => ev_aload_n f57_11 rfl k) ?_
  refine eq_ (fun _ k => ev_iload_n f57_12 rfl k) ?_
  refine eq_ (fun _ k => ev_v1 f57_13 ow15 (by assumption) rfl (Nat.le_of_ble_eq_true rfl) (c15 t9 (by omega)) k) ?_
  refine eq_ifeqB (tgt := 23) f57_16 rfl (fun _ => ?_) (fun h9 => Bool.noConfusion (h9.symm.trans (decide_eq_false e3)))
  refine eq_ (fun _ k => ev_aload_n f57_23 rfl k) ?_
  refine eq_ (fun _ k => ev_getf f57_24 (by assumption) rfl k) ?_
  refine eq_ (fun _ k => ev_iload_n f57_27 rfl k) ?_
  refine eq_ (fun _ k => ev_iald f57_28 (by assumption) (by omega) (by omega) k) ?_
  refine ⟨_, ev_iret f57_29 (rI rfl _) rfl, ?_⟩
  exact ⟨hs, rfl, h, Fr.refl⟩
theorem m57n (h : CS hs q g) (hf : f < 4) (hs2 : s < 2 ^ q f) (he : ∀ k i, ¬ SlotE (2 ^ q f) (2 ^ (12 - q f)) (g f) s k i) : ClO 57 [.ref 1, .int (nI f), .int (nI s)] hs (.inl (some (.int (Int32.ofInt (-1))))) q g := by
  have x1 := h.1
  obtain ⟨T, t, hlay, hn, hm, hnm, hN2, hT⟩ := (h.2.2.1 f hf).tab
  obtain ⟨e3, e4, e5⟩ := slot_no hlay hs2 he
  have t9 := t
  obtain ⟨h0, h3, h8, a0, a1, a2, a3, a4, a5, b1, b2⟩ := t
  obtain ⟨p1, p2⟩ := am_pow h3 h8
  refine clo_mk ow57 (Nat.le_of_ble_eq_true rfl) ?_
  refine eq_ (fun _ k => ev_aload_n f57_0 rfl k) ?_
  refine eq_ (fun _ k => ev_iload_n f57_1 rfl k) ?_
  refine eq_ (fun _ k => ev_v1 f57_2 ow67 (by assumption) rfl (Nat.le_of_ble_eq_true rfl) (c67 h hf) k) ?_
  refine eq_ (fun _ k => ev_astore_n f57_5 k) ?_
  refine eq_ (fun _ k => ev_aload_n f57_6 rfl k) ?_
  refine eq_ (fun _ k => ev_iload_n f57_7 rfl k) ?_
  refine eq_ (fun _ k => ev_s2 f57_8 (by decide) ow68 rfl rfl (Nat.le_of_ble_eq_true rfl) (c68 t9 hs2) k) ?_
  refine eq_ (fun _ k => ev_aload_n f57_11 rfl k) ?_
  refine eq_ (fun _ k => ev_iload_n f57_12 rfl k) ?_
  refine eq_ (fun _ k => ev_v1 f57_13 ow15 (by assumption) rfl (Nat.le_of_ble_eq_true rfl) (c15 t9 (by omega)) k) ?_
  refine eq_ifeqB (tgt := 23) f57_16 rfl (fun h9 => Bool.noConfusion (h9.symm.trans (decide_eq_true e3))) (fun _ => ?_)
  refine eq_ (fun _ k => ev_iconst f57_19 k) ?_
  refine eq_ (fun _ k => ev_goto (tgt := 29) f57_20 rfl k) ?_
  refine ⟨_, ev_iret f57_29 (rI rfl _) rfl, ?_⟩
  exact ⟨hs, rfl, h, Fr.refl⟩
theorem m58 (h : CS hs q g) (hf : f < 4) (hs2 : s < 2 ^ q f) (he : SlotE (2 ^ q f) (2 ^ (12 - q f)) (g f) s k i) : ClO 58 [.ref 1, .int (nI f), .int (nI s)] hs (.inl (some (.int (nI (min (g f k - 7 * i) 7))))) q g := by
  have x1 := h.1
  obtain ⟨T, t, hlay, hn, hm, hnm, hN2, hT⟩ := (h.2.2.1 f hf).tab
  obtain ⟨e1, e2, e3, e4, e5⟩ := slot_ent hn hm hN2 hlay he
  have t9 := t
  obtain ⟨h0, h3, h8, a0, a1, a2, a3, a4, a5, b1, b2⟩ := t
  obtain ⟨p1, p2⟩ := am_pow h3 h8
  rw [← e2]
  refine clo_mk ow58 (Nat.le_of_ble_eq_true rfl) ?_
  refine eq_ (fun _ k => ev_aload_n f58_0 rfl k) ?_
  refine eq_ (fun _ k => ev_iload_n f58_1 rfl k) ?_
  refine eq_ (fun _ k => ev_v1 f58_2 ow67 (by assumption) rfl (Nat.le_of_ble_eq_true rfl) (c67 h hf) k) ?_
  refine eq_ (fun _ k => ev_astore_n f58_5 k) ?_
  refine eq_ (fun _ k => ev_aload_n f58_6 rfl k) ?_
  refine eq_ (fun _ k => ev_iload_n f58_7 rfl k) ?_
  refine eq_ (fun _ k => ev_s2 f58_8 (by decide) ow68 rfl rfl (Nat.le_of_ble_eq_true rfl) (c68 t9 hs2) k) ?_
  refine eq_ (fun _ k => ev_aload_n f58_11 rfl k) ?_
  refine eq_ (fun _ k => ev_getf f58_12 (by assumption) rfl k) ?_
  refine eq_ (fun _ k => ev_iload_n f58_15 rfl k) ?_
  refine eq_ (fun _ k => ev_iald f58_16 (by assumption) (by omega) (by omega) k) ?_
  refine ⟨_, ev_iret f58_17 (rI rfl _) rfl, ?_⟩
  exact ⟨hs, rfl, h, Fr.refl⟩
theorem m58n (h : CS hs q g) (hf : f < 4) (hs2 : s < 2 ^ q f) (he : ∀ k i, ¬ SlotE (2 ^ q f) (2 ^ (12 - q f)) (g f) s k i) : ClO 58 [.ref 1, .int (nI f), .int (nI s)] hs (.inl (some (.int (nI 0)))) q g := by
  have x1 := h.1
  obtain ⟨T, t, hlay, hn, hm, hnm, hN2, hT⟩ := (h.2.2.1 f hf).tab
  obtain ⟨e3, e4, e5⟩ := slot_no hlay hs2 he
  have t9 := t
  obtain ⟨h0, h3, h8, a0, a1, a2, a3, a4, a5, b1, b2⟩ := t
  obtain ⟨p1, p2⟩ := am_pow h3 h8
  rw [← e3]
  refine clo_mk ow58 (Nat.le_of_ble_eq_true rfl) ?_
  refine eq_ (fun _ k => ev_aload_n f58_0 rfl k) ?_
  refine eq_ (fun _ k => ev_iload_n f58_1 rfl k) ?_
  refine eq_ (fun _ k => ev_v1 f58_2 ow67 (by assumption) rfl (Nat.le_of_ble_eq_true rfl) (c67 h hf) k) ?_
  refine eq_ (fun _ k => ev_astore_n f58_5 k) ?_
  refine eq_ (fun _ k => ev_aload_n f58_6 rfl k) ?_
  refine eq_ (fun _ k => ev_iload_n f58_7 rfl k) ?_
  refine eq_ (fun _ k => ev_s2 f58_8 (by decide) ow68 rfl rfl (Nat.le_of_ble_eq_true rfl) (c68 t9 hs2) k) ?_
  refine eq_ (fun _ k => ev_aload_n f58_11 rfl k) ?_
  refine eq_ (fun _ k => ev_getf f58_12 (by assumption) rfl k) ?_
  refine eq_ (fun _ k => ev_iload_n f58_15 rfl k) ?_
  refine eq_ (fun _ k => ev_iald f58_16 (by assumption) (by omega) (by omega) k) ?_
  refine ⟨_, ev_iret f58_17 (rI rfl _) rfl, ?_⟩
  exact ⟨hs, rfl, h, Fr.refl⟩
theorem m59 (h : CS hs q g) (hf : f < 4) (hs2 : s < 2 ^ q f) (he : SlotE (2 ^ q f) (2 ^ (12 - q f)) (g f) s k i) : ClO 59 [.ref 1, .int (nI f), .int (nI s)] hs (.inl (some (.int (nI (k / 2 ^ (12 - q f)))))) q g := by
  have x1 := h.1
  obtain ⟨T, t, hlay, hn, hm, hnm, hN2, hT⟩ := (h.2.2.1 f hf).tab
  obtain ⟨e1, e2, e3, e4, e5⟩ := slot_ent hn hm hN2 hlay he
  have eq := ans_qe hn hm hT he
  have t9 := t
  obtain ⟨h0, h3, h8, a0, a1, a2, a3, a4, a5, b1, b2⟩ := t
  obtain ⟨p1, p2⟩ := am_pow h3 h8
  rw [← eq]
  refine clo_mk ow59 (Nat.le_of_ble_eq_true rfl) ?_
  refine eq_ (fun _ k => ev_aload_n f59_0 rfl k) ?_
  refine eq_ (fun _ k => ev_iload_n f59_1 rfl k) ?_
  refine eq_ (fun _ k => ev_v1 f59_2 ow67 (by assumption) rfl (Nat.le_of_ble_eq_true rfl) (c67 h hf) k) ?_
  refine eq_ (fun _ k => ev_astore_n f59_5 k) ?_
  refine eq_ (fun _ k => ev_aload_n f59_6 rfl k) ?_
  refine eq_ (fun _ k => ev_iload_n f59_7 rfl k) ?_
  refine eq_ (fun _ k => ev_s2 f59_8 (by decide) ow68 rfl rfl (Nat.le_of_ble_eq_true rfl) (c68 t9 hs2) k) ?_
  refine eq_ (fun _ k => ev_aload_n f59_11 rfl k) ?_
  refine eq_ (fun _ k => ev_iload_n f59_12 rfl k) ?_
  refine eq_ (fun _ k => ev_v1 f59_13 ow15 (by assumption) rfl (Nat.le_of_ble_eq_true rfl) (c15 t9 (by omega)) k) ?_
  refine eq_ifeqB (tgt := 23) f59_16 rfl (fun _ => ?_) (fun h9 => Bool.noConfusion (h9.symm.trans (decide_eq_false e3)))
  refine eq_ (fun _ k => ev_aload_n f59_23 rfl k) ?_
  refine eq_ (fun _ k => ev_iload_n f59_24 rfl k) ?_
  refine eq_ (fun _ k => ev_v1 f59_25 ow27 (by assumption) rfl (Nat.le_of_ble_eq_true rfl) (c27 t9 hs2) k) ?_
  refine ⟨_, ev_iret f59_28 (rI rfl _) rfl, ?_⟩
  exact ⟨hs, rfl, h, Fr.refl⟩
theorem m59n (h : CS hs q g) (hf : f < 4) (hs2 : s < 2 ^ q f) (he : ∀ k i, ¬ SlotE (2 ^ q f) (2 ^ (12 - q f)) (g f) s k i) : ClO 59 [.ref 1, .int (nI f), .int (nI s)] hs (.inl (some (.int (Int32.ofInt (-1))))) q g := by
  have x1 := h.1
  obtain ⟨T, t, hlay, hn, hm, hnm, hN2, hT⟩ := (h.2.2.1 f hf).tab
  obtain ⟨e3, e4, e5⟩ := slot_no hlay hs2 he
  have t9 := t
  obtain ⟨h0, h3, h8, a0, a1, a2, a3, a4, a5, b1, b2⟩ := t
  obtain ⟨p1, p2⟩ := am_pow h3 h8
  refine clo_mk ow59 (Nat.le_of_ble_eq_true rfl) ?_
  refine eq_ (fun _ k => ev_aload_n f59_0 rfl k) ?_
  refine eq_ (fun _ k => ev_iload_n f59_1 rfl k) ?_
  refine eq_ (fun _ k => ev_v1 f59_2 ow67 (by assumption) rfl (Nat.le_of_ble_eq_true rfl) (c67 h hf) k) ?_
  refine eq_ (fun _ k => ev_astore_n f59_5 k) ?_
  refine eq_ (fun _ k => ev_aload_n f59_6 rfl k) ?_
  refine eq_ (fun _ k => ev_iload_n f59_7 rfl k) ?_
  refine eq_ (fun _ k => ev_s2 f59_8 (by decide) ow68 rfl rfl (Nat.le_of_ble_eq_true rfl) (c68 t9 hs2) k) ?_
  refine eq_ (fun _ k => ev_aload_n f59_11 rfl k) ?_
  refine eq_ (fun _ k => ev_iload_n f59_12 rfl k) ?_
  refine eq_ (fun _ k => ev_v1 f59_13 ow15 (by assumption) rfl (Nat.le_of_ble_eq_true rfl) (c15 t9 (by omega)) k) ?_
  refine eq_ifeqB (tgt := 23) f59_16 rfl (fun h9 => Bool.noConfusion (h9.symm.trans (decide_eq_true e3))) (fun _ => ?_)
  refine eq_ (fun _ k => ev_iconst f59_19 k) ?_
  refine eq_ (fun _ k => ev_goto (tgt := 28) f59_20 rfl k) ?_
  refine ⟨_, ev_iret f59_28 (rI rfl _) rfl, ?_⟩
  exact ⟨hs, rfl, h, Fr.refl⟩
theorem m60 (h : CS hs q g) (hf : f < 4) (hs2 : s < 2 ^ q f) : ClO 60 [.ref 1, .int (nI f), .int (nI s)] hs (.inl (some (.int (nI (decide (0 < lnN (2 ^ (12 - q f)) (g f) s)).toNat)))) q g := by
  have x1 := h.1
  obtain ⟨T, t, hlay, hn, hm, hnm, hN2, hT⟩ := (h.2.2.1 f hf).tab
  have e1 := hT.2.2.2 s
  rw [Nat.mod_eq_of_lt hs2, LN_lt hs2] at e1
  have t9 := t
  obtain ⟨h0, h3, h8, a0, a1, a2, a3, a4, a5, b1, b2⟩ := t
  obtain ⟨p1, p2⟩ := am_pow h3 h8
  rw [← e1]
  refine clo_mk ow60 (Nat.le_of_ble_eq_true rfl) ?_
  refine eq_ (fun _ k => ev_aload_n f60_0 rfl k) ?_
  refine eq_ (fun _ k => ev_iload_n f60_1 rfl k) ?_
  refine eq_ (fun _ k => ev_v1 f60_2 ow67 (by assumption) rfl (Nat.le_of_ble_eq_true rfl) (c67 h hf) k) ?_
  refine eq_ (fun _ k => ev_astore_n f60_5 k) ?_
  refine eq_ (fun _ k => ev_aload_n f60_6 rfl k) ?_
  refine eq_ (fun _ k => ev_iload_n f60_7 rfl k) ?_
  refine eq_ (fun _ k => ev_s2 f60_8 (by decide) ow68 rfl rfl (Nat.le_of_ble_eq_true rfl) (c68 t9 hs2) k) ?_
  refine eq_ (fun _ k => ev_aload_n f60_11 rfl k) ?_
  refine eq_ (fun _ k => ev_getf f60_12 (by assumption) rfl k) ?_
  refine eq_ (fun _ k => ev_iload_n f60_15 rfl k) ?_
  refine eq_ (fun _ k => ev_bald f60_16 (by assumption) (by omega) (by omega) k) ?_
  first | refine ⟨_, ev_iret f60_17 (rZ rfl true) rfl, ?_⟩ | refine ⟨_, ev_iret f60_17 (rZ rfl false) rfl, ?_⟩ | refine ⟨_, ev_iret f60_17 (rZ rfl _) rfl, ?_⟩
  exact ⟨hs, rfl, h, Fr.refl⟩
theorem m61 (h : CS hs q g) (hf : f < 4) (hs2 : s < 2 ^ q f) (he : SlotE (2 ^ q f) (2 ^ (12 - q f)) (g f) s k i) : ClO 61 [.ref 1, .int (nI f), .int (nI s)] hs (.inl (some (.int (nI (decide (0 < EE (g f) k - EE (g f) (k / 2 ^ (12 - q f) * 2 ^ (12 - q f)) + i)).toNat)))) q g := by
  have x1 := h.1
  obtain ⟨T, t, hlay, hn, hm, hnm, hN2, hT⟩ := (h.2.2.1 f hf).tab
  obtain ⟨e1, e2, e3, e4, e5⟩ := slot_ent hn hm hN2 hlay he
  have t9 := t
  obtain ⟨h0, h3, h8, a0, a1, a2, a3, a4, a5, b1, b2⟩ := t
  obtain ⟨p1, p2⟩ := am_pow h3 h8
  rw [← e4]
  refine clo_mk ow61 (Nat.le_of_ble_eq_true rfl) ?_
  refine eq_ (fun _ k => ev_aload_n f61_0 rfl k) ?_
  refine eq_ (fun _ k => ev_iload_n f61_1 rfl k) ?_
  refine eq_ (fun _ k => ev_v1 f61_2 ow67 (by assumption) rfl (Nat.le_of_ble_eq_true rfl) (c67 h hf) k) ?_
  refine eq_ (fun _ k => ev_astore_n f61_5 k) ?_
  refine eq_ (fun _ k => ev_aload_n f61_6 rfl k) ?_
  refine eq_ (fun _ k => ev_iload_n f61_7 rfl k) ?_
  refine eq_ (fun _ k => ev_s2 f61_8 (by decide) ow68 rfl rfl (Nat.le_of_ble_eq_true rfl) (c68 t9 hs2) k) ?_
  refine eq_ (fun _ k => ev_aload_n f61_11 rfl k) ?_
  refine eq_ (fun _ k => ev_getf f61_12 (by assumption) rfl k) ?_
  refine eq_ (fun _ k => ev_iload_n f61_15 rfl k) ?_
  refine eq_ (fun _ k => ev_bald f61_16 (by assumption) (by omega) (by omega) k) ?_
  first | refine ⟨_, ev_iret f61_17 (rZ rfl true) rfl, ?_⟩ | refine ⟨_, ev_iret f61_17 (rZ rfl false) rfl, ?_⟩ | refine ⟨_, ev_iret f61_17 (rZ rfl _) rfl, ?_⟩
  exact ⟨hs, rfl, h, Fr.refl⟩
theorem m61n (h : CS hs q g) (hf : f < 4) (hs2 : s < 2 ^ q f) (he : ∀ k i, ¬ SlotE (2 ^ q f) (2 ^ (12 - q f)) (g f) s k i) : ClO 61 [.ref 1, .int (nI f), .int (nI s)] hs (.inl (some (.int (nI false.toNat)))) q g := by
  have x1 := h.1
  obtain ⟨T, t, hlay, hn, hm, hnm, hN2, hT⟩ := (h.2.2.1 f hf).tab
  obtain ⟨e3, e4, e5⟩ := slot_no hlay hs2 he
  have t9 := t
  obtain ⟨h0, h3, h8, a0, a1, a2, a3, a4, a5, b1, b2⟩ := t
  obtain ⟨p1, p2⟩ := am_pow h3 h8
  rw [← e4]
  refine clo_mk ow61 (Nat.le_of_ble_eq_true rfl) ?_
  refine eq_ (fun _ k => ev_aload_n f61_0 rfl k) ?_
  refine eq_ (fun _ k => ev_iload_n f61_1 rfl k) ?_
  refine eq_ (fun _ k => ev_v1 f61_2 ow67 (by assumption) rfl (Nat.le_of_ble_eq_true rfl) (c67 h hf) k) ?_
  refine eq_ (fun _ k => ev_astore_n f61_5 k) ?_
  refine eq_ (fun _ k => ev_aload_n f61_6 rfl k) ?_
  refine eq_ (fun _ k => ev_iload_n f61_7 rfl k) ?_
  refine eq_ (fun _ k => ev_s2 f61_8 (by decide) ow68 rfl rfl (Nat.le_of_ble_eq_true rfl) (c68 t9 hs2) k) ?_
  refine eq_ (fun _ k => ev_aload_n f61_11 rfl k) ?_
  refine eq_ (fun _ k => ev_getf f61_12 (by assumption) rfl k) ?_
  refine eq_ (fun _ k => ev_iload_n f61_15 rfl k) ?_
  refine eq_ (fun _ k => ev_bald f61_16 (by assumption) (by omega) (by omega) k) ?_
  first | refine ⟨_, ev_iret f61_17 (rZ rfl true) rfl, ?_⟩ | refine ⟨_, ev_iret f61_17 (rZ rfl false) rfl, ?_⟩ | refine ⟨_, ev_iret f61_17 (rZ rfl _) rfl, ?_⟩
  exact ⟨hs, rfl, h, Fr.refl⟩
theorem m62 (h : CS hs q g) (hf : f < 4) (hs2 : s < 2 ^ q f) (he : SlotE (2 ^ q f) (2 ^ (12 - q f)) (g f) s k i) : ClO 62 [.ref 1, .int (nI f), .int (nI s)] hs (.inl (some (.int (nI (!decide (s = k / 2 ^ (12 - q f))).toNat)))) q g := by
  have x1 := h.1
  obtain ⟨T, t, hlay, hn, hm, hnm, hN2, hT⟩ := (h.2.2.1 f hf).tab
  obtain ⟨e1, e2, e3, e4, e5⟩ := slot_ent hn hm hN2 hlay he
  have t9 := t
  obtain ⟨h0, h3, h8, a0, a1, a2, a3, a4, a5, b1, b2⟩ := t
  obtain ⟨p1, p2⟩ := am_pow h3 h8
  rw [← e5]
  refine clo_mk ow62 (Nat.le_of_ble_eq_true rfl) ?_
  refine eq_ (fun _ k => ev_aload_n f62_0 rfl k) ?_
  refine eq_ (fun _ k => ev_iload_n f62_1 rfl k) ?_
  refine eq_ (fun _ k => ev_v1 f62_2 ow67 (by assumption) rfl (Nat.le_of_ble_eq_true rfl) (c67 h hf) k) ?_
  refine eq_ (fun _ k => ev_astore_n f62_5 k) ?_
  refine eq_ (fun _ k => ev_aload_n f62_6 rfl k) ?_
  refine eq_ (fun _ k => ev_iload_n f62_7 rfl k) ?_
  refine eq_ (fun _ k => ev_s2 f62_8 (by decide) ow68 rfl rfl (Nat.le_of_ble_eq_true rfl) (c68 t9 hs2) k) ?_
  refine eq_ (fun _ k => ev_aload_n f62_11 rfl k) ?_
  refine eq_ (fun _ k => ev_getf f62_12 (by assumption) rfl k) ?_
  refine eq_ (fun _ k => ev_iload_n f62_15 rfl k) ?_
  refine eq_ (fun _ k => ev_bald f62_16 (by assumption) (by omega) (by omega) k) ?_
  first | refine ⟨_, ev_iret f62_17 (rZ rfl true) rfl, ?_⟩ | refine ⟨_, ev_iret f62_17 (rZ rfl false) rfl, ?_⟩ | refine ⟨_, ev_iret f62_17 (rZ rfl _) rfl, ?_⟩
  exact ⟨hs, rfl, h, Fr.refl⟩
theorem m62n (h : CS hs q g) (hf : f < 4) (hs2 : s < 2 ^ q f) (he : ∀ k i, ¬ SlotE (2 ^ q f) (2 ^ (12 - q f)) (g f) s k i) : ClO 62 [.ref 1, .int (nI f), .int (nI s)] hs (.inl (some (.int (nI false.toNat)))) q g := by
  have x1 := h.1
  obtain ⟨T, t, hlay, hn, hm, hnm, hN2, hT⟩ := (h.2.2.1 f hf).tab
  obtain ⟨e3, e4, e5⟩ := slot_no hlay hs2 he
  have t9 := t
  obtain ⟨h0, h3, h8, a0, a1, a2, a3, a4, a5, b1, b2⟩ := t
  obtain ⟨p1, p2⟩ := am_pow h3 h8
  rw [← e5]
  refine clo_mk ow62 (Nat.le_of_ble_eq_true rfl) ?_
  refine eq_ (fun _ k => ev_aload_n f62_0 rfl k) ?_
  refine eq_ (fun _ k => ev_iload_n f62_1 rfl k) ?_
  refine eq_ (fun _ k => ev_v1 f62_2 ow67 (by assumption) rfl (Nat.le_of_ble_eq_true rfl) (c67 h hf) k) ?_
  refine eq_ (fun _ k => ev_astore_n f62_5 k) ?_
  refine eq_ (fun _ k => ev_aload_n f62_6 rfl k) ?_
  refine eq_ (fun _ k => ev_iload_n f62_7 rfl k) ?_
  refine eq_ (fun _ k => ev_s2 f62_8 (by decide) ow68 rfl rfl (Nat.le_of_ble_eq_true rfl) (c68 t9 hs2) k) ?_
  refine eq_ (fun _ k => ev_aload_n f62_11 rfl k) ?_
  refine eq_ (fun _ k => ev_getf f62_12 (by assumption) rfl k) ?_
  refine eq_ (fun _ k => ev_iload_n f62_15 rfl k) ?_
  refine eq_ (fun _ k => ev_bald f62_16 (by assumption) (by omega) (by omega) k) ?_
  first | refine ⟨_, ev_iret f62_17 (rZ rfl true) rfl, ?_⟩ | refine ⟨_, ev_iret f62_17 (rZ rfl false) rfl, ?_⟩ | refine ⟨_, ev_iret f62_17 (rZ rfl _) rfl, ?_⟩
  exact ⟨hs, rfl, h, Fr.refl⟩
theorem m63 (h : CS hs q g) (hf : f < 4) (hs2 : s < 2 ^ q f) : ClO 63 [.ref 1, .int (nI f), .int (nI s)] hs (.inl (some (.int (if 0 < lnN (2 ^ (12 - q f)) (g f) s then nI (PN (2 ^ q f) (2 ^ (12 - q f)) (g f) s % 2 ^ q f) else Int32.ofInt (-1))))) q g := by
  have x1 := h.1
  obtain ⟨T, t, hlay, hn, hm, hnm, hN2, hT⟩ := (h.2.2.1 f hf).tab
  have e1 := hT.2.2.2 s
  rw [Nat.mod_eq_of_lt hs2, LN_lt hs2] at e1
  have t9 := t
  obtain ⟨h0, h3, h8, a0, a1, a2, a3, a4, a5, b1, b2⟩ := t
  obtain ⟨p1, p2⟩ := am_pow h3 h8
  refine clo_mk ow63 (Nat.le_of_ble_eq_true rfl) ?_
  by_cases hL : 0 < lnN (2 ^ (12 - q f)) (g f) s
  · rw [if_pos hL, ← ans_fr hn hT hs2 (by rw [LN_lt hs2]; exact hL)]
    rw [decide_eq_true hL] at e1
    refine eq_ (fun _ k => ev_aload_n f63_0 rfl k) ?_
    refine eq_ (fun _ k => ev_iload_n f63_1 rfl k) ?_
    refine eq_ (fun _ k => ev_v1 f63_2 ow67 (by assumption) rfl (Nat.le_of_ble_eq_true rfl) (c67 h hf) k) ?_
    refine eq_ (fun _ k => ev_astore_n f63_5 k) ?_
    refine eq_ (fun _ k => ev_aload_n f63_6 rfl k) ?_
    refine eq_ (fun _ k => ev_iload_n f63_7 rfl k) ?_
    refine eq_ (fun _ k => ev_s2 f63_8 (by decide) ow68 rfl rfl (Nat.le_of_ble_eq_true rfl) (c68 t9 hs2) k) ?_
    refine eq_ (fun _ k => ev_aload_n f63_11 rfl k) ?_
    refine eq_ (fun _ k => ev_iload_n f63_12 rfl k) ?_
    refine eq_ (fun _ k => ev_v1 f63_13 ow25 (by assumption) rfl (Nat.le_of_ble_eq_true rfl) (c25 t9 hs2 e1) k) ?_
    refine ⟨_, ev_iret f63_16 (rI rfl _) rfl, ?_⟩
    exact ⟨hs, rfl, h, Fr.refl⟩
  · rw [if_neg hL]
    rw [decide_eq_false hL] at e1
    refine eq_ (fun _ k => ev_aload_n f63_0 rfl k) ?_
    refine eq_ (fun _ k => ev_iload_n f63_1 rfl k) ?_
    refine eq_ (fun _ k => ev_v1 f63_2 ow67 (by assumption) rfl (Nat.le_of_ble_eq_true rfl) (c67 h hf) k) ?_
    refine eq_ (fun _ k => ev_astore_n f63_5 k) ?_
    refine eq_ (fun _ k => ev_aload_n f63_6 rfl k) ?_
    refine eq_ (fun _ k => ev_iload_n f63_7 rfl k) ?_
    refine eq_ (fun _ k => ev_s2 f63_8 (by decide) ow68 rfl rfl (Nat.le_of_ble_eq_true rfl) (c68 t9 hs2) k) ?_
    refine eq_ (fun _ k => ev_aload_n f63_11 rfl k) ?_
    refine eq_ (fun _ k => ev_iload_n f63_12 rfl k) ?_
    refine eq_ (fun _ k => ev_v1 f63_13 ow25 (by assumption) rfl (Nat.le_of_ble_eq_true rfl) (c25n t9 hs2 e1) k) ?_
    refine ⟨_, ev_iret f63_16 (rI rfl _) rfl, ?_⟩
    exact ⟨hs, rfl, h, Fr.refl⟩
theorem m64 (h : CS hs q g) (hf : f < 4) (hs2 : s < 2 ^ q f) : ClO 64 [.ref 1, .int (nI f), .int (nI s)] hs (.inl (some (.int (nI (lnN (2 ^ (12 - q f)) (g f) s))))) q g := by
  have x1 := h.1
  obtain ⟨T, t, hlay, hn, hm, hnm, hN2, hT⟩ := (h.2.2.1 f hf).tab
  have e1 := hT.2.2.2 s
  rw [Nat.mod_eq_of_lt hs2, LN_lt hs2] at e1
  have t9 := t
  obtain ⟨h0, h3, h8, a0, a1, a2, a3, a4, a5, b1, b2⟩ := t
  obtain ⟨p1, p2⟩ := am_pow h3 h8
  refine clo_mk ow64 (Nat.le_of_ble_eq_true rfl) ?_
  by_cases hL : 0 < lnN (2 ^ (12 - q f)) (g f) s
  · have hL2 : 0 < LN (2 ^ q f) (2 ^ (12 - q f)) (g f) s := by rw [LN_lt hs2]; exact hL
    have e2 := ans_lr hn hT hL2
    have e3 := ans_fr hn hT hs2 hL2
    have hml : PN (2 ^ q f) (2 ^ (12 - q f)) (g f) s % 2 ^ q f < 2 ^ q f := Nat.mod_lt _ hn
    rw [← e3] at e2 hml
    rw [LN_lt hs2] at e2
    rw [← e2]
    rw [decide_eq_true hL] at e1
    refine eq_ (fun _ k => ev_aload_n f64_0 rfl k) ?_
    refine eq_ (fun _ k => ev_iload_n f64_1 rfl k) ?_
    refine eq_ (fun _ k => ev_v1 f64_2 ow67 (by assumption) rfl (Nat.le_of_ble_eq_true rfl) (c67 h hf) k) ?_
    refine eq_ (fun _ k => ev_astore_n f64_5 k) ?_
    refine eq_ (fun _ k => ev_aload_n f64_6 rfl k) ?_
    refine eq_ (fun _ k => ev_iload_n f64_7 rfl k) ?_
    refine eq_ (fun _ k => ev_s2 f64_8 (by decide) ow68 rfl rfl (Nat.le_of_ble_eq_true rfl) (c68 t9 hs2) k) ?_
    refine eq_ (fun _ k => ev_aload_n f64_11 rfl k) ?_
    refine eq_ (fun _ k => ev_iload_n f64_12 rfl k) ?_
    refine eq_ (fun _ k => ev_v1 f64_13 ow25 (by assumption) rfl (Nat.le_of_ble_eq_true rfl) (c25 t9 hs2 e1) k) ?_
    refine eq_ (fun _ k => ev_istore f64_16 k) ?_
    refine eq_ (fun _ k => ev_iload f64_18 rfl k) ?_
    refine eq_ (fun _ k => ev_iconst f64_20 k) ?_
    refine eq_ic (tgt := 28) f64_21 rfl (fun _ => ?_) (fun hc => absurd (am_m1 _ (by omega)) hc)
    refine eq_ (fun _ k => ev_aload_n f64_28 rfl k) ?_
    refine eq_ (fun _ k => ev_iload f64_29 rfl k) ?_
    refine eq_ (fun _ k => ev_v1 f64_31 ow26 (by assumption) rfl (Nat.le_of_ble_eq_true rfl) (c26 t9 hml) k) ?_
    refine ⟨_, ev_iret f64_34 (rI rfl _) rfl, ?_⟩
    exact ⟨hs, rfl, h, Fr.refl⟩
  · rw [show lnN (2 ^ (12 - q f)) (g f) s = 0 by omega]
    rw [decide_eq_false hL] at e1
    refine eq_ (fun _ k => ev_aload_n f64_0 rfl k) ?_
    refine eq_ (fun _ k => ev_iload_n f64_1 rfl k) ?_
    refine eq_ (fun _ k => ev_v1 f64_2 ow67 (by assumption) rfl (Nat.le_of_ble_eq_true rfl) (c67 h hf) k) ?_
    refine eq_ (fun _ k => ev_astore_n f64_5 k) ?_
    refine eq_ (fun _ k => ev_aload_n f64_6 rfl k) ?_
    refine eq_ (fun _ k => ev_iload_n f64_7 rfl k) ?_
    refine eq_ (fun _ k => ev_s2 f64_8 (by decide) ow68 rfl rfl (Nat.le_of_ble_eq_true rfl) (c68 t9 hs2) k) ?_
    refine eq_ (fun _ k => ev_aload_n f64_11 rfl k) ?_
    refine eq_ (fun _ k => ev_iload_n f64_12 rfl k) ?_
    refine eq_ (fun _ k => ev_v1 f64_13 ow25 (by assumption) rfl (Nat.le_of_ble_eq_true rfl) (c25n t9 hs2 e1) k) ?_
    refine eq_ (fun _ k => ev_istore f64_16 k) ?_
    refine eq_ (fun _ k => ev_iload f64_18 rfl k) ?_
    refine eq_ (fun _ k => ev_iconst f64_20 k) ?_
    refine eq_ic (tgt := 28) f64_21 rfl (fun hc => absurd rfl hc) (fun _ => ?_)
    refine eq_ (fun _ k => ev_iconstN (n := 0) f64_24 k) ?_
    refine eq_ (fun _ k => ev_goto (tgt := 34) f64_25 rfl k) ?_
    refine ⟨_, ev_iret f64_34 (rI rfl _) rfl, ?_⟩
    exact ⟨hs, rfl, h, Fr.refl⟩
theorem m65 (h : CS hs q g) (hf : f < 4) (hs2 : s < 2 ^ q f) (he : SlotE (2 ^ q f) (2 ^ (12 - q f)) (g f) s k i) {c : Nat} (c1 : c ≤ s + 2 ^ q f + 2 ^ q f) (c2 : s + 2 ^ q f + 2 ^ q f < c + 2 ^ q f) (c3 : PN (2 ^ q f) (2 ^ (12 - q f)) (g f) c = c) (c4 : ∀ y, c < y → y ≤ s + 2 ^ q f + 2 ^ q f → y < PN (2 ^ q f) (2 ^ (12 - q f)) (g f) y) : ClO 65 [.ref 1, .int (nI f), .int (nI s)] hs (.inl (some (.int (nI (c % 2 ^ q f))))) q g := by
  have x1 := h.1
  obtain ⟨T, t, hlay, hn, hm, hnm, hN2, hT⟩ := (h.2.2.1 f hf).tab
  obtain ⟨e1, e2, e3, e4, e5⟩ := slot_ent hn hm hN2 hlay he
  obtain ⟨d, d0, d1, d2, d3, d4, d5⟩ := tl_fc hT (u := s + 2 ^ q f + 2 ^ q f) (by omega)
  rw [Nat.add_mod_right, Nat.add_mod_right, Nat.mod_eq_of_lt hs2] at d5
  have ed : d = c := by
    rcases Nat.lt_trichotomy d c with w | w | w
    · have := d4 c w c1
      omega
    · exact w
    · have := c4 d w d1
      omega
  rw [ed] at d5
  have t9 := t
  obtain ⟨h0, h3, h8, a0, a1, a2, a3, a4, a5, b1, b2⟩ := t
  obtain ⟨p1, p2⟩ := am_pow h3 h8
  rw [← d5]
  refine clo_mk ow65 (Nat.le_of_ble_eq_true rfl) ?_
  refine eq_ (fun _ k => ev_aload_n f65_0 rfl k) ?_
  refine eq_ (fun _ k => ev_iload_n f65_1 rfl k) ?_
  refine eq_ (fun _ k => ev_v1 f65_2 ow67 (by assumption) rfl (Nat.le_of_ble_eq_true rfl) (c67 h hf) k) ?_
  refine eq_ (fun _ k => ev_astore_n f65_5 k) ?_
  refine eq_ (fun _ k => ev_aload_n f65_6 rfl k) ?_
  refine eq_ (fun _ k => ev_iload_n f65_7 rfl k) ?_
  refine eq_ (fun _ k => ev_s2 f65_8 (by decide) ow68 rfl rfl (Nat.le_of_ble_eq_true rfl) (c68 t9 hs2) k) ?_
  refine eq_ (fun _ k => ev_aload_n f65_11 rfl k) ?_
  refine eq_ (fun _ k => ev_iload_n f65_12 rfl k) ?_
  refine eq_ (fun _ k => ev_v1 f65_13 ow15 (by assumption) rfl (Nat.le_of_ble_eq_true rfl) (c15 t9 (by omega)) k) ?_
  refine eq_ifeqB (tgt := 23) f65_16 rfl (fun _ => ?_) (fun h9 => Bool.noConfusion (h9.symm.trans (decide_eq_false e3)))
  refine eq_ (fun _ k => ev_aload_n f65_23 rfl k) ?_
  refine eq_ (fun _ k => ev_iload_n f65_24 rfl k) ?_
  refine eq_ (fun _ k => ev_v1 f65_25 ow24 (by assumption) rfl (Nat.le_of_ble_eq_true rfl) (c24 t9 hs2) k) ?_
  refine ⟨_, ev_iret f65_28 (rI rfl _) rfl, ?_⟩
  exact ⟨hs, rfl, h, Fr.refl⟩
theorem m65n (h : CS hs q g) (hf : f < 4) (hs2 : s < 2 ^ q f) (he : ∀ k i, ¬ SlotE (2 ^ q f) (2 ^ (12 - q f)) (g f) s k i) : ClO 65 [.ref 1, .int (nI f), .int (nI s)] hs (.inl (some (.int (Int32.ofInt (-1))))) q g := by
  have x1 := h.1
  obtain ⟨T, t, hlay, hn, hm, hnm, hN2, hT⟩ := (h.2.2.1 f hf).tab
  obtain ⟨e3, e4, e5⟩ := slot_no hlay hs2 he
  have t9 := t
  obtain ⟨h0, h3, h8, a0, a1, a2, a3, a4, a5, b1, b2⟩ := t
  obtain ⟨p1, p2⟩ := am_pow h3 h8
  refine clo_mk ow65 (Nat.le_of_ble_eq_true rfl) ?_
  refine eq_ (fun _ k => ev_aload_n f65_0 rfl k) ?_
  refine eq_ (fun _ k => ev_iload_n f65_1 rfl k) ?_
  refine eq_ (fun _ k => ev_v1 f65_2 ow67 (by assumption) rfl (Nat.le_of_ble_eq_true rfl) (c67 h hf) k) ?_
  refine eq_ (fun _ k => ev_astore_n f65_5 k) ?_
  refine eq_ (fun _ k => ev_aload_n f65_6 rfl k) ?_
  refine eq_ (fun _ k => ev_iload_n f65_7 rfl k) ?_
  refine eq_ (fun _ k => ev_s2 f65_8 (by decide) ow68 rfl rfl (Nat.le_of_ble_eq_true rfl) (c68 t9 hs2) k) ?_
  refine eq_ (fun _ k => ev_aload_n f65_11 rfl k) ?_
  refine eq_ (fun _ k => ev_iload_n f65_12 rfl k) ?_
  refine eq_ (fun _ k => ev_v1 f65_13 ow15 (by assumption) rfl (Nat.le_of_ble_eq_true rfl) (c15 t9 (by omega)) k) ?_
  refine eq_ifeqB (tgt := 23) f65_16 rfl (fun h9 => Bool.noConfusion (h9.symm.trans (decide_eq_true e3))) (fun _ => ?_)
  refine eq_ (fun _ k => ev_iconst f65_19 k) ?_
  refine eq_ (fun _ k => ev_goto (tgt := 28) f65_20 rfl k) ?_
  refine ⟨_, ev_iret f65_28 (rI rfl _) rfl, ?_⟩
  exact ⟨hs, rfl, h, Fr.refl⟩
theorem m66 (h : CS hs q g) (hf : f < 4) : ∃ T, Lay (2 ^ q f) (2 ^ (12 - q f)) (g f) (ovN (2 ^ q f) (2 ^ (12 - q f)) (g f) + 2 ^ q f) T ∧ ClO 66 [.ref 1, .int (nI f)] hs (.inl (some (.int (nI (llN T (2 ^ q f)))))) q g := by
  have x1 := h.1
  obtain ⟨T, t, hlay, hn, hm, hnm, hN2, hT⟩ := (h.2.2.1 f hf).tab
  have t9 := t
  obtain ⟨h0, h3, h8, a0, a1, a2, a3, a4, a5, b1, b2⟩ := t
  refine ⟨T, hlay, ?_⟩
  refine clo_mk ow66 (Nat.le_of_ble_eq_true rfl) ?_
  refine eq_ (fun _ k => ev_aload_n f66_0 rfl k) ?_
  refine eq_ (fun _ k => ev_iload_n f66_1 rfl k) ?_
  refine eq_ (fun _ k => ev_v1 f66_2 ow67 (by assumption) rfl (Nat.le_of_ble_eq_true rfl) (c67 h hf) k) ?_
  refine eq_ (fun _ k => ev_v0 f66_5 ow30 (by assumption) (Nat.le_of_ble_eq_true rfl) (c30 t9) k) ?_
  refine ⟨_, ev_iret f66_8 (rI rfl _) rfl, ?_⟩
  exact ⟨hs, rfl, h, Fr.refl⟩
end OP
