/-! the class's calls on whole filters, keys and fingerprints; rows laid by wip/whole/walk.py -/
/-- what a filter becomes when it is given one fingerprint c times more -/
def putN (g : Nat → Nat) (k c : Nat) : Nat → Nat := updN g k (g k + c)
def takN (g : Nat → Nat) (k c : Nat) : Nat → Nat := updN g k (g k - min c (g k))
section OP
variable {hs : amH} {q : Nat → Nat} {g : Nat → Nat → Nat} {f : Nat}
theorem m38 {key : Int32} (h : CS hs q g) (hf : f < 4) : ClO 38 [.ref 1, .int (nI f), .int key] hs (if EE (putN (g f) (prN key) 1) 4096 * 8 ≤ 7 * 2 ^ q f then .inl (some (.int (nI (g f (prN key) + 1)))) else .inr 2) q (if EE (putN (g f) (prN key) 1) 4096 * 8 ≤ 7 * 2 ^ q f then updG g f (putN (g f) (prN key) 1) else g) := by
  have x1 := h.1
  have k1 := c74 h hf (prN_lt key) (show 1 ≤ 100 by omega)
  refine clo_mk ow38 (Nat.le_of_ble_eq_true rfl) ?_
  show EvQ _ _ _ _ _ _ _ (RsC _ (if EE (updN (g f) (prN key) (g f (prN key) + 1)) 4096 * 8 ≤ 7 * 2 ^ q f then _ else _) _ (if EE (updN (g f) (prN key) (g f (prN key) + 1)) 4096 * 8 ≤ 7 * 2 ^ q f then _ else _))
  by_cases hE : EE (updN (g f) (prN key) (g f (prN key) + 1)) 4096 * 8 ≤ 7 * 2 ^ q f
  · rw [if_pos hE, if_pos hE] at k1 ⊢
    obtain ⟨hs1, k2, k3, k4⟩ := k1
    refine eq_ (fun _ k => ev_aload_n f38_0 rfl k) ?_
    refine eq_ (fun _ k => ev_iload_n f38_1 rfl k) ?_
    refine eq_ (fun _ k => ev_v1 f38_2 ow67 (by assumption) rfl (Nat.le_of_ble_eq_true rfl) (c67 h hf) k) ?_
    refine eq_ (fun _ k => ev_astore_n f38_5 k) ?_
    refine eq_ (fun _ k => ev_aload_n f38_6 rfl k) ?_
    refine eq_ (fun _ k => ev_aload_n f38_7 rfl k) ?_
    refine eq_ (fun _ k => ev_aload_n f38_8 rfl k) ?_
    refine eq_ (fun _ k => ev_iload_n f38_9 rfl k) ?_
    refine eq_ (fun _ k => ev_v1 f38_10 ow37 (by assumption) rfl (Nat.le_of_ble_eq_true rfl) (c37 1 key) k) ?_
    refine eq_ (fun _ k => ev_iconstN (n := 1) f38_13 k) ?_
    refine eq_ (fun _ k => ev_v3 f38_14 ow74 (by assumption) rfl rfl rfl (Nat.le_of_ble_eq_true rfl) (k2) k) ?_
    refine ⟨_, ev_iret f38_17 (rI rfl _) rfl, ?_⟩
    exact ⟨hs1, rfl, k3, k4⟩
  · rw [if_neg hE, if_neg hE] at k1 ⊢
    obtain ⟨hs1, k2, k3, k4⟩ := k1
    refine eq_ (fun _ k => ev_aload_n f38_0 rfl k) ?_
    refine eq_ (fun _ k => ev_iload_n f38_1 rfl k) ?_
    refine eq_ (fun _ k => ev_v1 f38_2 ow67 (by assumption) rfl (Nat.le_of_ble_eq_true rfl) (c67 h hf) k) ?_
    refine eq_ (fun _ k => ev_astore_n f38_5 k) ?_
    refine eq_ (fun _ k => ev_aload_n f38_6 rfl k) ?_
    refine eq_ (fun _ k => ev_aload_n f38_7 rfl k) ?_
    refine eq_ (fun _ k => ev_aload_n f38_8 rfl k) ?_
    refine eq_ (fun _ k => ev_iload_n f38_9 rfl k) ?_
    refine eq_ (fun _ k => ev_v1 f38_10 ow37 (by assumption) rfl (Nat.le_of_ble_eq_true rfl) (c37 1 key) k) ?_
    refine eq_ (fun _ k => ev_iconstN (n := 1) f38_13 k) ?_
    refine ⟨_, ev_vt3 f38_14 ow74 (by assumption) rfl rfl rfl (Nat.le_of_ble_eq_true rfl) (k2) rfl rfl, ?_⟩
    exact ⟨hs1, rfl, k3, k4⟩
theorem m39 {key : Int32} (h : CS hs q g) (hf : f < 4) : ClO 39 [.ref 1, .int (nI f), .int key] hs (.inl (some (.int (nI (decide (0 < g f (prN key))).toNat)))) q (updG g f (takN (g f) (prN key) 1)) := by
  have x1 := h.1
  obtain ⟨hs1, k2, k3, k4⟩ := c75 h hf (prN_lt key) (show 1 ≤ 100 by omega)
  refine clo_mk ow39 (Nat.le_of_ble_eq_true rfl) ?_
  refine eq_ (fun _ k => ev_aload_n f39_0 rfl k) ?_
  refine eq_ (fun _ k => ev_iload_n f39_1 rfl k) ?_
  refine eq_ (fun _ k => ev_v1 f39_2 ow67 (by assumption) rfl (Nat.le_of_ble_eq_true rfl) (c67 h hf) k) ?_
  refine eq_ (fun _ k => ev_astore_n f39_5 k) ?_
  refine eq_ (fun _ k => ev_aload_n f39_6 rfl k) ?_
  refine eq_ (fun _ k => ev_aload_n f39_7 rfl k) ?_
  refine eq_ (fun _ k => ev_aload_n f39_8 rfl k) ?_
  refine eq_ (fun _ k => ev_iload_n f39_9 rfl k) ?_
  refine eq_ (fun _ k => ev_v1 f39_10 ow37 (by assumption) rfl (Nat.le_of_ble_eq_true rfl) (c37 1 key) k) ?_
  refine eq_ (fun _ k => ev_iconstN (n := 1) f39_13 k) ?_
  refine eq_ (fun _ k => ev_v3 f39_14 ow75 (by assumption) rfl rfl rfl (Nat.le_of_ble_eq_true rfl) (k2) k) ?_
  refine eq_ (fun _ k => ev_iconstN (n := 1) f39_17 k) ?_
  refine eq_icN (by omega) (by omega) (tgt := 25) f39_18 rfl (fun hc => ?_) (fun hc => ?_)
  · have h0 : ¬ 0 < g f (prN key) := fun q => hc (show min 1 (g f (prN key)) = 1 by omega)
    rw [decide_eq_false h0]
    refine eq_ (fun _ k => ev_iconstN (n := 0) f39_25 k) ?_
    first | refine ⟨_, ev_iret f39_26 (rZ rfl true) rfl, ?_⟩ | refine ⟨_, ev_iret f39_26 (rZ rfl false) rfl, ?_⟩ | refine ⟨_, ev_iret f39_26 (rZ rfl _) rfl, ?_⟩
    exact ⟨hs1, rfl, k3, k4⟩
  · have h0 : 0 < g f (prN key) := by
      have hc2 : min 1 (g f (prN key)) = 1 := Classical.not_not.mp hc
      omega
    rw [decide_eq_true h0]
    refine eq_ (fun _ k => ev_iconstN (n := 1) f39_21 k) ?_
    refine eq_ (fun _ k => ev_goto (tgt := 26) f39_22 rfl k) ?_
    first | refine ⟨_, ev_iret f39_26 (rZ rfl true) rfl, ?_⟩ | refine ⟨_, ev_iret f39_26 (rZ rfl false) rfl, ?_⟩ | refine ⟨_, ev_iret f39_26 (rZ rfl _) rfl, ?_⟩
    exact ⟨hs1, rfl, k3, k4⟩
theorem m40 {key : Int32} (h : CS hs q g) (hf : f < 4) : ClO 40 [.ref 1, .int (nI f), .int key] hs (.inl (some (.int (nI (g f (prN key)))))) q g := by
  obtain ⟨x1, x2, -⟩ := h.cells hf
  refine clo_mk ow40 (Nat.le_of_ble_eq_true rfl) ?_
  refine eq_ (fun _ k => ev_aload_n f40_0 rfl k) ?_
  refine eq_ (fun _ k => ev_iload_n f40_1 rfl k) ?_
  refine eq_ (fun _ k => ev_v1 f40_2 ow67 (by assumption) rfl (Nat.le_of_ble_eq_true rfl) (c67 h hf) k) ?_
  refine eq_ (fun _ k => ev_astore_n f40_5 k) ?_
  refine eq_ (fun _ k => ev_aload_n f40_6 rfl k) ?_
  refine eq_ (fun _ k => ev_aload_n f40_7 rfl k) ?_
  refine eq_ (fun _ k => ev_iload_n f40_8 rfl k) ?_
  refine eq_ (fun _ k => ev_v1 f40_9 ow37 (by assumption) rfl (Nat.le_of_ble_eq_true rfl) (c37 1 key) k) ?_
  refine eq_ (fun _ k => ev_v1 f40_12 ow28 (by assumption) rfl (Nat.le_of_ble_eq_true rfl) (f28 (h.2.2.1 f hf) (prN_lt key)) k) ?_
  refine ⟨_, ev_iret f40_15 (rI rfl _) rfl, ?_⟩
  exact ⟨hs, rfl, h, Fr.refl⟩
theorem m41 {k c : Nat} (h : CS hs q g) (hf : f < 4) (hk : k < 4096) (hc1 : 1 ≤ c) (hc : c ≤ 100) : ClO 41 [.ref 1, .int (nI f), .int (nI k), .int (nI c)] hs (if EE (putN (g f) k c) 4096 * 8 ≤ 7 * 2 ^ q f then .inl (some (.int (nI (g f k + c)))) else .inr 2) q (if EE (putN (g f) k c) 4096 * 8 ≤ 7 * 2 ^ q f then updG g f (putN (g f) k c) else g) := by
  have x1 := h.1
  have k1 := c74 h hf hk hc
  refine clo_mk ow41 (Nat.le_of_ble_eq_true rfl) ?_
  show EvQ _ _ _ _ _ _ _ (RsC _ (if EE (updN (g f) k (g f k + c)) 4096 * 8 ≤ 7 * 2 ^ q f then _ else _) _ (if EE (updN (g f) k (g f k + c)) 4096 * 8 ≤ 7 * 2 ^ q f then _ else _))
  by_cases hE : EE (updN (g f) k (g f k + c)) 4096 * 8 ≤ 7 * 2 ^ q f
  · rw [if_pos hE, if_pos hE] at k1 ⊢
    obtain ⟨hs1, k2, k3, k4⟩ := k1
    refine eq_ (fun _ k => ev_aload_n f41_0 rfl k) ?_
    refine eq_ (fun _ k => ev_iload_n f41_1 rfl k) ?_
    refine eq_ (fun _ k => ev_v1 f41_2 ow67 (by assumption) rfl (Nat.le_of_ble_eq_true rfl) (c67 h hf) k) ?_
    refine eq_ (fun _ k => ev_astore f41_5 k) ?_
    refine eq_ (fun _ k => ev_iload_n f41_7 rfl k) ?_
    refine eq_ (fun _ k => ev_s1 f41_8 (by decide) ow69 rfl (Nat.le_of_ble_eq_true rfl) (c69 hk) k) ?_
    refine eq_ (fun _ k => ev_iload_n f41_11 rfl k) ?_
    refine eq_ (fun _ k => ev_s1 f41_12 (by decide) ow70 rfl (Nat.le_of_ble_eq_true rfl) (c70 hc1 hc) k) ?_
    refine eq_ (fun _ k => ev_aload_n f41_15 rfl k) ?_
    refine eq_ (fun _ k => ev_aload f41_16 rfl k) ?_
    refine eq_ (fun _ k => ev_iload_n f41_18 rfl k) ?_
    refine eq_ (fun _ k => ev_iload_n f41_19 rfl k) ?_
    refine eq_ (fun _ k => ev_v3 f41_20 ow74 (by assumption) rfl rfl rfl (Nat.le_of_ble_eq_true rfl) (k2) k) ?_
    refine ⟨_, ev_iret f41_23 (rI rfl _) rfl, ?_⟩
    exact ⟨hs1, rfl, k3, k4⟩
  · rw [if_neg hE, if_neg hE] at k1 ⊢
    obtain ⟨hs1, k2, k3, k4⟩ := k1
    refine eq_ (fun _ k => ev_aload_n f41_0 rfl k) ?_
    refine eq_ (fun _ k => ev_iload_n f41_1 rfl k) ?_
    refine eq_ (fun _ k => ev_v1 f41_2 ow67 (by assumption) rfl (Nat.le_of_ble_eq_true rfl) (c67 h hf) k) ?_
    refine eq_ (fun _ k => ev_astore f41_5 k) ?_
    refine eq_ (fun _ k => ev_iload_n f41_7 rfl k) ?_
    refine eq_ (fun _ k => ev_s1 f41_8 (by decide) ow69 rfl (Nat.le_of_ble_eq_true rfl) (c69 hk) k) ?_
    refine eq_ (fun _ k => ev_iload_n f41_11 rfl k) ?_
    refine eq_ (fun _ k => ev_s1 f41_12 (by decide) ow70 rfl (Nat.le_of_ble_eq_true rfl) (c70 hc1 hc) k) ?_
    refine eq_ (fun _ k => ev_aload_n f41_15 rfl k) ?_
    refine eq_ (fun _ k => ev_aload f41_16 rfl k) ?_
    refine eq_ (fun _ k => ev_iload_n f41_18 rfl k) ?_
    refine eq_ (fun _ k => ev_iload_n f41_19 rfl k) ?_
    refine ⟨_, ev_vt3 f41_20 ow74 (by assumption) rfl rfl rfl (Nat.le_of_ble_eq_true rfl) (k2) rfl rfl, ?_⟩
    exact ⟨hs1, rfl, k3, k4⟩
theorem m42 {k c : Nat} (h : CS hs q g) (hf : f < 4) (hk : k < 4096) (hc1 : 1 ≤ c) (hc : c ≤ 100) : ClO 42 [.ref 1, .int (nI f), .int (nI k), .int (nI c)] hs (.inl (some (.int (nI (min c (g f k)))))) q (updG g f (takN (g f) k c)) := by
  have x1 := h.1
  obtain ⟨hs1, k2, k3, k4⟩ := c75 h hf hk hc
  refine clo_mk ow42 (Nat.le_of_ble_eq_true rfl) ?_
  refine eq_ (fun _ k => ev_aload_n f42_0 rfl k) ?_
  refine eq_ (fun _ k => ev_iload_n f42_1 rfl k) ?_
  refine eq_ (fun _ k => ev_v1 f42_2 ow67 (by assumption) rfl (Nat.le_of_ble_eq_true rfl) (c67 h hf) k) ?_
  refine eq_ (fun _ k => ev_astore f42_5 k) ?_
  refine eq_ (fun _ k => ev_iload_n f42_7 rfl k) ?_
  refine eq_ (fun _ k => ev_s1 f42_8 (by decide) ow69 rfl (Nat.le_of_ble_eq_true rfl) (c69 hk) k) ?_
  refine eq_ (fun _ k => ev_iload_n f42_11 rfl k) ?_
  refine eq_ (fun _ k => ev_s1 f42_12 (by decide) ow70 rfl (Nat.le_of_ble_eq_true rfl) (c70 hc1 hc) k) ?_
  refine eq_ (fun _ k => ev_aload_n f42_15 rfl k) ?_
  refine eq_ (fun _ k => ev_aload f42_16 rfl k) ?_
  refine eq_ (fun _ k => ev_iload_n f42_18 rfl k) ?_
  refine eq_ (fun _ k => ev_iload_n f42_19 rfl k) ?_
  refine eq_ (fun _ k => ev_v3 f42_20 ow75 (by assumption) rfl rfl rfl (Nat.le_of_ble_eq_true rfl) (k2) k) ?_
  refine ⟨_, ev_iret f42_23 (rI rfl _) rfl, ?_⟩
  exact ⟨hs1, rfl, k3, k4⟩
theorem m43 {k : Nat} (h : CS hs q g) (hf : f < 4) (hk : k < 4096) : ClO 43 [.ref 1, .int (nI f), .int (nI k)] hs (.inl (some (.int (nI (g f k))))) q g := by
  obtain ⟨x1, x2, -⟩ := h.cells hf
  refine clo_mk ow43 (Nat.le_of_ble_eq_true rfl) ?_
  refine eq_ (fun _ k => ev_aload_n f43_0 rfl k) ?_
  refine eq_ (fun _ k => ev_iload_n f43_1 rfl k) ?_
  refine eq_ (fun _ k => ev_v1 f43_2 ow67 (by assumption) rfl (Nat.le_of_ble_eq_true rfl) (c67 h hf) k) ?_
  refine eq_ (fun _ k => ev_astore_n f43_5 k) ?_
  refine eq_ (fun _ k => ev_iload_n f43_6 rfl k) ?_
  refine eq_ (fun _ k => ev_s1 f43_7 (by decide) ow69 rfl (Nat.le_of_ble_eq_true rfl) (c69 hk) k) ?_
  refine eq_ (fun _ k => ev_aload_n f43_10 rfl k) ?_
  refine eq_ (fun _ k => ev_iload_n f43_11 rfl k) ?_
  refine eq_ (fun _ k => ev_v1 f43_12 ow28 (by assumption) rfl (Nat.le_of_ble_eq_true rfl) (f28 (h.2.2.1 f hf) hk) k) ?_
  refine ⟨_, ev_iret f43_15 (rI rfl _) rfl, ?_⟩
  exact ⟨hs, rfl, h, Fr.refl⟩
theorem m45 {k : Nat} (h : CS hs q g) (hf : f < 4) (hk : k < 4096) : ClO 45 [.ref 1, .int (nI f), .int (nI k)] hs (.inl (some (.int (nI (lookN (2 ^ (12 - q f)) (g f) k))))) q g := by
  obtain ⟨x1, x2, -⟩ := h.cells hf
  refine clo_mk ow45 (Nat.le_of_ble_eq_true rfl) ?_
  refine eq_ (fun _ k => ev_aload_n f45_0 rfl k) ?_
  refine eq_ (fun _ k => ev_iload_n f45_1 rfl k) ?_
  refine eq_ (fun _ k => ev_v1 f45_2 ow67 (by assumption) rfl (Nat.le_of_ble_eq_true rfl) (c67 h hf) k) ?_
  refine eq_ (fun _ k => ev_astore_n f45_5 k) ?_
  refine eq_ (fun _ k => ev_iload_n f45_6 rfl k) ?_
  refine eq_ (fun _ k => ev_s1 f45_7 (by decide) ow69 rfl (Nat.le_of_ble_eq_true rfl) (c69 hk) k) ?_
  refine eq_ (fun _ k => ev_aload_n f45_10 rfl k) ?_
  refine eq_ (fun _ k => ev_iload_n f45_11 rfl k) ?_
  refine eq_ (fun _ k => ev_v1 f45_12 ow29 (by assumption) rfl (Nat.le_of_ble_eq_true rfl) (f29 (h.2.2.1 f hf) hk) k) ?_
  refine ⟨_, ev_iret f45_15 (rI rfl _) rfl, ?_⟩
  exact ⟨hs, rfl, h, Fr.refl⟩
theorem m44 {k : Nat} (h : CS hs q g) (hf : f < 4) (hk : k < 4096) : ClO 44 [.ref 1, .int (nI f), .int (nI k)] hs (.inl (some (.int (nI (g f k))))) q g := by
  obtain ⟨x1, x2, -, -, -, x6⟩ := h.cells hf
  have hh := h
  obtain ⟨-, -, a4, -, -, -, F, X, a8⟩ := hh
  obtain ⟨l1, l2, l3, l4, l5⟩ := (a4 f hf).le
  obtain ⟨T, t, hlay, hn, hm, hnm, hN2, hT⟩ := (a4 f hf).tab
  obtain ⟨hs1, k1, ⟨e, F1, X1, e1, e2, m1, m2⟩, f1⟩ := c10 t a8 (by omega) hT
  have h1 := h.r36 f1 m1
  have k2 := c12 (t.fr f1 (by omega)) hlay l4 m1 e2 m2 hk
  obtain ⟨y1, y2, -, -, -, y6⟩ := h1.cells hf
  refine clo_mk ow44 (Nat.le_of_ble_eq_true rfl) ?_
  refine eq_ (fun _ k => ev_aload_n f44_0 rfl k) ?_
  refine eq_ (fun _ k => ev_iload_n f44_1 rfl k) ?_
  refine eq_ (fun _ k => ev_v1 f44_2 ow67 (by assumption) rfl (Nat.le_of_ble_eq_true rfl) (c67 h hf) k) ?_
  refine eq_ (fun _ k => ev_astore_n f44_5 k) ?_
  refine eq_ (fun _ k => ev_iload_n f44_6 rfl k) ?_
  refine eq_ (fun _ k => ev_s1 f44_7 (by decide) ow69 rfl (Nat.le_of_ble_eq_true rfl) (c69 hk) k) ?_
  refine eq_ (fun _ k => ev_aload_n f44_10 rfl k) ?_
  refine eq_ (fun _ k => ev_getf f44_11 (by assumption) rfl k) ?_
  refine eq_ (fun _ k => ev_aload_n f44_14 rfl k) ?_
  refine eq_ (fun _ k => ev_v1 f44_15 ow10 (by assumption) rfl (Nat.le_of_ble_eq_true rfl) (k1) k) ?_
  refine eq_ (fun _ k => ev_aload_n f44_18 rfl k) ?_
  refine eq_ (fun _ k => ev_getf f44_19 (by assumption) rfl k) ?_
  refine eq_ (fun _ k => ev_aload_n f44_22 rfl k) ?_
  refine eq_ (fun _ k => ev_iload_n f44_23 rfl k) ?_
  refine eq_ (fun _ k => ev_v2 f44_24 ow12 (by assumption) rfl rfl (Nat.le_of_ble_eq_true rfl) (k2) k) ?_
  refine ⟨_, ev_iret f44_27 (rI rfl _) rfl, ?_⟩
  exact ⟨hs1, rfl, h1, f1.wide (by omega) (by omega)⟩
theorem m46 (h : CS hs q g) (hf : f < 4) : ClO 46 [.ref 1, .int (nI f)] hs (.inl none) q (updG g f (fun _ => 0)) := by
  obtain ⟨x1, x2, -⟩ := h.cells hf
  obtain ⟨hs1, k1, m1, f1⟩ := f32 (h.2.2.1 f hf)
  have h1 := h.tab hf f1 m1
  rw [updN_same] at h1
  refine clo_mk ow46 (Nat.le_of_ble_eq_true rfl) ?_
  refine eq_ (fun _ k => ev_aload_n f46_0 rfl k) ?_
  refine eq_ (fun _ k => ev_iload_n f46_1 rfl k) ?_
  refine eq_ (fun _ k => ev_v1 f46_2 ow67 (by assumption) rfl (Nat.le_of_ble_eq_true rfl) (c67 h hf) k) ?_
  refine eq_ (fun _ k => ev_v0 f46_5 ow32 (by assumption) (Nat.le_of_ble_eq_true rfl) (k1) k) ?_
  refine ⟨_, ev_vret f46_8 rfl, ?_⟩
  exact ⟨hs1, rfl, h1, f1.wide (by omega) (by omega)⟩
theorem m47 (h : CS hs q g) (hf : f < 4) : ClO 47 [.ref 1, .int (nI f)] hs (if q f < 8 then .inl (some (.int (nI (2 ^ (q f + 1))))) else .inr 2) (if q f < 8 then updN q f (q f + 1) else q) g := by
  obtain ⟨x1, x2, -⟩ := h.cells hf
  obtain ⟨o3, o8, -⟩ := (h.2.2.1 f hf).obj
  obtain ⟨l1, l2, l3, l4, l5⟩ := (h.2.2.1 f hf).le
  refine clo_mk ow47 (Nat.le_of_ble_eq_true rfl) ?_
  by_cases hq : q f < 8
  · rw [if_pos hq, if_pos hq]
    have k1 := c76 h hf (q2 := q f + 1) (by omega) (by omega)
    have hE : EE (g f) 4096 * 8 ≤ 7 * 2 ^ (q f + 1) := by rw [Nat.pow_succ]; omega
    rw [if_pos hE, if_pos hE] at k1
    obtain ⟨hs1, k2, k3, k4⟩ := k1
    refine eq_ (fun _ k => ev_aload_n f47_0 rfl k) ?_
    refine eq_ (fun _ k => ev_iload_n f47_1 rfl k) ?_
    refine eq_ (fun _ k => ev_v1 f47_2 ow67 (by assumption) rfl (Nat.le_of_ble_eq_true rfl) (c67 h hf) k) ?_
    refine eq_ (fun _ k => ev_astore_n f47_5 k) ?_
    refine eq_ (fun _ k => ev_aload_n f47_6 rfl k) ?_
    refine eq_ (fun _ k => ev_getf f47_7 (by assumption) rfl k) ?_
    refine eq_ (fun _ k => ev_bipushN (n := 8) (by omega) f47_10 k) ?_
    refine eq_icN (by omega) (by omega) (tgt := 25) f47_12 rfl (fun _ => ?_) (fun h9 => absurd (by simp only [akN] at *; omega) h9)
    refine eq_ (fun _ k => ev_aload_n f47_25 rfl k) ?_
    refine eq_ (fun _ k => ev_aload_n f47_26 rfl k) ?_
    refine eq_ (fun _ k => ev_aload_n f47_27 rfl k) ?_
    refine eq_ (fun _ k => ev_getf f47_28 (by assumption) rfl k) ?_
    refine eq_ (fun _ k => ev_iconstN (n := 1) f47_31 k) ?_
    first | refine eq_ (fun _ k => ev_iaddN f47_32 k) ?_ | refine eq_ (fun _ k => ev_iadd f47_32 k) ?_
    refine eq_ (fun _ k => ev_v2 f47_33 ow76 (by assumption) rfl rfl (Nat.le_of_ble_eq_true rfl) (k2) k) ?_
    refine ⟨_, ev_iret f47_36 (rI rfl _) rfl, ?_⟩
    exact ⟨hs1, rfl, k3, k4⟩
  · rw [if_neg hq, if_neg hq]
    refine eq_ (fun _ k => ev_aload_n f47_0 rfl k) ?_
    refine eq_ (fun _ k => ev_iload_n f47_1 rfl k) ?_
    refine eq_ (fun _ k => ev_v1 f47_2 ow67 (by assumption) rfl (Nat.le_of_ble_eq_true rfl) (c67 h hf) k) ?_
    refine eq_ (fun _ k => ev_astore_n f47_5 k) ?_
    refine eq_ (fun _ k => ev_aload_n f47_6 rfl k) ?_
    refine eq_ (fun _ k => ev_getf f47_7 (by assumption) rfl k) ?_
    refine eq_ (fun _ k => ev_bipushN (n := 8) (by omega) f47_10 k) ?_
    refine eq_icN (by omega) (by omega) (tgt := 25) f47_12 rfl (fun h9 => absurd h9 (by simp only [akN] at *; omega)) (fun _ => ?_)
    refine ⟨_, ev_throw f47_15 (Nat.le_of_ble_eq_true rfl) rfl, ?_⟩
    exact ⟨hs, rfl, h, Fr.refl⟩
theorem m48 (h : CS hs q g) (hf : f < 4) : ClO 48 [.ref 1, .int (nI f)] hs (if 3 < q f ∧ EE (g f) 4096 * 8 ≤ 7 * 2 ^ (q f - 1) then .inl (some (.int (nI (2 ^ (q f - 1))))) else .inr 2) (if 3 < q f ∧ EE (g f) 4096 * 8 ≤ 7 * 2 ^ (q f - 1) then updN q f (q f - 1) else q) g := by
  obtain ⟨x1, x2, -⟩ := h.cells hf
  obtain ⟨o3, o8, -⟩ := (h.2.2.1 f hf).obj
  refine clo_mk ow48 (Nat.le_of_ble_eq_true rfl) ?_
  by_cases hq : 3 < q f
  · have k1 := c76 h hf (q2 := q f - 1) (by omega) (by omega)
    by_cases hE : EE (g f) 4096 * 8 ≤ 7 * 2 ^ (q f - 1)
    · rw [if_pos ⟨hq, hE⟩, if_pos ⟨hq, hE⟩]
      rw [if_pos hE, if_pos hE] at k1
      obtain ⟨hs1, k2, k3, k4⟩ := k1
      refine eq_ (fun _ k => ev_aload_n f48_0 rfl k) ?_
      refine eq_ (fun _ k => ev_iload_n f48_1 rfl k) ?_
      refine eq_ (fun _ k => ev_v1 f48_2 ow67 (by assumption) rfl (Nat.le_of_ble_eq_true rfl) (c67 h hf) k) ?_
      refine eq_ (fun _ k => ev_astore_n f48_5 k) ?_
      refine eq_ (fun _ k => ev_aload_n f48_6 rfl k) ?_
      refine eq_ (fun _ k => ev_getf f48_7 (by assumption) rfl k) ?_
      refine eq_ (fun _ k => ev_iconstN (n := 3) f48_10 k) ?_
      refine eq_icN (by omega) (by omega) (tgt := 24) f48_11 rfl (fun _ => ?_) (fun h9 => absurd (by simp only [akN] at *; omega) h9)
      refine eq_ (fun _ k => ev_aload_n f48_24 rfl k) ?_
      refine eq_ (fun _ k => ev_aload_n f48_25 rfl k) ?_
      refine eq_ (fun _ k => ev_aload_n f48_26 rfl k) ?_
      refine eq_ (fun _ k => ev_getf f48_27 (by assumption) rfl k) ?_
      refine eq_ (fun _ k => ev_iconstN (n := 1) f48_30 k) ?_
      refine eq_ (fun _ k => ev_isubN (by omega) f48_31 k) ?_
      refine eq_ (fun _ k => ev_v2 f48_32 ow76 (by assumption) rfl rfl (Nat.le_of_ble_eq_true rfl) (k2) k) ?_
      refine ⟨_, ev_iret f48_35 (rI rfl _) rfl, ?_⟩
      exact ⟨hs1, rfl, k3, k4⟩
    · rw [if_neg (fun w => hE w.2), if_neg (fun w => hE w.2)]
      rw [if_neg hE, if_neg hE] at k1
      obtain ⟨hs1, k2, k3, k4⟩ := k1
      refine eq_ (fun _ k => ev_aload_n f48_0 rfl k) ?_
      refine eq_ (fun _ k => ev_iload_n f48_1 rfl k) ?_
      refine eq_ (fun _ k => ev_v1 f48_2 ow67 (by assumption) rfl (Nat.le_of_ble_eq_true rfl) (c67 h hf) k) ?_
      refine eq_ (fun _ k => ev_astore_n f48_5 k) ?_
      refine eq_ (fun _ k => ev_aload_n f48_6 rfl k) ?_
      refine eq_ (fun _ k => ev_getf f48_7 (by assumption) rfl k) ?_
      refine eq_ (fun _ k => ev_iconstN (n := 3) f48_10 k) ?_
      refine eq_icN (by omega) (by omega) (tgt := 24) f48_11 rfl (fun _ => ?_) (fun h9 => absurd (by simp only [akN] at *; omega) h9)
      refine eq_ (fun _ k => ev_aload_n f48_24 rfl k) ?_
      refine eq_ (fun _ k => ev_aload_n f48_25 rfl k) ?_
      refine eq_ (fun _ k => ev_aload_n f48_26 rfl k) ?_
      refine eq_ (fun _ k => ev_getf f48_27 (by assumption) rfl k) ?_
      refine eq_ (fun _ k => ev_iconstN (n := 1) f48_30 k) ?_
      refine eq_ (fun _ k => ev_isubN (by omega) f48_31 k) ?_
      refine ⟨_, ev_vt2 f48_32 ow76 (by assumption) rfl rfl (Nat.le_of_ble_eq_true rfl) (k2) rfl rfl, ?_⟩
      exact ⟨hs1, rfl, k3, k4⟩
  · rw [if_neg (fun w => hq w.1), if_neg (fun w => hq w.1)]
    refine eq_ (fun _ k => ev_aload_n f48_0 rfl k) ?_
    refine eq_ (fun _ k => ev_iload_n f48_1 rfl k) ?_
    refine eq_ (fun _ k => ev_v1 f48_2 ow67 (by assumption) rfl (Nat.le_of_ble_eq_true rfl) (c67 h hf) k) ?_
    refine eq_ (fun _ k => ev_astore_n f48_5 k) ?_
    refine eq_ (fun _ k => ev_aload_n f48_6 rfl k) ?_
    refine eq_ (fun _ k => ev_getf f48_7 (by assumption) rfl k) ?_
    refine eq_ (fun _ k => ev_iconstN (n := 3) f48_10 k) ?_
    refine eq_icN (by omega) (by omega) (tgt := 24) f48_11 rfl (fun h9 => absurd h9 (by simp only [akN] at *; omega)) (fun _ => ?_)
    refine ⟨_, ev_throw f48_14 (Nat.le_of_ble_eq_true rfl) rfl, ?_⟩
    exact ⟨hs, rfl, h, Fr.refl⟩
theorem m52 (h : CS hs q g) (hf : f < 4) : ClO 52 [.ref 1, .int (nI f)] hs (.inl (some (.int (nI (2 ^ q f))))) q g := by
  obtain ⟨x1, x2, -⟩ := h.cells hf
  refine clo_mk ow52 (Nat.le_of_ble_eq_true rfl) ?_
  refine eq_ (fun _ k => ev_aload_n f52_0 rfl k) ?_
  refine eq_ (fun _ k => ev_iload_n f52_1 rfl k) ?_
  refine eq_ (fun _ k => ev_v1 f52_2 ow67 (by assumption) rfl (Nat.le_of_ble_eq_true rfl) (c67 h hf) k) ?_
  refine eq_ (fun _ k => ev_v0 f52_5 ow14 (by assumption) (Nat.le_of_ble_eq_true rfl) (f14 (h.2.2.1 f hf)) k) ?_
  refine ⟨_, ev_iret f52_8 (rI rfl _) rfl, ?_⟩
  exact ⟨hs, rfl, h, Fr.refl⟩
theorem m53 (h : CS hs q g) (hf : f < 4) : ClO 53 [.ref 1, .int (nI f)] hs (.inl (some (.int (nI (EE (g f) 4096))))) q g := by
  obtain ⟨x1, x2, -⟩ := h.cells hf
  refine clo_mk ow53 (Nat.le_of_ble_eq_true rfl) ?_
  refine eq_ (fun _ k => ev_aload_n f53_0 rfl k) ?_
  refine eq_ (fun _ k => ev_iload_n f53_1 rfl k) ?_
  refine eq_ (fun _ k => ev_v1 f53_2 ow67 (by assumption) rfl (Nat.le_of_ble_eq_true rfl) (c67 h hf) k) ?_
  refine eq_ (fun _ k => ev_v0 f53_5 ow20 (by assumption) (Nat.le_of_ble_eq_true rfl) (f20 (h.2.2.1 f hf)) k) ?_
  refine ⟨_, ev_iret f53_8 (rI rfl _) rfl, ?_⟩
  exact ⟨hs, rfl, h, Fr.refl⟩
theorem m55 (h : CS hs q g) (hf : f < 4) : ClO 55 [.ref 1, .int (nI f)] hs (.inl (some (.int (nI (smN (g f) 4096))))) q g := by
  obtain ⟨x1, x2, -⟩ := h.cells hf
  refine clo_mk ow55 (Nat.le_of_ble_eq_true rfl) ?_
  refine eq_ (fun _ k => ev_aload_n f55_0 rfl k) ?_
  refine eq_ (fun _ k => ev_iload_n f55_1 rfl k) ?_
  refine eq_ (fun _ k => ev_v1 f55_2 ow67 (by assumption) rfl (Nat.le_of_ble_eq_true rfl) (c67 h hf) k) ?_
  refine eq_ (fun _ k => ev_v0 f55_5 ow21 (by assumption) (Nat.le_of_ble_eq_true rfl) (f21 (h.2.2.1 f hf)) k) ?_
  refine ⟨_, ev_iret f55_8 (rI rfl _) rfl, ?_⟩
  exact ⟨hs, rfl, h, Fr.refl⟩
end OP
