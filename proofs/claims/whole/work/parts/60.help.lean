/-! the law's helpers: what a call of the class gives there; by wip/whole/gen60.py, rows laid by wip/whole/walk.py -/
/-- the law's world: script, class, model, the row for the answer -/
def LW (X : amC) (q : Nat → Nat) (g : Nat → Nat → Nat) (qm : Nat → Nat) (gm : Nat → Nat → Nat) (l : Nat) (ov : Int64) (hs : amH) : Prop := hs[0]? = some X ∧ CS hs q g ∧ MS hs qm gm l ∧ ∃ F : Nat → Int64, hs[47]? = some (.inl (.long, 1, .inr (.inl F))) ∧ F 0 = ov
theorem CS.fx {hs hs' : amH} {q : Nat → Nat} {g : Nat → Nat → Nat} (h : CS hs q g) {hi : Nat} (f : Fr hs hs' 39 hi) : CS hs' q g := by
  obtain ⟨a1, ⟨TF, a2, a3⟩, a4, ⟨b5, a5⟩, ⟨b6, a6⟩, ⟨b7, a7⟩, F, X, a8⟩ := h
  exact ⟨(f.2 _ (by omega)).trans a1, ⟨TF, (f.2 _ (by omega)).trans a2, a3⟩, fun i hi => (a4 i hi).fr f (by omega), ⟨b5, a5.fr f (by omega)⟩, ⟨b6, a6.fr f (by omega)⟩, ⟨b7, a7.fr f (by omega)⟩, F, X, a8.fr f (by omega)⟩
theorem MS.fx {hs hs' : amH} {q : Nat → Nat} {g : Nat → Nat → Nat} {l lo hi : Nat} (h : MS hs q g l) (f : Fr hs hs' lo hi) (hd : hi ≤ 39 ∨ 47 ≤ lo) : MS hs' q g l := by
  obtain ⟨a, b, c, ⟨A, d⟩, ⟨B, e1⟩, ⟨C, e2⟩, ⟨D, e3⟩, E, e4⟩ := h
  exact ⟨(f.2 _ (by omega)).trans a, (f.2 _ (by omega)).trans b, (f.2 _ (by omega)).trans c, ⟨A, (f.2 _ (by omega)).trans d⟩, ⟨B, (f.2 _ (by omega)).trans e1⟩, ⟨C, (f.2 _ (by omega)).trans e2⟩, ⟨D, (f.2 _ (by omega)).trans e3⟩, E, (f.2 _ (by omega)).trans e4⟩
theorem catL {as : List Value} (h : as.all (fun v => decide (v.category = 1)) = true) : ∀ v ∈ as, v.category = 1 := fun v hv => of_decide_eq_true (List.all_eq_true.mp h v hv)
/-- a run that ends with such an answer, in such a world, having made so much -/
def RtW (v : Option Value) (P : amH → Prop) (dc ds : Nat) : amOut → Prop := fun o => ∃ hs', o = (.inl v, hs', dc, ds) ∧ P hs'
theorem caw_mk {M own mL dc ds : Nat} {as : List Value} {hs : amH} {v : Option Value} {P : amH → Prop} (ho : amOwnL M = some (own, mL)) (hl : as.length ≤ mL) (h : EvQ M 0 (amEntry as mL) [] hs 0 0 (RtW v P dc ds)) : ∃ hs', Ca M as hs (.inl v, hs', dc, ds) ∧ P hs' := by
  obtain ⟨o, h1, hs', rfl, h2⟩ := h
  exact ⟨hs', ca_mk ho hl h1, h2⟩
section LH
variable {X : amC} {hs : amH} {q qm q' : Nat → Nat} {g gm g' : Nat → Nat → Nat} {l E kk : Nat} {ov : Int64} {v v1 v2 v3 : Int32}
theorem LW.cls (W : LW X q g qm gm l ov hs) {M : Nat} {as : List Value} {r : Option Value ⊕ Nat} (k : ClO M as hs r q' g') : ∃ hs', Ca M as hs (r, hs', rcN r, rsN6 r) ∧ LW X q' g' qm gm l ov hs' := by
  obtain ⟨w0, w1, w2, F, w3, w4⟩ := W
  obtain ⟨hs', k1, k2, k3⟩ := k
  exact ⟨hs', k1, (k3.2 _ (by omega)).trans w0, k2, w2.fx k3 (Or.inl (Nat.le_refl _)), F, (k3.2 _ (by omega)).trans w3, w4⟩
theorem LW.mod (W : LW X q g qm gm l ov hs) {M l' : Nat} {as : List Value} {r : Option Value} (k : CrQ M as hs r (MP hs q' g' l')) : ∃ hs', Cr M as hs r hs' ∧ LW X q g q' g' l' ov hs' := by
  obtain ⟨w0, w1, w2, F, w3, w4⟩ := W
  obtain ⟨hs', k1, k2, k3⟩ := k
  exact ⟨hs', k1, (k3.2 _ (by omega)).trans w0, w1.fx k3, k2, F, (k3.2 _ (by omega)).trans w3, w4⟩
theorem LW.put {hs1 : amH} {F : Nat → Int64} {w : Int64} (W : LW X q g qm gm l ov hs) (hF : hs[47]? = some (.inl (.long, 1, .inr (.inl F)))) (e : hs1 = hs.set 47 (.inl (.long, 1, .inr (.inl (vp_updL F 0 w))))) : LW X q g qm gm l w hs1 := by
  obtain ⟨w0, w1, w2, F2, w3, w4⟩ := W
  have f : Fr hs hs1 47 48 := Fr.st e (by omega) (by omega)
  exact ⟨(f.2 _ (by omega)).trans w0, w1.fx (hi := 48) ⟨f.1, fun j hj => f.2 j (by omega)⟩, w2.fx f (Or.inr (Nat.le_refl _)), _, am_set e hF, if_pos rfl⟩
/-- a boolean answer as a long -/
def blN (v : Int32) : Int64 := if v = 0 then Int64.ofNat 0 else Int64.ofNat 1
def K1 (E kk : Nat) : Prop := (E = 1 ∧ kk = 1)
def K12 (E kk : Nat) : Prop := (E = 1 ∧ kk = 1) ∨ (E = 2 ∧ kk = 2)
def K13 (E kk : Nat) : Prop := (E = 1 ∧ kk = 1) ∨ (E = 3 ∧ kk = 2)
def K132 (E kk : Nat) : Prop := (E = 1 ∧ kk = 1) ∨ (E = 3 ∧ kk = 2) ∨ (E = 2 ∧ kk = 3)
theorem h125 (W : LW X q g qm gm l ov hs) (k : ClO 38 [.ref 1, .int v1, .int v2] hs (.inl (some (.int v))) q' g') : ∃ hs', Ca 125 [.ref 1, .int v1, .int v2, .ref 47] hs (.inl (some (.int (nI 0))), hs', 0, 0) ∧ LW X q' g' qm gm l v.toInt64 hs' := by
  obtain ⟨hs1, k1, W1⟩ := W.cls k
  have x1 := W.2.1.1
  have WW := W1
  obtain ⟨-, -, -, F, o1, o2⟩ := WW
  refine caw_mk ow125 (Nat.le_of_ble_eq_true rfl) ?_
  refine eq_ (fun _ k => ev_aload_n f125_0 rfl k) ?_
  refine eq_ (fun _ k => ev_iconstN (n := 0) f125_1 k) ?_
  refine eq_ (fun _ k => ev_aload_n f125_2 rfl k) ?_
  refine eq_ (fun _ k => ev_iload_n f125_3 rfl k) ?_
  refine eq_ (fun _ k => ev_iload_n f125_4 rfl k) ?_
  refine eq_ (fun _ k => ev_v2 f125_5 ow38 (by assumption) rfl rfl (Nat.le_of_ble_eq_true rfl) (k1) k) ?_
  refine eq_ (fun _ k => ev_i2l f125_8 k) ?_
  refine eq_last f125_9 (by assumption) (by omega) (by omega) (by omega) (fun hs2 e2 => ?_)
  refine eq_ (fun _ k => ev_goto (tgt := 21) f125_10 rfl k) ?_
  refine eq_ (fun _ k => ev_iconstN (n := 0) f125_21 k) ?_
  refine ⟨_, ev_iret f125_22 (rI rfl _) rfl, ?_⟩
  exact ⟨hs2, rfl, W1.put o1 e2⟩
theorem h125x (W : LW X q g qm gm l ov hs) (hE : K12 E kk) (k : ClO 38 [.ref 1, .int v1, .int v2] hs (.inr E) q' g') : ∃ hs', Ca 125 [.ref 1, .int v1, .int v2, .ref 47] hs (.inl (some (.int (nI kk))), hs', 1, 6) ∧ LW X q' g' qm gm l ov hs' := by
  obtain ⟨hs1, k1, W1⟩ := W.cls k
  have x1 := W.2.1.1
  refine caw_mk ow125 (Nat.le_of_ble_eq_true rfl) ?_
  rcases hE with ⟨rfl, rfl⟩ | ⟨rfl, rfl⟩
  · refine eq_ (fun _ k => ev_aload_n f125_0 rfl k) ?_
    refine eq_ (fun _ k => ev_iconstN (n := 0) f125_1 k) ?_
    refine eq_ (fun _ k => ev_aload_n f125_2 rfl k) ?_
    refine eq_ (fun _ k => ev_iload_n f125_3 rfl k) ?_
    refine eq_ (fun _ k => ev_iload_n f125_4 rfl k) ?_
    refine eq_ (fun _ k => ev_vhw [.int v1, .int v2] f125_5 ow38 rfl rfl (by assumption) (catL rfl) (Nat.le_of_ble_eq_true rfl) k1 (by rfl) f125_13 k) ?_
    refine eq_ (fun _ k => ev_iconstN (n := 1) f125_15 k) ?_
    refine ⟨_, ev_iret f125_16 (rI rfl _) rfl, ?_⟩
    exact ⟨hs1, rfl, W1⟩
  · refine eq_ (fun _ k => ev_aload_n f125_0 rfl k) ?_
    refine eq_ (fun _ k => ev_iconstN (n := 0) f125_1 k) ?_
    refine eq_ (fun _ k => ev_aload_n f125_2 rfl k) ?_
    refine eq_ (fun _ k => ev_iload_n f125_3 rfl k) ?_
    refine eq_ (fun _ k => ev_iload_n f125_4 rfl k) ?_
    refine eq_ (fun _ k => ev_vhw [.int v1, .int v2] f125_5 ow38 rfl rfl (by assumption) (catL rfl) (Nat.le_of_ble_eq_true rfl) k1 (by rfl) f125_17 k) ?_
    refine eq_ (fun _ k => ev_iconstN (n := 2) f125_19 k) ?_
    refine ⟨_, ev_iret f125_20 (rI rfl _) rfl, ?_⟩
    exact ⟨hs1, rfl, W1⟩
theorem h126 (W : LW X q g qm gm l ov hs) (k : ClO 39 [.ref 1, .int v1, .int v2] hs (.inl (some (.int v))) q' g') : ∃ hs', Ca 126 [.ref 1, .int v1, .int v2, .ref 47] hs (.inl (some (.int (nI 0))), hs', 0, 0) ∧ LW X q' g' qm gm l (blN v) hs' := by
  obtain ⟨hs1, k1, W1⟩ := W.cls k
  have x1 := W.2.1.1
  have WW := W1
  obtain ⟨-, -, -, F, o1, o2⟩ := WW
  refine caw_mk ow126 (Nat.le_of_ble_eq_true rfl) ?_
  refine eq_ (fun _ k => ev_aload_n f126_0 rfl k) ?_
  refine eq_ (fun _ k => ev_iconstN (n := 0) f126_1 k) ?_
  refine eq_ (fun _ k => ev_aload_n f126_2 rfl k) ?_
  refine eq_ (fun _ k => ev_iload_n f126_3 rfl k) ?_
  refine eq_ (fun _ k => ev_iload_n f126_4 rfl k) ?_
  refine eq_ (fun _ k => ev_v2 f126_5 ow39 (by assumption) rfl rfl (Nat.le_of_ble_eq_true rfl) (k1) k) ?_
  refine eq_if (tgt := 15) f126_8 rfl (fun hc => ?_) (fun hc => ?_)
  · have hc2 : v = 0 := hc
    have eb : blN v = Int64.ofNat 0 := if_pos hc2
    rw [eb]
    refine eq_ (fun _ k => ev_lconst f126_15 k) ?_
    refine eq_last f126_16 (by assumption) (by omega) (by omega) (by omega) (fun hs2 e2 => ?_)
    refine eq_ (fun _ k => ev_goto (tgt := 24) f126_17 rfl k) ?_
    refine eq_ (fun _ k => ev_iconstN (n := 0) f126_24 k) ?_
    refine ⟨_, ev_iret f126_25 (rI rfl _) rfl, ?_⟩
    exact ⟨hs2, rfl, W1.put o1 e2⟩
  · have hc2 : ¬ v = 0 := hc
    have eb : blN v = Int64.ofNat 1 := if_neg hc2
    rw [eb]
    refine eq_ (fun _ k => ev_lconst f126_11 k) ?_
    refine eq_ (fun _ k => ev_goto (tgt := 16) f126_12 rfl k) ?_
    refine eq_last f126_16 (by assumption) (by omega) (by omega) (by omega) (fun hs2 e2 => ?_)
    refine eq_ (fun _ k => ev_goto (tgt := 24) f126_17 rfl k) ?_
    refine eq_ (fun _ k => ev_iconstN (n := 0) f126_24 k) ?_
    refine ⟨_, ev_iret f126_25 (rI rfl _) rfl, ?_⟩
    exact ⟨hs2, rfl, W1.put o1 e2⟩
theorem h126x (W : LW X q g qm gm l ov hs) (hE : K1 E kk) (k : ClO 39 [.ref 1, .int v1, .int v2] hs (.inr E) q' g') : ∃ hs', Ca 126 [.ref 1, .int v1, .int v2, .ref 47] hs (.inl (some (.int (nI kk))), hs', 1, 6) ∧ LW X q' g' qm gm l ov hs' := by
  obtain ⟨hs1, k1, W1⟩ := W.cls k
  have x1 := W.2.1.1
  refine caw_mk ow126 (Nat.le_of_ble_eq_true rfl) ?_
  rcases hE with ⟨rfl, rfl⟩
  · refine eq_ (fun _ k => ev_aload_n f126_0 rfl k) ?_
    refine eq_ (fun _ k => ev_iconstN (n := 0) f126_1 k) ?_
    refine eq_ (fun _ k => ev_aload_n f126_2 rfl k) ?_
    refine eq_ (fun _ k => ev_iload_n f126_3 rfl k) ?_
    refine eq_ (fun _ k => ev_iload_n f126_4 rfl k) ?_
    refine eq_ (fun _ k => ev_vhw [.int v1, .int v2] f126_5 ow39 rfl rfl (by assumption) (catL rfl) (Nat.le_of_ble_eq_true rfl) k1 (by rfl) f126_20 k) ?_
    refine eq_ (fun _ k => ev_iconstN (n := 1) f126_22 k) ?_
    refine ⟨_, ev_iret f126_23 (rI rfl _) rfl, ?_⟩
    exact ⟨hs1, rfl, W1⟩
theorem h127 (W : LW X q g qm gm l ov hs) (k : ClO 40 [.ref 1, .int v1, .int v2] hs (.inl (some (.int v))) q' g') : ∃ hs', Ca 127 [.ref 1, .int v1, .int v2, .ref 47] hs (.inl (some (.int (nI 0))), hs', 0, 0) ∧ LW X q' g' qm gm l v.toInt64 hs' := by
  obtain ⟨hs1, k1, W1⟩ := W.cls k
  have x1 := W.2.1.1
  have WW := W1
  obtain ⟨-, -, -, F, o1, o2⟩ := WW
  refine caw_mk ow127 (Nat.le_of_ble_eq_true rfl) ?_
  refine eq_ (fun _ k => ev_aload_n f127_0 rfl k) ?_
  refine eq_ (fun _ k => ev_iconstN (n := 0) f127_1 k) ?_
  refine eq_ (fun _ k => ev_aload_n f127_2 rfl k) ?_
  refine eq_ (fun _ k => ev_iload_n f127_3 rfl k) ?_
  refine eq_ (fun _ k => ev_iload_n f127_4 rfl k) ?_
  refine eq_ (fun _ k => ev_v2 f127_5 ow40 (by assumption) rfl rfl (Nat.le_of_ble_eq_true rfl) (k1) k) ?_
  refine eq_ (fun _ k => ev_i2l f127_8 k) ?_
  refine eq_last f127_9 (by assumption) (by omega) (by omega) (by omega) (fun hs2 e2 => ?_)
  refine eq_ (fun _ k => ev_goto (tgt := 17) f127_10 rfl k) ?_
  refine eq_ (fun _ k => ev_iconstN (n := 0) f127_17 k) ?_
  refine ⟨_, ev_iret f127_18 (rI rfl _) rfl, ?_⟩
  exact ⟨hs2, rfl, W1.put o1 e2⟩
theorem h127x (W : LW X q g qm gm l ov hs) (hE : K1 E kk) (k : ClO 40 [.ref 1, .int v1, .int v2] hs (.inr E) q' g') : ∃ hs', Ca 127 [.ref 1, .int v1, .int v2, .ref 47] hs (.inl (some (.int (nI kk))), hs', 1, 6) ∧ LW X q' g' qm gm l ov hs' := by
  obtain ⟨hs1, k1, W1⟩ := W.cls k
  have x1 := W.2.1.1
  refine caw_mk ow127 (Nat.le_of_ble_eq_true rfl) ?_
  rcases hE with ⟨rfl, rfl⟩
  · refine eq_ (fun _ k => ev_aload_n f127_0 rfl k) ?_
    refine eq_ (fun _ k => ev_iconstN (n := 0) f127_1 k) ?_
    refine eq_ (fun _ k => ev_aload_n f127_2 rfl k) ?_
    refine eq_ (fun _ k => ev_iload_n f127_3 rfl k) ?_
    refine eq_ (fun _ k => ev_iload_n f127_4 rfl k) ?_
    refine eq_ (fun _ k => ev_vhw [.int v1, .int v2] f127_5 ow40 rfl rfl (by assumption) (catL rfl) (Nat.le_of_ble_eq_true rfl) k1 (by rfl) f127_13 k) ?_
    refine eq_ (fun _ k => ev_iconstN (n := 1) f127_15 k) ?_
    refine ⟨_, ev_iret f127_16 (rI rfl _) rfl, ?_⟩
    exact ⟨hs1, rfl, W1⟩
theorem h128 (W : LW X q g qm gm l ov hs) (k : ClO 41 [.ref 1, .int v1, .int v2, .int v3] hs (.inl (some (.int v))) q' g') : ∃ hs', Ca 128 [.ref 1, .int v1, .int v2, .int v3, .ref 47] hs (.inl (some (.int (nI 0))), hs', 0, 0) ∧ LW X q' g' qm gm l v.toInt64 hs' := by
  obtain ⟨hs1, k1, W1⟩ := W.cls k
  have x1 := W.2.1.1
  have WW := W1
  obtain ⟨-, -, -, F, o1, o2⟩ := WW
  refine caw_mk ow128 (Nat.le_of_ble_eq_true rfl) ?_
  refine eq_ (fun _ k => ev_aload f128_0 rfl k) ?_
  refine eq_ (fun _ k => ev_iconstN (n := 0) f128_2 k) ?_
  refine eq_ (fun _ k => ev_aload_n f128_3 rfl k) ?_
  refine eq_ (fun _ k => ev_iload_n f128_4 rfl k) ?_
  refine eq_ (fun _ k => ev_iload_n f128_5 rfl k) ?_
  refine eq_ (fun _ k => ev_iload_n f128_6 rfl k) ?_
  refine eq_ (fun _ k => ev_v3 f128_7 ow41 (by assumption) rfl rfl rfl (Nat.le_of_ble_eq_true rfl) (k1) k) ?_
  refine eq_ (fun _ k => ev_i2l f128_10 k) ?_
  refine eq_last f128_11 (by assumption) (by omega) (by omega) (by omega) (fun hs2 e2 => ?_)
  refine eq_ (fun _ k => ev_goto (tgt := 27) f128_12 rfl k) ?_
  refine eq_ (fun _ k => ev_iconstN (n := 0) f128_27 k) ?_
  refine ⟨_, ev_iret f128_28 (rI rfl _) rfl, ?_⟩
  exact ⟨hs2, rfl, W1.put o1 e2⟩
theorem h128x (W : LW X q g qm gm l ov hs) (hE : K132 E kk) (k : ClO 41 [.ref 1, .int v1, .int v2, .int v3] hs (.inr E) q' g') : ∃ hs', Ca 128 [.ref 1, .int v1, .int v2, .int v3, .ref 47] hs (.inl (some (.int (nI kk))), hs', 1, 6) ∧ LW X q' g' qm gm l ov hs' := by
  obtain ⟨hs1, k1, W1⟩ := W.cls k
  have x1 := W.2.1.1
  refine caw_mk ow128 (Nat.le_of_ble_eq_true rfl) ?_
  rcases hE with ⟨rfl, rfl⟩ | ⟨rfl, rfl⟩ | ⟨rfl, rfl⟩
  · refine eq_ (fun _ k => ev_aload f128_0 rfl k) ?_
    refine eq_ (fun _ k => ev_iconstN (n := 0) f128_2 k) ?_
    refine eq_ (fun _ k => ev_aload_n f128_3 rfl k) ?_
    refine eq_ (fun _ k => ev_iload_n f128_4 rfl k) ?_
    refine eq_ (fun _ k => ev_iload_n f128_5 rfl k) ?_
    refine eq_ (fun _ k => ev_iload_n f128_6 rfl k) ?_
    refine eq_ (fun _ k => ev_vhw [.int v1, .int v2, .int v3] f128_7 ow41 rfl rfl (by assumption) (catL rfl) (Nat.le_of_ble_eq_true rfl) k1 (by rfl) f128_15 k) ?_
    refine eq_ (fun _ k => ev_iconstN (n := 1) f128_17 k) ?_
    refine ⟨_, ev_iret f128_18 (rI rfl _) rfl, ?_⟩
    exact ⟨hs1, rfl, W1⟩
  · refine eq_ (fun _ k => ev_aload f128_0 rfl k) ?_
    refine eq_ (fun _ k => ev_iconstN (n := 0) f128_2 k) ?_
    refine eq_ (fun _ k => ev_aload_n f128_3 rfl k) ?_
    refine eq_ (fun _ k => ev_iload_n f128_4 rfl k) ?_
    refine eq_ (fun _ k => ev_iload_n f128_5 rfl k) ?_
    refine eq_ (fun _ k => ev_iload_n f128_6 rfl k) ?_
    refine eq_ (fun _ k => ev_vhw [.int v1, .int v2, .int v3] f128_7 ow41 rfl rfl (by assumption) (catL rfl) (Nat.le_of_ble_eq_true rfl) k1 (by rfl) f128_19 k) ?_
    refine eq_ (fun _ k => ev_iconstN (n := 2) f128_21 k) ?_
    refine ⟨_, ev_iret f128_22 (rI rfl _) rfl, ?_⟩
    exact ⟨hs1, rfl, W1⟩
  · refine eq_ (fun _ k => ev_aload f128_0 rfl k) ?_
    refine eq_ (fun _ k => ev_iconstN (n := 0) f128_2 k) ?_
    refine eq_ (fun _ k => ev_aload_n f128_3 rfl k) ?_
    refine eq_ (fun _ k => ev_iload_n f128_4 rfl k) ?_
    refine eq_ (fun _ k => ev_iload_n f128_5 rfl k) ?_
    refine eq_ (fun _ k => ev_iload_n f128_6 rfl k) ?_
    refine eq_ (fun _ k => ev_vhw [.int v1, .int v2, .int v3] f128_7 ow41 rfl rfl (by assumption) (catL rfl) (Nat.le_of_ble_eq_true rfl) k1 (by rfl) f128_23 k) ?_
    refine eq_ (fun _ k => ev_iconstN (n := 3) f128_25 k) ?_
    refine ⟨_, ev_iret f128_26 (rI rfl _) rfl, ?_⟩
    exact ⟨hs1, rfl, W1⟩
theorem h129 (W : LW X q g qm gm l ov hs) (k : ClO 42 [.ref 1, .int v1, .int v2, .int v3] hs (.inl (some (.int v))) q' g') : ∃ hs', Ca 129 [.ref 1, .int v1, .int v2, .int v3, .ref 47] hs (.inl (some (.int (nI 0))), hs', 0, 0) ∧ LW X q' g' qm gm l v.toInt64 hs' := by
  obtain ⟨hs1, k1, W1⟩ := W.cls k
  have x1 := W.2.1.1
  have WW := W1
  obtain ⟨-, -, -, F, o1, o2⟩ := WW
  refine caw_mk ow129 (Nat.le_of_ble_eq_true rfl) ?_
  refine eq_ (fun _ k => ev_aload f129_0 rfl k) ?_
  refine eq_ (fun _ k => ev_iconstN (n := 0) f129_2 k) ?_
  refine eq_ (fun _ k => ev_aload_n f129_3 rfl k) ?_
  refine eq_ (fun _ k => ev_iload_n f129_4 rfl k) ?_
  refine eq_ (fun _ k => ev_iload_n f129_5 rfl k) ?_
  refine eq_ (fun _ k => ev_iload_n f129_6 rfl k) ?_
  refine eq_ (fun _ k => ev_v3 f129_7 ow42 (by assumption) rfl rfl rfl (Nat.le_of_ble_eq_true rfl) (k1) k) ?_
  refine eq_ (fun _ k => ev_i2l f129_10 k) ?_
  refine eq_last f129_11 (by assumption) (by omega) (by omega) (by omega) (fun hs2 e2 => ?_)
  refine eq_ (fun _ k => ev_goto (tgt := 23) f129_12 rfl k) ?_
  refine eq_ (fun _ k => ev_iconstN (n := 0) f129_23 k) ?_
  refine ⟨_, ev_iret f129_24 (rI rfl _) rfl, ?_⟩
  exact ⟨hs2, rfl, W1.put o1 e2⟩
theorem h129x (W : LW X q g qm gm l ov hs) (hE : K13 E kk) (k : ClO 42 [.ref 1, .int v1, .int v2, .int v3] hs (.inr E) q' g') : ∃ hs', Ca 129 [.ref 1, .int v1, .int v2, .int v3, .ref 47] hs (.inl (some (.int (nI kk))), hs', 1, 6) ∧ LW X q' g' qm gm l ov hs' := by
  obtain ⟨hs1, k1, W1⟩ := W.cls k
  have x1 := W.2.1.1
  refine caw_mk ow129 (Nat.le_of_ble_eq_true rfl) ?_
  rcases hE with ⟨rfl, rfl⟩ | ⟨rfl, rfl⟩
  · refine eq_ (fun _ k => ev_aload f129_0 rfl k) ?_
    refine eq_ (fun _ k => ev_iconstN (n := 0) f129_2 k) ?_
    refine eq_ (fun _ k => ev_aload_n f129_3 rfl k) ?_
    refine eq_ (fun _ k => ev_iload_n f129_4 rfl k) ?_
    refine eq_ (fun _ k => ev_iload_n f129_5 rfl k) ?_
    refine eq_ (fun _ k => ev_iload_n f129_6 rfl k) ?_
    refine eq_ (fun _ k => ev_vhw [.int v1, .int v2, .int v3] f129_7 ow42 rfl rfl (by assumption) (catL rfl) (Nat.le_of_ble_eq_true rfl) k1 (by rfl) f129_15 k) ?_
    refine eq_ (fun _ k => ev_iconstN (n := 1) f129_17 k) ?_
    refine ⟨_, ev_iret f129_18 (rI rfl _) rfl, ?_⟩
    exact ⟨hs1, rfl, W1⟩
  · refine eq_ (fun _ k => ev_aload f129_0 rfl k) ?_
    refine eq_ (fun _ k => ev_iconstN (n := 0) f129_2 k) ?_
    refine eq_ (fun _ k => ev_aload_n f129_3 rfl k) ?_
    refine eq_ (fun _ k => ev_iload_n f129_4 rfl k) ?_
    refine eq_ (fun _ k => ev_iload_n f129_5 rfl k) ?_
    refine eq_ (fun _ k => ev_iload_n f129_6 rfl k) ?_
    refine eq_ (fun _ k => ev_vhw [.int v1, .int v2, .int v3] f129_7 ow42 rfl rfl (by assumption) (catL rfl) (Nat.le_of_ble_eq_true rfl) k1 (by rfl) f129_19 k) ?_
    refine eq_ (fun _ k => ev_iconstN (n := 2) f129_21 k) ?_
    refine ⟨_, ev_iret f129_22 (rI rfl _) rfl, ?_⟩
    exact ⟨hs1, rfl, W1⟩
theorem h130 (W : LW X q g qm gm l ov hs) (k : ClO 43 [.ref 1, .int v1, .int v2] hs (.inl (some (.int v))) q' g') : ∃ hs', Ca 130 [.ref 1, .int v1, .int v2, .ref 47] hs (.inl (some (.int (nI 0))), hs', 0, 0) ∧ LW X q' g' qm gm l v.toInt64 hs' := by
  obtain ⟨hs1, k1, W1⟩ := W.cls k
  have x1 := W.2.1.1
  have WW := W1
  obtain ⟨-, -, -, F, o1, o2⟩ := WW
  refine caw_mk ow130 (Nat.le_of_ble_eq_true rfl) ?_
  refine eq_ (fun _ k => ev_aload_n f130_0 rfl k) ?_
  refine eq_ (fun _ k => ev_iconstN (n := 0) f130_1 k) ?_
  refine eq_ (fun _ k => ev_aload_n f130_2 rfl k) ?_
  refine eq_ (fun _ k => ev_iload_n f130_3 rfl k) ?_
  refine eq_ (fun _ k => ev_iload_n f130_4 rfl k) ?_
  refine eq_ (fun _ k => ev_v2 f130_5 ow43 (by assumption) rfl rfl (Nat.le_of_ble_eq_true rfl) (k1) k) ?_
  refine eq_ (fun _ k => ev_i2l f130_8 k) ?_
  refine eq_last f130_9 (by assumption) (by omega) (by omega) (by omega) (fun hs2 e2 => ?_)
  refine eq_ (fun _ k => ev_goto (tgt := 21) f130_10 rfl k) ?_
  refine eq_ (fun _ k => ev_iconstN (n := 0) f130_21 k) ?_
  refine ⟨_, ev_iret f130_22 (rI rfl _) rfl, ?_⟩
  exact ⟨hs2, rfl, W1.put o1 e2⟩
theorem h130x (W : LW X q g qm gm l ov hs) (hE : K13 E kk) (k : ClO 43 [.ref 1, .int v1, .int v2] hs (.inr E) q' g') : ∃ hs', Ca 130 [.ref 1, .int v1, .int v2, .ref 47] hs (.inl (some (.int (nI kk))), hs', 1, 6) ∧ LW X q' g' qm gm l ov hs' := by
  obtain ⟨hs1, k1, W1⟩ := W.cls k
  have x1 := W.2.1.1
  refine caw_mk ow130 (Nat.le_of_ble_eq_true rfl) ?_
  rcases hE with ⟨rfl, rfl⟩ | ⟨rfl, rfl⟩
  · refine eq_ (fun _ k => ev_aload_n f130_0 rfl k) ?_
    refine eq_ (fun _ k => ev_iconstN (n := 0) f130_1 k) ?_
    refine eq_ (fun _ k => ev_aload_n f130_2 rfl k) ?_
    refine eq_ (fun _ k => ev_iload_n f130_3 rfl k) ?_
    refine eq_ (fun _ k => ev_iload_n f130_4 rfl k) ?_
    refine eq_ (fun _ k => ev_vhw [.int v1, .int v2] f130_5 ow43 rfl rfl (by assumption) (catL rfl) (Nat.le_of_ble_eq_true rfl) k1 (by rfl) f130_13 k) ?_
    refine eq_ (fun _ k => ev_iconstN (n := 1) f130_15 k) ?_
    refine ⟨_, ev_iret f130_16 (rI rfl _) rfl, ?_⟩
    exact ⟨hs1, rfl, W1⟩
  · refine eq_ (fun _ k => ev_aload_n f130_0 rfl k) ?_
    refine eq_ (fun _ k => ev_iconstN (n := 0) f130_1 k) ?_
    refine eq_ (fun _ k => ev_aload_n f130_2 rfl k) ?_
    refine eq_ (fun _ k => ev_iload_n f130_3 rfl k) ?_
    refine eq_ (fun _ k => ev_iload_n f130_4 rfl k) ?_
    refine eq_ (fun _ k => ev_vhw [.int v1, .int v2] f130_5 ow43 rfl rfl (by assumption) (catL rfl) (Nat.le_of_ble_eq_true rfl) k1 (by rfl) f130_17 k) ?_
    refine eq_ (fun _ k => ev_iconstN (n := 2) f130_19 k) ?_
    refine ⟨_, ev_iret f130_20 (rI rfl _) rfl, ?_⟩
    exact ⟨hs1, rfl, W1⟩
theorem h131 (W : LW X q g qm gm l ov hs) (k : ClO 44 [.ref 1, .int v1, .int v2] hs (.inl (some (.int v))) q' g') : ∃ hs', Ca 131 [.ref 1, .int v1, .int v2, .ref 47] hs (.inl (some (.int (nI 0))), hs', 0, 0) ∧ LW X q' g' qm gm l v.toInt64 hs' := by
  obtain ⟨hs1, k1, W1⟩ := W.cls k
  have x1 := W.2.1.1
  have WW := W1
  obtain ⟨-, -, -, F, o1, o2⟩ := WW
  refine caw_mk ow131 (Nat.le_of_ble_eq_true rfl) ?_
  refine eq_ (fun _ k => ev_aload_n f131_0 rfl k) ?_
  refine eq_ (fun _ k => ev_iconstN (n := 0) f131_1 k) ?_
  refine eq_ (fun _ k => ev_aload_n f131_2 rfl k) ?_
  refine eq_ (fun _ k => ev_iload_n f131_3 rfl k) ?_
  refine eq_ (fun _ k => ev_iload_n f131_4 rfl k) ?_
  refine eq_ (fun _ k => ev_v2 f131_5 ow44 (by assumption) rfl rfl (Nat.le_of_ble_eq_true rfl) (k1) k) ?_
  refine eq_ (fun _ k => ev_i2l f131_8 k) ?_
  refine eq_last f131_9 (by assumption) (by omega) (by omega) (by omega) (fun hs2 e2 => ?_)
  refine eq_ (fun _ k => ev_goto (tgt := 21) f131_10 rfl k) ?_
  refine eq_ (fun _ k => ev_iconstN (n := 0) f131_21 k) ?_
  refine ⟨_, ev_iret f131_22 (rI rfl _) rfl, ?_⟩
  exact ⟨hs2, rfl, W1.put o1 e2⟩
theorem h131x (W : LW X q g qm gm l ov hs) (hE : K13 E kk) (k : ClO 44 [.ref 1, .int v1, .int v2] hs (.inr E) q' g') : ∃ hs', Ca 131 [.ref 1, .int v1, .int v2, .ref 47] hs (.inl (some (.int (nI kk))), hs', 1, 6) ∧ LW X q' g' qm gm l ov hs' := by
  obtain ⟨hs1, k1, W1⟩ := W.cls k
  have x1 := W.2.1.1
  refine caw_mk ow131 (Nat.le_of_ble_eq_true rfl) ?_
  rcases hE with ⟨rfl, rfl⟩ | ⟨rfl, rfl⟩
  · refine eq_ (fun _ k => ev_aload_n f131_0 rfl k) ?_
    refine eq_ (fun _ k => ev_iconstN (n := 0) f131_1 k) ?_
    refine eq_ (fun _ k => ev_aload_n f131_2 rfl k) ?_
    refine eq_ (fun _ k => ev_iload_n f131_3 rfl k) ?_
    refine eq_ (fun _ k => ev_iload_n f131_4 rfl k) ?_
    refine eq_ (fun _ k => ev_vhw [.int v1, .int v2] f131_5 ow44 rfl rfl (by assumption) (catL rfl) (Nat.le_of_ble_eq_true rfl) k1 (by rfl) f131_13 k) ?_
    refine eq_ (fun _ k => ev_iconstN (n := 1) f131_15 k) ?_
    refine ⟨_, ev_iret f131_16 (rI rfl _) rfl, ?_⟩
    exact ⟨hs1, rfl, W1⟩
  · refine eq_ (fun _ k => ev_aload_n f131_0 rfl k) ?_
    refine eq_ (fun _ k => ev_iconstN (n := 0) f131_1 k) ?_
    refine eq_ (fun _ k => ev_aload_n f131_2 rfl k) ?_
    refine eq_ (fun _ k => ev_iload_n f131_3 rfl k) ?_
    refine eq_ (fun _ k => ev_iload_n f131_4 rfl k) ?_
    refine eq_ (fun _ k => ev_vhw [.int v1, .int v2] f131_5 ow44 rfl rfl (by assumption) (catL rfl) (Nat.le_of_ble_eq_true rfl) k1 (by rfl) f131_17 k) ?_
    refine eq_ (fun _ k => ev_iconstN (n := 2) f131_19 k) ?_
    refine ⟨_, ev_iret f131_20 (rI rfl _) rfl, ?_⟩
    exact ⟨hs1, rfl, W1⟩
theorem h132 (W : LW X q g qm gm l ov hs) (k : ClO 45 [.ref 1, .int v1, .int v2] hs (.inl (some (.int v))) q' g') : ∃ hs', Ca 132 [.ref 1, .int v1, .int v2, .ref 47] hs (.inl (some (.int (nI 0))), hs', 0, 0) ∧ LW X q' g' qm gm l v.toInt64 hs' := by
  obtain ⟨hs1, k1, W1⟩ := W.cls k
  have x1 := W.2.1.1
  have WW := W1
  obtain ⟨-, -, -, F, o1, o2⟩ := WW
  refine caw_mk ow132 (Nat.le_of_ble_eq_true rfl) ?_
  refine eq_ (fun _ k => ev_aload_n f132_0 rfl k) ?_
  refine eq_ (fun _ k => ev_iconstN (n := 0) f132_1 k) ?_
  refine eq_ (fun _ k => ev_aload_n f132_2 rfl k) ?_
  refine eq_ (fun _ k => ev_iload_n f132_3 rfl k) ?_
  refine eq_ (fun _ k => ev_iload_n f132_4 rfl k) ?_
  refine eq_ (fun _ k => ev_v2 f132_5 ow45 (by assumption) rfl rfl (Nat.le_of_ble_eq_true rfl) (k1) k) ?_
  refine eq_ (fun _ k => ev_i2l f132_8 k) ?_
  refine eq_last f132_9 (by assumption) (by omega) (by omega) (by omega) (fun hs2 e2 => ?_)
  refine eq_ (fun _ k => ev_goto (tgt := 21) f132_10 rfl k) ?_
  refine eq_ (fun _ k => ev_iconstN (n := 0) f132_21 k) ?_
  refine ⟨_, ev_iret f132_22 (rI rfl _) rfl, ?_⟩
  exact ⟨hs2, rfl, W1.put o1 e2⟩
theorem h132x (W : LW X q g qm gm l ov hs) (hE : K13 E kk) (k : ClO 45 [.ref 1, .int v1, .int v2] hs (.inr E) q' g') : ∃ hs', Ca 132 [.ref 1, .int v1, .int v2, .ref 47] hs (.inl (some (.int (nI kk))), hs', 1, 6) ∧ LW X q' g' qm gm l ov hs' := by
  obtain ⟨hs1, k1, W1⟩ := W.cls k
  have x1 := W.2.1.1
  refine caw_mk ow132 (Nat.le_of_ble_eq_true rfl) ?_
  rcases hE with ⟨rfl, rfl⟩ | ⟨rfl, rfl⟩
  · refine eq_ (fun _ k => ev_aload_n f132_0 rfl k) ?_
    refine eq_ (fun _ k => ev_iconstN (n := 0) f132_1 k) ?_
    refine eq_ (fun _ k => ev_aload_n f132_2 rfl k) ?_
    refine eq_ (fun _ k => ev_iload_n f132_3 rfl k) ?_
    refine eq_ (fun _ k => ev_iload_n f132_4 rfl k) ?_
    refine eq_ (fun _ k => ev_vhw [.int v1, .int v2] f132_5 ow45 rfl rfl (by assumption) (catL rfl) (Nat.le_of_ble_eq_true rfl) k1 (by rfl) f132_13 k) ?_
    refine eq_ (fun _ k => ev_iconstN (n := 1) f132_15 k) ?_
    refine ⟨_, ev_iret f132_16 (rI rfl _) rfl, ?_⟩
    exact ⟨hs1, rfl, W1⟩
  · refine eq_ (fun _ k => ev_aload_n f132_0 rfl k) ?_
    refine eq_ (fun _ k => ev_iconstN (n := 0) f132_1 k) ?_
    refine eq_ (fun _ k => ev_aload_n f132_2 rfl k) ?_
    refine eq_ (fun _ k => ev_iload_n f132_3 rfl k) ?_
    refine eq_ (fun _ k => ev_iload_n f132_4 rfl k) ?_
    refine eq_ (fun _ k => ev_vhw [.int v1, .int v2] f132_5 ow45 rfl rfl (by assumption) (catL rfl) (Nat.le_of_ble_eq_true rfl) k1 (by rfl) f132_17 k) ?_
    refine eq_ (fun _ k => ev_iconstN (n := 2) f132_19 k) ?_
    refine ⟨_, ev_iret f132_20 (rI rfl _) rfl, ?_⟩
    exact ⟨hs1, rfl, W1⟩
theorem h133 (W : LW X q g qm gm l ov hs) (k : ClO 46 [.ref 1, .int v1] hs (.inl none) q' g') : ∃ hs', Ca 133 [.ref 1, .int v1] hs (.inl (some (.int (nI 0))), hs', 0, 0) ∧ LW X q' g' qm gm l ov hs' := by
  obtain ⟨hs1, k1, W1⟩ := W.cls k
  have x1 := W.2.1.1
  have WW := W1
  obtain ⟨-, -, -, F, o1, o2⟩ := WW
  refine caw_mk ow133 (Nat.le_of_ble_eq_true rfl) ?_
  refine eq_ (fun _ k => ev_aload_n f133_0 rfl k) ?_
  refine eq_ (fun _ k => ev_iload_n f133_1 rfl k) ?_
  refine eq_ (fun _ k => ev_v1 f133_2 ow46 (by assumption) rfl (Nat.le_of_ble_eq_true rfl) (k1) k) ?_
  refine eq_ (fun _ k => ev_goto (tgt := 11) f133_5 rfl k) ?_
  refine eq_ (fun _ k => ev_iconstN (n := 0) f133_11 k) ?_
  refine ⟨_, ev_iret f133_12 (rI rfl _) rfl, ?_⟩
  exact ⟨hs1, rfl, W1⟩
theorem h133x (W : LW X q g qm gm l ov hs) (hE : K1 E kk) (k : ClO 46 [.ref 1, .int v1] hs (.inr E) q' g') : ∃ hs', Ca 133 [.ref 1, .int v1] hs (.inl (some (.int (nI kk))), hs', 1, 6) ∧ LW X q' g' qm gm l ov hs' := by
  obtain ⟨hs1, k1, W1⟩ := W.cls k
  have x1 := W.2.1.1
  refine caw_mk ow133 (Nat.le_of_ble_eq_true rfl) ?_
  rcases hE with ⟨rfl, rfl⟩
  · refine eq_ (fun _ k => ev_aload_n f133_0 rfl k) ?_
    refine eq_ (fun _ k => ev_iload_n f133_1 rfl k) ?_
    refine eq_ (fun _ k => ev_vh [.int v1] f133_2 ow46 rfl rfl (by assumption) (catL rfl) (Nat.le_of_ble_eq_true rfl) k1 (by rfl) f133_8 k) ?_
    refine eq_ (fun _ k => ev_iconstN (n := 1) f133_9 k) ?_
    refine ⟨_, ev_iret f133_10 (rI rfl _) rfl, ?_⟩
    exact ⟨hs1, rfl, W1⟩
theorem h134 (W : LW X q g qm gm l ov hs) (k : ClO 47 [.ref 1, .int v1] hs (.inl (some (.int v))) q' g') : ∃ hs', Ca 134 [.ref 1, .int v1, .ref 47] hs (.inl (some (.int (nI 0))), hs', 0, 0) ∧ LW X q' g' qm gm l v.toInt64 hs' := by
  obtain ⟨hs1, k1, W1⟩ := W.cls k
  have x1 := W.2.1.1
  have WW := W1
  obtain ⟨-, -, -, F, o1, o2⟩ := WW
  refine caw_mk ow134 (Nat.le_of_ble_eq_true rfl) ?_
  refine eq_ (fun _ k => ev_aload_n f134_0 rfl k) ?_
  refine eq_ (fun _ k => ev_iconstN (n := 0) f134_1 k) ?_
  refine eq_ (fun _ k => ev_aload_n f134_2 rfl k) ?_
  refine eq_ (fun _ k => ev_iload_n f134_3 rfl k) ?_
  refine eq_ (fun _ k => ev_v1 f134_4 ow47 (by assumption) rfl (Nat.le_of_ble_eq_true rfl) (k1) k) ?_
  refine eq_ (fun _ k => ev_i2l f134_7 k) ?_
  refine eq_last f134_8 (by assumption) (by omega) (by omega) (by omega) (fun hs2 e2 => ?_)
  refine eq_ (fun _ k => ev_goto (tgt := 18) f134_9 rfl k) ?_
  refine eq_ (fun _ k => ev_iconstN (n := 0) f134_18 k) ?_
  refine ⟨_, ev_iret f134_19 (rI rfl _) rfl, ?_⟩
  exact ⟨hs2, rfl, W1.put o1 e2⟩
theorem h134x (W : LW X q g qm gm l ov hs) (hE : K12 E kk) (k : ClO 47 [.ref 1, .int v1] hs (.inr E) q' g') : ∃ hs', Ca 134 [.ref 1, .int v1, .ref 47] hs (.inl (some (.int (nI kk))), hs', 1, 6) ∧ LW X q' g' qm gm l ov hs' := by
  obtain ⟨hs1, k1, W1⟩ := W.cls k
  have x1 := W.2.1.1
  refine caw_mk ow134 (Nat.le_of_ble_eq_true rfl) ?_
  rcases hE with ⟨rfl, rfl⟩ | ⟨rfl, rfl⟩
  · refine eq_ (fun _ k => ev_aload_n f134_0 rfl k) ?_
    refine eq_ (fun _ k => ev_iconstN (n := 0) f134_1 k) ?_
    refine eq_ (fun _ k => ev_aload_n f134_2 rfl k) ?_
    refine eq_ (fun _ k => ev_iload_n f134_3 rfl k) ?_
    refine eq_ (fun _ k => ev_vh [.int v1] f134_4 ow47 rfl rfl (by assumption) (catL rfl) (Nat.le_of_ble_eq_true rfl) k1 (by rfl) f134_12 k) ?_
    refine eq_ (fun _ k => ev_iconstN (n := 1) f134_13 k) ?_
    refine ⟨_, ev_iret f134_14 (rI rfl _) rfl, ?_⟩
    exact ⟨hs1, rfl, W1⟩
  · refine eq_ (fun _ k => ev_aload_n f134_0 rfl k) ?_
    refine eq_ (fun _ k => ev_iconstN (n := 0) f134_1 k) ?_
    refine eq_ (fun _ k => ev_aload_n f134_2 rfl k) ?_
    refine eq_ (fun _ k => ev_iload_n f134_3 rfl k) ?_
    refine eq_ (fun _ k => ev_vh [.int v1] f134_4 ow47 rfl rfl (by assumption) (catL rfl) (Nat.le_of_ble_eq_true rfl) k1 (by rfl) f134_15 k) ?_
    refine eq_ (fun _ k => ev_iconstN (n := 2) f134_16 k) ?_
    refine ⟨_, ev_iret f134_17 (rI rfl _) rfl, ?_⟩
    exact ⟨hs1, rfl, W1⟩
theorem h135 (W : LW X q g qm gm l ov hs) (k : ClO 48 [.ref 1, .int v1] hs (.inl (some (.int v))) q' g') : ∃ hs', Ca 135 [.ref 1, .int v1, .ref 47] hs (.inl (some (.int (nI 0))), hs', 0, 0) ∧ LW X q' g' qm gm l v.toInt64 hs' := by
  obtain ⟨hs1, k1, W1⟩ := W.cls k
  have x1 := W.2.1.1
  have WW := W1
  obtain ⟨-, -, -, F, o1, o2⟩ := WW
  refine caw_mk ow135 (Nat.le_of_ble_eq_true rfl) ?_
  refine eq_ (fun _ k => ev_aload_n f135_0 rfl k) ?_
  refine eq_ (fun _ k => ev_iconstN (n := 0) f135_1 k) ?_
  refine eq_ (fun _ k => ev_aload_n f135_2 rfl k) ?_
  refine eq_ (fun _ k => ev_iload_n f135_3 rfl k) ?_
  refine eq_ (fun _ k => ev_v1 f135_4 ow48 (by assumption) rfl (Nat.le_of_ble_eq_true rfl) (k1) k) ?_
  refine eq_ (fun _ k => ev_i2l f135_7 k) ?_
  refine eq_last f135_8 (by assumption) (by omega) (by omega) (by omega) (fun hs2 e2 => ?_)
  refine eq_ (fun _ k => ev_goto (tgt := 18) f135_9 rfl k) ?_
  refine eq_ (fun _ k => ev_iconstN (n := 0) f135_18 k) ?_
  refine ⟨_, ev_iret f135_19 (rI rfl _) rfl, ?_⟩
  exact ⟨hs2, rfl, W1.put o1 e2⟩
theorem h135x (W : LW X q g qm gm l ov hs) (hE : K12 E kk) (k : ClO 48 [.ref 1, .int v1] hs (.inr E) q' g') : ∃ hs', Ca 135 [.ref 1, .int v1, .ref 47] hs (.inl (some (.int (nI kk))), hs', 1, 6) ∧ LW X q' g' qm gm l ov hs' := by
  obtain ⟨hs1, k1, W1⟩ := W.cls k
  have x1 := W.2.1.1
  refine caw_mk ow135 (Nat.le_of_ble_eq_true rfl) ?_
  rcases hE with ⟨rfl, rfl⟩ | ⟨rfl, rfl⟩
  · refine eq_ (fun _ k => ev_aload_n f135_0 rfl k) ?_
    refine eq_ (fun _ k => ev_iconstN (n := 0) f135_1 k) ?_
    refine eq_ (fun _ k => ev_aload_n f135_2 rfl k) ?_
    refine eq_ (fun _ k => ev_iload_n f135_3 rfl k) ?_
    refine eq_ (fun _ k => ev_vh [.int v1] f135_4 ow48 rfl rfl (by assumption) (catL rfl) (Nat.le_of_ble_eq_true rfl) k1 (by rfl) f135_12 k) ?_
    refine eq_ (fun _ k => ev_iconstN (n := 1) f135_13 k) ?_
    refine ⟨_, ev_iret f135_14 (rI rfl _) rfl, ?_⟩
    exact ⟨hs1, rfl, W1⟩
  · refine eq_ (fun _ k => ev_aload_n f135_0 rfl k) ?_
    refine eq_ (fun _ k => ev_iconstN (n := 0) f135_1 k) ?_
    refine eq_ (fun _ k => ev_aload_n f135_2 rfl k) ?_
    refine eq_ (fun _ k => ev_iload_n f135_3 rfl k) ?_
    refine eq_ (fun _ k => ev_vh [.int v1] f135_4 ow48 rfl rfl (by assumption) (catL rfl) (Nat.le_of_ble_eq_true rfl) k1 (by rfl) f135_15 k) ?_
    refine eq_ (fun _ k => ev_iconstN (n := 2) f135_16 k) ?_
    refine ⟨_, ev_iret f135_17 (rI rfl _) rfl, ?_⟩
    exact ⟨hs1, rfl, W1⟩
theorem h136 (W : LW X q g qm gm l ov hs) (k : ClO 49 [.ref 1, .int v1, .int v2] hs (.inl (some (.int v))) q' g') : ∃ hs', Ca 136 [.ref 1, .int v1, .int v2, .ref 47] hs (.inl (some (.int (nI 0))), hs', 0, 0) ∧ LW X q' g' qm gm l v.toInt64 hs' := by
  obtain ⟨hs1, k1, W1⟩ := W.cls k
  have x1 := W.2.1.1
  have WW := W1
  obtain ⟨-, -, -, F, o1, o2⟩ := WW
  refine caw_mk ow136 (Nat.le_of_ble_eq_true rfl) ?_
  refine eq_ (fun _ k => ev_aload_n f136_0 rfl k) ?_
  refine eq_ (fun _ k => ev_iconstN (n := 0) f136_1 k) ?_
  refine eq_ (fun _ k => ev_aload_n f136_2 rfl k) ?_
  refine eq_ (fun _ k => ev_iload_n f136_3 rfl k) ?_
  refine eq_ (fun _ k => ev_iload_n f136_4 rfl k) ?_
  refine eq_ (fun _ k => ev_v2 f136_5 ow49 (by assumption) rfl rfl (Nat.le_of_ble_eq_true rfl) (k1) k) ?_
  refine eq_ (fun _ k => ev_i2l f136_8 k) ?_
  refine eq_last f136_9 (by assumption) (by omega) (by omega) (by omega) (fun hs2 e2 => ?_)
  refine eq_ (fun _ k => ev_goto (tgt := 21) f136_10 rfl k) ?_
  refine eq_ (fun _ k => ev_iconstN (n := 0) f136_21 k) ?_
  refine ⟨_, ev_iret f136_22 (rI rfl _) rfl, ?_⟩
  exact ⟨hs2, rfl, W1.put o1 e2⟩
theorem h136x (W : LW X q g qm gm l ov hs) (hE : K12 E kk) (k : ClO 49 [.ref 1, .int v1, .int v2] hs (.inr E) q' g') : ∃ hs', Ca 136 [.ref 1, .int v1, .int v2, .ref 47] hs (.inl (some (.int (nI kk))), hs', 1, 6) ∧ LW X q' g' qm gm l ov hs' := by
  obtain ⟨hs1, k1, W1⟩ := W.cls k
  have x1 := W.2.1.1
  refine caw_mk ow136 (Nat.le_of_ble_eq_true rfl) ?_
  rcases hE with ⟨rfl, rfl⟩ | ⟨rfl, rfl⟩
  · refine eq_ (fun _ k => ev_aload_n f136_0 rfl k) ?_
    refine eq_ (fun _ k => ev_iconstN (n := 0) f136_1 k) ?_
    refine eq_ (fun _ k => ev_aload_n f136_2 rfl k) ?_
    refine eq_ (fun _ k => ev_iload_n f136_3 rfl k) ?_
    refine eq_ (fun _ k => ev_iload_n f136_4 rfl k) ?_
    refine eq_ (fun _ k => ev_vhw [.int v1, .int v2] f136_5 ow49 rfl rfl (by assumption) (catL rfl) (Nat.le_of_ble_eq_true rfl) k1 (by rfl) f136_13 k) ?_
    refine eq_ (fun _ k => ev_iconstN (n := 1) f136_15 k) ?_
    refine ⟨_, ev_iret f136_16 (rI rfl _) rfl, ?_⟩
    exact ⟨hs1, rfl, W1⟩
  · refine eq_ (fun _ k => ev_aload_n f136_0 rfl k) ?_
    refine eq_ (fun _ k => ev_iconstN (n := 0) f136_1 k) ?_
    refine eq_ (fun _ k => ev_aload_n f136_2 rfl k) ?_
    refine eq_ (fun _ k => ev_iload_n f136_3 rfl k) ?_
    refine eq_ (fun _ k => ev_iload_n f136_4 rfl k) ?_
    refine eq_ (fun _ k => ev_vhw [.int v1, .int v2] f136_5 ow49 rfl rfl (by assumption) (catL rfl) (Nat.le_of_ble_eq_true rfl) k1 (by rfl) f136_17 k) ?_
    refine eq_ (fun _ k => ev_iconstN (n := 2) f136_19 k) ?_
    refine ⟨_, ev_iret f136_20 (rI rfl _) rfl, ?_⟩
    exact ⟨hs1, rfl, W1⟩
theorem h137 (W : LW X q g qm gm l ov hs) (k : ClO 50 [.ref 1, .int v1, .int v2] hs (.inl (some (.int v))) q' g') : ∃ hs', Ca 137 [.ref 1, .int v1, .int v2, .ref 47] hs (.inl (some (.int (nI 0))), hs', 0, 0) ∧ LW X q' g' qm gm l v.toInt64 hs' := by
  obtain ⟨hs1, k1, W1⟩ := W.cls k
  have x1 := W.2.1.1
  have WW := W1
  obtain ⟨-, -, -, F, o1, o2⟩ := WW
  refine caw_mk ow137 (Nat.le_of_ble_eq_true rfl) ?_
  refine eq_ (fun _ k => ev_aload_n f137_0 rfl k) ?_
  refine eq_ (fun _ k => ev_iconstN (n := 0) f137_1 k) ?_
  refine eq_ (fun _ k => ev_aload_n f137_2 rfl k) ?_
  refine eq_ (fun _ k => ev_iload_n f137_3 rfl k) ?_
  refine eq_ (fun _ k => ev_iload_n f137_4 rfl k) ?_
  refine eq_ (fun _ k => ev_v2 f137_5 ow50 (by assumption) rfl rfl (Nat.le_of_ble_eq_true rfl) (k1) k) ?_
  refine eq_ (fun _ k => ev_i2l f137_8 k) ?_
  refine eq_last f137_9 (by assumption) (by omega) (by omega) (by omega) (fun hs2 e2 => ?_)
  refine eq_ (fun _ k => ev_goto (tgt := 17) f137_10 rfl k) ?_
  refine eq_ (fun _ k => ev_iconstN (n := 0) f137_17 k) ?_
  refine ⟨_, ev_iret f137_18 (rI rfl _) rfl, ?_⟩
  exact ⟨hs2, rfl, W1.put o1 e2⟩
theorem h137x (W : LW X q g qm gm l ov hs) (hE : K1 E kk) (k : ClO 50 [.ref 1, .int v1, .int v2] hs (.inr E) q' g') : ∃ hs', Ca 137 [.ref 1, .int v1, .int v2, .ref 47] hs (.inl (some (.int (nI kk))), hs', 1, 6) ∧ LW X q' g' qm gm l ov hs' := by
  obtain ⟨hs1, k1, W1⟩ := W.cls k
  have x1 := W.2.1.1
  refine caw_mk ow137 (Nat.le_of_ble_eq_true rfl) ?_
  rcases hE with ⟨rfl, rfl⟩
  · refine eq_ (fun _ k => ev_aload_n f137_0 rfl k) ?_
    refine eq_ (fun _ k => ev_iconstN (n := 0) f137_1 k) ?_
    refine eq_ (fun _ k => ev_aload_n f137_2 rfl k) ?_
    refine eq_ (fun _ k => ev_iload_n f137_3 rfl k) ?_
    refine eq_ (fun _ k => ev_iload_n f137_4 rfl k) ?_
    refine eq_ (fun _ k => ev_vhw [.int v1, .int v2] f137_5 ow50 rfl rfl (by assumption) (catL rfl) (Nat.le_of_ble_eq_true rfl) k1 (by rfl) f137_13 k) ?_
    refine eq_ (fun _ k => ev_iconstN (n := 1) f137_15 k) ?_
    refine ⟨_, ev_iret f137_16 (rI rfl _) rfl, ?_⟩
    exact ⟨hs1, rfl, W1⟩
theorem h138 (W : LW X q g qm gm l ov hs) (k : ClO 51 [.ref 1, .int v1, .int v2] hs (.inl (some (.int v))) q' g') : ∃ hs', Ca 138 [.ref 1, .int v1, .int v2, .ref 47] hs (.inl (some (.int (nI 0))), hs', 0, 0) ∧ LW X q' g' qm gm l (blN v) hs' := by
  obtain ⟨hs1, k1, W1⟩ := W.cls k
  have x1 := W.2.1.1
  have WW := W1
  obtain ⟨-, -, -, F, o1, o2⟩ := WW
  refine caw_mk ow138 (Nat.le_of_ble_eq_true rfl) ?_
  refine eq_ (fun _ k => ev_aload_n f138_0 rfl k) ?_
  refine eq_ (fun _ k => ev_iconstN (n := 0) f138_1 k) ?_
  refine eq_ (fun _ k => ev_aload_n f138_2 rfl k) ?_
  refine eq_ (fun _ k => ev_iload_n f138_3 rfl k) ?_
  refine eq_ (fun _ k => ev_iload_n f138_4 rfl k) ?_
  refine eq_ (fun _ k => ev_v2 f138_5 ow51 (by assumption) rfl rfl (Nat.le_of_ble_eq_true rfl) (k1) k) ?_
  refine eq_if (tgt := 15) f138_8 rfl (fun hc => ?_) (fun hc => ?_)
  · have hc2 : v = 0 := hc
    have eb : blN v = Int64.ofNat 0 := if_pos hc2
    rw [eb]
    refine eq_ (fun _ k => ev_lconst f138_15 k) ?_
    refine eq_last f138_16 (by assumption) (by omega) (by omega) (by omega) (fun hs2 e2 => ?_)
    refine eq_ (fun _ k => ev_goto (tgt := 24) f138_17 rfl k) ?_
    refine eq_ (fun _ k => ev_iconstN (n := 0) f138_24 k) ?_
    refine ⟨_, ev_iret f138_25 (rI rfl _) rfl, ?_⟩
    exact ⟨hs2, rfl, W1.put o1 e2⟩
  · have hc2 : ¬ v = 0 := hc
    have eb : blN v = Int64.ofNat 1 := if_neg hc2
    rw [eb]
    refine eq_ (fun _ k => ev_lconst f138_11 k) ?_
    refine eq_ (fun _ k => ev_goto (tgt := 16) f138_12 rfl k) ?_
    refine eq_last f138_16 (by assumption) (by omega) (by omega) (by omega) (fun hs2 e2 => ?_)
    refine eq_ (fun _ k => ev_goto (tgt := 24) f138_17 rfl k) ?_
    refine eq_ (fun _ k => ev_iconstN (n := 0) f138_24 k) ?_
    refine ⟨_, ev_iret f138_25 (rI rfl _) rfl, ?_⟩
    exact ⟨hs2, rfl, W1.put o1 e2⟩
theorem h138x (W : LW X q g qm gm l ov hs) (hE : K1 E kk) (k : ClO 51 [.ref 1, .int v1, .int v2] hs (.inr E) q' g') : ∃ hs', Ca 138 [.ref 1, .int v1, .int v2, .ref 47] hs (.inl (some (.int (nI kk))), hs', 1, 6) ∧ LW X q' g' qm gm l ov hs' := by
  obtain ⟨hs1, k1, W1⟩ := W.cls k
  have x1 := W.2.1.1
  refine caw_mk ow138 (Nat.le_of_ble_eq_true rfl) ?_
  rcases hE with ⟨rfl, rfl⟩
  · refine eq_ (fun _ k => ev_aload_n f138_0 rfl k) ?_
    refine eq_ (fun _ k => ev_iconstN (n := 0) f138_1 k) ?_
    refine eq_ (fun _ k => ev_aload_n f138_2 rfl k) ?_
    refine eq_ (fun _ k => ev_iload_n f138_3 rfl k) ?_
    refine eq_ (fun _ k => ev_iload_n f138_4 rfl k) ?_
    refine eq_ (fun _ k => ev_vhw [.int v1, .int v2] f138_5 ow51 rfl rfl (by assumption) (catL rfl) (Nat.le_of_ble_eq_true rfl) k1 (by rfl) f138_20 k) ?_
    refine eq_ (fun _ k => ev_iconstN (n := 1) f138_22 k) ?_
    refine ⟨_, ev_iret f138_23 (rI rfl _) rfl, ?_⟩
    exact ⟨hs1, rfl, W1⟩
theorem h139 (W : LW X q g qm gm l ov hs) (k : ClO 52 [.ref 1, .int v1] hs (.inl (some (.int v))) q' g') : ∃ hs', Ca 139 [.ref 1, .int v1, .ref 47] hs (.inl (some (.int (nI 0))), hs', 0, 0) ∧ LW X q' g' qm gm l v.toInt64 hs' := by
  obtain ⟨hs1, k1, W1⟩ := W.cls k
  have x1 := W.2.1.1
  have WW := W1
  obtain ⟨-, -, -, F, o1, o2⟩ := WW
  refine caw_mk ow139 (Nat.le_of_ble_eq_true rfl) ?_
  refine eq_ (fun _ k => ev_aload_n f139_0 rfl k) ?_
  refine eq_ (fun _ k => ev_iconstN (n := 0) f139_1 k) ?_
  refine eq_ (fun _ k => ev_aload_n f139_2 rfl k) ?_
  refine eq_ (fun _ k => ev_iload_n f139_3 rfl k) ?_
  refine eq_ (fun _ k => ev_v1 f139_4 ow52 (by assumption) rfl (Nat.le_of_ble_eq_true rfl) (k1) k) ?_
  refine eq_ (fun _ k => ev_i2l f139_7 k) ?_
  refine eq_last f139_8 (by assumption) (by omega) (by omega) (by omega) (fun hs2 e2 => ?_)
  refine eq_ (fun _ k => ev_goto (tgt := 15) f139_9 rfl k) ?_
  refine eq_ (fun _ k => ev_iconstN (n := 0) f139_15 k) ?_
  refine ⟨_, ev_iret f139_16 (rI rfl _) rfl, ?_⟩
  exact ⟨hs2, rfl, W1.put o1 e2⟩
theorem h139x (W : LW X q g qm gm l ov hs) (hE : K1 E kk) (k : ClO 52 [.ref 1, .int v1] hs (.inr E) q' g') : ∃ hs', Ca 139 [.ref 1, .int v1, .ref 47] hs (.inl (some (.int (nI kk))), hs', 1, 6) ∧ LW X q' g' qm gm l ov hs' := by
  obtain ⟨hs1, k1, W1⟩ := W.cls k
  have x1 := W.2.1.1
  refine caw_mk ow139 (Nat.le_of_ble_eq_true rfl) ?_
  rcases hE with ⟨rfl, rfl⟩
  · refine eq_ (fun _ k => ev_aload_n f139_0 rfl k) ?_
    refine eq_ (fun _ k => ev_iconstN (n := 0) f139_1 k) ?_
    refine eq_ (fun _ k => ev_aload_n f139_2 rfl k) ?_
    refine eq_ (fun _ k => ev_iload_n f139_3 rfl k) ?_
    refine eq_ (fun _ k => ev_vh [.int v1] f139_4 ow52 rfl rfl (by assumption) (catL rfl) (Nat.le_of_ble_eq_true rfl) k1 (by rfl) f139_12 k) ?_
    refine eq_ (fun _ k => ev_iconstN (n := 1) f139_13 k) ?_
    refine ⟨_, ev_iret f139_14 (rI rfl _) rfl, ?_⟩
    exact ⟨hs1, rfl, W1⟩
theorem h140 (W : LW X q g qm gm l ov hs) (k : ClO 53 [.ref 1, .int v1] hs (.inl (some (.int v))) q' g') : ∃ hs', Ca 140 [.ref 1, .int v1, .ref 47] hs (.inl (some (.int (nI 0))), hs', 0, 0) ∧ LW X q' g' qm gm l v.toInt64 hs' := by
  obtain ⟨hs1, k1, W1⟩ := W.cls k
  have x1 := W.2.1.1
  have WW := W1
  obtain ⟨-, -, -, F, o1, o2⟩ := WW
  refine caw_mk ow140 (Nat.le_of_ble_eq_true rfl) ?_
  refine eq_ (fun _ k => ev_aload_n f140_0 rfl k) ?_
  refine eq_ (fun _ k => ev_iconstN (n := 0) f140_1 k) ?_
  refine eq_ (fun _ k => ev_aload_n f140_2 rfl k) ?_
  refine eq_ (fun _ k => ev_iload_n f140_3 rfl k) ?_
  refine eq_ (fun _ k => ev_v1 f140_4 ow53 (by assumption) rfl (Nat.le_of_ble_eq_true rfl) (k1) k) ?_
  refine eq_ (fun _ k => ev_i2l f140_7 k) ?_
  refine eq_last f140_8 (by assumption) (by omega) (by omega) (by omega) (fun hs2 e2 => ?_)
  refine eq_ (fun _ k => ev_goto (tgt := 15) f140_9 rfl k) ?_
  refine eq_ (fun _ k => ev_iconstN (n := 0) f140_15 k) ?_
  refine ⟨_, ev_iret f140_16 (rI rfl _) rfl, ?_⟩
  exact ⟨hs2, rfl, W1.put o1 e2⟩
theorem h140x (W : LW X q g qm gm l ov hs) (hE : K1 E kk) (k : ClO 53 [.ref 1, .int v1] hs (.inr E) q' g') : ∃ hs', Ca 140 [.ref 1, .int v1, .ref 47] hs (.inl (some (.int (nI kk))), hs', 1, 6) ∧ LW X q' g' qm gm l ov hs' := by
  obtain ⟨hs1, k1, W1⟩ := W.cls k
  have x1 := W.2.1.1
  refine caw_mk ow140 (Nat.le_of_ble_eq_true rfl) ?_
  rcases hE with ⟨rfl, rfl⟩
  · refine eq_ (fun _ k => ev_aload_n f140_0 rfl k) ?_
    refine eq_ (fun _ k => ev_iconstN (n := 0) f140_1 k) ?_
    refine eq_ (fun _ k => ev_aload_n f140_2 rfl k) ?_
    refine eq_ (fun _ k => ev_iload_n f140_3 rfl k) ?_
    refine eq_ (fun _ k => ev_vh [.int v1] f140_4 ow53 rfl rfl (by assumption) (catL rfl) (Nat.le_of_ble_eq_true rfl) k1 (by rfl) f140_12 k) ?_
    refine eq_ (fun _ k => ev_iconstN (n := 1) f140_13 k) ?_
    refine ⟨_, ev_iret f140_14 (rI rfl _) rfl, ?_⟩
    exact ⟨hs1, rfl, W1⟩
theorem h141 (W : LW X q g qm gm l ov hs) (k : ClO 54 [.ref 1, .int v1] hs (.inl (some (.int v))) q' g') : ∃ hs', Ca 141 [.ref 1, .int v1, .ref 47] hs (.inl (some (.int (nI 0))), hs', 0, 0) ∧ LW X q' g' qm gm l v.toInt64 hs' := by
  obtain ⟨hs1, k1, W1⟩ := W.cls k
  have x1 := W.2.1.1
  have WW := W1
  obtain ⟨-, -, -, F, o1, o2⟩ := WW
  refine caw_mk ow141 (Nat.le_of_ble_eq_true rfl) ?_
  refine eq_ (fun _ k => ev_aload_n f141_0 rfl k) ?_
  refine eq_ (fun _ k => ev_iconstN (n := 0) f141_1 k) ?_
  refine eq_ (fun _ k => ev_aload_n f141_2 rfl k) ?_
  refine eq_ (fun _ k => ev_iload_n f141_3 rfl k) ?_
  refine eq_ (fun _ k => ev_v1 f141_4 ow54 (by assumption) rfl (Nat.le_of_ble_eq_true rfl) (k1) k) ?_
  refine eq_ (fun _ k => ev_i2l f141_7 k) ?_
  refine eq_last f141_8 (by assumption) (by omega) (by omega) (by omega) (fun hs2 e2 => ?_)
  refine eq_ (fun _ k => ev_goto (tgt := 15) f141_9 rfl k) ?_
  refine eq_ (fun _ k => ev_iconstN (n := 0) f141_15 k) ?_
  refine ⟨_, ev_iret f141_16 (rI rfl _) rfl, ?_⟩
  exact ⟨hs2, rfl, W1.put o1 e2⟩
theorem h141x (W : LW X q g qm gm l ov hs) (hE : K1 E kk) (k : ClO 54 [.ref 1, .int v1] hs (.inr E) q' g') : ∃ hs', Ca 141 [.ref 1, .int v1, .ref 47] hs (.inl (some (.int (nI kk))), hs', 1, 6) ∧ LW X q' g' qm gm l ov hs' := by
  obtain ⟨hs1, k1, W1⟩ := W.cls k
  have x1 := W.2.1.1
  refine caw_mk ow141 (Nat.le_of_ble_eq_true rfl) ?_
  rcases hE with ⟨rfl, rfl⟩
  · refine eq_ (fun _ k => ev_aload_n f141_0 rfl k) ?_
    refine eq_ (fun _ k => ev_iconstN (n := 0) f141_1 k) ?_
    refine eq_ (fun _ k => ev_aload_n f141_2 rfl k) ?_
    refine eq_ (fun _ k => ev_iload_n f141_3 rfl k) ?_
    refine eq_ (fun _ k => ev_vh [.int v1] f141_4 ow54 rfl rfl (by assumption) (catL rfl) (Nat.le_of_ble_eq_true rfl) k1 (by rfl) f141_12 k) ?_
    refine eq_ (fun _ k => ev_iconstN (n := 1) f141_13 k) ?_
    refine ⟨_, ev_iret f141_14 (rI rfl _) rfl, ?_⟩
    exact ⟨hs1, rfl, W1⟩
theorem h142 (W : LW X q g qm gm l ov hs) (k : ClO 55 [.ref 1, .int v1] hs (.inl (some (.int v))) q' g') : ∃ hs', Ca 142 [.ref 1, .int v1, .ref 47] hs (.inl (some (.int (nI 0))), hs', 0, 0) ∧ LW X q' g' qm gm l v.toInt64 hs' := by
  obtain ⟨hs1, k1, W1⟩ := W.cls k
  have x1 := W.2.1.1
  have WW := W1
  obtain ⟨-, -, -, F, o1, o2⟩ := WW
  refine caw_mk ow142 (Nat.le_of_ble_eq_true rfl) ?_
  refine eq_ (fun _ k => ev_aload_n f142_0 rfl k) ?_
  refine eq_ (fun _ k => ev_iconstN (n := 0) f142_1 k) ?_
  refine eq_ (fun _ k => ev_aload_n f142_2 rfl k) ?_
  refine eq_ (fun _ k => ev_iload_n f142_3 rfl k) ?_
  refine eq_ (fun _ k => ev_v1 f142_4 ow55 (by assumption) rfl (Nat.le_of_ble_eq_true rfl) (k1) k) ?_
  refine eq_ (fun _ k => ev_i2l f142_7 k) ?_
  refine eq_last f142_8 (by assumption) (by omega) (by omega) (by omega) (fun hs2 e2 => ?_)
  refine eq_ (fun _ k => ev_goto (tgt := 15) f142_9 rfl k) ?_
  refine eq_ (fun _ k => ev_iconstN (n := 0) f142_15 k) ?_
  refine ⟨_, ev_iret f142_16 (rI rfl _) rfl, ?_⟩
  exact ⟨hs2, rfl, W1.put o1 e2⟩
theorem h142x (W : LW X q g qm gm l ov hs) (hE : K1 E kk) (k : ClO 55 [.ref 1, .int v1] hs (.inr E) q' g') : ∃ hs', Ca 142 [.ref 1, .int v1, .ref 47] hs (.inl (some (.int (nI kk))), hs', 1, 6) ∧ LW X q' g' qm gm l ov hs' := by
  obtain ⟨hs1, k1, W1⟩ := W.cls k
  have x1 := W.2.1.1
  refine caw_mk ow142 (Nat.le_of_ble_eq_true rfl) ?_
  rcases hE with ⟨rfl, rfl⟩
  · refine eq_ (fun _ k => ev_aload_n f142_0 rfl k) ?_
    refine eq_ (fun _ k => ev_iconstN (n := 0) f142_1 k) ?_
    refine eq_ (fun _ k => ev_aload_n f142_2 rfl k) ?_
    refine eq_ (fun _ k => ev_iload_n f142_3 rfl k) ?_
    refine eq_ (fun _ k => ev_vh [.int v1] f142_4 ow55 rfl rfl (by assumption) (catL rfl) (Nat.le_of_ble_eq_true rfl) k1 (by rfl) f142_12 k) ?_
    refine eq_ (fun _ k => ev_iconstN (n := 1) f142_13 k) ?_
    refine ⟨_, ev_iret f142_14 (rI rfl _) rfl, ?_⟩
    exact ⟨hs1, rfl, W1⟩
theorem h143 (W : LW X q g qm gm l ov hs) (k : ClO 56 [.ref 1, .int v1, .int v2] hs (.inl (some (.int v))) q' g') : ∃ hs', Ca 143 [.ref 1, .int v1, .int v2, .ref 47] hs (.inl (some (.int (nI 0))), hs', 0, 0) ∧ LW X q' g' qm gm l v.toInt64 hs' := by
  obtain ⟨hs1, k1, W1⟩ := W.cls k
  have x1 := W.2.1.1
  have WW := W1
  obtain ⟨-, -, -, F, o1, o2⟩ := WW
  refine caw_mk ow143 (Nat.le_of_ble_eq_true rfl) ?_
  refine eq_ (fun _ k => ev_aload_n f143_0 rfl k) ?_
  refine eq_ (fun _ k => ev_iconstN (n := 0) f143_1 k) ?_
  refine eq_ (fun _ k => ev_aload_n f143_2 rfl k) ?_
  refine eq_ (fun _ k => ev_iload_n f143_3 rfl k) ?_
  refine eq_ (fun _ k => ev_iload_n f143_4 rfl k) ?_
  refine eq_ (fun _ k => ev_v2 f143_5 ow56 (by assumption) rfl rfl (Nat.le_of_ble_eq_true rfl) (k1) k) ?_
  refine eq_ (fun _ k => ev_i2l f143_8 k) ?_
  refine eq_last f143_9 (by assumption) (by omega) (by omega) (by omega) (fun hs2 e2 => ?_)
  refine eq_ (fun _ k => ev_goto (tgt := 17) f143_10 rfl k) ?_
  refine eq_ (fun _ k => ev_iconstN (n := 0) f143_17 k) ?_
  refine ⟨_, ev_iret f143_18 (rI rfl _) rfl, ?_⟩
  exact ⟨hs2, rfl, W1.put o1 e2⟩
theorem h143x (W : LW X q g qm gm l ov hs) (hE : K1 E kk) (k : ClO 56 [.ref 1, .int v1, .int v2] hs (.inr E) q' g') : ∃ hs', Ca 143 [.ref 1, .int v1, .int v2, .ref 47] hs (.inl (some (.int (nI kk))), hs', 1, 6) ∧ LW X q' g' qm gm l ov hs' := by
  obtain ⟨hs1, k1, W1⟩ := W.cls k
  have x1 := W.2.1.1
  refine caw_mk ow143 (Nat.le_of_ble_eq_true rfl) ?_
  rcases hE with ⟨rfl, rfl⟩
  · refine eq_ (fun _ k => ev_aload_n f143_0 rfl k) ?_
    refine eq_ (fun _ k => ev_iconstN (n := 0) f143_1 k) ?_
    refine eq_ (fun _ k => ev_aload_n f143_2 rfl k) ?_
    refine eq_ (fun _ k => ev_iload_n f143_3 rfl k) ?_
    refine eq_ (fun _ k => ev_iload_n f143_4 rfl k) ?_
    refine eq_ (fun _ k => ev_vhw [.int v1, .int v2] f143_5 ow56 rfl rfl (by assumption) (catL rfl) (Nat.le_of_ble_eq_true rfl) k1 (by rfl) f143_13 k) ?_
    refine eq_ (fun _ k => ev_iconstN (n := 1) f143_15 k) ?_
    refine ⟨_, ev_iret f143_16 (rI rfl _) rfl, ?_⟩
    exact ⟨hs1, rfl, W1⟩
theorem h144 (W : LW X q g qm gm l ov hs) (k : ClO 57 [.ref 1, .int v1, .int v2] hs (.inl (some (.int v))) q' g') : ∃ hs', Ca 144 [.ref 1, .int v1, .int v2, .ref 47] hs (.inl (some (.int (nI 0))), hs', 0, 0) ∧ LW X q' g' qm gm l v.toInt64 hs' := by
  obtain ⟨hs1, k1, W1⟩ := W.cls k
  have x1 := W.2.1.1
  have WW := W1
  obtain ⟨-, -, -, F, o1, o2⟩ := WW
  refine caw_mk ow144 (Nat.le_of_ble_eq_true rfl) ?_
  refine eq_ (fun _ k => ev_aload_n f144_0 rfl k) ?_
  refine eq_ (fun _ k => ev_iconstN (n := 0) f144_1 k) ?_
  refine eq_ (fun _ k => ev_aload_n f144_2 rfl k) ?_
  refine eq_ (fun _ k => ev_iload_n f144_3 rfl k) ?_
  refine eq_ (fun _ k => ev_iload_n f144_4 rfl k) ?_
  refine eq_ (fun _ k => ev_v2 f144_5 ow57 (by assumption) rfl rfl (Nat.le_of_ble_eq_true rfl) (k1) k) ?_
  refine eq_ (fun _ k => ev_i2l f144_8 k) ?_
  refine eq_last f144_9 (by assumption) (by omega) (by omega) (by omega) (fun hs2 e2 => ?_)
  refine eq_ (fun _ k => ev_goto (tgt := 17) f144_10 rfl k) ?_
  refine eq_ (fun _ k => ev_iconstN (n := 0) f144_17 k) ?_
  refine ⟨_, ev_iret f144_18 (rI rfl _) rfl, ?_⟩
  exact ⟨hs2, rfl, W1.put o1 e2⟩
theorem h144x (W : LW X q g qm gm l ov hs) (hE : K1 E kk) (k : ClO 57 [.ref 1, .int v1, .int v2] hs (.inr E) q' g') : ∃ hs', Ca 144 [.ref 1, .int v1, .int v2, .ref 47] hs (.inl (some (.int (nI kk))), hs', 1, 6) ∧ LW X q' g' qm gm l ov hs' := by
  obtain ⟨hs1, k1, W1⟩ := W.cls k
  have x1 := W.2.1.1
  refine caw_mk ow144 (Nat.le_of_ble_eq_true rfl) ?_
  rcases hE with ⟨rfl, rfl⟩
  · refine eq_ (fun _ k => ev_aload_n f144_0 rfl k) ?_
    refine eq_ (fun _ k => ev_iconstN (n := 0) f144_1 k) ?_
    refine eq_ (fun _ k => ev_aload_n f144_2 rfl k) ?_
    refine eq_ (fun _ k => ev_iload_n f144_3 rfl k) ?_
    refine eq_ (fun _ k => ev_iload_n f144_4 rfl k) ?_
    refine eq_ (fun _ k => ev_vhw [.int v1, .int v2] f144_5 ow57 rfl rfl (by assumption) (catL rfl) (Nat.le_of_ble_eq_true rfl) k1 (by rfl) f144_13 k) ?_
    refine eq_ (fun _ k => ev_iconstN (n := 1) f144_15 k) ?_
    refine ⟨_, ev_iret f144_16 (rI rfl _) rfl, ?_⟩
    exact ⟨hs1, rfl, W1⟩
theorem h145 (W : LW X q g qm gm l ov hs) (k : ClO 58 [.ref 1, .int v1, .int v2] hs (.inl (some (.int v))) q' g') : ∃ hs', Ca 145 [.ref 1, .int v1, .int v2, .ref 47] hs (.inl (some (.int (nI 0))), hs', 0, 0) ∧ LW X q' g' qm gm l v.toInt64 hs' := by
  obtain ⟨hs1, k1, W1⟩ := W.cls k
  have x1 := W.2.1.1
  have WW := W1
  obtain ⟨-, -, -, F, o1, o2⟩ := WW
  refine caw_mk ow145 (Nat.le_of_ble_eq_true rfl) ?_
  refine eq_ (fun _ k => ev_aload_n f145_0 rfl k) ?_
  refine eq_ (fun _ k => ev_iconstN (n := 0) f145_1 k) ?_
  refine eq_ (fun _ k => ev_aload_n f145_2 rfl k) ?_
  refine eq_ (fun _ k => ev_iload_n f145_3 rfl k) ?_
  refine eq_ (fun _ k => ev_iload_n f145_4 rfl k) ?_
  refine eq_ (fun _ k => ev_v2 f145_5 ow58 (by assumption) rfl rfl (Nat.le_of_ble_eq_true rfl) (k1) k) ?_
  refine eq_ (fun _ k => ev_i2l f145_8 k) ?_
  refine eq_last f145_9 (by assumption) (by omega) (by omega) (by omega) (fun hs2 e2 => ?_)
  refine eq_ (fun _ k => ev_goto (tgt := 17) f145_10 rfl k) ?_
  refine eq_ (fun _ k => ev_iconstN (n := 0) f145_17 k) ?_
  refine ⟨_, ev_iret f145_18 (rI rfl _) rfl, ?_⟩
  exact ⟨hs2, rfl, W1.put o1 e2⟩
theorem h145x (W : LW X q g qm gm l ov hs) (hE : K1 E kk) (k : ClO 58 [.ref 1, .int v1, .int v2] hs (.inr E) q' g') : ∃ hs', Ca 145 [.ref 1, .int v1, .int v2, .ref 47] hs (.inl (some (.int (nI kk))), hs', 1, 6) ∧ LW X q' g' qm gm l ov hs' := by
  obtain ⟨hs1, k1, W1⟩ := W.cls k
  have x1 := W.2.1.1
  refine caw_mk ow145 (Nat.le_of_ble_eq_true rfl) ?_
  rcases hE with ⟨rfl, rfl⟩
  · refine eq_ (fun _ k => ev_aload_n f145_0 rfl k) ?_
    refine eq_ (fun _ k => ev_iconstN (n := 0) f145_1 k) ?_
    refine eq_ (fun _ k => ev_aload_n f145_2 rfl k) ?_
    refine eq_ (fun _ k => ev_iload_n f145_3 rfl k) ?_
    refine eq_ (fun _ k => ev_iload_n f145_4 rfl k) ?_
    refine eq_ (fun _ k => ev_vhw [.int v1, .int v2] f145_5 ow58 rfl rfl (by assumption) (catL rfl) (Nat.le_of_ble_eq_true rfl) k1 (by rfl) f145_13 k) ?_
    refine eq_ (fun _ k => ev_iconstN (n := 1) f145_15 k) ?_
    refine ⟨_, ev_iret f145_16 (rI rfl _) rfl, ?_⟩
    exact ⟨hs1, rfl, W1⟩
theorem h146 (W : LW X q g qm gm l ov hs) (k : ClO 59 [.ref 1, .int v1, .int v2] hs (.inl (some (.int v))) q' g') : ∃ hs', Ca 146 [.ref 1, .int v1, .int v2, .ref 47] hs (.inl (some (.int (nI 0))), hs', 0, 0) ∧ LW X q' g' qm gm l v.toInt64 hs' := by
  obtain ⟨hs1, k1, W1⟩ := W.cls k
  have x1 := W.2.1.1
  have WW := W1
  obtain ⟨-, -, -, F, o1, o2⟩ := WW
  refine caw_mk ow146 (Nat.le_of_ble_eq_true rfl) ?_
  refine eq_ (fun _ k => ev_aload_n f146_0 rfl k) ?_
  refine eq_ (fun _ k => ev_iconstN (n := 0) f146_1 k) ?_
  refine eq_ (fun _ k => ev_aload_n f146_2 rfl k) ?_
  refine eq_ (fun _ k => ev_iload_n f146_3 rfl k) ?_
  refine eq_ (fun _ k => ev_iload_n f146_4 rfl k) ?_
  refine eq_ (fun _ k => ev_v2 f146_5 ow59 (by assumption) rfl rfl (Nat.le_of_ble_eq_true rfl) (k1) k) ?_
  refine eq_ (fun _ k => ev_i2l f146_8 k) ?_
  refine eq_last f146_9 (by assumption) (by omega) (by omega) (by omega) (fun hs2 e2 => ?_)
  refine eq_ (fun _ k => ev_goto (tgt := 17) f146_10 rfl k) ?_
  refine eq_ (fun _ k => ev_iconstN (n := 0) f146_17 k) ?_
  refine ⟨_, ev_iret f146_18 (rI rfl _) rfl, ?_⟩
  exact ⟨hs2, rfl, W1.put o1 e2⟩
theorem h146x (W : LW X q g qm gm l ov hs) (hE : K1 E kk) (k : ClO 59 [.ref 1, .int v1, .int v2] hs (.inr E) q' g') : ∃ hs', Ca 146 [.ref 1, .int v1, .int v2, .ref 47] hs (.inl (some (.int (nI kk))), hs', 1, 6) ∧ LW X q' g' qm gm l ov hs' := by
  obtain ⟨hs1, k1, W1⟩ := W.cls k
  have x1 := W.2.1.1
  refine caw_mk ow146 (Nat.le_of_ble_eq_true rfl) ?_
  rcases hE with ⟨rfl, rfl⟩
  · refine eq_ (fun _ k => ev_aload_n f146_0 rfl k) ?_
    refine eq_ (fun _ k => ev_iconstN (n := 0) f146_1 k) ?_
    refine eq_ (fun _ k => ev_aload_n f146_2 rfl k) ?_
    refine eq_ (fun _ k => ev_iload_n f146_3 rfl k) ?_
    refine eq_ (fun _ k => ev_iload_n f146_4 rfl k) ?_
    refine eq_ (fun _ k => ev_vhw [.int v1, .int v2] f146_5 ow59 rfl rfl (by assumption) (catL rfl) (Nat.le_of_ble_eq_true rfl) k1 (by rfl) f146_13 k) ?_
    refine eq_ (fun _ k => ev_iconstN (n := 1) f146_15 k) ?_
    refine ⟨_, ev_iret f146_16 (rI rfl _) rfl, ?_⟩
    exact ⟨hs1, rfl, W1⟩
theorem h147 (W : LW X q g qm gm l ov hs) (k : ClO 60 [.ref 1, .int v1, .int v2] hs (.inl (some (.int v))) q' g') : ∃ hs', Ca 147 [.ref 1, .int v1, .int v2, .ref 47] hs (.inl (some (.int (nI 0))), hs', 0, 0) ∧ LW X q' g' qm gm l (blN v) hs' := by
  obtain ⟨hs1, k1, W1⟩ := W.cls k
  have x1 := W.2.1.1
  have WW := W1
  obtain ⟨-, -, -, F, o1, o2⟩ := WW
  refine caw_mk ow147 (Nat.le_of_ble_eq_true rfl) ?_
  refine eq_ (fun _ k => ev_aload_n f147_0 rfl k) ?_
  refine eq_ (fun _ k => ev_iconstN (n := 0) f147_1 k) ?_
  refine eq_ (fun _ k => ev_aload_n f147_2 rfl k) ?_
  refine eq_ (fun _ k => ev_iload_n f147_3 rfl k) ?_
  refine eq_ (fun _ k => ev_iload_n f147_4 rfl k) ?_
  refine eq_ (fun _ k => ev_v2 f147_5 ow60 (by assumption) rfl rfl (Nat.le_of_ble_eq_true rfl) (k1) k) ?_
  refine eq_if (tgt := 15) f147_8 rfl (fun hc => ?_) (fun hc => ?_)
  · have hc2 : v = 0 := hc
    have eb : blN v = Int64.ofNat 0 := if_pos hc2
    rw [eb]
    refine eq_ (fun _ k => ev_lconst f147_15 k) ?_
    refine eq_last f147_16 (by assumption) (by omega) (by omega) (by omega) (fun hs2 e2 => ?_)
    refine eq_ (fun _ k => ev_goto (tgt := 24) f147_17 rfl k) ?_
    refine eq_ (fun _ k => ev_iconstN (n := 0) f147_24 k) ?_
    refine ⟨_, ev_iret f147_25 (rI rfl _) rfl, ?_⟩
    exact ⟨hs2, rfl, W1.put o1 e2⟩
  · have hc2 : ¬ v = 0 := hc
    have eb : blN v = Int64.ofNat 1 := if_neg hc2
    rw [eb]
    refine eq_ (fun _ k => ev_lconst f147_11 k) ?_
    refine eq_ (fun _ k => ev_goto (tgt := 16) f147_12 rfl k) ?_
    refine eq_last f147_16 (by assumption) (by omega) (by omega) (by omega) (fun hs2 e2 => ?_)
    refine eq_ (fun _ k => ev_goto (tgt := 24) f147_17 rfl k) ?_
    refine eq_ (fun _ k => ev_iconstN (n := 0) f147_24 k) ?_
    refine ⟨_, ev_iret f147_25 (rI rfl _) rfl, ?_⟩
    exact ⟨hs2, rfl, W1.put o1 e2⟩
theorem h147x (W : LW X q g qm gm l ov hs) (hE : K1 E kk) (k : ClO 60 [.ref 1, .int v1, .int v2] hs (.inr E) q' g') : ∃ hs', Ca 147 [.ref 1, .int v1, .int v2, .ref 47] hs (.inl (some (.int (nI kk))), hs', 1, 6) ∧ LW X q' g' qm gm l ov hs' := by
  obtain ⟨hs1, k1, W1⟩ := W.cls k
  have x1 := W.2.1.1
  refine caw_mk ow147 (Nat.le_of_ble_eq_true rfl) ?_
  rcases hE with ⟨rfl, rfl⟩
  · refine eq_ (fun _ k => ev_aload_n f147_0 rfl k) ?_
    refine eq_ (fun _ k => ev_iconstN (n := 0) f147_1 k) ?_
    refine eq_ (fun _ k => ev_aload_n f147_2 rfl k) ?_
    refine eq_ (fun _ k => ev_iload_n f147_3 rfl k) ?_
    refine eq_ (fun _ k => ev_iload_n f147_4 rfl k) ?_
    refine eq_ (fun _ k => ev_vhw [.int v1, .int v2] f147_5 ow60 rfl rfl (by assumption) (catL rfl) (Nat.le_of_ble_eq_true rfl) k1 (by rfl) f147_20 k) ?_
    refine eq_ (fun _ k => ev_iconstN (n := 1) f147_22 k) ?_
    refine ⟨_, ev_iret f147_23 (rI rfl _) rfl, ?_⟩
    exact ⟨hs1, rfl, W1⟩
theorem h148 (W : LW X q g qm gm l ov hs) (k : ClO 61 [.ref 1, .int v1, .int v2] hs (.inl (some (.int v))) q' g') : ∃ hs', Ca 148 [.ref 1, .int v1, .int v2, .ref 47] hs (.inl (some (.int (nI 0))), hs', 0, 0) ∧ LW X q' g' qm gm l (blN v) hs' := by
  obtain ⟨hs1, k1, W1⟩ := W.cls k
  have x1 := W.2.1.1
  have WW := W1
  obtain ⟨-, -, -, F, o1, o2⟩ := WW
  refine caw_mk ow148 (Nat.le_of_ble_eq_true rfl) ?_
  refine eq_ (fun _ k => ev_aload_n f148_0 rfl k) ?_
  refine eq_ (fun _ k => ev_iconstN (n := 0) f148_1 k) ?_
  refine eq_ (fun _ k => ev_aload_n f148_2 rfl k) ?_
  refine eq_ (fun _ k => ev_iload_n f148_3 rfl k) ?_
  refine eq_ (fun _ k => ev_iload_n f148_4 rfl k) ?_
  refine eq_ (fun _ k => ev_v2 f148_5 ow61 (by assumption) rfl rfl (Nat.le_of_ble_eq_true rfl) (k1) k) ?_
  refine eq_if (tgt := 15) f148_8 rfl (fun hc => ?_) (fun hc => ?_)
  · have hc2 : v = 0 := hc
    have eb : blN v = Int64.ofNat 0 := if_pos hc2
    rw [eb]
    refine eq_ (fun _ k => ev_lconst f148_15 k) ?_
    refine eq_last f148_16 (by assumption) (by omega) (by omega) (by omega) (fun hs2 e2 => ?_)
    refine eq_ (fun _ k => ev_goto (tgt := 24) f148_17 rfl k) ?_
    refine eq_ (fun _ k => ev_iconstN (n := 0) f148_24 k) ?_
    refine ⟨_, ev_iret f148_25 (rI rfl _) rfl, ?_⟩
    exact ⟨hs2, rfl, W1.put o1 e2⟩
  · have hc2 : ¬ v = 0 := hc
    have eb : blN v = Int64.ofNat 1 := if_neg hc2
    rw [eb]
    refine eq_ (fun _ k => ev_lconst f148_11 k) ?_
    refine eq_ (fun _ k => ev_goto (tgt := 16) f148_12 rfl k) ?_
    refine eq_last f148_16 (by assumption) (by omega) (by omega) (by omega) (fun hs2 e2 => ?_)
    refine eq_ (fun _ k => ev_goto (tgt := 24) f148_17 rfl k) ?_
    refine eq_ (fun _ k => ev_iconstN (n := 0) f148_24 k) ?_
    refine ⟨_, ev_iret f148_25 (rI rfl _) rfl, ?_⟩
    exact ⟨hs2, rfl, W1.put o1 e2⟩
theorem h148x (W : LW X q g qm gm l ov hs) (hE : K1 E kk) (k : ClO 61 [.ref 1, .int v1, .int v2] hs (.inr E) q' g') : ∃ hs', Ca 148 [.ref 1, .int v1, .int v2, .ref 47] hs (.inl (some (.int (nI kk))), hs', 1, 6) ∧ LW X q' g' qm gm l ov hs' := by
  obtain ⟨hs1, k1, W1⟩ := W.cls k
  have x1 := W.2.1.1
  refine caw_mk ow148 (Nat.le_of_ble_eq_true rfl) ?_
  rcases hE with ⟨rfl, rfl⟩
  · refine eq_ (fun _ k => ev_aload_n f148_0 rfl k) ?_
    refine eq_ (fun _ k => ev_iconstN (n := 0) f148_1 k) ?_
    refine eq_ (fun _ k => ev_aload_n f148_2 rfl k) ?_
    refine eq_ (fun _ k => ev_iload_n f148_3 rfl k) ?_
    refine eq_ (fun _ k => ev_iload_n f148_4 rfl k) ?_
    refine eq_ (fun _ k => ev_vhw [.int v1, .int v2] f148_5 ow61 rfl rfl (by assumption) (catL rfl) (Nat.le_of_ble_eq_true rfl) k1 (by rfl) f148_20 k) ?_
    refine eq_ (fun _ k => ev_iconstN (n := 1) f148_22 k) ?_
    refine ⟨_, ev_iret f148_23 (rI rfl _) rfl, ?_⟩
    exact ⟨hs1, rfl, W1⟩
theorem h149 (W : LW X q g qm gm l ov hs) (k : ClO 62 [.ref 1, .int v1, .int v2] hs (.inl (some (.int v))) q' g') : ∃ hs', Ca 149 [.ref 1, .int v1, .int v2, .ref 47] hs (.inl (some (.int (nI 0))), hs', 0, 0) ∧ LW X q' g' qm gm l (blN v) hs' := by
  obtain ⟨hs1, k1, W1⟩ := W.cls k
  have x1 := W.2.1.1
  have WW := W1
  obtain ⟨-, -, -, F, o1, o2⟩ := WW
  refine caw_mk ow149 (Nat.le_of_ble_eq_true rfl) ?_
  refine eq_ (fun _ k => ev_aload_n f149_0 rfl k) ?_
  refine eq_ (fun _ k => ev_iconstN (n := 0) f149_1 k) ?_
  refine eq_ (fun _ k => ev_aload_n f149_2 rfl k) ?_
  refine eq_ (fun _ k => ev_iload_n f149_3 rfl k) ?_
  refine eq_ (fun _ k => ev_iload_n f149_4 rfl k) ?_
  refine eq_ (fun _ k => ev_v2 f149_5 ow62 (by assumption) rfl rfl (Nat.le_of_ble_eq_true rfl) (k1) k) ?_
  refine eq_if (tgt := 15) f149_8 rfl (fun hc => ?_) (fun hc => ?_)
  · have hc2 : v = 0 := hc
    have eb : blN v = Int64.ofNat 0 := if_pos hc2
    rw [eb]
    refine eq_ (fun _ k => ev_lconst f149_15 k) ?_
    refine eq_last f149_16 (by assumption) (by omega) (by omega) (by omega) (fun hs2 e2 => ?_)
    refine eq_ (fun _ k => ev_goto (tgt := 24) f149_17 rfl k) ?_
    refine eq_ (fun _ k => ev_iconstN (n := 0) f149_24 k) ?_
    refine ⟨_, ev_iret f149_25 (rI rfl _) rfl, ?_⟩
    exact ⟨hs2, rfl, W1.put o1 e2⟩
  · have hc2 : ¬ v = 0 := hc
    have eb : blN v = Int64.ofNat 1 := if_neg hc2
    rw [eb]
    refine eq_ (fun _ k => ev_lconst f149_11 k) ?_
    refine eq_ (fun _ k => ev_goto (tgt := 16) f149_12 rfl k) ?_
    refine eq_last f149_16 (by assumption) (by omega) (by omega) (by omega) (fun hs2 e2 => ?_)
    refine eq_ (fun _ k => ev_goto (tgt := 24) f149_17 rfl k) ?_
    refine eq_ (fun _ k => ev_iconstN (n := 0) f149_24 k) ?_
    refine ⟨_, ev_iret f149_25 (rI rfl _) rfl, ?_⟩
    exact ⟨hs2, rfl, W1.put o1 e2⟩
theorem h149x (W : LW X q g qm gm l ov hs) (hE : K1 E kk) (k : ClO 62 [.ref 1, .int v1, .int v2] hs (.inr E) q' g') : ∃ hs', Ca 149 [.ref 1, .int v1, .int v2, .ref 47] hs (.inl (some (.int (nI kk))), hs', 1, 6) ∧ LW X q' g' qm gm l ov hs' := by
  obtain ⟨hs1, k1, W1⟩ := W.cls k
  have x1 := W.2.1.1
  refine caw_mk ow149 (Nat.le_of_ble_eq_true rfl) ?_
  rcases hE with ⟨rfl, rfl⟩
  · refine eq_ (fun _ k => ev_aload_n f149_0 rfl k) ?_
    refine eq_ (fun _ k => ev_iconstN (n := 0) f149_1 k) ?_
    refine eq_ (fun _ k => ev_aload_n f149_2 rfl k) ?_
    refine eq_ (fun _ k => ev_iload_n f149_3 rfl k) ?_
    refine eq_ (fun _ k => ev_iload_n f149_4 rfl k) ?_
    refine eq_ (fun _ k => ev_vhw [.int v1, .int v2] f149_5 ow62 rfl rfl (by assumption) (catL rfl) (Nat.le_of_ble_eq_true rfl) k1 (by rfl) f149_20 k) ?_
    refine eq_ (fun _ k => ev_iconstN (n := 1) f149_22 k) ?_
    refine ⟨_, ev_iret f149_23 (rI rfl _) rfl, ?_⟩
    exact ⟨hs1, rfl, W1⟩
theorem h150 (W : LW X q g qm gm l ov hs) (k : ClO 63 [.ref 1, .int v1, .int v2] hs (.inl (some (.int v))) q' g') : ∃ hs', Ca 150 [.ref 1, .int v1, .int v2, .ref 47] hs (.inl (some (.int (nI 0))), hs', 0, 0) ∧ LW X q' g' qm gm l v.toInt64 hs' := by
  obtain ⟨hs1, k1, W1⟩ := W.cls k
  have x1 := W.2.1.1
  have WW := W1
  obtain ⟨-, -, -, F, o1, o2⟩ := WW
  refine caw_mk ow150 (Nat.le_of_ble_eq_true rfl) ?_
  refine eq_ (fun _ k => ev_aload_n f150_0 rfl k) ?_
  refine eq_ (fun _ k => ev_iconstN (n := 0) f150_1 k) ?_
  refine eq_ (fun _ k => ev_aload_n f150_2 rfl k) ?_
  refine eq_ (fun _ k => ev_iload_n f150_3 rfl k) ?_
  refine eq_ (fun _ k => ev_iload_n f150_4 rfl k) ?_
  refine eq_ (fun _ k => ev_v2 f150_5 ow63 (by assumption) rfl rfl (Nat.le_of_ble_eq_true rfl) (k1) k) ?_
  refine eq_ (fun _ k => ev_i2l f150_8 k) ?_
  refine eq_last f150_9 (by assumption) (by omega) (by omega) (by omega) (fun hs2 e2 => ?_)
  refine eq_ (fun _ k => ev_goto (tgt := 17) f150_10 rfl k) ?_
  refine eq_ (fun _ k => ev_iconstN (n := 0) f150_17 k) ?_
  refine ⟨_, ev_iret f150_18 (rI rfl _) rfl, ?_⟩
  exact ⟨hs2, rfl, W1.put o1 e2⟩
theorem h150x (W : LW X q g qm gm l ov hs) (hE : K1 E kk) (k : ClO 63 [.ref 1, .int v1, .int v2] hs (.inr E) q' g') : ∃ hs', Ca 150 [.ref 1, .int v1, .int v2, .ref 47] hs (.inl (some (.int (nI kk))), hs', 1, 6) ∧ LW X q' g' qm gm l ov hs' := by
  obtain ⟨hs1, k1, W1⟩ := W.cls k
  have x1 := W.2.1.1
  refine caw_mk ow150 (Nat.le_of_ble_eq_true rfl) ?_
  rcases hE with ⟨rfl, rfl⟩
  · refine eq_ (fun _ k => ev_aload_n f150_0 rfl k) ?_
    refine eq_ (fun _ k => ev_iconstN (n := 0) f150_1 k) ?_
    refine eq_ (fun _ k => ev_aload_n f150_2 rfl k) ?_
    refine eq_ (fun _ k => ev_iload_n f150_3 rfl k) ?_
    refine eq_ (fun _ k => ev_iload_n f150_4 rfl k) ?_
    refine eq_ (fun _ k => ev_vhw [.int v1, .int v2] f150_5 ow63 rfl rfl (by assumption) (catL rfl) (Nat.le_of_ble_eq_true rfl) k1 (by rfl) f150_13 k) ?_
    refine eq_ (fun _ k => ev_iconstN (n := 1) f150_15 k) ?_
    refine ⟨_, ev_iret f150_16 (rI rfl _) rfl, ?_⟩
    exact ⟨hs1, rfl, W1⟩
theorem h151 (W : LW X q g qm gm l ov hs) (k : ClO 64 [.ref 1, .int v1, .int v2] hs (.inl (some (.int v))) q' g') : ∃ hs', Ca 151 [.ref 1, .int v1, .int v2, .ref 47] hs (.inl (some (.int (nI 0))), hs', 0, 0) ∧ LW X q' g' qm gm l v.toInt64 hs' := by
  obtain ⟨hs1, k1, W1⟩ := W.cls k
  have x1 := W.2.1.1
  have WW := W1
  obtain ⟨-, -, -, F, o1, o2⟩ := WW
  refine caw_mk ow151 (Nat.le_of_ble_eq_true rfl) ?_
  refine eq_ (fun _ k => ev_aload_n f151_0 rfl k) ?_
  refine eq_ (fun _ k => ev_iconstN (n := 0) f151_1 k) ?_
  refine eq_ (fun _ k => ev_aload_n f151_2 rfl k) ?_
  refine eq_ (fun _ k => ev_iload_n f151_3 rfl k) ?_
  refine eq_ (fun _ k => ev_iload_n f151_4 rfl k) ?_
  refine eq_ (fun _ k => ev_v2 f151_5 ow64 (by assumption) rfl rfl (Nat.le_of_ble_eq_true rfl) (k1) k) ?_
  refine eq_ (fun _ k => ev_i2l f151_8 k) ?_
  refine eq_last f151_9 (by assumption) (by omega) (by omega) (by omega) (fun hs2 e2 => ?_)
  refine eq_ (fun _ k => ev_goto (tgt := 17) f151_10 rfl k) ?_
  refine eq_ (fun _ k => ev_iconstN (n := 0) f151_17 k) ?_
  refine ⟨_, ev_iret f151_18 (rI rfl _) rfl, ?_⟩
  exact ⟨hs2, rfl, W1.put o1 e2⟩
theorem h151x (W : LW X q g qm gm l ov hs) (hE : K1 E kk) (k : ClO 64 [.ref 1, .int v1, .int v2] hs (.inr E) q' g') : ∃ hs', Ca 151 [.ref 1, .int v1, .int v2, .ref 47] hs (.inl (some (.int (nI kk))), hs', 1, 6) ∧ LW X q' g' qm gm l ov hs' := by
  obtain ⟨hs1, k1, W1⟩ := W.cls k
  have x1 := W.2.1.1
  refine caw_mk ow151 (Nat.le_of_ble_eq_true rfl) ?_
  rcases hE with ⟨rfl, rfl⟩
  · refine eq_ (fun _ k => ev_aload_n f151_0 rfl k) ?_
    refine eq_ (fun _ k => ev_iconstN (n := 0) f151_1 k) ?_
    refine eq_ (fun _ k => ev_aload_n f151_2 rfl k) ?_
    refine eq_ (fun _ k => ev_iload_n f151_3 rfl k) ?_
    refine eq_ (fun _ k => ev_iload_n f151_4 rfl k) ?_
    refine eq_ (fun _ k => ev_vhw [.int v1, .int v2] f151_5 ow64 rfl rfl (by assumption) (catL rfl) (Nat.le_of_ble_eq_true rfl) k1 (by rfl) f151_13 k) ?_
    refine eq_ (fun _ k => ev_iconstN (n := 1) f151_15 k) ?_
    refine ⟨_, ev_iret f151_16 (rI rfl _) rfl, ?_⟩
    exact ⟨hs1, rfl, W1⟩
theorem h152 (W : LW X q g qm gm l ov hs) (k : ClO 65 [.ref 1, .int v1, .int v2] hs (.inl (some (.int v))) q' g') : ∃ hs', Ca 152 [.ref 1, .int v1, .int v2, .ref 47] hs (.inl (some (.int (nI 0))), hs', 0, 0) ∧ LW X q' g' qm gm l v.toInt64 hs' := by
  obtain ⟨hs1, k1, W1⟩ := W.cls k
  have x1 := W.2.1.1
  have WW := W1
  obtain ⟨-, -, -, F, o1, o2⟩ := WW
  refine caw_mk ow152 (Nat.le_of_ble_eq_true rfl) ?_
  refine eq_ (fun _ k => ev_aload_n f152_0 rfl k) ?_
  refine eq_ (fun _ k => ev_iconstN (n := 0) f152_1 k) ?_
  refine eq_ (fun _ k => ev_aload_n f152_2 rfl k) ?_
  refine eq_ (fun _ k => ev_iload_n f152_3 rfl k) ?_
  refine eq_ (fun _ k => ev_iload_n f152_4 rfl k) ?_
  refine eq_ (fun _ k => ev_v2 f152_5 ow65 (by assumption) rfl rfl (Nat.le_of_ble_eq_true rfl) (k1) k) ?_
  refine eq_ (fun _ k => ev_i2l f152_8 k) ?_
  refine eq_last f152_9 (by assumption) (by omega) (by omega) (by omega) (fun hs2 e2 => ?_)
  refine eq_ (fun _ k => ev_goto (tgt := 17) f152_10 rfl k) ?_
  refine eq_ (fun _ k => ev_iconstN (n := 0) f152_17 k) ?_
  refine ⟨_, ev_iret f152_18 (rI rfl _) rfl, ?_⟩
  exact ⟨hs2, rfl, W1.put o1 e2⟩
theorem h152x (W : LW X q g qm gm l ov hs) (hE : K1 E kk) (k : ClO 65 [.ref 1, .int v1, .int v2] hs (.inr E) q' g') : ∃ hs', Ca 152 [.ref 1, .int v1, .int v2, .ref 47] hs (.inl (some (.int (nI kk))), hs', 1, 6) ∧ LW X q' g' qm gm l ov hs' := by
  obtain ⟨hs1, k1, W1⟩ := W.cls k
  have x1 := W.2.1.1
  refine caw_mk ow152 (Nat.le_of_ble_eq_true rfl) ?_
  rcases hE with ⟨rfl, rfl⟩
  · refine eq_ (fun _ k => ev_aload_n f152_0 rfl k) ?_
    refine eq_ (fun _ k => ev_iconstN (n := 0) f152_1 k) ?_
    refine eq_ (fun _ k => ev_aload_n f152_2 rfl k) ?_
    refine eq_ (fun _ k => ev_iload_n f152_3 rfl k) ?_
    refine eq_ (fun _ k => ev_iload_n f152_4 rfl k) ?_
    refine eq_ (fun _ k => ev_vhw [.int v1, .int v2] f152_5 ow65 rfl rfl (by assumption) (catL rfl) (Nat.le_of_ble_eq_true rfl) k1 (by rfl) f152_13 k) ?_
    refine eq_ (fun _ k => ev_iconstN (n := 1) f152_15 k) ?_
    refine ⟨_, ev_iret f152_16 (rI rfl _) rfl, ?_⟩
    exact ⟨hs1, rfl, W1⟩
theorem h153 (W : LW X q g qm gm l ov hs) (k : ClO 66 [.ref 1, .int v1] hs (.inl (some (.int v))) q' g') : ∃ hs', Ca 153 [.ref 1, .int v1, .ref 47] hs (.inl (some (.int (nI 0))), hs', 0, 0) ∧ LW X q' g' qm gm l v.toInt64 hs' := by
  obtain ⟨hs1, k1, W1⟩ := W.cls k
  have x1 := W.2.1.1
  have WW := W1
  obtain ⟨-, -, -, F, o1, o2⟩ := WW
  refine caw_mk ow153 (Nat.le_of_ble_eq_true rfl) ?_
  refine eq_ (fun _ k => ev_aload_n f153_0 rfl k) ?_
  refine eq_ (fun _ k => ev_iconstN (n := 0) f153_1 k) ?_
  refine eq_ (fun _ k => ev_aload_n f153_2 rfl k) ?_
  refine eq_ (fun _ k => ev_iload_n f153_3 rfl k) ?_
  refine eq_ (fun _ k => ev_v1 f153_4 ow66 (by assumption) rfl (Nat.le_of_ble_eq_true rfl) (k1) k) ?_
  refine eq_ (fun _ k => ev_i2l f153_7 k) ?_
  refine eq_last f153_8 (by assumption) (by omega) (by omega) (by omega) (fun hs2 e2 => ?_)
  refine eq_ (fun _ k => ev_goto (tgt := 15) f153_9 rfl k) ?_
  refine eq_ (fun _ k => ev_iconstN (n := 0) f153_15 k) ?_
  refine ⟨_, ev_iret f153_16 (rI rfl _) rfl, ?_⟩
  exact ⟨hs2, rfl, W1.put o1 e2⟩
theorem h153x (W : LW X q g qm gm l ov hs) (hE : K1 E kk) (k : ClO 66 [.ref 1, .int v1] hs (.inr E) q' g') : ∃ hs', Ca 153 [.ref 1, .int v1, .ref 47] hs (.inl (some (.int (nI kk))), hs', 1, 6) ∧ LW X q' g' qm gm l ov hs' := by
  obtain ⟨hs1, k1, W1⟩ := W.cls k
  have x1 := W.2.1.1
  refine caw_mk ow153 (Nat.le_of_ble_eq_true rfl) ?_
  rcases hE with ⟨rfl, rfl⟩
  · refine eq_ (fun _ k => ev_aload_n f153_0 rfl k) ?_
    refine eq_ (fun _ k => ev_iconstN (n := 0) f153_1 k) ?_
    refine eq_ (fun _ k => ev_aload_n f153_2 rfl k) ?_
    refine eq_ (fun _ k => ev_iload_n f153_3 rfl k) ?_
    refine eq_ (fun _ k => ev_vh [.int v1] f153_4 ow66 rfl rfl (by assumption) (catL rfl) (Nat.le_of_ble_eq_true rfl) k1 (by rfl) f153_12 k) ?_
    refine eq_ (fun _ k => ev_iconstN (n := 1) f153_13 k) ?_
    refine ⟨_, ev_iret f153_14 (rI rfl _) rfl, ?_⟩
    exact ⟨hs1, rfl, W1⟩
end LH
