/-! the class's constructor, the model's; rows laid by wip/whole/walk.py -/
/-- cells 0 to 26 while the class is made -/
def CJ (hs : amH) (X : amC) (fs : List Value) : Prop := hs[0]? = some X ∧ hs[1]? = some (.inr (3, fs)) ∧ (∃ TF, hs[2]? = some (.inl (.object (amN 2), 4, .inr (.inr TF))) ∧ ∀ i, i < 4 → TF i = some (3 + 6 * i)) ∧ ∀ i, i < 4 → FilAt hs (3 + 6 * i) 3 (fun _ => 0)
theorem CJ.mo {hs hs' : amH} {X : amC} {fs : List Value} {a : Nat} (h : CJ hs X fs) (m : Mo hs hs' a) (ha : 27 ≤ a) : CJ hs' X fs := by
  obtain ⟨h1, h2, ⟨TF, h3, h4⟩, h5⟩ := h
  exact ⟨m _ _ (by omega) h1, m _ _ (by omega) h2, ⟨TF, m _ _ (by omega) h3, h4⟩, fun i hi => (h5 i hi).mo m (by omega)⟩
theorem CJ.set {hs hs' : amH} {X : amC} {fs fs2 : List Value} (h : CJ hs X fs) (e : hs' = hs.set 1 (.inr (3, fs2))) : CJ hs' X fs2 := by
  obtain ⟨h1, h2, ⟨TF, h3, h4⟩, h5⟩ := h
  have m := mo_set e
  exact ⟨m _ _ (by omega) h1, am_set e h2, ⟨TF, m _ _ (by omega) h3, h4⟩, fun i hi => (h5 i hi).mo m (by omega)⟩
def CI (hs : amH) (X : amC) (i : Nat) : Prop := hs.length = 3 + 6 * i ∧ hs[0]? = some X ∧ hs[1]? = some (.inr (3, [.ref 2, .null, .null, .null, .null])) ∧ (∃ TF, hs[2]? = some (.inl (.object (amN 2), 4, .inr (.inr TF))) ∧ ∀ j, j < i → TF j = some (3 + 6 * j)) ∧ ∀ j, j < i → FilAt hs (3 + 6 * j) 3 (fun _ => 0)
section KP
variable {hs : amH} {X : amC}
theorem l36 {Q : amOut → Prop} (hfin : ∀ hs, CI hs X 4 → EvQ 36 42 [some (.ref 1), some (.int (nI 4))] [] hs (1 + 6 * 4) (4 + 1286 * 4) Q) : ∀ (d i : Nat) (hs : amH), i + d = 4 → CI hs X i → EvQ 36 14 [some (.ref 1), some (.int (nI i))] [] hs (1 + 6 * i) (4 + 1286 * i) Q := by
  intro d
  induction d with
  | zero =>
    intro i hs hi h
    have e : i = 4 := by omega
    subst e
    have h9 := h
    obtain ⟨l, b0, b1, ⟨TF, b2, b3⟩, b4⟩ := h
    refine eq_ (fun _ k => ev_iload_n f36_14 rfl k) ?_
    refine eq_ (fun _ k => ev_aload_n f36_15 rfl k) ?_
    refine eq_ (fun _ k => ev_getf f36_16 (by assumption) rfl k) ?_
    refine eq_ (fun _ k => ev_alen f36_19 (by assumption) k) ?_
    refine eq_icN (by omega) (by omega) (tgt := 42) f36_20 rfl (fun _ => ?_) (fun h9 => absurd (by simp only [akN] at *; omega) h9)
    exact hfin hs h9
  | succ d ih =>
    intro i hs hi h
    obtain ⟨l, b0, b1, ⟨TF, b2, b3⟩, b4⟩ := h
    refine eq_ (fun _ k => ev_iload_n f36_14 rfl k) ?_
    refine eq_ (fun _ k => ev_aload_n f36_15 rfl k) ?_
    refine eq_ (fun _ k => ev_getf f36_16 (by assumption) rfl k) ?_
    refine eq_ (fun _ k => ev_alen f36_19 (by assumption) k) ?_
    refine eq_icN (by omega) (by omega) (tgt := 42) f36_20 rfl (fun h9 => absurd h9 (by simp only [akN] at *; omega)) (fun _ => ?_)
    refine eq_ (fun _ k => ev_aload_n f36_23 rfl k) ?_
    refine eq_ (fun _ k => ev_getf f36_24 (by assumption) rfl k) ?_
    refine eq_ (fun _ k => ev_iload_n f36_27 rfl k) ?_
    refine eq_new f36_28 (by assumption) (fun hs1 e1 => ?_)
    have l1 := am_apl e1 l
    have n1 := am_apn e1 l
    obtain ⟨hs2, k2, l2, m2, f2⟩ := c13 (by omega) l1 n1
    have c1 := m2 _ _ (by omega) (am_ap e1 b1)
    have c2 := m2 _ _ (by omega) (am_ap e1 b2)
    have ob := f2.obj.2.2
    refine eq_ (fun _ k => ev_dup f36_31 rfl k) ?_
    refine eq_ (fun _ k => ev_ci f36_32 ow13 rfl (by assumption) (Nat.le_of_ble_eq_true rfl) (k2) k) ?_
    refine eq_aast f36_35 (by assumption) (by assumption) (by omega) (by omega) (by omega) (by omega) rfl (fun hs3 e3 => ?_)
    have l3 := am_stl e3 l2
    have m3 := mo_set e3
    have ih2 := ih (i + 1) hs3 (by omega) ⟨by omega, m3 _ _ (by omega) (m2 _ _ (by omega) (am_ap e1 b0)), m3 _ _ (by omega) c1, ⟨_, am_set e3 c2, fun j hj => ?_⟩, fun j hj => ?_⟩
    · rw [show 1 + 6 * (i + 1) = 1 + 6 * i + 1 + 5 by omega, show 4 + 1286 * (i + 1) = 4 + 1286 * i + 6 + 1280 by omega] at ih2
      refine eq_ (fun _ k => ev_iincN (d := 1) f36_36 rfl k) ?_
      refine eq_ (fun _ k => ev_goto (tgt := 14) f36_39 rfl k) ?_
      exact ih2
    · unfold va_up
      by_cases w : j = i
      · rw [if_pos w, w]
      · rw [if_neg w]
        exact b3 j (by omega)
    · by_cases w : j = i
      · rw [w]
        exact f2.mo m3 (by omega)
      · exact (((b4 j (by omega)).mo (mo_ap (a := 3 + 6 * i) e1) (by omega)).mo m2 (by omega)).mo m3 (by omega)
theorem c36 (hl : hs.length = 2) (h0 : hs[0]? = some X) (h1 : hs[1]? = some (.inr (3, amDef 3))) : ∃ hs', Ca 36 [.ref 1] hs (.inl none, hs', 37, 8743) ∧ hs'.length = 39 ∧ hs'[0]? = some X ∧ CS hs' (fun _ => 3) (fun _ _ => 0) := by
  refine cav_mk ow36 (Nat.le_of_ble_eq_true rfl) ?_
  refine eq_ (fun _ k => ev_aload_n f36_0 rfl k) ?_
  refine eq_obj f36_1 (Nat.le_of_ble_eq_true rfl) ?_
  refine eq_ (fun _ k => ev_aload_n f36_4 rfl k) ?_
  refine eq_ (fun _ k => ev_iconstN (n := 4) f36_5 k) ?_
  refine eq_ana (by omega) f36_6 (by assumption) (fun hs1 e1 => ?_)
  have l1 := am_apl e1 hl
  have b1 := am_ap e1 h1
  have n1 := am_apn e1 hl
  refine eq_putf f36_9 (by assumption) rfl (Nat.le_of_ble_eq_true rfl) (fun hs2 e2 => ?_)
  refine eq_ (fun _ k => ev_iconstN (n := 0) f36_12 k) ?_
  refine eq_ (fun _ k => ev_istore_n f36_13 k) ?_
  have l2 := am_stl e2 l1
  have m2 := mo_set e2
  refine l36 (X := X) (fun hs h => ?_) 4 0 hs2 rfl ⟨l2, m2 _ _ (by omega) (am_ap e1 h0), am_set e2 b1, ⟨_, m2 _ _ (by omega) n1, fun j hj => absurd hj (Nat.not_lt_zero j)⟩, fun j hj => absurd hj (Nat.not_lt_zero j)⟩
  clear l1 b1 n1 l2 m2 hl h0 h1
  obtain ⟨l, b0, b1, bT, b4⟩ := h
  have J : CJ hs X [.ref 2, .null, .null, .null, .null] := ⟨b0, b1, bT, b4⟩
  have l0 : hs.length = 27 := l
  clear b0 b1 bT b4 l
  refine eq_ (fun _ k => ev_aload_n f36_42 rfl k) ?_
  refine eq_new f36_43 (by assumption) (fun hs3 e3 => ?_)
  have l3 := am_apl e3 l0
  have J3 := J.mo (mo_ap (a := 27) e3) (Nat.le_refl _)
  obtain ⟨hs4, k4, l4, m4, f4⟩ := c0 (by omega) l3 (am_apn e3 l0)
  have J4 := J3.mo m4 (by omega)
  have x3 := am_apn e3 l0
  have x4 := J4.2.1
  refine eq_ (fun _ k => ev_dup f36_46 rfl k) ?_
  refine eq_ (fun _ k => ev_ci f36_47 ow0 rfl (by assumption) (Nat.le_of_ble_eq_true rfl) (k4) k) ?_
  refine eq_putf f36_50 (by assumption) rfl (Nat.le_of_ble_eq_true rfl) (fun hs5 e5 => ?_)
  have l5 := am_stl e5 l4
  have J5 : CJ hs5 X [.ref 2, .ref 27, .null, .null, .null] := J4.set e5
  have f5 := f4.mo (mo_set e5) (by omega)
  refine eq_ (fun _ k => ev_aload_n f36_53 rfl k) ?_
  refine eq_new f36_54 (by assumption) (fun hs6 e6 => ?_)
  have l6 := am_apl e6 l5
  have J6 := J5.mo (mo_ap (a := 30) e6) (by omega)
  have x6 := am_apn e6 l5
  obtain ⟨hs7, k7, l7, m7, f7⟩ := c0 (by omega) l6 x6
  have J7 := J6.mo m7 (by omega)
  have g7 := (f5.mo (mo_ap (a := 30) e6) (by omega)).mo m7 (by omega)
  have x7 := J7.2.1
  refine eq_ (fun _ k => ev_dup f36_57 rfl k) ?_
  refine eq_ (fun _ k => ev_ci f36_58 ow0 rfl (by assumption) (Nat.le_of_ble_eq_true rfl) (k7) k) ?_
  refine eq_putf f36_61 (by assumption) rfl (Nat.le_of_ble_eq_true rfl) (fun hs8 e8 => ?_)
  have l8 := am_stl e8 l7
  have J8 : CJ hs8 X [.ref 2, .ref 27, .ref 30, .null, .null] := J7.set e8
  have f8 := f7.mo (mo_set e8) (by omega)
  have g8 := g7.mo (mo_set e8) (by omega)
  refine eq_ (fun _ k => ev_aload_n f36_64 rfl k) ?_
  refine eq_new f36_65 (by assumption) (fun hs9 e9 => ?_)
  have l9 := am_apl e9 l8
  have J9 := J8.mo (mo_ap (a := 33) e9) (by omega)
  have x9 := am_apn e9 l8
  obtain ⟨hsA, kA, lA, mA, fA⟩ := c0 (by omega) l9 x9
  have JA := J9.mo mA (by omega)
  have gA := (f8.mo (mo_ap (a := 33) e9) (by omega)).mo mA (by omega)
  have iA := (g8.mo (mo_ap (a := 33) e9) (by omega)).mo mA (by omega)
  have xA := JA.2.1
  refine eq_ (fun _ k => ev_dup f36_68 rfl k) ?_
  refine eq_ (fun _ k => ev_ci f36_69 ow0 rfl (by assumption) (Nat.le_of_ble_eq_true rfl) (kA) k) ?_
  refine eq_putf f36_72 (by assumption) rfl (Nat.le_of_ble_eq_true rfl) (fun hsB eB => ?_)
  have lB := am_stl eB lA
  have JB : CJ hsB X [.ref 2, .ref 27, .ref 30, .ref 33, .null] := JA.set eB
  have fB := fA.mo (mo_set eB) (by omega)
  have gB := gA.mo (mo_set eB) (by omega)
  have iB := iA.mo (mo_set eB) (by omega)
  refine eq_ (fun _ k => ev_aload_n f36_75 rfl k) ?_
  refine eq_new f36_76 (by assumption) (fun hsC eC => ?_)
  have lC := am_apl eC lB
  have JC := JB.mo (mo_ap (a := 36) eC) (by omega)
  have xC := am_apn eC lB
  obtain ⟨hsD, kD, lD, mD, fD⟩ := c9 (by omega) lC xC
  have JD := JC.mo mD (by omega)
  have gD := (fB.mo (mo_ap (a := 36) eC) (by omega)).mo mD (by omega)
  have iD := (gB.mo (mo_ap (a := 36) eC) (by omega)).mo mD (by omega)
  have jD := (iB.mo (mo_ap (a := 36) eC) (by omega)).mo mD (by omega)
  have xD := JD.2.1
  refine eq_ (fun _ k => ev_dup f36_79 rfl k) ?_
  refine eq_ (fun _ k => ev_ci f36_80 ow9 rfl (by assumption) (Nat.le_of_ble_eq_true rfl) (kD) k) ?_
  refine eq_putf f36_83 (by assumption) rfl (Nat.le_of_ble_eq_true rfl) (fun hsE eE => ?_)
  have lE := am_stl eE lD
  have JE : CJ hsE X [.ref 2, .ref 27, .ref 30, .ref 33, .ref 36] := JD.set eE
  have mE := mo_set eE
  have gE := gD.mo mE (by omega)
  have iE := iD.mo mE (by omega)
  have jE := jD.mo mE (by omega)
  obtain ⟨z0, z1, z2, z3⟩ := fD
  refine ⟨_, ev_vret f36_86 rfl, ?_⟩
  exact ⟨hsE, rfl, lE, JE.1, JE.2.1, JE.2.2.1, JE.2.2.2, ⟨_, jE⟩, ⟨_, iE⟩, ⟨_, gE⟩, _, _, z0, mE _ _ (by omega) z1, mE _ _ (by omega) z2, mE _ _ (by omega) z3⟩
theorem CS.cg {q q2 : Nat → Nat} {g : Nat → Nat → Nat} (h : CS hs q g) (e : ∀ i, i < 4 → q i = q2 i) : CS hs q2 g := by
  obtain ⟨a1, a2, a3, a4⟩ := h
  exact ⟨a1, a2, fun i hi => e i hi ▸ a3 i hi, a4⟩
end KP
