/-! what makes: new, arrays, constructors; rows laid by wip/whole/walk.py -/
theorem am_ap {hs hs1 : amH} {q p : amC} {j : Nat} (e : hs1 = hs ++ [q]) (h : hs[j]? = some p) : hs1[j]? = some p := by
  have hj := (List.getElem?_eq_some_iff.mp h).1
  rw [e, List.getElem?_append_left hj]
  exact h
theorem am_apn {hs hs1 : amH} {q : amC} {N : Nat} (e : hs1 = hs ++ [q]) (hl : hs.length = N) : hs1[N]? = some q := by
  rw [e, ← hl, List.getElem?_append_right (Nat.le_refl _), Nat.sub_self]
  rfl
theorem am_apl {hs hs1 : amH} {q : amC} {N : Nat} (e : hs1 = hs ++ [q]) (hl : hs.length = N) : hs1.length = N + 1 := by
  rw [e, List.length_append, hl]
  rfl
theorem am_stl {hs hs1 : amH} {q : amC} {a N : Nat} (e : hs1 = hs.set a q) (hl : hs.length = N) : hs1.length = N := by
  rw [e, List.length_set, hl]
/-- all cells but a stay -/
def Mo (hs hs' : amH) (a : Nat) : Prop := ∀ j p, ¬ a = j → hs[j]? = some p → hs'[j]? = some p
theorem mo_ap {hs hs1 : amH} {q : amC} {a : Nat} (e : hs1 = hs ++ [q]) : Mo hs hs1 a := fun _ _ _ h => am_ap e h
theorem mo_set {hs hs1 : amH} {q : amC} {a : Nat} (e : hs1 = hs.set a q) : Mo hs hs1 a := fun _ _ hj h => (am_set2 e hj).trans h
theorem Mo.tr {hs hs1 hs2 : amH} {a : Nat} (h : Mo hs hs1 a) (k : Mo hs1 hs2 a) : Mo hs hs2 a := fun j p hj w => k j p hj (h j p hj w)
section NW
variable {M pc len : Nat} {ls : amL} {st : List Value} {hs : amH} {c s N : Nat} {x : amRes} {Q : amOut → Prop}
theorem eq_new {k ci : Nat} {z : Int} (hf : amFetch M pc = some (.new k, len, (0, ci, z))) (hl : hs.length = N) (kk : ∀ hs1, hs1 = hs ++ [.inr (ci, amDef ci)] → EvQ M (pc + 3) ls (.ref N :: st) hs1 (c + 1) (s + amNF ci) Q) : EvQ M pc ls st hs c s Q := by
  subst hl
  refine eq_ (fun _ k => ?_) (kk _ rfl)
  obtain ⟨n, hn⟩ := k
  exact ev_m hf rfl ⟨n, hn⟩
theorem eq_na_int {n : Nat} (hn : n ≤ 65536) (hf : amFetch M pc = some (.newarray .int, len, x)) (hl : hs.length = N) (kk : ∀ hs1, hs1 = hs ++ [.inl (.int, n, .inl (fun _ => 0))] → EvQ M (pc + 2) ls (.ref N :: st) hs1 (c + 1) (s + n) Q) : EvQ M pc ls (.int (nI n) :: st) hs c s Q := by
  subst hl
  refine eq_ (fun _ k => ?_) (kk _ rfl)
  obtain ⟨m, hm⟩ := k
  refine ev_m hf rfl ⟨m, ?_⟩
  have hcl := nI_clamp (n := n) (by omega)
  simp only [amMore]
  rw [if_pos ⟨nI_pos (by omega), by rw [hcl]; exact hn⟩, hcl]
  exact hm
theorem eq_na_boolean {n : Nat} (hn : n ≤ 65536) (hf : amFetch M pc = some (.newarray .boolean, len, x)) (hl : hs.length = N) (kk : ∀ hs1, hs1 = hs ++ [.inl (.boolean, n, .inl (fun _ => 0))] → EvQ M (pc + 2) ls (.ref N :: st) hs1 (c + 1) (s + n) Q) : EvQ M pc ls (.int (nI n) :: st) hs c s Q := by
  subst hl
  refine eq_ (fun _ k => ?_) (kk _ rfl)
  obtain ⟨m, hm⟩ := k
  refine ev_m hf rfl ⟨m, ?_⟩
  have hcl := nI_clamp (n := n) (by omega)
  simp only [amMore]
  rw [if_pos ⟨nI_pos (by omega), by rw [hcl]; exact hn⟩, hcl]
  exact hm
theorem eq_ana {n k f : Nat} {z : Int} (hn : n ≤ 65536) (hf : amFetch M pc = some (.anewarray k, len, (f, 2, z))) (hl : hs.length = N) (kk : ∀ hs1, hs1 = hs ++ [.inl (.object (amN 2), n, .inr (.inr (fun _ => none)))] → EvQ M (pc + 3) ls (.ref N :: st) hs1 (c + 1) (s + n) Q) : EvQ M pc ls (.int (nI n) :: st) hs c s Q := by
  subst hl
  refine eq_ (fun _ k => ?_) (kk _ rfl)
  obtain ⟨m, hm⟩ := k
  refine ev_m hf rfl ⟨m, ?_⟩
  have hcl := nI_clamp (n := n) (by omega)
  simp only [amMore]
  rw [if_pos ⟨nI_pos (by omega), by rw [hcl]; exact hn, trivial⟩, hcl]
  exact hm
theorem eq_obj {k f a : Nat} {z : Int} (hf : amFetch M pc = some (.invokespecial k, len, (6, f, z))) (hsum : amSum st ≤ 8) (kk : EvQ M (pc + 3) ls st hs c s Q) : EvQ M pc ls (.ref a :: st) hs c s Q :=
  eq_ (fun _ k => ev_s hf (by simp only [amStep]; rw [if_pos ⟨trivial, hsum⟩]) k) kk
theorem eq_aast {a n j v ci : Nat} {C : String} {f : Nat → Option Nat} {fs : List Value} (hf : amFetch M pc = some (.aastore, len, x)) (hc : hs[a]? = some (.inl (.object C, n, .inr (.inr f)))) (hv : hs[v]? = some (.inr (ci, fs))) (hj : j < n) (hn : n < 2 ^ 31) (h0 : ¬ a = 0) (h5 : ci < 4) (hC : C = amN ci) (kk : ∀ hs1, hs1 = hs.set a (.inl (.object C, n, .inr (.inr (va_up f j (some v))))) → EvQ M (pc + 1) ls st hs1 c s Q) : EvQ M pc ls (.ref v :: .int (nI j) :: .ref a :: st) hs c s Q := by
  refine eq_ (fun _ k => ev_s hf (by simp only [amStep, hc, hv]; rw [if_pos ⟨am_inN hj hn, h0, h5, hC⟩]) ?_) (kk _ rfl)
  rw [nI_clamp (by omega)]
  exact k
end NW
/-- a run that ends without an answer, in such a world, having made so much -/
def RtV (P : amH → Prop) (dc ds : Nat) : amOut → Prop := fun o => ∃ hs', o = (.inl none, hs', dc, ds) ∧ P hs'
theorem cav_mk {M own mL dc ds : Nat} {as : List Value} {hs : amH} {P : amH → Prop} (ho : amOwnL M = some (own, mL)) (hl : as.length ≤ mL) (h : EvQ M 0 (amEntry as mL) [] hs 0 0 (RtV P dc ds)) : ∃ hs', Ca M as hs (.inl none, hs', dc, ds) ∧ P hs' := by
  obtain ⟨o, h1, hs', rfl, h2⟩ := h
  exact ⟨hs', ca_mk ho hl h1, h2⟩
theorem TabAt.mo {hs hs' : amH} {p q a : Nat} {T : amTab} (h : TabAt hs p q T) (m : Mo hs hs' a) (hd : p + 6 ≤ a ∨ a < p) : TabAt hs' p q T := by
  obtain ⟨h0, h3, h8, a0, a1, a2, a3, a4, a5, b1, b2⟩ := h
  exact ⟨h0, h3, h8, m _ _ (by omega) a0, m _ _ (by omega) a1, m _ _ (by omega) a2, m _ _ (by omega) a3, m _ _ (by omega) a4, m _ _ (by omega) a5, b1, b2⟩
theorem FilAt.mo {hs hs' : amH} {p q a : Nat} {g : Nat → Nat} (h : FilAt hs p q g) (m : Mo hs hs' a) (hd : p + 6 ≤ a ∨ a < p) : FilAt hs' p q g := by
  obtain ⟨T, h1, h2⟩ := h
  exact ⟨T, h1.mo m hd, h2⟩
theorem BagAt.mo {hs hs' : amH} {b a : Nat} {g : Nat → Nat} (h : BagAt hs b g) (m : Mo hs hs' a) (hd : b + 3 ≤ a ∨ a < b) : BagAt hs' b g := by
  obtain ⟨F, C, z, ⟨h0, h1, a0, a1, a2⟩, h2⟩ := h
  exact ⟨F, C, z, ⟨h0, h1, m _ _ (by omega) a0, m _ _ (by omega) a1, m _ _ (by omega) a2⟩, h2⟩
section KO
variable {hs : amH} {a : Nat}
theorem nz_0 : ∀ n, nzN (fun _ => 0) n = 0
  | 0 => rfl
  | n + 1 => by
    rw [nzN_zero rfl]
    exact nz_0 n
theorem c0 (h0 : 0 < a) (hl : hs.length = a + 1) (ha : hs[a]? = some (.inr (0, amDef 0))) : ∃ hs', Ca 0 [.ref a] hs (.inl none, hs', 2, 1024) ∧ hs'.length = a + 3 ∧ Mo hs hs' a ∧ BagAt hs' a (fun _ => 0) := by
  refine cav_mk ow0 (Nat.le_of_ble_eq_true rfl) ?_
  refine eq_ (fun _ k => ev_aload_n f0_0 rfl k) ?_
  refine eq_obj f0_1 (Nat.le_of_ble_eq_true rfl) ?_
  refine eq_ (fun _ k => ev_aload_n f0_4 rfl k) ?_
  refine eq_ (fun _ k => ev_sipushN (n := 512) (by decide +kernel) f0_5 k) ?_
  refine eq_na_int (by omega) f0_8 (by assumption) (fun hs1 e1 => ?_)
  have l1 := am_apl e1 hl
  have b1 := am_ap e1 ha
  have d1 := am_apn e1 hl
  refine eq_putf f0_10 (by assumption) rfl (Nat.le_of_ble_eq_true rfl) (fun hs2 e2 => ?_)
  have l2 := am_stl e2 l1
  have b2 : hs2[a]? = some (.inr (0, [.ref (a + 1), .null, .int 0])) := am_set e2 b1
  have d2 := (am_set2 e2 (show ¬ a = a + 1 by omega)).trans d1
  refine eq_ (fun _ k => ev_aload_n f0_13 rfl k) ?_
  refine eq_ (fun _ k => ev_sipushN (n := 512) (by decide +kernel) f0_14 k) ?_
  refine eq_na_int (by omega) f0_17 (by assumption) (fun hs3 e3 => ?_)
  have l3 := am_apl e3 l2
  have b3 := am_ap e3 b2
  have d3 := am_ap e3 d2
  have f3 := am_apn e3 l2
  refine eq_putf f0_19 (by assumption) rfl (Nat.le_of_ble_eq_true rfl) (fun hs4 e4 => ?_)
  have l4 := am_stl e4 l3
  have b4 : hs4[a]? = some (.inr (0, [.ref (a + 1), .ref (a + 2), .int 0])) := am_set e4 b3
  have d4 := (am_set2 e4 (show ¬ a = a + 1 by omega)).trans d3
  have f4 := (am_set2 e4 (show ¬ a = a + 1 + 1 by omega)).trans f3
  refine ⟨_, ev_vret f0_22 rfl, ?_⟩
  refine ⟨hs4, rfl, l4, ((mo_ap e1).tr (mo_set e2)).tr ((mo_ap e3).tr (mo_set e4)), fun _ => 0, fun _ => 0, 0, ⟨h0, by omega, b4, d4, f4⟩, (nz_0 4096).symm, fun _ => (show 0 < 2 ^ 20 by omega), fun k _ w => absurd w (Nat.lt_irrefl 0)⟩
theorem c9 (h0 : 0 < a) (hl : hs.length = a + 1) (ha : hs[a]? = some (.inr (1, amDef 1))) : ∃ hs', Ca 9 [.ref a] hs (.inl none, hs', 2, 512) ∧ hs'.length = a + 3 ∧ Mo hs hs' a ∧ LisC hs' a (fun _ => 0) (fun _ => 0) := by
  refine cav_mk ow9 (Nat.le_of_ble_eq_true rfl) ?_
  refine eq_ (fun _ k => ev_aload_n f9_0 rfl k) ?_
  refine eq_obj f9_1 (Nat.le_of_ble_eq_true rfl) ?_
  refine eq_ (fun _ k => ev_aload_n f9_4 rfl k) ?_
  refine eq_ (fun _ k => ev_sipushN (n := 256) (by decide +kernel) f9_5 k) ?_
  refine eq_na_int (by omega) f9_8 (by assumption) (fun hs1 e1 => ?_)
  have l1 := am_apl e1 hl
  have b1 := am_ap e1 ha
  have d1 := am_apn e1 hl
  refine eq_putf f9_10 (by assumption) rfl (Nat.le_of_ble_eq_true rfl) (fun hs2 e2 => ?_)
  have l2 := am_stl e2 l1
  have b2 : hs2[a]? = some (.inr (1, [.ref (a + 1), .null])) := am_set e2 b1
  have d2 := (am_set2 e2 (show ¬ a = a + 1 by omega)).trans d1
  refine eq_ (fun _ k => ev_aload_n f9_13 rfl k) ?_
  refine eq_ (fun _ k => ev_sipushN (n := 256) (by decide +kernel) f9_14 k) ?_
  refine eq_na_int (by omega) f9_17 (by assumption) (fun hs3 e3 => ?_)
  have l3 := am_apl e3 l2
  have b3 := am_ap e3 b2
  have d3 := am_ap e3 d2
  have f3 := am_apn e3 l2
  refine eq_putf f9_19 (by assumption) rfl (Nat.le_of_ble_eq_true rfl) (fun hs4 e4 => ?_)
  have l4 := am_stl e4 l3
  have b4 : hs4[a]? = some (.inr (1, [.ref (a + 1), .ref (a + 2)])) := am_set e4 b3
  have d4 := (am_set2 e4 (show ¬ a = a + 1 by omega)).trans d3
  have f4 := (am_set2 e4 (show ¬ a = a + 1 + 1 by omega)).trans f3
  refine ⟨_, ev_vret f9_22 rfl, ?_⟩
  exact ⟨hs4, rfl, l4, ((mo_ap e1).tr (mo_set e2)).tr ((mo_ap e3).tr (mo_set e4)), h0, b4, d4, f4⟩
def T00 : amTab := (fun _ => 0, fun _ => 0, fun _ => false, fun _ => false, fun _ => false)
theorem T00_wp : wpT T00 256 = T00 := by
  unfold wpT T00 wpN wpB
  dsimp only
  simp only [ite_self]
theorem T00_lay : Lay (2 ^ 3) (2 ^ (12 - 3)) (fun _ => 0) (ovN (2 ^ 3) (2 ^ (12 - 3)) (fun _ => 0) + 2 ^ 3) T00 := by
  have e : fiT 3 (elN 3 0 (fun _ => 0) 4096 - 2 ^ 3) (fun _ => 0) (wpT T00 256) 4096 = wpT T00 256 := by
    have : ∀ k, fiT 3 (elN 3 0 (fun _ => 0) 4096 - 2 ^ 3) (fun _ => 0) (wpT T00 256) k = wpT T00 256 := by
      intro k
      induction k with
      | zero => rfl
      | succ k ih => exact (if_pos rfl).trans ih
    exact this 4096
  have h := fi_lay (q := 3) (g := fun _ => 0) (by omega) (by omega) (by rw [EE_0]; omega) T00
  rw [e, T00_wp] at h
  exact h
theorem c13 (h0 : 0 < a) (hl : hs.length = a + 1) (ha : hs[a]? = some (.inr (2, amDef 2))) : ∃ hs', Ca 13 [.ref a] hs (.inl none, hs', 5, 1280) ∧ hs'.length = a + 6 ∧ Mo hs hs' a ∧ FilAt hs' a 3 (fun _ => 0) := by
  refine cav_mk ow13 (Nat.le_of_ble_eq_true rfl) ?_
  refine eq_ (fun _ k => ev_aload_n f13_0 rfl k) ?_
  refine eq_obj f13_1 (Nat.le_of_ble_eq_true rfl) ?_
  refine eq_ (fun _ k => ev_aload_n f13_4 rfl k) ?_
  refine eq_ (fun _ k => ev_sipushN (n := 256) (by decide +kernel) f13_5 k) ?_
  refine eq_na_int (by omega) f13_8 (by assumption) (fun hs1 e1 => ?_)
  have l1 := am_apl e1 hl
  have b1 := am_ap e1 ha
  have d1 := am_apn e1 hl
  refine eq_putf f13_10 (by assumption) rfl (Nat.le_of_ble_eq_true rfl) (fun hs2 e2 => ?_)
  have l2 := am_stl e2 l1
  have b2 : hs2[a]? = some (.inr (2, [.ref (a + 1), .null, .null, .null, .null, .int 0])) := am_set e2 b1
  have d2 := (am_set2 e2 (show ¬ a = a + 1 by omega)).trans d1
  refine eq_ (fun _ k => ev_aload_n f13_13 rfl k) ?_
  refine eq_ (fun _ k => ev_sipushN (n := 256) (by decide +kernel) f13_14 k) ?_
  refine eq_na_int (by omega) f13_17 (by assumption) (fun hs3 e3 => ?_)
  have l3 := am_apl e3 l2
  have b3 := am_ap e3 b2
  have d3 := am_ap e3 d2
  have f3 := am_apn e3 l2
  refine eq_putf f13_19 (by assumption) rfl (Nat.le_of_ble_eq_true rfl) (fun hs4 e4 => ?_)
  have l4 := am_stl e4 l3
  have b4 : hs4[a]? = some (.inr (2, [.ref (a + 1), .ref (a + 2), .null, .null, .null, .int 0])) := am_set e4 b3
  have d4 := (am_set2 e4 (show ¬ a = a + 1 by omega)).trans d3
  have f4 := (am_set2 e4 (show ¬ a = a + 1 + 1 by omega)).trans f3
  refine eq_ (fun _ k => ev_aload_n f13_22 rfl k) ?_
  refine eq_ (fun _ k => ev_sipushN (n := 256) (by decide +kernel) f13_23 k) ?_
  refine eq_na_boolean (by omega) f13_26 (by assumption) (fun hs5 e5 => ?_)
  have l5 := am_apl e5 l4
  have b5 := am_ap e5 b4
  have d5 := am_ap e5 d4
  have f5 := am_ap e5 f4
  have g5 := am_apn e5 l4
  refine eq_putf f13_28 (by assumption) rfl (Nat.le_of_ble_eq_true rfl) (fun hs6 e6 => ?_)
  have l6 := am_stl e6 l5
  have b6 : hs6[a]? = some (.inr (2, [.ref (a + 1), .ref (a + 2), .ref (a + 3), .null, .null, .int 0])) := am_set e6 b5
  have d6 := (am_set2 e6 (show ¬ a = a + 1 by omega)).trans d5
  have f6 := (am_set2 e6 (show ¬ a = a + 1 + 1 by omega)).trans f5
  have g6 := (am_set2 e6 (show ¬ a = a + 1 + 1 + 1 by omega)).trans g5
  refine eq_ (fun _ k => ev_aload_n f13_31 rfl k) ?_
  refine eq_ (fun _ k => ev_sipushN (n := 256) (by decide +kernel) f13_32 k) ?_
  refine eq_na_boolean (by omega) f13_35 (by assumption) (fun hs7 e7 => ?_)
  have l7 := am_apl e7 l6
  have b7 := am_ap e7 b6
  have d7 := am_ap e7 d6
  have f7 := am_ap e7 f6
  have g7 := am_ap e7 g6
  have h7 := am_apn e7 l6
  refine eq_putf f13_37 (by assumption) rfl (Nat.le_of_ble_eq_true rfl) (fun hs8 e8 => ?_)
  have l8 := am_stl e8 l7
  have b8 : hs8[a]? = some (.inr (2, [.ref (a + 1), .ref (a + 2), .ref (a + 3), .ref (a + 4), .null, .int 0])) := am_set e8 b7
  have d8 := (am_set2 e8 (show ¬ a = a + 1 by omega)).trans d7
  have f8 := (am_set2 e8 (show ¬ a = a + 1 + 1 by omega)).trans f7
  have g8 := (am_set2 e8 (show ¬ a = a + 1 + 1 + 1 by omega)).trans g7
  have h8 := (am_set2 e8 (show ¬ a = a + 1 + 1 + 1 + 1 by omega)).trans h7
  refine eq_ (fun _ k => ev_aload_n f13_40 rfl k) ?_
  refine eq_ (fun _ k => ev_sipushN (n := 256) (by decide +kernel) f13_41 k) ?_
  refine eq_na_boolean (by omega) f13_44 (by assumption) (fun hs9 e9 => ?_)
  have l9 := am_apl e9 l8
  have b9 := am_ap e9 b8
  have d9 := am_ap e9 d8
  have f9 := am_ap e9 f8
  have g9 := am_ap e9 g8
  have h9 := am_ap e9 h8
  have i9 := am_apn e9 l8
  refine eq_putf f13_46 (by assumption) rfl (Nat.le_of_ble_eq_true rfl) (fun hsA eA => ?_)
  have lA := am_stl eA l9
  have bA : hsA[a]? = some (.inr (2, [.ref (a + 1), .ref (a + 2), .ref (a + 3), .ref (a + 4), .ref (a + 5), .int 0])) := am_set eA b9
  have dA := (am_set2 eA (show ¬ a = a + 1 by omega)).trans d9
  have fA := (am_set2 eA (show ¬ a = a + 1 + 1 by omega)).trans f9
  have gA := (am_set2 eA (show ¬ a = a + 1 + 1 + 1 by omega)).trans g9
  have hA := (am_set2 eA (show ¬ a = a + 1 + 1 + 1 + 1 by omega)).trans h9
  have iA := (am_set2 eA (show ¬ a = a + 1 + 1 + 1 + 1 + 1 by omega)).trans i9
  refine eq_ (fun _ k => ev_aload_n f13_49 rfl k) ?_
  refine eq_ (fun _ k => ev_iconstN (n := 3) f13_50 k) ?_
  refine eq_putf f13_51 (by assumption) rfl (Nat.le_of_ble_eq_true rfl) (fun hsB eB => ?_)
  have lB := am_stl eB lA
  have bB : hsB[a]? = some (.inr (2, [.ref (a + 1), .ref (a + 2), .ref (a + 3), .ref (a + 4), .ref (a + 5), .int (nI 3)])) := am_set eB bA
  have dB := (am_set2 eB (show ¬ a = a + 1 by omega)).trans dA
  have fB := (am_set2 eB (show ¬ a = a + 1 + 1 by omega)).trans fA
  have gB := (am_set2 eB (show ¬ a = a + 1 + 1 + 1 by omega)).trans gA
  have hB := (am_set2 eB (show ¬ a = a + 1 + 1 + 1 + 1 by omega)).trans hA
  have iB := (am_set2 eB (show ¬ a = a + 1 + 1 + 1 + 1 + 1 by omega)).trans iA
  refine ⟨_, ev_vret f13_54 rfl, ?_⟩
  refine ⟨hsB, rfl, lB, ((((mo_ap e1).tr (mo_set e2)).tr ((mo_ap e3).tr (mo_set e4))).tr (((mo_ap e5).tr (mo_set e6)).tr ((mo_ap e7).tr (mo_set e8)))).tr (((mo_ap e9).tr (mo_set eA)).tr (mo_set eB)), T00, ?_, T00_lay, by rw [EE_0]; omega, fun _ _ => rfl⟩
  exact ⟨h0, by omega, by omega, bB, dB, fB, gB, hB, iB, fun _ => (show 0 < 4096 by omega), fun _ => (show 0 ≤ 7 by omega)⟩
end KO
