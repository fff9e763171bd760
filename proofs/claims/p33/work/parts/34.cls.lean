/-! the class's checks; rows laid by wip/whole/walk.py -/
section XT
variable {M pc len : Nat} {ls : amL} {st : List Value} {hs : amH} {c s : Nat} {o : amOut} {x : amRes}
theorem ev_vt1 {k tg own mL a dc ds E : Nat} {v1 : Value} {rest fs : List Value} {hs' : amH} (hf : amFetch M pc = some (.invokevirtual k, len, (0, tg, 1))) (ho : amOwnL tg = some (own, mL)) (hcell : hs[a]? = some (.inr (own, fs))) (h1 : v1.category = 1) (hsum : amSum rest ≤ 8) (hc : Ca tg [.ref a, v1] hs (.inr E, hs', dc, ds)) (hh : amHand M pc E = none) (he : o = (.inr E, hs', c + dc, s + ds)) : Ev M pc ls (v1 :: .ref a :: rest) hs c s o :=
  ev_vt [v1] hf ho rfl rfl hcell (List.forall_mem_cons.mpr ⟨h1, fun v hv => absurd hv List.not_mem_nil⟩) hsum hc hh he
theorem ev_vt2 {k tg own mL a dc ds E : Nat} {v1 v2 : Value} {rest fs : List Value} {hs' : amH} (hf : amFetch M pc = some (.invokevirtual k, len, (0, tg, 2))) (ho : amOwnL tg = some (own, mL)) (hcell : hs[a]? = some (.inr (own, fs))) (h1 : v1.category = 1) (h2 : v2.category = 1) (hsum : amSum rest ≤ 8) (hc : Ca tg [.ref a, v1, v2] hs (.inr E, hs', dc, ds)) (hh : amHand M pc E = none) (he : o = (.inr E, hs', c + dc, s + ds)) : Ev M pc ls (v2 :: v1 :: .ref a :: rest) hs c s o :=
  ev_vt [v1, v2] hf ho rfl rfl hcell (List.forall_mem_cons.mpr ⟨h1, List.forall_mem_cons.mpr ⟨h2, fun v hv => absurd hv List.not_mem_nil⟩⟩) hsum hc hh he
theorem ev_vt3 {k tg own mL a dc ds E : Nat} {v1 v2 v3 : Value} {rest fs : List Value} {hs' : amH} (hf : amFetch M pc = some (.invokevirtual k, len, (0, tg, 3))) (ho : amOwnL tg = some (own, mL)) (hcell : hs[a]? = some (.inr (own, fs))) (h1 : v1.category = 1) (h2 : v2.category = 1) (h3 : v3.category = 1) (hsum : amSum rest ≤ 8) (hc : Ca tg [.ref a, v1, v2, v3] hs (.inr E, hs', dc, ds)) (hh : amHand M pc E = none) (he : o = (.inr E, hs', c + dc, s + ds)) : Ev M pc ls (v3 :: v2 :: v1 :: .ref a :: rest) hs c s o :=
  ev_vt [v1, v2, v3] hf ho rfl rfl hcell (List.forall_mem_cons.mpr ⟨h1, List.forall_mem_cons.mpr ⟨h2, List.forall_mem_cons.mpr ⟨h3, fun v hv => absurd hv List.not_mem_nil⟩⟩⟩) hsum hc hh he
theorem ev_st1 {k tg own mL dc ds E : Nat} {v1 : Value} {rest : List Value} {hs' : amH} (hf : amFetch M pc = some (.invokestatic k, len, (1, tg, 1))) (ho : amOwnL tg = some (own, mL)) (h1 : v1.category = 1) (hsum : amSum rest ≤ 8) (hc : Ca tg [v1] hs (.inr E, hs', dc, ds)) (hh : amHand M pc E = none) (he : o = (.inr E, hs', c + dc, s + ds)) : Ev M pc ls (v1 :: rest) hs c s o :=
  ev_st [v1] hf ho rfl rfl (List.forall_mem_cons.mpr ⟨h1, fun v hv => absurd hv List.not_mem_nil⟩) hsum hc hh he
theorem ev_st2 {k tg own mL dc ds E : Nat} {v1 v2 : Value} {rest : List Value} {hs' : amH} (hf : amFetch M pc = some (.invokestatic k, len, (1, tg, 2))) (ho : amOwnL tg = some (own, mL)) (h1 : v1.category = 1) (h2 : v2.category = 1) (hsum : amSum rest ≤ 8) (hc : Ca tg [v1, v2] hs (.inr E, hs', dc, ds)) (hh : amHand M pc E = none) (he : o = (.inr E, hs', c + dc, s + ds)) : Ev M pc ls (v2 :: v1 :: rest) hs c s o :=
  ev_st [v1, v2] hf ho rfl rfl (List.forall_mem_cons.mpr ⟨h1, List.forall_mem_cons.mpr ⟨h2, fun v hv => absurd hv List.not_mem_nil⟩⟩) hsum hc hh he
end XT
/-- a number of 0 to N - 1 -/
def inR (p : Int32) (N : Nat) : Prop := ∃ k, k < N ∧ p = nI k
theorem inR_no {p : Int32} {N : Nat} (hN : N < 2 ^ 31) (h : ¬ inR p N) : p < 0 ∨ ¬ p < nI N := by
  by_cases h1 : p < 0
  · exact Or.inl h1
  · refine Or.inr (fun h2 => h ?_)
    have h3 : 0 ≤ p.toInt := by
      have h5 : ¬ p.toInt < (0 : Int32).toInt := fun q => h1 (Int32.lt_iff_toInt_lt.mpr q)
      rw [show (0 : Int32).toInt = 0 from rfl] at h5
      omega
    have h4 : p.toInt < N := by
      have := Int32.lt_iff_toInt_lt.mp h2
      rw [nI_toInt hN] at this
      exact this
    refine ⟨p.toInt.toNat, by omega, Int32.toInt_inj.mp ?_⟩
    rw [nI_toInt (by omega)]
    omega
/-- the class: at 1, its four tables at 3, 9, 15, 21, its rows behind them -/
def CS (hs : amH) (q : Nat → Nat) (g : Nat → Nat → Nat) : Prop := hs[1]? = some (.inr (3, [.ref 2, .ref 27, .ref 30, .ref 33, .ref 36])) ∧ (∃ TF, hs[2]? = some (.inl (.object (amN 2), 4, .inr (.inr TF))) ∧ ∀ i, i < 4 → TF i = some (3 + 6 * i)) ∧ (∀ i, i < 4 → FilAt hs (3 + 6 * i) (q i) (g i)) ∧ (∃ a, BagAt hs 27 a) ∧ (∃ a, BagAt hs 30 a) ∧ (∃ a, BagAt hs 33 a) ∧ ∃ F X, LisC hs 36 F X
theorem c67 {hs : amH} {q : Nat → Nat} {g : Nat → Nat → Nat} (h : CS hs q g) {f : Nat} (hf : f < 4) : Cr 67 [.ref 1, .int (nI f)] hs (some (.ref (3 + 6 * f))) hs := by
  obtain ⟨a1, ⟨TF, a2, a3⟩, a4⟩ := h
  refine cr_mk ow67 (Nat.le_of_ble_eq_true rfl) ?_
  refine ev_iload_n f67_0 rfl ?_
  refine ev_ifN (by omega) (tgt := 13) f67_1 rfl (fun h9 => absurd h9 (by simp only [akN] at *; omega)) (fun _ => ?_)
  refine ev_iload_n f67_4 rfl ?_
  refine ev_aload_n f67_5 rfl ?_
  refine ev_getf f67_6 (by assumption) rfl ?_
  refine ev_alen f67_9 (by assumption) ?_
  refine ev_icN (by omega) (by omega) (tgt := 23) f67_10 rfl (fun _ => ?_) (fun h9 => absurd (by simp only [akN] at *; omega) h9)
  refine ev_aload_n f67_23 rfl ?_
  refine ev_getf f67_24 (by assumption) rfl ?_
  refine ev_iload_n f67_27 rfl ?_
  refine ev_aald f67_28 (by assumption) (by omega) (by omega) (a3 f hf) ?_
  exact ev_aret f67_29 rfl
theorem c67t {hs : amH} {q : Nat → Nat} {g : Nat → Nat → Nat} (h : CS hs q g) {p : Int32} (hp : ¬ inR p 4) : Ca 67 [.ref 1, .int p] hs (.inr 1, hs, 1, 6) := by
  obtain ⟨a1, ⟨TF, a2, a3⟩, a4⟩ := h
  refine ca_mk ow67 (Nat.le_of_ble_eq_true rfl) ?_
  have h2 := inR_no (by omega) hp
  refine ev_iload_n f67_0 rfl ?_
  refine ev_if (tgt := 13) f67_1 rfl (fun hc => ?_) (fun hc => ?_)
  · exact ev_throw f67_13 (Nat.le_of_ble_eq_true rfl) rfl
  · refine ev_iload_n f67_4 rfl ?_
    refine ev_aload_n f67_5 rfl ?_
    refine ev_getf f67_6 (by assumption) rfl ?_
    refine ev_alen f67_9 (by assumption) ?_
    refine ev_ic (tgt := 23) f67_10 rfl (fun hc => ?_) (fun hc => ?_)
    · exact absurd hc (h2.resolve_left (by assumption))
    · exact ev_throw f67_13 (Nat.le_of_ble_eq_true rfl) rfl
theorem c68 {hs : amH} {p q : Nat} {T : amTab} (t : TabAt hs p q T) {s : Nat} (hs2 : s < 2 ^ q) : Cr 68 [.ref p, .int (nI s)] hs none hs := by
  have t9 := t
  obtain ⟨h0, h3, h8, a0, a1, a2, a3, a4, a5, b1, b2⟩ := t
  obtain ⟨p1, p2⟩ := am_pow h3 h8
  refine cr_mk ow68 (Nat.le_of_ble_eq_true rfl) ?_
  refine ev_iload_n f68_0 rfl ?_
  refine ev_ifN (by omega) (tgt := 12) f68_1 rfl (fun h9 => absurd h9 (by simp only [akN] at *; omega)) (fun _ => ?_)
  refine ev_iload_n f68_4 rfl ?_
  refine ev_aload_n f68_5 rfl ?_
  refine ev_v0 f68_6 ow14 (by assumption) (Nat.le_of_ble_eq_true rfl) (c14 t9) ?_
  refine ev_icN (by omega) (by omega) (tgt := 22) f68_9 rfl (fun _ => ?_) (fun h9 => absurd (by simp only [akN] at *; omega) h9)
  exact ev_vret f68_22 rfl
theorem c68t {hs : amH} {p q : Nat} {T : amTab} (t : TabAt hs p q T) {s : Int32} (hs2 : ¬ inR s (2 ^ q)) : Ca 68 [.ref p, .int s] hs (.inr 1, hs, 1, 6) := by
  have t9 := t
  obtain ⟨h0, h3, h8, a0, a1, a2, a3, a4, a5, b1, b2⟩ := t
  obtain ⟨p1, p2⟩ := am_pow h3 h8
  refine ca_mk ow68 (Nat.le_of_ble_eq_true rfl) ?_
  have h2 := inR_no (by omega) hs2
  refine ev_iload_n f68_0 rfl ?_
  refine ev_if (tgt := 12) f68_1 rfl (fun hc => ?_) (fun hc => ?_)
  · exact ev_throw f68_12 (Nat.le_of_ble_eq_true rfl) rfl
  · refine ev_iload_n f68_4 rfl ?_
    refine ev_aload_n f68_5 rfl ?_
    refine ev_v0 f68_6 ow14 (by assumption) (Nat.le_of_ble_eq_true rfl) (c14 t9) ?_
    refine ev_ic (tgt := 22) f68_9 rfl (fun hc => ?_) (fun hc => ?_)
    · exact absurd hc (h2.resolve_left (by assumption))
    · exact ev_throw f68_12 (Nat.le_of_ble_eq_true rfl) rfl
theorem c69 {hs : amH} {k : Nat} (hk : k < 4096) : Cr 69 [.int (nI k)] hs none hs := by
  refine cr_mk ow69 (Nat.le_of_ble_eq_true rfl) ?_
  refine ev_iload_n f69_0 rfl ?_
  refine ev_ifN (by omega) (tgt := 11) f69_1 rfl (fun h9 => absurd h9 (by simp only [akN] at *; omega)) (fun _ => ?_)
  refine ev_iload_n f69_4 rfl ?_
  refine ev_sipushN (n := 4096) (by decide +kernel) f69_5 ?_
  refine ev_icN (by omega) (by omega) (tgt := 21) f69_8 rfl (fun _ => ?_) (fun h9 => absurd (by simp only [akN] at *; omega) h9)
  exact ev_vret f69_21 rfl
theorem c69t {hs : amH} {p : Int32} (hp : ¬ inR p 4096) : Ca 69 [.int p] hs (.inr 3, hs, 1, 6) := by
  refine ca_mk ow69 (Nat.le_of_ble_eq_true rfl) ?_
  have h2 := inR_no (by omega) hp
  refine ev_iload_n f69_0 rfl ?_
  refine ev_if (tgt := 11) f69_1 rfl (fun hc => ?_) (fun hc => ?_)
  · exact ev_throw f69_11 (Nat.le_of_ble_eq_true rfl) rfl
  · refine ev_iload_n f69_4 rfl ?_
    refine ev_sipushN (n := 4096) (by decide +kernel) f69_5 ?_
    refine ev_ic (tgt := 21) f69_8 rfl (fun hc => ?_) (fun hc => ?_)
    · exact absurd hc (h2.resolve_left (by assumption))
    · exact ev_throw f69_11 (Nat.le_of_ble_eq_true rfl) rfl
/-- 1 to 100 -/
def inT (p : Int32) : Prop := ∃ k, 1 ≤ k ∧ k ≤ 100 ∧ p = nI k
theorem inT_no {p : Int32} (h : ¬ inT p) : p < nI 1 ∨ ¬ p ≤ nI 100 := by
  by_cases h1 : p < nI 1
  · exact Or.inl h1
  · refine Or.inr (fun h2 => h ?_)
    have h3 : 1 ≤ p.toInt := by
      have h5 : ¬ p.toInt < (nI 1).toInt := fun q => h1 (Int32.lt_iff_toInt_lt.mpr q)
      rw [nI_toInt (by omega)] at h5
      omega
    have h4 : p.toInt ≤ 100 := by
      have := Int32.le_iff_toInt_le.mp h2
      rw [nI_toInt (by omega)] at this
      exact this
    refine ⟨p.toInt.toNat, by omega, by omega, Int32.toInt_inj.mp ?_⟩
    rw [nI_toInt (by omega)]
    omega
theorem c70 {hs : amH} {k : Nat} (h1 : 1 ≤ k) (h2 : k ≤ 100) : Cr 70 [.int (nI k)] hs none hs := by
  refine cr_mk ow70 (Nat.le_of_ble_eq_true rfl) ?_
  refine ev_iload_n f70_0 rfl ?_
  refine ev_iconstN (n := 1) f70_1 ?_
  refine ev_icN (by omega) (by omega) (tgt := 11) f70_2 rfl (fun h9 => absurd h9 (by simp only [akN] at *; omega)) (fun _ => ?_)
  refine ev_iload_n f70_5 rfl ?_
  refine ev_bipushN (n := 100) (by omega) f70_6 ?_
  refine ev_icN (by omega) (by omega) (tgt := 21) f70_8 rfl (fun _ => ?_) (fun h9 => absurd (by simp only [akN] at *; omega) h9)
  exact ev_vret f70_21 rfl
theorem c70t {hs : amH} {p : Int32} (hp : ¬ inT p) : Ca 70 [.int p] hs (.inr 3, hs, 1, 6) := by
  refine ca_mk ow70 (Nat.le_of_ble_eq_true rfl) ?_
  have h2 := inT_no hp
  refine ev_iload_n f70_0 rfl ?_
  refine ev_iconstN (n := 1) f70_1 ?_
  refine ev_ic (tgt := 11) f70_2 rfl (fun hc => ?_) (fun hc => ?_)
  · exact ev_throw f70_11 (Nat.le_of_ble_eq_true rfl) rfl
  · refine ev_iload_n f70_5 rfl ?_
    refine ev_bipushN (n := 100) (by omega) f70_6 ?_
    refine ev_ic (tgt := 21) f70_8 rfl (fun hc => ?_) (fun hc => ?_)
    · exact absurd hc (h2.resolve_left (by assumption))
    · exact ev_throw f70_11 (Nat.le_of_ble_eq_true rfl) rfl
theorem am_shl7 : ∀ q, q ≤ 20 → nI 7 <<< (nI q &&& 31) = nI (7 * 2 ^ q) := by decide +kernel
theorem am_shr3 : ∀ q, q ≤ 8 → 3 ≤ q → nI (7 * 2 ^ q) >>> (nI 3 &&& 31) = nI (7 * 2 ^ q / 8) := by decide +kernel
theorem c72 {hs : amH} {q : Nat} (h3 : 3 ≤ q) (h8 : q ≤ 8) : Cr 72 [.int (nI q)] hs (some (.int (nI (7 * 2 ^ q / 8)))) hs := by
  refine cr_mk ow72 (Nat.le_of_ble_eq_true rfl) ?_
  refine ev_bipushN (n := 7) (by omega) f72_0 ?_
  refine ev_iload_n f72_2 rfl ?_
  refine ev_ishl f72_3 ?_
  rw [am_shl7 q (by omega)]
  refine ev_iconstN (n := 3) f72_4 ?_
  refine ev_ishr f72_5 ?_
  rw [am_shr3 q h8 h3]
  exact ev_iret f72_6 (rI rfl _) rfl
theorem c71 {hs : amH} {b q : Nat} {g : Nat → Nat} (h : BagAt hs b g) (h3 : 3 ≤ q) (h8 : q ≤ 8) (hE : EE g 4096 * 8 ≤ 7 * 2 ^ q) : Cr 71 [.ref b, .int (nI q)] hs none hs := by
  obtain ⟨fs, ob⟩ := h.obj
  obtain ⟨p1, p2⟩ := am_pow h3 h8
  have k8 : Cr 8 [.ref b] hs (some (.int (nI (EE g 4096)))) hs := c8 h
  refine cr_mk ow71 (Nat.le_of_ble_eq_true rfl) ?_
  refine ev_aload_n f71_0 rfl ?_
  refine ev_v0 f71_1 ow8 (by assumption) (Nat.le_of_ble_eq_true rfl) (k8) ?_
  refine ev_iload_n f71_4 rfl ?_
  refine ev_s1 f71_5 (by decide) ow72 rfl (Nat.le_of_ble_eq_true rfl) (c72 h3 h8) ?_
  refine ev_icN (by omega) (by omega) (tgt := 21) f71_8 rfl (fun _ => ?_) (fun h9 => absurd (by simp only [akN] at *; omega) h9)
  exact ev_vret f71_21 rfl
theorem c71t {hs : amH} {b q : Nat} {g : Nat → Nat} (h : BagAt hs b g) (h3 : 3 ≤ q) (h8 : q ≤ 8) (hB : EE g 4096 ≤ 65536) (hE : ¬ EE g 4096 * 8 ≤ 7 * 2 ^ q) : Ca 71 [.ref b, .int (nI q)] hs (.inr 2, hs, 1, 6) := by
  obtain ⟨fs, ob⟩ := h.obj
  obtain ⟨p1, p2⟩ := am_pow h3 h8
  have k8 : Cr 8 [.ref b] hs (some (.int (nI (EE g 4096)))) hs := c8 h
  refine ca_mk ow71 (Nat.le_of_ble_eq_true rfl) ?_
  refine ev_aload_n f71_0 rfl ?_
  refine ev_v0 f71_1 ow8 (by assumption) (Nat.le_of_ble_eq_true rfl) (k8) ?_
  refine ev_iload_n f71_4 rfl ?_
  refine ev_s1 f71_5 (by decide) ow72 rfl (Nat.le_of_ble_eq_true rfl) (c72 h3 h8) ?_
  refine ev_icN (by omega) (by omega) (tgt := 21) f71_8 rfl (fun h9 => absurd h9 (by simp only [akN] at *; omega)) (fun _ => ?_)
  exact ev_throw f71_11 (Nat.le_of_ble_eq_true rfl) rfl
