/-! endInLine, fill; rows laid by wip/whole/walk.py -/
/-- where the fingerprints below k end, from o on, in a line -/
def elN (q o : Nat) (g : Nat → Nat) : Nat → Nat
  | 0 => o
  | k + 1 => if g k = 0 then elN q o g k else max (elN q o g k) (k / 2 ^ (12 - q)) + enN (g k)
def EE (g : Nat → Nat) : Nat → Nat := smN (fun j => enN (g j))
theorem EE_s (g : Nat → Nat) (k : Nat) : EE g (k + 1) = EE g k + enN (g k) := rfl
theorem EE_mono (g : Nat → Nat) {a b : Nat} (h : a ≤ b) : EE g a ≤ EE g b := by
  induction h with
  | refl => exact Nat.le_refl _
  | step _ ih => exact Nat.le_trans ih (Nat.le_add_right _ _)
theorem elN_le {q o : Nat} {g : Nat → Nat} (h3 : 3 ≤ q) (h8 : q ≤ 8) : ∀ k, k ≤ 4096 → elN q o g k ≤ max o (2 ^ q) + EE g k
  | 0, _ => by show o ≤ max o (2 ^ q) + 0; omega
  | k + 1, hk => by
    have h1 := elN_le h3 h8 (o := o) (g := g) k (by omega)
    have h2 := am_quo h3 h8 (show k < 4096 by omega)
    rw [EE_s]
    unfold elN
    split <;> omega
theorem l34 {hs : amH} {p q b : Nat} {T : amTab} {g F C : Nat → Nat} {z : Nat} (t : TabAt hs p q T) (h : BagC hs b F C z) (hi : BagIs g F C z) (hE : EE g 4096 ≤ 65536) : ∀ (d k : Nat), k + d = 4096 → Ev 34 4 [some (.ref p), some (.ref b), some (.int (nI (elN q 0 g k))), some (.int (nI (nzN g k)))] [] hs 0 0 (.inl (some (.int (nI (elN q 0 g 4096)))), hs, 0, 0) := by
  have t9 := t
  obtain ⟨h0, h3, h8, x0, x1, x2, x3, x4, x5, y1, y2⟩ := t
  obtain ⟨p1, p2⟩ := am_pow h3 h8
  obtain ⟨b0, z5, a0, a1, a2⟩ := h
  obtain ⟨hz0, hg, hF⟩ := hi
  intro d
  induction d with
  | zero =>
    intro k hk
    have hk2 : k = 4096 := by omega
    subst hk2
    refine ev_iload_n f34_4 rfl ?_
    refine ev_aload_n f34_5 rfl ?_
    refine ev_getf f34_6 (by assumption) rfl ?_
    refine ev_icN (by omega) (by omega) (tgt := 43) f34_9 rfl (fun _ => ?_) (fun h9 => absurd (by simp only [akN] at *; omega) h9)
    refine ev_iload_n f34_43 rfl ?_
    exact ev_iret f34_44 (rI rfl _) rfl
  | succ d ih =>
    intro k hk
    have hi := ih (k + 1) (by omega)
    by_cases y0 : g k = 0
    · rw [nzN_zero y0, show elN q 0 g (k + 1) = elN q 0 g k from if_pos y0] at hi
      exact hi
    · have n1 := nzN_lt (n := 4096) (show k < 4096 by omega) (show 0 < g k by omega)
      obtain ⟨e1, e2⟩ := hF k (by omega) (by omega)
      have n2 := hg k
      have n3 := elN_le (o := 0) (g := g) h3 h8 k (by omega)
      have n4 := EE_mono g (show k ≤ 4096 by omega)
      have n5 := am_quo h3 h8 (show k < 4096 by omega)
      have k17 : Cr 17 [.ref p, .int (nI (F (nzN g k)))] hs (some (.int (nI (k / 2 ^ (12 - q))))) hs := by
        rw [e1]
        exact c17 t9 (by omega)
      rw [nzN_pos (by omega), show elN q 0 g (k + 1) = max (elN q 0 g k) (k / 2 ^ (12 - q)) + enN (C (nzN g k)) by rw [e2]; exact if_neg y0] at hi
      refine ev_iload_n f34_4 rfl ?_
      refine ev_aload_n f34_5 rfl ?_
      refine ev_getf f34_6 (by assumption) rfl ?_
      refine ev_icN (by omega) (by omega) (tgt := 43) f34_9 rfl (fun h9 => absurd h9 (by simp only [akN] at *; omega)) (fun _ => ?_)
      refine ev_iload_n f34_12 rfl ?_
      refine ev_aload_n f34_13 rfl ?_
      refine ev_aload_n f34_14 rfl ?_
      refine ev_getf f34_15 (by assumption) rfl ?_
      refine ev_iload_n f34_18 rfl ?_
      refine ev_iald f34_19 (by assumption) (by omega) (by omega) ?_
      refine ev_v1 f34_20 ow17 (by assumption) rfl (Nat.le_of_ble_eq_true rfl) (k17) ?_
      refine ev_maxN (by omega) (by omega) f34_23 (Nat.le_of_ble_eq_true rfl) ?_
      refine ev_aload_n f34_26 rfl ?_
      refine ev_getf f34_27 (by assumption) rfl ?_
      refine ev_iload_n f34_30 rfl ?_
      refine ev_iald f34_31 (by assumption) (by omega) (by omega) ?_
      refine ev_s1 f34_32 (by decide) ow73 rfl (Nat.le_of_ble_eq_true rfl) (c73 (by omega)) ?_
      first | refine ev_iaddN f34_35 ?_ | refine ev_iadd f34_35 ?_
      refine ev_istore_n f34_36 ?_
      refine ev_iincN f34_37 rfl ?_
      refine ev_goto (tgt := 4) f34_40 rfl ?_
      exact hi
theorem c34 {hs : amH} {p q b : Nat} {T : amTab} {g : Nat → Nat} (t : TabAt hs p q T) (h : BagAt hs b g) (hE : EE g 4096 ≤ 65536) : Cr 34 [.ref p, .ref b] hs (some (.int (nI (elN q 0 g 4096)))) hs := by
  obtain ⟨F, C, z, h1, h2⟩ := h
  refine cr_mk ow34 (Nat.le_of_ble_eq_true rfl) ?_
  refine ev_iconstN (n := 0) f34_0 ?_
  refine ev_istore_n f34_1 ?_
  refine ev_iconstN (n := 0) f34_2 ?_
  refine ev_istore_n f34_3 ?_
  exact l34 t h1 h2 hE 4096 0 rfl
/-- the table, filled with the fingerprints below k from o on -/
def fiT (q o : Nat) (g : Nat → Nat) (T : amTab) : Nat → amTab
  | 0 => T
  | k + 1 => if g k = 0 then fiT q o g T k else weF q k (enN (g k)) (max (elN q o g k) (k / 2 ^ (12 - q))) (g k) (fiT q o g T k)
theorem l33 {p q b o : Nat} {T0 : amTab} {g F C : Nat → Nat} {z : Nat} (hi : BagIs g F C z) (hE : EE g 4096 ≤ 65536) (ho : o < 2 ^ 20) (v1 : Int32) (hd : b + 3 ≤ p ∨ p + 6 ≤ b) : ∀ (d k : Nat) (hs : amH), k + d = 4096 → TabAt hs p q (fiT q o g T0 k) → BagC hs b F C z → EvQ 33 27 [some (.ref p), some (.int v1), some (.ref b), some (.int (nI (elN q o g k))), some (.int (nI (nzN g k)))] [] hs 0 0 (Rt none (fun hs' => TabAt hs' p q (fiT q o g T0 4096) ∧ Fr hs hs' p (p + 6))) := by
  obtain ⟨hz0, hg, hF⟩ := hi
  intro d
  induction d with
  | zero =>
    intro k hs hk t h
    have hk2 : k = 4096 := by omega
    subst hk2
    obtain ⟨b0, z5, a0, a1, a2⟩ := h
    refine eq_ (fun _ k => ev_iload f33_27 rfl k) ?_
    refine eq_ (fun _ k => ev_aload_n f33_29 rfl k) ?_
    refine eq_ (fun _ k => ev_getf f33_30 (by assumption) rfl k) ?_
    refine eq_icN (by omega) (by omega) (tgt := 90) f33_33 rfl (fun _ => ?_) (fun h9 => absurd (by simp only [akN] at *; omega) h9)
    refine ⟨_, ev_vret f33_90 rfl, ?_⟩
    exact ⟨_, rfl, t, Fr.refl⟩
  | succ d ih =>
    intro k hs hk t h
    have hi := ih (k + 1)
    have t9 := t
    have h9 := h
    by_cases y0 : g k = 0
    · rw [nzN_zero y0, show elN q o g (k + 1) = elN q o g k from if_pos y0, show fiT q o g T0 (k + 1) = fiT q o g T0 k from if_pos y0] at hi
      exact hi hs (by omega) t h
    · obtain ⟨h0, h3, h8, x0, x1, x2, x3, x4, x5, y1, y2⟩ := t
      obtain ⟨p1, p2⟩ := am_pow h3 h8
      obtain ⟨b0, z5, a0, a1, a2⟩ := h
      have n1 := nzN_lt (n := 4096) (show k < 4096 by omega) (show 0 < g k by omega)
      obtain ⟨e1, e2⟩ := hF k (by omega) (by omega)
      have n2 := hg k
      have n3 := elN_le (o := o) (g := g) h3 h8 k (by omega)
      have n4 := EE_mono g (show k + 1 ≤ 4096 by omega)
      rw [EE_s] at n4
      have n5 := am_quo h3 h8 (show k < 4096 by omega)
      have k17 : Cr 17 [.ref p, .int (nI (F (nzN g k)))] hs (some (.int (nI (k / 2 ^ (12 - q))))) hs := by
        rw [e1]
        exact c17 t9 (by omega)
      rw [nzN_pos (by omega), show elN q o g (k + 1) = max (elN q o g k) (k / 2 ^ (12 - q)) + enN (C (nzN g k)) by rw [e2]; exact if_neg y0] at hi
      obtain ⟨hs1, k1, k2, k3⟩ := c35 (a := max (elN q o g k) (k / 2 ^ (12 - q))) (c := C (nzN g k)) t9 (show F (nzN g k) < 4096 by omega) (by omega) (by omega) (by rw [e2]; omega)
      rw [e2, e1, ← show fiT q o g T0 (k + 1) = weF q k (enN (g k)) (max (elN q o g k) (k / 2 ^ (12 - q))) (g k) (fiT q o g T0 k) from if_neg y0] at k2
      have h8' := h9.fr k3 (by omega)
      have hh := h8'
      obtain ⟨_, _, b6, b7, b8⟩ := hh
      refine eq_ (fun _ k => ev_iload f33_27 rfl k) ?_
      refine eq_ (fun _ k => ev_aload_n f33_29 rfl k) ?_
      refine eq_ (fun _ k => ev_getf f33_30 (by assumption) rfl k) ?_
      refine eq_icN (by omega) (by omega) (tgt := 90) f33_33 rfl (fun h9 => absurd h9 (by simp only [akN] at *; omega)) (fun _ => ?_)
      refine eq_ (fun _ k => ev_iload_n f33_36 rfl k) ?_
      refine eq_ (fun _ k => ev_aload_n f33_37 rfl k) ?_
      refine eq_ (fun _ k => ev_aload_n f33_38 rfl k) ?_
      refine eq_ (fun _ k => ev_getf f33_39 (by assumption) rfl k) ?_
      refine eq_ (fun _ k => ev_iload f33_42 rfl k) ?_
      refine eq_ (fun _ k => ev_iald f33_44 (by assumption) (by omega) (by omega) k) ?_
      refine eq_ (fun _ k => ev_v1 f33_45 ow17 (by assumption) rfl (Nat.le_of_ble_eq_true rfl) (k17) k) ?_
      refine eq_ (fun _ k => ev_maxN (by omega) (by omega) f33_48 (Nat.le_of_ble_eq_true rfl) k) ?_
      refine eq_ (fun _ k => ev_istore_n f33_51 k) ?_
      refine eq_ (fun _ k => ev_aload_n f33_52 rfl k) ?_
      refine eq_ (fun _ k => ev_iload_n f33_53 rfl k) ?_
      refine eq_ (fun _ k => ev_aload_n f33_54 rfl k) ?_
      refine eq_ (fun _ k => ev_getf f33_55 (by assumption) rfl k) ?_
      refine eq_ (fun _ k => ev_iload f33_58 rfl k) ?_
      refine eq_ (fun _ k => ev_iald f33_60 (by assumption) (by omega) (by omega) k) ?_
      refine eq_ (fun _ k => ev_aload_n f33_61 rfl k) ?_
      refine eq_ (fun _ k => ev_getf f33_62 (by assumption) rfl k) ?_
      refine eq_ (fun _ k => ev_iload f33_65 rfl k) ?_
      refine eq_ (fun _ k => ev_iald f33_67 (by assumption) (by omega) (by omega) k) ?_
      refine eq_ (fun _ k => ev_v3 f33_68 ow35 (by assumption) rfl rfl rfl (Nat.le_of_ble_eq_true rfl) (k1) k) ?_
      refine eq_ (fun _ k => ev_iload_n f33_71 rfl k) ?_
      refine eq_ (fun _ k => ev_aload_n f33_72 rfl k) ?_
      refine eq_ (fun _ k => ev_getf f33_73 (by assumption) rfl k) ?_
      refine eq_ (fun _ k => ev_iload f33_76 rfl k) ?_
      refine eq_ (fun _ k => ev_iald f33_78 (by assumption) (by omega) (by omega) k) ?_
      refine eq_ (fun _ k => ev_s1 f33_79 (by decide) ow73 rfl (Nat.le_of_ble_eq_true rfl) (c73 (by omega)) k) ?_
      first | refine eq_ (fun _ k => ev_iaddN f33_82 k) ?_ | refine eq_ (fun _ k => ev_iadd f33_82 k) ?_
      refine eq_ (fun _ k => ev_istore_n f33_83 k) ?_
      refine eq_ (fun _ k => ev_iincN f33_84 rfl k) ?_
      refine eq_ (fun _ k => ev_goto (tgt := 27) f33_87 rfl k) ?_
      exact (hi hs1 (by omega) k2 h8').fr k3
theorem am_max0 {a b : Nat} (ha : a < 2 ^ 30) (hb : b < 2 ^ 30) : (if nI 0 < nI a - nI b then nI a - nI b else nI 0) = nI (a - b) := by
  by_cases h : b < a
  · rw [pk_sub (by omega), if_pos ((nI_ltI (by omega) (by omega)).mpr (by omega))]
  · rw [if_neg, show a - b = 0 by omega]
    intro h1
    have h2 : (nI 0).toInt < (nI a - nI b).toInt := Int32.lt_iff_toInt_lt.mp h1
    rw [pk_sub_toInt ha hb, nI_toInt (by omega)] at h2
    omega
theorem c33 {hs : amH} {p q q2 b : Nat} {T : amTab} {g : Nat → Nat} (t : TabAt hs p q T) (h : BagAt hs b g) (h3 : 3 ≤ q2) (h8 : q2 ≤ 8) (hE : EE g 4096 ≤ 65536) (hd : b + 3 ≤ p ∨ p + 6 ≤ b) : CrQ 33 [.ref p, .int (nI q2), .ref b] hs none (fun hs' => TabAt hs' p q2 (fiT q2 (elN q2 0 g 4096 - 2 ^ q2) g (wpT T 256) 4096) ∧ Fr hs hs' p (p + 6)) := by
  obtain ⟨p1, p2⟩ := am_pow h3 h8
  have n1 := elN_le (o := 0) (g := g) h3 h8 4096 (Nat.le_refl _)
  obtain ⟨hs1, k1, k2, k3⟩ := c32 t
  obtain ⟨F, C, z, q1, i1⟩ := h
  have r1 := q1.fr k3 (by omega)
  obtain ⟨t0, -, -, x0, -⟩ := t
  obtain ⟨-, -, -, y0, y1, y2, y3, y4, y5, y6, y7⟩ := k2
  refine crq_mk ow33 (Nat.le_of_ble_eq_true rfl) ?_
  refine eq_ (fun _ k => ev_aload_n f33_0 rfl k) ?_
  refine eq_ (fun _ k => ev_v0 f33_1 ow32 (by assumption) (Nat.le_of_ble_eq_true rfl) (k1) k) ?_
  refine eq_ (fun _ k => ev_aload_n f33_4 rfl k) ?_
  refine eq_ (fun _ k => ev_iload_n f33_5 rfl k) ?_
  refine eq_putf f33_6 (by assumption) rfl (Nat.le_of_ble_eq_true rfl) (fun hs2 e2 => ?_)
  have f2 : Fr hs1 hs2 p (p + 6) := Fr.st e2 (by omega) (by omega)
  have t2 : TabAt hs2 p q2 (wpT T 256) := ⟨t0, h3, h8, am_set e2 y0, (am_set2 e2 (by omega)).trans y1, (am_set2 e2 (by omega)).trans y2, (am_set2 e2 (by omega)).trans y3, (am_set2 e2 (by omega)).trans y4, (am_set2 e2 (by omega)).trans y5, y6, y7⟩
  have r2 := r1.fr f2 (by omega)
  have c34' := c34 t2 ⟨F, C, z, r2, i1⟩ hE
  have c14' := c14 t2
  have l := l33 i1 hE (show elN q2 0 g 4096 - 2 ^ q2 < 2 ^ 20 by omega) (nI q2) hd 4096 0 hs2 rfl t2 r2
  clear y0 y1 y2 y3 y4 y5
  obtain ⟨-, -, -, y0, -⟩ := t2
  refine eq_ (fun _ k => ev_iconstN (n := 0) f33_9 k) ?_
  refine eq_ (fun _ k => ev_aload_n f33_10 rfl k) ?_
  refine eq_ (fun _ k => ev_aload_n f33_11 rfl k) ?_
  refine eq_ (fun _ k => ev_v1 f33_12 ow34 (by assumption) rfl (Nat.le_of_ble_eq_true rfl) (c34') k) ?_
  refine eq_ (fun _ k => ev_aload_n f33_15 rfl k) ?_
  refine eq_ (fun _ k => ev_v0 f33_16 ow14 (by assumption) (Nat.le_of_ble_eq_true rfl) (c14') k) ?_
  refine eq_ (fun _ k => ev_isub f33_19 k) ?_
  refine eq_ (fun _ k => ev_max f33_20 (Nat.le_of_ble_eq_true rfl) k) ?_
  rw [am_max0 (by omega) (by omega)]
  refine eq_ (fun _ k => ev_istore_n f33_23 k) ?_
  refine eq_ (fun _ k => ev_iconstN (n := 0) f33_24 k) ?_
  refine eq_ (fun _ k => ev_istore f33_25 k) ?_
  exact l.fr (k3.tr f2)
