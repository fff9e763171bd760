/-! the model's places; rows laid by wip/whole/walk.py -/
def MSx (hs : amH) (q : Nat → Nat) (g : Nat → Nat → Nat) (l : Nat) (A B C D E : Nat → Nat) : Prop := hs[39]? = some (.inr (4, [.ref 40, .ref 41, .ref 42, .ref 43, .ref 44, .ref 45, .ref 46, .int (nI l)])) ∧ hs[40]? = some (.inl (.int, 16384, .inl (fun j => nI (cnt16 g j)))) ∧ hs[41]? = some (.inl (.int, 4, .inl (fun j => nI (q j)))) ∧ hs[42]? = some (.inl (.int, 256, .inl (fun j => nI (A j)))) ∧ hs[43]? = some (.inl (.int, 256, .inl (fun j => nI (B j)))) ∧ hs[44]? = some (.inl (.int, 256, .inl (fun j => nI (C j)))) ∧ hs[45]? = some (.inl (.int, 256, .inl (fun j => nI (D j)))) ∧ hs[46]? = some (.inl (.int, 256, .inl (fun j => nI (E j))))
section MX
variable {hs hs1 : amH} {q : Nat → Nat} {g : Nat → Nat → Nat} {l : Nat} {A B C D E : Nat → Nat}
theorem MS.x (h : MS hs q g l) : ∃ A B C D E, MSx hs q g l A B C D E := by
  obtain ⟨a, b, c, ⟨A, d⟩, ⟨B, e1⟩, ⟨C, e2⟩, ⟨D, e3⟩, E, e4⟩ := h
  exact ⟨A, B, C, D, E, a, b, c, d, e1, e2, e3, e4⟩
theorem MSx.ms (h : MSx hs q g l A B C D E) : MS hs q g l := by
  obtain ⟨a, b, c, d, e1, e2, e3, e4⟩ := h
  exact ⟨a, b, c, ⟨A, d⟩, ⟨B, e1⟩, ⟨C, e2⟩, ⟨D, e3⟩, E, e4⟩
theorem MSx.s42 {k v : Nat} (h : MSx hs q g l A B C D E) (e : hs1 = hs.set 42 (.inl (.int, 256, .inl (upd (fun j => nI (A j)) k (nI v))))) : MSx hs1 q g l (updN A k v) B C D E := by
  obtain ⟨a, b, c, d, e1, e2, e3, e4⟩ := h
  have x := am_set e d
  rw [upd_N] at x
  exact ⟨(am_set2 e (by omega)).trans a, (am_set2 e (by omega)).trans b, (am_set2 e (by omega)).trans c, x, (am_set2 e (by omega)).trans e1, (am_set2 e (by omega)).trans e2, (am_set2 e (by omega)).trans e3, (am_set2 e (by omega)).trans e4⟩
theorem MSx.s43 {k v : Nat} (h : MSx hs q g l A B C D E) (e : hs1 = hs.set 43 (.inl (.int, 256, .inl (upd (fun j => nI (B j)) k (nI v))))) : MSx hs1 q g l A (updN B k v) C D E := by
  obtain ⟨a, b, c, d, e1, e2, e3, e4⟩ := h
  have x := am_set e e1
  rw [upd_N] at x
  exact ⟨(am_set2 e (by omega)).trans a, (am_set2 e (by omega)).trans b, (am_set2 e (by omega)).trans c, (am_set2 e (by omega)).trans d, x, (am_set2 e (by omega)).trans e2, (am_set2 e (by omega)).trans e3, (am_set2 e (by omega)).trans e4⟩
theorem MSx.s44 {k v : Nat} (h : MSx hs q g l A B C D E) (e : hs1 = hs.set 44 (.inl (.int, 256, .inl (upd (fun j => nI (C j)) k (nI v))))) : MSx hs1 q g l A B (updN C k v) D E := by
  obtain ⟨a, b, c, d, e1, e2, e3, e4⟩ := h
  have x := am_set e e2
  rw [upd_N] at x
  exact ⟨(am_set2 e (by omega)).trans a, (am_set2 e (by omega)).trans b, (am_set2 e (by omega)).trans c, (am_set2 e (by omega)).trans d, (am_set2 e (by omega)).trans e1, x, (am_set2 e (by omega)).trans e3, (am_set2 e (by omega)).trans e4⟩
theorem MSx.s45 {k v : Nat} (h : MSx hs q g l A B C D E) (e : hs1 = hs.set 45 (.inl (.int, 256, .inl (upd (fun j => nI (D j)) k (nI v))))) : MSx hs1 q g l A B C (updN D k v) E := by
  obtain ⟨a, b, c, d, e1, e2, e3, e4⟩ := h
  have x := am_set e e3
  rw [upd_N] at x
  exact ⟨(am_set2 e (by omega)).trans a, (am_set2 e (by omega)).trans b, (am_set2 e (by omega)).trans c, (am_set2 e (by omega)).trans d, (am_set2 e (by omega)).trans e1, (am_set2 e (by omega)).trans e2, x, (am_set2 e (by omega)).trans e4⟩
theorem MSx.s46 {k v : Nat} (h : MSx hs q g l A B C D E) (e : hs1 = hs.set 46 (.inl (.int, 256, .inl (upd (fun j => nI (E j)) k (nI v))))) : MSx hs1 q g l A B C D (updN E k v) := by
  obtain ⟨a, b, c, d, e1, e2, e3, e4⟩ := h
  have x := am_set e e4
  rw [upd_N] at x
  exact ⟨(am_set2 e (by omega)).trans a, (am_set2 e (by omega)).trans b, (am_set2 e (by omega)).trans c, (am_set2 e (by omega)).trans d, (am_set2 e (by omega)).trans e1, (am_set2 e (by omega)).trans e2, (am_set2 e (by omega)).trans e3, x⟩
theorem pl_le {m : Nat} {g : Nat → Nat} {o : Nat} : ∀ t, plN m g o t ≤ o + t + EE g (t * m)
  | 0 => Nat.le_add_right _ _
  | t + 1 => by
    have h := pl_le (m := m) (g := g) (o := o) t
    have h2 := ln_s (m := m) (g := g) t
    show max (plN m g o t + lnN m g t) (t + 1) ≤ _
    omega
variable {n m : Nat} {g1 : Nat → Nat}
theorem l88 {o : Nat} (hn : n ≤ 256) (ho : o ≤ 65536) (hB : ∀ t, EE g1 (t * m) ≤ 65536) (hC : ∀ t, t < n → C t = lnN m g1 t) (v2 v3 : Int32) {Q : amOut → Prop} {hs0 : amH} (hfin : ∀ (hs : amH) (en : Nat) (D : Nat → Nat), MSx hs q g l A B C D E → Fr hs0 hs 39 47 → max en n = plN m g1 o n → (∀ t, t < n → 0 < lnN m g1 t → D t = plN m g1 o t) → EvQ 88 75 [some (.ref 39), some (.int (nI n)), some (.int v2), some (.int v3), some (.int (nI en)), some (.int (nI n))] [] hs 0 0 Q) : ∀ (d k en : Nat) (hs : amH) (D : Nat → Nat), k + d = n → MSx hs q g l A B C D E → Fr hs0 hs 39 47 → max en k = plN m g1 o k → (∀ t, t < k → 0 < lnN m g1 t → D t = plN m g1 o t) → EvQ 88 15 [some (.ref 39), some (.int (nI n)), some (.int v2), some (.int v3), some (.int (nI en)), some (.int (nI k))] [] hs 0 0 Q := by
  intro d
  induction d with
  | zero =>
    intro k en hs D hk h fr he hD
    have hk2 : k = n := by omega
    subst hk2
    refine eq_ (fun _ k => ev_iload f88_15 rfl k) ?_
    refine eq_ (fun _ k => ev_iload_n f88_17 rfl k) ?_
    refine eq_icN (by omega) (by omega) (tgt := 75) f88_18 rfl (fun _ => ?_) (fun h9 => absurd (by simp only [akN] at *; omega) h9)
    exact hfin hs en D h fr he hD
  | succ d ih =>
    intro k en hs D hk h fr he hD
    have h9 := h
    obtain ⟨a, b, c, d1, e1, e2, e3, e4⟩ := h
    have hc := hC k (by omega)
    have hB1 := hB (k + 1)
    have hs1 := ln_s (m := m) (g := g1) k
    have hpl := pl_le (m := m) (g := g1) (o := o) k
    have hsucc : plN m g1 o (k + 1) = max (plN m g1 o k + lnN m g1 k) (k + 1) := rfl
    by_cases h0 : lnN m g1 k = 0
    · rw [h0] at hc
      refine eq_ (fun _ k => ev_iload f88_15 rfl k) ?_
      refine eq_ (fun _ k => ev_iload_n f88_17 rfl k) ?_
      refine eq_icN (by omega) (by omega) (tgt := 75) f88_18 rfl (fun h9 => absurd h9 (by simp only [akN] at *; omega)) (fun _ => ?_)
      refine eq_ (fun _ k => ev_aload_n f88_21 rfl k) ?_
      refine eq_ (fun _ k => ev_getf f88_22 (by assumption) rfl k) ?_
      refine eq_ (fun _ k => ev_iload f88_25 rfl k) ?_
      refine eq_ (fun _ k => ev_iald f88_27 (by assumption) (by omega) (by omega) k) ?_
      refine eq_ifN (by omega) (tgt := 69) f88_28 rfl (fun _ => ?_) (fun h9 => absurd (by simp only [akN] at *; omega) h9)
      refine eq_ (fun _ k => ev_iincN (d := 1) f88_69 rfl k) ?_
      refine eq_ (fun _ k => ev_goto (tgt := 15) f88_72 rfl k) ?_
      refine ih (k + 1) en hs D (by omega) h9 fr (by omega) (fun t ht ht0 => ?_)
      by_cases w : t = k
      · rw [w] at ht0
        omega
      · exact hD t (by omega) ht0
    · have fin : ∀ (hs2 : amH) (v : Nat), v = plN m g1 o k → hs2 = hs.set 45 (.inl (.int, 256, .inl (upd (fun j => nI (D j)) k (nI v)))) → EvQ 88 52 [some (.ref 39), some (.int (nI n)), some (.int v2), some (.int v3), some (.int (nI en)), some (.int (nI k))] [] hs2 0 0 Q := by
        intro hs2 v hv e5
        have m2 := h9.s45 e5
        have mm2 := m2
        obtain ⟨a', b', c', d', e1', e2', e3', e4'⟩ := mm2
        refine eq_ (fun _ k => ev_aload_n f88_52 rfl k) ?_
        refine eq_ (fun _ k => ev_getf f88_53 (by assumption) rfl k) ?_
        refine eq_ (fun _ k => ev_iload f88_56 rfl k) ?_
        refine eq_ (fun _ k => ev_iald f88_58 (by assumption) (by omega) (by omega) k) ?_
        refine eq_ (fun _ k => ev_aload_n f88_59 rfl k) ?_
        refine eq_ (fun _ k => ev_getf f88_60 (by assumption) rfl k) ?_
        refine eq_ (fun _ k => ev_iload f88_63 rfl k) ?_
        refine eq_ (fun _ k => ev_iald f88_65 (by assumption) (by omega) (by omega) k) ?_
        first | refine eq_ (fun _ k => ev_iaddN f88_66 k) ?_ | refine eq_ (fun _ k => ev_iadd f88_66 k) ?_
        refine eq_ (fun _ k => ev_istore f88_67 k) ?_
        refine eq_ (fun _ k => ev_iincN (d := 1) f88_69 rfl k) ?_
        refine eq_ (fun _ k => ev_goto (tgt := 15) f88_72 rfl k) ?_
        rw [updN_at, hc]
        refine ih (k + 1) (v + lnN m g1 k) hs2 (updN D k v) (by omega) m2 (fr.tr (Fr.st e5 (by omega) (by omega))) (by omega) (fun t ht ht0 => ?_)
        by_cases w : t = k
        · rw [w, updN_at, hv]
        · rw [updN_ne _ _ w]
          exact hD t (by omega) ht0
      by_cases h1 : k < en
      · refine eq_ (fun _ k => ev_iload f88_15 rfl k) ?_
        refine eq_ (fun _ k => ev_iload_n f88_17 rfl k) ?_
        refine eq_icN (by omega) (by omega) (tgt := 75) f88_18 rfl (fun h9 => absurd h9 (by simp only [akN] at *; omega)) (fun _ => ?_)
        refine eq_ (fun _ k => ev_aload_n f88_21 rfl k) ?_
        refine eq_ (fun _ k => ev_getf f88_22 (by assumption) rfl k) ?_
        refine eq_ (fun _ k => ev_iload f88_25 rfl k) ?_
        refine eq_ (fun _ k => ev_iald f88_27 (by assumption) (by omega) (by omega) k) ?_
        refine eq_ifN (by omega) (tgt := 69) f88_28 rfl (fun h9 => absurd h9 (by simp only [akN] at *; omega)) (fun _ => ?_)
        refine eq_ (fun _ k => ev_aload_n f88_31 rfl k) ?_
        refine eq_ (fun _ k => ev_getf f88_32 (by assumption) rfl k) ?_
        refine eq_ (fun _ k => ev_iload f88_35 rfl k) ?_
        refine eq_ (fun _ k => ev_iload f88_37 rfl k) ?_
        refine eq_ (fun _ k => ev_iload f88_39 rfl k) ?_
        refine eq_icN (by omega) (by omega) (tgt := 49) f88_41 rfl (fun h9 => absurd h9 (by simp only [akN] at *; omega)) (fun _ => ?_)
        refine eq_ (fun _ k => ev_iload f88_44 rfl k) ?_
        refine eq_ (fun _ k => ev_goto (tgt := 51) f88_46 rfl k) ?_
        refine eq_iast f88_51 (by assumption) (by omega) (by omega) (by omega) (fun hs2 e5 => ?_)
        exact fin hs2 _ (by omega) e5
      · refine eq_ (fun _ k => ev_iload f88_15 rfl k) ?_
        refine eq_ (fun _ k => ev_iload_n f88_17 rfl k) ?_
        refine eq_icN (by omega) (by omega) (tgt := 75) f88_18 rfl (fun h9 => absurd h9 (by simp only [akN] at *; omega)) (fun _ => ?_)
        refine eq_ (fun _ k => ev_aload_n f88_21 rfl k) ?_
        refine eq_ (fun _ k => ev_getf f88_22 (by assumption) rfl k) ?_
        refine eq_ (fun _ k => ev_iload f88_25 rfl k) ?_
        refine eq_ (fun _ k => ev_iald f88_27 (by assumption) (by omega) (by omega) k) ?_
        refine eq_ifN (by omega) (tgt := 69) f88_28 rfl (fun h9 => absurd h9 (by simp only [akN] at *; omega)) (fun _ => ?_)
        refine eq_ (fun _ k => ev_aload_n f88_31 rfl k) ?_
        refine eq_ (fun _ k => ev_getf f88_32 (by assumption) rfl k) ?_
        refine eq_ (fun _ k => ev_iload f88_35 rfl k) ?_
        refine eq_ (fun _ k => ev_iload f88_37 rfl k) ?_
        refine eq_ (fun _ k => ev_iload f88_39 rfl k) ?_
        refine eq_icN (by omega) (by omega) (tgt := 49) f88_41 rfl (fun _ => ?_) (fun h9 => absurd (by simp only [akN] at *; omega) h9)
        refine eq_ (fun _ k => ev_iload f88_49 rfl k) ?_
        refine eq_iast f88_51 (by assumption) (by omega) (by omega) (by omega) (fun hs2 e5 => ?_)
        exact fin hs2 _ (by omega) e5
theorem c88 (h : MSx hs q g l A B C D E) (hn : n ≤ 256) (hB : ∀ t, EE g1 (t * m) ≤ 256) (hC : ∀ t, t < n → C t = lnN m g1 t) : CrQ 88 [.ref 39, .int (nI n)] hs none (fun hs' => (∃ D', MSx hs' q g l A B C D' E ∧ ∀ t, t < n → 0 < lnN m g1 t → D' t = plN m g1 (ovN n m g1) t) ∧ Fr hs hs' 39 47) := by
  have hB2 : ∀ t, EE g1 (t * m) ≤ 65536 := fun t => Nat.le_trans (hB t) (by omega)
  have hov : ovN n m g1 ≤ 65536 := by
    have := pl_le (m := m) (g := g1) (o := 0) n
    have := hB n
    unfold ovN
    omega
  refine crq_mk ow88 (Nat.le_of_ble_eq_true rfl) ?_
  refine eq_ (fun _ k => ev_iconstN (n := 0) f88_0 k) ?_
  refine eq_ (fun _ k => ev_istore_n f88_1 k) ?_
  refine eq_ (fun _ k => ev_iconstN (n := 0) f88_2 k) ?_
  refine eq_ (fun _ k => ev_istore_n f88_3 k) ?_
  refine eq_ (fun _ k => ev_iload_n f88_4 rfl k) ?_
  refine eq_ (fun _ k => ev_iconstN (n := 2) f88_5 k) ?_
  refine eq_icN (by omega) (by omega) (tgt := 96) f88_6 rfl (fun h9 => absurd h9 (by simp only [akN] at *; omega)) (fun _ => ?_)
  refine eq_ (fun _ k => ev_iload_n f88_9 rfl k) ?_
  refine eq_ (fun _ k => ev_istore f88_10 k) ?_
  refine eq_ (fun _ k => ev_iconstN (n := 0) f88_12 k) ?_
  refine eq_ (fun _ k => ev_istore f88_13 k) ?_
  refine l88 (o := 0) (A := A) (B := B) (C := C) (E := E) hn (by omega) hB2 hC _ _ (fun hs2 en D2 m2 f2 he hD => ?_) n 0 0 hs D (by omega) h Fr.refl rfl (fun t ht => absurd ht (Nat.not_lt_zero t))
  have hpn := pl_le (m := m) (g := g1) (o := 0) n
  have hBn := hB n
  have nxt : EvQ 88 90 [some (.ref 39), some (.int (nI n)), some (.int (nI (ovN n m g1))), some (.int (nI 0)), some (.int (nI en)), some (.int (nI n))] [] hs2 0 0 (Rt none (fun hs' => (∃ D', MSx hs' q g l A B C D' E ∧ ∀ t, t < n → 0 < lnN m g1 t → D' t = plN m g1 (ovN n m g1) t) ∧ Fr hs hs' 39 47)) := by
    refine eq_ (fun _ k => ev_iincN (d := 1) f88_90 rfl k) ?_
    refine eq_ (fun _ k => ev_goto (tgt := 4) f88_93 rfl k) ?_
    refine eq_ (fun _ k => ev_iload_n f88_4 rfl k) ?_
    refine eq_ (fun _ k => ev_iconstN (n := 2) f88_5 k) ?_
    refine eq_icN (by omega) (by omega) (tgt := 96) f88_6 rfl (fun h9 => absurd h9 (by simp only [akN] at *; omega)) (fun _ => ?_)
    refine eq_ (fun _ k => ev_iload_n f88_9 rfl k) ?_
    refine eq_ (fun _ k => ev_istore f88_10 k) ?_
    refine eq_ (fun _ k => ev_iconstN (n := 0) f88_12 k) ?_
    refine eq_ (fun _ k => ev_istore f88_13 k) ?_
    refine l88 (o := ovN n m g1) (A := A) (B := B) (C := C) (E := E) hn hov hB2 hC _ _ (fun hs3 en3 D3 m3 f3 he3 hD3 => ?_) n 0 (ovN n m g1) hs2 D2 (by omega) m2 f2 (Nat.max_eq_left (Nat.zero_le _)) (fun t ht => absurd ht (Nat.not_lt_zero t))
    have hpn3 := pl_le (m := m) (g := g1) (o := ovN n m g1) n
    by_cases h5 : n < en3
    · refine eq_ (fun _ k => ev_iload f88_75 rfl k) ?_
      refine eq_ (fun _ k => ev_iload_n f88_77 rfl k) ?_
      refine eq_icN (by omega) (by omega) (tgt := 88) f88_78 rfl (fun h9 => absurd h9 (by simp only [akN] at *; omega)) (fun _ => ?_)
      refine eq_ (fun _ k => ev_iload f88_81 rfl k) ?_
      refine eq_ (fun _ k => ev_iload_n f88_83 rfl k) ?_
      refine eq_ (fun _ k => ev_isubN (by omega) f88_84 k) ?_
      refine eq_ (fun _ k => ev_goto (tgt := 89) f88_85 rfl k) ?_
      refine eq_ (fun _ k => ev_istore_n f88_89 k) ?_
      refine eq_ (fun _ k => ev_iincN (d := 1) f88_90 rfl k) ?_
      refine eq_ (fun _ k => ev_goto (tgt := 4) f88_93 rfl k) ?_
      refine eq_ (fun _ k => ev_iload_n f88_4 rfl k) ?_
      refine eq_ (fun _ k => ev_iconstN (n := 2) f88_5 k) ?_
      refine eq_icN (by omega) (by omega) (tgt := 96) f88_6 rfl (fun _ => ?_) (fun h9 => absurd (by simp only [akN] at *; omega) h9)
      refine ⟨_, ev_vret f88_96 rfl, ?_⟩
      exact ⟨hs3, rfl, ⟨D3, m3, hD3⟩, f3⟩
    · refine eq_ (fun _ k => ev_iload f88_75 rfl k) ?_
      refine eq_ (fun _ k => ev_iload_n f88_77 rfl k) ?_
      refine eq_icN (by omega) (by omega) (tgt := 88) f88_78 rfl (fun _ => ?_) (fun h9 => absurd (by simp only [akN] at *; omega) h9)
      refine eq_ (fun _ k => ev_iconstN (n := 0) f88_88 k) ?_
      refine eq_ (fun _ k => ev_istore_n f88_89 k) ?_
      refine eq_ (fun _ k => ev_iincN (d := 1) f88_90 rfl k) ?_
      refine eq_ (fun _ k => ev_goto (tgt := 4) f88_93 rfl k) ?_
      refine eq_ (fun _ k => ev_iload_n f88_4 rfl k) ?_
      refine eq_ (fun _ k => ev_iconstN (n := 2) f88_5 k) ?_
      refine eq_icN (by omega) (by omega) (tgt := 96) f88_6 rfl (fun _ => ?_) (fun h9 => absurd (by simp only [akN] at *; omega) h9)
      refine ⟨_, ev_vret f88_96 rfl, ?_⟩
      exact ⟨hs3, rfl, ⟨D3, m3, hD3⟩, f3⟩
  by_cases h5 : n < en
  · refine eq_ (fun _ k => ev_iload f88_75 rfl k) ?_
    refine eq_ (fun _ k => ev_iload_n f88_77 rfl k) ?_
    refine eq_icN (by omega) (by omega) (tgt := 88) f88_78 rfl (fun h9 => absurd h9 (by simp only [akN] at *; omega)) (fun _ => ?_)
    refine eq_ (fun _ k => ev_iload f88_81 rfl k) ?_
    refine eq_ (fun _ k => ev_iload_n f88_83 rfl k) ?_
    refine eq_ (fun _ k => ev_isubN (by omega) f88_84 k) ?_
    refine eq_ (fun _ k => ev_goto (tgt := 89) f88_85 rfl k) ?_
    refine eq_ (fun _ k => ev_istore_n f88_89 k) ?_
    rw [show en - n = ovN n m g1 by unfold ovN; omega]
    exact nxt
  · refine eq_ (fun _ k => ev_iload f88_75 rfl k) ?_
    refine eq_ (fun _ k => ev_iload_n f88_77 rfl k) ?_
    refine eq_icN (by omega) (by omega) (tgt := 88) f88_78 rfl (fun _ => ?_) (fun h9 => absurd (by simp only [akN] at *; omega) h9)
    refine eq_ (fun _ k => ev_iconstN (n := 0) f88_88 k) ?_
    refine eq_ (fun _ k => ev_istore_n f88_89 k) ?_
    rw [show ovN n m g1 = 0 by unfold ovN; omega] at nxt ⊢
    exact nxt
end MX
