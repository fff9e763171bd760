/-! the table's last questions; rows laid by wip/whole/walk.py -/
theorem am_m1 (k : Nat) (h : k < 2 ^ 31) : ¬ nI k = Int32.ofInt (-1) := by
  intro e
  have h1 : (nI k).toInt = (Int32.ofInt (-1)).toInt := by rw [e]
  rw [nI_toInt h, show (Int32.ofInt (-1)).toInt = -1 from by decide] at h1
  omega
/-- what the i-th place of a run adds to a fingerprint's count -/
def ciG (T : amTab) (n f r : Nat) : Nat → Nat := fun i => if T.1 ((f + i) % n) = r then T.2.1 ((f + i) % n) else 0
theorem l28 {hs : amH} {p q : Nat} {T : amTab} (h : TabAt hs p q T) (v : Int32) {f r m : Nat} (hf : f < 2 ^ q) (hr : r < 4096) (hm : m ≤ 2 ^ q) : ∀ (d k : Nat) (w : Option Value), k + d = m → Ev 28 36 [some (.ref p), some (.int v), some (.int (nI f)), some (.int (nI r)), some (.int (nI m)), some (.int (nI (smN (ciG T (2 ^ q) f r) k))), some (.int (nI k)), w] [] hs 0 0 (.inl (some (.int (nI (smN (ciG T (2 ^ q) f r) m)))), hs, 0, 0) := by
  have h9 := h
  obtain ⟨h0, h3, h8, a0, a1, a2, a3, a4, a5, b1, b2⟩ := h
  obtain ⟨p1, p2⟩ := am_pow h3 h8
  intro d
  induction d with
  | zero =>
    intro k w hk
    have hk2 : k = m := by omega
    subst hk2
    refine ev_iload f28_36 rfl ?_
    refine ev_iload f28_38 rfl ?_
    refine ev_icN (by omega) (by omega) (tgt := 86) f28_40 rfl (fun _ => ?_) (fun h9 => absurd (by simp only [akN] at *; omega) h9)
    refine ev_iload f28_86 rfl ?_
    exact ev_iret f28_88 (rI rfl _) rfl
  | succ d ih =>
    intro k w hk
    have hmm : (f + k) % 2 ^ q < 2 ^ q := Nat.mod_lt _ (by omega)
    have hi := fun w => ih (k + 1) w (by omega)
    have hb := b1 ((f + k) % 2 ^ q)
    refine ev_iload f28_36 rfl ?_
    refine ev_iload f28_38 rfl ?_
    refine ev_icN (by omega) (by omega) (tgt := 86) f28_40 rfl (fun h9 => absurd h9 (by simp only [akN] at *; omega)) (fun _ => ?_)
    refine ev_aload_n f28_43 rfl ?_
    refine ev_iload_n f28_44 rfl ?_
    refine ev_iload f28_45 rfl ?_
    first | refine ev_iaddN f28_47 ?_ | refine ev_iadd f28_47 ?_
    refine ev_v1 f28_48 ow16 (by assumption) rfl (Nat.le_of_ble_eq_true rfl) (c16 h9 (by omega)) ?_
    refine ev_istore f28_51 ?_
    refine ev_iload f28_53 rfl ?_
    refine ev_aload_n f28_55 rfl ?_
    refine ev_getf f28_56 (by assumption) rfl ?_
    refine ev_iload f28_59 rfl ?_
    refine ev_iald f28_61 (by assumption) (by omega) (by omega) ?_
    refine ev_iload_n f28_62 rfl ?_
    refine ev_icN (by omega) (by omega) (tgt := 76) f28_63 rfl (fun hc => ?_) (fun hc => ?_)
    · have e : smN (ciG T (2 ^ q) f r) (k + 1) = smN (ciG T (2 ^ q) f r) k + 0 := by
        have h1 : ¬ T.1 ((f + k) % 2 ^ q) = r := hc
        simp only [smN, ciG, if_neg h1]
      rw [e] at hi
      refine ev_iconstN (n := 0) f28_76 ?_
      first | refine ev_iaddN f28_77 ?_ | refine ev_iadd f28_77 ?_
      refine ev_istore f28_78 ?_
      refine ev_iincN f28_80 rfl ?_
      refine ev_goto (tgt := 36) f28_83 rfl ?_
      exact hi _
    · have e : smN (ciG T (2 ^ q) f r) (k + 1) = smN (ciG T (2 ^ q) f r) k + T.2.1 ((f + k) % 2 ^ q) := by
        have h1 : T.1 ((f + k) % 2 ^ q) = r := Classical.not_not.mp hc
        simp only [smN, ciG, if_pos h1]
      rw [e] at hi
      refine ev_aload_n f28_66 rfl ?_
      refine ev_getf f28_67 (by assumption) rfl ?_
      refine ev_iload f28_70 rfl ?_
      refine ev_iald f28_72 (by assumption) (by omega) (by omega) ?_
      refine ev_goto (tgt := 77) f28_73 rfl ?_
      first | refine ev_iaddN f28_77 ?_ | refine ev_iadd f28_77 ?_
      refine ev_istore f28_78 ?_
      refine ev_iincN f28_80 rfl ?_
      refine ev_goto (tgt := 36) f28_83 rfl ?_
      exact hi _
/-- the count of fingerprint k as the run tells it -/
def cirN (T : amTab) (q k : Nat) : Nat := if T.2.2.1 (k / 2 ^ (12 - q)) = true then smN (ciG T (2 ^ q) (frN T (2 ^ q) (k / 2 ^ (12 - q))) (k % 2 ^ (12 - q))) (lrN T.2.2.2.1 (2 ^ q) (frN T (2 ^ q) (k / 2 ^ (12 - q)))) else 0
theorem am_quo {q k : Nat} (h3 : 3 ≤ q) (h8 : q ≤ 8) (hk : k < 4096) : k / 2 ^ (12 - q) < 2 ^ q := by
  rw [Nat.div_lt_iff_lt_mul (Nat.two_pow_pos _), ← Nat.pow_add, show q + (12 - q) = 12 by omega]
  exact hk
theorem am_rem {q k : Nat} (h3 : 3 ≤ q) : k % 2 ^ (12 - q) < 4096 := by
  have h1 : k % 2 ^ (12 - q) < 2 ^ (12 - q) := Nat.mod_lt _ (Nat.two_pow_pos _)
  have h2 : 2 ^ (12 - q) ≤ 2 ^ 12 := Nat.pow_le_pow_right (by omega) (by omega)
  omega
theorem c28 {hs : amH} {p q : Nat} {T : amTab} (h : TabAt hs p q T) {k : Nat} (hk : k < 4096) : Cr 28 [.ref p, .int (nI k)] hs (some (.int (nI (cirN T q k)))) hs := by
  have h9 := h
  obtain ⟨h0, h3, h8, a0, a1, a2, a3, a4, a5, b1, b2⟩ := h
  obtain ⟨p1, p2⟩ := am_pow h3 h8
  have hq := am_quo h3 h8 hk
  have hr := am_rem (k := k) h3
  refine cr_mk ow28 (Nat.le_of_ble_eq_true rfl) ?_
  unfold cirN
  by_cases ho : T.2.2.1 (k / 2 ^ (12 - q)) = true
  · rw [if_pos ho]
    have hfr := frN_lt (T := T) hq
    refine ev_aload_n f28_0 rfl ?_
    refine ev_aload_n f28_1 rfl ?_
    refine ev_iload_n f28_2 rfl ?_
    refine ev_v1 f28_3 ow17 (by assumption) rfl (Nat.le_of_ble_eq_true rfl) (c17 h9 hk) ?_
    refine ev_v1 f28_6 ow25 (by assumption) rfl (Nat.le_of_ble_eq_true rfl) (c25 h9 hq ho) ?_
    refine ev_istore_n f28_9 ?_
    refine ev_iload_n f28_10 rfl ?_
    refine ev_iconst f28_11 ?_
    refine ev_ic (tgt := 17) f28_12 rfl (fun hc => ?_) (fun hc => ?_)
    · refine ev_aload_n f28_17 rfl ?_
      refine ev_iload_n f28_18 rfl ?_
      refine ev_v1 f28_19 ow18 (by assumption) rfl (Nat.le_of_ble_eq_true rfl) (c18 h9 hk) ?_
      refine ev_istore_n f28_22 ?_
      refine ev_aload_n f28_23 rfl ?_
      refine ev_iload_n f28_24 rfl ?_
      refine ev_v1 f28_25 ow26 (by assumption) rfl (Nat.le_of_ble_eq_true rfl) (c26 h9 hfr) ?_
      refine ev_istore f28_28 ?_
      refine ev_iconstN (n := 0) f28_30 ?_
      refine ev_istore f28_31 ?_
      refine ev_iconstN (n := 0) f28_33 ?_
      refine ev_istore f28_34 ?_
      exact l28 h9 (nI k) hfr hr (lrN_le (by omega)) _ 0 _ (Nat.zero_add _)
    · exact absurd (Classical.not_not.mp hc) (am_m1 _ (by omega))
  · rw [if_neg ho]
    refine ev_aload_n f28_0 rfl ?_
    refine ev_aload_n f28_1 rfl ?_
    refine ev_iload_n f28_2 rfl ?_
    refine ev_v1 f28_3 ow17 (by assumption) rfl (Nat.le_of_ble_eq_true rfl) (c17 h9 hk) ?_
    refine ev_v1 f28_6 ow25 (by assumption) rfl (Nat.le_of_ble_eq_true rfl) (c25n h9 hq (Bool.eq_false_iff.mpr ho)) ?_
    refine ev_istore_n f28_9 ?_
    refine ev_iload_n f28_10 rfl ?_
    refine ev_iconst f28_11 ?_
    refine ev_ic (tgt := 17) f28_12 rfl (fun hc => ?_) (fun hc => ?_)
    · exact absurd rfl hc
    · refine ev_iconstN (n := 0) f28_15 ?_
      exact ev_iret f28_16 (rI rfl _) rfl
/-- the first of the places behind f whose remainder isn't less, counted from 1 -/
def lkF (g : Nat → Nat) (r : Nat) : Nat → Nat → Nat
  | 0, i => i
  | d + 1, i => if g i < r then lkF g r d (i + 1) else i + 1
theorem l29 {hs : amH} {p q : Nat} {T : amTab} (h : TabAt hs p q T) (v : Int32) {f r m : Nat} (hf : f < 2 ^ q) (hr : r < 4096) (hm : m ≤ 2 ^ q) : ∀ (d k : Nat), k + d = m → Ev 29 33 [some (.ref p), some (.int v), some (.int (nI f)), some (.int (nI r)), some (.int (nI m)), some (.int (nI k))] [] hs 0 0 (.inl (some (.int (nI (lkF (fun i => T.1 ((f + i) % 2 ^ q)) r d k)))), hs, 0, 0) := by
  have h9 := h
  obtain ⟨h0, h3, h8, a0, a1, a2, a3, a4, a5, b1, b2⟩ := h
  obtain ⟨p1, p2⟩ := am_pow h3 h8
  intro d
  induction d with
  | zero =>
    intro k hk
    have hk2 : k = m := by omega
    subst hk2
    refine ev_iload f29_33 rfl ?_
    refine ev_iload f29_35 rfl ?_
    refine ev_icN (by omega) (by omega) (tgt := 68) f29_37 rfl (fun _ => ?_) (fun h9 => absurd (by simp only [akN] at *; omega) h9)
    refine ev_iload f29_68 rfl ?_
    exact ev_iret f29_70 (rI rfl _) rfl
  | succ d ih =>
    intro k hk
    have hmm : (f + k) % 2 ^ q < 2 ^ q := Nat.mod_lt _ (by omega)
    have hi := ih (k + 1) (by omega)
    have hb := b1 ((f + k) % 2 ^ q)
    refine ev_iload f29_33 rfl ?_
    refine ev_iload f29_35 rfl ?_
    refine ev_icN (by omega) (by omega) (tgt := 68) f29_37 rfl (fun h9 => absurd h9 (by simp only [akN] at *; omega)) (fun _ => ?_)
    refine ev_aload_n f29_40 rfl ?_
    refine ev_getf f29_41 (by assumption) rfl ?_
    refine ev_aload_n f29_44 rfl ?_
    refine ev_iload_n f29_45 rfl ?_
    refine ev_iload f29_46 rfl ?_
    first | refine ev_iaddN f29_48 ?_ | refine ev_iadd f29_48 ?_
    refine ev_v1 f29_49 ow16 (by assumption) rfl (Nat.le_of_ble_eq_true rfl) (c16 h9 (by omega)) ?_
    refine ev_iald f29_52 (by assumption) (by omega) (by omega) ?_
    refine ev_iload_n f29_53 rfl ?_
    unfold lkF
    refine ev_icN (by omega) (by omega) (tgt := 62) f29_54 rfl (fun hc => ?_) (fun hc => ?_)
    · rw [if_pos (show T.1 ((f + k) % 2 ^ q) < r from hc)]
      refine ev_iincN f29_62 rfl ?_
      refine ev_goto (tgt := 33) f29_65 rfl ?_
      exact hi
    · rw [if_neg (show ¬ T.1 ((f + k) % 2 ^ q) < r from hc)]
      refine ev_iload f29_57 rfl ?_
      refine ev_iconstN (n := 1) f29_59 ?_
      first | refine ev_iaddN f29_60 ?_ | refine ev_iadd f29_60 ?_
      exact ev_iret f29_61 (rI rfl _) rfl
def lkN (T : amTab) (q k : Nat) : Nat := if T.2.2.1 (k / 2 ^ (12 - q)) = true then lkF (fun i => T.1 ((frN T (2 ^ q) (k / 2 ^ (12 - q)) + i) % 2 ^ q)) (k % 2 ^ (12 - q)) (lrN T.2.2.2.1 (2 ^ q) (frN T (2 ^ q) (k / 2 ^ (12 - q)))) 0 else 0
theorem c29 {hs : amH} {p q : Nat} {T : amTab} (h : TabAt hs p q T) {k : Nat} (hk : k < 4096) : Cr 29 [.ref p, .int (nI k)] hs (some (.int (nI (lkN T q k)))) hs := by
  have h9 := h
  obtain ⟨h0, h3, h8, a0, a1, a2, a3, a4, a5, b1, b2⟩ := h
  obtain ⟨p1, p2⟩ := am_pow h3 h8
  have hq := am_quo h3 h8 hk
  have hr := am_rem (k := k) h3
  refine cr_mk ow29 (Nat.le_of_ble_eq_true rfl) ?_
  unfold lkN
  by_cases ho : T.2.2.1 (k / 2 ^ (12 - q)) = true
  · rw [if_pos ho]
    have hfr := frN_lt (T := T) hq
    refine ev_aload_n f29_0 rfl ?_
    refine ev_aload_n f29_1 rfl ?_
    refine ev_iload_n f29_2 rfl ?_
    refine ev_v1 f29_3 ow17 (by assumption) rfl (Nat.le_of_ble_eq_true rfl) (c17 h9 hk) ?_
    refine ev_v1 f29_6 ow25 (by assumption) rfl (Nat.le_of_ble_eq_true rfl) (c25 h9 hq ho) ?_
    refine ev_istore_n f29_9 ?_
    refine ev_iload_n f29_10 rfl ?_
    refine ev_iconst f29_11 ?_
    refine ev_ic (tgt := 17) f29_12 rfl (fun hc => ?_) (fun hc => ?_)
    · refine ev_aload_n f29_17 rfl ?_
      refine ev_iload_n f29_18 rfl ?_
      refine ev_v1 f29_19 ow18 (by assumption) rfl (Nat.le_of_ble_eq_true rfl) (c18 h9 hk) ?_
      refine ev_istore_n f29_22 ?_
      refine ev_aload_n f29_23 rfl ?_
      refine ev_iload_n f29_24 rfl ?_
      refine ev_v1 f29_25 ow26 (by assumption) rfl (Nat.le_of_ble_eq_true rfl) (c26 h9 hfr) ?_
      refine ev_istore f29_28 ?_
      refine ev_iconstN (n := 0) f29_30 ?_
      refine ev_istore f29_31 ?_
      exact l29 h9 (nI k) hfr hr (lrN_le (by omega)) _ 0 (Nat.zero_add _)
    · exact absurd (Classical.not_not.mp hc) (am_m1 _ (by omega))
  · rw [if_neg ho]
    refine ev_aload_n f29_0 rfl ?_
    refine ev_aload_n f29_1 rfl ?_
    refine ev_iload_n f29_2 rfl ?_
    refine ev_v1 f29_3 ow17 (by assumption) rfl (Nat.le_of_ble_eq_true rfl) (c17 h9 hk) ?_
    refine ev_v1 f29_6 ow25 (by assumption) rfl (Nat.le_of_ble_eq_true rfl) (c25n h9 hq (Bool.eq_false_iff.mpr ho)) ?_
    refine ev_istore_n f29_9 ?_
    refine ev_iload_n f29_10 rfl ?_
    refine ev_iconst f29_11 ?_
    refine ev_ic (tgt := 17) f29_12 rfl (fun hc => ?_) (fun hc => ?_)
    · exact absurd rfl hc
    · refine ev_iconstN (n := 0) f29_15 ?_
      exact ev_iret f29_16 (rI rfl _) rfl
/-- the longest cluster, by one round from z on -/
def llF (T : amTab) (n z : Nat) : Nat → Nat → Nat → Nat → Nat
  | 0, _, m, _ => m
  | d + 1, t, m, g => if T.2.1 ((z + t) % n) = 0 then llF T n z d (t + 1) m g else if T.2.2.2.2 ((z + t) % n) = true then llF T n z d (t + 1) (max m (g + 1)) (g + 1) else llF T n z d (t + 1) (max m 1) 1
def llN (T : amTab) (n : Nat) : Nat := llF T n (fzF T.2.1 (n - 1) 0) n 0 0 0
theorem l30 {hs : amH} {p q : Nat} {T : amTab} (h : TabAt hs p q T) {z : Nat} (hz : z ≤ 2 ^ q) : ∀ (d t m g : Nat) (w : Option Value), t + d = 2 ^ q → m ≤ t → g ≤ t → Ev 30 12 [some (.ref p), some (.int (nI z)), some (.int (nI m)), some (.int (nI g)), some (.int (nI t)), w] [] hs 0 0 (.inl (some (.int (nI (llF T (2 ^ q) z d t m g)))), hs, 0, 0) := by
  have h9 := h
  obtain ⟨h0, h3, h8, a0, a1, a2, a3, a4, a5, b1, b2⟩ := h
  obtain ⟨p1, p2⟩ := am_pow h3 h8
  intro d
  induction d with
  | zero =>
    intro t m g w hk hm hg
    refine ev_iload f30_12 rfl ?_
    refine ev_aload_n f30_14 rfl ?_
    refine ev_v0 f30_15 ow14 (by assumption) (Nat.le_of_ble_eq_true rfl) (c14 h9) ?_
    refine ev_icN (by omega) (by omega) (tgt := 70) f30_18 rfl (fun _ => ?_) (fun h9 => absurd (by simp only [akN] at *; omega) h9)
    refine ev_iload_n f30_70 rfl ?_
    exact ev_iret f30_71 (rI rfl _) rfl
  | succ d ih =>
    intro t m g w hk hm hg
    have hmm : (z + t) % 2 ^ q < 2 ^ q := Nat.mod_lt _ (by omega)
    have hi := fun m g w hm hg => ih (t + 1) m g w (by omega) hm hg
    refine ev_iload f30_12 rfl ?_
    refine ev_aload_n f30_14 rfl ?_
    refine ev_v0 f30_15 ow14 (by assumption) (Nat.le_of_ble_eq_true rfl) (c14 h9) ?_
    refine ev_icN (by omega) (by omega) (tgt := 70) f30_18 rfl (fun h9 => absurd h9 (by simp only [akN] at *; omega)) (fun _ => ?_)
    refine ev_aload_n f30_21 rfl ?_
    refine ev_iload_n f30_22 rfl ?_
    refine ev_iload f30_23 rfl ?_
    first | refine ev_iaddN f30_25 ?_ | refine ev_iadd f30_25 ?_
    refine ev_v1 f30_26 ow16 (by assumption) rfl (Nat.le_of_ble_eq_true rfl) (c16 h9 (by omega)) ?_
    refine ev_istore f30_29 ?_
    refine ev_aload_n f30_31 rfl ?_
    refine ev_iload f30_32 rfl ?_
    refine ev_v1 f30_34 ow15 (by assumption) rfl (Nat.le_of_ble_eq_true rfl) (c15 h9 (by omega)) ?_
    unfold llF
    refine ev_ifneB (tgt := 64) f30_37 rfl (fun hc => ?_) (fun hc => ?_)
    · rw [if_pos (of_decide_eq_true hc)]
      refine ev_iincN f30_64 rfl ?_
      refine ev_goto (tgt := 12) f30_67 rfl ?_
      exact hi m g _ (by omega) (by omega)
    · rw [if_neg (of_decide_eq_false hc)]
      refine ev_aload_n f30_40 rfl ?_
      refine ev_getf f30_41 (by assumption) rfl ?_
      refine ev_iload f30_44 rfl ?_
      refine ev_bald f30_46 (by assumption) (by omega) (by omega) ?_
      refine ev_ifeqB (tgt := 56) f30_47 rfl (fun hc => ?_) (fun hc => ?_)
      · rw [if_neg (by rw [hc]; exact Bool.false_ne_true)]
        refine ev_iconstN (n := 1) f30_56 ?_
        refine ev_istore_n f30_57 ?_
        refine ev_iload_n f30_58 rfl ?_
        refine ev_iload_n f30_59 rfl ?_
        refine ev_maxN (by omega) (by omega) f30_60 (Nat.le_of_ble_eq_true rfl) ?_
        refine ev_istore_n f30_63 ?_
        refine ev_iincN f30_64 rfl ?_
        refine ev_goto (tgt := 12) f30_67 rfl ?_
        exact hi (max m 1) 1 _ (by omega) (by omega)
      · rw [if_pos hc]
        refine ev_iload_n f30_50 rfl ?_
        refine ev_iconstN (n := 1) f30_51 ?_
        first | refine ev_iaddN f30_52 ?_ | refine ev_iadd f30_52 ?_
        refine ev_goto (tgt := 57) f30_53 rfl ?_
        refine ev_istore_n f30_57 ?_
        refine ev_iload_n f30_58 rfl ?_
        refine ev_iload_n f30_59 rfl ?_
        refine ev_maxN (by omega) (by omega) f30_60 (Nat.le_of_ble_eq_true rfl) ?_
        refine ev_istore_n f30_63 ?_
        refine ev_iincN f30_64 rfl ?_
        refine ev_goto (tgt := 12) f30_67 rfl ?_
        exact hi (max m (g + 1)) (g + 1) _ (by omega) (by omega)
theorem fzF_le {f : Nat → Nat} : ∀ (d k : Nat), fzF f d k ≤ k + d
  | 0, k => Nat.le_refl k
  | d + 1, k => by
    have h := fzF_le (f := f) d (k + 1)
    unfold fzF
    split <;> omega
theorem c30 {hs : amH} {p q : Nat} {T : amTab} (h : TabAt hs p q T) : Cr 30 [.ref p] hs (some (.int (nI (llN T (2 ^ q))))) hs := by
  have h9 := h
  obtain ⟨h0, h3, h8, a0, a1, a2, a3, a4, a5, b1, b2⟩ := h
  have hz := fzF_le (f := T.2.1) (2 ^ q - 1) 0
  have hp := am_pow h3 h8
  refine cr_mk ow30 (Nat.le_of_ble_eq_true rfl) ?_
  refine ev_aload_n f30_0 rfl ?_
  refine ev_v0 f30_1 ow22 (by assumption) (Nat.le_of_ble_eq_true rfl) (c22 h9) ?_
  refine ev_istore_n f30_4 ?_
  refine ev_iconstN (n := 0) f30_5 ?_
  refine ev_istore_n f30_6 ?_
  refine ev_iconstN (n := 0) f30_7 ?_
  refine ev_istore_n f30_8 ?_
  refine ev_iconstN (n := 0) f30_9 ?_
  refine ev_istore f30_10 ?_
  exact l30 h9 (by omega) (2 ^ q) 0 0 0 _ (by omega) (by omega) (by omega)
