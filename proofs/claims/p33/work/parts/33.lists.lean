/-! lists of links; rows laid by wip/whole/walk.py -/
def LisC (hs : amH) (l : Nat) (F X : Nat → Int32) : Prop := 0 < l ∧ hs[l]? = some (.inr (1, [.ref (l + 1), .ref (l + 2)])) ∧ hs[l + 1]? = some (.inl (.int, 256, .inl F)) ∧ hs[l + 2]? = some (.inl (.int, 256, .inl X))
theorem LisC.fr {hs hs' : amH} {l lo hi : Nat} {F X : Nat → Int32} (h : LisC hs l F X) (f : Fr hs hs' lo hi) (hd : l + 3 ≤ lo ∨ hi ≤ l) : LisC hs' l F X := by
  obtain ⟨h0, a0, a1, a2⟩ := h
  exact ⟨h0, (f.2 _ (by omega)).trans a0, (f.2 _ (by omega)).trans a1, (f.2 _ (by omega)).trans a2⟩
def qhN (T : amTab) (n s r : Nat) : Nat := if T.2.2.2.2 s = true then (if T.2.2.2.1 s = true then r else oaN T.2.2.1 n r) else s
theorem c11 {hs : amH} {p q : Nat} {T : amTab} (h : TabAt hs p q T) {s r : Nat} (hs2 : s < 2 ^ q) (hr : r < 2 ^ q) : Cr 11 [.ref p, .int (nI s), .int (nI r)] hs (some (.int (nI (qhN T (2 ^ q) s r)))) hs := by
  have h9 := h
  obtain ⟨h0, h3, h8, a0, a1, a2, a3, a4, a5, b1, b2⟩ := h
  obtain ⟨p1, p2⟩ := am_pow h3 h8
  refine cr_mk ow11 (Nat.le_of_ble_eq_true rfl) ?_
  unfold qhN
  refine ev_aload_n f11_0 rfl ?_
  refine ev_getf f11_1 (by assumption) rfl ?_
  refine ev_iload_n f11_4 rfl ?_
  refine ev_bald f11_5 (by assumption) (by omega) (by omega) ?_
  refine ev_ifneB (tgt := 11) f11_6 rfl (fun hc => ?_) (fun hc => ?_)
  · rw [if_pos hc]
    refine ev_aload_n f11_11 rfl ?_
    refine ev_getf f11_12 (by assumption) rfl ?_
    refine ev_iload_n f11_15 rfl ?_
    refine ev_bald f11_16 (by assumption) (by omega) (by omega) ?_
    refine ev_ifeqB (tgt := 24) f11_17 rfl (fun hc => ?_) (fun hc => ?_)
    · rename_i hc2
      rw [if_neg (by rw [hc]; decide)]
      refine ev_aload_n f11_24 rfl ?_
      refine ev_iload_n f11_25 rfl ?_
      refine ev_v1 f11_26 ow23 (by assumption) rfl (Nat.le_of_ble_eq_true rfl) (c23 h9 hr) ?_
      exact ev_iret f11_29 (rI rfl _) rfl
    · rename_i hc2
      rw [if_pos hc]
      refine ev_iload_n f11_20 rfl ?_
      refine ev_goto (tgt := 29) f11_21 rfl ?_
      exact ev_iret f11_29 (rI rfl _) rfl
  · rw [if_neg (by rw [hc]; decide)]
    refine ev_iload_n f11_9 rfl ?_
    exact ev_iret f11_10 (rI rfl _) rfl
/-- what the lists hold of the entries before a place of the line -/
def LsI (n : Nat) (P L : Nat → Nat) (e : Nat) (F X : Nat → Int32) (u : Nat) : Prop := ∀ x, e ≤ x → x < e + n → F (x % n) = (if min (L x) (u - P x) = 0 then Int32.ofInt (-1) else nI ((P x + (min (L x) (u - P x) - 1)) % n)) ∧ ∀ j, j < min (L x) (u - P x) → X ((P x + j) % n) = (if j = 0 then Int32.ofInt (-1) else nI ((P x + (j - 1)) % n))
def LsR (L P : Nat → Nat) (e r u : Nat) : Prop := e ≤ r ∧ (∀ y, r < y → 0 < L y → u ≤ P y) ∧ (r = e ∨ (0 < L r ∧ P r < u))
section LS
variable {n : Nat} {P L : Nat → Nat} {T : amTab}
theorem ls_q (h : TabL n P L T) {e r u x j : Nat} (he : n ≤ e) (hPe : P e = e) (hLe : L e = 0) (hu : e < u) (hu2 : u < e + n) (hR : LsR L P e r u) (hj : j < L x) (hx : u = P x + j) : e < x ∧ x < e + n ∧ qhN T n (u % n) (r % n) = x % n ∧ LsR L P e x (u + 1) := by
  have hl := h.1
  obtain ⟨r1, r2, r3⟩ := hR
  have hxP := hl.2.2.2.2.1 x
  have hex : e < x := by
    refine Nat.lt_of_not_le (fun q => ?_)
    rcases Nat.lt_or_ge x e with q2 | q2
    · have := lp_run hl q2
      omega
    · have e2 : x = e := by omega
      rw [e2] at hj
      omega
  refine ⟨hex, by omega, ?_, by omega, fun y y1 y2 => ?_, Or.inr ⟨by omega, by omega⟩⟩
  · have hsl := h.2.1 x j hj
    rw [← hx] at hsl
    unfold qhN
    rw [tl_sh h (by omega)]
    by_cases hsh : u < P u
    · rw [decide_eq_true hsh, if_pos rfl, hsl.2.1]
      by_cases h0 : 0 < j
      · rw [decide_eq_true h0, if_pos rfl]
        have : r = x := by
          rcases Nat.lt_trichotomy r x with q | q | q
          · have := r2 x q (by omega)
            omega
          · exact q
          · rcases r3 with r4 | ⟨r4, r5⟩
            · omega
            · have := lp_run hl q
              omega
        rw [this]
      · rw [decide_eq_false h0, if_neg (by decide)]
        have hrx : r < x := by
          refine Nat.lt_of_not_le (fun q => ?_)
          rcases r3 with r4 | ⟨r4, r5⟩
          · omega
          · rcases Nat.lt_or_ge x r with q2 | q2
            · have := lp_run hl q2
              omega
            · have e2 : x = r := by omega
              rw [e2] at hx
              omega
        refine tl_oa h hrx (by omega) (by omega) (fun z z1 z2 => ?_)
        refine Classical.byContradiction (fun q => ?_)
        have b1 := r2 z z1 (by omega)
        have b2 := lp_run hl z2
        omega
    · have hP : P u = u := by
        have := hl.2.2.2.2.1 u
        omega
      rw [decide_eq_false hsh, if_neg (by decide), (lp_head hl hj hx hP).1]
  · have := lp_run hl y1
    omega
theorem ls_put (h : LinP n P L) {e u x j : Nat} {F X : Nat → Int32} (hex : e < x) (hxe : x < e + n) (hj : j < L x) (hx : u = P x + j) (hI : LsI n P L e F X u) : LsI n P L e (upd F (x % n) (nI (u % n))) (upd X (u % n) (F (x % n))) (u + 1) := by
  intro x' a1 a2
  obtain ⟨i1, i2⟩ := hI x' a1 a2
  obtain ⟨k1, k2⟩ := hI x (by omega) hxe
  by_cases ex : x' = x
  · subst ex
    have m1 : min (L x') (u - P x') = j := by omega
    have m2 : min (L x') (u + 1 - P x') = j + 1 := by omega
    rw [m1] at i1 i2
    rw [m2]
    refine ⟨?_, fun j' hj' => ?_⟩
    · rw [if_neg (by omega)]
      show (if x' % n = x' % n then _ else _) = _
      rw [if_pos rfl, hx]
      rfl
    · by_cases ej : j' = j
      · rw [ej, ← hx]
        show (if u % n = u % n then _ else _) = _
        rw [if_pos rfl]
        exact i1
      · show (if (P x' + j') % n = u % n then _ else _) = _
        rw [if_neg (fun q => ?_)]
        · exact i2 j' (by omega)
        · rw [hx] at q
          exact ej (lp_mod h (by omega) hj q).2
  · have m3 : min (L x') (u + 1 - P x') = min (L x') (u - P x') := by
      by_cases hc : P x' ≤ u ∧ u < P x' + L x'
      · exact absurd (lp_uniq h (x := x') (y := x) (i := u - P x') (j := j) (by omega) hj (by omega)).1 ex
      · omega
    have hmn : ¬ x' % n = x % n := by
      rcases Nat.lt_or_gt_of_ne ex with q | q
      · exact lt_mod_ne q (by omega)
      · exact fun q2 => lt_mod_ne q (by omega) q2.symm
    rw [m3]
    refine ⟨?_, fun j' hj' => ?_⟩
    · show (if x' % n = x % n then _ else _) = _
      rw [if_neg hmn]
      exact i1
    · show (if (P x' + j') % n = u % n then _ else _) = _
      rw [if_neg (fun q => ?_)]
      · exact i2 j' hj'
      · rw [hx] at q
        exact hmn (lp_mod h (by omega) hj q).1
theorem ls_skip (h : LinP n P L) {e r u : Nat} {F X : Nat → Int32} (hP : P u = u) (hL : L u = 0) (hI : LsI n P L e F X u) (hR : LsR L P e r u) : LsI n P L e F X (u + 1) ∧ LsR L P e r (u + 1) := by
  refine ⟨fun x a1 a2 => ?_, hR.1, fun y y1 y2 => ?_, ?_⟩
  · have m3 : min (L x) (u + 1 - P x) = min (L x) (u - P x) := by
      by_cases hc : P x ≤ u ∧ u < P x + L x
      · refine absurd (show P u = u ∧ L u = 0 from ⟨hP, hL⟩) ?_
        have := lp_filled h (x := x) (i := u - P x) (by omega)
        rw [show P x + (u - P x) = u by omega] at this
        exact this
      · omega
    rw [m3]
    exact hI x a1 a2
  · have h1 := hR.2.1 y y1 y2
    rcases Nat.lt_or_ge u (P y) with q | q
    · omega
    · refine absurd (show P u = u ∧ L u = 0 from ⟨hP, hL⟩) ?_
      have := lp_filled h (x := y) (i := 0) y2
      rw [show P y + 0 = u by omega] at this
      exact this
  · rcases hR.2.2 with q | ⟨q1, q2⟩
    · exact Or.inl q
    · exact Or.inr ⟨q1, by omega⟩
end LS
theorem fzF_0 {f : Nat → Nat} : ∀ (d k : Nat), (∃ e, k ≤ e ∧ e ≤ k + d ∧ f e = 0) → f (fzF f d k) = 0
  | 0, k, ⟨e, h1, h2, h3⟩ => by
    show f k = 0
    rw [show k = e by omega]
    exact h3
  | d + 1, k, ⟨e, h1, h2, h3⟩ => by
    unfold fzF
    by_cases h : f k = 0
    · rw [if_pos h]
      exact h
    · rw [if_neg h]
      refine fzF_0 d (k + 1) ⟨e, ?_, by omega, h3⟩
      refine Nat.lt_of_le_of_ne h1 (fun q => ?_)
      rw [q] at h
      exact h h3
/-- some slot is empty, and the class finds it -/
theorem tl_fz {n : Nat} {P L : Nat → Nat} {T : amTab} (h : TabL n P L T) : fzF T.2.1 (n - 1) 0 < n ∧ P (fzF T.2.1 (n - 1) 0 + n) = fzF T.2.1 (n - 1) 0 + n ∧ L (fzF T.2.1 (n - 1) 0 + n) = 0 := by
  have hn := h.1.1
  obtain ⟨e, e1, e2, e3⟩ := h.1.2.2.2.2.2
  have h1 := fzF_0 (f := T.2.1) (n - 1) 0 ⟨e, by omega, by omega, by
    have := (tl_em h (u := e + n) (by omega)).mpr ⟨by rw [h.1.2.2.1]; omega, by rw [h.1.2.2.2.1]; exact e3⟩
    rw [Nat.add_mod_right, Nat.mod_eq_of_lt e1] at this
    exact this⟩
  have h2 := fzF_le (f := T.2.1) (n - 1) 0
  have h3 : fzF T.2.1 (n - 1) 0 < n := by omega
  refine ⟨h3, ?_⟩
  refine (tl_em h (by omega)).mp ?_
  rw [Nat.add_mod_right, Nat.mod_eq_of_lt h3]
  exact h1
theorem l10a {l p q : Nat} {T : amTab} {X : Nat → Int32} (hd : p + 6 ≤ l ∨ l + 3 ≤ p) {Q : amH → Prop} (hQ : ∀ hs (w2 w3 w4 : Option Value) (F : Nat → Int32), (∀ j, j < 256 → F j = Int32.ofInt (-1)) → LisC hs l F X → TabAt hs p q T → EvQ 10 22 [some (.ref l), some (.ref p), some (.int (nI 256)), w2, w3, w4] [] hs 0 0 (Rt none (fun hs' => Q hs' ∧ Fr hs hs' l (l + 3)))) : ∀ (d k : Nat) (hs : amH) (w2 w3 w4 : Option Value) (F : Nat → Int32), k + d = 256 → (∀ j, j < k → F j = Int32.ofInt (-1)) → LisC hs l F X → TabAt hs p q T → EvQ 10 2 [some (.ref l), some (.ref p), some (.int (nI k)), w2, w3, w4] [] hs 0 0 (Rt none (fun hs' => Q hs' ∧ Fr hs hs' l (l + 3))) := by
  intro d
  induction d with
  | zero =>
    intro k hs w2 w3 w4 F hk hF h t
    have hk2 : k = 256 := by omega
    subst hk2
    refine eq_ (fun _ k => ev_iload_n f10_2 rfl k) ?_
    refine eq_ (fun _ k => ev_sipushN (n := 256) (by decide +kernel) f10_3 k) ?_
    refine eq_icN (by omega) (by omega) (tgt := 22) f10_6 rfl (fun _ => ?_) (fun h9 => absurd (by simp only [akN] at *; omega) h9)
    exact hQ hs _ _ _ F hF h t
  | succ d ih =>
    intro k hs w2 w3 w4 F hk hF h t
    have h9 := h
    obtain ⟨h0, a0, a1, a2⟩ := h
    refine eq_ (fun _ k => ev_iload_n f10_2 rfl k) ?_
    refine eq_ (fun _ k => ev_sipushN (n := 256) (by decide +kernel) f10_3 k) ?_
    refine eq_icN (by omega) (by omega) (tgt := 22) f10_6 rfl (fun h9 => absurd h9 (by simp only [akN] at *; omega)) (fun _ => ?_)
    refine eq_ (fun _ k => ev_aload_n f10_9 rfl k) ?_
    refine eq_ (fun _ k => ev_getf f10_10 (by assumption) rfl k) ?_
    refine eq_ (fun _ k => ev_iload_n f10_13 rfl k) ?_
    refine eq_ (fun _ k => ev_iconst f10_14 k) ?_
    refine eq_iast f10_15 (by assumption) (by omega) (by omega) (by omega) (fun hs1 e1 => ?_)
    refine eq_ (fun _ k => ev_iincN f10_16 rfl k) ?_
    refine eq_ (fun _ k => ev_goto (tgt := 2) f10_19 rfl k) ?_
    have f1 : Fr hs hs1 l (l + 3) := Fr.st e1 (by omega) (by omega)
    refine (ih (k + 1) hs1 _ _ _ _ (by omega) (fun j hj => ?_) ⟨h0, (am_set2 e1 (by omega)).trans a0, am_set e1 a1, (am_set2 e1 (by omega)).trans a2⟩ (t.fr f1 hd)).fr f1
    unfold upd
    split
    · rfl
    · exact hF j (by omega)
theorem l10b {l p q e : Nat} {T : amTab} {P L : Nat → Nat} (hd : p + 6 ≤ l ∨ l + 3 ≤ p) (hT : TabL (2 ^ q) P L T) (he : 2 ^ q ≤ e) (hPe : P e = e) (hLe : L e = 0) : ∀ (d c r : Nat) (hs : amH) (F X : Nat → Int32) (w : Option Value), c + d = 2 ^ q → 0 < c → TabAt hs p q T → LisC hs l F X → LsI (2 ^ q) P L e F X (e + c) → LsR L P e r (e + c) → EvQ 10 32 [some (.ref l), some (.ref p), some (.int (nI (e % 2 ^ q))), some (.int (nI (r % 2 ^ q))), some (.int (nI c)), w] [] hs 0 0 (Rt none (fun hs' => (∃ F X, LisC hs' l F X ∧ LsI (2 ^ q) P L e F X (e + 2 ^ q)) ∧ Fr hs hs' l (l + 3))) := by
  intro d
  induction d with
  | zero =>
    intro c r hs F X w hc hc0 t h hI hR
    have t9 := t
    have h9 := h
    obtain ⟨t0, h3, h8, x0, x1, x2, x3, x4, x5, y1, y2⟩ := t
    obtain ⟨p1, p2⟩ := am_pow h3 h8
    have hc2 : c = 2 ^ q := by omega
    rw [hc2] at hI
    refine eq_ (fun _ k => ev_iload f10_32 rfl k) ?_
    refine eq_ (fun _ k => ev_aload_n f10_34 rfl k) ?_
    refine eq_ (fun _ k => ev_v0 f10_35 ow14 (by assumption) (Nat.le_of_ble_eq_true rfl) (c14 t9) k) ?_
    refine eq_icN (by omega) (by omega) (tgt := 95) f10_38 rfl (fun _ => ?_) (fun h9 => absurd (by simp only [akN] at *; omega) h9)
    refine ⟨_, ev_vret f10_95 rfl, ?_⟩
    exact ⟨_, rfl, ⟨F, X, h9, hI⟩, Fr.refl⟩
  | succ d ih =>
    intro c r hs F X w hc hc0 t h hI hR
    have t9 := t
    have h9 := h
    obtain ⟨t0, h3, h8, x0, x1, x2, x3, x4, x5, y1, y2⟩ := t
    obtain ⟨p1, p2⟩ := am_pow h3 h8
    obtain ⟨h0, a0, a1, a2⟩ := h
    have hn : 0 < 2 ^ q := by omega
    have hel : e % 2 ^ q < 2 ^ q := Nat.mod_lt _ hn
    have hul : (e + c) % 2 ^ q < 2 ^ q := Nat.mod_lt _ hn
    have hrl : r % 2 ^ q < 2 ^ q := Nat.mod_lt _ hn
    have k16 := c16 t9 (j := e % 2 ^ q + c) (by omega)
    rw [Nat.mod_add_mod] at k16
    rcases lp_cases hT.1 (show 2 ^ q ≤ e + c by omega) with ⟨x, j, q1, q2, q3⟩ | ⟨q1, q2⟩
    · obtain ⟨s1, s2, s3, s4⟩ := ls_q hT he hPe hLe (by omega) (by omega) hR q1 q2
      have hpt := ls_put hT.1 s1 s2 q1 q2 hI
      have hxl : x % 2 ^ q < 2 ^ q := Nat.mod_lt _ hn
      have k11 := c11 t9 hul hrl
      rw [s3] at k11
      have e3 := (hT.2.1 x j q1).1
      rw [← q2] at e3
      refine eq_ (fun _ k => ev_iload f10_32 rfl k) ?_
      refine eq_ (fun _ k => ev_aload_n f10_34 rfl k) ?_
      refine eq_ (fun _ k => ev_v0 f10_35 ow14 (by assumption) (Nat.le_of_ble_eq_true rfl) (c14 t9) k) ?_
      refine eq_icN (by omega) (by omega) (tgt := 95) f10_38 rfl (fun h9 => absurd h9 (by simp only [akN] at *; omega)) (fun _ => ?_)
      refine eq_ (fun _ k => ev_aload_n f10_41 rfl k) ?_
      refine eq_ (fun _ k => ev_iload_n f10_42 rfl k) ?_
      refine eq_ (fun _ k => ev_iload f10_43 rfl k) ?_
      first | refine eq_ (fun _ k => ev_iaddN f10_45 k) ?_ | refine eq_ (fun _ k => ev_iadd f10_45 k) ?_
      refine eq_ (fun _ k => ev_v1 f10_46 ow16 (by assumption) rfl (Nat.le_of_ble_eq_true rfl) (k16) k) ?_
      refine eq_ (fun _ k => ev_istore f10_49 k) ?_
      refine eq_ (fun _ k => ev_aload_n f10_51 rfl k) ?_
      refine eq_ (fun _ k => ev_iload f10_52 rfl k) ?_
      refine eq_ (fun _ k => ev_v1 f10_54 ow15 (by assumption) rfl (Nat.le_of_ble_eq_true rfl) (c15 t9 (by omega)) k) ?_
      refine eq_ifneB (tgt := 89) f10_57 rfl (fun h9 => Bool.noConfusion (h9.symm.trans ((decide_eq_false e3)))) (fun _ => ?_)
      refine eq_ (fun _ k => ev_aload_n f10_60 rfl k) ?_
      refine eq_ (fun _ k => ev_iload f10_61 rfl k) ?_
      refine eq_ (fun _ k => ev_iload_n f10_63 rfl k) ?_
      refine eq_ (fun _ k => ev_s3 f10_64 (by decide) ow11 rfl rfl rfl (Nat.le_of_ble_eq_true rfl) (k11) k) ?_
      refine eq_ (fun _ k => ev_istore_n f10_67 k) ?_
      refine eq_ (fun _ k => ev_aload_n f10_68 rfl k) ?_
      refine eq_ (fun _ k => ev_getf f10_69 (by assumption) rfl k) ?_
      refine eq_ (fun _ k => ev_iload f10_72 rfl k) ?_
      refine eq_ (fun _ k => ev_aload_n f10_74 rfl k) ?_
      refine eq_ (fun _ k => ev_getf f10_75 (by assumption) rfl k) ?_
      refine eq_ (fun _ k => ev_iload_n f10_78 rfl k) ?_
      refine eq_ (fun _ k => ev_iald f10_79 (by assumption) (by omega) (by omega) k) ?_
      refine eq_iast f10_80 (by assumption) (by omega) (by omega) (by omega) (fun hs1 e1 => ?_)
      have a0' := (am_set2 e1 (show ¬ l + 2 = l by omega)).trans a0
      have a1' := (am_set2 e1 (show ¬ l + 2 = l + 1 by omega)).trans a1
      have a2' := am_set e1 a2
      refine eq_ (fun _ k => ev_aload_n f10_81 rfl k) ?_
      refine eq_ (fun _ k => ev_getf f10_82 (by assumption) rfl k) ?_
      refine eq_ (fun _ k => ev_iload_n f10_85 rfl k) ?_
      refine eq_ (fun _ k => ev_iload f10_86 rfl k) ?_
      refine eq_iast f10_88 (by assumption) (by omega) (by omega) (by omega) (fun hs2 e2 => ?_)
      refine eq_ (fun _ k => ev_iincN f10_89 rfl k) ?_
      refine eq_ (fun _ k => ev_goto (tgt := 32) f10_92 rfl k) ?_
      have f1 : Fr hs hs2 l (l + 3) := (Fr.st e1 (by omega) (by omega)).tr (Fr.st e2 (by omega) (by omega))
      exact (ih (c + 1) x hs2 _ _ _ (by omega) (by omega) (t9.fr f1 hd) ⟨h0, (am_set2 e2 (by omega)).trans a0', am_set e2 a1', (am_set2 e2 (by omega)).trans a2'⟩ hpt s4).fr f1
    · obtain ⟨s1, s2⟩ := ls_skip hT.1 q1 q2 hI hR
      have e3 := (hT.2.2.1 _ q1 q2).1
      refine eq_ (fun _ k => ev_iload f10_32 rfl k) ?_
      refine eq_ (fun _ k => ev_aload_n f10_34 rfl k) ?_
      refine eq_ (fun _ k => ev_v0 f10_35 ow14 (by assumption) (Nat.le_of_ble_eq_true rfl) (c14 t9) k) ?_
      refine eq_icN (by omega) (by omega) (tgt := 95) f10_38 rfl (fun h9 => absurd h9 (by simp only [akN] at *; omega)) (fun _ => ?_)
      refine eq_ (fun _ k => ev_aload_n f10_41 rfl k) ?_
      refine eq_ (fun _ k => ev_iload_n f10_42 rfl k) ?_
      refine eq_ (fun _ k => ev_iload f10_43 rfl k) ?_
      first | refine eq_ (fun _ k => ev_iaddN f10_45 k) ?_ | refine eq_ (fun _ k => ev_iadd f10_45 k) ?_
      refine eq_ (fun _ k => ev_v1 f10_46 ow16 (by assumption) rfl (Nat.le_of_ble_eq_true rfl) (k16) k) ?_
      refine eq_ (fun _ k => ev_istore f10_49 k) ?_
      refine eq_ (fun _ k => ev_aload_n f10_51 rfl k) ?_
      refine eq_ (fun _ k => ev_iload f10_52 rfl k) ?_
      refine eq_ (fun _ k => ev_v1 f10_54 ow15 (by assumption) rfl (Nat.le_of_ble_eq_true rfl) (c15 t9 (by omega)) k) ?_
      refine eq_ifneB (tgt := 89) f10_57 rfl (fun _ => ?_) (fun h9 => Bool.noConfusion (h9.symm.trans ((decide_eq_true e3))))
      refine eq_ (fun _ k => ev_iincN f10_89 rfl k) ?_
      refine eq_ (fun _ k => ev_goto (tgt := 32) f10_92 rfl k) ?_
      exact ih (c + 1) r hs F X _ (by omega) (by omega) t9 h9 s1 s2
theorem c10 {hs : amH} {l p q : Nat} {T : amTab} {P L : Nat → Nat} {F X : Nat → Int32} (t : TabAt hs p q T) (h : LisC hs l F X) (hd : p + 6 ≤ l ∨ l + 3 ≤ p) (hT : TabL (2 ^ q) P L T) : CrQ 10 [.ref l, .ref p] hs none (fun hs' => (∃ e F X, 2 ^ q ≤ e ∧ P e = e ∧ LisC hs' l F X ∧ LsI (2 ^ q) P L e F X (e + 2 ^ q)) ∧ Fr hs hs' l (l + 3)) := by
  obtain ⟨z1, z2, z3⟩ := tl_fz hT
  have hh := t.2.1
  have hh8 := t.2.2.1
  obtain ⟨p1, p2⟩ := am_pow hh hh8
  refine crq_mk ow10 (Nat.le_of_ble_eq_true rfl) ?_
  refine eq_ (fun _ k => ev_iconstN (n := 0) f10_0 k) ?_
  refine eq_ (fun _ k => ev_istore_n f10_1 k) ?_
  refine l10a hd (fun hs w2 w3 w4 F hF h t => ?_) 256 0 hs _ _ _ F rfl (fun j hj => absurd hj (Nat.not_lt_zero j)) h t
  have t9 := t
  obtain ⟨t0, h3, h8, x0, x1, x2, x3, x4, x5, y1, y2⟩ := t
  have hI : LsI (2 ^ q) P L (fzF T.2.1 (2 ^ q - 1) 0 + 2 ^ q) F X (fzF T.2.1 (2 ^ q - 1) 0 + 2 ^ q + 1) := by
    intro x a1 a2
    have m0 : min (L x) (fzF T.2.1 (2 ^ q - 1) 0 + 2 ^ q + 1 - P x) = 0 := by
      by_cases e : x = fzF T.2.1 (2 ^ q - 1) 0 + 2 ^ q
      · rw [e, z3]
        omega
      · have := hT.1.2.2.2.2.1 x
        omega
    rw [m0]
    exact ⟨hF _ (by have := Nat.mod_lt x (show 0 < 2 ^ q by omega); omega), fun j hj => absurd hj (Nat.not_lt_zero j)⟩
  have l := l10b hd hT (show 2 ^ q ≤ fzF T.2.1 (2 ^ q - 1) 0 + 2 ^ q by omega) z2 z3 (2 ^ q - 1) 1 (fzF T.2.1 (2 ^ q - 1) 0 + 2 ^ q) hs F X w4 (by omega) (by omega) t9 h hI ⟨Nat.le_refl _, fun y y1 y2 => by have := hT.1.2.2.2.2.1 y; omega, Or.inl rfl⟩
  rw [Nat.add_mod_right, Nat.mod_eq_of_lt z1] at l
  refine eq_ (fun _ k => ev_aload_n f10_22 rfl k) ?_
  refine eq_ (fun _ k => ev_v0 f10_23 ow22 (by assumption) (Nat.le_of_ble_eq_true rfl) (c22 t9) k) ?_
  refine eq_ (fun _ k => ev_istore_n f10_26 k) ?_
  refine eq_ (fun _ k => ev_iload_n f10_27 rfl k) ?_
  refine eq_ (fun _ k => ev_istore_n f10_28 k) ?_
  refine eq_ (fun _ k => ev_iconstN (n := 1) f10_29 k) ?_
  refine eq_ (fun _ k => ev_istore f10_30 k) ?_
  obtain ⟨o, o1, hs2, rfl, ⟨F2, X2, o2, o4⟩, o3⟩ := l
  exact ⟨_, o1, hs2, rfl, ⟨_, F2, X2, by omega, z2, o2, o4⟩, o3⟩
theorem l12 {hs : amH} {l p q : Nat} {T : amTab} {P L : Nat → Nat} {F X : Nat → Int32} (t : TabAt hs p q T) (h : LisC hs l F X) {x r tot : Nat} (hr : r < 4096) (htot : tot < 2 ^ 30) (v : Int32) (hX : ∀ j, j < L x → X ((P x + j) % 2 ^ q) = (if j = 0 then Int32.ofInt (-1) else nI ((P x + (j - 1)) % 2 ^ q))) : ∀ (j acc c : Nat), j ≤ L x → j + c < 256 → acc + smN (ciG T (2 ^ q) (P x % 2 ^ q) r) j = tot → Ev 12 24 [some (.ref l), some (.ref p), some (.int v), some (.int (nI r)), some (.int (if j = 0 then Int32.ofInt (-1) else nI ((P x + (j - 1)) % 2 ^ q))), some (.int (nI acc)), some (.int (nI c))] [] hs 0 0 (.inl (some (.int (nI tot))), hs, 0, 0) := by
  have t9 := t
  obtain ⟨t0, h3, h8, x0, x1, x2, x3, x4, x5, y1, y2⟩ := t
  obtain ⟨p1, p2⟩ := am_pow h3 h8
  obtain ⟨h0, a0, a1, a2⟩ := h
  intro j
  induction j with
  | zero =>
    intro acc c hj hc ha
    have ha2 : acc = tot := ha
    subst ha2
    refine ev_iload f12_24 rfl ?_
    refine ev_sipushN (n := 256) (by decide +kernel) f12_26 ?_
    refine ev_icN (by omega) (by omega) (tgt := 80) f12_29 rfl (fun h9 => absurd h9 (by simp only [akN] at *; omega)) (fun _ => ?_)
    refine ev_iload f12_32 rfl ?_
    refine ev_iconst f12_34 ?_
    refine ev_ic (tgt := 80) f12_35 rfl (fun _ => ?_) (fun h9 => absurd rfl h9)
    refine ev_iload f12_80 rfl ?_
    exact ev_iret f12_82 (rI rfl _) rfl
  | succ j ih =>
    intro acc c hj hc ha
    have hs2 : (P x + j) % 2 ^ q < 2 ^ q := Nat.mod_lt _ (by omega)
    have hX2 := hX j (by omega)
    have ha2 : acc + (smN (ciG T (2 ^ q) (P x % 2 ^ q) r) j + ciG T (2 ^ q) (P x % 2 ^ q) r j) = tot := ha
    have hG : ciG T (2 ^ q) (P x % 2 ^ q) r j = if T.1 ((P x + j) % 2 ^ q) = r then T.2.1 ((P x + j) % 2 ^ q) else 0 := by
      unfold ciG
      rw [Nat.mod_add_mod]
    have hi := ih (acc + ciG T (2 ^ q) (P x % 2 ^ q) r j) (c + 1) (by omega) (by omega) (by omega)
    rw [← hX2, hG] at hi
    have b1' := y1 ((P x + j) % 2 ^ q)
    rw [if_neg (by omega), show j + 1 - 1 = j by omega]
    refine ev_iload f12_24 rfl ?_
    refine ev_sipushN (n := 256) (by decide +kernel) f12_26 ?_
    refine ev_icN (by omega) (by omega) (tgt := 80) f12_29 rfl (fun h9 => absurd h9 (by simp only [akN] at *; omega)) (fun _ => ?_)
    refine ev_iload f12_32 rfl ?_
    refine ev_iconst f12_34 ?_
    refine ev_ic (tgt := 80) f12_35 rfl (fun h9 => absurd h9 (am_m1 _ (by omega))) (fun _ => ?_)
    refine ev_iload f12_38 rfl ?_
    refine ev_aload_n f12_40 rfl ?_
    refine ev_getf f12_41 (by assumption) rfl ?_
    refine ev_iload f12_44 rfl ?_
    refine ev_iald f12_46 (by assumption) (by omega) (by omega) ?_
    refine ev_iload_n f12_47 rfl ?_
    refine ev_icN (by omega) (by omega) (tgt := 61) f12_48 rfl (fun hc => ?_) (fun hc => ?_)
    · rw [if_neg (show ¬ T.1 ((P x + j) % 2 ^ q) = r from hc)] at hi
      refine ev_iconstN (n := 0) f12_61 ?_
      first | refine ev_iaddN f12_62 ?_ | refine ev_iadd f12_62 ?_
      refine ev_istore f12_63 ?_
      refine ev_aload_n f12_65 rfl ?_
      refine ev_getf f12_66 (by assumption) rfl ?_
      refine ev_iload f12_69 rfl ?_
      refine ev_iald f12_71 (by assumption) (by omega) (by omega) ?_
      refine ev_istore f12_72 ?_
      refine ev_iincN f12_74 rfl ?_
      refine ev_goto (tgt := 24) f12_77 rfl ?_
      exact hi
    · rw [if_pos (show T.1 ((P x + j) % 2 ^ q) = r from Classical.not_not.mp hc)] at hi
      refine ev_aload_n f12_51 rfl ?_
      refine ev_getf f12_52 (by assumption) rfl ?_
      refine ev_iload f12_55 rfl ?_
      refine ev_iald f12_57 (by assumption) (by omega) (by omega) ?_
      refine ev_goto (tgt := 62) f12_58 rfl ?_
      first | refine ev_iaddN f12_62 ?_ | refine ev_iadd f12_62 ?_
      refine ev_istore f12_63 ?_
      refine ev_aload_n f12_65 rfl ?_
      refine ev_getf f12_66 (by assumption) rfl ?_
      refine ev_iload f12_69 rfl ?_
      refine ev_iald f12_71 (by assumption) (by omega) (by omega) ?_
      refine ev_istore f12_72 ?_
      refine ev_iincN f12_74 rfl ?_
      refine ev_goto (tgt := 24) f12_77 rfl ?_
      exact hi
theorem c12 {hs : amH} {l p q k : Nat} {g : Nat → Nat} {T : amTab} {F X : Nat → Int32} (t : TabAt hs p q T) (hlay : Lay (2 ^ q) (2 ^ (12 - q)) g (ovN (2 ^ q) (2 ^ (12 - q)) g + 2 ^ q) T) (hN : EE g 4096 * 8 ≤ 7 * 2 ^ q) (h : LisC hs l F X) {e : Nat} (hPe : PN (2 ^ q) (2 ^ (12 - q)) g e = e) (hI : LsI (2 ^ q) (PN (2 ^ q) (2 ^ (12 - q)) g) (LN (2 ^ q) (2 ^ (12 - q)) g) e F X (e + 2 ^ q)) (hk : k < 4096) : Cr 12 [.ref l, .ref p, .int (nI k)] hs (some (.int (nI (g k)))) hs := by
  have t9 := t
  have h9 := h
  obtain ⟨t0, h3, h8, x0, x1, x2, x3, x4, x5, y1, y2⟩ := t
  obtain ⟨p1, p2⟩ := am_pow h3 h8
  have hn : 0 < 2 ^ q := by omega
  have hm : 0 < 2 ^ (12 - q) := Nat.two_pow_pos _
  have hnm := am_nm h8
  have hN2 : EE g (2 ^ q * 2 ^ (12 - q)) < 2 ^ q := by rw [hnm]; omega
  have hlin := lay_lin hn hN2
  obtain ⟨h0, a0, a1, a2⟩ := h
  have hq := am_quo h3 h8 hk
  have hr := am_rem (k := k) h3
  -- the place of the window that is this quotient
  obtain ⟨x, w1, w2, w3⟩ : ∃ x, e ≤ x ∧ x < e + 2 ^ q ∧ x % 2 ^ q = k / 2 ^ (12 - q) := by
    have d := am_md e (2 ^ q)
    have dl := Nat.mod_lt e hn
    generalize k / 2 ^ (12 - q) = z at *
    by_cases hc : e % 2 ^ q ≤ z
    · exact ⟨z + e / 2 ^ q * 2 ^ q, by omega, by omega, by rw [Nat.add_mul_mod_self_right, Nat.mod_eq_of_lt hq]⟩
    · exact ⟨z + (e / 2 ^ q + 1) * 2 ^ q, by rw [Nat.succ_mul]; omega, by rw [Nat.succ_mul]; omega, by rw [Nat.add_mul_mod_self_right, Nat.mod_eq_of_lt hq]⟩
  obtain ⟨i1, i2⟩ := hI x w1 w2
  have hrun := lp_run hlin w2
  rw [hlin.2.2.1, hPe] at hrun
  have m1 : min (LN (2 ^ q) (2 ^ (12 - q)) g x) (e + 2 ^ q - PN (2 ^ q) (2 ^ (12 - q)) g x) = LN (2 ^ q) (2 ^ (12 - q)) g x := by omega
  rw [m1] at i1 i2
  rw [w3] at i1
  have hLx : LN (2 ^ q) (2 ^ (12 - q)) g x = lnN (2 ^ (12 - q)) g (k / 2 ^ (12 - q)) := by rw [LN_md, w3, LN_lt hq]
  have hPx : PN (2 ^ q) (2 ^ (12 - q)) g x % 2 ^ q = PN (2 ^ q) (2 ^ (12 - q)) g (k / 2 ^ (12 - q)) % 2 ^ q := by rw [PN_md, w3, Nat.add_mul_mod_self_right]
  have hsum := ans_sum hn hm hN2 hlay (k := k) (by omega)
  rw [← hLx, ← hPx] at hsum
  have hgk := EE_g g hk
  have hxx := hlin.2.2.2.2.1 x
  have l := l12 t9 h9 (P := PN (2 ^ q) (2 ^ (12 - q)) g) (L := LN (2 ^ q) (2 ^ (12 - q)) g) (x := x) hr (show g k < 2 ^ 30 by omega) (nI k) i2 (LN (2 ^ q) (2 ^ (12 - q)) g x) 0 0 (Nat.le_refl _) (by
    by_cases hz : LN (2 ^ q) (2 ^ (12 - q)) g x = 0
    · omega
    · have := lp_disp hlin (show 0 < LN (2 ^ q) (2 ^ (12 - q)) g x by omega)
      omega) (by rw [Nat.zero_add]; exact hsum)
  rw [← i1] at l
  refine cr_mk ow12 (Nat.le_of_ble_eq_true rfl) ?_
  refine ev_aload_n f12_0 rfl ?_
  refine ev_iload_n f12_1 rfl ?_
  refine ev_v1 f12_2 ow18 (by assumption) rfl (Nat.le_of_ble_eq_true rfl) (c18 t9 hk) ?_
  refine ev_istore_n f12_5 ?_
  refine ev_aload_n f12_6 rfl ?_
  refine ev_getf f12_7 (by assumption) rfl ?_
  refine ev_aload_n f12_10 rfl ?_
  refine ev_iload_n f12_11 rfl ?_
  refine ev_v1 f12_12 ow17 (by assumption) rfl (Nat.le_of_ble_eq_true rfl) (c17 t9 hk) ?_
  refine ev_iald f12_15 (by assumption) (by omega) (by omega) ?_
  refine ev_istore f12_16 ?_
  refine ev_iconstN (n := 0) f12_18 ?_
  refine ev_istore f12_19 ?_
  refine ev_iconstN (n := 0) f12_21 ?_
  refine ev_istore f12_22 ?_
  exact l
