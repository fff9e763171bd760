/-! the table's questions, as functions of what it holds; rows laid by wip/whole/walk.py -/
theorem l21 {hs : amH} {p q : Nat} {T : amTab} (h : TabAt hs p q T) : ∀ (d k : Nat), k + d = 2 ^ q → Ev 21 4 [some (.ref p), some (.int (nI (smN T.2.1 k))), some (.int (nI k))] [] hs 0 0 (.inl (some (.int (nI (smN T.2.1 (2 ^ q))))), hs, 0, 0) := by
  have h9 := h
  obtain ⟨h0, h3, h8, a0, a1, a2, a3, a4, a5, b1, b2⟩ := h
  obtain ⟨p1, p2⟩ := am_pow h3 h8
  intro d
  induction d with
  | zero =>
    intro k hk
    have hk2 : k = 2 ^ q := by omega
    subst hk2
    refine ev_iload_n f21_4 rfl ?_
    refine ev_aload_n f21_5 rfl ?_
    refine ev_v0 f21_6 ow14 (by assumption) (Nat.le_of_ble_eq_true rfl) (c14 h9) ?_
    refine ev_icN (by omega) (by omega) (tgt := 27) f21_9 rfl (fun _ => ?_) (fun h9 => absurd (by simp only [akN] at *; omega) h9)
    refine ev_iload_n f21_27 rfl ?_
    exact ev_iret f21_28 (rI rfl _) rfl
  | succ d ih =>
    intro k hk
    have hi := ih (k + 1) (by omega)
    refine ev_iload_n f21_4 rfl ?_
    refine ev_aload_n f21_5 rfl ?_
    refine ev_v0 f21_6 ow14 (by assumption) (Nat.le_of_ble_eq_true rfl) (c14 h9) ?_
    refine ev_icN (by omega) (by omega) (tgt := 27) f21_9 rfl (fun h9 => absurd h9 (by simp only [akN] at *; omega)) (fun _ => ?_)
    refine ev_iload_n f21_12 rfl ?_
    refine ev_aload_n f21_13 rfl ?_
    refine ev_getf f21_14 (by assumption) rfl ?_
    refine ev_iload_n f21_17 rfl ?_
    refine ev_iald f21_18 (by assumption) (by omega) (by omega) ?_
    first | refine ev_iaddN f21_19 ?_ | refine ev_iadd f21_19 ?_
    refine ev_istore_n f21_20 ?_
    refine ev_iincN f21_21 rfl ?_
    refine ev_goto (tgt := 4) f21_24 rfl ?_
    exact hi
theorem c21 {hs : amH} {p q : Nat} {T : amTab} (h : TabAt hs p q T) : Cr 21 [.ref p] hs (some (.int (nI (smN T.2.1 (2 ^ q))))) hs := by
  refine cr_mk ow21 (Nat.le_of_ble_eq_true rfl) ?_
  refine ev_iconstN (n := 0) f21_0 ?_
  refine ev_istore_n f21_1 ?_
  refine ev_iconstN (n := 0) f21_2 ?_
  refine ev_istore_n f21_3 ?_
  exact l21 h (2 ^ q) 0 (by omega)
/-- the first place from k on, d at most, that holds 0 -/
def fzF (f : Nat → Nat) : Nat → Nat → Nat
  | 0, k => k
  | d + 1, k => if f k = 0 then k else fzF f d (k + 1)
theorem l22 {hs : amH} {p q : Nat} {T : amTab} (h : TabAt hs p q T) : ∀ (d k : Nat), k + d = 2 ^ q - 1 → Ev 22 2 [some (.ref p), some (.int (nI k))] [] hs 0 0 (.inl (some (.int (nI (fzF T.2.1 d k)))), hs, 0, 0) := by
  have h9 := h
  obtain ⟨h0, h3, h8, a0, a1, a2, a3, a4, a5, b1, b2⟩ := h
  obtain ⟨p1, p2⟩ := am_pow h3 h8
  intro d
  induction d with
  | zero =>
    intro k hk
    refine ev_iload_n f22_2 rfl ?_
    refine ev_aload_n f22_3 rfl ?_
    refine ev_v0 f22_4 ow14 (by assumption) (Nat.le_of_ble_eq_true rfl) (c14 h9) ?_
    refine ev_iconstN (n := 1) f22_7 ?_
    refine ev_isubN (by omega) f22_8 ?_
    refine ev_icN (by omega) (by omega) (tgt := 26) f22_9 rfl (fun _ => ?_) (fun h9 => absurd (by simp only [akN] at *; omega) h9)
    refine ev_iload_n f22_26 rfl ?_
    exact ev_iret f22_27 (rI rfl _) rfl
  | succ d ih =>
    intro k hk
    have hi := ih (k + 1) (by omega)
    refine ev_iload_n f22_2 rfl ?_
    refine ev_aload_n f22_3 rfl ?_
    refine ev_v0 f22_4 ow14 (by assumption) (Nat.le_of_ble_eq_true rfl) (c14 h9) ?_
    refine ev_iconstN (n := 1) f22_7 ?_
    refine ev_isubN (by omega) f22_8 ?_
    refine ev_icN (by omega) (by omega) (tgt := 26) f22_9 rfl (fun h9 => absurd h9 (by simp only [akN] at *; omega)) (fun _ => ?_)
    refine ev_aload_n f22_12 rfl ?_
    refine ev_iload_n f22_13 rfl ?_
    refine ev_v1 f22_14 ow15 (by assumption) rfl (Nat.le_of_ble_eq_true rfl) (c15 h9 (by omega)) ?_
    unfold fzF
    refine ev_ifneB (tgt := 26) f22_17 rfl (fun hc => ?_) (fun hc => ?_)
    · rw [if_pos (of_decide_eq_true hc)]
      refine ev_iload_n f22_26 rfl ?_
      exact ev_iret f22_27 (rI rfl _) rfl
    · rw [if_neg (of_decide_eq_false hc)]
      refine ev_iincN f22_20 rfl ?_
      refine ev_goto (tgt := 2) f22_23 rfl ?_
      exact hi
theorem c22 {hs : amH} {p q : Nat} {T : amTab} (h : TabAt hs p q T) : Cr 22 [.ref p] hs (some (.int (nI (fzF T.2.1 (2 ^ q - 1) 0)))) hs := by
  refine cr_mk ow22 (Nat.le_of_ble_eq_true rfl) ?_
  refine ev_iconstN (n := 0) f22_0 ?_
  refine ev_istore_n f22_1 ?_
  exact l22 h (2 ^ q - 1) 0 (by omega)
/-- the next occupied place behind s -/
def oaF (oc : Nat → Bool) (n s : Nat) : Nat → Nat → Nat
  | 0, _ => s
  | d + 1, t => if oc ((s + t) % n) = true then (s + t) % n else oaF oc n s d (t + 1)
def oaN (oc : Nat → Bool) (n s : Nat) : Nat := oaF oc n s (n - 1) 1
theorem oaF_lt {oc : Nat → Bool} {n s : Nat} (hs : s < n) : ∀ (d t : Nat), oaF oc n s d t < n
  | 0, _ => hs
  | d + 1, t => by
    unfold oaF
    split
    · exact Nat.mod_lt _ (by omega)
    · exact oaF_lt hs d (t + 1)
theorem l23 {hs : amH} {p q : Nat} {T : amTab} (h : TabAt hs p q T) {s : Nat} (hs2 : s < 2 ^ q) : ∀ (d t : Nat) (w : Option Value), t + d = 2 ^ q → Ev 23 2 [some (.ref p), some (.int (nI s)), some (.int (nI t)), w] [] hs 0 0 (.inl (some (.int (nI (oaF T.2.2.1 (2 ^ q) s d t)))), hs, 0, 0) := by
  have h9 := h
  obtain ⟨h0, h3, h8, a0, a1, a2, a3, a4, a5, b1, b2⟩ := h
  obtain ⟨p1, p2⟩ := am_pow h3 h8
  intro d
  induction d with
  | zero =>
    intro t w hk
    refine ev_iload_n f23_2 rfl ?_
    refine ev_aload_n f23_3 rfl ?_
    refine ev_v0 f23_4 ow14 (by assumption) (Nat.le_of_ble_eq_true rfl) (c14 h9) ?_
    refine ev_icN (by omega) (by omega) (tgt := 35) f23_7 rfl (fun _ => ?_) (fun h9 => absurd (by simp only [akN] at *; omega) h9)
    refine ev_iload_n f23_35 rfl ?_
    exact ev_iret f23_36 (rI rfl _) rfl
  | succ d ih =>
    intro t w hk
    have hm : (s + t) % 2 ^ q < 2 ^ q := Nat.mod_lt _ (by omega)
    have hi := fun w => ih (t + 1) w (by omega)
    refine ev_iload_n f23_2 rfl ?_
    refine ev_aload_n f23_3 rfl ?_
    refine ev_v0 f23_4 ow14 (by assumption) (Nat.le_of_ble_eq_true rfl) (c14 h9) ?_
    refine ev_icN (by omega) (by omega) (tgt := 35) f23_7 rfl (fun h9 => absurd h9 (by simp only [akN] at *; omega)) (fun _ => ?_)
    refine ev_aload_n f23_10 rfl ?_
    refine ev_iload_n f23_11 rfl ?_
    refine ev_iload_n f23_12 rfl ?_
    first | refine ev_iaddN f23_13 ?_ | refine ev_iadd f23_13 ?_
    refine ev_v1 f23_14 ow16 (by assumption) rfl (Nat.le_of_ble_eq_true rfl) (c16 h9 (by omega)) ?_
    refine ev_istore_n f23_17 ?_
    refine ev_aload_n f23_18 rfl ?_
    refine ev_getf f23_19 (by assumption) rfl ?_
    refine ev_iload_n f23_22 rfl ?_
    refine ev_bald f23_23 (by assumption) (by omega) (by omega) ?_
    unfold oaF
    refine ev_ifeqB (tgt := 29) f23_24 rfl (fun hc => ?_) (fun hc => ?_)
    · rw [if_neg (by rw [hc]; exact Bool.false_ne_true)]
      refine ev_iincN f23_29 rfl ?_
      refine ev_goto (tgt := 2) f23_32 rfl ?_
      exact hi _
    · rw [if_pos hc]
      refine ev_iload_n f23_27 rfl ?_
      exact ev_iret f23_28 (rI rfl _) rfl
theorem c23 {hs : amH} {p q : Nat} {T : amTab} (h : TabAt hs p q T) {s : Nat} (hs2 : s < 2 ^ q) : Cr 23 [.ref p, .int (nI s)] hs (some (.int (nI (oaN T.2.2.1 (2 ^ q) s)))) hs := by
  have hp := am_pow h.2.1 h.2.2.1
  refine cr_mk ow23 (Nat.le_of_ble_eq_true rfl) ?_
  refine ev_iconstN (n := 1) f23_0 ?_
  refine ev_istore_n f23_1 ?_
  exact l23 h hs2 (2 ^ q - 1) 1 _ (by omega)
/-- back to the first place that isn't shifted -/
def fcF (sh : Nat → Bool) (n : Nat) : Nat → Nat → Nat
  | 0, f => f
  | d + 1, f => if sh f = true then fcF sh n d ((f + (n - 1)) % n) else f
def fcN (sh : Nat → Bool) (n f : Nat) : Nat := fcF sh n n f
theorem fcF_lt {sh : Nat → Bool} {n : Nat} : ∀ (d f : Nat), f < n → fcF sh n d f < n
  | 0, _, h => h
  | d + 1, f, h => by
    unfold fcF
    split
    · exact fcF_lt d _ (Nat.mod_lt _ (by omega))
    · exact h
theorem l24 {hs : amH} {p q : Nat} {T : amTab} (h : TabAt hs p q T) (v : Int32) : ∀ (d t f : Nat), t + d = 2 ^ q → f < 2 ^ q → Ev 24 4 [some (.ref p), some (.int v), some (.int (nI f)), some (.int (nI t))] [] hs 0 0 (.inl (some (.int (nI (fcF T.2.2.2.2 (2 ^ q) d f)))), hs, 0, 0) := by
  have h9 := h
  obtain ⟨h0, h3, h8, a0, a1, a2, a3, a4, a5, b1, b2⟩ := h
  obtain ⟨p1, p2⟩ := am_pow h3 h8
  intro d
  induction d with
  | zero =>
    intro t f hk hf
    refine ev_iload_n f24_4 rfl ?_
    refine ev_aload_n f24_5 rfl ?_
    refine ev_v0 f24_6 ow14 (by assumption) (Nat.le_of_ble_eq_true rfl) (c14 h9) ?_
    refine ev_icN (by omega) (by omega) (tgt := 35) f24_9 rfl (fun _ => ?_) (fun h9 => absurd (by simp only [akN] at *; omega) h9)
    refine ev_iload_n f24_35 rfl ?_
    exact ev_iret f24_36 (rI rfl _) rfl
  | succ d ih =>
    intro t f hk hf
    have hi := ih (t + 1) ((f + (2 ^ q - 1)) % 2 ^ q) (by omega) (Nat.mod_lt _ (by omega))
    refine ev_iload_n f24_4 rfl ?_
    refine ev_aload_n f24_5 rfl ?_
    refine ev_v0 f24_6 ow14 (by assumption) (Nat.le_of_ble_eq_true rfl) (c14 h9) ?_
    refine ev_icN (by omega) (by omega) (tgt := 35) f24_9 rfl (fun h9 => absurd h9 (by simp only [akN] at *; omega)) (fun _ => ?_)
    refine ev_aload_n f24_12 rfl ?_
    refine ev_getf f24_13 (by assumption) rfl ?_
    refine ev_iload_n f24_16 rfl ?_
    refine ev_bald f24_17 (by assumption) (by omega) (by omega) ?_
    unfold fcF
    refine ev_ifeqB (tgt := 35) f24_18 rfl (fun hc => ?_) (fun hc => ?_)
    · rw [if_neg (by rw [hc]; exact Bool.false_ne_true)]
      refine ev_iload_n f24_35 rfl ?_
      exact ev_iret f24_36 (rI rfl _) rfl
    · rw [if_pos hc]
      refine ev_aload_n f24_21 rfl ?_
      refine ev_iload_n f24_22 rfl ?_
      refine ev_iconstN (n := 1) f24_23 ?_
      refine ev_isub f24_24 ?_
      refine ev_v1 f24_25 ow16 (by assumption) rfl (Nat.le_of_ble_eq_true rfl) (c16m h9 hf) ?_
      refine ev_istore_n f24_28 ?_
      refine ev_iincN f24_29 rfl ?_
      refine ev_goto (tgt := 4) f24_32 rfl ?_
      exact hi
theorem c24 {hs : amH} {p q : Nat} {T : amTab} (h : TabAt hs p q T) {f : Nat} (hf : f < 2 ^ q) : Cr 24 [.ref p, .int (nI f)] hs (some (.int (nI (fcN T.2.2.2.2 (2 ^ q) f)))) hs := by
  refine cr_mk ow24 (Nat.le_of_ble_eq_true rfl) ?_
  refine ev_iload_n f24_0 rfl ?_
  refine ev_istore_n f24_1 ?_
  refine ev_iconstN (n := 0) f24_2 ?_
  refine ev_istore_n f24_3 ?_
  exact l24 h (nI f) (2 ^ q) 0 f (by omega) hf
/-- the length of the run that begins at f -/
def lrF (cn : Nat → Bool) (n f : Nat) : Nat → Nat → Nat
  | 0, k => k
  | d + 1, k => if cn ((f + k) % n) = true then lrF cn n f d (k + 1) else k
def lrN (cn : Nat → Bool) (n f : Nat) : Nat := lrF cn n f (n - 1) 1
theorem lrF_le {cn : Nat → Bool} {n f : Nat} : ∀ (d k : Nat), lrF cn n f d k ≤ k + d
  | 0, k => Nat.le_refl k
  | d + 1, k => by
    have h := lrF_le (cn := cn) (n := n) (f := f) d (k + 1)
    unfold lrF
    split <;> omega
theorem lrN_le {cn : Nat → Bool} {n f : Nat} (hn : 0 < n) : lrN cn n f ≤ n := by
  have h := lrF_le (cn := cn) (n := n) (f := f) (n - 1) 1
  unfold lrN
  omega
theorem l26 {hs : amH} {p q : Nat} {T : amTab} (h : TabAt hs p q T) {f : Nat} (hf : f < 2 ^ q) : ∀ (d k : Nat), k + d = 2 ^ q → Ev 26 2 [some (.ref p), some (.int (nI f)), some (.int (nI k))] [] hs 0 0 (.inl (some (.int (nI (lrF T.2.2.2.1 (2 ^ q) f d k)))), hs, 0, 0) := by
  have h9 := h
  obtain ⟨h0, h3, h8, a0, a1, a2, a3, a4, a5, b1, b2⟩ := h
  obtain ⟨p1, p2⟩ := am_pow h3 h8
  intro d
  induction d with
  | zero =>
    intro k hk
    refine ev_iload_n f26_2 rfl ?_
    refine ev_aload_n f26_3 rfl ?_
    refine ev_v0 f26_4 ow14 (by assumption) (Nat.le_of_ble_eq_true rfl) (c14 h9) ?_
    refine ev_icN (by omega) (by omega) (tgt := 31) f26_7 rfl (fun _ => ?_) (fun h9 => absurd (by simp only [akN] at *; omega) h9)
    refine ev_iload_n f26_31 rfl ?_
    exact ev_iret f26_32 (rI rfl _) rfl
  | succ d ih =>
    intro k hk
    have hm : (f + k) % 2 ^ q < 2 ^ q := Nat.mod_lt _ (by omega)
    have hi := ih (k + 1) (by omega)
    refine ev_iload_n f26_2 rfl ?_
    refine ev_aload_n f26_3 rfl ?_
    refine ev_v0 f26_4 ow14 (by assumption) (Nat.le_of_ble_eq_true rfl) (c14 h9) ?_
    refine ev_icN (by omega) (by omega) (tgt := 31) f26_7 rfl (fun h9 => absurd h9 (by simp only [akN] at *; omega)) (fun _ => ?_)
    refine ev_aload_n f26_10 rfl ?_
    refine ev_getf f26_11 (by assumption) rfl ?_
    refine ev_aload_n f26_14 rfl ?_
    refine ev_iload_n f26_15 rfl ?_
    refine ev_iload_n f26_16 rfl ?_
    first | refine ev_iaddN f26_17 ?_ | refine ev_iadd f26_17 ?_
    refine ev_v1 f26_18 ow16 (by assumption) rfl (Nat.le_of_ble_eq_true rfl) (c16 h9 (by omega)) ?_
    refine ev_bald f26_21 (by assumption) (by omega) (by omega) ?_
    unfold lrF
    refine ev_ifeqB (tgt := 31) f26_22 rfl (fun hc => ?_) (fun hc => ?_)
    · rw [if_neg (by rw [hc]; exact Bool.false_ne_true)]
      refine ev_iload_n f26_31 rfl ?_
      exact ev_iret f26_32 (rI rfl _) rfl
    · rw [if_pos hc]
      refine ev_iincN f26_25 rfl ?_
      refine ev_goto (tgt := 2) f26_28 rfl ?_
      exact hi
theorem c26 {hs : amH} {p q : Nat} {T : amTab} (h : TabAt hs p q T) {f : Nat} (hf : f < 2 ^ q) : Cr 26 [.ref p, .int (nI f)] hs (some (.int (nI (lrN T.2.2.2.1 (2 ^ q) f)))) hs := by
  have hp := am_pow h.2.1 h.2.2.1
  refine cr_mk ow26 (Nat.le_of_ble_eq_true rfl) ?_
  refine ev_iconstN (n := 1) f26_0 ?_
  refine ev_istore_n f26_1 ?_
  exact l26 h hf (2 ^ q - 1) 1 (by omega)
/-- from run to run, until a quotient is reached -/
def frF (T : amTab) (n t : Nat) : Nat → Nat → Nat → Nat
  | 0, s, _ => s
  | d + 1, s, r => if r = t then s else frF T n t d ((s + lrN T.2.2.2.1 n s) % n) (oaN T.2.2.1 n r)
def frN (T : amTab) (n t : Nat) : Nat := frF T n t n (fcN T.2.2.2.2 n t) (fcN T.2.2.2.2 n t)
theorem frF_lt {T : amTab} {n t : Nat} : ∀ (d s r : Nat), s < n → frF T n t d s r < n
  | 0, _, _, h => h
  | d + 1, s, r, h => by
    unfold frF
    split
    · exact h
    · exact frF_lt d _ _ (Nat.mod_lt _ (by omega))
theorem frN_lt {T : amTab} {n t : Nat} (h : t < n) : frN T n t < n := frF_lt _ _ _ (fcF_lt _ _ h)
theorem l25 {hs : amH} {p q : Nat} {T : amTab} (h : TabAt hs p q T) {t : Nat} (ht : t < 2 ^ q) : ∀ (d k s r : Nat), k + d = 2 ^ q → s < 2 ^ q → r < 2 ^ q → Ev 25 22 [some (.ref p), some (.int (nI t)), some (.int (nI s)), some (.int (nI r)), some (.int (nI k))] [] hs 0 0 (.inl (some (.int (nI (frF T (2 ^ q) t d s r)))), hs, 0, 0) := by
  have h9 := h
  obtain ⟨h0, h3, h8, a0, a1, a2, a3, a4, a5, b1, b2⟩ := h
  obtain ⟨p1, p2⟩ := am_pow h3 h8
  intro d
  induction d with
  | zero =>
    intro k s r hk hs2 hr
    refine ev_iload f25_22 rfl ?_
    refine ev_aload_n f25_24 rfl ?_
    refine ev_v0 f25_25 ow14 (by assumption) (Nat.le_of_ble_eq_true rfl) (c14 h9) ?_
    refine ev_icN (by omega) (by omega) (tgt := 60) f25_28 rfl (fun _ => ?_) (fun h9 => absurd (by simp only [akN] at *; omega) h9)
    refine ev_iload_n f25_60 rfl ?_
    exact ev_iret f25_61 (rI rfl _) rfl
  | succ d ih =>
    intro k s r hk hs2 hr
    have hl := lrN_le (cn := T.2.2.2.1) (f := s) (show 0 < 2 ^ q by omega)
    have hi := ih (k + 1) ((s + lrN T.2.2.2.1 (2 ^ q) s) % 2 ^ q) (oaN T.2.2.1 (2 ^ q) r) (by omega) (Nat.mod_lt _ (by omega)) (oaF_lt hr _ _)
    refine ev_iload f25_22 rfl ?_
    refine ev_aload_n f25_24 rfl ?_
    refine ev_v0 f25_25 ow14 (by assumption) (Nat.le_of_ble_eq_true rfl) (c14 h9) ?_
    refine ev_icN (by omega) (by omega) (tgt := 60) f25_28 rfl (fun h9 => absurd h9 (by simp only [akN] at *; omega)) (fun _ => ?_)
    refine ev_iload_n f25_31 rfl ?_
    refine ev_iload_n f25_32 rfl ?_
    unfold frF
    refine ev_icN (by omega) (by omega) (tgt := 60) f25_33 rfl (fun hc => ?_) (fun hc => ?_)
    · rw [if_pos (show r = t from hc)]
      refine ev_iload_n f25_60 rfl ?_
      exact ev_iret f25_61 (rI rfl _) rfl
    · rw [if_neg (show ¬ r = t from hc)]
      refine ev_aload_n f25_36 rfl ?_
      refine ev_iload_n f25_37 rfl ?_
      refine ev_aload_n f25_38 rfl ?_
      refine ev_iload_n f25_39 rfl ?_
      refine ev_v1 f25_40 ow26 (by assumption) rfl (Nat.le_of_ble_eq_true rfl) (c26 h9 hs2) ?_
      first | refine ev_iaddN f25_43 ?_ | refine ev_iadd f25_43 ?_
      refine ev_v1 f25_44 ow16 (by assumption) rfl (Nat.le_of_ble_eq_true rfl) (c16 h9 (by omega)) ?_
      refine ev_istore_n f25_47 ?_
      refine ev_aload_n f25_48 rfl ?_
      refine ev_iload_n f25_49 rfl ?_
      refine ev_v1 f25_50 ow23 (by assumption) rfl (Nat.le_of_ble_eq_true rfl) (c23 h9 hr) ?_
      refine ev_istore_n f25_53 ?_
      refine ev_iincN f25_54 rfl ?_
      refine ev_goto (tgt := 22) f25_57 rfl ?_
      exact hi
theorem c25 {hs : amH} {p q : Nat} {T : amTab} (h : TabAt hs p q T) {t : Nat} (ht : t < 2 ^ q) (ho : T.2.2.1 t = true) : Cr 25 [.ref p, .int (nI t)] hs (some (.int (nI (frN T (2 ^ q) t)))) hs := by
  have h9 := h
  obtain ⟨h0, h3, h8, a0, a1, a2, a3, a4, a5, b1, b2⟩ := h
  obtain ⟨p1, p2⟩ := am_pow h3 h8
  refine cr_mk ow25 (Nat.le_of_ble_eq_true rfl) ?_
  refine ev_aload_n f25_0 rfl ?_
  refine ev_getf f25_1 (by assumption) rfl ?_
  refine ev_iload_n f25_4 rfl ?_
  refine ev_bald f25_5 (by assumption) (by omega) (by omega) ?_
  refine ev_ifneB (tgt := 11) f25_6 rfl (fun _ => ?_) (fun h9 => Bool.noConfusion (h9.symm.trans (ho)))
  refine ev_aload_n f25_11 rfl ?_
  refine ev_iload_n f25_12 rfl ?_
  refine ev_v1 f25_13 ow24 (by assumption) rfl (Nat.le_of_ble_eq_true rfl) (c24 h9 ht) ?_
  refine ev_istore_n f25_16 ?_
  refine ev_iload_n f25_17 rfl ?_
  refine ev_istore_n f25_18 ?_
  refine ev_iconstN (n := 0) f25_19 ?_
  refine ev_istore f25_20 ?_
  exact l25 h9 ht (2 ^ q) 0 _ _ (by omega) (fcF_lt _ _ ht) (fcF_lt _ _ ht)
theorem c25n {hs : amH} {p q : Nat} {T : amTab} (h : TabAt hs p q T) {t : Nat} (ht : t < 2 ^ q) (ho : T.2.2.1 t = false) : Cr 25 [.ref p, .int (nI t)] hs (some (.int (Int32.ofInt (-1)))) hs := by
  have h9 := h
  obtain ⟨h0, h3, h8, a0, a1, a2, a3, a4, a5, b1, b2⟩ := h
  obtain ⟨p1, p2⟩ := am_pow h3 h8
  refine cr_mk ow25 (Nat.le_of_ble_eq_true rfl) ?_
  refine ev_aload_n f25_0 rfl ?_
  refine ev_getf f25_1 (by assumption) rfl ?_
  refine ev_iload_n f25_4 rfl ?_
  refine ev_bald f25_5 (by assumption) (by omega) (by omega) ?_
  refine ev_ifneB (tgt := 11) f25_6 rfl (fun h9 => Bool.noConfusion (h9.symm.trans (ho))) (fun _ => ?_)
  refine ev_iconst f25_9 ?_
  exact ev_iret f25_10 (rI rfl _) rfl
/-- forward from a cluster's start to a place -/
def qeF (T : amTab) (n z : Nat) : Nat → Nat → Nat → Nat
  | 0, _, u => u
  | d + 1, a, u => if a = z then u else qeF T n z d ((a + 1) % n) (if T.2.2.2.1 ((a + 1) % n) = true then u else oaN T.2.2.1 n u)
def qeN (T : amTab) (n z : Nat) : Nat := qeF T n z n (fcN T.2.2.2.2 n z) (fcN T.2.2.2.2 n z)
theorem l27 {hs : amH} {p q : Nat} {T : amTab} (h : TabAt hs p q T) {z : Nat} (hz : z < 2 ^ q) : ∀ (d k a u : Nat), k + d = 2 ^ q → a < 2 ^ q → u < 2 ^ q → Ev 27 11 [some (.ref p), some (.int (nI z)), some (.int (nI a)), some (.int (nI u)), some (.int (nI k))] [] hs 0 0 (.inl (some (.int (nI (qeF T (2 ^ q) z d a u)))), hs, 0, 0) := by
  have h9 := h
  obtain ⟨h0, h3, h8, a0, a1, a2, a3, a4, a5, b1, b2⟩ := h
  obtain ⟨p1, p2⟩ := am_pow h3 h8
  intro d
  induction d with
  | zero =>
    intro k a u hk ha hu
    refine ev_iload f27_11 rfl ?_
    refine ev_aload_n f27_13 rfl ?_
    refine ev_v0 f27_14 ow14 (by assumption) (Nat.le_of_ble_eq_true rfl) (c14 h9) ?_
    refine ev_icN (by omega) (by omega) (tgt := 54) f27_17 rfl (fun _ => ?_) (fun h9 => absurd (by simp only [akN] at *; omega) h9)
    refine ev_iload_n f27_54 rfl ?_
    exact ev_iret f27_55 (rI rfl _) rfl
  | succ d ih =>
    intro k a u hk ha hu
    have hm : (a + 1) % 2 ^ q < 2 ^ q := Nat.mod_lt _ (by omega)
    have hi := fun u hu => ih (k + 1) ((a + 1) % 2 ^ q) u (by omega) hm hu
    refine ev_iload f27_11 rfl ?_
    refine ev_aload_n f27_13 rfl ?_
    refine ev_v0 f27_14 ow14 (by assumption) (Nat.le_of_ble_eq_true rfl) (c14 h9) ?_
    refine ev_icN (by omega) (by omega) (tgt := 54) f27_17 rfl (fun h9 => absurd h9 (by simp only [akN] at *; omega)) (fun _ => ?_)
    refine ev_iload_n f27_20 rfl ?_
    refine ev_iload_n f27_21 rfl ?_
    unfold qeF
    refine ev_icN (by omega) (by omega) (tgt := 54) f27_22 rfl (fun hc => ?_) (fun hc => ?_)
    · rw [if_pos (show a = z from hc)]
      refine ev_iload_n f27_54 rfl ?_
      exact ev_iret f27_55 (rI rfl _) rfl
    · rw [if_neg (show ¬ a = z from hc)]
      refine ev_aload_n f27_25 rfl ?_
      refine ev_iload_n f27_26 rfl ?_
      refine ev_iconstN (n := 1) f27_27 ?_
      first | refine ev_iaddN f27_28 ?_ | refine ev_iadd f27_28 ?_
      refine ev_v1 f27_29 ow16 (by assumption) rfl (Nat.le_of_ble_eq_true rfl) (c16 h9 (by omega)) ?_
      refine ev_istore_n f27_32 ?_
      refine ev_aload_n f27_33 rfl ?_
      refine ev_getf f27_34 (by assumption) rfl ?_
      refine ev_iload_n f27_37 rfl ?_
      refine ev_bald f27_38 (by assumption) (by omega) (by omega) ?_
      refine ev_ifneB (tgt := 48) f27_39 rfl (fun hc => ?_) (fun hc => ?_)
      · rw [if_pos hc]
        refine ev_iincN f27_48 rfl ?_
        refine ev_goto (tgt := 11) f27_51 rfl ?_
        exact hi u hu
      · rw [if_neg (by rw [hc]; exact Bool.false_ne_true)]
        refine ev_aload_n f27_42 rfl ?_
        refine ev_iload_n f27_43 rfl ?_
        refine ev_v1 f27_44 ow23 (by assumption) rfl (Nat.le_of_ble_eq_true rfl) (c23 h9 hu) ?_
        refine ev_istore_n f27_47 ?_
        refine ev_iincN f27_48 rfl ?_
        refine ev_goto (tgt := 11) f27_51 rfl ?_
        exact hi _ (oaF_lt hu _ _)
theorem c27 {hs : amH} {p q : Nat} {T : amTab} (h : TabAt hs p q T) {z : Nat} (hz : z < 2 ^ q) : Cr 27 [.ref p, .int (nI z)] hs (some (.int (nI (qeN T (2 ^ q) z)))) hs := by
  have h9 := h
  obtain ⟨h0, h3, h8, a0, a1, a2, a3, a4, a5, b1, b2⟩ := h
  refine cr_mk ow27 (Nat.le_of_ble_eq_true rfl) ?_
  refine ev_aload_n f27_0 rfl ?_
  refine ev_iload_n f27_1 rfl ?_
  refine ev_v1 f27_2 ow24 (by assumption) rfl (Nat.le_of_ble_eq_true rfl) (c24 h9 hz) ?_
  refine ev_istore_n f27_5 ?_
  refine ev_iload_n f27_6 rfl ?_
  refine ev_istore_n f27_7 ?_
  refine ev_iconstN (n := 0) f27_8 ?_
  refine ev_istore f27_9 ?_
  exact l27 h9 hz (2 ^ q) 0 _ _ (by omega) (fcF_lt _ _ hz) (fcF_lt _ _ hz)
