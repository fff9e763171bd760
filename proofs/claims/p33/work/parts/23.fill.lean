/-! wipe, writeEntries, endInLine, fill; rows laid by wip/whole/walk.py -/
section TS
variable {hs hs1 : amH} {p q s : Nat} {T : amTab}
theorem am_upI {f : Nat → Nat} {v : Nat} {o : Option amC} (h : o = some (.inl (.int, 256, .inl (upd (fun j => nI (f j)) s (nI v))))) : o = some (.inl (.int, 256, .inl (fun j => nI (updN f s v j)))) := by rw [h, upd_N]
theorem am_upZ {f : Nat → Bool} {b : Bool} {o : Option amC} (h : o = some (.inl (.boolean, 256, .inl (upd (fun j => nI (f j).toNat) s (vp_nar .boolean (nI b.toNat)))))) : o = some (.inl (.boolean, 256, .inl (fun j => nI (updB f s b j).toNat))) := by rw [h, upd_B]
theorem tab_s1 {v : Nat} (h : TabAt hs p q T) (e : hs1 = hs.set (p + 1) (.inl (.int, 256, .inl (upd (fun j => nI (T.1 j)) s (nI v))))) (hv : v < 4096) : TabAt hs1 p q (updN T.1 s v, T.2) := by
  obtain ⟨h0, h3, h8, a0, a1, a2, a3, a4, a5, b1, b2⟩ := h
  refine ⟨h0, h3, h8, (am_set2 e (by omega)).trans a0, am_upI (am_set e a1), (am_set2 e (by omega)).trans a2, (am_set2 e (by omega)).trans a3, (am_set2 e (by omega)).trans a4, (am_set2 e (by omega)).trans a5, fun j => ?_, b2⟩
  show updN T.1 s v j < 4096
  unfold updN
  split
  · exact hv
  · exact b1 j
theorem tab_s2 {v : Nat} (h : TabAt hs p q T) (e : hs1 = hs.set (p + 2) (.inl (.int, 256, .inl (upd (fun j => nI (T.2.1 j)) s (nI v))))) (hv : v ≤ 7) : TabAt hs1 p q (T.1, updN T.2.1 s v, T.2.2) := by
  obtain ⟨h0, h3, h8, a0, a1, a2, a3, a4, a5, b1, b2⟩ := h
  refine ⟨h0, h3, h8, (am_set2 e (by omega)).trans a0, (am_set2 e (by omega)).trans a1, am_upI (am_set e a2), (am_set2 e (by omega)).trans a3, (am_set2 e (by omega)).trans a4, (am_set2 e (by omega)).trans a5, b1, fun j => ?_⟩
  show updN T.2.1 s v j ≤ 7
  unfold updN
  split
  · exact hv
  · exact b2 j
theorem tab_s3 {b : Bool} (h : TabAt hs p q T) (e : hs1 = hs.set (p + 3) (.inl (.boolean, 256, .inl (upd (fun j => nI (T.2.2.1 j).toNat) s (vp_nar .boolean (nI b.toNat)))))) : TabAt hs1 p q (T.1, T.2.1, updB T.2.2.1 s b, T.2.2.2) := by
  obtain ⟨h0, h3, h8, a0, a1, a2, a3, a4, a5, b1, b2⟩ := h
  exact ⟨h0, h3, h8, (am_set2 e (by omega)).trans a0, (am_set2 e (by omega)).trans a1, (am_set2 e (by omega)).trans a2, am_upZ (am_set e a3), (am_set2 e (by omega)).trans a4, (am_set2 e (by omega)).trans a5, b1, b2⟩
theorem tab_s4 {b : Bool} (h : TabAt hs p q T) (e : hs1 = hs.set (p + 4) (.inl (.boolean, 256, .inl (upd (fun j => nI (T.2.2.2.1 j).toNat) s (vp_nar .boolean (nI b.toNat)))))) : TabAt hs1 p q (T.1, T.2.1, T.2.2.1, updB T.2.2.2.1 s b, T.2.2.2.2) := by
  obtain ⟨h0, h3, h8, a0, a1, a2, a3, a4, a5, b1, b2⟩ := h
  exact ⟨h0, h3, h8, (am_set2 e (by omega)).trans a0, (am_set2 e (by omega)).trans a1, (am_set2 e (by omega)).trans a2, (am_set2 e (by omega)).trans a3, am_upZ (am_set e a4), (am_set2 e (by omega)).trans a5, b1, b2⟩
theorem tab_s5 {b : Bool} (h : TabAt hs p q T) (e : hs1 = hs.set (p + 5) (.inl (.boolean, 256, .inl (upd (fun j => nI (T.2.2.2.2 j).toNat) s (vp_nar .boolean (nI b.toNat)))))) : TabAt hs1 p q (T.1, T.2.1, T.2.2.1, T.2.2.2.1, updB T.2.2.2.2 s b) := by
  obtain ⟨h0, h3, h8, a0, a1, a2, a3, a4, a5, b1, b2⟩ := h
  exact ⟨h0, h3, h8, (am_set2 e (by omega)).trans a0, (am_set2 e (by omega)).trans a1, (am_set2 e (by omega)).trans a2, (am_set2 e (by omega)).trans a3, (am_set2 e (by omega)).trans a4, am_upZ (am_set e a5), b1, b2⟩
end TS
def wpN (f : Nat → Nat) (k : Nat) : Nat → Nat := fun j => if j < k then 0 else f j
def wpB (f : Nat → Bool) (k : Nat) : Nat → Bool := fun j => if j < k then false else f j
theorem wpN_s (f : Nat → Nat) (k : Nat) : updN (wpN f k) k 0 = wpN f (k + 1) := by
  funext j
  unfold updN wpN
  split
  · rw [if_pos (by omega)]
  · by_cases h : j < k
    · rw [if_pos h, if_pos (by omega)]
    · rw [if_neg h, if_neg (by omega)]
theorem wpB_s (f : Nat → Bool) (k : Nat) : updB (wpB f k) k false = wpB f (k + 1) := by
  funext j
  unfold updB wpB
  split
  · rw [if_pos (by omega)]
  · by_cases h : j < k
    · rw [if_pos h, if_pos (by omega)]
    · rw [if_neg h, if_neg (by omega)]
def wpT (T : amTab) (k : Nat) : amTab := (wpN T.1 k, wpN T.2.1 k, wpB T.2.2.1 k, wpB T.2.2.2.1 k, wpB T.2.2.2.2 k)
theorem wpT_0 (T : amTab) : wpT T 0 = T := rfl
theorem l32 {p q : Nat} (T : amTab) : ∀ (d k : Nat) (hs : amH), k + d = 256 → TabAt hs p q (wpT T k) → EvQ 32 2 [some (.ref p), some (.int (nI k))] [] hs 0 0 (Rt none (fun hs' => TabAt hs' p q (wpT T 256) ∧ Fr hs hs' p (p + 6))) := by
  intro d
  induction d with
  | zero =>
    intro k hs hk h
    have hk2 : k = 256 := by omega
    subst hk2
    refine eq_ (fun _ k => ev_iload_n f32_2 rfl k) ?_
    refine eq_ (fun _ k => ev_sipushN (n := 256) (by decide +kernel) f32_3 k) ?_
    refine eq_icN (by omega) (by omega) (tgt := 50) f32_6 rfl (fun _ => ?_) (fun h9 => absurd (by simp only [akN] at *; omega) h9)
    refine ⟨_, ev_vret f32_50 rfl, ?_⟩
    exact ⟨_, rfl, h, Fr.refl⟩
  | succ d ih =>
    intro k hs hk h
    have h9 := h
    obtain ⟨h0, h3, h8, a0, a1, a2, a3, a4, a5, b1, b2⟩ := h
    refine eq_ (fun _ k => ev_iload_n f32_2 rfl k) ?_
    refine eq_ (fun _ k => ev_sipushN (n := 256) (by decide +kernel) f32_3 k) ?_
    refine eq_icN (by omega) (by omega) (tgt := 50) f32_6 rfl (fun h9 => absurd h9 (by simp only [akN] at *; omega)) (fun _ => ?_)
    refine eq_ (fun _ k => ev_aload_n f32_9 rfl k) ?_
    refine eq_ (fun _ k => ev_getf f32_10 (by assumption) rfl k) ?_
    refine eq_ (fun _ k => ev_iload_n f32_13 rfl k) ?_
    refine eq_ (fun _ k => ev_iconstN (n := 0) f32_14 k) ?_
    refine eq_iast f32_15 (by assumption) (by omega) (by omega) (by omega) (fun hs1 e1 => ?_)
    have t1 := tab_s1 h9 e1 (by omega)
    have tt := t1
    obtain ⟨-, -, -, a0, a1, a2, a3, a4, a5, -, -⟩ := tt
    refine eq_ (fun _ k => ev_aload_n f32_16 rfl k) ?_
    refine eq_ (fun _ k => ev_getf f32_17 (by assumption) rfl k) ?_
    refine eq_ (fun _ k => ev_iload_n f32_20 rfl k) ?_
    refine eq_ (fun _ k => ev_iconstN (n := 0) f32_21 k) ?_
    refine eq_iast f32_22 (by assumption) (by omega) (by omega) (by omega) (fun hs2 e2 => ?_)
    have t2 := tab_s2 t1 e2 (by omega)
    have tt := t2
    obtain ⟨-, -, -, a0, a1, a2, a3, a4, a5, -, -⟩ := tt
    refine eq_ (fun _ k => ev_aload_n f32_23 rfl k) ?_
    refine eq_ (fun _ k => ev_getf f32_24 (by assumption) rfl k) ?_
    refine eq_ (fun _ k => ev_iload_n f32_27 rfl k) ?_
    refine eq_ (fun _ k => ev_iconstN (n := 0) f32_28 k) ?_
    refine eq_bast f32_29 (by assumption) (by omega) (by omega) (by omega) (fun hs3 e3 => ?_)
    have t3 := tab_s3 (b := false) t2 e3
    have tt := t3
    obtain ⟨-, -, -, a0, a1, a2, a3, a4, a5, -, -⟩ := tt
    refine eq_ (fun _ k => ev_aload_n f32_30 rfl k) ?_
    refine eq_ (fun _ k => ev_getf f32_31 (by assumption) rfl k) ?_
    refine eq_ (fun _ k => ev_iload_n f32_34 rfl k) ?_
    refine eq_ (fun _ k => ev_iconstN (n := 0) f32_35 k) ?_
    refine eq_bast f32_36 (by assumption) (by omega) (by omega) (by omega) (fun hs4 e4 => ?_)
    have t4 := tab_s4 (b := false) t3 e4
    have tt := t4
    obtain ⟨-, -, -, a0, a1, a2, a3, a4, a5, -, -⟩ := tt
    refine eq_ (fun _ k => ev_aload_n f32_37 rfl k) ?_
    refine eq_ (fun _ k => ev_getf f32_38 (by assumption) rfl k) ?_
    refine eq_ (fun _ k => ev_iload_n f32_41 rfl k) ?_
    refine eq_ (fun _ k => ev_iconstN (n := 0) f32_42 k) ?_
    refine eq_bast f32_43 (by assumption) (by omega) (by omega) (by omega) (fun hs5 e5 => ?_)
    have t5 := tab_s5 (b := false) t4 e5
    refine eq_ (fun _ k => ev_iincN f32_44 rfl k) ?_
    refine eq_ (fun _ k => ev_goto (tgt := 2) f32_47 rfl k) ?_
    have t6 : TabAt hs5 p q (wpT T (k + 1)) := by
      have e : wpT T (k + 1) = (updN (wpN T.1 k) k 0, updN (wpN T.2.1 k) k 0, updB (wpB T.2.2.1 k) k false, updB (wpB T.2.2.2.1 k) k false, updB (wpB T.2.2.2.2 k) k false) := by
        rw [wpN_s, wpN_s, wpB_s, wpB_s, wpB_s]
        rfl
      rw [e]
      exact t5
    exact (ih (k + 1) hs5 (by omega) t6).fr (((((Fr.st e1 (by omega) (by omega)).tr (Fr.st e2 (by omega) (by omega))).tr (Fr.st e3 (by omega) (by omega))).tr (Fr.st e4 (by omega) (by omega))).tr (Fr.st e5 (by omega) (by omega)))
theorem c32 {hs : amH} {p q : Nat} {T : amTab} (h : TabAt hs p q T) : CrQ 32 [.ref p] hs none (fun hs' => TabAt hs' p q (wpT T 256) ∧ Fr hs hs' p (p + 6)) := by
  refine crq_mk ow32 (Nat.le_of_ble_eq_true rfl) ?_
  refine eq_ (fun _ k => ev_iconstN (n := 0) f32_0 k) ?_
  refine eq_ (fun _ k => ev_istore_n f32_1 k) ?_
  exact l32 T 256 0 hs rfl h
/-- one entry is written: of fingerprint k, at a, with l left -/
def putT (q k a l : Nat) (T : amTab) : amTab := (updN T.1 (a % 2 ^ q) (k % 2 ^ (12 - q)), updN T.2.1 (a % 2 ^ q) (min l 7), updB T.2.2.1 (k / 2 ^ (12 - q)) true, updB T.2.2.2.1 (a % 2 ^ q) (T.2.2.1 (k / 2 ^ (12 - q))), updB T.2.2.2.2 (a % 2 ^ q) (!decide (a % 2 ^ q = k / 2 ^ (12 - q))))
def weF (q k : Nat) : Nat → Nat → Nat → amTab → amTab
  | 0, _, _, T => T
  | d + 1, a, l, T => weF q k d (a + 1) (l - 7) (putT q k a l T)
theorem enN_big {l : Nat} (h : 7 < l) : enN l = enN (l - 7) + 1 := by
  unfold enN
  omega
theorem enN_one {l : Nat} (h0 : 0 < l) (h : l ≤ 7) : enN l = 1 := by
  unfold enN
  omega
theorem am_le7 {l : Nat} (h : l ≤ 7) : ak0 .le (nI l + Int32.ofInt (-7)) := by
  have h2 : ∀ l, l < 8 → nI l + Int32.ofInt (-7) ≤ 0 := by decide
  exact h2 l (by omega)
theorem am_i7 (a : Int32) : a + Int32.ofInt (-7) = a - nI 7 := by
  rw [Int32.sub_eq_add_neg]
  rfl
theorem l35 {p q k : Nat} (hk : k < 4096) (v1 v2 : Int32) : ∀ (d a l : Nat) (T : amTab) (hs : amH) (w : Option Value), 0 < l → l < 2 ^ 20 → enN l = d → a + d < 2 ^ 30 → TabAt hs p q T → EvQ 35 18 [some (.ref p), some (.int v1), some (.int (nI k)), some (.int v2), some (.int (nI (k / 2 ^ (12 - q)))), some (.int (nI a)), some (.int (nI l)), w] [] hs 0 0 (Rt none (fun hs' => TabAt hs' p q (weF q k d a l T) ∧ Fr hs hs' p (p + 6))) := by
  intro d
  induction d with
  | zero =>
    intro a l T hs w hl hl2 hd _ _
    unfold enN at hd
    omega
  | succ d ih =>
    intro a l T hs w hl hl2 hd had h
    have h9 := h
    obtain ⟨h0, h3, h8, a0, a1, a2, a3, a4, a5, b1, b2⟩ := h
    obtain ⟨p1, p2⟩ := am_pow h3 h8
    have hq := am_quo h3 h8 hk
    have hr := am_rem (k := k) h3
    have hm : a % 2 ^ q < 2 ^ q := Nat.mod_lt _ (by omega)
    refine eq_ (fun _ k => ev_aload_n f35_18 rfl k) ?_
    refine eq_ (fun _ k => ev_iload f35_19 rfl k) ?_
    refine eq_ (fun _ k => ev_v1 f35_21 ow16 (by assumption) rfl (Nat.le_of_ble_eq_true rfl) (c16 h9 (by omega)) k) ?_
    refine eq_ (fun _ k => ev_istore f35_24 k) ?_
    refine eq_ (fun _ k => ev_aload_n f35_26 rfl k) ?_
    refine eq_ (fun _ k => ev_getf f35_27 (by assumption) rfl k) ?_
    refine eq_ (fun _ k => ev_iload f35_30 rfl k) ?_
    refine eq_ (fun _ k => ev_aload_n f35_32 rfl k) ?_
    refine eq_ (fun _ k => ev_iload_n f35_33 rfl k) ?_
    refine eq_ (fun _ k => ev_v1 f35_34 ow18 (by assumption) rfl (Nat.le_of_ble_eq_true rfl) (c18 h9 hk) k) ?_
    refine eq_iast f35_37 (by assumption) (by omega) (by omega) (by omega) (fun hs1 e1 => ?_)
    have t1 := tab_s1 h9 e1 hr
    have tt := t1
    obtain ⟨-, -, -, a0, a1, a2, a3, a4, a5, -, -⟩ := tt
    refine eq_ (fun _ k => ev_aload_n f35_38 rfl k) ?_
    refine eq_ (fun _ k => ev_getf f35_39 (by assumption) rfl k) ?_
    refine eq_ (fun _ k => ev_iload f35_42 rfl k) ?_
    refine eq_ (fun _ k => ev_iload f35_44 rfl k) ?_
    refine eq_ (fun _ k => ev_bipushN (n := 7) (by omega) f35_46 k) ?_
    refine eq_ (fun _ k => ev_minN (by omega) (by omega) f35_48 (Nat.le_of_ble_eq_true rfl) k) ?_
    refine eq_iast f35_51 (by assumption) (by omega) (by omega) (by omega) (fun hs2 e2 => ?_)
    have t2 := tab_s2 t1 e2 (by omega)
    have tt := t2
    obtain ⟨-, -, -, a0, a1, a2, a3, a4, a5, -, -⟩ := tt
    refine eq_ (fun _ k => ev_aload_n f35_52 rfl k) ?_
    refine eq_ (fun _ k => ev_getf f35_53 (by assumption) rfl k) ?_
    refine eq_ (fun _ k => ev_iload f35_56 rfl k) ?_
    refine eq_ (fun _ k => ev_aload_n f35_58 rfl k) ?_
    refine eq_ (fun _ k => ev_getf f35_59 (by assumption) rfl k) ?_
    refine eq_ (fun _ k => ev_iload f35_62 rfl k) ?_
    refine eq_ (fun _ k => ev_bald f35_64 (by assumption) (by omega) (by omega) k) ?_
    refine eq_bast f35_65 (by assumption) (by omega) (by omega) (by omega) (fun hs3 e3 => ?_)
    have t3 := tab_s4 t2 e3
    have tt := t3
    obtain ⟨-, -, -, a0, a1, a2, a3, a4, a5, -, -⟩ := tt
    have rest : ∀ hs4, hs4 = hs3.set (p + 5) (.inl (.boolean, 256, .inl (upd (fun j => nI (T.2.2.2.2 j).toNat) (a % 2 ^ q) (vp_nar .boolean (nI (!decide (a % 2 ^ q = k / 2 ^ (12 - q))).toNat))))) → EvQ 35 85 [some (.ref p), some (.int v1), some (.int (nI k)), some (.int v2), some (.int (nI (k / 2 ^ (12 - q)))), some (.int (nI a)), some (.int (nI l)), some (.int (nI (a % 2 ^ q)))] [] hs4 0 0 (Rt none (fun hs' => TabAt hs' p q (weF q k (d + 1) a l T) ∧ Fr hs hs' p (p + 6))) := by
      intro hs4 e4
      have t4 := tab_s5 t3 e4
      clear a0 a1 a2 a3 a4 a5
      have tt := t4
      obtain ⟨-, -, -, a0, a1, a2, a3, a4, a5, -, -⟩ := tt
      refine eq_ (fun _ k => ev_aload_n f35_85 rfl k) ?_
      refine eq_ (fun _ k => ev_getf f35_86 (by assumption) rfl k) ?_
      refine eq_ (fun _ k => ev_iload f35_89 rfl k) ?_
      refine eq_ (fun _ k => ev_iconstN (n := 1) f35_91 k) ?_
      refine eq_bast f35_92 (by assumption) (by omega) (by omega) (by omega) (fun hs5 e5 => ?_)
      refine eq_ (fun _ k => ev_iincN f35_93 rfl k) ?_
      have t5 := tab_s3 (b := true) t4 e5
      have hf := ((((Fr.st e1 (lo := p) (hi := p + 6) (by omega) (by omega)).tr (Fr.st e2 (by omega) (by omega))).tr (Fr.st e3 (by omega) (by omega))).tr (Fr.st e4 (by omega) (by omega))).tr (Fr.st e5 (by omega) (by omega))
      refine EvQ.fr ?_ hf
      refine eq_ (fun _ k => ev_iinc f35_96 rfl k) ?_
      refine eq_ (fun _ k => ev_goto (tgt := 13) f35_99 rfl k) ?_
      refine eq_ (fun _ k => ev_iload f35_13 rfl k) ?_
      by_cases h7 : l ≤ 7
      · have hd0 : d = 0 := by rw [enN_one hl h7] at hd; omega
        subst hd0
        refine eq_if (tgt := 102) f35_15 rfl (fun _ => ?_) (fun h9 => absurd (am_le7 h7) h9)
        refine ⟨_, ev_vret f35_102 rfl, ?_⟩
        exact ⟨_, rfl, t5, Fr.refl⟩
      · rw [am_i7, pk_sub (by omega)]
        refine eq_ifN (by omega) (tgt := 102) f35_15 rfl (fun h9 => absurd h9 (by simp only [akN] at *; omega)) (fun _ => ?_)
        exact ih (a + 1) (l - 7) _ hs5 _ (by omega) (by omega) (by rw [enN_big (by omega)] at hd; omega) (by omega) t5
    refine eq_ (fun _ k => ev_aload_n f35_66 rfl k) ?_
    refine eq_ (fun _ k => ev_getf f35_67 (by assumption) rfl k) ?_
    refine eq_ (fun _ k => ev_iload f35_70 rfl k) ?_
    refine eq_ (fun _ k => ev_iload f35_72 rfl k) ?_
    refine eq_ (fun _ k => ev_iload f35_74 rfl k) ?_
    refine eq_icN (by omega) (by omega) (tgt := 83) f35_76 rfl (fun hc => ?_) (fun hc => ?_)
    · have e : (!decide (a % 2 ^ q = k / 2 ^ (12 - q))) = false := by
        rw [decide_eq_true (show a % 2 ^ q = k / 2 ^ (12 - q) from hc)]; rfl
      rw [e] at rest
      refine eq_ (fun _ k => ev_iconstN (n := 0) f35_83 k) ?_
      refine eq_bast f35_84 (by assumption) (by omega) (by omega) (by omega) (fun hs4 e4 => ?_)
      exact rest hs4 e4
    · have e : (!decide (a % 2 ^ q = k / 2 ^ (12 - q))) = true := by
        rw [decide_eq_false (show ¬ a % 2 ^ q = k / 2 ^ (12 - q) from hc)]; rfl
      rw [e] at rest
      refine eq_ (fun _ k => ev_iconstN (n := 1) f35_79 k) ?_
      refine eq_ (fun _ k => ev_goto (tgt := 84) f35_80 rfl k) ?_
      refine eq_bast f35_84 (by assumption) (by omega) (by omega) (by omega) (fun hs4 e4 => ?_)
      exact rest hs4 e4
theorem c35 {hs : amH} {p q k a c : Nat} {T : amTab} (h : TabAt hs p q T) (hk : k < 4096) (hc0 : 0 < c) (hc : c < 2 ^ 20) (ha : a + enN c < 2 ^ 30) : CrQ 35 [.ref p, .int (nI a), .int (nI k), .int (nI c)] hs none (fun hs' => TabAt hs' p q (weF q k (enN c) a c T) ∧ Fr hs hs' p (p + 6)) := by
  have h9 := h
  obtain ⟨h0, h3, h8, a0, a1, a2, a3, a4, a5, b1, b2⟩ := h
  refine crq_mk ow35 (Nat.le_of_ble_eq_true rfl) ?_
  refine eq_ (fun _ k => ev_aload_n f35_0 rfl k) ?_
  refine eq_ (fun _ k => ev_iload_n f35_1 rfl k) ?_
  refine eq_ (fun _ k => ev_v1 f35_2 ow17 (by assumption) rfl (Nat.le_of_ble_eq_true rfl) (c17 h9 hk) k) ?_
  refine eq_ (fun _ k => ev_istore f35_5 k) ?_
  refine eq_ (fun _ k => ev_iload_n f35_7 rfl k) ?_
  refine eq_ (fun _ k => ev_istore f35_8 k) ?_
  refine eq_ (fun _ k => ev_iload_n f35_10 rfl k) ?_
  refine eq_ (fun _ k => ev_istore f35_11 k) ?_
  refine eq_ (fun _ k => ev_iload f35_13 rfl k) ?_
  refine eq_ifN (by omega) (tgt := 102) f35_15 rfl (fun h9 => absurd h9 (by simp only [akN] at *; omega)) (fun _ => ?_)
  exact l35 hk _ _ _ a c T hs _ hc0 hc rfl ha h9
