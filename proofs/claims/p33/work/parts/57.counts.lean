/-! the law's counts; rows laid by wip/p33/walk.py -/
section CN
variable {X : amC} {q : Nat → Nat} {g : Nat → Nat → Nat} {P C Q : Nat → Nat} {f i : Nat}
theorem LW.set40 {hs hs1 : amH} {C' : Nat → Nat} (W : LW X q g P C Q hs) (e : hs1 = hs.set 40 (.inl (.int, 64, .inl (fun j => nI (C' j))))) : LW X q g P C' Q hs1 := by
  have f0 : Fr hs hs1 40 41 := Fr.st e (by omega) (by omega)
  obtain ⟨w0, w1, w2, w3, w4⟩ := W
  refine ⟨(f0.2 _ (by omega)).trans w0, ?_, (f0.2 _ (by omega)).trans w2, am_set e w3, (f0.2 _ (by omega)).trans w4⟩
  obtain ⟨a1, ⟨TF, a2, a3⟩, a4, ⟨b5, a5⟩, ⟨b6, a6⟩, ⟨b7, a7⟩, F, Y, a8⟩ := w1
  exact ⟨(f0.2 _ (by omega)).trans a1, ⟨TF, (f0.2 _ (by omega)).trans a2, a3⟩, fun i hi => (a4 i hi).fr f0 (by omega), ⟨b5, a5.fr f0 (by omega)⟩, ⟨b6, a6.fr f0 (by omega)⟩, ⟨b7, a7.fr f0 (by omega)⟩, F, Y, a8.fr f0 (by omega)⟩
theorem LW.set41 {hs hs1 : amH} {Q' : Nat → Nat} (W : LW X q g P C Q hs) (e : hs1 = hs.set 41 (.inl (.int, 4, .inl (fun j => nI (Q' j))))) : LW X q g P C Q' hs1 := by
  have f0 : Fr hs hs1 41 42 := Fr.st e (by omega) (by omega)
  obtain ⟨w0, w1, w2, w3, w4⟩ := W
  refine ⟨(f0.2 _ (by omega)).trans w0, ?_, (f0.2 _ (by omega)).trans w2, (f0.2 _ (by omega)).trans w3, am_set e w4⟩
  obtain ⟨a1, ⟨TF, a2, a3⟩, a4, ⟨b5, a5⟩, ⟨b6, a6⟩, ⟨b7, a7⟩, F, Y, a8⟩ := w1
  exact ⟨(f0.2 _ (by omega)).trans a1, ⟨TF, (f0.2 _ (by omega)).trans a2, a3⟩, fun i hi => (a4 i hi).fr f0 (by omega), ⟨b5, a5.fr f0 (by omega)⟩, ⟨b6, a6.fr f0 (by omega)⟩, ⟨b7, a7.fr f0 (by omega)⟩, F, Y, a8.fr f0 (by omega)⟩
theorem GI.upd (hp : PI P) (G : GI g P C) (hi : i < 15) (v : Nat) : GI (updG g f (updN (g f) (P i) v)) P (updN C (16 * f + i) v) := by
  intro f' hf'
  obtain ⟨G1, G2⟩ := G f' hf'
  by_cases e : f' = f
  · subst e
    have eg : updG g f' (updN (g f') (P i) v) f' = updN (g f') (P i) v := if_pos rfl
    rw [eg]
    refine ⟨fun j hj => ?_, fun k hk => ?_⟩
    · by_cases w : j = i
      · rw [w, updN_at, updN_at]
      · rw [updN_ne _ _ (fun w2 => w (hp.inj hj hi w2)), updN_ne _ _ (by omega)]
        exact G1 j hj
    · rw [updN_ne _ _ (hk i hi)]
      exact G2 k hk
  · have eg : updG g f (updN (g f) (P i) v) f' = g f' := if_neg e
    rw [eg]
    refine ⟨fun j hj => ?_, G2⟩
    rw [updN_ne _ _ (by omega)]
    exact G1 j hj
theorem cb_upd (hC : ∀ j, C j < 2 ^ 20) {a v : Nat} (hv : v < 2 ^ 20) : ∀ j, updN C a v j < 2 ^ 20 := fun j => by
  unfold updN
  split
  · exact hv
  · exact hC j
/-- what a step leaves -/
def StP (X : amC) (P : Nat → Nat) (N : Nat) (hs' : amH) : Prop := ∃ q g C, LW X q g P C q hs' ∧ GI g P C ∧ (∀ j, C j < 2 ^ 20) ∧ hs'.length = N
abbrev cL (f i way z T : Nat) (w10 w11 : Option Value) : amL := [some (.ref 1), some (.ref 39), some (.ref 40), some (.ref 41), some (.int (nI f)), some (.int (nI i)), some (.int (nI way)), some (.int (nI z)), some (.int (nI (16 * f + i))), some (.int (nI T)), w10, w11]
/-- adding -/
theorem l94a {hs : amH} {way z T : Nat} (W : LW X q g P C q hs) (hC : ∀ j, C j < 2 ^ 20) (hp : PI P) (G : GI g P C) (hf : f < 4) (hi : i < 15) (hw : way < 8) (h1 : 1 ≤ T) (h2 : T ≤ 100) (hT : way < 4 → T = 1) : EvQ 94 46 (cL f i way z T none none) [] hs 0 0 (RtB (some (.int (nI true.toNat))) (StP X P hs.length) 1 6) := by
  have F := W.2.1.2.2.1 f hf
  obtain ⟨h3, h8, -⟩ := F.obj
  obtain ⟨le1, le2, le3, le4, -⟩ := F.le
  have hpi := hp.2 i hi
  have w3 := W.2.2.2.1
  have w4 := W.2.2.2.2
  have hci := hC (16 * f + i)
  have eg : g f (P i) = C (16 * f + i) := (G f hf).1 i hi
  have le5 := le3 (P i)
  have eE := EE_all hp G hf
  have hA : enN (C (16 * f + i)) ≤ smN (ceN C f) 15 := sm_ge (f := ceN C f) 15 hi
  have hE := EE_upd4 (g := g f) (v := C (16 * f + i) + T) hpi
  rw [eg, eE] at hE
  have hB : enN (C (16 * f + i) + T) ≤ 300 := by
    unfold enN
    omega
  have k93 : Cr 93 [.int (nI (smN (ceN C f) 15 - enN (C (16 * f + i)) + enN (C (16 * f + i) + T))), .int (nI (q f))] hs (some (.int (nI (decide (8 * (smN (ceN C f) 15 - enN (C (16 * f + i)) + enN (C (16 * f + i) + T)) ≤ 7 * 2 ^ q f)).toNat))) hs := c93 (by omega) h8
  by_cases can : 8 * (smN (ceN C f) 15 - enN (C (16 * f + i)) + enN (C (16 * f + i) + T)) ≤ 7 * 2 ^ q f
  · rw [decide_eq_true can] at k93
    have can2 : EE (putN (g f) (P i) T) 4096 * 8 ≤ 7 * 2 ^ q f := by
      unfold putN
      rw [eg]
      omega
    refine eq_ (fun _ k => ev_iload f94_46 rfl k) ?_
    refine eq_ (fun _ k => ev_bipushN (n := 8) (by omega) f94_48 k) ?_
    refine eq_icN (by omega) (by omega) (tgt := 167) f94_50 rfl (fun h9 => absurd h9 (by simp only [akN] at *; omega)) (fun _ => ?_)
    refine eq_ (fun _ k => ev_aload_n f94_53 rfl k) ?_
    refine eq_ (fun _ k => ev_iload f94_54 rfl k) ?_
    refine eq_ (fun _ k => ev_s2 f94_56 (by decide) ow79 rfl rfl (Nat.le_of_ble_eq_true rfl) (c79 hf w3 hC) k) ?_
    refine eq_ (fun _ k => ev_aload_n f94_59 rfl k) ?_
    refine eq_ (fun _ k => ev_iload f94_60 rfl k) ?_
    refine eq_ (fun _ k => ev_iald f94_62 (by assumption) (by omega) (by omega) k) ?_
    refine eq_ (fun _ k => ev_s1 f94_63 (by decide) ow78 rfl (Nat.le_of_ble_eq_true rfl) (c78 (by omega)) k) ?_
    refine eq_ (fun _ k => ev_isubN (by omega) f94_66 k) ?_
    refine eq_ (fun _ k => ev_aload_n f94_67 rfl k) ?_
    refine eq_ (fun _ k => ev_iload f94_68 rfl k) ?_
    refine eq_ (fun _ k => ev_iald f94_70 (by assumption) (by omega) (by omega) k) ?_
    refine eq_ (fun _ k => ev_iload f94_71 rfl k) ?_
    first | refine eq_ (fun _ k => ev_iaddN f94_73 k) ?_ | refine eq_ (fun _ k => ev_iadd f94_73 k) ?_
    refine eq_ (fun _ k => ev_s1 f94_74 (by decide) ow78 rfl (Nat.le_of_ble_eq_true rfl) (c78 (by omega)) k) ?_
    first | refine eq_ (fun _ k => ev_iaddN f94_77 k) ?_ | refine eq_ (fun _ k => ev_iadd f94_77 k) ?_
    refine eq_ (fun _ k => ev_aload_n f94_78 rfl k) ?_
    refine eq_ (fun _ k => ev_iload f94_79 rfl k) ?_
    refine eq_ (fun _ k => ev_iald f94_81 (by assumption) (by omega) (by omega) k) ?_
    refine eq_ (fun _ k => ev_s2 f94_82 (by decide) ow93 rfl rfl (Nat.le_of_ble_eq_true rfl) (k93) k) ?_
    refine eq_ (fun _ k => ev_istore f94_85 k) ?_
    refine eq_ (fun _ k => ev_aload_n f94_87 rfl k) ?_
    refine eq_ (fun _ k => ev_iload f94_88 rfl k) ?_
    refine eq_ (fun _ k => ev_dup2 f94_90 rfl rfl k) ?_
    refine eq_ (fun _ k => ev_iald f94_91 (by assumption) (by omega) (by omega) k) ?_
    refine eq_ (fun _ k => ev_iload f94_92 rfl k) ?_
    refine eq_ifeqB (tgt := 102) f94_94 rfl (fun h9 => Bool.noConfusion (h9.symm.trans (rfl))) (fun _ => ?_)
    refine eq_ (fun _ k => ev_iload f94_97 rfl k) ?_
    refine eq_ (fun _ k => ev_goto (tgt := 103) f94_99 rfl k) ?_
    first | refine eq_ (fun _ k => ev_iaddN f94_103 k) ?_ | refine eq_ (fun _ k => ev_iadd f94_103 k) ?_
    refine eq_iast f94_104 (by assumption) (by omega) (by omega) (by omega) (fun hs1 e1 => ?_)
    rw [upd_N] at e1
    have W1 := W.set40 e1
    have l1 : hs1.length = hs.length := am_stl e1 rfl
    have p1 := W1.2.2.1
    have G1 := GI.upd (f := f) (v := C (16 * f + i) + T) hp G hi
    clear w3 w4
    have rest : ∀ hs2, LW X q (updG g f (putN (g f) (P i) T)) P (updN C (16 * f + i) (C (16 * f + i) + T)) q hs2 → hs2.length = hs.length → EvQ 94 143 (cL f i way z T (some (.int (nI true.toNat))) (some (.int (nI (C (16 * f + i) + T))))) [] hs2 0 0 (RtB (some (.int (nI true.toNat))) (StP X P hs.length) 1 6) := by
      intro hs2 W2 l2
      have c2 := W2.2.2.2.1
      have G2 : GI (updG g f (putN (g f) (P i) T)) P (updN C (16 * f + i) (C (16 * f + i) + T)) := by
        unfold putN
        rw [eg]
        exact G1
      refine eq_ (fun _ k => ev_iload f94_143 rfl k) ?_
      refine eq_ (fun _ k => ev_iload f94_145 rfl k) ?_
      refine eq_ifeqB (tgt := 157) f94_147 rfl (fun h9 => Bool.noConfusion (h9.symm.trans (rfl))) (fun _ => ?_)
      refine eq_ (fun _ k => ev_aload_n f94_150 rfl k) ?_
      refine eq_ (fun _ k => ev_iload f94_151 rfl k) ?_
      refine eq_ (fun _ k => ev_iald f94_153 (by assumption) (by omega) (by omega) k) ?_
      rw [updN_at]
      refine eq_ (fun _ k => ev_goto (tgt := 158) f94_154 rfl k) ?_
      refine eq_icN (by omega) (by omega) (tgt := 165) f94_158 rfl (fun h9 => absurd h9 (fun w => w rfl)) (fun _ => ?_)
      refine eq_ (fun _ k => ev_iconstN (n := 1) f94_161 k) ?_
      refine eq_ (fun _ k => ev_goto (tgt := 166) f94_162 rfl k) ?_
      first | refine ⟨_, ev_iret f94_166 (rZ rfl true) rfl, ?_⟩ | refine ⟨_, ev_iret f94_166 (rZ rfl false) rfl, ?_⟩ | refine ⟨_, ev_iret f94_166 (rZ rfl _) rfl, ?_⟩
      exact ⟨hs2, _, _, rfl, Nat.zero_le _, Nat.zero_le _, q, _, _, W2, G2, cb_upd hC (by omega), l2⟩
    by_cases w : way < 4
    · have hT1 := hT w
      subst hT1
      have k := m38 (key := kyN (P i) (nI z)) W1.2.1 hf
      rw [pr_ky hpi, if_pos can2, if_pos can2, eg] at k
      obtain ⟨hs2, k88, W2, F2⟩ := h88 W1 k
      refine eq_ (fun _ k => ev_iload f94_105 rfl k) ?_
      refine eq_ (fun _ k => ev_iconstN (n := 4) f94_107 k) ?_
      refine eq_icN (by omega) (by omega) (tgt := 129) f94_108 rfl (fun h9 => absurd h9 (by simp only [akN] at *; omega)) (fun _ => ?_)
      refine eq_ (fun _ k => ev_aload_n f94_111 rfl k) ?_
      refine eq_ (fun _ k => ev_iload f94_112 rfl k) ?_
      refine eq_ (fun _ k => ev_aload_n f94_114 rfl k) ?_
      refine eq_ (fun _ k => ev_iload f94_115 rfl k) ?_
      refine eq_ (fun _ k => ev_iald f94_117 (by assumption) (by omega) (by omega) k) ?_
      refine eq_ (fun _ k => ev_iload f94_118 rfl k) ?_
      refine eq_ (fun _ k => ev_s2 f94_120 (by decide) ow87 rfl rfl (Nat.le_of_ble_eq_true rfl) (c87) k) ?_
      refine eq_ (fun _ k => ev_s3c f94_123 (by decide) ow88 rfl rfl rfl (Nat.le_of_ble_eq_true rfl) (k88) k) ?_
      refine eq_ (fun _ k => ev_goto (tgt := 141) f94_126 rfl k) ?_
      refine eq_ (fun _ k => ev_istore f94_141 k) ?_
      exact rest hs2 W2 (F2.1.trans l1)
    · have k := m41 (c := T) W1.2.1 hf hpi h1 h2
      rw [if_pos can2, if_pos can2, eg] at k
      obtain ⟨hs2, k89, W2, F2⟩ := h89 W1 k
      refine eq_ (fun _ k => ev_iload f94_105 rfl k) ?_
      refine eq_ (fun _ k => ev_iconstN (n := 4) f94_107 k) ?_
      refine eq_icN (by omega) (by omega) (tgt := 129) f94_108 rfl (fun _ => ?_) (fun h9 => absurd (by simp only [akN] at *; omega) h9)
      refine eq_ (fun _ k => ev_aload_n f94_129 rfl k) ?_
      refine eq_ (fun _ k => ev_iload f94_130 rfl k) ?_
      refine eq_ (fun _ k => ev_aload_n f94_132 rfl k) ?_
      refine eq_ (fun _ k => ev_iload f94_133 rfl k) ?_
      refine eq_ (fun _ k => ev_iald f94_135 (by assumption) (by omega) (by omega) k) ?_
      refine eq_ (fun _ k => ev_iload f94_136 rfl k) ?_
      refine eq_ (fun _ k => ev_s4c f94_138 (by decide) ow89 rfl rfl rfl rfl (Nat.le_of_ble_eq_true rfl) (k89) k) ?_
      refine eq_ (fun _ k => ev_istore f94_141 k) ?_
      exact rest hs2 W2 (F2.1.trans l1)
  · rw [decide_eq_false can] at k93
    have can2 : ¬ EE (putN (g f) (P i) T) 4096 * 8 ≤ 7 * 2 ^ q f := by
      unfold putN
      rw [eg]
      omega
    refine eq_ (fun _ k => ev_iload f94_46 rfl k) ?_
    refine eq_ (fun _ k => ev_bipushN (n := 8) (by omega) f94_48 k) ?_
    refine eq_icN (by omega) (by omega) (tgt := 167) f94_50 rfl (fun h9 => absurd h9 (by simp only [akN] at *; omega)) (fun _ => ?_)
    refine eq_ (fun _ k => ev_aload_n f94_53 rfl k) ?_
    refine eq_ (fun _ k => ev_iload f94_54 rfl k) ?_
    refine eq_ (fun _ k => ev_s2 f94_56 (by decide) ow79 rfl rfl (Nat.le_of_ble_eq_true rfl) (c79 hf w3 hC) k) ?_
    refine eq_ (fun _ k => ev_aload_n f94_59 rfl k) ?_
    refine eq_ (fun _ k => ev_iload f94_60 rfl k) ?_
    refine eq_ (fun _ k => ev_iald f94_62 (by assumption) (by omega) (by omega) k) ?_
    refine eq_ (fun _ k => ev_s1 f94_63 (by decide) ow78 rfl (Nat.le_of_ble_eq_true rfl) (c78 (by omega)) k) ?_
    refine eq_ (fun _ k => ev_isubN (by omega) f94_66 k) ?_
    refine eq_ (fun _ k => ev_aload_n f94_67 rfl k) ?_
    refine eq_ (fun _ k => ev_iload f94_68 rfl k) ?_
    refine eq_ (fun _ k => ev_iald f94_70 (by assumption) (by omega) (by omega) k) ?_
    refine eq_ (fun _ k => ev_iload f94_71 rfl k) ?_
    first | refine eq_ (fun _ k => ev_iaddN f94_73 k) ?_ | refine eq_ (fun _ k => ev_iadd f94_73 k) ?_
    refine eq_ (fun _ k => ev_s1 f94_74 (by decide) ow78 rfl (Nat.le_of_ble_eq_true rfl) (c78 (by omega)) k) ?_
    first | refine eq_ (fun _ k => ev_iaddN f94_77 k) ?_ | refine eq_ (fun _ k => ev_iadd f94_77 k) ?_
    refine eq_ (fun _ k => ev_aload_n f94_78 rfl k) ?_
    refine eq_ (fun _ k => ev_iload f94_79 rfl k) ?_
    refine eq_ (fun _ k => ev_iald f94_81 (by assumption) (by omega) (by omega) k) ?_
    refine eq_ (fun _ k => ev_s2 f94_82 (by decide) ow93 rfl rfl (Nat.le_of_ble_eq_true rfl) (k93) k) ?_
    refine eq_ (fun _ k => ev_istore f94_85 k) ?_
    refine eq_ (fun _ k => ev_aload_n f94_87 rfl k) ?_
    refine eq_ (fun _ k => ev_iload f94_88 rfl k) ?_
    refine eq_ (fun _ k => ev_dup2 f94_90 rfl rfl k) ?_
    refine eq_ (fun _ k => ev_iald f94_91 (by assumption) (by omega) (by omega) k) ?_
    refine eq_ (fun _ k => ev_iload f94_92 rfl k) ?_
    refine eq_ifeqB (tgt := 102) f94_94 rfl (fun _ => ?_) (fun h9 => Bool.noConfusion (h9.symm.trans (rfl)))
    refine eq_ (fun _ k => ev_iconstN (n := 0) f94_102 k) ?_
    first | refine eq_ (fun _ k => ev_iaddN f94_103 k) ?_ | refine eq_ (fun _ k => ev_iadd f94_103 k) ?_
    refine eq_iast f94_104 (by assumption) (by omega) (by omega) (by omega) (fun hs1 e1 => ?_)
    rw [Nat.add_zero, upd_N, updN_same] at e1
    have W1 := W.set40 e1
    have l1 : hs1.length = hs.length := am_stl e1 rfl
    have p1 := W1.2.2.1
    clear w3 w4
    have rest : ∀ hs2, LW X q g P C q hs2 → hs2.length = hs.length → EvQ 94 143 (cL f i way z T (some (.int (nI false.toNat))) (some (.int (Int32.ofInt (-1))))) [] hs2 (0 + 1) (0 + 6) (RtB (some (.int (nI true.toNat))) (StP X P hs.length) 1 6) := by
      intro hs2 W2 l2
      refine eq_ (fun _ k => ev_iload f94_143 rfl k) ?_
      refine eq_ (fun _ k => ev_iload f94_145 rfl k) ?_
      refine eq_ifeqB (tgt := 157) f94_147 rfl (fun _ => ?_) (fun h9 => Bool.noConfusion (h9.symm.trans (rfl)))
      refine eq_ (fun _ k => ev_iconst f94_157 k) ?_
      refine eq_ic (tgt := 165) f94_158 rfl (fun h9 => absurd h9 ((fun w => w rfl))) (fun _ => ?_)
      refine eq_ (fun _ k => ev_iconstN (n := 1) f94_161 k) ?_
      refine eq_ (fun _ k => ev_goto (tgt := 166) f94_162 rfl k) ?_
      first | refine ⟨_, ev_iret f94_166 (rZ rfl true) rfl, ?_⟩ | refine ⟨_, ev_iret f94_166 (rZ rfl false) rfl, ?_⟩ | refine ⟨_, ev_iret f94_166 (rZ rfl _) rfl, ?_⟩
      exact ⟨hs2, _, _, rfl, Nat.le_refl _, Nat.le_refl _, q, _, _, W2, G, hC, l2⟩
    by_cases w : way < 4
    · have hT1 := hT w
      subst hT1
      have k := m38 (key := kyN (P i) (nI z)) W1.2.1 hf
      rw [pr_ky hpi, if_neg can2, if_neg can2] at k
      obtain ⟨hs2, k88, W2, F2⟩ := h88x W1 k
      refine eq_ (fun _ k => ev_iload f94_105 rfl k) ?_
      refine eq_ (fun _ k => ev_iconstN (n := 4) f94_107 k) ?_
      refine eq_icN (by omega) (by omega) (tgt := 129) f94_108 rfl (fun h9 => absurd h9 (by simp only [akN] at *; omega)) (fun _ => ?_)
      refine eq_ (fun _ k => ev_aload_n f94_111 rfl k) ?_
      refine eq_ (fun _ k => ev_iload f94_112 rfl k) ?_
      refine eq_ (fun _ k => ev_aload_n f94_114 rfl k) ?_
      refine eq_ (fun _ k => ev_iload f94_115 rfl k) ?_
      refine eq_ (fun _ k => ev_iald f94_117 (by assumption) (by omega) (by omega) k) ?_
      refine eq_ (fun _ k => ev_iload f94_118 rfl k) ?_
      refine eq_ (fun _ k => ev_s2 f94_120 (by decide) ow87 rfl rfl (Nat.le_of_ble_eq_true rfl) (c87) k) ?_
      refine eq_ (fun _ k => ev_s3c f94_123 (by decide) ow88 rfl rfl rfl (Nat.le_of_ble_eq_true rfl) (k88) k) ?_
      refine eq_ (fun _ k => ev_goto (tgt := 141) f94_126 rfl k) ?_
      refine eq_ (fun _ k => ev_istore f94_141 k) ?_
      exact rest hs2 W2 (F2.1.trans l1)
    · have k := m41 (c := T) W1.2.1 hf hpi h1 h2
      rw [if_neg can2, if_neg can2] at k
      obtain ⟨hs2, k89, W2, F2⟩ := h89x W1 k
      refine eq_ (fun _ k => ev_iload f94_105 rfl k) ?_
      refine eq_ (fun _ k => ev_iconstN (n := 4) f94_107 k) ?_
      refine eq_icN (by omega) (by omega) (tgt := 129) f94_108 rfl (fun _ => ?_) (fun h9 => absurd (by simp only [akN] at *; omega) h9)
      refine eq_ (fun _ k => ev_aload_n f94_129 rfl k) ?_
      refine eq_ (fun _ k => ev_iload f94_130 rfl k) ?_
      refine eq_ (fun _ k => ev_aload_n f94_132 rfl k) ?_
      refine eq_ (fun _ k => ev_iload f94_133 rfl k) ?_
      refine eq_ (fun _ k => ev_iald f94_135 (by assumption) (by omega) (by omega) k) ?_
      refine eq_ (fun _ k => ev_iload f94_136 rfl k) ?_
      refine eq_ (fun _ k => ev_s4c f94_138 (by decide) ow89 rfl rfl rfl rfl (Nat.le_of_ble_eq_true rfl) (k89) k) ?_
      refine eq_ (fun _ k => ev_istore f94_141 k) ?_
      exact rest hs2 W2 (F2.1.trans l1)
/-- removing once -/
theorem l94r {hs : amH} {way z T : Nat} (W : LW X q g P C q hs) (hC : ∀ j, C j < 2 ^ 20) (hp : PI P) (G : GI g P C) (hf : f < 4) (hi : i < 15) (hw : 8 ≤ way) (hw2 : way < 10) : EvQ 94 46 (cL f i way z T none none) [] hs 0 0 (RtB (some (.int (nI true.toNat))) (StP X P hs.length) 1 6) := by
  have hpi := hp.2 i hi
  have w3 := W.2.2.2.1
  have hci := hC (16 * f + i)
  have eg : g f (P i) = C (16 * f + i) := (G f hf).1 i hi
  have rest : ∀ hs1 b, b = decide (0 < C (16 * f + i)) → hs1 = hs.set 40 (.inl (.int, 64, .inl (fun j => nI (updN C (16 * f + i) (C (16 * f + i) - min 1 (C (16 * f + i))) j)))) → EvQ 94 205 (cL f i way z T (some (.int (nI b.toNat))) none) [] hs1 0 0 (RtB (some (.int (nI true.toNat))) (StP X P hs.length) 1 6) := by
    intro hs1 b hb e1
    have W1 := W.set40 e1
    have l1 : hs1.length = hs.length := am_stl e1 rfl
    have p1 := W1.2.2.1
    have x1 := W1.2.1.1
    have k := m39 (key := kyN (P i) (nI z)) W1.2.1 hf
    rw [pr_ky hpi, eg, ← hb] at k
    obtain ⟨hs2, k2, W2, F2⟩ := W1.cls k
    have hb1 := Bool.toNat_le b
    have G2 : GI (updG g f (takN (g f) (P i) 1)) P (updN C (16 * f + i) (C (16 * f + i) - min 1 (C (16 * f + i)))) := by
      unfold takN
      rw [eg]
      exact GI.upd hp G hi _
    refine eq_ (fun _ k => ev_aload_n f94_205 rfl k) ?_
    refine eq_ (fun _ k => ev_iload f94_206 rfl k) ?_
    refine eq_ (fun _ k => ev_aload_n f94_208 rfl k) ?_
    refine eq_ (fun _ k => ev_iload f94_209 rfl k) ?_
    refine eq_ (fun _ k => ev_iald f94_211 (by assumption) (by omega) (by omega) k) ?_
    refine eq_ (fun _ k => ev_iload f94_212 rfl k) ?_
    refine eq_ (fun _ k => ev_s2 f94_214 (by decide) ow87 rfl rfl (Nat.le_of_ble_eq_true rfl) (c87) k) ?_
    refine eq_ (fun _ k => ev_v2 f94_217 ow39 (by assumption) rfl rfl (Nat.le_of_ble_eq_true rfl) (k2) k) ?_
    refine eq_ (fun _ k => ev_iload f94_220 rfl k) ?_
    refine eq_icN (by omega) (by omega) (tgt := 229) f94_222 rfl (fun h9 => absurd h9 (fun w => w rfl)) (fun _ => ?_)
    refine eq_ (fun _ k => ev_iconstN (n := 1) f94_225 k) ?_
    refine eq_ (fun _ k => ev_goto (tgt := 230) f94_226 rfl k) ?_
    first | refine ⟨_, ev_iret f94_230 (rZ rfl true) rfl, ?_⟩ | refine ⟨_, ev_iret f94_230 (rZ rfl false) rfl, ?_⟩ | refine ⟨_, ev_iret f94_230 (rZ rfl _) rfl, ?_⟩
    exact ⟨hs2, _, _, rfl, Nat.zero_le _, Nat.zero_le _, q, _, _, W2, G2, cb_upd hC (by omega), F2.1.trans l1⟩
  by_cases had : 0 < C (16 * f + i)
  · refine eq_ (fun _ k => ev_iload f94_46 rfl k) ?_
    refine eq_ (fun _ k => ev_bipushN (n := 8) (by omega) f94_48 k) ?_
    refine eq_icN (by omega) (by omega) (tgt := 167) f94_50 rfl (fun _ => ?_) (fun h9 => absurd (by simp only [akN] at *; omega) h9)
    refine eq_ (fun _ k => ev_iload f94_167 rfl k) ?_
    refine eq_ (fun _ k => ev_bipushN (n := 10) (by omega) f94_169 k) ?_
    refine eq_icN (by omega) (by omega) (tgt := 231) f94_171 rfl (fun h9 => absurd h9 (by simp only [akN] at *; omega)) (fun _ => ?_)
    refine eq_ (fun _ k => ev_aload_n f94_174 rfl k) ?_
    refine eq_ (fun _ k => ev_iload f94_175 rfl k) ?_
    refine eq_ (fun _ k => ev_iald f94_177 (by assumption) (by omega) (by omega) k) ?_
    refine eq_ifN (by omega) (tgt := 185) f94_178 rfl (fun h9 => absurd h9 (by simp only [akN] at *; omega)) (fun _ => ?_)
    refine eq_ (fun _ k => ev_iconstN (n := 1) f94_181 k) ?_
    refine eq_ (fun _ k => ev_goto (tgt := 186) f94_182 rfl k) ?_
    refine eq_ (fun _ k => ev_istore f94_186 k) ?_
    refine eq_ (fun _ k => ev_aload_n f94_188 rfl k) ?_
    refine eq_ (fun _ k => ev_iload f94_189 rfl k) ?_
    refine eq_ (fun _ k => ev_dup2 f94_191 rfl rfl k) ?_
    refine eq_ (fun _ k => ev_iald f94_192 (by assumption) (by omega) (by omega) k) ?_
    refine eq_ (fun _ k => ev_iload f94_193 rfl k) ?_
    refine eq_ifN (by omega) (tgt := 202) f94_195 rfl (fun h9 => absurd h9 (by simp only [akN] at *; omega)) (fun _ => ?_)
    refine eq_ (fun _ k => ev_iconstN (n := 1) f94_198 k) ?_
    refine eq_ (fun _ k => ev_goto (tgt := 203) f94_199 rfl k) ?_
    refine eq_ (fun _ k => ev_isubN (by omega) f94_203 k) ?_
    refine eq_iast f94_204 (by assumption) (by omega) (by omega) (by omega) (fun hs1 e1 => ?_)
    rw [upd_N] at e1
    rw [show C (16 * f + i) - min 1 (C (16 * f + i)) = C (16 * f + i) - 1 by omega] at rest
    exact rest hs1 true (decide_eq_true had).symm e1
  · refine eq_ (fun _ k => ev_iload f94_46 rfl k) ?_
    refine eq_ (fun _ k => ev_bipushN (n := 8) (by omega) f94_48 k) ?_
    refine eq_icN (by omega) (by omega) (tgt := 167) f94_50 rfl (fun _ => ?_) (fun h9 => absurd (by simp only [akN] at *; omega) h9)
    refine eq_ (fun _ k => ev_iload f94_167 rfl k) ?_
    refine eq_ (fun _ k => ev_bipushN (n := 10) (by omega) f94_169 k) ?_
    refine eq_icN (by omega) (by omega) (tgt := 231) f94_171 rfl (fun h9 => absurd h9 (by simp only [akN] at *; omega)) (fun _ => ?_)
    refine eq_ (fun _ k => ev_aload_n f94_174 rfl k) ?_
    refine eq_ (fun _ k => ev_iload f94_175 rfl k) ?_
    refine eq_ (fun _ k => ev_iald f94_177 (by assumption) (by omega) (by omega) k) ?_
    refine eq_ifN (by omega) (tgt := 185) f94_178 rfl (fun _ => ?_) (fun h9 => absurd (by simp only [akN] at *; omega) h9)
    refine eq_ (fun _ k => ev_iconstN (n := 0) f94_185 k) ?_
    refine eq_ (fun _ k => ev_istore f94_186 k) ?_
    refine eq_ (fun _ k => ev_aload_n f94_188 rfl k) ?_
    refine eq_ (fun _ k => ev_iload f94_189 rfl k) ?_
    refine eq_ (fun _ k => ev_dup2 f94_191 rfl rfl k) ?_
    refine eq_ (fun _ k => ev_iald f94_192 (by assumption) (by omega) (by omega) k) ?_
    refine eq_ (fun _ k => ev_iload f94_193 rfl k) ?_
    refine eq_ifN (by omega) (tgt := 202) f94_195 rfl (fun _ => ?_) (fun h9 => absurd rfl h9)
    refine eq_ (fun _ k => ev_iconstN (n := 0) f94_202 k) ?_
    refine eq_ (fun _ k => ev_isubN (by omega) f94_203 k) ?_
    refine eq_iast f94_204 (by assumption) (by omega) (by omega) (by omega) (fun hs1 e1 => ?_)
    rw [upd_N] at e1
    rw [show C (16 * f + i) - min 1 (C (16 * f + i)) = C (16 * f + i) - 0 by omega] at rest
    exact rest hs1 false (decide_eq_false had).symm e1
/-- taking -/
theorem l94t {hs : amH} {way z T : Nat} (W : LW X q g P C q hs) (hC : ∀ j, C j < 2 ^ 20) (hp : PI P) (G : GI g P C) (hf : f < 4) (hi : i < 15) (hw : 10 ≤ way) (hw2 : way < 12) (h1 : 1 ≤ T) (h2 : T ≤ 100) : EvQ 94 46 (cL f i way z T none none) [] hs 0 0 (RtB (some (.int (nI true.toNat))) (StP X P hs.length) 1 6) := by
  have hpi := hp.2 i hi
  have w3 := W.2.2.2.1
  have hci := hC (16 * f + i)
  have eg : g f (P i) = C (16 * f + i) := (G f hf).1 i hi
  have rest : ∀ M, M = min T (C (16 * f + i)) → EvQ 94 251 (cL f i way z T (some (.int (nI M))) none) [] hs 0 0 (RtB (some (.int (nI true.toNat))) (StP X P hs.length) 1 6) := by
    intro M hM
    refine eq_ (fun _ k => ev_aload_n f94_251 rfl k) ?_
    refine eq_ (fun _ k => ev_iload f94_252 rfl k) ?_
    refine eq_ (fun _ k => ev_dup2 f94_254 rfl rfl k) ?_
    refine eq_ (fun _ k => ev_iald f94_255 (by assumption) (by omega) (by omega) k) ?_
    refine eq_ (fun _ k => ev_iload f94_256 rfl k) ?_
    refine eq_ (fun _ k => ev_isubN (by omega) f94_258 k) ?_
    refine eq_iast f94_259 (by assumption) (by omega) (by omega) (by omega) (fun hs1 e1 => ?_)
    rw [upd_N] at e1
    have W1 := W.set40 e1
    have l1 : hs1.length = hs.length := am_stl e1 rfl
    have p1 := W1.2.2.1
    have x1 := W1.2.1.1
    have k := m42 (c := T) W1.2.1 hf hpi h1 h2
    rw [eg, ← hM] at k
    obtain ⟨hs2, k2, W2, F2⟩ := W1.cls k
    have G2 : GI (updG g f (takN (g f) (P i) T)) P (updN C (16 * f + i) (C (16 * f + i) - M)) := by
      unfold takN
      rw [eg, ← hM]
      exact GI.upd hp G hi _
    clear w3
    refine eq_ (fun _ k => ev_aload_n f94_260 rfl k) ?_
    refine eq_ (fun _ k => ev_iload f94_261 rfl k) ?_
    refine eq_ (fun _ k => ev_aload_n f94_263 rfl k) ?_
    refine eq_ (fun _ k => ev_iload f94_264 rfl k) ?_
    refine eq_ (fun _ k => ev_iald f94_266 (by assumption) (by omega) (by omega) k) ?_
    refine eq_ (fun _ k => ev_iload f94_267 rfl k) ?_
    refine eq_ (fun _ k => ev_v3 f94_269 ow42 (by assumption) rfl rfl rfl (Nat.le_of_ble_eq_true rfl) (k2) k) ?_
    refine eq_ (fun _ k => ev_iload f94_272 rfl k) ?_
    refine eq_icN (by omega) (by omega) (tgt := 281) f94_274 rfl (fun h9 => absurd h9 (fun w => w rfl)) (fun _ => ?_)
    refine eq_ (fun _ k => ev_iconstN (n := 1) f94_277 k) ?_
    refine eq_ (fun _ k => ev_goto (tgt := 282) f94_278 rfl k) ?_
    first | refine ⟨_, ev_iret f94_282 (rZ rfl true) rfl, ?_⟩ | refine ⟨_, ev_iret f94_282 (rZ rfl false) rfl, ?_⟩ | refine ⟨_, ev_iret f94_282 (rZ rfl _) rfl, ?_⟩
    exact ⟨hs2, _, _, rfl, Nat.zero_le _, Nat.zero_le _, q, _, _, W2, G2, cb_upd hC (by omega), F2.1.trans l1⟩
  by_cases w : C (16 * f + i) < T
  · have r2 := rest (C (16 * f + i)) (by omega)
    refine eq_ (fun _ k => ev_iload f94_46 rfl k) ?_
    refine eq_ (fun _ k => ev_bipushN (n := 8) (by omega) f94_48 k) ?_
    refine eq_icN (by omega) (by omega) (tgt := 167) f94_50 rfl (fun _ => ?_) (fun h9 => absurd (by simp only [akN] at *; omega) h9)
    refine eq_ (fun _ k => ev_iload f94_167 rfl k) ?_
    refine eq_ (fun _ k => ev_bipushN (n := 10) (by omega) f94_169 k) ?_
    refine eq_icN (by omega) (by omega) (tgt := 231) f94_171 rfl (fun _ => ?_) (fun h9 => absurd (by simp only [akN] at *; omega) h9)
    refine eq_ (fun _ k => ev_aload_n f94_231 rfl k) ?_
    refine eq_ (fun _ k => ev_iload f94_232 rfl k) ?_
    refine eq_ (fun _ k => ev_iald f94_234 (by assumption) (by omega) (by omega) k) ?_
    refine eq_ (fun _ k => ev_iload f94_235 rfl k) ?_
    refine eq_icN (by omega) (by omega) (tgt := 247) f94_237 rfl (fun h9 => absurd h9 (by simp only [akN] at *; omega)) (fun _ => ?_)
    refine eq_ (fun _ k => ev_aload_n f94_240 rfl k) ?_
    refine eq_ (fun _ k => ev_iload f94_241 rfl k) ?_
    refine eq_ (fun _ k => ev_iald f94_243 (by assumption) (by omega) (by omega) k) ?_
    refine eq_ (fun _ k => ev_goto (tgt := 249) f94_244 rfl k) ?_
    refine eq_ (fun _ k => ev_istore f94_249 k) ?_
    exact r2
  · have r2 := rest T (by omega)
    refine eq_ (fun _ k => ev_iload f94_46 rfl k) ?_
    refine eq_ (fun _ k => ev_bipushN (n := 8) (by omega) f94_48 k) ?_
    refine eq_icN (by omega) (by omega) (tgt := 167) f94_50 rfl (fun _ => ?_) (fun h9 => absurd (by simp only [akN] at *; omega) h9)
    refine eq_ (fun _ k => ev_iload f94_167 rfl k) ?_
    refine eq_ (fun _ k => ev_bipushN (n := 10) (by omega) f94_169 k) ?_
    refine eq_icN (by omega) (by omega) (tgt := 231) f94_171 rfl (fun _ => ?_) (fun h9 => absurd (by simp only [akN] at *; omega) h9)
    refine eq_ (fun _ k => ev_aload_n f94_231 rfl k) ?_
    refine eq_ (fun _ k => ev_iload f94_232 rfl k) ?_
    refine eq_ (fun _ k => ev_iald f94_234 (by assumption) (by omega) (by omega) k) ?_
    refine eq_ (fun _ k => ev_iload f94_235 rfl k) ?_
    refine eq_icN (by omega) (by omega) (tgt := 247) f94_237 rfl (fun _ => ?_) (fun h9 => absurd (by simp only [akN] at *; omega) h9)
    refine eq_ (fun _ k => ev_iload f94_247 rfl k) ?_
    refine eq_ (fun _ k => ev_istore f94_249 k) ?_
    exact r2
theorem c94 {hs : amH} {way z : Nat} (W : LW X q g P C q hs) (hC : ∀ j, C j < 2 ^ 20) (hp : PI P) (G : GI g P C) (hf : f < 4) (hi : i < 15) (hw : way < 12) (hz : z < 100000) : CaB 94 [.ref 1, .ref 39, .ref 40, .ref 41, .int (nI f), .int (nI i), .int (nI way), .int (nI z)] hs (some (.int (nI true.toNat))) (StP X P hs.length) 1 6 := by
  refine cab_mk ow94 (Nat.le_of_ble_eq_true rfl) ?_
  by_cases w4 : way < 4
  · refine eq_ (fun _ k => ev_bipushN (n := 16) (by omega) f94_0 k) ?_
    refine eq_ (fun _ k => ev_iload f94_2 rfl k) ?_
    first | refine eq_ (fun _ k => ev_imulN f94_4 k) ?_ | refine eq_ (fun _ k => ev_imul f94_4 k) ?_
    refine eq_ (fun _ k => ev_iload f94_5 rfl k) ?_
    first | refine eq_ (fun _ k => ev_iaddN f94_7 k) ?_ | refine eq_ (fun _ k => ev_iadd f94_7 k) ?_
    refine eq_ (fun _ k => ev_istore f94_8 k) ?_
    refine eq_ (fun _ k => ev_iload f94_10 rfl k) ?_
    refine eq_ (fun _ k => ev_iconstN (n := 4) f94_12 k) ?_
    refine eq_icN (by omega) (by omega) (tgt := 20) f94_13 rfl (fun h9 => absurd h9 (by simp only [akN] at *; omega)) (fun _ => ?_)
    refine eq_ (fun _ k => ev_iconstN (n := 1) f94_16 k) ?_
    refine eq_ (fun _ k => ev_goto (tgt := 44) f94_17 rfl k) ?_
    refine eq_ (fun _ k => ev_istore f94_44 k) ?_
    exact l94a W hC hp G hf hi (by omega) (by omega) (by omega) (fun _ => rfl)
  · by_cases w8 : way < 8
    · refine eq_ (fun _ k => ev_bipushN (n := 16) (by omega) f94_0 k) ?_
      refine eq_ (fun _ k => ev_iload f94_2 rfl k) ?_
      first | refine eq_ (fun _ k => ev_imulN f94_4 k) ?_ | refine eq_ (fun _ k => ev_imul f94_4 k) ?_
      refine eq_ (fun _ k => ev_iload f94_5 rfl k) ?_
      first | refine eq_ (fun _ k => ev_iaddN f94_7 k) ?_ | refine eq_ (fun _ k => ev_iadd f94_7 k) ?_
      refine eq_ (fun _ k => ev_istore f94_8 k) ?_
      refine eq_ (fun _ k => ev_iload f94_10 rfl k) ?_
      refine eq_ (fun _ k => ev_iconstN (n := 4) f94_12 k) ?_
      refine eq_icN (by omega) (by omega) (tgt := 20) f94_13 rfl (fun _ => ?_) (fun h9 => absurd (by simp only [akN] at *; omega) h9)
      refine eq_ (fun _ k => ev_iload f94_20 rfl k) ?_
      refine eq_ (fun _ k => ev_bipushN (n := 8) (by omega) f94_22 k) ?_
      refine eq_icN (by omega) (by omega) (tgt := 37) f94_24 rfl (fun h9 => absurd h9 (by simp only [akN] at *; omega)) (fun _ => ?_)
      refine eq_ (fun _ k => ev_iconstN (n := 1) f94_27 k) ?_
      refine eq_ (fun _ k => ev_iload f94_28 rfl k) ?_
      refine eq_ (fun _ k => ev_bipushN (n := 20) (by omega) f94_30 k) ?_
      refine eq_ (fun _ k => ev_iremN (by omega) (by omega) (by omega) f94_32 k) ?_
      first | refine eq_ (fun _ k => ev_iaddN f94_33 k) ?_ | refine eq_ (fun _ k => ev_iadd f94_33 k) ?_
      refine eq_ (fun _ k => ev_goto (tgt := 44) f94_34 rfl k) ?_
      refine eq_ (fun _ k => ev_istore f94_44 k) ?_
      exact l94a W hC hp G hf hi w8 (by omega) (by omega) (fun w => absurd w w4)
    · refine eq_ (fun _ k => ev_bipushN (n := 16) (by omega) f94_0 k) ?_
      refine eq_ (fun _ k => ev_iload f94_2 rfl k) ?_
      first | refine eq_ (fun _ k => ev_imulN f94_4 k) ?_ | refine eq_ (fun _ k => ev_imul f94_4 k) ?_
      refine eq_ (fun _ k => ev_iload f94_5 rfl k) ?_
      first | refine eq_ (fun _ k => ev_iaddN f94_7 k) ?_ | refine eq_ (fun _ k => ev_iadd f94_7 k) ?_
      refine eq_ (fun _ k => ev_istore f94_8 k) ?_
      refine eq_ (fun _ k => ev_iload f94_10 rfl k) ?_
      refine eq_ (fun _ k => ev_iconstN (n := 4) f94_12 k) ?_
      refine eq_icN (by omega) (by omega) (tgt := 20) f94_13 rfl (fun _ => ?_) (fun h9 => absurd (by simp only [akN] at *; omega) h9)
      refine eq_ (fun _ k => ev_iload f94_20 rfl k) ?_
      refine eq_ (fun _ k => ev_bipushN (n := 8) (by omega) f94_22 k) ?_
      refine eq_icN (by omega) (by omega) (tgt := 37) f94_24 rfl (fun _ => ?_) (fun h9 => absurd (by simp only [akN] at *; omega) h9)
      refine eq_ (fun _ k => ev_iconstN (n := 1) f94_37 k) ?_
      refine eq_ (fun _ k => ev_iload f94_38 rfl k) ?_
      refine eq_ (fun _ k => ev_bipushN (n := 100) (by omega) f94_40 k) ?_
      refine eq_ (fun _ k => ev_iremN (by omega) (by omega) (by omega) f94_42 k) ?_
      first | refine eq_ (fun _ k => ev_iaddN f94_43 k) ?_ | refine eq_ (fun _ k => ev_iadd f94_43 k) ?_
      refine eq_ (fun _ k => ev_istore f94_44 k) ?_
      by_cases wa : way < 10
      · exact l94r W hC hp G hf hi (by omega) wa
      · exact l94t W hC hp G hf hi (by omega) hw (by omega) (by omega)
end CN
