/-! the law's areSame; rows laid by wip/p33/walk.py -/
section SA
variable {X : amC} {q : Nat → Nat} {g : Nat → Nat → Nat} {P C Q : Nat → Nat} {R : amOut → Prop} {cc ss : Nat}
theorem sa_P (hp : PI P) (G : GI g P C) {f e : Nat} (hf : f < 4) (he : e < 4) : saN (g f) (g e) ↔ ∀ i, i < 15 → C (f * 16 + i) = C (e * 16 + i) := by
  constructor
  · intro h i hi
    have h1 := h (P i) (hp.2 i hi)
    rw [(G f hf).1 i hi, (G e he).1 i hi] at h1
    rw [Nat.mul_comm f, Nat.mul_comm e]
    exact h1
  · intro h j hj
    by_cases w : ∃ i, i < 15 ∧ j = P i
    · obtain ⟨i, hi, rfl⟩ := w
      rw [(G f hf).1 i hi, (G e he).1 i hi]
      have := h i hi
      rw [Nat.mul_comm f, Nat.mul_comm e] at this
      exact this
    · rw [(G f hf).2 j (fun i hi e1 => w ⟨i, hi, e1⟩), (G e he).2 j (fun i hi e1 => w ⟨i, hi, e1⟩)]
theorem l86j {hs : amH} {k : Nat} (w3 : hs[40]? = some (.inl (.int, 64, .inl (fun j => nI (C j))))) (hC : ∀ j, C j < 2 ^ 20) (hk : k < 16) (kk : ∀ b : Bool, (b = true ↔ ∀ i, i < 15 → C (k / 4 * 16 + i) = C (k % 4 * 16 + i)) → EvQ 86 70 [some (.ref 1), some (.ref 40), some (.int (nI 1)), some (.int (nI k)), some (.int (nI b.toNat)), some (.int (nI 15))] [] hs cc ss R) : ∀ d i (b : Bool), i + d = 15 → (b = true ↔ ∀ j, j < i → C (k / 4 * 16 + j) = C (k % 4 * 16 + j)) → EvQ 86 20 [some (.ref 1), some (.ref 40), some (.int (nI 1)), some (.int (nI k)), some (.int (nI b.toNat)), some (.int (nI i))] [] hs cc ss R := by
  intro d
  induction d with
  | zero =>
    intro i b hi hb
    have e1 : i = 15 := by omega
    subst e1
    refine eq_ (fun _ k => ev_iload f86_20 rfl k) ?_
    refine eq_ (fun _ k => ev_bipushN (n := 15) (by omega) f86_22 k) ?_
    refine eq_icN (by omega) (by omega) (tgt := 70) f86_24 rfl (fun _ => ?_) (fun h9 => absurd (by simp only [akN] at *; omega) h9)
    exact kk b hb
  | succ d ih =>
    intro i b hi hb
    have hc1 := hC (k / 4 * 16 + i)
    have hc2 := hC (k % 4 * 16 + i)
    cases b with
    | false =>
      refine eq_ (fun _ k => ev_iload f86_20 rfl k) ?_
      refine eq_ (fun _ k => ev_bipushN (n := 15) (by omega) f86_22 k) ?_
      refine eq_icN (by omega) (by omega) (tgt := 70) f86_24 rfl (fun h9 => absurd h9 (by simp only [akN] at *; omega)) (fun _ => ?_)
      refine eq_ (fun _ k => ev_iload f86_27 rfl k) ?_
      refine eq_ifeqB (tgt := 61) f86_29 rfl (fun _ => ?_) (fun h9 => Bool.noConfusion (h9.symm.trans (rfl)))
      refine eq_ (fun _ k => ev_iconstN (n := 0) f86_61 k) ?_
      refine eq_ (fun _ k => ev_istore f86_62 k) ?_
      refine eq_ (fun _ k => ev_iincN (d := 1) f86_64 rfl k) ?_
      refine eq_ (fun _ k => ev_goto (tgt := 20) f86_67 rfl k) ?_
      refine ih (i + 1) false (by omega) ⟨fun w => Bool.noConfusion w, fun w => ?_⟩
      exact hb.mpr (fun j hj => w j (by omega))
    | true =>
      have hb2 := hb.mp rfl
      by_cases w : C (k / 4 * 16 + i) = C (k % 4 * 16 + i)
      · refine eq_ (fun _ k => ev_iload f86_20 rfl k) ?_
        refine eq_ (fun _ k => ev_bipushN (n := 15) (by omega) f86_22 k) ?_
        refine eq_icN (by omega) (by omega) (tgt := 70) f86_24 rfl (fun h9 => absurd h9 (by simp only [akN] at *; omega)) (fun _ => ?_)
        refine eq_ (fun _ k => ev_iload f86_27 rfl k) ?_
        refine eq_ifeqB (tgt := 61) f86_29 rfl (fun h9 => Bool.noConfusion (h9.symm.trans (rfl))) (fun _ => ?_)
        refine eq_ (fun _ k => ev_aload_n f86_32 rfl k) ?_
        refine eq_ (fun _ k => ev_iload_n f86_33 rfl k) ?_
        refine eq_ (fun _ k => ev_iconstN (n := 4) f86_34 k) ?_
        refine eq_ (fun _ k => ev_idivN (by omega) (by omega) (by omega) f86_35 k) ?_
        refine eq_ (fun _ k => ev_bipushN (n := 16) (by omega) f86_36 k) ?_
        first | refine eq_ (fun _ k => ev_imulN f86_38 k) ?_ | refine eq_ (fun _ k => ev_imul f86_38 k) ?_
        refine eq_ (fun _ k => ev_iload f86_39 rfl k) ?_
        first | refine eq_ (fun _ k => ev_iaddN f86_41 k) ?_ | refine eq_ (fun _ k => ev_iadd f86_41 k) ?_
        refine eq_ (fun _ k => ev_iald f86_42 (by assumption) (by omega) (by omega) k) ?_
        refine eq_ (fun _ k => ev_aload_n f86_43 rfl k) ?_
        refine eq_ (fun _ k => ev_iload_n f86_44 rfl k) ?_
        refine eq_ (fun _ k => ev_iconstN (n := 4) f86_45 k) ?_
        refine eq_ (fun _ k => ev_iremN (by omega) (by omega) (by omega) f86_46 k) ?_
        refine eq_ (fun _ k => ev_bipushN (n := 16) (by omega) f86_47 k) ?_
        first | refine eq_ (fun _ k => ev_imulN f86_49 k) ?_ | refine eq_ (fun _ k => ev_imul f86_49 k) ?_
        refine eq_ (fun _ k => ev_iload f86_50 rfl k) ?_
        first | refine eq_ (fun _ k => ev_iaddN f86_52 k) ?_ | refine eq_ (fun _ k => ev_iadd f86_52 k) ?_
        refine eq_ (fun _ k => ev_iald f86_53 (by assumption) (by omega) (by omega) k) ?_
        refine eq_icN (by omega) (by omega) (tgt := 61) f86_54 rfl (fun h9 => absurd h9 (fun w9 => w9 w)) (fun _ => ?_)
        refine eq_ (fun _ k => ev_iconstN (n := 1) f86_57 k) ?_
        refine eq_ (fun _ k => ev_goto (tgt := 62) f86_58 rfl k) ?_
        refine eq_ (fun _ k => ev_istore f86_62 k) ?_
        refine eq_ (fun _ k => ev_iincN (d := 1) f86_64 rfl k) ?_
        refine eq_ (fun _ k => ev_goto (tgt := 20) f86_67 rfl k) ?_
        refine ih (i + 1) true (by omega) ⟨fun _ j hj => ?_, fun _ => rfl⟩
        by_cases e : j = i
        · rw [e]
          exact w
        · exact hb2 j (by omega)
      · refine eq_ (fun _ k => ev_iload f86_20 rfl k) ?_
        refine eq_ (fun _ k => ev_bipushN (n := 15) (by omega) f86_22 k) ?_
        refine eq_icN (by omega) (by omega) (tgt := 70) f86_24 rfl (fun h9 => absurd h9 (by simp only [akN] at *; omega)) (fun _ => ?_)
        refine eq_ (fun _ k => ev_iload f86_27 rfl k) ?_
        refine eq_ifeqB (tgt := 61) f86_29 rfl (fun h9 => Bool.noConfusion (h9.symm.trans (rfl))) (fun _ => ?_)
        refine eq_ (fun _ k => ev_aload_n f86_32 rfl k) ?_
        refine eq_ (fun _ k => ev_iload_n f86_33 rfl k) ?_
        refine eq_ (fun _ k => ev_iconstN (n := 4) f86_34 k) ?_
        refine eq_ (fun _ k => ev_idivN (by omega) (by omega) (by omega) f86_35 k) ?_
        refine eq_ (fun _ k => ev_bipushN (n := 16) (by omega) f86_36 k) ?_
        first | refine eq_ (fun _ k => ev_imulN f86_38 k) ?_ | refine eq_ (fun _ k => ev_imul f86_38 k) ?_
        refine eq_ (fun _ k => ev_iload f86_39 rfl k) ?_
        first | refine eq_ (fun _ k => ev_iaddN f86_41 k) ?_ | refine eq_ (fun _ k => ev_iadd f86_41 k) ?_
        refine eq_ (fun _ k => ev_iald f86_42 (by assumption) (by omega) (by omega) k) ?_
        refine eq_ (fun _ k => ev_aload_n f86_43 rfl k) ?_
        refine eq_ (fun _ k => ev_iload_n f86_44 rfl k) ?_
        refine eq_ (fun _ k => ev_iconstN (n := 4) f86_45 k) ?_
        refine eq_ (fun _ k => ev_iremN (by omega) (by omega) (by omega) f86_46 k) ?_
        refine eq_ (fun _ k => ev_bipushN (n := 16) (by omega) f86_47 k) ?_
        first | refine eq_ (fun _ k => ev_imulN f86_49 k) ?_ | refine eq_ (fun _ k => ev_imul f86_49 k) ?_
        refine eq_ (fun _ k => ev_iload f86_50 rfl k) ?_
        first | refine eq_ (fun _ k => ev_iaddN f86_52 k) ?_ | refine eq_ (fun _ k => ev_iadd f86_52 k) ?_
        refine eq_ (fun _ k => ev_iald f86_53 (by assumption) (by omega) (by omega) k) ?_
        refine eq_icN (by omega) (by omega) (tgt := 61) f86_54 rfl (fun _ => ?_) (fun h9 => absurd w h9)
        refine eq_ (fun _ k => ev_iconstN (n := 0) f86_61 k) ?_
        refine eq_ (fun _ k => ev_istore f86_62 k) ?_
        refine eq_ (fun _ k => ev_iincN (d := 1) f86_64 rfl k) ?_
        refine eq_ (fun _ k => ev_goto (tgt := 20) f86_67 rfl k) ?_
        exact ih (i + 1) false (by omega) ⟨fun w => Bool.noConfusion w, fun w9 => absurd (w9 i (by omega)) w⟩
theorem l86 {hs0 : amH} (hC : ∀ j, C j < 2 ^ 20) (hp : PI P) (G : GI g P C) (kk : ∀ hs, LW X q g P C Q hs → Fr hs0 hs 3 39 → R (.inl (some (.int (nI true.toNat))), hs, cc, ss)) : ∀ d k hs w4 w5, k + d = 16 → LW X q g P C Q hs → Fr hs0 hs 3 39 → EvQ 86 4 [some (.ref 1), some (.ref 40), some (.int (nI 1)), some (.int (nI k)), w4, w5] [] hs cc ss R := by
  intro d
  induction d with
  | zero =>
    intro k hs w4 w5 hk W F0
    have e1 : k = 16 := by omega
    subst e1
    refine eq_ (fun _ k => ev_iload_n f86_4 rfl k) ?_
    refine eq_ (fun _ k => ev_bipushN (n := 16) (by omega) f86_5 k) ?_
    refine eq_icN (by omega) (by omega) (tgt := 97) f86_7 rfl (fun _ => ?_) (fun h9 => absurd (by simp only [akN] at *; omega) h9)
    refine eq_ (fun _ k => ev_iload_n f86_97 rfl k) ?_
    first | refine ⟨_, ev_iret f86_98 (rZ rfl true) rfl, ?_⟩ | refine ⟨_, ev_iret f86_98 (rZ rfl false) rfl, ?_⟩ | refine ⟨_, ev_iret f86_98 (rZ rfl _) rfl, ?_⟩
    exact kk hs W F0
  | succ d ih =>
    intro k hs w4 w5 hk W F0
    have hk2 : k < 16 := by omega
    refine eq_ (fun _ k => ev_iload_n f86_4 rfl k) ?_
    refine eq_ (fun _ k => ev_bipushN (n := 16) (by omega) f86_5 k) ?_
    refine eq_icN (by omega) (by omega) (tgt := 97) f86_7 rfl (fun h9 => absurd h9 (by simp only [akN] at *; omega)) (fun _ => ?_)
    refine eq_ (fun _ k => ev_iload_n f86_10 rfl k) ?_
    refine eq_ifN (by omega) (tgt := 97) f86_11 rfl (fun h9 => absurd h9 (by simp only [akN] at *; omega)) (fun _ => ?_)
    refine eq_ (fun _ k => ev_iconstN (n := 1) f86_14 k) ?_
    refine eq_ (fun _ k => ev_istore f86_15 k) ?_
    refine eq_ (fun _ k => ev_iconstN (n := 0) f86_17 k) ?_
    refine eq_ (fun _ k => ev_istore f86_18 k) ?_
    refine l86j W.2.2.2.1 hC hk2 (fun b hb => ?_) 15 0 true rfl ⟨fun _ j hj => absurd hj (Nat.not_lt_zero j), fun _ => rfl⟩
    obtain ⟨r, hr, k51⟩ := m51 W.2.1 (show k / 4 < 4 by omega) (show k % 4 < 4 by omega)
    have e : r = b := Bool.eq_iff_iff.mpr (hr.trans ((sa_P hp G (by omega) (by omega)).trans hb.symm))
    subst e
    obtain ⟨hs1, k1, W1, F1⟩ := W.cls k51
    have x0 := W.2.1.1
    have hb1 := Bool.toNat_le r
    refine eq_ (fun _ k => ev_aload_n f86_70 rfl k) ?_
    refine eq_ (fun _ k => ev_iload_n f86_71 rfl k) ?_
    refine eq_ (fun _ k => ev_iconstN (n := 4) f86_72 k) ?_
    refine eq_ (fun _ k => ev_idivN (by omega) (by omega) (by omega) f86_73 k) ?_
    refine eq_ (fun _ k => ev_iload_n f86_74 rfl k) ?_
    refine eq_ (fun _ k => ev_iconstN (n := 4) f86_75 k) ?_
    refine eq_ (fun _ k => ev_iremN (by omega) (by omega) (by omega) f86_76 k) ?_
    refine eq_ (fun _ k => ev_v2 f86_77 ow51 (by assumption) rfl rfl (Nat.le_of_ble_eq_true rfl) (k1) k) ?_
    refine eq_ (fun _ k => ev_iload f86_80 rfl k) ?_
    refine eq_icN (by omega) (by omega) (tgt := 89) f86_82 rfl (fun h9 => absurd h9 (fun w => w rfl)) (fun _ => ?_)
    refine eq_ (fun _ k => ev_iconstN (n := 1) f86_85 k) ?_
    refine eq_ (fun _ k => ev_goto (tgt := 90) f86_86 rfl k) ?_
    refine eq_ (fun _ k => ev_istore_n f86_90 k) ?_
    refine eq_ (fun _ k => ev_iincN (d := 1) f86_91 rfl k) ?_
    refine eq_ (fun _ k => ev_goto (tgt := 4) f86_94 rfl k) ?_
    exact ih (k + 1) hs1 _ _ (by omega) W1 (F0.tr F1)
theorem c86 {hs : amH} (W : LW X q g P C Q hs) (hC : ∀ j, C j < 2 ^ 20) (hp : PI P) (G : GI g P C) : CrQ 86 [.ref 1, .ref 40] hs (some (.int (nI true.toNat))) (fun hs' => LW X q g P C Q hs' ∧ Fr hs hs' 3 39) := by
  refine crq_mk ow86 (Nat.le_of_ble_eq_true rfl) ?_
  refine eq_ (fun _ k => ev_iconstN (n := 1) f86_0 k) ?_
  refine eq_ (fun _ k => ev_istore_n f86_1 k) ?_
  refine eq_ (fun _ k => ev_iconstN (n := 0) f86_2 k) ?_
  refine eq_ (fun _ k => ev_istore_n f86_3 k) ?_
  exact l86 (hs0 := hs) hC hp G (fun hs' W' F' => ⟨hs', rfl, W', F'⟩) 16 0 hs none none rfl W Fr.refl
end SA
