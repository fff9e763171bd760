/-! the model's lays, whole; rows laid by wip/whole/walk.py -/
/-- the model, laid out for filter f -/
def MLaid (hs : amH) (q : Nat → Nat) (g : Nat → Nat → Nat) (l f : Nat) : Prop := ∃ A B C D E, MSx hs q g l A B C D E ∧ LayM (2 ^ q f) (2 ^ (12 - q f)) (g f) (ovN (2 ^ q f) (2 ^ (12 - q f)) (g f) + 2 ^ q f) A B ∧ (∀ t, t < 2 ^ q f → C t = lnN (2 ^ (12 - q f)) (g f) t) ∧ ∀ t, t < 2 ^ q f → 0 < lnN (2 ^ (12 - q f)) (g f) t → D t = plN (2 ^ (12 - q f)) (g f) (ovN (2 ^ q f) (2 ^ (12 - q f)) (g f)) t
section LA
variable {q : Nat → Nat} {g : Nat → Nat → Nat} {l f : Nat}
theorem l89d (hi : MI q g) (hf : f < 4) {C D : Nat → Nat} (hC : ∀ t, t < 2 ^ q f → C t = lnN (2 ^ (12 - q f)) (g f) t) (hD : ∀ t, t < 2 ^ q f → 0 < lnN (2 ^ (12 - q f)) (g f) t → D t = plN (2 ^ (12 - q f)) (g f) (ovN (2 ^ q f) (2 ^ (12 - q f)) (g f)) t) {hs0 : amH} : ∀ (d k : Nat) (hs : amH) (A B E : Nat → Nat) (w5 w6 w7 : Option Value), k + d = 4096 → MSx hs q g l A B C D E → Fr hs0 hs 39 47 → LayM (2 ^ q f) (2 ^ (12 - q f)) (g f) (psN (2 ^ q f) (2 ^ (12 - q f)) (g f) k) A B → (∀ t, t < 2 ^ q f → E t = ctqN (2 ^ (12 - q f)) (g f) k t) → EvQ 89 116 [some (.ref 39), some (.int (nI f)), some (.int (nI (2 ^ q f))), some (.int (nI (12 - q f))), some (.int (nI k)), w5, w6, w7] [] hs 0 0 (Rt none (fun hs' => MLaid hs' q g l f ∧ Fr hs0 hs' 39 47)) := by
  obtain ⟨o3, o8, o4, o5⟩ := hi f hf
  obtain ⟨l1, l2⟩ := hi.le hf
  obtain ⟨p1, p2⟩ := am_pow o3 o8
  have hn : 0 < 2 ^ q f := by omega
  have hm : 0 < 2 ^ (12 - q f) := Nat.two_pow_pos _
  have hnm := am_nm o8
  have hN : EE (g f) (2 ^ q f * 2 ^ (12 - q f)) < 2 ^ q f := by rw [hnm]; omega
  intro d
  induction d with
  | zero =>
    intro k hs A B E w5 w6 w7 hk h fr hL hE
    have hk2 : k = 4096 := by omega
    subst hk2
    have hpn := ps_n (g := g f) hn hm
    rw [hnm] at hpn
    rw [hpn] at hL
    refine eq_ (fun _ k => ev_iload f89_116 rfl k) ?_
    refine eq_ (fun _ k => ev_sipushN (n := 4096) (by decide +kernel) f89_118 k) ?_
    refine eq_icN (by omega) (by omega) (tgt := 224) f89_121 rfl (fun _ => ?_) (fun h9 => absurd (by simp only [akN] at *; omega) h9)
    refine ⟨_, ev_vret f89_224 rfl, ?_⟩
    exact ⟨hs, rfl, ⟨A, B, C, D, E, h, hL, hC, hD⟩, fr⟩
  | succ d ih =>
    intro k hs A B E w5 w6 w7 hk h fr hL hE
    have h9 := h
    obtain ⟨a, b, c, d1, e1, e2, e3, e4⟩ := h
    have ek := ct (g := g) (f := f) (show k < 4096 by omega)
    have b1 := l2 k
    obtain ⟨st1, st2⟩ := ps_step hn hm hN (show k < 2 ^ q f * 2 ^ (12 - q f) by omega)
    refine eq_ (fun _ k => ev_iload f89_116 rfl k) ?_
    refine eq_ (fun _ k => ev_sipushN (n := 4096) (by decide +kernel) f89_118 k) ?_
    refine eq_icN (by omega) (by omega) (tgt := 224) f89_121 rfl (fun h9 => absurd h9 (by simp only [akN] at *; omega)) (fun _ => ?_)
    refine eq_ (fun _ k => ev_iload f89_124 rfl k) ?_
    refine eq_ (fun _ k => ev_iload_n f89_126 rfl k) ?_
    refine eq_ (fun _ k => ev_ishr f89_127 k) ?_
    rw [pk_shrN (by omega) _ (12 - q f) (am_sh _ (by omega))]
    refine eq_ (fun _ k => ev_istore f89_128 k) ?_
    refine eq_ (fun _ k => ev_aload_n f89_130 rfl k) ?_
    refine eq_ (fun _ k => ev_getf f89_131 (by assumption) rfl k) ?_
    refine eq_ (fun _ k => ev_sipushN (n := 4096) (by decide +kernel) f89_134 k) ?_
    refine eq_ (fun _ k => ev_iload_n f89_137 rfl k) ?_
    first | refine eq_ (fun _ k => ev_imulN f89_138 k) ?_ | refine eq_ (fun _ k => ev_imul f89_138 k) ?_
    refine eq_ (fun _ k => ev_iload f89_139 rfl k) ?_
    first | refine eq_ (fun _ k => ev_iaddN f89_141 k) ?_ | refine eq_ (fun _ k => ev_iadd f89_141 k) ?_
    refine eq_ (fun _ k => ev_iald f89_142 (by assumption) (by omega) (by omega) k) ?_
    rw [ek]
    refine eq_ (fun _ k => ev_istore f89_143 k) ?_
    by_cases h0 : g f k = 0
    · refine eq_ (fun _ k => ev_iload f89_145 rfl k) ?_
      refine eq_ifN (by omega) (tgt := 218) f89_147 rfl (fun _ => ?_) (fun h9 => absurd (by simp only [akN] at *; omega) h9)
      refine eq_ (fun _ k => ev_iincN (d := 1) f89_218 rfl k) ?_
      refine eq_ (fun _ k => ev_goto (tgt := 116) f89_221 rfl k) ?_
      refine ih (k + 1) hs A B E _ _ _ (by omega) h9 fr ?_ (fun t ht => ?_)
      · rw [h0, show enN 0 = 0 from rfl, Nat.add_zero] at st1 st2
        exact laym_skip hL st1 st2
      · rw [hE t ht, ctq_s hm, h0]
        show _ = _ + (if _ then 0 else 0)
        split <;> rfl
    · have hen : 0 < enN (g f k) := by
        unfold enN
        omega
      refine eq_ (fun _ k => ev_iload f89_145 rfl k) ?_
      refine eq_ifN (by omega) (tgt := 218) f89_147 rfl (fun h9 => absurd h9 (by simp only [akN] at *; omega)) (fun _ => ?_)
      refine l89c hi hf (show k < 4096 by omega) hD (fun hs2 A2 B2 E2 w6 w7 m2 f2 L2 E3 => ?_) (enN (g f k)) 0 hs A B E _ (by omega) hen h9 fr hL (fun t ht => ?_)
      · refine eq_ (fun _ k => ev_iincN (d := 1) f89_218 rfl k) ?_
        refine eq_ (fun _ k => ev_goto (tgt := 116) f89_221 rfl k) ?_
        exact ih (k + 1) hs2 A2 B2 E2 _ _ _ (by omega) m2 f2 (laym_skip L2 st1 st2) E3
      · rw [hE t ht]
        split <;> rfl
theorem c89 {hs : amH} (h : MS hs q g l) (hi : MI q g) (hf : f < 4) : CrQ 89 [.ref 39, .int (nI f)] hs none (fun hs' => MLaid hs' q g l f ∧ Fr hs hs' 39 47) := by
  obtain ⟨o3, o8, o4, o5⟩ := hi f hf
  obtain ⟨l1, l2⟩ := hi.le hf
  obtain ⟨p1, p2⟩ := am_pow o3 o8
  have hn : 0 < 2 ^ q f := by omega
  have hm : 0 < 2 ^ (12 - q f) := Nat.two_pow_pos _
  have hnm := am_nm o8
  have hN : EE (g f) (2 ^ q f * 2 ^ (12 - q f)) < 2 ^ q f := by rw [hnm]; omega
  obtain ⟨A, B, C, D, E, h9⟩ := h.x
  have mm := h9
  obtain ⟨a, b, c, d1, e1, e2, e3, e4⟩ := mm
  refine crq_mk ow89 (Nat.le_of_ble_eq_true rfl) ?_
  refine eq_ (fun _ k => ev_aload_n f89_0 rfl k) ?_
  refine eq_ (fun _ k => ev_iload_n f89_1 rfl k) ?_
  refine eq_ (fun _ k => ev_v1 f89_2 ow83 (by assumption) rfl (Nat.le_of_ble_eq_true rfl) (c83 h hf o8) k) ?_
  refine eq_ (fun _ k => ev_istore_n f89_5 k) ?_
  refine eq_ (fun _ k => ev_bipushN (n := 12) (by omega) f89_6 k) ?_
  refine eq_ (fun _ k => ev_aload_n f89_8 rfl k) ?_
  refine eq_ (fun _ k => ev_getf f89_9 (by assumption) rfl k) ?_
  refine eq_ (fun _ k => ev_iload_n f89_12 rfl k) ?_
  refine eq_ (fun _ k => ev_iald f89_13 (by assumption) (by omega) (by omega) k) ?_
  refine eq_ (fun _ k => ev_isubN (by omega) f89_14 k) ?_
  refine eq_ (fun _ k => ev_istore_n f89_15 k) ?_
  refine eq_ (fun _ k => ev_iconstN (n := 0) f89_16 k) ?_
  refine eq_ (fun _ k => ev_istore f89_17 k) ?_
  refine l89a (l := l) hf o8 (fun hs1 A1 B1 C1 D1 E1 m1 f1 z1 => ?_) (2 ^ q f) 0 hs A B C D E (by omega) h9 Fr.refl (fun t ht => absurd ht (Nat.not_lt_zero t))
  refine eq_ (fun _ k => ev_iconstN (n := 0) f89_63 k) ?_
  refine eq_ (fun _ k => ev_istore f89_64 k) ?_
  refine l89b (l := l) hi hf (fun hs2 A2 B2 C2 D2 E2 m2 f2 z2 => ?_) 4096 0 hs1 A1 B1 C1 D1 E1 rfl m1 f1 (fun t ht => ?_)
  · have hC2 : ∀ t, t < 2 ^ q f → C2 t = lnN (2 ^ (12 - q f)) (g f) t := fun t ht => by
      have h5 := ctq_n (g := g f) (m := 2 ^ (12 - q f)) ht
      rw [hnm] at h5
      rw [(z2 t ht).2.2.1, h5]
    have hB : ∀ t, EE (g f) (t * 2 ^ (12 - q f)) ≤ 256 := fun t => by
      by_cases w : t * 2 ^ (12 - q f) ≤ 4096
      · have := EE_mono (g f) w
        omega
      · have h6 : ∀ j, EE (g f) (4096 + j) = EE (g f) 4096 := by
          intro j
          induction j with
          | zero => rw [Nat.add_zero]
          | succ j ih =>
            show EE (g f) (4096 + j) + enN (g f (4096 + j)) = _
            rw [ih, o5 _ (by omega), show enN 0 = 0 from rfl, Nat.add_zero]
        rw [show t * 2 ^ (12 - q f) = 4096 + (t * 2 ^ (12 - q f) - 4096) by omega, h6]
        omega
    obtain ⟨hs3, k3, ⟨D3, m3, hD3⟩, f3⟩ := c88 (n := 2 ^ q f) (m := 2 ^ (12 - q f)) (g1 := g f) m2 p2 hB hC2
    have mm := m2
    clear a b c d1 e1 e2 e3 e4
    obtain ⟨a, b, c, d1, e1, e2, e3, e4⟩ := mm
    refine eq_ (fun _ k => ev_aload_n f89_108 rfl k) ?_
    refine eq_ (fun _ k => ev_iload_n f89_109 rfl k) ?_
    refine eq_ (fun _ k => ev_v1 f89_110 ow88 (by assumption) rfl (Nat.le_of_ble_eq_true rfl) (k3) k) ?_
    refine eq_ (fun _ k => ev_iconstN (n := 0) f89_113 k) ?_
    refine eq_ (fun _ k => ev_istore f89_114 k) ?_
    exact l89d hi hf hC2 hD3 4096 0 hs3 A2 B2 E2 _ _ _ rfl m3 (f2.tr f3) (laym_0 hn hm hN (fun s hs5 => ⟨(z2 s hs5).1, (z2 s hs5).2.1⟩)) (fun t ht => by rw [(z2 t ht).2.2.2, ctq_0])
  · obtain ⟨y1, y2, y3, y4⟩ := z1 t ht
    exact ⟨y1, y2, by rw [y3, ctq_0], y4⟩
end LA
