/-! the model's clusterStart; rows laid by wip/whole/walk.py -/
section MQ
variable {hs : amH} {q : Nat → Nat} {g : Nat → Nat → Nat} {l f s k i : Nat} {A B C D E : Nat → Nat}
theorem ml_mv (h : MSx hs q g l A B C D E) (hi : MI q g) (hf : f < 4) (L : LayM (2 ^ q f) (2 ^ (12 - q f)) (g f) (ovN (2 ^ q f) (2 ^ (12 - q f)) (g f) + 2 ^ q f) A B) {u : Nat} (hu : 2 ^ q f ≤ u) : Cr 92 [.ref 39, .int (nI f), .int (nI (u % 2 ^ q f))] hs (some (.int (nI (decide (u < PN (2 ^ q f) (2 ^ (12 - q f)) (g f) u)).toNat))) hs := by
  obtain ⟨hn, hm, hnm, hN, p2, o8⟩ := hi.fa hf
  have hlay := fi_lay (q := q f) (g := g f) (hi f hf).1 o8 (by rw [hnm] at hN; exact hN) (fun _ => 0, fun _ => 0, fun _ => false, fun _ => false, fun _ => false)
  have hT := lay_tab hn hm hN hlay
  have hsh := tl_sh hT hu
  have hsl : u % 2 ^ q f < 2 ^ q f := Nat.mod_lt _ hn
  rw [← hsh]
  by_cases hex : ∃ k i, SlotE (2 ^ q f) (2 ^ (12 - q f)) (g f) (u % 2 ^ q f) k i
  · obtain ⟨k, i, he⟩ := hex
    obtain ⟨ha, hb⟩ := lm_ent hn hm hN L he
    have hk : k < 4096 := by have := he.1; omega
    rw [(slot_ent hn hm hN hlay he).2.2.2.2]
    exact c92 h hf o8 (by omega) ha hk
  · have hno : ∀ k i, ¬ SlotE (2 ^ q f) (2 ^ (12 - q f)) (g f) (u % 2 ^ q f) k i := fun k i w => hex ⟨k, i, w⟩
    obtain ⟨ha, hb⟩ := lm_no L hsl hno
    rw [(slot_no hlay hsl hno).2.2]
    exact c92n h (by omega) ha
theorem md_pred {n u : Nat} (hn : 0 < n) : u % n = if (u + 1) % n = 0 then n - 1 else (u + 1) % n - 1 := by
  have h := md_back hn u
  have hl := Nat.mod_lt (u + 1) hn
  by_cases w : (u + 1) % n = 0
  · rw [if_pos w]
    rw [w, Nat.zero_add, Nat.mod_eq_of_lt (by omega)] at h
    exact h.symm
  · rw [if_neg w, ← h, show (u + 1) % n + (n - 1) = (u + 1) % n - 1 + n by omega, Nat.add_mod_right, Nat.mod_eq_of_lt (by omega)]
theorem l123 (h : MSx hs q g l A B C D E) (hi : MI q g) (hf : f < 4) (L : LayM (2 ^ q f) (2 ^ (12 - q f)) (g f) (ovN (2 ^ q f) (2 ^ (12 - q f)) (g f) + 2 ^ q f) A B) {c : Nat} (hc : 2 ^ q f ≤ c) (c3 : PN (2 ^ q f) (2 ^ (12 - q f)) (g f) c = c) {v : Int32} {o : amOut} (hfin : Ev 123 43 [some (.ref 39), some (.int (nI f)), some (.int v), some (.int (nI (c % 2 ^ q f)))] [] hs 0 0 o) : ∀ j, (∀ y, c < y → y ≤ c + j → y < PN (2 ^ q f) (2 ^ (12 - q f)) (g f) y) → Ev 123 13 [some (.ref 39), some (.int (nI f)), some (.int v), some (.int (nI ((c + j) % 2 ^ q f)))] [] hs 0 0 o := by
  obtain ⟨hn, hm, hnm, hN, p2, o8⟩ := hi.fa hf
  have k83 := c83 h.ms hf o8
  intro j
  induction j with
  | zero =>
    intro hy
    have k92 := ml_mv h hi hf L (u := c + 0) hc
    rw [decide_eq_false (by rw [Nat.add_zero, c3]; omega)] at k92
    obtain ⟨b0, b1, -⟩ := h
    refine ev_aload_n f123_13 rfl ?_
    refine ev_iload_n f123_14 rfl ?_
    refine ev_iload_n f123_15 rfl ?_
    refine ev_v2 f123_16 ow92 (by assumption) rfl rfl (Nat.le_of_ble_eq_true rfl) (k92) ?_
    refine ev_ifeqB (tgt := 43) f123_19 rfl (fun _ => ?_) (fun h9 => Bool.noConfusion (h9.symm.trans (rfl)))
    exact hfin
  | succ j ih =>
    intro hy
    have hi2 := ih (fun y y1 y2 => hy y y1 (by omega))
    have k92 := ml_mv h hi hf L (u := c + (j + 1)) (by omega)
    rw [decide_eq_true (hy (c + (j + 1)) (by omega) (Nat.le_refl _))] at k92
    have hpr := md_pred (u := c + j) hn
    rw [show c + j + 1 = c + (j + 1) by omega] at hpr
    have hml : (c + (j + 1)) % 2 ^ q f < 2 ^ q f := Nat.mod_lt _ hn
    obtain ⟨b0, b1, -⟩ := h
    by_cases w : (c + (j + 1)) % 2 ^ q f = 0
    · rw [if_pos w] at hpr
      rw [hpr] at hi2
      refine ev_aload_n f123_13 rfl ?_
      refine ev_iload_n f123_14 rfl ?_
      refine ev_iload_n f123_15 rfl ?_
      refine ev_v2 f123_16 ow92 (by assumption) rfl rfl (Nat.le_of_ble_eq_true rfl) (k92) ?_
      refine ev_ifeqB (tgt := 43) f123_19 rfl (fun h9 => Bool.noConfusion (h9.symm.trans (rfl))) (fun _ => ?_)
      refine ev_iload_n f123_22 rfl ?_
      refine ev_ifN (by omega) (tgt := 36) f123_23 rfl (fun h9 => absurd h9 (fun w2 => w2 w)) (fun _ => ?_)
      refine ev_aload_n f123_26 rfl ?_
      refine ev_iload_n f123_27 rfl ?_
      refine ev_v1 f123_28 ow83 (by assumption) rfl (Nat.le_of_ble_eq_true rfl) (k83) ?_
      refine ev_iconstN (n := 1) f123_31 ?_
      refine ev_isubN (by omega) f123_32 ?_
      refine ev_goto (tgt := 39) f123_33 rfl ?_
      refine ev_istore_n f123_39 ?_
      refine ev_goto (tgt := 13) f123_40 rfl ?_
      exact hi2
    · rw [if_neg w] at hpr
      rw [hpr] at hi2
      refine ev_aload_n f123_13 rfl ?_
      refine ev_iload_n f123_14 rfl ?_
      refine ev_iload_n f123_15 rfl ?_
      refine ev_v2 f123_16 ow92 (by assumption) rfl rfl (Nat.le_of_ble_eq_true rfl) (k92) ?_
      refine ev_ifeqB (tgt := 43) f123_19 rfl (fun h9 => Bool.noConfusion (h9.symm.trans (rfl))) (fun _ => ?_)
      refine ev_iload_n f123_22 rfl ?_
      refine ev_ifN (by omega) (tgt := 36) f123_23 rfl (fun _ => ?_) (fun h9 => absurd w h9)
      refine ev_iload_n f123_36 rfl ?_
      refine ev_iconstN (n := 1) f123_37 ?_
      refine ev_isubN (by omega) f123_38 ?_
      refine ev_istore_n f123_39 ?_
      refine ev_goto (tgt := 13) f123_40 rfl ?_
      exact hi2
theorem d123 (h : MS hs q g l) (hi : MI q g) (hf : f < 4) (hs2 : s < 2 ^ q f) (he : SlotE (2 ^ q f) (2 ^ (12 - q f)) (g f) s k i) {c : Nat} (c1 : c ≤ s + 2 ^ q f + 2 ^ q f) (c2 : s + 2 ^ q f + 2 ^ q f < c + 2 ^ q f) (c3 : PN (2 ^ q f) (2 ^ (12 - q f)) (g f) c = c) (c4 : ∀ y, c < y → y ≤ s + 2 ^ q f + 2 ^ q f → y < PN (2 ^ q f) (2 ^ (12 - q f)) (g f) y) : CrQ 123 [.ref 39, .int (nI f), .int (nI s)] hs (some (.int (nI (c % 2 ^ q f)))) (MP hs q g 0) := by
  have a := h.1
  obtain ⟨hn, hm, hnm, hN, p2, o8⟩ := hi.fa hf
  obtain ⟨hs1, k1, ⟨A, B, C, D, E, m1, L, hC, hD⟩, f1⟩ := d114 h hi hf hs2
  obtain ⟨ha, hb⟩ := lm_ent hn hm hN L he
  have hk : k < 4096 := by have := he.1; omega
  have k90 := c90 m1 (show s < 256 by omega) (by omega)
  rw [decide_eq_true (show 0 < A s by omega)] at k90
  have mm := m1
  obtain ⟨b0, b1, -⟩ := mm
  have fin : Ev 123 43 [some (.ref 39), some (.int (nI f)), some (.int (nI s)), some (.int (nI (c % 2 ^ q f)))] [] hs1 0 0 (.inl (some (.int (nI (c % 2 ^ q f)))), hs1, 0, 0) := by
    refine ev_aload_n f123_43 rfl ?_
    refine ev_iload_n f123_44 rfl ?_
    refine ev_v1 f123_45 ow90 (by assumption) rfl (Nat.le_of_ble_eq_true rfl) (k90) ?_
    refine ev_ifeqB (tgt := 55) f123_48 rfl (fun h9 => Bool.noConfusion (h9.symm.trans (rfl))) (fun _ => ?_)
    refine ev_iload_n f123_51 rfl ?_
    refine ev_goto (tgt := 56) f123_52 rfl ?_
    exact ev_iret f123_56 (rI rfl _) rfl
  have st := l123 m1 hi hf L (c := c) (by omega) c3 fin (s + 2 ^ q f + 2 ^ q f - c) (fun y y1 y2 => c4 y y1 (by omega))
  rw [show c + (s + 2 ^ q f + 2 ^ q f - c) = s + 2 ^ q f + 2 ^ q f by omega, Nat.add_mod_right, Nat.add_mod_right, Nat.mod_eq_of_lt hs2] at st
  refine crq_mk ow123 (Nat.le_of_ble_eq_true rfl) ?_
  refine eq_ (fun _ k => ev_aload_n f123_0 rfl k) ?_
  refine eq_ (fun _ k => ev_iload_n f123_1 rfl k) ?_
  refine eq_ (fun _ k => ev_iload_n f123_2 rfl k) ?_
  refine eq_ (fun _ k => ev_v2 f123_3 ow114 (by assumption) rfl rfl (Nat.le_of_ble_eq_true rfl) (k1) k) ?_
  refine eq_ifneB (tgt := 11) f123_6 rfl (fun _ => ?_) (fun h9 => Bool.noConfusion (h9.symm.trans (rfl)))
  refine eq_ (fun _ k => ev_iload_n f123_11 rfl k) ?_
  refine eq_ (fun _ k => ev_istore_n f123_12 k) ?_
  exact ⟨_, st, hs1, rfl, m1.ms, f1⟩
theorem d123n (h : MS hs q g l) (hi : MI q g) (hf : f < 4) (hs2 : s < 2 ^ q f) (he : ∀ k i, ¬ SlotE (2 ^ q f) (2 ^ (12 - q f)) (g f) s k i) : CrQ 123 [.ref 39, .int (nI f), .int (nI s)] hs (some (.int (Int32.ofInt (-1)))) (MP hs q g 0) := by
  have a := h.1
  obtain ⟨hn, hm, hnm, hN, p2, o8⟩ := hi.fa hf
  obtain ⟨hs1, k1, ⟨A, B, C, D, E, m1, L, hC, hD⟩, f1⟩ := d114 h hi hf hs2
  obtain ⟨ha, hb⟩ := lm_no L hs2 he
  have k90 := c90 m1 (show s < 256 by omega) (by omega)
  rw [decide_eq_false (show ¬ 0 < A s by omega)] at k90
  have k92 := c92n (v1 := nI f) m1 (show s < 256 by omega) ha
  have mm := m1
  obtain ⟨b0, b1, -⟩ := mm
  refine crq_mk ow123 (Nat.le_of_ble_eq_true rfl) ?_
  refine eq_ (fun _ k => ev_aload_n f123_0 rfl k) ?_
  refine eq_ (fun _ k => ev_iload_n f123_1 rfl k) ?_
  refine eq_ (fun _ k => ev_iload_n f123_2 rfl k) ?_
  refine eq_ (fun _ k => ev_v2 f123_3 ow114 (by assumption) rfl rfl (Nat.le_of_ble_eq_true rfl) (k1) k) ?_
  refine eq_ifneB (tgt := 11) f123_6 rfl (fun _ => ?_) (fun h9 => Bool.noConfusion (h9.symm.trans (rfl)))
  refine eq_ (fun _ k => ev_iload_n f123_11 rfl k) ?_
  refine eq_ (fun _ k => ev_istore_n f123_12 k) ?_
  refine eq_ (fun _ k => ev_aload_n f123_13 rfl k) ?_
  refine eq_ (fun _ k => ev_iload_n f123_14 rfl k) ?_
  refine eq_ (fun _ k => ev_iload_n f123_15 rfl k) ?_
  refine eq_ (fun _ k => ev_v2 f123_16 ow92 (by assumption) rfl rfl (Nat.le_of_ble_eq_true rfl) (k92) k) ?_
  refine eq_ifeqB (tgt := 43) f123_19 rfl (fun _ => ?_) (fun h9 => Bool.noConfusion (h9.symm.trans (rfl)))
  refine eq_ (fun _ k => ev_aload_n f123_43 rfl k) ?_
  refine eq_ (fun _ k => ev_iload_n f123_44 rfl k) ?_
  refine eq_ (fun _ k => ev_v1 f123_45 ow90 (by assumption) rfl (Nat.le_of_ble_eq_true rfl) (k90) k) ?_
  refine eq_ifeqB (tgt := 55) f123_48 rfl (fun _ => ?_) (fun h9 => Bool.noConfusion (h9.symm.trans (rfl)))
  refine eq_ (fun _ k => ev_iconst f123_55 k) ?_
  refine ⟨_, ev_iret f123_56 (rI rfl _) rfl, ?_⟩
  exact ⟨hs1, rfl, m1.ms, f1⟩
end MQ
