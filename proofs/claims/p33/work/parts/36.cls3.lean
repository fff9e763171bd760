/-! putIn, takeOut, resize; rows laid by wip/whole/walk.py -/
theorem CS.cells {hs : amH} {q : Nat → Nat} {g : Nat → Nat → Nat} {f : Nat} (h : CS hs q g) (hf : f < 4) : hs[1]? = some (.inr (3, [.ref 2, .ref 27, .ref 30, .ref 33, .ref 36])) ∧ hs[3 + 6 * f]? = some (.inr (2, [.ref (3 + 6 * f + 1), .ref (3 + 6 * f + 2), .ref (3 + 6 * f + 3), .ref (3 + 6 * f + 4), .ref (3 + 6 * f + 5), .int (nI (q f))])) ∧ (∃ fs, hs[27]? = some (.inr (0, fs))) ∧ (∃ fs, hs[30]? = some (.inr (0, fs))) ∧ (∃ fs, hs[33]? = some (.inr (0, fs))) ∧ hs[36]? = some (.inr (1, [.ref 37, .ref 38])) := by
  obtain ⟨a1, a2, a4, ⟨b5, a5⟩, ⟨b6, a6⟩, ⟨b7, a7⟩, F, X, a8⟩ := h
  exact ⟨a1, (a4 f hf).obj.2.2, a5.obj, a6.obj, a7.obj, a8.2.1⟩
theorem EE_upd {g : Nat → Nat} {k v : Nat} : ∀ n, EE (updN g k v) n + (if k < n then enN (g k) else 0) = EE g n + (if k < n then enN v else 0)
  | 0 => rfl
  | n + 1 => by
    have h := EE_upd (g := g) (k := k) (v := v) n
    rw [EE_s, EE_s]
    by_cases e : n = k
    · rw [e, updN_at]
      rw [e, if_neg (Nat.lt_irrefl k), if_neg (Nat.lt_irrefl k)] at h
      rw [if_pos (by omega), if_pos (by omega)]
      omega
    · rw [updN_ne _ _ e]
      by_cases h1 : k < n
      · rw [if_pos h1, if_pos h1] at h
        rw [if_pos (by omega), if_pos (by omega)]
        omega
      · rw [if_neg h1, if_neg h1] at h
        rw [if_neg (by omega), if_neg (by omega)]
        omega
theorem EE_upd4 {g : Nat → Nat} {k v : Nat} (hk : k < 4096) : EE (updN g k v) 4096 + enN (g k) = EE g 4096 + enN v := by
  have h := EE_upd (g := g) (k := k) (v := v) 4096
  rw [if_pos hk, if_pos hk] at h
  exact h
theorem upd_above {g : Nat → Nat} {k v : Nat} (hk : k < 4096) (hg : ∀ j, 4096 ≤ j → g j = 0) : ∀ j, 4096 ≤ j → updN g k v j = 0 := fun j hj => by
  rw [updN_ne _ _ (by omega)]
  exact hg j hj
theorem c74 {hs : amH} {q : Nat → Nat} {g : Nat → Nat → Nat} {f k c : Nat} (h : CS hs q g) (hf : f < 4) (hk : k < 4096) (hc : c ≤ 100) : ClO 74 [.ref 1, .ref (3 + 6 * f), .int (nI k), .int (nI c)] hs (if EE (updN (g f) k (g f k + c)) 4096 * 8 ≤ 7 * 2 ^ q f then .inl (some (.int (nI (g f k + c)))) else .inr 2) q (if EE (updN (g f) k (g f k + c)) 4096 * 8 ≤ 7 * 2 ^ q f then updG g f (updN (g f) k (g f k + c)) else g) := by
  have hh := h
  obtain ⟨a1, a2, a4, ⟨b5, a5⟩, ⟨b6, a6⟩, ⟨b7, a7⟩, a8⟩ := hh
  obtain ⟨l1, l2, l3, l4, l5⟩ := (a4 f hf).le
  obtain ⟨o3, o8, -⟩ := (a4 f hf).obj
  obtain ⟨hs1, k1, m1, f1⟩ := c31 (a4 f hf) a5 (by omega)
  have h1 := h.r27 f1 m1
  obtain ⟨hs2, k2, m2, f2⟩ := c1 (a6.fr f1 (by omega))
  have h2 := h1.r30 f2 m2
  obtain ⟨hs3, k3, m3, f3⟩ := c2 (c := c) m2 hk (fun _ _ _ => rfl) (by omega) (by
    have : nzN (fun _ => 0) k = 0 := by
      rw [nz_sm]
      exact sm_0 k (fun _ _ => rfl)
    omega)
  have h3 := h2.r30 f3 m3
  have m13 := (m1.fr f2 (by omega)).fr f3 (by omega)
  have esu : suN (g f) (updN (fun _ => 0) k (0 + c)) = updN (g f) k (g f k + c) := by
    funext j
    unfold suN updN
    split
    · rename_i e
      rw [e]
      omega
    · rfl
  have hbd : ∀ j, updN (g f) k (g f k + c) j ≤ 1668 := fun j => by
    have := l3 j
    have := l3 k
    unfold updN
    split <;> omega
  obtain ⟨hs4, k4, m4, f4⟩ := c3 (((a7.fr f1 (by omega)).fr f2 (by omega)).fr f3 (by omega)) m13 m3 (by
    have : nzN (updN (fun _ => 0) k (0 + c)) 4096 ≤ EE (updN (fun _ => 0) k (0 + c)) 4096 := nz_EE _ _
    have h7 := EE_upd4 (g := fun _ => 0) (k := k) (v := 0 + c) hk
    rw [EE_0] at h7
    unfold enN at h7
    omega) (fun j => by
    rw [esu]
    have := hbd j
    omega) (by omega) (by omega)
  rw [esu] at m4
  have h4 := h3.r33 f4 m4
  have e4 := EE_upd4 (g := g f) (k := k) (v := g f k + c) hk
  have l3k := l3 k
  have fr4 : Fr hs hs4 3 39 := (((f1.wide (by omega) (by omega)).tr (f2.wide (by omega) (by omega))).tr (f3.wide (by omega) (by omega))).tr (f4.wide (by omega) (by omega))
  obtain ⟨x1, x2, ⟨_, x3⟩, ⟨_, x4⟩, ⟨_, x5⟩, x6⟩ := h.cells hf
  obtain ⟨y1, y2, ⟨_, y3⟩, ⟨_, y4⟩, ⟨_, y5⟩, y6⟩ := h1.cells hf
  obtain ⟨z1, z2, ⟨_, z3⟩, ⟨_, z4⟩, ⟨_, z5⟩, z6⟩ := h2.cells hf
  obtain ⟨u1, u2, ⟨_, u3⟩, ⟨_, u4⟩, ⟨_, u5⟩, u6⟩ := h3.cells hf
  obtain ⟨v1, v2, ⟨_, v3⟩, ⟨_, v4⟩, ⟨_, v5⟩, v6⟩ := h4.cells hf
  refine clo_mk ow74 (Nat.le_of_ble_eq_true rfl) ?_
  refine eq_ (fun _ k => ev_aload_n f74_0 rfl k) ?_
  refine eq_ (fun _ k => ev_aload_n f74_1 rfl k) ?_
  refine eq_ (fun _ k => ev_getf f74_2 (by assumption) rfl k) ?_
  refine eq_ (fun _ k => ev_v1 f74_5 ow31 (by assumption) rfl (Nat.le_of_ble_eq_true rfl) (k1) k) ?_
  refine eq_ (fun _ k => ev_aload_n f74_8 rfl k) ?_
  refine eq_ (fun _ k => ev_getf f74_9 (by assumption) rfl k) ?_
  refine eq_ (fun _ k => ev_v0 f74_12 ow1 (by assumption) (Nat.le_of_ble_eq_true rfl) (k2) k) ?_
  refine eq_ (fun _ k => ev_aload_n f74_15 rfl k) ?_
  refine eq_ (fun _ k => ev_getf f74_16 (by assumption) rfl k) ?_
  refine eq_ (fun _ k => ev_iload_n f74_19 rfl k) ?_
  refine eq_ (fun _ k => ev_iload_n f74_20 rfl k) ?_
  refine eq_ (fun _ k => ev_v2 f74_21 ow2 (by assumption) rfl rfl (Nat.le_of_ble_eq_true rfl) (k3) k) ?_
  refine eq_ (fun _ k => ev_aload_n f74_24 rfl k) ?_
  refine eq_ (fun _ k => ev_getf f74_25 (by assumption) rfl k) ?_
  refine eq_ (fun _ k => ev_aload_n f74_28 rfl k) ?_
  refine eq_ (fun _ k => ev_getf f74_29 (by assumption) rfl k) ?_
  refine eq_ (fun _ k => ev_aload_n f74_32 rfl k) ?_
  refine eq_ (fun _ k => ev_getf f74_33 (by assumption) rfl k) ?_
  refine eq_ (fun _ k => ev_v2 f74_36 ow3 (by assumption) rfl rfl (Nat.le_of_ble_eq_true rfl) (k4) k) ?_
  refine eq_ (fun _ k => ev_aload_n f74_39 rfl k) ?_
  refine eq_ (fun _ k => ev_getf f74_40 (by assumption) rfl k) ?_
  refine eq_ (fun _ k => ev_aload_n f74_43 rfl k) ?_
  refine eq_ (fun _ k => ev_getf f74_44 (by assumption) rfl k) ?_
  by_cases hE : EE (updN (g f) k (g f k + c)) 4096 * 8 ≤ 7 * 2 ^ q f
  · rw [if_pos hE, if_pos hE]
    obtain ⟨hs5, k5, m5, f5⟩ := f33 (h4.2.2.1 f hf) m4 o3 o8 hE (upd_above hk l5) (by omega)
    have h5 := h4.tab hf f5 m5
    rw [updN_same] at h5
    have k6 := f28 m5 hk
    rw [updN_at] at k6
    obtain ⟨w1, w2, w3⟩ := h5.cells hf
    refine eq_ (fun _ k => ev_s2 f74_47 (by decide) ow71 rfl rfl (Nat.le_of_ble_eq_true rfl) (c71 m4 o3 o8 hE) k) ?_
    refine eq_ (fun _ k => ev_aload_n f74_50 rfl k) ?_
    refine eq_ (fun _ k => ev_aload_n f74_51 rfl k) ?_
    refine eq_ (fun _ k => ev_getf f74_52 (by assumption) rfl k) ?_
    refine eq_ (fun _ k => ev_aload_n f74_55 rfl k) ?_
    refine eq_ (fun _ k => ev_getf f74_56 (by assumption) rfl k) ?_
    refine eq_ (fun _ k => ev_v2 f74_59 ow33 (by assumption) rfl rfl (Nat.le_of_ble_eq_true rfl) (k5) k) ?_
    refine eq_ (fun _ k => ev_aload_n f74_62 rfl k) ?_
    refine eq_ (fun _ k => ev_iload_n f74_63 rfl k) ?_
    refine eq_ (fun _ k => ev_v1 f74_64 ow28 (by assumption) rfl (Nat.le_of_ble_eq_true rfl) (k6) k) ?_
    refine ⟨_, ev_iret f74_67 (rI rfl _) rfl, ?_⟩
    exact ⟨hs5, rfl, h5, fr4.tr (f5.wide (by omega) (by omega))⟩
  · rw [if_neg hE, if_neg hE]
    refine ⟨_, ev_st2 f74_47 ow71 rfl rfl (Nat.le_of_ble_eq_true rfl) (c71t m4 o3 o8 (by unfold enN at e4; omega) hE) rfl rfl, ?_⟩
    exact ⟨hs4, rfl, h4, fr4⟩
theorem updG_same (g : Nat → Nat → Nat) (i : Nat) : updG g i (g i) = g := by
  funext j
  unfold updG
  split
  · rename_i h; rw [h]
  · rfl
theorem rs_upd (g : Nat → Nat) (a t : Nat) : rsN g a t = updN g a (g a - t) := by
  funext j
  unfold rsN updN
  split
  · rename_i e; rw [e]
  · rfl
theorem c75 {hs : amH} {q : Nat → Nat} {g : Nat → Nat → Nat} {f k c : Nat} (h : CS hs q g) (hf : f < 4) (hk : k < 4096) (hc : c ≤ 100) : ClO 75 [.ref 1, .ref (3 + 6 * f), .int (nI k), .int (nI c)] hs (.inl (some (.int (nI (min c (g f k)))))) q (updG g f (updN (g f) k (g f k - min c (g f k)))) := by
  have hh := h
  obtain ⟨a1, a2, a4, ⟨b5, a5⟩, ⟨b6, a6⟩, ⟨b7, a7⟩, a8⟩ := hh
  obtain ⟨l1, l2, l3, l4, l5⟩ := (a4 f hf).le
  obtain ⟨o3, o8, -⟩ := (a4 f hf).obj
  have k28 := f28 (a4 f hf) hk
  have l3k := l3 k
  obtain ⟨x1, x2, ⟨_, x3⟩, ⟨_, x4⟩, ⟨_, x5⟩, x6⟩ := h.cells hf
  refine clo_mk ow75 (Nat.le_of_ble_eq_true rfl) ?_
  by_cases h0 : min c (g f k) = 0
  · refine eq_ (fun _ k => ev_iload_n f75_0 rfl k) ?_
    refine eq_ (fun _ k => ev_aload_n f75_1 rfl k) ?_
    refine eq_ (fun _ k => ev_iload_n f75_2 rfl k) ?_
    refine eq_ (fun _ k => ev_v1 f75_3 ow28 (by assumption) rfl (Nat.le_of_ble_eq_true rfl) (k28) k) ?_
    refine eq_ (fun _ k => ev_minN (by omega) (by omega) f75_6 (Nat.le_of_ble_eq_true rfl) k) ?_
    refine eq_ (fun _ k => ev_istore f75_9 k) ?_
    refine eq_ (fun _ k => ev_iload f75_11 rfl k) ?_
    refine eq_ifN (by omega) (tgt := 50) f75_13 rfl (fun _ => ?_) (fun h9 => absurd (by simp only [akN] at *; omega) h9)
    refine eq_ (fun _ k => ev_iload f75_50 rfl k) ?_
    refine ⟨_, ev_iret f75_52 (rI rfl _) rfl, ?_⟩
    refine ⟨hs, ?_, ?_, Fr.refl⟩
    · rfl
    · rw [h0, Nat.sub_zero, updN_same, updG_same]
      exact h
  · obtain ⟨hs1, k1, m1, f1⟩ := c31 (a4 f hf) a5 (by omega)
    have h1 := h.r27 f1 m1
    obtain ⟨hs2, k2, m2, f2⟩ := c5 (t := min c (g f k)) (a7.fr f1 (by omega)) m1 hk (by omega) (by omega)
    rw [rs_upd] at m2
    have h2 := h1.r33 f2 m2
    have e4 := EE_upd4 (g := g f) (k := k) (v := g f k - min c (g f k)) hk
    obtain ⟨hs3, k3, m3, f3⟩ := f33 (h2.2.2.1 f hf) m2 o3 o8 (by unfold enN at e4; omega) (upd_above hk l5) (by omega)
    have h3 := h2.tab hf f3 m3
    rw [updN_same] at h3
    obtain ⟨y1, y2, ⟨_, y3⟩, ⟨_, y4⟩, ⟨_, y5⟩, y6⟩ := h1.cells hf
    obtain ⟨z1, z2, ⟨_, z3⟩, ⟨_, z4⟩, ⟨_, z5⟩, z6⟩ := h2.cells hf
    refine eq_ (fun _ k => ev_iload_n f75_0 rfl k) ?_
    refine eq_ (fun _ k => ev_aload_n f75_1 rfl k) ?_
    refine eq_ (fun _ k => ev_iload_n f75_2 rfl k) ?_
    refine eq_ (fun _ k => ev_v1 f75_3 ow28 (by assumption) rfl (Nat.le_of_ble_eq_true rfl) (k28) k) ?_
    refine eq_ (fun _ k => ev_minN (by omega) (by omega) f75_6 (Nat.le_of_ble_eq_true rfl) k) ?_
    refine eq_ (fun _ k => ev_istore f75_9 k) ?_
    refine eq_ (fun _ k => ev_iload f75_11 rfl k) ?_
    refine eq_ifN (by omega) (tgt := 50) f75_13 rfl (fun h9 => absurd h9 (by simp only [akN] at *; omega)) (fun _ => ?_)
    refine eq_ (fun _ k => ev_aload_n f75_16 rfl k) ?_
    refine eq_ (fun _ k => ev_aload_n f75_17 rfl k) ?_
    refine eq_ (fun _ k => ev_getf f75_18 (by assumption) rfl k) ?_
    refine eq_ (fun _ k => ev_v1 f75_21 ow31 (by assumption) rfl (Nat.le_of_ble_eq_true rfl) (k1) k) ?_
    refine eq_ (fun _ k => ev_aload_n f75_24 rfl k) ?_
    refine eq_ (fun _ k => ev_getf f75_25 (by assumption) rfl k) ?_
    refine eq_ (fun _ k => ev_aload_n f75_28 rfl k) ?_
    refine eq_ (fun _ k => ev_getf f75_29 (by assumption) rfl k) ?_
    refine eq_ (fun _ k => ev_iload_n f75_32 rfl k) ?_
    refine eq_ (fun _ k => ev_iload f75_33 rfl k) ?_
    refine eq_ (fun _ k => ev_v3 f75_35 ow5 (by assumption) rfl rfl rfl (Nat.le_of_ble_eq_true rfl) (k2) k) ?_
    refine eq_ (fun _ k => ev_aload_n f75_38 rfl k) ?_
    refine eq_ (fun _ k => ev_aload_n f75_39 rfl k) ?_
    refine eq_ (fun _ k => ev_getf f75_40 (by assumption) rfl k) ?_
    refine eq_ (fun _ k => ev_aload_n f75_43 rfl k) ?_
    refine eq_ (fun _ k => ev_getf f75_44 (by assumption) rfl k) ?_
    refine eq_ (fun _ k => ev_v2 f75_47 ow33 (by assumption) rfl rfl (Nat.le_of_ble_eq_true rfl) (k3) k) ?_
    refine eq_ (fun _ k => ev_iload f75_50 rfl k) ?_
    refine ⟨_, ev_iret f75_52 (rI rfl _) rfl, ?_⟩
    exact ⟨hs3, rfl, h3, ((f1.wide (by omega) (by omega)).tr (f2.wide (by omega) (by omega))).tr (f3.wide (by omega) (by omega))⟩
theorem c76 {hs : amH} {q : Nat → Nat} {g : Nat → Nat → Nat} {f q2 : Nat} (h : CS hs q g) (hf : f < 4) (h3 : 3 ≤ q2) (h8 : q2 ≤ 8) : ClO 76 [.ref 1, .ref (3 + 6 * f), .int (nI q2)] hs (if EE (g f) 4096 * 8 ≤ 7 * 2 ^ q2 then .inl (some (.int (nI (2 ^ q2)))) else .inr 2) (if EE (g f) 4096 * 8 ≤ 7 * 2 ^ q2 then updN q f q2 else q) g := by
  have hh := h
  obtain ⟨a1, a2, a4, ⟨b5, a5⟩, ⟨b6, a6⟩, ⟨b7, a7⟩, a8⟩ := hh
  obtain ⟨l1, l2, l3, l4, l5⟩ := (a4 f hf).le
  obtain ⟨hs1, k1, m1, f1⟩ := c31 (a4 f hf) a5 (by omega)
  have h1 := h.r27 f1 m1
  obtain ⟨x1, x2, ⟨_, x3⟩, ⟨_, x4⟩, ⟨_, x5⟩, x6⟩ := h.cells hf
  obtain ⟨y1, y2, ⟨_, y3⟩, ⟨_, y4⟩, ⟨_, y5⟩, y6⟩ := h1.cells hf
  refine clo_mk ow76 (Nat.le_of_ble_eq_true rfl) ?_
  by_cases hE : EE (g f) 4096 * 8 ≤ 7 * 2 ^ q2
  · rw [if_pos hE, if_pos hE]
    obtain ⟨hs2, k2, m2, f2⟩ := f33 (h1.2.2.1 f hf) m1 h3 h8 hE l5 (by omega)
    have h2 := h1.tab hf f2 m2
    rw [updG_same] at h2
    have k3 := f14 m2
    obtain ⟨z1, z2, z9⟩ := h2.cells hf
    refine eq_ (fun _ k => ev_aload_n f76_0 rfl k) ?_
    refine eq_ (fun _ k => ev_aload_n f76_1 rfl k) ?_
    refine eq_ (fun _ k => ev_getf f76_2 (by assumption) rfl k) ?_
    refine eq_ (fun _ k => ev_v1 f76_5 ow31 (by assumption) rfl (Nat.le_of_ble_eq_true rfl) (k1) k) ?_
    refine eq_ (fun _ k => ev_aload_n f76_8 rfl k) ?_
    refine eq_ (fun _ k => ev_getf f76_9 (by assumption) rfl k) ?_
    refine eq_ (fun _ k => ev_iload_n f76_12 rfl k) ?_
    refine eq_ (fun _ k => ev_s2 f76_13 (by decide) ow71 rfl rfl (Nat.le_of_ble_eq_true rfl) (c71 m1 h3 h8 hE) k) ?_
    refine eq_ (fun _ k => ev_aload_n f76_16 rfl k) ?_
    refine eq_ (fun _ k => ev_iload_n f76_17 rfl k) ?_
    refine eq_ (fun _ k => ev_aload_n f76_18 rfl k) ?_
    refine eq_ (fun _ k => ev_getf f76_19 (by assumption) rfl k) ?_
    refine eq_ (fun _ k => ev_v2 f76_22 ow33 (by assumption) rfl rfl (Nat.le_of_ble_eq_true rfl) (k2) k) ?_
    refine eq_ (fun _ k => ev_aload_n f76_25 rfl k) ?_
    refine eq_ (fun _ k => ev_v0 f76_26 ow14 (by assumption) (Nat.le_of_ble_eq_true rfl) (k3) k) ?_
    refine ⟨_, ev_iret f76_29 (rI rfl _) rfl, ?_⟩
    exact ⟨hs2, rfl, h2, (f1.wide (by omega) (by omega)).tr (f2.wide (by omega) (by omega))⟩
  · rw [if_neg hE, if_neg hE]
    refine eq_ (fun _ k => ev_aload_n f76_0 rfl k) ?_
    refine eq_ (fun _ k => ev_aload_n f76_1 rfl k) ?_
    refine eq_ (fun _ k => ev_getf f76_2 (by assumption) rfl k) ?_
    refine eq_ (fun _ k => ev_v1 f76_5 ow31 (by assumption) rfl (Nat.le_of_ble_eq_true rfl) (k1) k) ?_
    refine eq_ (fun _ k => ev_aload_n f76_8 rfl k) ?_
    refine eq_ (fun _ k => ev_getf f76_9 (by assumption) rfl k) ?_
    refine eq_ (fun _ k => ev_iload_n f76_12 rfl k) ?_
    refine ⟨_, ev_st2 f76_13 ow71 rfl rfl (Nat.le_of_ble_eq_true rfl) (c71t m1 h3 h8 (by omega) hE) rfl rfl, ?_⟩
    exact ⟨hs1, rfl, h1, f1.wide (by omega) (by omega)⟩
