/-! putIn, takeOut, resize; rows laid by wip/whole/walk.py -/
theorem CS.cells {hs : amH} {q : Nat → Nat} {g : Nat → Nat → Nat} {f : Nat} (h : CS hs q g) (hf : f < 4) : hs[1]? = some (.inr (3, [.ref 2, .ref 27, .ref 30, .ref 33, .ref 36])) ∧ hs[3 + 6 * f]? = some (.inr (2, [.ref (3 + 6 * f + 1), .ref (3 + 6 * f + 2), .ref (3 + 6 * f + 3), .ref (3 + 6 * f + 4), .ref (3 + 6 * f + 5), .int (nI (q f))])) ∧ (∃ fs, hs[27]? = some (.inr (0, fs))) ∧ (∃ fs, hs[30]? = some (.inr (0, fs))) ∧ (∃ fs, hs[33]? = some (.inr (0, fs))) ∧ hs[36]? = some (.inr (1, [.ref 37, .ref 38])) := by
  obtain ⟨a1, a2, a4, ⟨b5, a5⟩, ⟨b6, a6⟩, ⟨b7, a7⟩, F, X, a8⟩ := h
  exact ⟨a1, (a4 f hf).obj.2.2, a5.obj, a6.obj, a7.obj, a8.2.1⟩
theorem EE_upd {g : Nat → Nat} {k v : Nat} : ∀ n, EE (updN g k v) n + (if k < n then enN (g k) else 0) = EE g n + (if k < n then enN v else 0)
  | 0 => rfl
  | n + 1 => by
    have h := EE_upd (g := g) (k := k) (v := v) n
    rw [EE_s, EE_s]
    by_cases e : n = k
    · rw [e, updN_at]
      rw [e, if_neg (Nat.lt_irrefl k), if_neg (Nat.lt_irrefl k)] at h
      rw [if_pos (by omega), if_pos (by omega)]
      omega
    · rw [updN_ne _ _ e]
      by_cases h1 : k < n
      · rw [if_pos h1, if_pos h1] at h
        rw [if_pos (by omega), if_pos (by omega)]
        omega
      · rw [if_neg h1, if_neg h1] at h
        rw [if_neg (by omega), if_neg (by omega)]
        omega
theorem EE_upd4 {g : Nat → Nat} {k v : Nat} (hk : k < 4096) : EE (updN g k v) 4096 + enN (g k) = EE g 4096 + enN v := by
  have h := EE_upd (g := g) (k := k) (v := v) 4096
  rw [if_pos hk, if_pos hk] at h
  exact h
theorem upd_above {g : Nat → Nat} {k v : Nat} (hk : k < 4096) (hg : ∀ j, 4096 ≤ j → g j = 0) : ∀ j, 4096 ≤ j → updN g k v j = 0 := fun j hj => by
  rw [updN_ne _ _ (by omega)]
  exact hg j hj
theorem c74 {hs : amH} {q : Nat → Nat} {g : Nat → Nat → Nat} {f k c : Nat} (h : CS hs q g) (hf : f < 4) (hk : k < 4096) (hc : c ≤ 100) : ClO 74 [.ref 1, .ref (3 + 6 * f), .int (nI k), .int (nI c)] hs (if EE (updN (g f) k (g f k + c)) 4096 * 8 ≤ 7 * 2 ^ q f then .inl (some (.int (nI (g f k + c)))) else .inr 2) q (if EE (updN (g f) k (g f k + c)) 4096 * 8 ≤ 7 * 2 ^ q f then updG g f (updN (g f) k (g f k + c)) else g) := by
  have hh := h
  obtain ⟨a1, a2, a4, ⟨b5, a5⟩, ⟨b6, a6⟩, ⟨b7, a7⟩, a8⟩ := hh
  obtain ⟨l1, l2, l3, l4, l5⟩ := (a4 f hf).le
  obtain ⟨o3, o8, -⟩ := (a4 f hf).obj
  obtain ⟨hs1, k1, m1, f1⟩ := c31 (a4 f hf) a5 (by omega)
  have h1 := h.r27 f1 m1
  obtain ⟨hs2, k2, m2, f2⟩ := c1 (a6.fr f1 (by omega))
  have h2 := h1.r30 f2 m2
  obtain ⟨hs3, k3, m3, f3⟩ := c2 (c := c) m2 hk (fun _ _ _ => rfl) (by omega) (by
    have : nzN (fun _ => 0) k = 0 := by
      rw [nz_sm]
      exact sm_0 k (fun _ _ => rfl)
    omega)
  have h3 := h2.r30 f3 m3
  have m13 := (m1.fr f2 (by omega)).fr f3 (by omega)
  have esu : suN (g f) (updN (fun _ => 0) k (0 + c)) = updN (g f) k (g f k + c) := by
    funext j
    unfold suN updN
    split
    · rename_i e
      rw [e]
      omega
    · rfl
  have hbd : ∀ j, updN (g f) k (g f k + c) j ≤ 1668 := fun j => by
    have := l3 j
    have := l3 k
    unfold updN
    split <;> omega
  obtain ⟨hs4, k4, m4, f4⟩ := c3 (((a7.fr f1 (by omega)).fr f2 (by omega)).fr f3 (by omega)) m13 m3 (by
    have : nzN (updN (fun _ => 0) k (0 + c)) 4096 ≤ EE (updN (fun _ => 0) k (0 + c)) 4096 := nz_EE _ _
    have h7 := EE_upd4 (g := fun _ => 0) (k := k) (v := 0 + c) hk
    rw [EE_0] at h7
    unfold enN at h7
    omega) (fun j => by
    rw [esu]
    have := hbd j
    omega) (by omega) (by omega)
  rw [esu] at m4
  have h4 := h3.r33 f4 m4
  have e4 := EE_upd4 (g := g f) (k := k) (v := g f k + c) hk
  have l3k := l3 k
  have fr4 : Fr hs hs4 3 39 := (((f1.wide (by omega) (by omega)).tr (f2.wide (by omega) (by omega))).tr (f3.wide (by omega) (by omega))).tr (f4.wide (by omega) (by omega))
  obtain ⟨x1, x2, ⟨_, x3⟩, ⟨_, x4⟩, ⟨_, x5⟩, x6⟩ := h.cells hf
  obtain ⟨y1, y2, ⟨_, y3⟩, ⟨_, y4⟩, ⟨_, y5⟩, y6⟩ := h1.cells hf
  obtain ⟨z1, z2, ⟨_, z3⟩, ⟨_, z4⟩, ⟨_, z5⟩, z6⟩ := h2.cells hf
  obtain ⟨u1, u2, ⟨_, u3⟩, ⟨_, u4⟩, ⟨_, u5⟩, u6⟩ := h3.cells hf
  obtain ⟨v1, v2, ⟨_, v3⟩, ⟨_, v4⟩, ⟨_, v5⟩, v6⟩ := h4.cells hf
  refine clo_mk ow74 (Nat.le_of_ble_eq_true rfl) ?_
  refine eq_ (fun _ k => ev_aload_n f74_0 rfl k) ?_
  refine eq_ (fun _ k => ev_aload_n f74_1 rfl k) ?_
  refine eq_ (fun _ k => ev_getf f74_2 (by assumption) rfl k) ?_
  refine eq_ (fun _ k => ev_v1 f74_5 ow31 (by assumption) rfl (Nat.le_of_ble_eq_true rfl) (k1) k) ?_
  refine eq_ (fun _ k => ev_aload_n f74_8 rfl k) ?_
  refine eq_ (fun _ k => ev_getf f74_9 (by assumption) rfl k) ?_
  refine eq_ (fun _ k => ev_v0 f74_12 ow1 (by assumption) (Nat.le_of_ble_eq_true rfl) (k2) k) ?_
  refine eq_ (fun _ k => ev_aload_n f74_15 rfl k) ?_
  refine eq_ (fun _ k => ev_getf f74_16 (by assumption) rfl k) ?_
  refine eq_ (fun _ k => ev_iload_n f74_19 rfl k) ?_
  refine eq_ (fun _ k => ev_iload_n f74_20 rfl k) ?_
  refine eq_ (fun _ k => ev_v2 f74_21 ow2 (by assumption) rfl rfl (Nat.le_of_ble_eq_true rfl) (k3) k) ?_
  refine eq_ (fun _ k => ev_aload_n f74_24 rfl k) ?_
  refine eq_ (fun _ k => ev_getf f74_25 (by assumption) rfl k) ?_
  refine eq_ (fun _ k => ev_aload_n f74_28 rfl k) ?_
  refine eq_ (fun _ k => ev_getf f74_29 (by assumption) rfl k) ?_
  refine eq_ (fun _ k => ev_aload_n f74_32 rfl k) ?_
  refine eq_ (fun _ k => ev_getf f74_33 (by assumption) rfl k) ?_
  refine eq_ (fun _ k => ev_v2 f74_36 ow3 (by assumption) rfl rfl (Nat.le_of_ble_eq_true rfl) (k4) k) ?_
  refine eq_ (fun _ k => ev_aload_n f74_39 rfl k) ?_
  refine eq_ (fun _ k => ev_getf f74_40 (by assumption) rfl k) ?_
  refine eq_ (fun _ k => ev_aload_n f74_43 rfl k) ?_
  refine eq_ (fun _ k => ev_getf f74_44 (by assumption) rfl k) ?_
  by_cases hE : EE (updN (g f) k (g f k + c)) 4096 * 8 ≤ 7 * 2 ^ q f
  · rw [if_pos hE, if_pos hE]
    obtain ⟨hs5, k5, m5, f5⟩ := f33 (h4.2.2.1 f hf) m4 o3 o8 hE (upd_above hk l5) (by omega)
    have h5 := h4.tab hf f5 m5
    rw [updN_same] at h5
    have k6 := f28 m5 hk
    rw [updN_at] at k6
    obtain ⟨w1, w2, w3⟩ := h5.cells hf
    refine eq_ (fun _ k => ev_s2 f74_47 (by decide) ow71 rfl rfl (Nat.le_of_ble_eq_true rfl) (c71 m4 o3 o8 hE) k) ?_
    refine eq_ (fun _ k => ev_aload_n f74_50 rfl k) ?_
    refine eq_ (fun _ k => ev_aload_n f74_51 rfl k) ?_
    refine eq_ (fun _ k => ev_getf f74_52 (by assumption) rfl k) ?_
    refine eq_ (fun _ k => ev_aload_n f74_55 rfl k) ?_
    refine eq_ (fun _ k => ev_getf f74_56 (by assumption) rfl k) ?_
    refine eq_ (fun _ k => ev_v2 f74_59 ow33 (by assumption) rfl rfl (Nat.le_of_ble_eq_true rfl) (k5) k) ?_
    refine eq_ (fun _ k => ev_aload_n f74_62 rfl k) ?_
    refine eq_ (fun _ k => ev_iload_n f74_63 rfl k) ?_
    refine eq_ (fun _ k => ev_v1 f74_64 ow28 (by assumption) rfl (Nat.le_of_ble_eq_true rfl) (k6) k) ?_
    refine ⟨_, ev_iret f74_67 (rI rfl _) rfl, ?_⟩
    exact ⟨hs5, 0, 0, rfl, by omega, by omega, h5, fr4.tr (f5.wide (by omega) (by omega))⟩
  · rw [if_neg hE, if_neg hE]
    refine ⟨_, ev_st2 f74_47 ow71 rfl rfl (Nat.le_of_ble_eq_true rfl) (c71t m4 o3 o8 (by unfold enN at e4; omega) hE) rfl rfl, ?_⟩
    exact ⟨hs4, _, _, rfl, by omega, by omega, h4, fr4⟩
