/-! the law's lay: its contract; rows laid by wip/p33/walk.py -/
theorem lyJ_1 {n m x f : Nat} {P C : Nat → Nat} : ∀ (d j E : Nat) (t : Nat → Int32), j + d = 15 → (lyJ n m x P (cfN C f) d j E t).1 + smN (rnN P C f m x) j = E + smN (rnN P C f m x) 15 := by
  intro d
  induction d with
  | zero =>
    intro j E t hj
    have e1 : j = 15 := by omega
    subst e1
    rfl
  | succ d ih =>
    intro j E t hj
    unfold lyJ
    have e2 : smN (rnN P C f m x) (j + 1) = smN (rnN P C f m x) j + rnN P C f m x j := rfl
    by_cases w : P j / m = x ∧ 0 < cfN C f j
    · rw [if_pos w]
      have i2 := ih (j + 1) (E + enN (cfN C f j)) (lyF n j (enN (cfN C f j)) E (cfN C f j) t) (by omega)
      have e3 : rnN P C f m x j = enN (cfN C f j) := if_pos w.1
      omega
    · rw [if_neg w]
      have i2 := ih (j + 1) E t (by omega)
      have e3 : rnN P C f m x j = 0 := by
        unfold rnN
        by_cases w2 : P j / m = x
        · rw [if_pos w2]
          have w3 : cfN C f j = 0 := Nat.eq_zero_of_not_pos (fun w3 => w ⟨w2, w3⟩)
          show enN (cfN C f j) = 0
          rw [w3]
          rfl
        · exact if_neg w2
      omega
theorem LN_le {n m : Nat} {g : Nat → Nat} (hn : 0 < n) (hN : EE g (n * m) < n) (k : Nat) : LN n m g k < n := by
  have h1 := Nat.mod_lt k hn
  have h2 := EE_mono g (show (k % n + 1) * m ≤ n * m from Nat.mul_le_mul_right m h1)
  unfold LN lnN
  omega
section LD
variable {X : amC} {hs : amH} {q : Nat → Nat} {g : Nat → Nat → Nat} {P C Q : Nat → Nat} {f e a n m : Nat}
theorem l82A (hp1 : hs[39]? = some (.inl (.int, 16, .inl (fun j => nI (P j))))) (hc1 : hs[40]? = some (.inl (.int, 64, .inl (fun j => nI (C j))))) (hC : ∀ j, C j < 2 ^ 20) (hp : PI P) (G : GI g P C) (ha : 41 < a) (hf : f < 4) {qf : Nat} (hq : qf ≤ 8) (hm : m = 2 ^ (12 - qf)) (hm0 : 0 < m) (hn2 : n ≤ 32) (hN : EE (g f) (n * m) < n) (hl : LinP n (PN n m (g f)) (LN n m (g f))) (he : e < n) (hPe : PN n m (g f) e = e) : ∀ (d k E : Nat) (t : Nat → Int32) (hs1 : amH) (w10 w11 : Option Value), k + d = e + n → e < k → max E k = PN n m (g f) k → TW hs a t hs1 → TAL n m P C (g f) f e t (PN n m (g f) k) → EvQ 82 58 (lyL a f qf e n E 1 k w10 w11) [] hs1 0 0 (Rt (some (.int (nI true.toNat))) (fun hs' => ∃ t, TW hs a t hs' ∧ (PN n m (g f) e = e → LN n m (g f) e = 0 → TAL n m P C (g f) f e t (e + n)))) := by
  intro d
  have hpn := hl.2.2.1 e
  induction d with
  | zero =>
    intro k E t hs1 w10 w11 hk hk2 hE T A
    have e1 : k = e + n := by omega
    subst e1
    rw [hpn, hPe] at A
    refine eq_ (fun _ k => ev_iload f82_58 rfl k) ?_
    refine eq_ (fun _ k => ev_iload f82_60 rfl k) ?_
    refine eq_ (fun _ k => ev_iload f82_62 rfl k) ?_
    first | refine eq_ (fun _ k => ev_iaddN f82_64 k) ?_ | refine eq_ (fun _ k => ev_iadd f82_64 k) ?_
    refine eq_icN (by omega) (by omega) (tgt := 235) f82_65 rfl (fun _ => ?_) (fun h9 => absurd (by simp only [akN] at *; omega) h9)
    refine eq_ (fun _ k => ev_iload f82_235 rfl k) ?_
    first | refine ⟨_, ev_iret f82_237 (rZ rfl true) rfl, ?_⟩ | refine ⟨_, ev_iret f82_237 (rZ rfl false) rfl, ?_⟩ | refine ⟨_, ev_iret f82_237 (rZ rfl _) rfl, ?_⟩
    exact ⟨_, rfl, t, T, fun _ _ => A⟩
  | succ d ih =>
    intro k E t hs1 w10 w11 hk hk2 hE T A
    have hn := hl.1
    have hL2 := LN_le hn hN k
    have eR : LN n m (g f) k = smN (rnN P C f m (k % n)) 15 := ln_P hp G hf hm0 (k % n)
    have step := hl.2.1 k
    have mono := lp_mono hl (show k + 1 ≤ e + n by omega)
    have jj := ta_J hl hm0 hp G hf hPe hk2 (show k < e + n by omega) 15 0 t rfl A
    rw [show PN n m (g f) k + smN (rnN P C f m (k % n)) 0 = PN n m (g f) k from rfl, ← hE] at jj
    refine l82s (R := LN n m (g f) k) hp1 hc1 hp.2 hC ha hf hq hm hn hn2 he (by omega) (by omega) eR (by omega) T (fun z w10 w11 => ?_) (fun z1 z2 hs' w10 w11 T' => ?_) (fun z1 z2 => ?_)
    · refine ih (k + 1) E t hs1 w10 w11 (by omega) (by omega) (by omega) T (ta_run hl hm0 G hf ?_)
      rw [z]
      exact A
    · have j1 := jj.1
      have j2 := jj.2
      refine ih (k + 1) _ _ hs' w10 w11 (by omega) (by omega) ?_ T' (ta_run hl hm0 G hf ?_)
      · rw [j1, hE]
        omega
      · rw [hE] at j2
        rw [hE]
        exact j2
    · omega
theorem l82C (hp1 : hs[39]? = some (.inl (.int, 16, .inl (fun j => nI (P j))))) (hc1 : hs[40]? = some (.inl (.int, 64, .inl (fun j => nI (C j))))) (hC : ∀ j, C j < 2 ^ 20) (hp : PI P) (G : GI g P C) (ha : 41 < a) (hf : f < 4) {qf : Nat} (hq : qf ≤ 8) (hm : m = 2 ^ (12 - qf)) (hm0 : 0 < m) (hn2 : n ≤ 32) (hN : EE (g f) (n * m) < n) (hl : LinP n (PN n m (g f)) (LN n m (g f))) (he : e < n) (hPe : ¬ PN n m (g f) e = e) (hLe : LN n m (g f) e = 0) {P2 : amH → Prop} (h2 : ∀ t hs1, TW hs a t hs1 → P2 hs1) : ∀ (d k E : Nat) (t : Nat → Int32) (hs1 : amH) (w10 w11 : Option Value), k + d = e + n → e < k → E ≤ e + n → PN n m (g f) k = max (max E k) (PN n m (g f) e + smN (fun j => LN n m (g f) (e + 1 + j)) (k - (e + 1))) → TW hs a t hs1 → EvQ 82 58 (lyL a f qf e n E 1 k w10 w11) [] hs1 0 0 (Rt (some (.int (nI false.toNat))) P2) := by
  intro d
  have hpn := hl.2.2.1 e
  have hge := hl.2.2.2.2.1 e
  have hsum := LN_sum (m := m) (g := g f) hl.1 e
  induction d with
  | zero =>
    intro k E t hs1 w10 w11 hk hk2 hE hPk T
    have e1 : k = e + n := by omega
    subst e1
    rw [show e + n - (e + 1) = n - 1 by omega] at hPk
    omega
  | succ d ih =>
    intro k E t hs1 w10 w11 hk hk2 hE hPk T
    have hn := hl.1
    have hL2 := LN_le hn hN k
    have eR : LN n m (g f) k = smN (rnN P C f m (k % n)) 15 := ln_P hp G hf hm0 (k % n)
    have step := hl.2.1 k
    have eS : smN (fun j => LN n m (g f) (e + 1 + j)) (k + 1 - (e + 1)) = smN (fun j => LN n m (g f) (e + 1 + j)) (k - (e + 1)) + LN n m (g f) k := by
      rw [show k + 1 - (e + 1) = k - (e + 1) + 1 by omega]
      show _ + LN n m (g f) (e + 1 + (k - (e + 1))) = _
      rw [show e + 1 + (k - (e + 1)) = k by omega]
    refine l82s (R := LN n m (g f) k) hp1 hc1 hp.2 hC ha hf hq hm hn hn2 he (by omega) (by omega) eR (by omega) T (fun z w10 w11 => ?_) (fun z1 z2 hs' w10 w11 T' => ?_) (fun z1 z2 w10 w11 => ?_)
    · exact ih (k + 1) E t hs1 w10 w11 (by omega) (by omega) hE (by rw [eS]; omega) T
    · have j1 := lyJ_1 (n := n) (m := m) (x := k % n) (P := P) (C := C) (f := f) 15 0 (max E k) t rfl
      rw [← eR] at j1
      have j2 : (lyJ n m (k % n) P (cfN C f) 15 0 (max E k) t).1 = max E k + LN n m (g f) k := j1
      refine ih (k + 1) _ _ hs' w10 w11 (by omega) (by omega) ?_ ?_ T'
      · rw [j2]
        exact z2
      · rw [j2, eS]
        omega
    · exact l82n he hn2 (by omega) (h2 t hs1 T)
theorem c82 (W : LW X q g P C Q hs) (hC : ∀ j, C j < 2 ^ 20) (hp : PI P) (G : GI g P C) (ha : 41 < a) (hf : f < 4) (h5 : q f ≤ 5) (he : e < 2 ^ q f) {t0 : Nat → Int32} (ht : hs[a]? = some (.inl (.int, 32, .inl t0))) : CrQ 82 [.ref 39, .ref 40, .int (nI f), .int (nI (q f)), .int (nI e), .ref a] hs (some (.int (nI (decide (PN (2 ^ q f) (2 ^ (12 - q f)) (g f) e = e ∧ LN (2 ^ q f) (2 ^ (12 - q f)) (g f) e = 0)).toNat))) (fun hs' => ∃ t, TW hs a t hs' ∧ (PN (2 ^ q f) (2 ^ (12 - q f)) (g f) e = e → LN (2 ^ q f) (2 ^ (12 - q f)) (g f) e = 0 → TAL (2 ^ q f) (2 ^ (12 - q f)) P C (g f) f e t (e + 2 ^ q f))) := by
  obtain ⟨-, w1, w2, w3, -⟩ := W
  have F := w1.2.2.1 f hf
  obtain ⟨h3, h8, -⟩ := F.obj
  obtain ⟨T, t1, t2, hn, hm0, hnm, hN, hTL⟩ := F.tab
  have hl := hTL.1
  have hn2 : 2 ^ q f ≤ 32 := by
    have := Nat.pow_le_pow_right (show 0 < 2 by omega) h5
    omega
  have hL2 := LN_le hn hN e
  have eR : LN (2 ^ q f) (2 ^ (12 - q f)) (g f) e = smN (rnN P C f (2 ^ (12 - q f)) e) 15 := by
    rw [LN_lt he]
    exact ln_P hp G hf hm0 e
  have r0 : Cr 81 [.ref 39, .ref 40, .int (nI f), .int (nI (q f)), .int (nI e)] hs (some (.int (nI (LN (2 ^ q f) (2 ^ (12 - q f)) (g f) e)))) hs := by
    rw [eR]
    exact c81 hf w2 w3 hp.2 hC h8 (by omega)
  have T0 : TW hs a t0 hs := ⟨ht, Fr.refl⟩
  generalize hn' : 2 ^ q f = n at *
  generalize hm' : 2 ^ (12 - q f) = m at *
  have hstep := hl.2.1 e
  refine crq_mk ow82 (Nat.le_of_ble_eq_true rfl) ?_
  have sh : nI 1 <<< (nI (q f) &&& 31) = nI n := by
    rw [← hn']
    exact am_shl1 (by omega)
  by_cases hL : LN n m (g f) e = 0
  · rw [hL] at r0
    refine eq_ (fun _ k => ev_iconstN (n := 1) f82_0 k) ?_
    refine eq_ (fun _ k => ev_iload_n f82_1 rfl k) ?_
    refine eq_ (fun _ k => ev_ishl f82_2 k) ?_
    rw [sh]
    refine eq_ (fun _ k => ev_istore f82_3 k) ?_
    refine eq_ (fun _ k => ev_iload f82_5 rfl k) ?_
    refine eq_ (fun _ k => ev_iconstN (n := 1) f82_7 k) ?_
    first | refine eq_ (fun _ k => ev_iaddN f82_8 k) ?_ | refine eq_ (fun _ k => ev_iadd f82_8 k) ?_
    refine eq_ (fun _ k => ev_istore f82_9 k) ?_
    refine eq_ (fun _ k => ev_aload_n f82_11 rfl k) ?_
    refine eq_ (fun _ k => ev_aload_n f82_12 rfl k) ?_
    refine eq_ (fun _ k => ev_iload_n f82_13 rfl k) ?_
    refine eq_ (fun _ k => ev_iload_n f82_14 rfl k) ?_
    refine eq_ (fun _ k => ev_iload f82_15 rfl k) ?_
    refine eq_ (fun _ k => ev_s5 f82_17 (by decide) ow81 rfl rfl rfl rfl rfl (Nat.le_of_ble_eq_true rfl) (r0) k) ?_
    refine eq_ifN (by omega) (tgt := 27) f82_20 rfl (fun h9 => absurd h9 (fun w => w rfl)) (fun _ => ?_)
    refine eq_ (fun _ k => ev_iconstN (n := 1) f82_23 k) ?_
    refine eq_ (fun _ k => ev_goto (tgt := 28) f82_24 rfl k) ?_
    refine eq_ (fun _ k => ev_istore f82_28 k) ?_
    refine eq_ (fun _ k => ev_iconstN (n := 0) f82_30 k) ?_
    refine eq_ (fun _ k => ev_istore f82_31 k) ?_
    by_cases hP : PN n m (g f) e = e
    · rw [decide_eq_true ⟨hP, hL⟩]
      refine l82z ha hn hn2 he (fun hs1 t T1 hz => ?_) n 0 t0 hs (Nat.zero_add n) T0 (fun s hs2 => absurd hs2 (Nat.not_lt_zero s))
      refine l82A w2 w3 hC hp G ha hf h8 hm'.symm hm0 hn2 hN hl he hP (n - 1) (e + 1) (e + 1) t hs1 _ _ (by omega) (by omega) (by omega) T1 ?_
      rw [show PN n m (g f) (e + 1) = e + 1 by omega]
      exact ta_0 hl hz
    · rw [decide_eq_false (fun w => hP w.1)]
      refine l82z ha hn hn2 he (fun hs1 t T1 hz => ?_) n 0 t0 hs (Nat.zero_add n) T0 (fun s hs2 => absurd hs2 (Nat.not_lt_zero s))
      refine l82C w2 w3 hC hp G ha hf h8 hm'.symm hm0 hn2 hN hl he hP hL (fun t' hs' T' => ⟨t', T', fun w => absurd w hP⟩) (n - 1) (e + 1) (e + 1) t hs1 _ _ (by omega) (by omega) (by omega) ?_ T1
      rw [show e + 1 - (e + 1) = 0 by omega]
      show _ = max (max (e + 1) (e + 1)) (PN n m (g f) e + 0)
      omega
  · rw [decide_eq_false (fun w => hL w.2)]
    refine eq_ (fun _ k => ev_iconstN (n := 1) f82_0 k) ?_
    refine eq_ (fun _ k => ev_iload_n f82_1 rfl k) ?_
    refine eq_ (fun _ k => ev_ishl f82_2 k) ?_
    rw [sh]
    refine eq_ (fun _ k => ev_istore f82_3 k) ?_
    refine eq_ (fun _ k => ev_iload f82_5 rfl k) ?_
    refine eq_ (fun _ k => ev_iconstN (n := 1) f82_7 k) ?_
    first | refine eq_ (fun _ k => ev_iaddN f82_8 k) ?_ | refine eq_ (fun _ k => ev_iadd f82_8 k) ?_
    refine eq_ (fun _ k => ev_istore f82_9 k) ?_
    refine eq_ (fun _ k => ev_aload_n f82_11 rfl k) ?_
    refine eq_ (fun _ k => ev_aload_n f82_12 rfl k) ?_
    refine eq_ (fun _ k => ev_iload_n f82_13 rfl k) ?_
    refine eq_ (fun _ k => ev_iload_n f82_14 rfl k) ?_
    refine eq_ (fun _ k => ev_iload f82_15 rfl k) ?_
    refine eq_ (fun _ k => ev_s5 f82_17 (by decide) ow81 rfl rfl rfl rfl rfl (Nat.le_of_ble_eq_true rfl) (r0) k) ?_
    refine eq_ifN (by omega) (tgt := 27) f82_20 rfl (fun _ => ?_) (fun h9 => absurd (by simp only [akN] at *; omega) h9)
    refine eq_ (fun _ k => ev_iconstN (n := 0) f82_27 k) ?_
    refine eq_ (fun _ k => ev_istore f82_28 k) ?_
    refine eq_ (fun _ k => ev_iconstN (n := 0) f82_30 k) ?_
    refine eq_ (fun _ k => ev_istore f82_31 k) ?_
    refine l82z ha hn hn2 he (fun hs1 t T1 hz => ?_) n 0 t0 hs (Nat.zero_add n) T0 (fun s hs2 => absurd hs2 (Nat.not_lt_zero s))
    exact l82n he hn2 (by omega) ⟨t, T1, fun _ w => absurd w hL⟩
end LD
