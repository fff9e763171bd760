/-! the law's loop, the law's run; by wip/whole/gen63.py, rows laid by wip/whole/walk.py -/
theorem am_31 (v : Int32) : ∃ k, k < 32 ∧ v &&& nI 31 = nI k := by
  refine ⟨(v &&& nI 31).toBitVec.toNat, ?_, ?_⟩
  · have h : (v &&& nI 31).toBitVec = v.toBitVec &&& 31#32 := rfl
    rw [h, BitVec.toNat_and]
    exact Nat.lt_of_le_of_lt Nat.and_le_right (by decide)
  · apply Int32.toBitVec_inj.mp
    simp [nI]
theorem am_32 {k : Nat} (h : k < 32) : k = 0 ∨ k = 1 ∨ k = 2 ∨ k = 3 ∨ k = 4 ∨ k = 5 ∨ k = 6 ∨ k = 7 ∨ k = 8 ∨ k = 9 ∨ k = 10 ∨ k = 11 ∨ k = 12 ∨ k = 13 ∨ k = 14 ∨ k = 15 ∨ k = 16 ∨ k = 17 ∨ k = 18 ∨ k = 19 ∨ k = 20 ∨ k = 21 ∨ k = 22 ∨ k = 23 ∨ k = 24 ∨ k = 25 ∨ k = 26 ∨ k = 27 ∨ k = 28 ∨ k = 29 ∨ k = 30 ∨ k = 31 := by omega
theorem eq_tsw {M pc len tgt : Nat} {ls : amL} {st : List Value} {hs : amH} {c s : Nat} {x : amRes} {Q : amOut → Prop} {d lo hi : Int} {offs : Array Int} {v : Int32} (hf : amFetch M pc = some (.tableswitch d lo hi offs, len, x)) (h : (if v.toInt < lo ∨ hi < v.toInt then some (amTgt pc d) else (offs[(v.toInt - lo).toNat]?).map (amTgt pc)) = some tgt) (kk : EvQ M tgt ls st hs c s Q) : EvQ M pc ls (.int v :: st) hs c s Q := by
  refine eq_ (fun _ k => ev_s hf ?_ k) kk
  simp only [amStep]
  by_cases w : v.toInt < lo ∨ hi < v.toInt
  · rw [if_pos w] at h ⊢
    cases h
    rfl
  · rw [if_neg w] at h ⊢
    cases ho : offs[(v.toInt - lo).toNat]? with
    | none => rw [ho] at h; cases h
    | some off =>
      rw [ho] at h
      cases h
      rfl
/-- the law's end: 1, in its room -/
def LQ : amOut → Prop := fun o => ∃ hs' c s, o = (.inl (some (.int (nI 1))), hs', c, s) ∧ c ≤ 601024 ∧ s ≤ 7293034
section LB
variable {L : Nat} {xs : Nat → Int32}
theorem l154 {X : amC} (hX : X = .inl (.int, L, .inl xs)) (hL : L ≤ 2048) : ∀ (d i : Nat) (hs : amH) (c s : Nat) (q : Nat → Nat) (g : Nat → Nat → Nat) (l : Nat) (ov : Int64) (w5 w6 : Option Value), L ≤ i + 4 * d + 3 → i ≤ 4096 → c + d ≤ 601024 → s + 6 * d ≤ 7293034 → LW X q g q g l ov hs → EvQ 154 23 (lwL i w5 w6) [] hs c s LQ := by
  intro d
  induction d with
  | zero =>
    intro i hs c s q g l ov w5 w6 hd hi hc hs2 W
    have y := W.1
    rw [hX] at y
    by_cases h4 : 4 ≤ L
    · refine eq_ (fun _ k => ev_iload f154_23 rfl k) ?_
      refine eq_ (fun _ k => ev_aload_n f154_25 rfl k) ?_
      refine eq_ (fun _ k => ev_alen f154_26 (by assumption) k) ?_
      refine eq_ (fun _ k => ev_iconstN (n := 4) f154_27 k) ?_
      refine eq_ (fun _ k => ev_isubN (by omega) f154_28 k) ?_
      refine eq_icN (by omega) (by omega) (tgt := 2118) f154_29 rfl (fun _ => ?_) (fun h9 => absurd (by simp only [akN] at *; omega) h9)
      refine eq_ (fun _ k => ev_iconstN (n := 1) f154_2118 k) ?_
      first | refine ⟨_, ev_iret f154_2119 (rZ rfl true) rfl, ?_⟩ | refine ⟨_, ev_iret f154_2119 (rZ rfl false) rfl, ?_⟩ | refine ⟨_, ev_iret f154_2119 (rZ rfl _) rfl, ?_⟩
      exact ⟨hs, c, s, rfl, by omega, by omega⟩
    · refine eq_ (fun _ k => ev_iload f154_23 rfl k) ?_
      refine eq_ (fun _ k => ev_aload_n f154_25 rfl k) ?_
      refine eq_ (fun _ k => ev_alen f154_26 (by assumption) k) ?_
      refine eq_ (fun _ k => ev_iconstN (n := 4) f154_27 k) ?_
      refine eq_ (fun _ k => ev_isub f154_28 k) ?_
      have hlt : nI L - nI 4 < nI i := by
        refine Int32.lt_iff_toInt_lt.mpr ?_
        rw [nI_toInt (by omega)]
        have e : (nI L - nI 4).toInt < 0 := by
          have h : ∀ n, n < 4 → (nI n - nI 4).toInt < 0 := by decide +kernel
          exact h L (by omega)
        omega
      refine eq_ic (tgt := 2118) f154_29 rfl (fun _ => ?_) (fun hc => absurd hlt hc)
      refine eq_ (fun _ k => ev_iconstN (n := 1) f154_2118 k) ?_
      first | refine ⟨_, ev_iret f154_2119 (rZ rfl true) rfl, ?_⟩ | refine ⟨_, ev_iret f154_2119 (rZ rfl false) rfl, ?_⟩ | refine ⟨_, ev_iret f154_2119 (rZ rfl _) rfl, ?_⟩
      exact ⟨hs, c, s, rfl, by omega, by omega⟩
  | succ d ih =>
    intro i hs c s q g l ov w5 w6 hd hi hc hs2 W
    have y := W.1
    rw [hX] at y
    by_cases h4 : 4 ≤ L
    · by_cases h5 : i + 4 ≤ L
      · have kk : LwK X i c s LQ := by
          intro hs' q' g' l' ov' c' s' w5 w6 W' b1 b2
          refine eq_ (fun _ k => ev_iincN (d := 4) f154_2112 rfl k) ?_
          refine eq_ (fun _ k => ev_goto (tgt := 23) f154_2115 rfl k) ?_
          exact ih (i + 4) hs' c' s' q' g' l' ov' _ _ (by omega) (by omega) (by omega) (by omega) W'
        obtain ⟨k, hk, ek⟩ := am_31 (xs i)
        refine eq_ (fun _ k => ev_iload f154_23 rfl k) ?_
        refine eq_ (fun _ k => ev_aload_n f154_25 rfl k) ?_
        refine eq_ (fun _ k => ev_alen f154_26 (by assumption) k) ?_
        refine eq_ (fun _ k => ev_iconstN (n := 4) f154_27 k) ?_
        refine eq_ (fun _ k => ev_isubN (by omega) f154_28 k) ?_
        refine eq_icN (by omega) (by omega) (tgt := 2118) f154_29 rfl (fun h9 => absurd h9 (by simp only [akN] at *; omega)) (fun _ => ?_)
        refine eq_ (fun _ k => ev_aload_n f154_32 rfl k) ?_
        refine eq_ (fun _ k => ev_iload f154_33 rfl k) ?_
        refine eq_ (fun _ k => ev_iald f154_35 (by assumption) (by omega) (by omega) k) ?_
        refine eq_ (fun _ k => ev_bipushN (n := 31) (by omega) f154_36 k) ?_
        refine eq_ (fun _ k => ev_iand f154_38 k) ?_
        rw [ek]
        rcases am_32 hk with rfl | rfl | rfl | rfl | rfl | rfl | rfl | rfl | rfl | rfl | rfl | rfl | rfl | rfl | rfl | rfl | rfl | rfl | rfl | rfl | rfl | rfl | rfl | rfl | rfl | rfl | rfl | rfl | rfl | rfl | rfl | rfl
        · refine eq_tsw (tgt := 172) f154_39 (by decide +kernel) ?_
          exact g0 W hX (by omega) hL _ _ kk
        · refine eq_tsw (tgt := 197) f154_39 (by decide +kernel) ?_
          exact g1 W hX (by omega) hL (a1 W.2.1 _ _) _ _ kk
        · refine eq_tsw (tgt := 265) f154_39 (by decide +kernel) ?_
          exact g2 W hX (by omega) hL (a2 W.2.1 _ _) _ _ kk
        · refine eq_tsw (tgt := 340) f154_39 (by decide +kernel) ?_
          exact g3 W hX (by omega) hL (a3 W.2.1 _ _) _ _ kk
        · refine eq_tsw (tgt := 408) f154_39 (by decide +kernel) ?_
          exact g4 W hX (by omega) hL (a4 W.2.1 _ _ _) _ _ kk
        · refine eq_tsw (tgt := 488) f154_39 (by decide +kernel) ?_
          exact g5 W hX (by omega) hL (a5 W.2.1 _ _ _) _ _ kk
        · refine eq_tsw (tgt := 568) f154_39 (by decide +kernel) ?_
          exact g6 W hX (by omega) hL (a6 W.2.1 _ _) _ _ kk
        · refine eq_tsw (tgt := 636) f154_39 (by decide +kernel) ?_
          exact g7 W hX (by omega) hL (a7 W.2.1 _ _) _ _ kk
        · refine eq_tsw (tgt := 704) f154_39 (by decide +kernel) ?_
          exact g8 W hX (by omega) hL (a8 W.2.1 _ _) _ _ kk
        · refine eq_tsw (tgt := 772) f154_39 (by decide +kernel) ?_
          exact g9 W hX (by omega) hL (a9 W.2.1 _) _ _ kk
        · refine eq_tsw (tgt := 808) f154_39 (by decide +kernel) ?_
          exact g10 W hX (by omega) hL (a10 W.2.1 _) _ _ kk
        · refine eq_tsw (tgt := 864) f154_39 (by decide +kernel) ?_
          exact g11 W hX (by omega) hL (a11 W.2.1 _) _ _ kk
        · refine eq_tsw (tgt := 920) f154_39 (by decide +kernel) ?_
          exact g12 W hX (by omega) hL (a12 W.2.1 _ _) _ _ kk
        · refine eq_tsw (tgt := 988) f154_39 (by decide +kernel) ?_
          exact g13 W hX (by omega) hL (a13 W.2.1 _ _) _ _ kk
        · refine eq_tsw (tgt := 1056) f154_39 (by decide +kernel) ?_
          exact g14 W hX (by omega) hL (a14 W.2.1 _ _) _ _ kk
        · refine eq_tsw (tgt := 1131) f154_39 (by decide +kernel) ?_
          exact g15 W hX (by omega) hL (a15 W.2.1 _) _ _ kk
        · refine eq_tsw (tgt := 1187) f154_39 (by decide +kernel) ?_
          exact g16 W hX (by omega) hL (a16 W.2.1 _) _ _ kk
        · refine eq_tsw (tgt := 1243) f154_39 (by decide +kernel) ?_
          exact g17 W hX (by omega) hL (a17 W.2.1 _) _ _ kk
        · refine eq_tsw (tgt := 1299) f154_39 (by decide +kernel) ?_
          exact g18 W hX (by omega) hL (a18 W.2.1 _) _ _ kk
        · refine eq_tsw (tgt := 1355) f154_39 (by decide +kernel) ?_
          exact g19 W hX (by omega) hL (a19 W.2.1 _ _) _ _ kk
        · refine eq_tsw (tgt := 1423) f154_39 (by decide +kernel) ?_
          exact g20 W hX (by omega) hL (a20 W.2.1 _ _) _ _ kk
        · refine eq_tsw (tgt := 1491) f154_39 (by decide +kernel) ?_
          exact g21 W hX (by omega) hL (a21 W.2.1 _ _) _ _ kk
        · refine eq_tsw (tgt := 1559) f154_39 (by decide +kernel) ?_
          exact g22 W hX (by omega) hL (a22 W.2.1 _ _) _ _ kk
        · refine eq_tsw (tgt := 1627) f154_39 (by decide +kernel) ?_
          exact g23 W hX (by omega) hL (a23 W.2.1 _ _) _ _ kk
        · refine eq_tsw (tgt := 1702) f154_39 (by decide +kernel) ?_
          exact g24 W hX (by omega) hL (a24 W.2.1 _ _) _ _ kk
        · refine eq_tsw (tgt := 1777) f154_39 (by decide +kernel) ?_
          exact g25 W hX (by omega) hL (a25 W.2.1 _ _) _ _ kk
        · refine eq_tsw (tgt := 1852) f154_39 (by decide +kernel) ?_
          exact g26 W hX (by omega) hL (a26 W.2.1 _ _) _ _ kk
        · refine eq_tsw (tgt := 1920) f154_39 (by decide +kernel) ?_
          exact g27 W hX (by omega) hL (a27 W.2.1 _ _) _ _ kk
        · refine eq_tsw (tgt := 1988) f154_39 (by decide +kernel) ?_
          exact g28 W hX (by omega) hL (a28 W.2.1 _ _) _ _ kk
        · refine eq_tsw (tgt := 2056) f154_39 (by decide +kernel) ?_
          exact g29 W hX (by omega) hL (a29 W.2.1 _) _ _ kk
        · refine eq_tsw (tgt := 2112) f154_39 (by decide +kernel) ?_
          exact kk _ _ _ _ _ _ _ _ _ W (by omega) (by omega)
        · refine eq_tsw (tgt := 2112) f154_39 (by decide +kernel) ?_
          exact kk _ _ _ _ _ _ _ _ _ W (by omega) (by omega)
      · refine eq_ (fun _ k => ev_iload f154_23 rfl k) ?_
        refine eq_ (fun _ k => ev_aload_n f154_25 rfl k) ?_
        refine eq_ (fun _ k => ev_alen f154_26 (by assumption) k) ?_
        refine eq_ (fun _ k => ev_iconstN (n := 4) f154_27 k) ?_
        refine eq_ (fun _ k => ev_isubN (by omega) f154_28 k) ?_
        refine eq_icN (by omega) (by omega) (tgt := 2118) f154_29 rfl (fun _ => ?_) (fun h9 => absurd (by simp only [akN] at *; omega) h9)
        refine eq_ (fun _ k => ev_iconstN (n := 1) f154_2118 k) ?_
        first | refine ⟨_, ev_iret f154_2119 (rZ rfl true) rfl, ?_⟩ | refine ⟨_, ev_iret f154_2119 (rZ rfl false) rfl, ?_⟩ | refine ⟨_, ev_iret f154_2119 (rZ rfl _) rfl, ?_⟩
        exact ⟨hs, c, s, rfl, by omega, by omega⟩
    · refine eq_ (fun _ k => ev_iload f154_23 rfl k) ?_
      refine eq_ (fun _ k => ev_aload_n f154_25 rfl k) ?_
      refine eq_ (fun _ k => ev_alen f154_26 (by assumption) k) ?_
      refine eq_ (fun _ k => ev_iconstN (n := 4) f154_27 k) ?_
      refine eq_ (fun _ k => ev_isub f154_28 k) ?_
      have hlt : nI L - nI 4 < nI i := by
        refine Int32.lt_iff_toInt_lt.mpr ?_
        rw [nI_toInt (by omega)]
        have e : (nI L - nI 4).toInt < 0 := by
          have h : ∀ n, n < 4 → (nI n - nI 4).toInt < 0 := by decide +kernel
          exact h L (by omega)
        omega
      refine eq_ic (tgt := 2118) f154_29 rfl (fun _ => ?_) (fun hc => absurd hlt hc)
      refine eq_ (fun _ k => ev_iconstN (n := 1) f154_2118 k) ?_
      first | refine ⟨_, ev_iret f154_2119 (rZ rfl true) rfl, ?_⟩ | refine ⟨_, ev_iret f154_2119 (rZ rfl false) rfl, ?_⟩ | refine ⟨_, ev_iret f154_2119 (rZ rfl _) rfl, ?_⟩
      exact ⟨hs, c, s, rfl, by omega, by omega⟩
theorem law_ev (hL : L ≤ 2048) : EvQ 154 0 (amEntry [.ref 0] 7) [] [.inl (.int, L, .inl xs)] 0 0 LQ := by
  have l0 : ([.inl (.int, L, .inl xs)] : amH).length = 1 := rfl
  have y0 : ([.inl (.int, L, .inl xs)] : amH)[0]? = some (.inl (.int, L, .inl xs)) := rfl
  generalize ([.inl (.int, L, .inl xs)] : amH) = hs at *
  refine eq_new f154_0 (by assumption) (fun hs1 e1 => ?_)
  have l1 := am_apl e1 l0
  have x1 := am_apn e1 l0
  obtain ⟨hs2, k2, l2, z2, C2⟩ := c36 l1 (am_ap e1 y0) x1
  refine eq_ (fun _ k => ev_dup f154_3 rfl k) ?_
  refine eq_ (fun _ k => ev_ci f154_4 ow36 rfl (by assumption) (Nat.le_of_ble_eq_true rfl) (k2) k) ?_
  refine eq_ (fun _ k => ev_astore_n f154_7 k) ?_
  refine eq_new f154_8 (by assumption) (fun hs3 e3 => ?_)
  have l3 := am_apl e3 l2
  have x3 := am_apn e3 l2
  obtain ⟨hs4, k4, M4, l4, m4⟩ := c77 l3 x3
  refine eq_ (fun _ k => ev_dup f154_11 rfl k) ?_
  refine eq_ (fun _ k => ev_ci f154_12 ow77 rfl (by assumption) (Nat.le_of_ble_eq_true rfl) (k4) k) ?_
  refine eq_ (fun _ k => ev_astore_n f154_15 k) ?_
  refine eq_ (fun _ k => ev_iconstN (n := 1) f154_16 k) ?_
  refine eq_na_long (by omega) f154_17 (by assumption) (fun hs5 e5 => ?_)
  refine eq_ (fun _ k => ev_astore_n f154_19 k) ?_
  refine eq_ (fun _ k => ev_iconstN (n := 0) f154_20 k) ?_
  refine eq_ (fun _ k => ev_istore f154_21 k) ?_
  have f3 : ∀ j p, j < 39 → hs2[j]? = some p → hs5[j]? = some p := fun j p hj h => am_ap e5 (m4 j p hj (am_ap e3 h))
  have M5 : MS hs5 (bt3 4) (fun _ _ => 0) 0 := by
    obtain ⟨a, b, c, ⟨A, d⟩, ⟨B, e1⟩, ⟨C, e2⟩, ⟨D, e3⟩, E, e4⟩ := M4
    exact ⟨am_ap e5 a, am_ap e5 b, am_ap e5 c, ⟨A, am_ap e5 d⟩, ⟨B, am_ap e5 e1⟩, ⟨C, am_ap e5 e2⟩, ⟨D, am_ap e5 e3⟩, E, am_ap e5 e4⟩
  have C5 : CS hs5 (bt3 4) (fun _ _ => 0) := by
    have C3 := C2.cg (q2 := bt3 4) (fun i hi => (if_pos hi).symm)
    obtain ⟨a1, ⟨TF, a2, a3⟩, a4, ⟨b5, a5⟩, ⟨b6, a6⟩, ⟨b7, a7⟩, F, X, a8⟩ := C3
    have m : ∀ a, 39 ≤ a → True := fun _ _ => trivial
    refine ⟨f3 _ _ (by omega) a1, ⟨TF, f3 _ _ (by omega) a2, a3⟩, fun i hi => ?_, ⟨b5, ?_⟩, ⟨b6, ?_⟩, ⟨b7, ?_⟩, F, X, ?_⟩
    · obtain ⟨T, ⟨h0, h3, h8, c0, c1, c2, c3, c4, c5, d1, d2⟩, h2⟩ := a4 i hi
      exact ⟨T, ⟨h0, h3, h8, f3 _ _ (by omega) c0, f3 _ _ (by omega) c1, f3 _ _ (by omega) c2, f3 _ _ (by omega) c3, f3 _ _ (by omega) c4, f3 _ _ (by omega) c5, d1, d2⟩, h2⟩
    · obtain ⟨F, C, z, ⟨h0, h1, c0, c1, c2⟩, h2⟩ := a5
      exact ⟨F, C, z, ⟨h0, h1, f3 _ _ (by omega) c0, f3 _ _ (by omega) c1, f3 _ _ (by omega) c2⟩, h2⟩
    · obtain ⟨F, C, z, ⟨h0, h1, c0, c1, c2⟩, h2⟩ := a6
      exact ⟨F, C, z, ⟨h0, h1, f3 _ _ (by omega) c0, f3 _ _ (by omega) c1, f3 _ _ (by omega) c2⟩, h2⟩
    · obtain ⟨F, C, z, ⟨h0, h1, c0, c1, c2⟩, h2⟩ := a7
      exact ⟨F, C, z, ⟨h0, h1, f3 _ _ (by omega) c0, f3 _ _ (by omega) c1, f3 _ _ (by omega) c2⟩, h2⟩
    · obtain ⟨h0, c0, c1, c2⟩ := a8
      exact ⟨h0, f3 _ _ (by omega) c0, f3 _ _ (by omega) c1, f3 _ _ (by omega) c2⟩
  exact l154 rfl hL 512 0 hs5 _ _ (bt3 4) (fun _ _ => 0) 0 0 none none (by omega) (by omega) (by decide) (by decide) ⟨f3 _ _ (by omega) z2, C5, M5, fun _ => 0, am_apn e5 l4, rfl⟩
theorem law_run (hL : L ≤ 2048) : ∃ n hs' c s, amRun n 154 0 (amEntry [.ref 0] 7) [] [.inl (.int, L, .inl xs)] 0 0 = some (.inl (some (.int (nI 1))), hs', c, s) ∧ c ≤ 601024 ∧ s ≤ 7293034 := by
  obtain ⟨o, ⟨n, hn⟩, hs', c, s, rfl, h1, h2⟩ := law_ev (xs := xs) hL
  exact ⟨n, hs', c, s, hn, h1, h2⟩
end LB
