/-! runs that end in a state we only know by what holds of it; worlds that agree but for a stretch; bags; by hand -/
def EvQ (M pc : Nat) (ls : amL) (st : List Value) (hs : amH) (c s : Nat) (Q : amOut → Prop) : Prop := ∃ o, Ev M pc ls st hs c s o ∧ Q o
def Rt (v : Option Value) (P : amH → Prop) : amOut → Prop := fun o => ∃ hs', o = (.inl v, hs', 0, 0) ∧ P hs'
def CrQ (M : Nat) (as : List Value) (hs : amH) (v : Option Value) (P : amH → Prop) : Prop := ∃ hs', Cr M as hs v hs' ∧ P hs'
section EQ
variable {M pc len : Nat} {ls : amL} {st : List Value} {hs : amH} {c s : Nat} {x : amRes} {Q : amOut → Prop}
theorem eq_ {M' pc' : Nat} {ls' : amL} {st' : List Value} {hs' : amH} {c' s' : Nat} (f : ∀ o, Ev M' pc' ls' st' hs' c' s' o → Ev M pc ls st hs c s o) (k : EvQ M' pc' ls' st' hs' c' s' Q) : EvQ M pc ls st hs c s Q := by
  obtain ⟨o, h, q⟩ := k
  exact ⟨o, f o h, q⟩
theorem eq_ic {cd : ClassFile.Cond} {off : Int} {tgt : Nat} {a b : Int32} (hf : amFetch M pc = some (.if_icmp cd off, len, x)) (ht : amTgt pc off = tgt) (kt : ak2 cd a b → EvQ M tgt ls st hs c s Q) (kf : ¬ ak2 cd a b → EvQ M (pc + 3) ls st hs c s Q) : EvQ M pc ls (.int b :: .int a :: st) hs c s Q := by
  by_cases h : ak2 cd a b
  · exact eq_ (fun _ k => ev_ic hf ht (fun _ => k) (fun q => absurd h q)) (kt h)
  · exact eq_ (fun _ k => ev_ic hf ht (fun q => absurd q h) (fun _ => k)) (kf h)
theorem eq_if {cd : ClassFile.Cond} {off : Int} {tgt : Nat} {v : Int32} (hf : amFetch M pc = some (.ifCond cd off, len, x)) (ht : amTgt pc off = tgt) (kt : ak0 cd v → EvQ M tgt ls st hs c s Q) (kf : ¬ ak0 cd v → EvQ M (pc + 3) ls st hs c s Q) : EvQ M pc ls (.int v :: st) hs c s Q := by
  by_cases h : ak0 cd v
  · exact eq_ (fun _ k => ev_if hf ht (fun _ => k) (fun q => absurd h q)) (kt h)
  · exact eq_ (fun _ k => ev_if hf ht (fun q => absurd q h) (fun _ => k)) (kf h)
theorem eq_icN {cd : ClassFile.Cond} {off : Int} {tgt a b : Nat} (ha : a < 2 ^ 31) (hb : b < 2 ^ 31) (hf : amFetch M pc = some (.if_icmp cd off, len, x)) (ht : amTgt pc off = tgt) (kt : akN cd a b → EvQ M tgt ls st hs c s Q) (kf : ¬ akN cd a b → EvQ M (pc + 3) ls st hs c s Q) : EvQ M pc ls (.int (nI b) :: .int (nI a) :: st) hs c s Q :=
  eq_ic hf ht (fun h => kt ((ak2_N ha hb).mp h)) (fun h => kf (fun q => h ((ak2_N ha hb).mpr q)))
theorem eq_ifN {cd : ClassFile.Cond} {off : Int} {tgt a : Nat} (ha : a < 2 ^ 31) (hf : amFetch M pc = some (.ifCond cd off, len, x)) (ht : amTgt pc off = tgt) (kt : akN cd a 0 → EvQ M tgt ls st hs c s Q) (kf : ¬ akN cd a 0 → EvQ M (pc + 3) ls st hs c s Q) : EvQ M pc ls (.int (nI a) :: st) hs c s Q :=
  eq_if hf ht (fun h => kt ((ak0_N ha).mp h)) (fun h => kf (fun q => h ((ak0_N ha).mpr q)))
theorem eq_ifeqB {off : Int} {tgt : Nat} {b : Bool} (hf : amFetch M pc = some (.ifCond .eq off, len, x)) (ht : amTgt pc off = tgt) (kt : b = false → EvQ M tgt ls st hs c s Q) (kf : b = true → EvQ M (pc + 3) ls st hs c s Q) : EvQ M pc ls (.int (nI b.toNat) :: st) hs c s Q := by
  cases b
  · exact eq_ (fun _ k => ev_ifeqB hf ht (fun _ => k) (fun q => absurd q (by decide))) (kt rfl)
  · exact eq_ (fun _ k => ev_ifeqB hf ht (fun q => absurd q (by decide)) (fun _ => k)) (kf rfl)
theorem eq_ifneB {off : Int} {tgt : Nat} {b : Bool} (hf : amFetch M pc = some (.ifCond .ne off, len, x)) (ht : amTgt pc off = tgt) (kt : b = true → EvQ M tgt ls st hs c s Q) (kf : b = false → EvQ M (pc + 3) ls st hs c s Q) : EvQ M pc ls (.int (nI b.toNat) :: st) hs c s Q := by
  cases b
  · exact eq_ (fun _ k => ev_ifneB hf ht (fun q => absurd q (by decide)) (fun _ => k)) (kf rfl)
  · exact eq_ (fun _ k => ev_ifneB hf ht (fun _ => k) (fun q => absurd q (by decide))) (kt rfl)
theorem eq_iast {a n j : Nat} {f : Nat → Int32} {v : Int32} (hf : amFetch M pc = some (.iastore, len, x)) (hc : hs[a]? = some (.inl (.int, n, .inl f))) (hj : j < n) (hn : n < 2 ^ 31) (h0 : ¬ a = 0) (kk : ∀ hs1, hs1 = hs.set a (.inl (.int, n, .inl (upd f j v))) → EvQ M (pc + 1) ls st hs1 c s Q) : EvQ M pc ls (.int v :: .int (nI j) :: .ref a :: st) hs c s Q :=
  eq_ (fun _ k => ev_iast hf hc hj hn h0 k) (kk _ rfl)
theorem eq_bast {a n j : Nat} {f : Nat → Int32} {v : Int32} (hf : amFetch M pc = some (.bastore, len, x)) (hc : hs[a]? = some (.inl (.boolean, n, .inl f))) (hj : j < n) (hn : n < 2 ^ 31) (h0 : ¬ a = 0) (kk : ∀ hs1, hs1 = hs.set a (.inl (.boolean, n, .inl (upd f j (vp_nar .boolean v)))) → EvQ M (pc + 1) ls st hs1 c s Q) : EvQ M pc ls (.int v :: .int (nI j) :: .ref a :: st) hs c s Q :=
  eq_ (fun _ k => ev_bast hf hc hj hn h0 k) (kk _ rfl)
theorem eq_last {a n j : Nat} {f : Nat → Int64} {v : Int64} (hf : amFetch M pc = some (.lastore, len, x)) (hc : hs[a]? = some (.inl (.long, n, .inr (.inl f)))) (hj : j < n) (hn : n < 2 ^ 31) (h0 : ¬ a = 0) (kk : ∀ hs1, hs1 = hs.set a (.inl (.long, n, .inr (.inl (vp_updL f j v)))) → EvQ M (pc + 1) ls st hs1 c s Q) : EvQ M pc ls (.long v :: .int (nI j) :: .ref a :: st) hs c s Q :=
  eq_ (fun _ k => ev_last hf hc hj hn h0 k) (kk _ rfl)
theorem eq_putf {k a ci f : Nat} {z : Int} {fs : List Value} {v : Value} (hf : amFetch M pc = some (.putfield k, len, (ci, f, z))) (hc : hs[a]? = some (.inr (ci, fs))) (hfit : amFits (amTy ci f) v = true) (hl : f < fs.length) (kk : ∀ hs1, hs1 = hs.set a (.inr (ci, fs.set f v)) → EvQ M (pc + 3) ls st hs1 c s Q) : EvQ M pc ls (v :: .ref a :: st) hs c s Q :=
  eq_ (fun _ k => ev_putf hf hc hfit hl k) (kk _ rfl)
end EQ
theorem crq_mk {M own mL : Nat} {as : List Value} {hs : amH} {v : Option Value} {P : amH → Prop} (ho : amOwnL M = some (own, mL)) (hl : as.length ≤ mL) (h : EvQ M 0 (amEntry as mL) [] hs 0 0 (Rt v P)) : CrQ M as hs v P := by
  obtain ⟨o, h1, hs', rfl, h2⟩ := h
  exact ⟨hs', cr_mk ho hl h1, h2⟩
/-- the worlds agree but for the cells from lo on below hi -/
def Fr (hs hs' : amH) (lo hi : Nat) : Prop := hs'.length = hs.length ∧ ∀ j, j < lo ∨ hi ≤ j → hs'[j]? = hs[j]?
theorem Fr.refl {hs : amH} {lo hi : Nat} : Fr hs hs lo hi := ⟨rfl, fun _ _ => rfl⟩
theorem Fr.tr {hs hs1 hs2 : amH} {lo hi : Nat} (h1 : Fr hs hs1 lo hi) (h2 : Fr hs1 hs2 lo hi) : Fr hs hs2 lo hi := ⟨h2.1.trans h1.1, fun j hj => (h2.2 j hj).trans (h1.2 j hj)⟩
theorem Fr.wide {hs hs1 : amH} {lo hi lo2 hi2 : Nat} (h1 : Fr hs hs1 lo hi) (h2 : lo2 ≤ lo) (h3 : hi ≤ hi2) : Fr hs hs1 lo2 hi2 := ⟨h1.1, fun j hj => h1.2 j (by omega)⟩
theorem Fr.set {hs : amH} {lo hi a : Nat} {q : amC} (h1 : lo ≤ a) (h2 : a < hi) : Fr hs (hs.set a q) lo hi := ⟨List.length_set, fun j hj => List.getElem?_set_ne (by omega)⟩
theorem Fr.st {hs hs1 : amH} {lo hi a : Nat} {q : amC} (e : hs1 = hs.set a q) (h1 : lo ≤ a) (h2 : a < hi) : Fr hs hs1 lo hi := e ▸ Fr.set h1 h2
theorem am_set {hs hs1 : amH} {a : Nat} {q p : amC} (e : hs1 = hs.set a q) (h : hs[a]? = some p) : hs1[a]? = some q := by
  rw [e, List.getElem?_set_self]
  exact (List.getElem?_eq_some_iff.mp h).1
theorem am_set2 {hs hs1 : amH} {a b : Nat} {q : amC} (e : hs1 = hs.set a q) (h : ¬ a = b) : hs1[b]? = hs[b]? := by
  rw [e, List.getElem?_set_ne h]
theorem TabAt.fr {hs hs' : amH} {p q lo hi : Nat} {T : amTab} (h : TabAt hs p q T) (f : Fr hs hs' lo hi) (hd : p + 6 ≤ lo ∨ hi ≤ p) : TabAt hs' p q T := by
  obtain ⟨h0, h3, h8, a0, a1, a2, a3, a4, a5, b1, b2⟩ := h
  exact ⟨h0, h3, h8, (f.2 _ (by omega)).trans a0, (f.2 _ (by omega)).trans a1, (f.2 _ (by omega)).trans a2, (f.2 _ (by omega)).trans a3, (f.2 _ (by omega)).trans a4, (f.2 _ (by omega)).trans a5, b1, b2⟩
/-! what a bag holds: how often each fingerprint -/
def BagC (hs : amH) (b : Nat) (F C : Nat → Nat) (z : Nat) : Prop := 0 < b ∧ z ≤ 512 ∧ hs[b]? = some (.inr (0, [.ref (b + 1), .ref (b + 2), .int (nI z)])) ∧ hs[b + 1]? = some (.inl (.int, 512, .inl (fun j => nI (F j)))) ∧ hs[b + 2]? = some (.inl (.int, 512, .inl (fun j => nI (C j))))
def BagIs (g F C : Nat → Nat) (z : Nat) : Prop := z = nzN g 4096 ∧ (∀ k, g k < 2 ^ 20) ∧ ∀ k, k < 4096 → 0 < g k → F (nzN g k) = k ∧ C (nzN g k) = g k
def BagAt (hs : amH) (b : Nat) (g : Nat → Nat) : Prop := ∃ F C z, BagC hs b F C z ∧ BagIs g F C z
theorem BagC.fr {hs hs' : amH} {b lo hi z : Nat} {F C : Nat → Nat} (h : BagC hs b F C z) (f : Fr hs hs' lo hi) (hd : b + 3 ≤ lo ∨ hi ≤ b) : BagC hs' b F C z := by
  obtain ⟨h0, h1, a0, a1, a2⟩ := h
  exact ⟨h0, h1, (f.2 _ (by omega)).trans a0, (f.2 _ (by omega)).trans a1, (f.2 _ (by omega)).trans a2⟩
theorem BagAt.fr {hs hs' : amH} {b lo hi : Nat} {g : Nat → Nat} (h : BagAt hs b g) (f : Fr hs hs' lo hi) (hd : b + 3 ≤ lo ∨ hi ≤ b) : BagAt hs' b g := by
  obtain ⟨F, C, z, h1, h2⟩ := h
  exact ⟨F, C, z, h1.fr f hd, h2⟩
theorem nzN_mono (f : Nat → Nat) {a b : Nat} (h : a ≤ b) : nzN f a ≤ nzN f b := by
  induction h with
  | refl => exact Nat.le_refl _
  | step _ ih =>
    refine Nat.le_trans ih ?_
    conv => rhs; unfold nzN
    omega
theorem nzN_pos {f : Nat → Nat} {k : Nat} (h : 0 < f k) : nzN f (k + 1) = nzN f k + 1 := by
  show nzN f k + (if f k = 0 then 0 else 1) = _
  rw [if_neg (by omega)]
theorem nzN_zero {f : Nat → Nat} {k : Nat} (h : f k = 0) : nzN f (k + 1) = nzN f k := by
  show nzN f k + (if f k = 0 then 0 else 1) = _
  rw [if_pos h]
  rfl
theorem nzN_lt {f : Nat → Nat} {k n : Nat} (hk : k < n) (h : 0 < f k) : nzN f k < nzN f n := by
  have h1 := nzN_mono f (show k + 1 ≤ n from hk)
  rw [nzN_pos h] at h1
  omega
/-- the place in a bag has a fingerprint -/
theorem nzN_inv (f : Nat → Nat) : ∀ (k m : Nat), m < nzN f k → ∃ j, j < k ∧ 0 < f j ∧ nzN f j = m
  | 0, m, h => by simp [nzN] at h
  | k + 1, m, h => by
    by_cases h0 : f k = 0
    · rw [nzN_zero h0] at h
      obtain ⟨j, h1, h2, h3⟩ := nzN_inv f k m h
      exact ⟨j, by omega, h2, h3⟩
    · rw [nzN_pos (by omega)] at h
      by_cases h1 : m = nzN f k
      · exact ⟨k, by omega, by omega, h1.symm⟩
      · obtain ⟨j, h1, h2, h3⟩ := nzN_inv f k m (by omega)
        exact ⟨j, by omega, h2, h3⟩
theorem nzN_above {f : Nat → Nat} {k n : Nat} (hk : k ≤ n) (h : ∀ j, k ≤ j → j < n → f j = 0) : nzN f n = nzN f k := by
  induction hk with
  | refl => rfl
  | step h2 ih =>
    rename_i m
    rw [nzN_zero (h m h2 (by omega)), ih (fun j h3 h4 => h j h3 (by omega))]
theorem nzN_congr {f g : Nat → Nat} {n : Nat} (h : ∀ j, j < n → (f j = 0 ↔ g j = 0)) : nzN f n = nzN g n := by
  induction n with
  | zero => rfl
  | succ n ih =>
    have h1 := ih (fun j hj => h j (by omega))
    have h2 := h n (by omega)
    simp only [nzN, h1]
    split <;> split <;> first | rfl | omega
theorem nzN_imp {f g : Nat → Nat} (h : ∀ j, 0 < f j → 0 < g j) : ∀ k, nzN f k ≤ nzN g k
  | 0 => Nat.le_refl _
  | k + 1 => by
    have h1 := nzN_imp h k
    have h2 := h k
    simp only [nzN]
    split <;> split <;> omega
theorem nzN_sum (f g : Nat → Nat) : ∀ k, nzN (fun j => f j + g j) k ≤ nzN f k + nzN g k
  | 0 => Nat.le_refl _
  | k + 1 => by
    have h1 := nzN_sum f g k
    simp only [nzN] at h1 ⊢
    split <;> split <;> split <;> omega
/-- the row holds at a place behind the first k fingerprints no lesser one -/
theorem bag_ge {g F C : Nat → Nat} {z k i : Nat} (h : BagIs g F C z) (hk : k ≤ 4096) (h1 : nzN g k ≤ i) (h2 : i < z) : k ≤ F i ∧ F i < 4096 ∧ 0 < g (F i) ∧ nzN g (F i) = i ∧ C i = g (F i) := by
  obtain ⟨hz, h3, h4⟩ := h
  subst hz
  obtain ⟨j, j1, j2, j3⟩ := nzN_inv g 4096 i h2
  obtain ⟨e1, e2⟩ := h4 j j1 j2
  rw [j3] at e1 e2
  rw [e1]
  refine ⟨?_, j1, j2, j3, e2⟩
  refine Nat.le_of_not_lt (fun h5 => ?_)
  have h6 := nzN_lt h5 j2
  omega
section EM
variable {M pc len : Nat} {ls : amL} {st : List Value} {hs : amH} {c s : Nat} {o : amOut} {x : amRes}
theorem ev_iincS {n v d : Nat} {e : Int} (hv : d ≤ v) (he : ∀ a : Int32, a + Int32.ofInt e = a - nI d) (hf : amFetch M pc = some (.iinc n e, len, x)) (hl : ls[n]? = some (some (.int (nI v)))) (k : Ev M (pc + 3) (ls.set n (some (.int (nI (v - d))))) st hs c s o) : Ev M pc ls st hs c s o := by
  refine ev_iinc hf hl ?_
  rw [he, pk_sub hv]
  exact k
theorem am_m1s (a : Int32) : a + Int32.ofInt (-1) = a - nI 1 := by
  rw [Int32.sub_eq_add_neg]
  rfl
theorem ev_iincM {n v : Nat} (hv : 0 < v) (hf : amFetch M pc = some (.iinc n (-1), len, x)) (hl : ls[n]? = some (some (.int (nI v)))) (k : Ev M (pc + 3) (ls.set n (some (.int (nI (v - 1))))) st hs c s o) : Ev M pc ls st hs c s o :=
  ev_iincS (d := 1) hv am_m1s hf hl k
end EM
/-- as often as in g, but only below k -/
def cutN (g : Nat → Nat) (k : Nat) : Nat → Nat := fun j => if j < k then g j else 0
theorem cutN_lt {g : Nat → Nat} {k j : Nat} (h : j < k) : cutN g k j = g j := if_pos h
theorem cutN_ge {g : Nat → Nat} {k j : Nat} (h : k ≤ j) : cutN g k j = 0 := if_neg (Nat.not_lt.mpr h)
theorem cutN_0 (g : Nat → Nat) : cutN g 0 = fun _ => 0 := by
  funext j
  exact cutN_ge (Nat.zero_le j)
theorem cutN_nz (g : Nat → Nat) (k : Nat) : nzN (cutN g k) k = nzN g k := nzN_congr (fun j hj => by rw [cutN_lt hj])
theorem cutN_succ (g : Nat → Nat) (k : Nat) : cutN g (k + 1) = updN (cutN g k) k (cutN g k k + g k) := by
  funext j
  unfold updN
  split
  · rename_i h
    subst h
    rw [cutN_ge (Nat.le_refl j), cutN_lt (by omega), Nat.zero_add]
  · by_cases h : j < k
    · rw [cutN_lt h, cutN_lt (by omega)]
    · rw [cutN_ge (by omega), cutN_ge (by omega)]
theorem cutN_same {g : Nat → Nat} {k : Nat} (h : g k = 0) : cutN g (k + 1) = cutN g k := by
  rw [cutN_succ, h, Nat.add_zero]
  funext j
  unfold updN
  split
  · rename_i e; rw [e]
  · rfl
theorem BagAt.cg {hs : amH} {b : Nat} {g g' : Nat → Nat} (h : BagAt hs b g) (he : ∀ j, j < 4096 → g j = g' j) (hb : ∀ j, g' j < 2 ^ 20) : BagAt hs b g' := by
  obtain ⟨F, C, z, h1, h2, h3, h4⟩ := h
  have hn : ∀ k, k ≤ 4096 → nzN g k = nzN g' k := fun k hk => nzN_congr (fun j hj => by rw [he j (by omega)])
  refine ⟨F, C, z, h1, ?_, hb, fun k hk h0 => ?_⟩
  · rw [h2, hn _ (Nat.le_refl _)]
  · rw [← he k hk] at h0 ⊢
    rw [← hn k (by omega)]
    exact h4 k hk h0
def enN (c : Nat) : Nat := (c + 6) / 7
