/-! rules with numbers, calls by the number of arguments; by hand -/
def akN (cd : ClassFile.Cond) (a b : Nat) : Prop := match cd with
  | .eq => a = b
  | .ne => ¬ a = b
  | .lt => a < b
  | .ge => b ≤ a
  | .gt => b < a
  | .le => a ≤ b
theorem ak2_N {cd : ClassFile.Cond} {a b : Nat} (ha : a < 2 ^ 31) (hb : b < 2 ^ 31) : ak2 cd (nI a) (nI b) ↔ akN cd a b := by
  cases cd <;> simp only [ak2, akN]
  · exact nI_eq ha hb
  · exact not_congr (nI_eq ha hb)
  · exact nI_ltI ha hb
  · exact nI_leI hb ha
  · exact nI_ltI hb ha
  · exact nI_leI ha hb
theorem ak0_2 {cd : ClassFile.Cond} {v : Int32} : ak0 cd v ↔ ak2 cd v 0 := by cases cd <;> simp only [ak0, ak2]
theorem ak0_N {cd : ClassFile.Cond} {a : Nat} (ha : a < 2 ^ 31) : ak0 cd (nI a) ↔ akN cd a 0 := ak0_2.trans (ak2_N (b := 0) ha (by omega))
theorem rI {M : Nat} (h : ((amRowOf M).bind fun r => r.2.2.2.2.1) = some .int) (v : Int32) : amRetOk M v = true := by
  unfold amRetOk
  rw [h]
  exact decide_eq_true rfl
theorem rZ {M : Nat} (h : ((amRowOf M).bind fun r => r.2.2.2.2.1) = some .boolean) (b : Bool) : amRetOk M (nI b.toNat) = true := by
  unfold amRetOk
  rw [h]
  cases b <;> decide
def updN (f : Nat → Nat) (k v : Nat) : Nat → Nat := fun j => if j = k then v else f j
def updB (f : Nat → Bool) (k : Nat) (v : Bool) : Nat → Bool := fun j => if j = k then v else f j
theorem upd_N (f : Nat → Nat) (k v : Nat) : upd (fun j => nI (f j)) k (nI v) = fun j => nI (updN f k v j) := by
  funext j
  unfold upd updN
  split <;> rfl
theorem upd_B (f : Nat → Bool) (k : Nat) (b : Bool) : upd (fun j => nI (f j).toNat) k (vp_nar .boolean (nI b.toNat)) = fun j => nI (updB f k b j).toNat := by
  funext j
  have e : vp_nar .boolean (nI b.toNat) = nI b.toNat := by cases b <;> decide
  rw [e]
  unfold upd updB
  split <;> rfl
theorem bN_lt (b : Bool) : b.toNat < 2 ^ 31 := by cases b <;> decide
section ER
variable {M pc len : Nat} {ls : amL} {st : List Value} {hs : amH} {c s : Nat} {o : amOut} {x : amRes}
theorem ev_icN {cd : ClassFile.Cond} {off : Int} {tgt a b : Nat} (ha : a < 2 ^ 31) (hb : b < 2 ^ 31) (hf : amFetch M pc = some (.if_icmp cd off, len, x)) (ht : amTgt pc off = tgt) (kt : akN cd a b → Ev M tgt ls st hs c s o) (kf : ¬ akN cd a b → Ev M (pc + 3) ls st hs c s o) : Ev M pc ls (.int (nI b) :: .int (nI a) :: st) hs c s o :=
  ev_ic hf ht (fun h => kt ((ak2_N ha hb).mp h)) (fun h => kf (fun q => h ((ak2_N ha hb).mpr q)))
theorem ev_ifN {cd : ClassFile.Cond} {off : Int} {tgt a : Nat} (ha : a < 2 ^ 31) (hf : amFetch M pc = some (.ifCond cd off, len, x)) (ht : amTgt pc off = tgt) (kt : akN cd a 0 → Ev M tgt ls st hs c s o) (kf : ¬ akN cd a 0 → Ev M (pc + 3) ls st hs c s o) : Ev M pc ls (.int (nI a) :: st) hs c s o :=
  ev_if hf ht (fun h => kt ((ak0_N ha).mp h)) (fun h => kf (fun q => h ((ak0_N ha).mpr q)))
/-- a boolean on the stack -/
theorem ev_ifeqB {off : Int} {tgt : Nat} {b : Bool} (hf : amFetch M pc = some (.ifCond .eq off, len, x)) (ht : amTgt pc off = tgt) (kt : b = false → Ev M tgt ls st hs c s o) (kf : b = true → Ev M (pc + 3) ls st hs c s o) : Ev M pc ls (.int (nI b.toNat) :: st) hs c s o := by
  refine ev_ifN (bN_lt b) hf ht (fun h => kt ?_) (fun h => kf ?_)
  · cases b
    · rfl
    · simp [akN] at h
  · cases b
    · simp [akN] at h
    · rfl
theorem ev_ifneB {off : Int} {tgt : Nat} {b : Bool} (hf : amFetch M pc = some (.ifCond .ne off, len, x)) (ht : amTgt pc off = tgt) (kt : b = true → Ev M tgt ls st hs c s o) (kf : b = false → Ev M (pc + 3) ls st hs c s o) : Ev M pc ls (.int (nI b.toNat) :: st) hs c s o := by
  refine ev_ifN (bN_lt b) hf ht (fun h => kt ?_) (fun h => kf ?_)
  · cases b
    · simp [akN] at h
    · rfl
  · cases b
    · rfl
    · simp [akN] at h
theorem ev_v0 {k tg own mL a : Nat} {rest fs : List Value} {v : Option Value} {hs' : amH} (hf : amFetch M pc = some (.invokevirtual k, len, (0, tg, 0))) (ho : amOwnL tg = some (own, mL)) (hcell : hs[a]? = some (.inr (own, fs))) (hsum : amSum rest ≤ 8) (hc : Cr tg [.ref a] hs v hs') (kk : Ev M (pc + 3) ls (v.toList ++ rest) hs' c s o) : Ev M pc ls (.ref a :: rest) hs c s o :=
  ev_vc [] hf ho rfl rfl hcell (fun v hv => absurd hv List.not_mem_nil) hsum hc kk
theorem ev_v1 {k tg own mL a : Nat} {v1 : Value} {rest fs : List Value} {v : Option Value} {hs' : amH} (hf : amFetch M pc = some (.invokevirtual k, len, (0, tg, 1))) (ho : amOwnL tg = some (own, mL)) (hcell : hs[a]? = some (.inr (own, fs))) (h1 : v1.category = 1) (hsum : amSum rest ≤ 8) (hc : Cr tg [.ref a, v1] hs v hs') (kk : Ev M (pc + 3) ls (v.toList ++ rest) hs' c s o) : Ev M pc ls (v1 :: .ref a :: rest) hs c s o :=
  ev_vc [v1] hf ho rfl rfl hcell (List.forall_mem_cons.mpr ⟨h1, fun v hv => absurd hv List.not_mem_nil⟩) hsum hc kk
theorem ev_v2 {k tg own mL a : Nat} {v1 v2 : Value} {rest fs : List Value} {v : Option Value} {hs' : amH} (hf : amFetch M pc = some (.invokevirtual k, len, (0, tg, 2))) (ho : amOwnL tg = some (own, mL)) (hcell : hs[a]? = some (.inr (own, fs))) (h1 : v1.category = 1) (h2 : v2.category = 1) (hsum : amSum rest ≤ 8) (hc : Cr tg [.ref a, v1, v2] hs v hs') (kk : Ev M (pc + 3) ls (v.toList ++ rest) hs' c s o) : Ev M pc ls (v2 :: v1 :: .ref a :: rest) hs c s o :=
  ev_vc [v1, v2] hf ho rfl rfl hcell (List.forall_mem_cons.mpr ⟨h1, List.forall_mem_cons.mpr ⟨h2, fun v hv => absurd hv List.not_mem_nil⟩⟩) hsum hc kk
theorem ev_v3 {k tg own mL a : Nat} {v1 v2 v3 : Value} {rest fs : List Value} {v : Option Value} {hs' : amH} (hf : amFetch M pc = some (.invokevirtual k, len, (0, tg, 3))) (ho : amOwnL tg = some (own, mL)) (hcell : hs[a]? = some (.inr (own, fs))) (h1 : v1.category = 1) (h2 : v2.category = 1) (h3 : v3.category = 1) (hsum : amSum rest ≤ 8) (hc : Cr tg [.ref a, v1, v2, v3] hs v hs') (kk : Ev M (pc + 3) ls (v.toList ++ rest) hs' c s o) : Ev M pc ls (v3 :: v2 :: v1 :: .ref a :: rest) hs c s o :=
  ev_vc [v1, v2, v3] hf ho rfl rfl hcell (List.forall_mem_cons.mpr ⟨h1, List.forall_mem_cons.mpr ⟨h2, List.forall_mem_cons.mpr ⟨h3, fun v hv => absurd hv List.not_mem_nil⟩⟩⟩) hsum hc kk
theorem ev_s1 {k kd tg own mL : Nat} {v1 : Value} {rest : List Value} {v : Option Value} {hs' : amH} (hf : amFetch M pc = some (.invokestatic k, len, (kd, tg, 1))) (hkd : kd = 1 ∨ kd = 2) (ho : amOwnL tg = some (own, mL)) (h1 : v1.category = 1) (hsum : amSum rest ≤ 8) (hc : Cr tg [v1] hs v hs') (kk : Ev M (pc + 3) ls (v.toList ++ rest) hs' c s o) : Ev M pc ls (v1 :: rest) hs c s o :=
  ev_sc [v1] hf hkd ho rfl rfl (List.forall_mem_cons.mpr ⟨h1, fun v hv => absurd hv List.not_mem_nil⟩) hsum hc kk
theorem ev_s2 {k kd tg own mL : Nat} {v1 v2 : Value} {rest : List Value} {v : Option Value} {hs' : amH} (hf : amFetch M pc = some (.invokestatic k, len, (kd, tg, 2))) (hkd : kd = 1 ∨ kd = 2) (ho : amOwnL tg = some (own, mL)) (h1 : v1.category = 1) (h2 : v2.category = 1) (hsum : amSum rest ≤ 8) (hc : Cr tg [v1, v2] hs v hs') (kk : Ev M (pc + 3) ls (v.toList ++ rest) hs' c s o) : Ev M pc ls (v2 :: v1 :: rest) hs c s o :=
  ev_sc [v1, v2] hf hkd ho rfl rfl (List.forall_mem_cons.mpr ⟨h1, List.forall_mem_cons.mpr ⟨h2, fun v hv => absurd hv List.not_mem_nil⟩⟩) hsum hc kk
theorem ev_s3 {k kd tg own mL : Nat} {v1 v2 v3 : Value} {rest : List Value} {v : Option Value} {hs' : amH} (hf : amFetch M pc = some (.invokestatic k, len, (kd, tg, 3))) (hkd : kd = 1 ∨ kd = 2) (ho : amOwnL tg = some (own, mL)) (h1 : v1.category = 1) (h2 : v2.category = 1) (h3 : v3.category = 1) (hsum : amSum rest ≤ 8) (hc : Cr tg [v1, v2, v3] hs v hs') (kk : Ev M (pc + 3) ls (v.toList ++ rest) hs' c s o) : Ev M pc ls (v3 :: v2 :: v1 :: rest) hs c s o :=
  ev_sc [v1, v2, v3] hf hkd ho rfl rfl (List.forall_mem_cons.mpr ⟨h1, List.forall_mem_cons.mpr ⟨h2, List.forall_mem_cons.mpr ⟨h3, fun v hv => absurd hv List.not_mem_nil⟩⟩⟩) hsum hc kk
end ER
theorem cr_mk {M own mL : Nat} {as : List Value} {hs hs' : amH} {v : Option Value} (ho : amOwnL M = some (own, mL)) (hl : as.length ≤ mL) (h : Ev M 0 (amEntry as mL) [] hs 0 0 (.inl v, hs', 0, 0)) : Cr M as hs v hs' := ⟨own, mL, ho, hl, h⟩
/-! a table of the class, at p: the object, and its five rows behind it -/
abbrev amTab : Type := (Nat → Nat) × (Nat → Nat) × (Nat → Bool) × (Nat → Bool) × (Nat → Bool)
def tabC (p q : Nat) (T : amTab) : List amC := [.inr (2, [.ref (p + 1), .ref (p + 2), .ref (p + 3), .ref (p + 4), .ref (p + 5), .int (nI q)]), .inl (.int, 256, .inl (fun j => nI (T.1 j))), .inl (.int, 256, .inl (fun j => nI (T.2.1 j))), .inl (.boolean, 256, .inl (fun j => nI (T.2.2.1 j).toNat)), .inl (.boolean, 256, .inl (fun j => nI (T.2.2.2.1 j).toNat)), .inl (.boolean, 256, .inl (fun j => nI (T.2.2.2.2 j).toNat))]
def TabAt (hs : amH) (p q : Nat) (T : amTab) : Prop := 0 < p ∧ 3 ≤ q ∧ q ≤ 8 ∧ hs[p]? = some (.inr (2, [.ref (p + 1), .ref (p + 2), .ref (p + 3), .ref (p + 4), .ref (p + 5), .int (nI q)])) ∧ hs[p + 1]? = some (.inl (.int, 256, .inl (fun j => nI (T.1 j)))) ∧ hs[p + 2]? = some (.inl (.int, 256, .inl (fun j => nI (T.2.1 j)))) ∧ hs[p + 3]? = some (.inl (.boolean, 256, .inl (fun j => nI (T.2.2.1 j).toNat))) ∧ hs[p + 4]? = some (.inl (.boolean, 256, .inl (fun j => nI (T.2.2.2.1 j).toNat))) ∧ hs[p + 5]? = some (.inl (.boolean, 256, .inl (fun j => nI (T.2.2.2.2 j).toNat))) ∧ (∀ j, T.1 j < 4096) ∧ (∀ j, T.2.1 j ≤ 7)
theorem am_shl1 {q : Nat} (hq : q ≤ 30) : nI 1 <<< (nI q &&& 31) = nI (2 ^ q) := by
  have h : ∀ n, n ≤ 30 → nI 1 <<< (nI n &&& 31) = nI (2 ^ n) := by decide +kernel
  exact h q hq
theorem am_pow {q : Nat} (h1 : 3 ≤ q) (h2 : q ≤ 8) : 8 ≤ 2 ^ q ∧ 2 ^ q ≤ 256 := by
  have h : ∀ n, n ≤ 8 → 3 ≤ n → 8 ≤ 2 ^ n ∧ 2 ^ n ≤ 256 := by decide
  exact h q h2 h1
