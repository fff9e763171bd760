/-! runs of the abstract machine, backwards: a rule an instruction; by hand -/
theorem amBack_more {rec rec' : amRec} (ih : ∀ M pc ls st hs c s o, rec M pc ls st hs c s = some o → rec' M pc ls st hs c s = some o) {M : Nat} {x : amRes} {pc : Nat} {ls : amL} {rest : List Value} {c s : Nat} {q : Option amOut} {o : amOut} (h : amBack rec M x pc ls rest c s q = some o) : amBack rec' M x pc ls rest c s q = some o := by
  cases q with
  | none => simp [amBack] at h
  | some o1 =>
    obtain ⟨res, hs1, dc, ds⟩ := o1
    cases res with
    | inl v =>
      simp only [amBack] at h ⊢
      exact ih _ _ _ _ _ _ _ _ h
    | inr E =>
      simp only [amBack] at h ⊢
      by_cases hk : x.1 = 2 ∨ x.1 = 3
      · rw [if_pos hk] at h; cases h
      · rw [if_neg hk] at h ⊢
        cases hh : amHand M pc E with
        | none =>
          rw [hh] at h
          exact h
        | some hp =>
          rw [hh] at h
          dsimp only at h ⊢
          cases hf : amFetch M hp with
          | none => rw [hf] at h; cases h
          | some w =>
            rw [hf] at h
            obtain ⟨i, len, y⟩ := w
            cases i <;> first | (exact ih _ _ _ _ _ _ _ _ h) | (cases h)
theorem amCall_more {rec rec' : amRec} (ih : ∀ M pc ls st hs c s o, rec M pc ls st hs c s = some o → rec' M pc ls st hs c s = some o) {M : Nat} {x : amRes} {pc : Nat} {ls : amL} {st : List Value} {hs : amH} {c s : Nat} {o : amOut} (h : amCall rec M x pc ls st hs c s = some o) : amCall rec' M x pc ls st hs c s = some o := by
  unfold amCall at h ⊢
  cases ho : amOwnL x.2.1 with
  | none => rw [ho] at h; cases h
  | some w =>
    obtain ⟨own, mL⟩ := w
    rw [ho] at h
    dsimp only at h ⊢
    cases ha : amArgs x st hs own with
    | none => rw [ha] at h; cases h
    | some w =>
      obtain ⟨as, rest⟩ := w
      rw [ha] at h
      dsimp only at h ⊢
      by_cases hle : as.length ≤ mL
      · rw [if_pos hle] at h ⊢
        cases hq : rec x.2.1 0 (amEntry as mL) [] hs 0 0 with
        | none => rw [hq] at h; simp [amBack] at h
        | some o1 =>
          rw [hq] at h
          rw [ih _ _ _ _ _ _ _ _ hq]
          exact amBack_more ih h
      · rw [if_neg hle] at h
        cases h
theorem amMore_more {rec rec' : amRec} (ih : ∀ M pc ls st hs c s o, rec M pc ls st hs c s = some o → rec' M pc ls st hs c s = some o) {M : Nat} {i : Instr} {x : amRes} {pc : Nat} {ls : amL} {st : List Value} {hs : amH} {c s : Nat} {o : amOut} (h : amMore rec M i x pc ls st hs c s = some o) : amMore rec' M i x pc ls st hs c s = some o := by
  unfold amMore at h ⊢
  split at h
  · exact h
  · exact h
  · exact h
  · try dsimp only
    split at h
    · rename_i hk
      rw [if_pos hk]
      exact h
    · rename_i hk
      rw [if_neg hk]
      exact ih _ _ _ _ _ _ _ _ h
  · try dsimp only
    split at h
    · split at h
      · rename_i hk
        try dsimp only
        rw [if_pos hk]
        split at h
        · exact ih _ _ _ _ _ _ _ _ h
        · exact ih _ _ _ _ _ _ _ _ h
        · cases h
      · cases h
    · cases h
  · try dsimp only
    split at h
    · split at h
      · rename_i hk
        try dsimp only
        rw [if_pos hk]
        exact ih _ _ _ _ _ _ _ _ h
      · cases h
    · cases h
  · try dsimp only
    split at h
    · rename_i hk
      rw [if_pos hk]
      exact amCall_more ih h
    · cases h
  · try dsimp only
    split at h
    · rename_i hk
      rw [if_pos hk]
      exact amCall_more ih h
    · cases h
  · try dsimp only
    split at h
    · rename_i hk
      rw [if_pos hk]
      exact amCall_more ih h
    · cases h
  · cases h
theorem amRun_succ : ∀ (n : Nat) (M pc : Nat) (ls : amL) (st : List Value) (hs : amH) (c s : Nat) (o : amOut), amRun n M pc ls st hs c s = some o → amRun (n + 1) M pc ls st hs c s = some o
  | 0, _, _, _, _, _, _, _, _, h => by simp [amRun] at h
  | n + 1, M, pc, ls, st, hs, c, s, o, h => by
    simp only [amRun] at h ⊢
    cases hf : amFetch M pc with
    | none => rw [hf] at h; cases h
    | some w =>
      obtain ⟨i, len, x⟩ := w
      rw [hf] at h
      dsimp only at h ⊢
      cases hs2 : amStep i x pc ls st hs with
      | none =>
        rw [hs2] at h
        exact amMore_more (amRun_succ n) h
      | some q =>
        obtain ⟨pc', ls', st', hs'⟩ := q
        rw [hs2] at h
        exact amRun_succ n _ _ _ _ _ _ _ _ h
theorem amRun_le {n m : Nat} (hnm : n ≤ m) {M pc : Nat} {ls : amL} {st : List Value} {hs : amH} {c s : Nat} {o : amOut} (h : amRun n M pc ls st hs c s = some o) : amRun m M pc ls st hs c s = some o := by
  induction hnm with
  | refl => exact h
  | step _ ih => exact amRun_succ _ _ _ _ _ _ _ _ _ ih
def Ev (M pc : Nat) (ls : amL) (st : List Value) (hs : amH) (c s : Nat) (o : amOut) : Prop := ∃ n, amRun n M pc ls st hs c s = some o
def Ca (M : Nat) (as : List Value) (hs : amH) (o : amOut) : Prop := ∃ own mL, amOwnL M = some (own, mL) ∧ as.length ≤ mL ∧ Ev M 0 (amEntry as mL) [] hs 0 0 o
/-- a call that returns and makes nothing -/
def Cr (M : Nat) (as : List Value) (hs : amH) (v : Option Value) (hs' : amH) : Prop := Ca M as hs (.inl v, hs', 0, 0)
theorem ca_mk {M own mL : Nat} {as : List Value} {hs : amH} {o : amOut} (ho : amOwnL M = some (own, mL)) (hl : as.length ≤ mL) (h : Ev M 0 (amEntry as mL) [] hs 0 0 o) : Ca M as hs o := ⟨own, mL, ho, hl, h⟩
section EV
variable {M pc len : Nat} {ls : amL} {st : List Value} {hs : amH} {c s : Nat} {o : amOut} {x : amRes}
theorem ev_s {i : Instr} {pc' : Nat} {ls' : amL} {st' : List Value} {hs' : amH} (hf : amFetch M pc = some (i, len, x)) (h : amStep i x pc ls st hs = some (pc', ls', st', hs')) (k : Ev M pc' ls' st' hs' c s o) : Ev M pc ls st hs c s o := by
  obtain ⟨n, hn⟩ := k
  refine ⟨n + 1, ?_⟩
  simp only [amRun, hf, h]
  exact hn
theorem ev_m {i : Instr} (hf : amFetch M pc = some (i, len, x)) (h0 : amStep i x pc ls st hs = none) (h : ∃ n, amMore (amRun n) M i x pc ls st hs c s = some o) : Ev M pc ls st hs c s o := by
  obtain ⟨n, hn⟩ := h
  refine ⟨n + 1, ?_⟩
  simp only [amRun, hf, h0]
  exact hn
theorem ev_iconst {n : Int} (hf : amFetch M pc = some (.iconst n, len, x)) (k : Ev M (pc + 1) ls (.int (Int32.ofInt n) :: st) hs c s o) : Ev M pc ls st hs c s o := ev_s hf rfl k
theorem ev_iconstN {n : Nat} (hf : amFetch M pc = some (.iconst (Int.ofNat n), len, x)) (k : Ev M (pc + 1) ls (.int (nI n) :: st) hs c s o) : Ev M pc ls st hs c s o := ev_s hf rfl k
theorem ev_bipushN {n : Nat} (hn : n < 128) (hf : amFetch M pc = some (.bipush (Int.ofNat n), len, x)) (k : Ev M (pc + 2) ls (.int (nI n) :: st) hs c s o) : Ev M pc ls st hs c s o := by
  refine ev_s hf (by simp only [amStep]; rfl) ?_
  have e : (Int8.ofInt (Int.ofNat n)).toInt32 = nI n := by
    have : ∀ m, m < 128 → (Int8.ofInt (Int.ofNat m)).toInt32 = nI m := by decide +kernel
    exact this n hn
  rw [e]
  exact k
theorem ev_sipushN {n : Nat} {i : Int} (he : (Int16.ofInt i).toInt32 = nI n) (hf : amFetch M pc = some (.sipush i, len, x)) (k : Ev M (pc + 3) ls (.int (nI n) :: st) hs c s o) : Ev M pc ls st hs c s o := by
  refine ev_s hf (by simp only [amStep]; rfl) ?_
  rw [he]
  exact k
theorem ev_lconst {n : Fin 2} (hf : amFetch M pc = some (.lconst n, len, x)) (k : Ev M (pc + 1) ls (.long (Int64.ofNat (n : Nat)) :: st) hs c s o) : Ev M pc ls st hs c s o := ev_s hf rfl k
theorem ev_ldc {n : Nat} {v : Int32} (hx : x.1 = 7) (hv : Int32.ofInt x.2.2 = v) (hf : amFetch M pc = some (.ldc n, len, x)) (k : Ev M (pc + 2) ls (.int v :: st) hs c s o) : Ev M pc ls st hs c s o := by
  subst hv
  refine ev_s hf ?_ k
  simp only [amStep]
  rw [if_pos hx]
theorem ev_ldc2 {n : Nat} {v : Int64} (hx : x.1 = 7) (hv : Int64.ofInt x.2.2 = v) (hf : amFetch M pc = some (.ldc2_w n, len, x)) (k : Ev M (pc + 3) ls (.long v :: st) hs c s o) : Ev M pc ls st hs c s o := by
  subst hv
  refine ev_s hf ?_ k
  simp only [amStep]
  rw [if_pos hx]
theorem ev_ixor {a b : Int32} (hf : amFetch M pc = some (.ixor, len, x)) (k : Ev M (pc + 1) ls (.int (a ^^^ b) :: st) hs c s o) : Ev M pc ls (.int b :: .int a :: st) hs c s o := ev_s hf rfl k
theorem ev_lmul {a b : Int64} (hf : amFetch M pc = some (.lmul, len, x)) (k : Ev M (pc + 1) ls (.long (a * b) :: st) hs c s o) : Ev M pc ls (.long b :: .long a :: st) hs c s o := ev_s hf rfl k
theorem ev_land {a b : Int64} (hf : amFetch M pc = some (.land, len, x)) (k : Ev M (pc + 1) ls (.long (a &&& b) :: st) hs c s o) : Ev M pc ls (.long b :: .long a :: st) hs c s o := ev_s hf rfl k
theorem ev_lshr {a : Int64} {b : Int32} (hf : amFetch M pc = some (.lshr, len, x)) (k : Ev M (pc + 1) ls (.long (a >>> (b.toInt64 &&& 63)) :: st) hs c s o) : Ev M pc ls (.int b :: .long a :: st) hs c s o := ev_s hf rfl k
theorem ev_l2i {a : Int64} (hf : amFetch M pc = some (.l2i, len, x)) (k : Ev M (pc + 1) ls (.int a.toInt32 :: st) hs c s o) : Ev M pc ls (.long a :: st) hs c s o := ev_s hf rfl k
theorem ev_iload {n : Nat} {v : Int32} (hf : amFetch M pc = some (.iload n, len, x)) (hl : ls[n]? = some (some (.int v))) (k : Ev M (pc + 2) ls (.int v :: st) hs c s o) : Ev M pc ls st hs c s o := ev_s hf (by simp only [amStep]; rw [hl]) k
theorem ev_iload_n {n : Fin 4} {v : Int32} (hf : amFetch M pc = some (.iload_n n, len, x)) (hl : ls[(n : Nat)]? = some (some (.int v))) (k : Ev M (pc + 1) ls (.int v :: st) hs c s o) : Ev M pc ls st hs c s o := ev_s hf (by simp only [amStep]; rw [hl]) k
theorem ev_aload {n : Nat} {v : Nat} (hf : amFetch M pc = some (.aload n, len, x)) (hl : ls[n]? = some (some (.ref v))) (k : Ev M (pc + 2) ls (.ref v :: st) hs c s o) : Ev M pc ls st hs c s o := ev_s hf (by simp only [amStep]; rw [hl]) k
theorem ev_aload_n {n : Fin 4} {v : Nat} (hf : amFetch M pc = some (.aload_n n, len, x)) (hl : ls[(n : Nat)]? = some (some (.ref v))) (k : Ev M (pc + 1) ls (.ref v :: st) hs c s o) : Ev M pc ls st hs c s o := ev_s hf (by simp only [amStep]; rw [hl]) k
theorem ev_istore {n : Nat} {v : Int32} (hf : amFetch M pc = some (.istore n, len, x)) (k : Ev M (pc + 2) (ls.set n (some (.int v))) st hs c s o) : Ev M pc ls (.int v :: st) hs c s o := ev_s hf rfl k
theorem ev_istore_n {n : Fin 4} {v : Int32} (hf : amFetch M pc = some (.istore_n n, len, x)) (k : Ev M (pc + 1) (ls.set (n : Nat) (some (.int v))) st hs c s o) : Ev M pc ls (.int v :: st) hs c s o := ev_s hf rfl k
theorem ev_astore {n : Nat} {v : Nat} (hf : amFetch M pc = some (.astore n, len, x)) (k : Ev M (pc + 2) (ls.set n (some (.ref v))) st hs c s o) : Ev M pc ls (.ref v :: st) hs c s o := ev_s hf rfl k
theorem ev_astore_n {n : Fin 4} {v : Nat} (hf : amFetch M pc = some (.astore_n n, len, x)) (k : Ev M (pc + 1) (ls.set (n : Nat) (some (.ref v))) st hs c s o) : Ev M pc ls (.ref v :: st) hs c s o := ev_s hf rfl k
theorem ev_iinc {n : Nat} {d : Int} {v : Int32} (hf : amFetch M pc = some (.iinc n d, len, x)) (hl : ls[n]? = some (some (.int v))) (k : Ev M (pc + 3) (ls.set n (some (.int (v + Int32.ofInt d)))) st hs c s o) : Ev M pc ls st hs c s o := ev_s hf (by simp only [amStep]; rw [hl]) k
theorem ev_iincN {n d v : Nat} (hf : amFetch M pc = some (.iinc n (Int.ofNat d), len, x)) (hl : ls[n]? = some (some (.int (nI v)))) (k : Ev M (pc + 3) (ls.set n (some (.int (nI (v + d))))) st hs c s o) : Ev M pc ls st hs c s o := by
  refine ev_iinc hf hl ?_
  rw [show nI v + Int32.ofInt (Int.ofNat d) = nI (v + d) from nI_add v d]
  exact k
theorem ev_iadd {a b : Int32} (hf : amFetch M pc = some (.iadd, len, x)) (k : Ev M (pc + 1) ls (.int (a + b) :: st) hs c s o) : Ev M pc ls (.int b :: .int a :: st) hs c s o := ev_s hf rfl k
theorem ev_iaddN {a b : Nat} (hf : amFetch M pc = some (.iadd, len, x)) (k : Ev M (pc + 1) ls (.int (nI (a + b)) :: st) hs c s o) : Ev M pc ls (.int (nI b) :: .int (nI a) :: st) hs c s o := ev_iadd hf (by rw [nI_add]; exact k)
theorem ev_isub {a b : Int32} (hf : amFetch M pc = some (.isub, len, x)) (k : Ev M (pc + 1) ls (.int (a - b) :: st) hs c s o) : Ev M pc ls (.int b :: .int a :: st) hs c s o := ev_s hf rfl k
theorem ev_isubN {a b : Nat} (h : b ≤ a) (hf : amFetch M pc = some (.isub, len, x)) (k : Ev M (pc + 1) ls (.int (nI (a - b)) :: st) hs c s o) : Ev M pc ls (.int (nI b) :: .int (nI a) :: st) hs c s o := ev_isub hf (by rw [pk_sub h]; exact k)
theorem ev_imul {a b : Int32} (hf : amFetch M pc = some (.imul, len, x)) (k : Ev M (pc + 1) ls (.int (a * b) :: st) hs c s o) : Ev M pc ls (.int b :: .int a :: st) hs c s o := ev_s hf rfl k
theorem ev_imulN {a b : Nat} (hf : amFetch M pc = some (.imul, len, x)) (k : Ev M (pc + 1) ls (.int (nI (a * b)) :: st) hs c s o) : Ev M pc ls (.int (nI b) :: .int (nI a) :: st) hs c s o := ev_imul hf (by rw [pk_mul]; exact k)
theorem ev_iand {a b : Int32} (hf : amFetch M pc = some (.iand, len, x)) (k : Ev M (pc + 1) ls (.int (a &&& b) :: st) hs c s o) : Ev M pc ls (.int b :: .int a :: st) hs c s o := ev_s hf rfl k
theorem ev_ior {a b : Int32} (hf : amFetch M pc = some (.ior, len, x)) (k : Ev M (pc + 1) ls (.int (a ||| b) :: st) hs c s o) : Ev M pc ls (.int b :: .int a :: st) hs c s o := ev_s hf rfl k
theorem ev_idivN {a b : Nat} (ha : a < 2 ^ 31) (h0 : 0 < b) (hb : b < 2 ^ 31) (hf : amFetch M pc = some (.idiv, len, x)) (k : Ev M (pc + 1) ls (.int (nI (a / b)) :: st) hs c s o) : Ev M pc ls (.int (nI b) :: .int (nI a) :: st) hs c s o := by
  refine ev_s hf (by simp only [amStep]; rw [if_neg (nI_ne0 h0 hb)]) ?_
  rw [pk_div ha h0 hb]
  exact k
theorem ev_iremN {a b : Nat} (ha : a < 2 ^ 31) (h0 : 0 < b) (hb : b < 2 ^ 31) (hf : amFetch M pc = some (.irem, len, x)) (k : Ev M (pc + 1) ls (.int (nI (a % b)) :: st) hs c s o) : Ev M pc ls (.int (nI b) :: .int (nI a) :: st) hs c s o := by
  refine ev_s hf (by simp only [amStep]; rw [if_neg (nI_ne0 h0 hb)]) ?_
  rw [pk_rem ha h0 hb]
  exact k
theorem ev_ishl {a b : Int32} (hf : amFetch M pc = some (.ishl, len, x)) (k : Ev M (pc + 1) ls (.int (a <<< (b &&& 31)) :: st) hs c s o) : Ev M pc ls (.int b :: .int a :: st) hs c s o := ev_s hf rfl k
theorem ev_ishr {a b : Int32} (hf : amFetch M pc = some (.ishr, len, x)) (k : Ev M (pc + 1) ls (.int (a >>> (b &&& 31)) :: st) hs c s o) : Ev M pc ls (.int b :: .int a :: st) hs c s o := ev_s hf rfl k
theorem ev_iushr {a b : Int32} (hf : amFetch M pc = some (.iushr, len, x)) (k : Ev M (pc + 1) ls (.int (a.toUInt32 >>> (b.toUInt32 &&& Int32.toUInt32 31)).toInt32 :: st) hs c s o) : Ev M pc ls (.int b :: .int a :: st) hs c s o := ev_s hf rfl k
theorem ev_i2l {a : Int32} (hf : amFetch M pc = some (.i2l, len, x)) (k : Ev M (pc + 1) ls (.long a.toInt64 :: st) hs c s o) : Ev M pc ls (.int a :: st) hs c s o := ev_s hf rfl k
theorem ev_lcmp {a b : Int64} (hf : amFetch M pc = some (.lcmp, len, x)) (k : Ev M (pc + 1) ls (.int (lg_cmp a b) :: st) hs c s o) : Ev M pc ls (.long b :: .long a :: st) hs c s o := ev_s hf rfl k
theorem ev_dup {v : Value} (hf : amFetch M pc = some (.dup, len, x)) (hv : v.category = 1) (k : Ev M (pc + 1) ls (v :: v :: st) hs c s o) : Ev M pc ls (v :: st) hs c s o := ev_s hf (by simp only [amStep]; rw [if_pos hv]) k
theorem ev_dup2 {v w : Value} (hf : amFetch M pc = some (.dup2, len, x)) (hv : v.category = 1) (hw : w.category = 1) (k : Ev M (pc + 1) ls (v :: w :: v :: w :: st) hs c s o) : Ev M pc ls (v :: w :: st) hs c s o := ev_s hf (by simp only [amStep]; rw [if_pos ⟨hv, hw⟩]) k
theorem ev_goto {off : Int} {tgt : Nat} (hf : amFetch M pc = some (.goto off, len, x)) (ht : amTgt pc off = tgt) (k : Ev M tgt ls st hs c s o) : Ev M pc ls st hs c s o := ev_s hf rfl (by rw [ht]; exact k)
def ak0 (cd : ClassFile.Cond) (v : Int32) : Prop := match cd with
  | .eq => v = 0
  | .ne => ¬ v = 0
  | .lt => v < 0
  | .ge => 0 ≤ v
  | .gt => 0 < v
  | .le => v ≤ 0
def ak2 (cd : ClassFile.Cond) (a b : Int32) : Prop := match cd with
  | .eq => a = b
  | .ne => ¬ a = b
  | .lt => a < b
  | .ge => b ≤ a
  | .gt => b < a
  | .le => a ≤ b
theorem ev_if {cd : ClassFile.Cond} {off : Int} {tgt : Nat} {v : Int32} (hf : amFetch M pc = some (.ifCond cd off, len, x)) (ht : amTgt pc off = tgt) (kt : ak0 cd v → Ev M tgt ls st hs c s o) (kf : ¬ ak0 cd v → Ev M (pc + 3) ls st hs c s o) : Ev M pc ls (.int v :: st) hs c s o := by
  refine ev_s hf rfl ?_
  rw [ht]
  cases cd <;> simp only [amIf0, ak0] at * <;> split <;> simp_all
theorem ev_ic {cd : ClassFile.Cond} {off : Int} {tgt : Nat} {a b : Int32} (hf : amFetch M pc = some (.if_icmp cd off, len, x)) (ht : amTgt pc off = tgt) (kt : ak2 cd a b → Ev M tgt ls st hs c s o) (kf : ¬ ak2 cd a b → Ev M (pc + 3) ls st hs c s o) : Ev M pc ls (.int b :: .int a :: st) hs c s o := by
  refine ev_s hf rfl ?_
  rw [ht]
  cases cd <;> simp only [amIf2, ak2] at * <;> split <;> simp_all
theorem ev_getf {k a ci f : Nat} {z : Int} {fs : List Value} {v : Value} (hf : amFetch M pc = some (.getfield k, len, (ci, f, z))) (hc : hs[a]? = some (.inr (ci, fs))) (hv : fs[f]? = some v) (kk : Ev M (pc + 3) ls (v :: st) hs c s o) : Ev M pc ls (.ref a :: st) hs c s o := ev_s hf (by simp only [amStep, hc, hv, if_true]) kk
theorem ev_putf {k a ci f : Nat} {z : Int} {fs : List Value} {v : Value} (hf : amFetch M pc = some (.putfield k, len, (ci, f, z))) (hc : hs[a]? = some (.inr (ci, fs))) (hfit : amFits (amTy ci f) v = true) (hl : f < fs.length) (kk : Ev M (pc + 3) ls st (hs.set a (.inr (ci, fs.set f v))) c s o) : Ev M pc ls (v :: .ref a :: st) hs c s o := ev_s hf (by simp only [amStep, hc]; rw [if_pos ⟨trivial, hfit, hl⟩]) kk
theorem ev_alen {a n : Nat} {ty : FieldType} {f : (Nat → Int32) ⊕ (Nat → Int64) ⊕ (Nat → Option Nat)} (hf : amFetch M pc = some (.arraylength, len, x)) (hc : hs[a]? = some (.inl (ty, n, f))) (kk : Ev M (pc + 1) ls (.int (nI n) :: st) hs c s o) : Ev M pc ls (.ref a :: st) hs c s o := ev_s hf (by simp only [amStep, hc]; rfl) kk
theorem am_inN {j n : Nat} (h : j < n) (hn : n < 2 ^ 31) : amIn (nI j) n = true := by
  unfold amIn
  rw [nI_clamp (by omega)]
  simp [nI_pos (n := j) (by omega), h]
theorem ev_iald {a n j : Nat} {f : Nat → Int32} (hf : amFetch M pc = some (.iaload, len, x)) (hc : hs[a]? = some (.inl (.int, n, .inl f))) (hj : j < n) (hn : n < 2 ^ 31) (kk : Ev M (pc + 1) ls (.int (f j) :: st) hs c s o) : Ev M pc ls (.int (nI j) :: .ref a :: st) hs c s o := by
  refine ev_s hf (by simp only [amStep, hc]; rw [if_pos (am_inN hj hn)]) ?_
  rw [nI_clamp (by omega)]
  exact kk
theorem ev_bald {a n j : Nat} {f : Nat → Int32} (hf : amFetch M pc = some (.baload, len, x)) (hc : hs[a]? = some (.inl (.boolean, n, .inl f))) (hj : j < n) (hn : n < 2 ^ 31) (kk : Ev M (pc + 1) ls (.int (f j) :: st) hs c s o) : Ev M pc ls (.int (nI j) :: .ref a :: st) hs c s o := by
  refine ev_s hf (by simp only [amStep, hc]; rw [if_pos (am_inN hj hn)]) ?_
  rw [nI_clamp (by omega)]
  exact kk
theorem ev_lald {a n j : Nat} {f : Nat → Int64} (hf : amFetch M pc = some (.laload, len, x)) (hc : hs[a]? = some (.inl (.long, n, .inr (.inl f)))) (hj : j < n) (hn : n < 2 ^ 31) (kk : Ev M (pc + 1) ls (.long (f j) :: st) hs c s o) : Ev M pc ls (.int (nI j) :: .ref a :: st) hs c s o := by
  refine ev_s hf (by simp only [amStep, hc]; rw [if_pos (am_inN hj hn)]) ?_
  rw [nI_clamp (by omega)]
  exact kk
theorem ev_aald {a n j q : Nat} {C : String} {f : Nat → Option Nat} (hf : amFetch M pc = some (.aaload, len, x)) (hc : hs[a]? = some (.inl (.object C, n, .inr (.inr f)))) (hj : j < n) (hn : n < 2 ^ 31) (hq : f j = some q) (kk : Ev M (pc + 1) ls (.ref q :: st) hs c s o) : Ev M pc ls (.int (nI j) :: .ref a :: st) hs c s o := by
  refine ev_s hf (by simp only [amStep, hc]; rw [if_pos (am_inN hj hn), nI_clamp (by omega), hq]) ?_
  exact kk
theorem ev_iast {a n j : Nat} {f : Nat → Int32} {v : Int32} (hf : amFetch M pc = some (.iastore, len, x)) (hc : hs[a]? = some (.inl (.int, n, .inl f))) (hj : j < n) (hn : n < 2 ^ 31) (h0 : ¬ a = 0) (kk : Ev M (pc + 1) ls st (hs.set a (.inl (.int, n, .inl (upd f j v)))) c s o) : Ev M pc ls (.int v :: .int (nI j) :: .ref a :: st) hs c s o := by
  refine ev_s hf (by simp only [amStep, hc]; rw [if_pos ⟨am_inN hj hn, h0⟩]) ?_
  rw [nI_clamp (by omega)]
  exact kk
theorem ev_bast {a n j : Nat} {f : Nat → Int32} {v : Int32} (hf : amFetch M pc = some (.bastore, len, x)) (hc : hs[a]? = some (.inl (.boolean, n, .inl f))) (hj : j < n) (hn : n < 2 ^ 31) (h0 : ¬ a = 0) (kk : Ev M (pc + 1) ls st (hs.set a (.inl (.boolean, n, .inl (upd f j (vp_nar .boolean v))))) c s o) : Ev M pc ls (.int v :: .int (nI j) :: .ref a :: st) hs c s o := by
  refine ev_s hf (by simp only [amStep, hc]; rw [if_pos ⟨am_inN hj hn, h0⟩]) ?_
  rw [nI_clamp (by omega)]
  exact kk
theorem ev_last {a n j : Nat} {f : Nat → Int64} {v : Int64} (hf : amFetch M pc = some (.lastore, len, x)) (hc : hs[a]? = some (.inl (.long, n, .inr (.inl f)))) (hj : j < n) (hn : n < 2 ^ 31) (h0 : ¬ a = 0) (kk : Ev M (pc + 1) ls st (hs.set a (.inl (.long, n, .inr (.inl (vp_updL f j v))))) c s o) : Ev M pc ls (.long v :: .int (nI j) :: .ref a :: st) hs c s o := by
  refine ev_s hf (by simp only [amStep, hc]; rw [if_pos ⟨am_inN hj hn, h0⟩]) ?_
  rw [nI_clamp (by omega)]
  exact kk
theorem ev_max {k f : Nat} {z : Int} {a b : Int32} (hf : amFetch M pc = some (.invokestatic k, len, (4, f, z))) (hsum : amSum st ≤ 8) (kk : Ev M (pc + 3) ls (.int (if a < b then b else a) :: st) hs c s o) : Ev M pc ls (.int b :: .int a :: st) hs c s o := ev_s hf (by simp only [amStep]; rw [if_pos hsum, if_pos trivial]) kk
theorem ev_min {k f : Nat} {z : Int} {a b : Int32} (hf : amFetch M pc = some (.invokestatic k, len, (5, f, z))) (hsum : amSum st ≤ 8) (kk : Ev M (pc + 3) ls (.int (if b < a then b else a) :: st) hs c s o) : Ev M pc ls (.int b :: .int a :: st) hs c s o := ev_s hf (by simp only [amStep]; rw [if_pos hsum, if_neg (by decide), if_pos trivial]) kk
theorem ev_maxN {k f : Nat} {z : Int} {a b : Nat} (ha : a < 2 ^ 31) (hb : b < 2 ^ 31) (hf : amFetch M pc = some (.invokestatic k, len, (4, f, z))) (hsum : amSum st ≤ 8) (kk : Ev M (pc + 3) ls (.int (nI (max a b)) :: st) hs c s o) : Ev M pc ls (.int (nI b) :: .int (nI a) :: st) hs c s o := by
  refine ev_max hf hsum ?_
  by_cases h : a < b
  · rw [if_pos ((nI_ltI ha hb).mpr h)]; rw [show max a b = b by omega] at kk; exact kk
  · rw [if_neg (fun q => h ((nI_ltI ha hb).mp q))]; rw [show max a b = a by omega] at kk; exact kk
theorem ev_minN {k f : Nat} {z : Int} {a b : Nat} (ha : a < 2 ^ 31) (hb : b < 2 ^ 31) (hf : amFetch M pc = some (.invokestatic k, len, (5, f, z))) (hsum : amSum st ≤ 8) (kk : Ev M (pc + 3) ls (.int (nI (min a b)) :: st) hs c s o) : Ev M pc ls (.int (nI b) :: .int (nI a) :: st) hs c s o := by
  refine ev_min hf hsum ?_
  by_cases h : b < a
  · rw [if_pos ((nI_ltI hb ha).mpr h)]; rw [show min a b = b by omega] at kk; exact kk
  · rw [if_neg (fun q => h ((nI_ltI hb ha).mp q))]; rw [show min a b = a by omega] at kk; exact kk
theorem ev_iret {v : Int32} (hf : amFetch M pc = some (.ireturn, len, x)) (hr : amRetOk M v = true) (ho : o = (.inl (some (.int v)), hs, c, s)) : Ev M pc ls [.int v] hs c s o := ev_m hf rfl ⟨0, by subst ho; simp only [amMore]; rw [if_pos hr]⟩
theorem ev_aret {v : Nat} (hf : amFetch M pc = some (.areturn, len, x)) (ho : o = (.inl (some (.ref v)), hs, c, s)) : Ev M pc ls [.ref v] hs c s o := ev_m hf rfl ⟨0, by subst ho; rfl⟩
theorem ev_vret (hf : amFetch M pc = some (.return_, len, x)) (ho : o = (.inl none, hs, c, s)) : Ev M pc ls [] hs c s o := ev_m hf rfl ⟨0, by subst ho; rfl⟩
theorem ev_throw {k E : Nat} {z : Int} (hf : amFetch M pc = some (.new k, len, (1, E, z))) (hsum : amSum st ≤ 8) (ho : o = (.inr E, hs, c + 1, s + 6)) : Ev M pc ls st hs c s o := ev_m hf rfl ⟨0, by subst ho; simp only [amMore]; rw [if_pos trivial, if_pos hsum]⟩
/-- a call, in general -/
theorem ev_call {i : Instr} {tg own mL : Nat} {as rest : List Value} {o1 : amOut} (hf : amFetch M pc = some (i, len, x)) (h0 : amStep i x pc ls st hs = none) (hm : ∀ n, amMore (amRun n) M i x pc ls st hs c s = amCall (amRun n) M x pc ls st hs c s) (htg : x.2.1 = tg) (ho : amOwnL tg = some (own, mL)) (ha : amArgs x st hs own = some (as, rest)) (hc : Ca tg as hs o1) (hk : ∃ n, amBack (amRun n) M x pc ls rest c s (some o1) = some o) : Ev M pc ls st hs c s o := by
  subst htg
  obtain ⟨own2, mL2, h1, hlen, n1, hn1⟩ := hc
  rw [ho] at h1
  cases h1
  obtain ⟨n2, hn2⟩ := hk
  refine ev_m hf h0 ⟨max n1 n2, ?_⟩
  rw [hm]
  unfold amCall
  rw [ho]
  dsimp only
  rw [ha]
  dsimp only
  rw [if_pos hlen, amRun_le (Nat.le_max_left n1 n2) hn1]
  exact amBack_more (fun _ _ _ _ _ _ _ _ h => amRun_le (Nat.le_max_right n1 n2) h) hn2
theorem am_argsV {x : amRes} {st as2 rest : List Value} {hs : amH} {a own : Nat} {fs : List Value} (hx : x.1 = 0 ∨ x.1 = 3) (hst : st = as2.reverse ++ .ref a :: rest) (hn : x.2.2.toNat = as2.length) (hc : hs[a]? = some (.inr (own, fs))) (hcat : ∀ v ∈ as2, v.category = 1) (hsum : amSum rest ≤ 8) : amArgs x st hs own = some (.ref a :: as2, rest) := by
  unfold amArgs
  dsimp only
  rw [if_pos hx, hn]
  have e1 : st.take (as2.length + 1) = as2.reverse ++ [.ref a] := by
    rw [hst, show as2.reverse ++ Value.ref a :: rest = (as2.reverse ++ [.ref a]) ++ rest by simp, List.take_left' (by simp)]
  have e2 : st.drop (as2.length + 1) = rest := by
    rw [hst, show as2.reverse ++ Value.ref a :: rest = (as2.reverse ++ [.ref a]) ++ rest by simp, List.drop_left' (by simp)]
  have e3 : (as2.reverse ++ [Value.ref a]).reverse = .ref a :: as2 := by simp
  rw [e1, e2, e3, if_pos]
  refine ⟨rfl, ?_, hsum, fun _ => ?_⟩
  · rw [List.all_eq_true]
    intro v hv
    rcases List.mem_cons.mp hv with rfl | hv
    · rfl
    · exact decide_eq_true (hcat v hv)
  · simp [amThis, hc]
theorem am_argsS {x : amRes} {st as rest : List Value} {hs : amH} {own : Nat} (hx : ¬ (x.1 = 0 ∨ x.1 = 3)) (hst : st = as.reverse ++ rest) (hn : x.2.2.toNat = as.length) (hcat : ∀ v ∈ as, v.category = 1) (hsum : amSum rest ≤ 8) : amArgs x st hs own = some (as, rest) := by
  unfold amArgs
  dsimp only
  rw [if_neg hx, hn]
  have e1 : st.take as.length = as.reverse := by
    rw [hst, List.take_left' (by simp)]
  have e2 : st.drop as.length = rest := by
    rw [hst, List.drop_left' (by simp)]
  rw [e1, e2, List.reverse_reverse, if_pos]
  refine ⟨rfl, ?_, hsum, fun h => absurd h hx⟩
  rw [List.all_eq_true]
  intro v hv
  exact decide_eq_true (hcat v hv)
/-- a virtual call that returns -/
theorem ev_vc (as2 : List Value) {k tg own mL a dc ds : Nat} {na : Int} {rest fs : List Value} {v : Option Value} {hs' : amH} (hf : amFetch M pc = some (.invokevirtual k, len, (0, tg, na))) (ho : amOwnL tg = some (own, mL)) (hst : st = as2.reverse ++ .ref a :: rest) (hn : na.toNat = as2.length) (hcell : hs[a]? = some (.inr (own, fs))) (hcat : ∀ v ∈ as2, v.category = 1) (hsum : amSum rest ≤ 8) (hc : Ca tg (.ref a :: as2) hs (.inl v, hs', dc, ds)) (kk : Ev M (pc + 3) ls (v.toList ++ rest) hs' (c + dc) (s + ds) o) : Ev M pc ls st hs c s o := by
  obtain ⟨n, hn2⟩ := kk
  exact ev_call (x := (0, tg, na)) hf rfl (fun n => by simp only [amMore, if_true]) rfl ho (am_argsV (Or.inl rfl) hst hn hcell hcat hsum) hc ⟨n, by simp only [amBack]; exact hn2⟩
/-- a constructor's call -/
theorem ev_ci {k tg own mL a dc ds : Nat} {rest fs : List Value} {hs' : amH} (hf : amFetch M pc = some (.invokespecial k, len, (3, tg, 0))) (ho : amOwnL tg = some (own, mL)) (hst : st = .ref a :: rest) (hcell : hs[a]? = some (.inr (own, fs))) (hsum : amSum rest ≤ 8) (hc : Ca tg [.ref a] hs (.inl none, hs', dc, ds)) (kk : Ev M (pc + 3) ls rest hs' (c + dc) (s + ds) o) : Ev M pc ls st hs c s o := by
  obtain ⟨n, hn2⟩ := kk
  subst hst
  exact ev_call (x := (3, tg, 0)) hf (by simp [amStep]) (fun n => by simp only [amMore, if_true]) rfl ho (am_argsV (as2 := []) (Or.inr rfl) rfl rfl hcell (fun v hv => absurd hv List.not_mem_nil) hsum) hc ⟨n, by simp only [amBack]; exact hn2⟩
/-- a static call that returns -/
theorem ev_sc (as : List Value) {k kd tg own mL dc ds : Nat} {na : Int} {rest : List Value} {v : Option Value} {hs' : amH} (hf : amFetch M pc = some (.invokestatic k, len, (kd, tg, na))) (hkd : kd = 1 ∨ kd = 2) (ho : amOwnL tg = some (own, mL)) (hst : st = as.reverse ++ rest) (hn : na.toNat = as.length) (hcat : ∀ v ∈ as, v.category = 1) (hsum : amSum rest ≤ 8) (hc : Ca tg as hs (.inl v, hs', dc, ds)) (kk : Ev M (pc + 3) ls (v.toList ++ rest) hs' (c + dc) (s + ds) o) : Ev M pc ls st hs c s o := by
  obtain ⟨n, hn2⟩ := kk
  refine ev_call (x := (kd, tg, na)) hf ?_ (fun n => by simp only [amMore]; rw [if_pos hkd]) rfl ho (am_argsS (x := (kd, tg, na)) (by show ¬ (kd = 0 ∨ kd = 3); omega) hst hn hcat hsum) hc ⟨n, by simp only [amBack]; exact hn2⟩
  have h4 : ¬ kd = 4 := by omega
  have h5 : ¬ kd = 5 := by omega
  simp only [amStep, if_neg h4, if_neg h5]
  split <;> (try split) <;> rfl
/-- a virtual call that throws, not caught here -/
theorem ev_vt (as2 : List Value) {k tg own mL a dc ds E : Nat} {na : Int} {rest fs : List Value} {hs' : amH} (hf : amFetch M pc = some (.invokevirtual k, len, (0, tg, na))) (ho : amOwnL tg = some (own, mL)) (hst : st = as2.reverse ++ .ref a :: rest) (hn : na.toNat = as2.length) (hcell : hs[a]? = some (.inr (own, fs))) (hcat : ∀ v ∈ as2, v.category = 1) (hsum : amSum rest ≤ 8) (hc : Ca tg (.ref a :: as2) hs (.inr E, hs', dc, ds)) (hh : amHand M pc E = none) (he : o = (.inr E, hs', c + dc, s + ds)) : Ev M pc ls st hs c s o := by
  exact ev_call (x := (0, tg, na)) hf rfl (fun n => by simp only [amMore, if_true]) rfl ho (am_argsV (Or.inl rfl) hst hn hcell hcat hsum) hc ⟨0, by subst he; simp [amBack, hh]⟩
/-- a static call that throws, not caught here -/
theorem ev_st (as : List Value) {k tg own mL dc ds E : Nat} {na : Int} {rest : List Value} {hs' : amH} (hf : amFetch M pc = some (.invokestatic k, len, (1, tg, na))) (ho : amOwnL tg = some (own, mL)) (hst : st = as.reverse ++ rest) (hn : na.toNat = as.length) (hcat : ∀ v ∈ as, v.category = 1) (hsum : amSum rest ≤ 8) (hc : Ca tg as hs (.inr E, hs', dc, ds)) (hh : amHand M pc E = none) (he : o = (.inr E, hs', c + dc, s + ds)) : Ev M pc ls st hs c s o := by
  refine ev_call (x := (1, tg, na)) hf ?_ (fun n => by simp [amMore]) rfl ho (am_argsS (x := (1, tg, na)) (by show ¬ (1 = 0 ∨ 1 = 3); omega) hst hn hcat hsum) hc ⟨0, by subst he; simp [amBack, hh]⟩
  simp only [amStep]
  split
  · split <;> simp
  · rfl
/-- a virtual call that throws, caught: the handler puts the exception away -/
theorem ev_vh (as2 : List Value) {k tg own mL a dc ds E hp len2 : Nat} {j : Fin 4} {na : Int} {x2 : amRes} {rest fs : List Value} {hs' : amH} (hf : amFetch M pc = some (.invokevirtual k, len, (0, tg, na))) (ho : amOwnL tg = some (own, mL)) (hst : st = as2.reverse ++ .ref a :: rest) (hn : na.toNat = as2.length) (hcell : hs[a]? = some (.inr (own, fs))) (hcat : ∀ v ∈ as2, v.category = 1) (hsum : amSum rest ≤ 8) (hc : Ca tg (.ref a :: as2) hs (.inr E, hs', dc, ds)) (hh : amHand M pc E = some hp) (hfh : amFetch M hp = some (.astore_n j, len2, x2)) (kk : Ev M (hp + 1) (ls.set (j : Nat) none) [] hs' (c + dc) (s + ds) o) : Ev M pc ls st hs c s o := by
  obtain ⟨n, hn2⟩ := kk
  exact ev_call (x := (0, tg, na)) hf rfl (fun n => by simp only [amMore, if_true]) rfl ho (am_argsV (Or.inl rfl) hst hn hcell hcat hsum) hc ⟨n, by simp [amBack, hh, hfh, hn2]⟩
theorem ev_vhw (as2 : List Value) {k tg own mL a dc ds E hp len2 : Nat} {j : Nat} {na : Int} {x2 : amRes} {rest fs : List Value} {hs' : amH} (hf : amFetch M pc = some (.invokevirtual k, len, (0, tg, na))) (ho : amOwnL tg = some (own, mL)) (hst : st = as2.reverse ++ .ref a :: rest) (hn : na.toNat = as2.length) (hcell : hs[a]? = some (.inr (own, fs))) (hcat : ∀ v ∈ as2, v.category = 1) (hsum : amSum rest ≤ 8) (hc : Ca tg (.ref a :: as2) hs (.inr E, hs', dc, ds)) (hh : amHand M pc E = some hp) (hfh : amFetch M hp = some (.astore j, len2, x2)) (kk : Ev M (hp + 2) (ls.set j none) [] hs' (c + dc) (s + ds) o) : Ev M pc ls st hs c s o := by
  obtain ⟨n, hn2⟩ := kk
  exact ev_call (x := (0, tg, na)) hf rfl (fun n => by simp only [amMore, if_true]) rfl ho (am_argsV (Or.inl rfl) hst hn hcell hcat hsum) hc ⟨n, by simp [amBack, hh, hfh, hn2]⟩
end EV
