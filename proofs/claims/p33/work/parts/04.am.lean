theorem am_lookup {l : List amEnt} {pc : Nat} {v : Instr × Nat × amRes} (h : l.lookup pc = some v) : (pc, v) ∈ l := by
  induction l with
  | nil => cases h
  | cons a l ih =>
    obtain ⟨k, w⟩ := a
    rw [List.lookup_cons] at h
    by_cases e : pc = k
    · subst e
      simp at h
      subst h
      exact List.mem_cons_self
    · have e2 : (pc == k) = false := by simpa using e
      rw [e2] at h
      exact List.mem_cons_of_mem _ (ih h)
theorem amFetch_gen (all : List (amRow × List (List amEnt))) {M pc : Nat} {r : amRow × List (List amEnt)} {v : Instr × Nat × amRes} (hr : all[M]? = some r) (h : ((all[M]?).bind fun r => (r.2[pc / 64]?).bind fun q => q.lookup pc) = some v) : ∃ l ∈ r.2, (pc, v) ∈ l := by
  rw [hr] at h
  simp only [Option.bind_some] at h
  cases hq : r.2[pc / 64]? with
  | none => rw [hq] at h; cases h
  | some q =>
    rw [hq] at h
    exact ⟨q, List.mem_of_getElem? hq, am_lookup h⟩
theorem amFetch_mem {M pc : Nat} {r : amRow × List (List amEnt)} {v : Instr × Nat × amRes} (hr : amAll[M]? = some r) (h : amFetch M pc = some v) : ∃ l ∈ r.2, (pc, v) ∈ l := amFetch_gen amAll hr h
theorem amDecK_use {bb : ByteArray} {l : List amEnt} {pc : Nat} {i : Instr} {len : Nat} {x : amRes} (h : amDecK bb l) (hm : (pc, i, len, x) ∈ l) : decode bb pc = .ok (i, len) := by
  unfold amDecK at h
  have h2 := h (pc, i, len, x) hm
  exact h2
theorem amFetch_dgen (all : List (amRow × List (List amEnt))) (hall : ∀ r ∈ all, ∀ l ∈ r.2, amDecK r.1.2.2.1 l) {M pc : Nat} {r : amRow × List (List amEnt)} {i : Instr} {len : Nat} {x : amRes} (hr : all[M]? = some r) (h : ((all[M]?).bind fun r => (r.2[pc / 64]?).bind fun q => q.lookup pc) = some (i, len, x)) : decode r.1.2.2.1 pc = .ok (i, len) := by
  obtain ⟨l, hl, hm⟩ := amFetch_gen all hr h
  exact amDecK_use (hall r (List.mem_of_getElem? hr) l hl) hm
theorem amFetch_dec {M pc : Nat} {r : amRow × List (List amEnt)} {i : Instr} {len : Nat} {x : amRes} (hr : amAll[M]? = some r) (h : amFetch M pc = some (i, len, x)) : decode r.1.2.2.1 pc = .ok (i, len) := amFetch_dgen amAll amDecAll hr h
/-! the abstract machine: a world of numbered cells (cell 0: the script), one method at a time; by hand -/
abbrev amC : Type := (FieldType × Nat × ((Nat → Int32) ⊕ (Nat → Int64) ⊕ (Nat → Option Nat))) ⊕ (Nat × List Value)
abbrev amH : Type := List amC
abbrev amL : Type := List (Option Value)
abbrev amOut : Type := (Option Value ⊕ Nat) × amH × Nat × Nat
def amTgt (pc : Nat) (off : Int) : Nat := ((pc : Int) + off).toNat
def amIn (i : Int32) (n : Nat) : Bool := decide (¬ i < 0) && decide (i.toNatClampNeg < n)
def amIf0 (c : ClassFile.Cond) (v : Int32) (a b : Nat) : Nat := match c with
  | .eq => if v = 0 then a else b
  | .ne => if ¬ v = 0 then a else b
  | .lt => if v < 0 then a else b
  | .ge => if 0 ≤ v then a else b
  | .gt => if 0 < v then a else b
  | .le => if v ≤ 0 then a else b
def amIf2 (c : ClassFile.Cond) (x y : Int32) (a b : Nat) : Nat := match c with
  | .eq => if x = y then a else b
  | .ne => if ¬ x = y then a else b
  | .lt => if x < y then a else b
  | .ge => if y ≤ x then a else b
  | .gt => if y < x then a else b
  | .le => if x ≤ y then a else b
def amTT : Nat → Nat → String × String × String × Bool := fun ci k => match ci with
  | 0 => TX0 k
  | 1 => TX1 k
  | 2 => TX2 k
  | _ => TX3 k
def amTy : Nat → Nat → FieldType := fun ci k => match ci with
  | 0 => tyX0 k
  | 1 => tyX1 k
  | 2 => tyX2 k
  | _ => tyX3 k
def amNF : Nat → Nat := fun ci => match ci with
  | 0 => 3
  | 1 => 2
  | 2 => 6
  | 3 => 5
  | _ => 0
def amDef : Nat → List Value := fun ci => match ci with
  | 0 => [.null, .null, .int 0]
  | 1 => [.null, .null]
  | 2 => [.null, .null, .null, .null, .null, .int 0]
  | 3 => [.null, .null, .null, .null, .null]
  | _ => []
/-- a value of the kind that a field of this type takes -/
def amFits (ty : FieldType) (v : Value) : Bool := match ty, v with
  | .int, .int _ => true
  | .array _, .ref _ => true
  | .object _, .ref _ => true
  | _, _ => false
def amSum (st : List Value) : Nat := (st.map fun v => v.category).sum
/-- one instruction that calls nothing and makes nothing -/
def amStep (i : Instr) (x : amRes) (pc : Nat) (ls : amL) (st : List Value) (hs : amH) : Option (Nat × amL × List Value × amH) := match i with
  | .iconst n => some (pc + 1, ls, .int (Int32.ofInt n) :: st, hs)
  | .bipush n => some (pc + 2, ls, .int (Int8.ofInt n).toInt32 :: st, hs)
  | .sipush n => some (pc + 3, ls, .int (Int16.ofInt n).toInt32 :: st, hs)
  | .lconst n => some (pc + 1, ls, .long (Int64.ofNat (n : Nat)) :: st, hs)
  | .ldc _ => if x.1 = 7 then some (pc + 2, ls, .int (Int32.ofInt x.2.2) :: st, hs) else none
  | .ldc2_w _ => if x.1 = 7 then some (pc + 3, ls, .long (Int64.ofInt x.2.2) :: st, hs) else none
  | .iload k => match ls[k]? with
    | some (some (.int v)) => some (pc + 2, ls, .int v :: st, hs)
    | _ => none
  | .iload_n k => match ls[(k : Nat)]? with
    | some (some (.int v)) => some (pc + 1, ls, .int v :: st, hs)
    | _ => none
  | .aload k => match ls[k]? with
    | some (some (.ref v)) => some (pc + 2, ls, .ref v :: st, hs)
    | _ => none
  | .aload_n k => match ls[(k : Nat)]? with
    | some (some (.ref v)) => some (pc + 1, ls, .ref v :: st, hs)
    | _ => none
  | .istore k => match st with
    | .int v :: st => some (pc + 2, ls.set k (some (.int v)), st, hs)
    | _ => none
  | .istore_n k => match st with
    | .int v :: st => some (pc + 1, ls.set (k : Nat) (some (.int v)), st, hs)
    | _ => none
  | .astore k => match st with
    | .ref v :: st => some (pc + 2, ls.set k (some (.ref v)), st, hs)
    | _ => none
  | .astore_n k => match st with
    | .ref v :: st => some (pc + 1, ls.set (k : Nat) (some (.ref v)), st, hs)
    | _ => none
  | .iinc k n => match ls[k]? with
    | some (some (.int v)) => some (pc + 3, ls.set k (some (.int (v + Int32.ofInt n))), st, hs)
    | _ => none
  | .iadd => match st with
    | .int b :: .int a :: st => some (pc + 1, ls, .int (a + b) :: st, hs)
    | _ => none
  | .isub => match st with
    | .int b :: .int a :: st => some (pc + 1, ls, .int (a - b) :: st, hs)
    | _ => none
  | .imul => match st with
    | .int b :: .int a :: st => some (pc + 1, ls, .int (a * b) :: st, hs)
    | _ => none
  | .iand => match st with
    | .int b :: .int a :: st => some (pc + 1, ls, .int (a &&& b) :: st, hs)
    | _ => none
  | .ior => match st with
    | .int b :: .int a :: st => some (pc + 1, ls, .int (a ||| b) :: st, hs)
    | _ => none
  | .idiv => match st with
    | .int b :: .int a :: st => if b = 0 then none else some (pc + 1, ls, .int (a / b) :: st, hs)
    | _ => none
  | .irem => match st with
    | .int b :: .int a :: st => if b = 0 then none else some (pc + 1, ls, .int (a - a / b * b) :: st, hs)
    | _ => none
  | .ishl => match st with
    | .int b :: .int a :: st => some (pc + 1, ls, .int (a <<< (b &&& 31)) :: st, hs)
    | _ => none
  | .ishr => match st with
    | .int b :: .int a :: st => some (pc + 1, ls, .int (a >>> (b &&& 31)) :: st, hs)
    | _ => none
  | .iushr => match st with
    | .int b :: .int a :: st => some (pc + 1, ls, .int (a.toUInt32 >>> (b.toUInt32 &&& Int32.toUInt32 31)).toInt32 :: st, hs)
    | _ => none
  | .ixor => match st with
    | .int b :: .int a :: st => some (pc + 1, ls, .int (a ^^^ b) :: st, hs)
    | _ => none
  | .lmul => match st with
    | .long b :: .long a :: st => some (pc + 1, ls, .long (a * b) :: st, hs)
    | _ => none
  | .land => match st with
    | .long b :: .long a :: st => some (pc + 1, ls, .long (a &&& b) :: st, hs)
    | _ => none
  | .lshr => match st with
    | .int b :: .long a :: st => some (pc + 1, ls, .long (a >>> (b.toInt64 &&& 63)) :: st, hs)
    | _ => none
  | .l2i => match st with
    | .long a :: st => some (pc + 1, ls, .int a.toInt32 :: st, hs)
    | _ => none
  | .i2l => match st with
    | .int a :: st => some (pc + 1, ls, .long a.toInt64 :: st, hs)
    | _ => none
  | .lcmp => match st with
    | .long b :: .long a :: st => some (pc + 1, ls, .int (lg_cmp a b) :: st, hs)
    | _ => none
  | .dup => match st with
    | v :: st => if v.category = 1 then some (pc + 1, ls, v :: v :: st, hs) else none
    | _ => none
  | .dup2 => match st with
    | v :: w :: st => if v.category = 1 ∧ w.category = 1 then some (pc + 1, ls, v :: w :: v :: w :: st, hs) else none
    | _ => none
  | .ifCond c off => match st with
    | .int v :: st => some (amIf0 c v (amTgt pc off) (pc + 3), ls, st, hs)
    | _ => none
  | .if_icmp c off => match st with
    | .int b :: .int a :: st => some (amIf2 c a b (amTgt pc off) (pc + 3), ls, st, hs)
    | _ => none
  | .goto off => some (amTgt pc off, ls, st, hs)
  | .tableswitch dflt lo hi offs => match st with
    | .int v :: st => if v.toInt < lo ∨ hi < v.toInt then some (amTgt pc dflt, ls, st, hs) else match offs[(v.toInt - lo).toNat]? with
      | some off => some (amTgt pc off, ls, st, hs)
      | none => none
    | _ => none
  | .getfield _ => match st with
    | .ref a :: st => match hs[a]? with
      | some (.inr (ci, fs)) => if ci = x.1 then match fs[x.2.1]? with
          | some v => some (pc + 3, ls, v :: st, hs)
          | none => none
        else none
      | _ => none
    | _ => none
  | .putfield _ => match st with
    | v :: .ref a :: st => match hs[a]? with
      | some (.inr (ci, fs)) => if ci = x.1 ∧ amFits (amTy x.1 x.2.1) v = true ∧ x.2.1 < fs.length then some (pc + 3, ls, st, hs.set a (.inr (ci, fs.set x.2.1 v))) else none
      | _ => none
    | _ => none
  | .arraylength => match st with
    | .ref a :: st => match hs[a]? with
      | some (.inl (_, n, _)) => some (pc + 1, ls, .int (Int32.ofNat n) :: st, hs)
      | _ => none
    | _ => none
  | .iaload => match st with
    | .int i :: .ref a :: st => match hs[a]? with
      | some (.inl (.int, n, .inl f)) => if amIn i n = true then some (pc + 1, ls, .int (f i.toNatClampNeg) :: st, hs) else none
      | _ => none
    | _ => none
  | .baload => match st with
    | .int i :: .ref a :: st => match hs[a]? with
      | some (.inl (.boolean, n, .inl f)) => if amIn i n = true then some (pc + 1, ls, .int (f i.toNatClampNeg) :: st, hs) else none
      | _ => none
    | _ => none
  | .laload => match st with
    | .int i :: .ref a :: st => match hs[a]? with
      | some (.inl (.long, n, .inr (.inl f))) => if amIn i n = true then some (pc + 1, ls, .long (f i.toNatClampNeg) :: st, hs) else none
      | _ => none
    | _ => none
  | .aaload => match st with
    | .int i :: .ref a :: st => match hs[a]? with
      | some (.inl (.object _, n, .inr (.inr f))) => if amIn i n = true then match f i.toNatClampNeg with
          | some k => some (pc + 1, ls, .ref k :: st, hs)
          | none => none
        else none
      | _ => none
    | _ => none
  | .iastore => match st with
    | .int v :: .int i :: .ref a :: st => match hs[a]? with
      | some (.inl (.int, n, .inl f)) => if amIn i n = true ∧ ¬ a = 0 then some (pc + 1, ls, st, hs.set a (.inl (.int, n, .inl (upd f i.toNatClampNeg v)))) else none
      | _ => none
    | _ => none
  | .bastore => match st with
    | .int v :: .int i :: .ref a :: st => match hs[a]? with
      | some (.inl (.boolean, n, .inl f)) => if amIn i n = true ∧ ¬ a = 0 then some (pc + 1, ls, st, hs.set a (.inl (.boolean, n, .inl (upd f i.toNatClampNeg (vp_nar .boolean v))))) else none
      | _ => none
    | _ => none
  | .lastore => match st with
    | .long v :: .int i :: .ref a :: st => match hs[a]? with
      | some (.inl (.long, n, .inr (.inl f))) => if amIn i n = true ∧ ¬ a = 0 then some (pc + 1, ls, st, hs.set a (.inl (.long, n, .inr (.inl (vp_updL f i.toNatClampNeg v))))) else none
      | _ => none
    | _ => none
  | .aastore => match st with
    | .ref v :: .int i :: .ref a :: st => match hs[a]?, hs[v]? with
      | some (.inl (.object C, n, .inr (.inr f))), some (.inr (ci, _)) => if amIn i n = true ∧ ¬ a = 0 ∧ ci < 4 ∧ C = amN ci then some (pc + 1, ls, st, hs.set a (.inl (.object C, n, .inr (.inr (va_up f i.toNatClampNeg (some v)))))) else none
      | _, _ => none
    | _ => none
  | .invokestatic _ => match st with
    | .int b :: .int a :: st => if amSum st ≤ 8 then (if x.1 = 4 then some (pc + 3, ls, .int (if a < b then b else a) :: st, hs) else if x.1 = 5 then some (pc + 3, ls, .int (if b < a then b else a) :: st, hs) else none) else none
    | _ => none
  | .invokespecial _ => match st with
    | .ref _ :: st => if x.1 = 6 ∧ amSum st ≤ 8 then some (pc + 3, ls, st, hs) else none
    | _ => none
  | _ => none
def amEntry (args : List Value) (n : Nat) : amL := args.map some ++ List.replicate (n - args.length) none
def amRowOf (M : Nat) : Option amRow := (amAll[M]?).map fun r => r.1
/-- which exception a place of the law's pool names -/
def amCat : Nat → Nat := fun k => match k with
  | 189 => 1
  | 109 => 2
  | 191 => 3
  | _ => 0
def amHand (M pc E : Nat) : Option Nat := (amRowOf M).bind fun r => (r.2.2.2.2.2.1.find? fun z => decide (z.1 ≤ pc) && decide (pc < z.2.1) && decide (amCat z.2.2.2 = E)).map fun z => z.2.2.1
/-- the callee's class, locals -/
def amOwnL (M : Nat) : Option (Nat × Nat) := (amRowOf M).map fun r => (r.1, r.2.2.2.1)
def amRetOk (M : Nat) (v : Int32) : Bool := match (amRowOf M).bind fun r => r.2.2.2.2.1 with
  | some ty => decide (narrow ty (.int v) = .int v)
  | none => false
def amThis (hs : amH) (v : Value) (ci : Nat) : Bool := match v with
  | .ref a => match hs[a]? with
    | some (.inr (c2, _)) => decide (c2 = ci)
    | _ => false
  | _ => false
/-- the arguments of a call off the stack: with the object for kinds 0 and 3 -/
def amArgs (x : amRes) (st : List Value) (hs : amH) (own : Nat) : Option (List Value × List Value) :=
  let k := if x.1 = 0 ∨ x.1 = 3 then x.2.2.toNat + 1 else x.2.2.toNat
  let as := (st.take k).reverse
  if as.length = k ∧ as.all (fun v => decide (v.category = 1)) = true ∧ amSum (st.drop k) ≤ 8 ∧ ((x.1 = 0 ∨ x.1 = 3) → (match as with | v :: _ => amThis hs v own | [] => false) = true) then some (as, st.drop k) else none
abbrev amRec : Type := Nat → Nat → amL → List Value → amH → Nat → Nat → Option amOut
def amBack (rec : amRec) (M : Nat) (x : amRes) (pc : Nat) (ls : amL) (rest : List Value) (c s : Nat) (o : Option amOut) : Option amOut := match o with
  | none => none
  | some (.inl v, hs', dc, ds) => rec M (pc + 3) ls (v.toList ++ rest) hs' (c + dc) (s + ds)
  | some (.inr E, hs', dc, ds) => if x.1 = 2 ∨ x.1 = 3 then none else match amHand M pc E with
    | none => some (.inr E, hs', c + dc, s + ds)
    | some h => match amFetch M h with
      | some (.astore k, _) => rec M (h + 2) (ls.set k none) [] hs' (c + dc) (s + ds)
      | some (.astore_n k, _) => rec M (h + 1) (ls.set (k : Nat) none) [] hs' (c + dc) (s + ds)
      | _ => none
def amCall (rec : amRec) (M : Nat) (x : amRes) (pc : Nat) (ls : amL) (st : List Value) (hs : amH) (c s : Nat) : Option amOut := match amOwnL x.2.1 with
  | none => none
  | some (own, mL) => match amArgs x st hs own with
    | none => none
    | some (as, rest) => if as.length ≤ mL then amBack rec M x pc ls rest c s (rec x.2.1 0 (amEntry as mL) [] hs 0 0) else none
def amMore (rec : amRec) (M : Nat) (i : Instr) (x : amRes) (pc : Nat) (ls : amL) (st : List Value) (hs : amH) (c s : Nat) : Option amOut := match i with
  | .ireturn => match st with
    | [.int v] => if amRetOk M v = true then some (.inl (some (.int v)), hs, c, s) else none
    | _ => none
  | .areturn => match st with
    | [.ref v] => some (.inl (some (.ref v)), hs, c, s)
    | _ => none
  | .return_ => match st with
    | [] => some (.inl none, hs, c, s)
    | _ => none
  | .new _ => if x.1 = 1 then (if amSum st ≤ 8 then some (.inr x.2.1, hs, c + 1, s + 6) else none)
    else rec M (pc + 3) ls (.ref hs.length :: st) (hs ++ [.inr (x.2.1, amDef x.2.1)]) (c + 1) (s + amNF x.2.1)
  | .newarray t => match st with
    | .int n :: st => if ¬ n < 0 ∧ n.toNatClampNeg ≤ 65536 then (match t with
        | .int => rec M (pc + 2) ls (.ref hs.length :: st) (hs ++ [.inl (.int, n.toNatClampNeg, .inl (fun _ => 0))]) (c + 1) (s + n.toNatClampNeg)
        | .boolean => rec M (pc + 2) ls (.ref hs.length :: st) (hs ++ [.inl (.boolean, n.toNatClampNeg, .inl (fun _ => 0))]) (c + 1) (s + n.toNatClampNeg)
        | _ => none) else none
    | _ => none
  | .anewarray _ => match st with
    | .int n :: st => if ¬ n < 0 ∧ n.toNatClampNeg ≤ 65536 ∧ x.2.1 = 2 then rec M (pc + 3) ls (.ref hs.length :: st) (hs ++ [.inl (.object (amN x.2.1), n.toNatClampNeg, .inr (.inr (fun _ => none)))]) (c + 1) (s + n.toNatClampNeg) else none
    | _ => none
  | .invokevirtual _ => if x.1 = 0 then amCall rec M x pc ls st hs c s else none
  | .invokestatic _ => if x.1 = 1 ∨ x.1 = 2 then amCall rec M x pc ls st hs c s else none
  | .invokespecial _ => if x.1 = 3 then amCall rec M x pc ls st hs c s else none
  | _ => none
def amRun : Nat → amRec
  | 0 => fun _ _ _ _ _ _ _ => none
  | n + 1 => fun M pc ls st hs c s => match amFetch M pc with
    | none => none
    | some (i, _, x) => match amStep i x pc ls st hs with
      | some (pc', ls', st', hs') => amRun n M pc' ls' st' hs' c s
      | none => amMore (amRun n) M i x pc ls st hs c s
/-! a call from its start: of a method with these arguments -/
def amDo (n M : Nat) (as : List Value) (hs : amH) : Option amOut := (amOwnL M).bind fun q => amRun n M 0 (amEntry as q.2) [] hs 0 0
