/-! one instruction of the abstract machine, on the machine; by hand -/
theorem amIn_in {i : Int32} {n : Nat} (h : amIn i n = true) : vp_in i n := by
  simp only [amIn, Bool.and_eq_true, decide_eq_true_eq] at h
  intro q
  rcases q with q | q
  · exact h.1 q
  · omega
theorem amK1 {D : va_G} {cl : List vw_C} {s : State} (hK : va_K D cl [] s) {cA : ClassId} {ty : FieldType} (h1 : ArrOfT s cA ty) (h2 : va_RA s cA ty) : va_K D cl [(cA, ty)] s := by
  refine ⟨hK.1, fun k q hk => ?_⟩
  have hz : k < 1 := (List.getElem?_eq_some_iff.mp hk).1
  rw [show k = 0 by omega] at hk
  cases hk
  exact ⟨h1, h2⟩
theorem amFits_ok {σ : List Nat} {ty : FieldType} {v w : Value} (h : amFits ty v = true) (hv : amVR σ v w) : narrow ty w = w ∧ fits ty w = true := by
  cases ty <;> cases v <;> simp [amFits] at h
  · rw [amVR_int hv]; exact ⟨rfl, rfl⟩
  · obtain ⟨a, -, rfl⟩ := amVR_ref hv; exact ⟨rfl, rfl⟩
  · obtain ⟨a, -, rfl⟩ := amVR_ref hv; exact ⟨rfl, rfl⟩
def amNcs : List (String × String) := [(amX 1, amX 2), (amX 1, amX 3), (amX 2, amX 1), (amX 2, amX 3), (amX 3, amX 1), (amX 3, amX 2)]
def amBad : List Cond := [.castable (amX 1) (amX 1), .castable (amX 2) (amX 2), .castable (amX 3) (amX 3), .declares (Bundle.initS "java/lang/RuntimeException"), .declares (Bundle.initS "java/lang/Exception"), .declares (Bundle.initS Bundle.tN)]
def amAmb (A : Nat → Prop) (s : State) : Prop := vx_Zq Bundle.tN "UNASSIGNED_STACK" Bundle.steD A s s.heap ∧ vx_Zq Bundle.tN "SUPPRESSED_SENTINEL" Bundle.listD A s s.heap ∧ (∀ q ∈ amStrs, ∃ sa, vk_R q.1 q.2.1 q.2.2 sa s) ∧ (∀ q ∈ amNcs, va_Nc q.1 q.2 s) ∧ (∀ w ∈ amNests, va_Nw w s) ∧ va_AO RX2 s ∧ (∀ w ∈ amBad, va_Nw w s)
def amFr (p : Program) (l : Launch) (s : State) (m : MethodId) (args : Array Value) (meth : Method) (cd : Code) (r : amRow) (D : va_G) (A : Nat → Prop) (b L : Nat) (xs : Nat → Int32) : Prop :=
  p.tables.exec = Jvm.exec ∧ cd.code = r.2.2.1 ∧ cd.maxLocals = r.2.2.2.1 ∧ s.vm.findClass (amN r.1) = some m.cls ∧ (∀ w ∈ amTB, w.before args s = true) ∧ meth.sig.returnType = r.2.2.2.2.1 ∧ meth.locks = false ∧ cd.exceptionTable.toList = tableOf r.2.2.2.2.2.1 ∧ (r.2.1.name = "<init>" → meth.name = "<init>") ∧ va_K D vwCl [] s ∧ va_X b L xs s s.heap ∧ b < s.heap.size ∧ ¬ A b ∧ (∀ q, s.heap.size ≤ q → A q) ∧ amAmb A s ∧ l.stackTraces = false
def amDy (s : State) (D : va_G) (A : Nat → Prop) (σ : List Nat) (hs : amH) (ws : va_W) (H : Heap) (locs : List Loc) (b L : Nat) (xs : Nat → Int32) : Prop :=
  va_P D vwCl ws H ∧ va_D A ws ∧ va_S A s.heap H locs ∧ amWR s σ hs ws ∧ hs[0]? = some (.inl (.int, L, .inl xs)) ∧ σ[0]? = some b
theorem amFetch_chk_gen (all : List (amRow × List (List amEnt))) (hall : ∀ r ∈ all, ∀ l ∈ r.2, amChkK r.1 l) {M pc : Nat} {r : amRow × List (List amEnt)} {v : Instr × Nat × amRes} (hr : all[M]? = some r) (h : ((all[M]?).bind fun r => (r.2[pc / 64]?).bind fun q => q.lookup pc) = some v) : amChk r.1 (pc, v) = true := by
  obtain ⟨l, hl, hm⟩ := amFetch_gen all hr h
  have h1 := hall r (List.mem_of_getElem? hr) l hl
  unfold amChkK at h1
  exact List.all_eq_true.mp h1 _ hm
theorem amFetch_chk {M pc : Nat} {r : amRow × List (List amEnt)} {v : Instr × Nat × amRes} (hr : amAll[M]? = some r) (h : amFetch M pc = some v) : amChk r.1 (pc, v) = true := amFetch_chk_gen amAll amChkAll hr h
theorem am_tgt {pc : Nat} {off : Int} (h : 0 ≤ (pc : Int) + off) : (pc : Int) + off = (amTgt pc off : Int) := by unfold amTgt; omega
section AMR
variable {p : Program} {l : Launch} {e : Env} {R : Room} {s : State} {m : MethodId} {args : Array Value} {below : List Frame} {meth : Method} {c : Code} {H : Heap} {locs : List Loc} {cells slots : Nat} {Q : State → Prop}
variable {cc : ByteArray} {pc : Nat} {ls : Array Slot} {rest : List Value}
theorem aw_istore (hexec : p.tables.exec = Jvm.exec) (hb : c.code = cc) {i : Nat} {x : Int32} {ls' : Array Slot} (hdg : decode cc pc = .ok (.istore i, 2)) (e' : storeLocals ls i (.int x) = some ls') (kk : W p l e R s m args below meth c H locs cells slots Q (F0 m (pc + 2) ls' rest)) : W p l e R s m args below meth c H locs cells slots Q (F0 m pc ls (.int x :: rest)) := by
  intro T hT X
  obtain ⟨t, a, b⟩ := kk T hT X
  refine ⟨t, ?_, b⟩
  jvm_step X.here [X.here.top, ↓top_set X.here.top, hexec, hb, hdg, e']
  exact a
theorem aw_istore_n (hexec : p.tables.exec = Jvm.exec) (hb : c.code = cc) {i : Fin 4} {x : Int32} {ls' : Array Slot} (hdg : decode cc pc = .ok (.istore_n i, 1)) (e' : storeLocals ls (i : Nat) (.int x) = some ls') (kk : W p l e R s m args below meth c H locs cells slots Q (F0 m (pc + 1) ls' rest)) : W p l e R s m args below meth c H locs cells slots Q (F0 m pc ls (.int x :: rest)) := by
  intro T hT X
  obtain ⟨t, a, b⟩ := kk T hT X
  refine ⟨t, ?_, b⟩
  jvm_step X.here [X.here.top, ↓top_set X.here.top, hexec, hb, hdg, e']
  exact a
theorem aw_astore (hexec : p.tables.exec = Jvm.exec) (hb : c.code = cc) {i : Nat} {x : Nat} {ls' : Array Slot} (hdg : decode cc pc = .ok (.astore i, 2)) (e' : storeLocals ls i (.ref x) = some ls') (kk : W p l e R s m args below meth c H locs cells slots Q (F0 m (pc + 2) ls' rest)) : W p l e R s m args below meth c H locs cells slots Q (F0 m pc ls (.ref x :: rest)) := by
  intro T hT X
  obtain ⟨t, a, b⟩ := kk T hT X
  refine ⟨t, ?_, b⟩
  jvm_step X.here [X.here.top, ↓top_set X.here.top, hexec, hb, hdg, e', Value.isRef]
  exact a
theorem aw_astore_n (hexec : p.tables.exec = Jvm.exec) (hb : c.code = cc) {i : Fin 4} {x : Nat} {ls' : Array Slot} (hdg : decode cc pc = .ok (.astore_n i, 1)) (e' : storeLocals ls (i : Nat) (.ref x) = some ls') (kk : W p l e R s m args below meth c H locs cells slots Q (F0 m (pc + 1) ls' rest)) : W p l e R s m args below meth c H locs cells slots Q (F0 m pc ls (.ref x :: rest)) := by
  intro T hT X
  obtain ⟨t, a, b⟩ := kk T hT X
  refine ⟨t, ?_, b⟩
  jvm_step X.here [X.here.top, ↓top_set X.here.top, hexec, hb, hdg, e', Value.isRef]
  exact a
theorem aw_iinc (hexec : p.tables.exec = Jvm.exec) (hb : c.code = cc) {i : Nat} {n : Int} {x : Int32} {ls' : Array Slot} (hdg : decode cc pc = .ok (.iinc i n, 3)) (hg : ls[i]? = some (.val (.int x))) (e' : storeLocals ls i (.int (x + Int32.ofInt n)) = some ls') (kk : W p l e R s m args below meth c H locs cells slots Q (F0 m (pc + 3) ls' rest)) : W p l e R s m args below meth c H locs cells slots Q (F0 m pc ls rest) := by
  intro T hT X
  obtain ⟨t, a, b⟩ := kk T hT X
  refine ⟨t, ?_, b⟩
  jvm_step X.here [X.here.top, ↓top_set X.here.top, hexec, hb, hdg, hg, e']
  exact a
end AMR
theorem amDy_set {s : State} {D : va_G} {A : Nat → Prop} {σ : List Nat} {hs : amH} {ws : va_W} {H H1 : Heap} {locs locs1 : List Loc} {b L : Nat} {xs : Nat → Int32} (Y : amDy s D A σ hs ws H locs b L xs) {a k : Nat} {c : amC} {e e0 : va_E} (hk : k ≠ 0) (hw : ws[k - 1]? = some (a, e0)) (hc : amCR s σ c e) (hP : va_P D vwCl (ws.set (k - 1) (a, e)) H1) (hD : va_D A (ws.set (k - 1) (a, e))) (hS : va_S A s.heap H1 locs1) : amDy s D A σ (hs.set k c) (ws.set (k - 1) (a, e)) H1 locs1 b L xs := by
  obtain ⟨y1, y2, y3, y4, y5, y6⟩ := Y
  have h := amWR_set y4 hw hc
  rw [show k - 1 + 1 = k by omega] at h
  exact ⟨hP, hD, hS, h, by rw [List.getElem?_set_ne hk]; exact y5, y6⟩
set_option maxHeartbeats 4000000 in
set_option maxRecDepth 100000 in
theorem amStep_ok {p : Program} {l : Launch} {e : Env} {R : Room} {s : State} {m : MethodId} {args : Array Value} {below : List Frame} {meth : Method} {cd : Code} {H : Heap} {locs : List Loc} {cells slots : Nat} {Q : State → Prop} {D : va_G} {A : Nat → Prop} {b L : Nat} {xs : Nat → Int32} {M : Nat} {r : amRow × List (List amEnt)} {σ : List Nat} {ws : va_W} {cls : Array Slot} {cst : List Value} {i : Instr} {len : Nat} {x : amRes} {pc pc' : Nat} {ls ls' : amL} {st st' : List Value} {hs hs' : amH}
    (F : amFr p l s m args meth cd r.1 D A b L xs) (hr : amAll[M]? = some r) (hf : amFetch M pc = some (i, len, x)) (h : amStep i x pc ls st hs = some (pc', ls', st', hs')) (Y : amDy s D A σ hs ws H locs b L xs) (hl : amLR σ ls r.1.2.2.2.1 cls) (hst : amSR σ st cst) (hRf : r.1.2.2.2.2.2.2.1 ≤ R.frames) (hRl : r.1.2.2.2.2.2.2.2 ≤ R.locals) (hRc : cells ≤ R.cells) (hRs : slots ≤ R.slots)
    (kk : ∀ (ws' : va_W) (H' : Heap) (locs' : List Loc) (cls' : Array Slot) (cst' : List Value), amDy s D A σ hs' ws' H' locs' b L xs → amLR σ ls' r.1.2.2.2.1 cls' → amSR σ st' cst' → W p l e R s m args below meth cd H' locs' cells slots Q (F0 m pc' cls' cst')) : W p l e R s m args below meth cd H locs cells slots Q (F0 m pc cls cst) := by
  have hd := amFetch_dec hr hf
  have hc := amFetch_chk hr hf
  obtain ⟨hx, hb, hml, hown, hts, hret, hlocks, htab, hinit, hK, hX, hbl, hbA, hA, hamb, hfl⟩ := id F
  have Y0 := Y
  obtain ⟨hP, hD, hS, hWR, hs0, hσ0⟩ := Y
  obtain ⟨hl1, hl2, hl3, hl4⟩ := id hl
  cases i with
  | iconst n =>
    simp only [amStep] at h
    cases h
    simp only [amChk, decide_eq_true_eq] at hc
    subst hc
    exact lv_iconst hx hb hd rfl (kk _ _ _ _ _ Y0 hl (amSR_mk rfl hst))
  | bipush n =>
    simp only [amStep] at h
    cases h
    simp only [amChk, decide_eq_true_eq] at hc
    subst hc
    exact lv_bipush hx hb hd rfl (kk _ _ _ _ _ Y0 hl (amSR_mk rfl hst))
  | sipush n =>
    simp only [amStep] at h
    cases h
    simp only [amChk, decide_eq_true_eq] at hc
    subst hc
    exact lv_sipush hx hb hd rfl (kk _ _ _ _ _ Y0 hl (amSR_mk rfl hst))
  | lconst n =>
    simp only [amStep] at h
    cases h
    simp only [amChk, decide_eq_true_eq] at hc
    subst hc
    exact lv_lconst hx hb hd rfl (kk _ _ _ _ _ Y0 hl (amSR_mk rfl hst))
  | ldc k =>
    simp only [amStep] at h
    split at h
    · rename_i hx3
      cases h
      simp only [amChk, Bool.and_eq_true, Bool.or_eq_true, decide_eq_true_eq, hx3, ne_eq, not_true_eq_false, false_or] at hc
      obtain ⟨rfl, hc⟩ := hc
      exact lv_ldc hx hb hown (hts _ (amCstOk _ hc)) hd (kk _ _ _ _ _ Y0 hl (amSR_mk rfl hst))
    · cases h
  | ldc2_w k =>
    simp only [amStep] at h
    split at h
    · rename_i hx3
      cases h
      simp only [amChk, Bool.and_eq_true, Bool.or_eq_true, decide_eq_true_eq, hx3, ne_eq, not_true_eq_false, false_or] at hc
      obtain ⟨rfl, hc⟩ := hc
      exact lv_ldc2 hx hb hown (hts _ (amCs2Ok _ hc)) hd (kk _ _ _ _ _ Y0 hl (amSR_mk rfl hst))
    · cases h
  | iload k =>
    simp only [amStep] at h
    split at h
    · rename_i v hk
      cases h
      simp only [amChk, decide_eq_true_eq] at hc
      subst hc
      obtain ⟨w, h1, -, h3⟩ := hl4 _ _ hk
      rw [amVR_int h1] at h3
      exact lv_iload hx hb hd h3 (kk _ _ _ _ _ Y0 hl (amSR_mk rfl hst))
    · cases h
  | iload_n k =>
    simp only [amStep] at h
    split at h
    · rename_i v hk
      cases h
      simp only [amChk, decide_eq_true_eq] at hc
      subst hc
      obtain ⟨w, h1, -, h3⟩ := hl4 _ _ hk
      rw [amVR_int h1] at h3
      exact lv_iload_n hx hb hd rfl h3 (kk _ _ _ _ _ Y0 hl (amSR_mk rfl hst))
    · cases h
  | aload k =>
    simp only [amStep] at h
    split at h
    · rename_i v hk
      cases h
      simp only [amChk, decide_eq_true_eq] at hc
      subst hc
      obtain ⟨w, h1, -, h3⟩ := hl4 _ _ hk
      obtain ⟨a, h4, rfl⟩ := amVR_ref h1
      exact lv_aload hx hb hd h3 (kk _ _ _ _ _ Y0 hl (amSR_mk h1 hst))
    · cases h
  | aload_n k =>
    simp only [amStep] at h
    split at h
    · rename_i v hk
      cases h
      simp only [amChk, decide_eq_true_eq] at hc
      subst hc
      obtain ⟨w, h1, -, h3⟩ := hl4 _ _ hk
      obtain ⟨a, h4, rfl⟩ := amVR_ref h1
      exact lv_aload_n hx hb hd rfl h3 (kk _ _ _ _ _ Y0 hl (amSR_mk h1 hst))
    · cases h
  | istore k =>
    simp only [amStep] at h
    split at h
    · cases h
      simp only [amChk, Bool.and_eq_true, decide_eq_true_eq] at hc
      obtain ⟨rfl, hc⟩ := hc
      obtain ⟨c2, rfl, hst2⟩ := amSR_int hst
      obtain ⟨l2, e2, hl9⟩ := amLR_set hl hc (v := .int _) rfl rfl
      exact aw_istore hx hb hd e2 (kk _ _ _ _ _ Y0 hl9 hst2)
    · cases h
  | istore_n k =>
    simp only [amStep] at h
    split at h
    · cases h
      simp only [amChk, Bool.and_eq_true, decide_eq_true_eq] at hc
      obtain ⟨rfl, hc⟩ := hc
      obtain ⟨c2, rfl, hst2⟩ := amSR_int hst
      obtain ⟨l2, e2, hl9⟩ := amLR_set hl hc (v := .int _) rfl rfl
      exact aw_istore_n hx hb hd e2 (kk _ _ _ _ _ Y0 hl9 hst2)
    · cases h
  | astore k =>
    simp only [amStep] at h
    split at h
    · cases h
      simp only [amChk, Bool.and_eq_true, decide_eq_true_eq] at hc
      obtain ⟨rfl, hc⟩ := hc
      obtain ⟨a, c2, rfl, ha, hst2⟩ := amSR_ref hst
      obtain ⟨l2, e2, hl9⟩ := amLR_set hl hc (v := .ref _) ⟨a, ha, rfl⟩ rfl
      exact aw_astore hx hb hd e2 (kk _ _ _ _ _ Y0 hl9 hst2)
    · cases h
  | astore_n k =>
    simp only [amStep] at h
    split at h
    · cases h
      simp only [amChk, Bool.and_eq_true, decide_eq_true_eq] at hc
      obtain ⟨rfl, hc⟩ := hc
      obtain ⟨a, c2, rfl, ha, hst2⟩ := amSR_ref hst
      obtain ⟨l2, e2, hl9⟩ := amLR_set hl hc (v := .ref _) ⟨a, ha, rfl⟩ rfl
      exact aw_astore_n hx hb hd e2 (kk _ _ _ _ _ Y0 hl9 hst2)
    · cases h
  | iinc k n =>
    simp only [amStep] at h
    split at h
    · rename_i v hk
      cases h
      simp only [amChk, Bool.and_eq_true, decide_eq_true_eq] at hc
      obtain ⟨rfl, hc⟩ := hc
      obtain ⟨w, h1, -, h3⟩ := hl4 _ _ hk
      rw [amVR_int h1] at h3
      obtain ⟨l2, e2, hl9⟩ := amLR_set hl hc (v := .int (v + Int32.ofInt n)) rfl rfl
      exact aw_iinc hx hb hd h3 e2 (kk _ _ _ _ _ Y0 hl9 hst)
    · cases h
  | iadd =>
    simp only [amStep] at h
    split at h
    · cases h
      simp only [amChk, decide_eq_true_eq] at hc
      subst hc
      obtain ⟨c2, rfl, hst2⟩ := amSR_int hst
      obtain ⟨c3, rfl, hst3⟩ := amSR_int hst2
      exact lv_iadd hx hb hd (kk _ _ _ _ _ Y0 hl (amSR_mk rfl hst3))
    · cases h
  | isub =>
    simp only [amStep] at h
    split at h
    · cases h
      simp only [amChk, decide_eq_true_eq] at hc
      subst hc
      obtain ⟨c2, rfl, hst2⟩ := amSR_int hst
      obtain ⟨c3, rfl, hst3⟩ := amSR_int hst2
      exact lv_isub hx hb hd (kk _ _ _ _ _ Y0 hl (amSR_mk rfl hst3))
    · cases h
  | imul =>
    simp only [amStep] at h
    split at h
    · cases h
      simp only [amChk, decide_eq_true_eq] at hc
      subst hc
      obtain ⟨c2, rfl, hst2⟩ := amSR_int hst
      obtain ⟨c3, rfl, hst3⟩ := amSR_int hst2
      exact lv_imul hx hb hd (kk _ _ _ _ _ Y0 hl (amSR_mk rfl hst3))
    · cases h
  | iand =>
    simp only [amStep] at h
    split at h
    · cases h
      simp only [amChk, decide_eq_true_eq] at hc
      subst hc
      obtain ⟨c2, rfl, hst2⟩ := amSR_int hst
      obtain ⟨c3, rfl, hst3⟩ := amSR_int hst2
      exact lv_iand hx hb hd (kk _ _ _ _ _ Y0 hl (amSR_mk rfl hst3))
    · cases h
  | ior =>
    simp only [amStep] at h
    split at h
    · cases h
      simp only [amChk, decide_eq_true_eq] at hc
      subst hc
      obtain ⟨c2, rfl, hst2⟩ := amSR_int hst
      obtain ⟨c3, rfl, hst3⟩ := amSR_int hst2
      exact lv_ior hx hb hd (kk _ _ _ _ _ Y0 hl (amSR_mk rfl hst3))
    · cases h
  | idiv =>
    simp only [amStep] at h
    split at h
    · split at h
      · cases h
      · rename_i hne
        cases h
        simp only [amChk, decide_eq_true_eq] at hc
        subst hc
        obtain ⟨c2, rfl, hst2⟩ := amSR_int hst
        obtain ⟨c3, rfl, hst3⟩ := amSR_int hst2
        exact lv_idiv hx hb hd hne (kk _ _ _ _ _ Y0 hl (amSR_mk rfl hst3))
    · cases h
  | irem =>
    simp only [amStep] at h
    split at h
    · split at h
      · cases h
      · rename_i hne
        cases h
        simp only [amChk, decide_eq_true_eq] at hc
        subst hc
        obtain ⟨c2, rfl, hst2⟩ := amSR_int hst
        obtain ⟨c3, rfl, hst3⟩ := amSR_int hst2
        exact lv_irem hx hb hd hne (kk _ _ _ _ _ Y0 hl (amSR_mk rfl hst3))
    · cases h
  | ishl =>
    simp only [amStep] at h
    split at h
    · cases h
      simp only [amChk, decide_eq_true_eq] at hc
      subst hc
      obtain ⟨c2, rfl, hst2⟩ := amSR_int hst
      obtain ⟨c3, rfl, hst3⟩ := amSR_int hst2
      exact lv_ishl hx hb hd (kk _ _ _ _ _ Y0 hl (amSR_mk rfl hst3))
    · cases h
  | ishr =>
    simp only [amStep] at h
    split at h
    · cases h
      simp only [amChk, decide_eq_true_eq] at hc
      subst hc
      obtain ⟨c2, rfl, hst2⟩ := amSR_int hst
      obtain ⟨c3, rfl, hst3⟩ := amSR_int hst2
      exact lv_ishr hx hb hd (kk _ _ _ _ _ Y0 hl (amSR_mk rfl hst3))
    · cases h
  | iushr =>
    simp only [amStep] at h
    split at h
    · cases h
      simp only [amChk, decide_eq_true_eq] at hc
      subst hc
      obtain ⟨c2, rfl, hst2⟩ := amSR_int hst
      obtain ⟨c3, rfl, hst3⟩ := amSR_int hst2
      exact lv_iushr hx hb hd rfl (kk _ _ _ _ _ Y0 hl (amSR_mk rfl hst3))
    · cases h
  | ixor =>
    simp only [amStep] at h
    split at h
    · cases h
      simp only [amChk, decide_eq_true_eq] at hc
      subst hc
      obtain ⟨c2, rfl, hst2⟩ := amSR_int hst
      obtain ⟨c3, rfl, hst3⟩ := amSR_int hst2
      exact lv_ixor hx hb hd (kk _ _ _ _ _ Y0 hl (amSR_mk rfl hst3))
    · cases h
  | lmul =>
    simp only [amStep] at h
    split at h
    · cases h
      simp only [amChk, decide_eq_true_eq] at hc
      subst hc
      obtain ⟨c2, rfl, hst2⟩ := amSR_long hst
      obtain ⟨c3, rfl, hst3⟩ := amSR_long hst2
      exact lv_lmul hx hb hd (kk _ _ _ _ _ Y0 hl (amSR_mk rfl hst3))
    · cases h
  | land =>
    simp only [amStep] at h
    split at h
    · cases h
      simp only [amChk, decide_eq_true_eq] at hc
      subst hc
      obtain ⟨c2, rfl, hst2⟩ := amSR_long hst
      obtain ⟨c3, rfl, hst3⟩ := amSR_long hst2
      exact lv_land hx hb hd (kk _ _ _ _ _ Y0 hl (amSR_mk rfl hst3))
    · cases h
  | lshr =>
    simp only [amStep] at h
    split at h
    · cases h
      simp only [amChk, decide_eq_true_eq] at hc
      subst hc
      obtain ⟨c2, rfl, hst2⟩ := amSR_int hst
      obtain ⟨c3, rfl, hst3⟩ := amSR_long hst2
      exact lv_lshr hx hb hd rfl (kk _ _ _ _ _ Y0 hl (amSR_mk rfl hst3))
    · cases h
  | l2i =>
    simp only [amStep] at h
    split at h
    · cases h
      simp only [amChk, decide_eq_true_eq] at hc
      subst hc
      obtain ⟨c2, rfl, hst2⟩ := amSR_long hst
      exact lv_l2i hx hb hd rfl (kk _ _ _ _ _ Y0 hl (amSR_mk rfl hst2))
    · cases h
  | i2l =>
    simp only [amStep] at h
    split at h
    · cases h
      simp only [amChk, decide_eq_true_eq] at hc
      subst hc
      obtain ⟨c2, rfl, hst2⟩ := amSR_int hst
      exact lv_i2l hx hb hd rfl (kk _ _ _ _ _ Y0 hl (amSR_mk rfl hst2))
    · cases h
  | lcmp =>
    simp only [amStep] at h
    split at h
    · cases h
      simp only [amChk, decide_eq_true_eq] at hc
      subst hc
      obtain ⟨c2, rfl, hst2⟩ := amSR_long hst
      obtain ⟨c3, rfl, hst3⟩ := amSR_long hst2
      exact W.lcmp hx hb hd (kk _ _ _ _ _ Y0 hl (amSR_mk rfl hst3))
    · cases h
  | dup =>
    simp only [amStep] at h
    split at h
    · split at h
      · rename_i hcat
        cases h
        simp only [amChk, decide_eq_true_eq] at hc
        subst hc
        obtain ⟨w, c2, rfl, h1, hst2⟩ := amSR_cons hst
        exact lv_dup hx hb hd (by rw [amVR_cat h1]; exact hcat) (kk _ _ _ _ _ Y0 hl (amSR_mk h1 hst))
      · cases h
    · cases h
  | dup2 =>
    simp only [amStep] at h
    split at h
    · split at h
      · rename_i hcat
        cases h
        simp only [amChk, decide_eq_true_eq] at hc
        subst hc
        obtain ⟨w, c2, rfl, h1, hst2⟩ := amSR_cons hst
        obtain ⟨w2, c3, rfl, h2, hst3⟩ := amSR_cons hst2
        exact lv_dup2_11 hx hb hd (by rw [amVR_cat h1]; exact hcat.1) (by rw [amVR_cat h2]; exact hcat.2) (kk _ _ _ _ _ Y0 hl (amSR_mk h1 (amSR_mk h2 hst)))
      · cases h
    · cases h
  | ifCond cnd off =>
    simp only [amStep] at h
    split at h
    · cases h
      simp only [amChk, Bool.and_eq_true, decide_eq_true_eq] at hc
      obtain ⟨rfl, hc⟩ := hc
      obtain ⟨c2, rfl, hst2⟩ := amSR_int hst
      have k1 := kk _ _ _ _ _ Y0 hl hst2
      cases cnd
      · exact lv_if_eq hx hb hd (am_tgt hc) (fun q => by simpa only [amIf0, if_pos q] using k1) (fun q => by simpa only [amIf0, if_neg q] using k1)
      · exact lv_if_ne hx hb hd (am_tgt hc) (fun q => by simpa only [amIf0, if_pos q] using k1) (fun q => by simpa only [amIf0, if_neg (not_not_intro q)] using k1)
      · exact lv_if_lt hx hb hd (am_tgt hc) (fun q => by simpa only [amIf0, if_pos q] using k1) (fun q => by simpa only [amIf0, if_neg q] using k1)
      · exact lv_if_ge hx hb hd (am_tgt hc) (fun q => by simpa only [amIf0, if_pos q] using k1) (fun q => by simpa only [amIf0, if_neg q] using k1)
      · exact lv_if_gt hx hb hd (am_tgt hc) (fun q => by simpa only [amIf0, if_pos q] using k1) (fun q => by simpa only [amIf0, if_neg q] using k1)
      · exact lv_if_le hx hb hd (am_tgt hc) (fun q => by simpa only [amIf0, if_pos q] using k1) (fun q => by simpa only [amIf0, if_neg q] using k1)
    · cases h
  | if_icmp cnd off =>
    simp only [amStep] at h
    split at h
    · cases h
      simp only [amChk, Bool.and_eq_true, decide_eq_true_eq] at hc
      obtain ⟨rfl, hc⟩ := hc
      obtain ⟨c2, rfl, hst2⟩ := amSR_int hst
      obtain ⟨c3, rfl, hst3⟩ := amSR_int hst2
      have k1 := kk _ _ _ _ _ Y0 hl hst3
      cases cnd
      · exact lv_icmp_eq hx hb hd (am_tgt hc) (fun q => by simpa only [amIf2, if_pos q] using k1) (fun q => by simpa only [amIf2, if_neg q] using k1)
      · exact lv_icmp_ne hx hb hd (am_tgt hc) (fun q => by simpa only [amIf2, if_pos q] using k1) (fun q => by simpa only [amIf2, if_neg (not_not_intro q)] using k1)
      · exact lv_icmp_lt hx hb hd (am_tgt hc) (fun q => by simpa only [amIf2, if_pos q] using k1) (fun q => by simpa only [amIf2, if_neg q] using k1)
      · exact lv_icmp_ge hx hb hd (am_tgt hc) (fun q => by simpa only [amIf2, if_pos q] using k1) (fun q => by simpa only [amIf2, if_neg q] using k1)
      · exact lv_icmp_gt hx hb hd (am_tgt hc) (fun q => by simpa only [amIf2, if_pos q] using k1) (fun q => by simpa only [amIf2, if_neg q] using k1)
      · exact lv_icmp_le hx hb hd (am_tgt hc) (fun q => by simpa only [amIf2, if_pos q] using k1) (fun q => by simpa only [amIf2, if_neg q] using k1)
    · cases h
  | goto off =>
    simp only [amStep] at h
    cases h
    simp only [amChk, Bool.and_eq_true, decide_eq_true_eq] at hc
    obtain ⟨rfl, hc⟩ := hc
    exact lv_goto hx hb hd (am_tgt hc) (kk _ _ _ _ _ Y0 hl hst)
  | tableswitch dflt lo hi offs =>
    simp only [amStep] at h
    split at h
    · simp only [amChk, Bool.and_eq_true, decide_eq_true_eq, Array.all_eq_true] at hc
      obtain ⟨c2, rfl, hst2⟩ := amSR_int hst
      split at h
      · rename_i hq
        cases h
        exact lv_tableOut hx hb hd hq (am_tgt hc.1) (kk _ _ _ _ _ Y0 hl hst2)
      · rename_i hq
        split at h
        · rename_i off ho
          cases h
          have hin := Array.getElem?_eq_some_iff.mp ho
          obtain ⟨h1, h2⟩ := hin
          have h3 := hc.2 _ h1
          rw [h2] at h3
          exact lv_tableIn hx hb hd (fun z => hq (Or.inl z)) (fun z => hq (Or.inr z)) ho (am_tgt h3) (kk _ _ _ _ _ Y0 hl hst2)
        · cases h
    · cases h
  | getfield k =>
    simp only [amStep] at h
    split at h
    · rename_i a st2
      split at h
      · rename_i ci fs hcell
        split at h
        · rename_i hci
          split at h
          · rename_i v hv
            cases h
            simp only [amChk, Bool.and_eq_true, decide_eq_true_eq] at hc
            obtain ⟨rfl, hc⟩ := hc
            obtain ⟨f1, f2, f3⟩ := amFldOk _ hc
            obtain ⟨a1, c2, rfl, ha, hst2⟩ := amSR_ref hst
            have h0 : a ≠ 0 := fun z => by rw [z, hs0] at hcell; cases hcell
            obtain ⟨e1, hw, fs', rfl, hfs⟩ := amWR_get hWR hcell h0 ha
            obtain ⟨w, hw1, hw2⟩ := amSR_get hfs hv
            subst hci
            exact va_get hx hb hts (amU_all _ f3) hown hK hP (a - 1) hw (amCl_at _ f3) x.2.1 f2 (hts _ f1) (fun _ z => z) hw1 hd (kk _ _ _ _ _ Y0 hl (amSR_mk hw2 hst2))
          · cases h
        · cases h
      · cases h
    · cases h
  | putfield k =>
    simp only [amStep] at h
    split at h
    · rename_i v a st2
      split at h
      · rename_i ci fs hcell
        split at h
        · rename_i hq
          obtain ⟨hci, hfit, hlen⟩ := hq
          cases h
          simp only [amChk, Bool.and_eq_true, decide_eq_true_eq] at hc
          obtain ⟨⟨rfl, hc⟩, hfin⟩ := hc
          obtain ⟨f1, f2, f3⟩ := amFldOk _ hc
          obtain ⟨w, c1, rfl, hv, hst1⟩ := amSR_cons hst
          obtain ⟨a1, c2, rfl, ha, hst2⟩ := amSR_ref hst1
          have h0 : a ≠ 0 := fun z => by rw [z, hs0] at hcell; cases hcell
          obtain ⟨e1, hw, fs', rfl, hfs⟩ := amWR_get hWR hcell h0 ha
          subst hci
          obtain ⟨n1, n2⟩ := amFits_ok hfit hv
          have hlen2 : x.2.1 < fs'.length := by rw [amSR_len hfs]; exact hlen
          have kk2 : ∀ (H1 : Heap) (locs1 : List Loc), va_P D vwCl (ws.set (a - 1) (a1, .inr (x.1, fs'.set x.2.1 w))) H1 → va_D A (ws.set (a - 1) (a1, .inr (x.1, fs'.set x.2.1 w))) → va_S A s.heap H1 locs1 → W p l e R s m args below meth cd H1 locs1 cells slots Q (F0 m (pc + 3) cls c2) := fun H1 locs1 q1 q2 q3 =>
            kk _ _ _ _ _ (amDy_set Y0 h0 hw ⟨fs'.set x.2.1 w, rfl, amSR_set hfs hv⟩ q1 q2 q3) hl hst2
          cases hfn : amFinal x.1 x.2.1 with
          | false => exact va_put hx hb hts (amU_all _ f3) (amTy x.1) (amTy_ok _ f3) (amNm_ok _ f3) hown hK hP hD hS (a - 1) hw (amCl_at _ f3) x.2.1 f2 (hts _ f1) (fun _ z => z) hfn (amTy_ok _ f3 _ f2) n1 n2 hlen2 hd kk2
          | true =>
            rw [hfn] at hfin
            simp only [Bool.not_true, Bool.false_or, Bool.or_eq_true, Bool.false_eq_true, false_or, Bool.and_eq_true, decide_eq_true_eq] at hfin
            exact va_putF hx hb hts (amU_all _ f3) (amTy x.1) (amTy_ok _ f3) (amNm_ok _ f3) hown hK hP hD hS (a - 1) hw (amCl_at _ f3) x.2.1 f2 (hts _ f1) (fun _ z => z) hfn (hinit hfin.1) (by rw [hfin.2]; exact amOwn_ok _ f3 _ f2) (amTy_ok _ f3 _ f2) n1 n2 hlen2 hd kk2
        · cases h
      · cases h
    · cases h
  | arraylength =>
    simp only [amStep] at h
    split at h
    · rename_i a st2
      split at h
      · rename_i ty n f hcell
        cases h
        simp only [amChk, decide_eq_true_eq] at hc
        subst hc
        obtain ⟨a1, c2, rfl, ha, hst2⟩ := amSR_ref hst
        by_cases h0 : a = 0
        · subst h0
          rw [hσ0] at ha
          cases ha
          rw [hs0] at hcell
          cases hcell
          exact va_slen hx hb hX hbl hbA hS hd (kk _ _ _ _ _ Y0 hl (amSR_mk rfl hst2))
        · obtain ⟨e1, hw, hcr⟩ := amWR_get hWR hcell h0 ha
          have k1 := kk _ _ _ _ _ Y0 hl (amSR_mk (w := .int (Int32.ofNat n)) rfl hst2)
          rcases f with f | f | f
          · obtain ⟨-, cA, rfl, g1, g2⟩ := hcr
            exact va_alen hx hb (amK1 hK g1 g2) hP (a - 1) 0 hw rfl rfl hd k1
          · obtain ⟨-, cA, rfl, g1, g2⟩ := hcr
            exact va_alen hx hb (amK1 hK g1 g2) hP (a - 1) 0 hw rfl rfl hd k1
          · obtain ⟨C, cA, f', -, rfl, g1, g2, -⟩ := hcr
            exact va_alen hx hb (amK1 hK g1 g2) hP (a - 1) 0 hw rfl rfl hd k1
      · cases h
    · cases h
  | iaload =>
    simp only [amStep] at h
    split at h
    · rename_i j a st2
      split at h
      · rename_i n f hcell
        split at h
        · rename_i hin
          cases h
          simp only [amChk, decide_eq_true_eq] at hc
          subst hc
          obtain ⟨c1, rfl, hst1⟩ := amSR_int hst
          obtain ⟨a1, c2, rfl, ha, hst2⟩ := amSR_ref hst1
          by_cases h0 : a = 0
          · subst h0
            rw [hσ0] at ha
            cases ha
            rw [hs0] at hcell
            cases hcell
            exact va_sld hx hb hX hbl hbA hS (amIn_in hin) hd (kk _ _ _ _ _ Y0 hl (amSR_mk rfl hst2))
          · obtain ⟨e1, hw, -, cA, rfl, g1, g2⟩ := amWR_get hWR hcell h0 ha
            exact va_iald hx hb (amK1 hK g1 g2) hP (a - 1) 0 hw rfl (amIn_in hin) hd (kk _ _ _ _ _ Y0 hl (amSR_mk rfl hst2))
        · cases h
      · cases h
    · cases h
  | baload =>
    simp only [amStep] at h
    split at h
    · rename_i j a st2
      split at h
      · rename_i n f hcell
        split at h
        · rename_i hin
          cases h
          simp only [amChk, decide_eq_true_eq] at hc
          subst hc
          obtain ⟨c1, rfl, hst1⟩ := amSR_int hst
          obtain ⟨a1, c2, rfl, ha, hst2⟩ := amSR_ref hst1
          have h0 : a ≠ 0 := fun z => by rw [z, hs0] at hcell; cases hcell
          obtain ⟨e1, hw, -, cA, rfl, g1, g2⟩ := amWR_get hWR hcell h0 ha
          exact va_zald hx hb (amK1 hK g1 g2) hP (a - 1) 0 hw rfl (amIn_in hin) hd (kk _ _ _ _ _ Y0 hl (amSR_mk rfl hst2))
        · cases h
      · cases h
    · cases h
  | laload =>
    simp only [amStep] at h
    split at h
    · rename_i j a st2
      split at h
      · rename_i n f hcell
        split at h
        · rename_i hin
          cases h
          simp only [amChk, decide_eq_true_eq] at hc
          subst hc
          obtain ⟨c1, rfl, hst1⟩ := amSR_int hst
          obtain ⟨a1, c2, rfl, ha, hst2⟩ := amSR_ref hst1
          have h0 : a ≠ 0 := fun z => by rw [z, hs0] at hcell; cases hcell
          obtain ⟨e1, hw, -, cA, rfl, g1, g2⟩ := amWR_get hWR hcell h0 ha
          exact va_lald hx hb (amK1 hK g1 g2) hP (a - 1) 0 hw rfl (amIn_in hin) hd (kk _ _ _ _ _ Y0 hl (amSR_mk rfl hst2))
        · cases h
      · cases h
    · cases h
  | aaload =>
    simp only [amStep] at h
    split at h
    · rename_i j a st2
      split at h
      · rename_i C n f hcell
        split at h
        · rename_i hin
          split at h
          · rename_i k hk
            cases h
            simp only [amChk, decide_eq_true_eq] at hc
            subst hc
            obtain ⟨c1, rfl, hst1⟩ := amSR_int hst
            obtain ⟨a1, c2, rfl, ha, hst2⟩ := amSR_ref hst1
            have h0 : a ≠ 0 := fun z => by rw [z, hs0] at hcell; cases hcell
            obtain ⟨e1, hw, C2, cA, f', hC, rfl, g1, g2, g3⟩ := amWR_get hWR hcell h0 ha
            have hlt : j.toNatClampNeg < n := by
              simp only [amIn, Bool.and_eq_true, decide_eq_true_eq] at hin
              exact hin.2
            obtain ⟨a2, b1, b2⟩ := g3 _ hlt _ hk
            have k1 := kk _ _ _ _ _ Y0 hl (amSR_mk (w := .ref a2) ⟨a2, b1, rfl⟩ hst2)
            refine va_aldq hx hb (amK1 hK g1 g2) hP (a - 1) 0 hw rfl (amIn_in hin) hd ?_
            rw [b2]
            exact k1
          · cases h
        · cases h
      · cases h
    · cases h
  | iastore =>
    simp only [amStep] at h
    split at h
    · rename_i v j a st2
      split at h
      · rename_i n f hcell
        split at h
        · rename_i hin
          obtain ⟨hin, h0⟩ := hin
          cases h
          simp only [amChk, decide_eq_true_eq] at hc
          subst hc
          obtain ⟨c0, rfl, hst0⟩ := amSR_int hst
          obtain ⟨c1, rfl, hst1⟩ := amSR_int hst0
          obtain ⟨a1, c2, rfl, ha, hst2⟩ := amSR_ref hst1
          obtain ⟨e1, hw, hty, cA, rfl, g1, g2⟩ := amWR_get hWR hcell h0 ha
          exact va_iast hx hb (amK1 hK g1 g2) hP hD hS (a - 1) 0 hw rfl (amIn_in hin) hd (fun H1 locs1 q1 q2 q3 => kk _ _ _ _ _ (amDy_set Y0 h0 hw ⟨hty, cA, rfl, g1, g2⟩ q1 q2 q3) hl hst2)
        · cases h
      · cases h
    · cases h
  | bastore =>
    simp only [amStep] at h
    split at h
    · rename_i v j a st2
      split at h
      · rename_i n f hcell
        split at h
        · rename_i hin
          obtain ⟨hin, h0⟩ := hin
          cases h
          simp only [amChk, decide_eq_true_eq] at hc
          subst hc
          obtain ⟨c0, rfl, hst0⟩ := amSR_int hst
          obtain ⟨c1, rfl, hst1⟩ := amSR_int hst0
          obtain ⟨a1, c2, rfl, ha, hst2⟩ := amSR_ref hst1
          obtain ⟨e1, hw, hty, cA, rfl, g1, g2⟩ := amWR_get hWR hcell h0 ha
          exact va_zast hx hb (amK1 hK g1 g2) hP hD hS (a - 1) 0 hw rfl (amIn_in hin) hd (fun H1 locs1 q1 q2 q3 => kk _ _ _ _ _ (amDy_set Y0 h0 hw ⟨hty, cA, rfl, g1, g2⟩ q1 q2 q3) hl hst2)
        · cases h
      · cases h
    · cases h
  | lastore =>
    simp only [amStep] at h
    split at h
    · rename_i v j a st2
      split at h
      · rename_i n f hcell
        split at h
        · rename_i hin
          obtain ⟨hin, h0⟩ := hin
          cases h
          simp only [amChk, decide_eq_true_eq] at hc
          subst hc
          obtain ⟨c0, rfl, hst0⟩ := amSR_long hst
          obtain ⟨c1, rfl, hst1⟩ := amSR_int hst0
          obtain ⟨a1, c2, rfl, ha, hst2⟩ := amSR_ref hst1
          obtain ⟨e1, hw, hty, cA, rfl, g1, g2⟩ := amWR_get hWR hcell h0 ha
          exact va_last hx hb (amK1 hK g1 g2) hP hD hS (a - 1) 0 hw rfl (amIn_in hin) hd (fun H1 locs1 q1 q2 q3 => kk _ _ _ _ _ (amDy_set Y0 h0 hw ⟨hty, cA, rfl, g1, g2⟩ q1 q2 q3) hl hst2)
        · cases h
      · cases h
    · cases h
  | aastore =>
    simp only [amStep] at h
    split at h
    · rename_i v j a st2
      split at h
      · rename_i C n f ci fs hcell hcv
        split at h
        · rename_i hin
          obtain ⟨hin, h0, h5, hCn⟩ := hin
          cases h
          simp only [amChk, decide_eq_true_eq] at hc
          subst hc
          obtain ⟨av, c0, rfl, hav, hst0⟩ := amSR_ref hst
          obtain ⟨c1, rfl, hst1⟩ := amSR_int hst0
          obtain ⟨a1, c2, rfl, ha, hst2⟩ := amSR_ref hst1
          obtain ⟨e1, hw, C2, cA, f', hC, rfl, g1, g2, g3⟩ := amWR_get hWR hcell h0 ha
          have hv0 : v ≠ 0 := fun z => by rw [z, hs0] at hcv; cases hcv
          obtain ⟨e2, hw2, fs', rfl, -⟩ := amWR_get hWR hcv hv0 hav
          subst hCn
          have g5 := amCl_at ci h5
          refine va_astq (r := (amN ci, amTT ci, amNF ci)) hx hb (amK1 hK g1 g2) hP hD hS (a - 1) 0 (v - 1) ci hw rfl hw2 g5 (amIn_in hin) hd (fun H1 locs1 q1 q2 q3 => kk _ _ _ _ _ (amDy_set Y0 h0 hw ⟨C2, cA, _, hC, rfl, g1, g2, ?_⟩ q1 q2 q3) hl hst2)
          intro i2 hi2 k2 hk2
          unfold va_up at hk2 ⊢
          by_cases hij : i2 = j.toNatClampNeg
          · rw [if_pos hij] at hk2 ⊢
            cases hk2
            exact ⟨av, hav, rfl⟩
          · rw [if_neg hij] at hk2 ⊢
            exact g3 i2 hi2 k2 hk2
        · cases h
      · cases h
    · cases h
  | invokestatic k =>
    simp only [amStep] at h
    split at h
    · rename_i v w st2
      split at h
      · rename_i hsum
        obtain ⟨c1, rfl, hst1⟩ := amSR_int hst
        obtain ⟨c2, rfl, hst2⟩ := amSR_int hst1
        have hs8 := amSR_sum hst2
        have hsz : cd.maxLocals = cls.size := by rw [hml, hl1]
        simp only [amChk, Bool.and_eq_true, Bool.or_eq_true, decide_eq_true_eq] at hc
        obtain ⟨rfl, hc⟩ := hc
        split at h
        · rename_i h4
          cases h
          rcases hc with ⟨⟨⟨h9, -⟩, -⟩, -⟩ | ⟨⟨⟨-, h6⟩, h7⟩, h8⟩
          · omega
          · have g := amMthOk _ h6
            rw [h4] at g
            exact va_mmax hx hb hsz hown (hts _ g) (hts _ amMmax_s) (hts _ amM_i) (hts _ amMmax_c) (by omega) (by rw [hs8]; omega) hRc hRs hd (kk _ _ _ _ _ Y0 hl (amSR_mk rfl hst2))
        · split at h
          · rename_i h4 h5
            cases h
            rcases hc with ⟨⟨⟨h9, -⟩, -⟩, -⟩ | ⟨⟨⟨-, h6⟩, h7⟩, h8⟩
            · omega
            · have g := amMthOk _ h6
              rw [h5] at g
              exact va_mmin hx hb hsz hown (hts _ g) (hts _ amMmin_s) (hts _ amM_i) (hts _ amMmin_c) (by omega) (by rw [hs8]; omega) hRc hRs hd (kk _ _ _ _ _ Y0 hl (amSR_mk rfl hst2))
          · cases h
      · cases h
    · cases h
  | invokespecial k =>
    simp only [amStep] at h
    split at h
    · rename_i a st2
      split at h
      · rename_i hq
        obtain ⟨h6, hsum⟩ := hq
        cases h
        obtain ⟨a1, c2, rfl, ha, hst2⟩ := amSR_ref hst
        have hs8 := amSR_sum hst2
        simp only [amChk, Bool.and_eq_true, Bool.or_eq_true, decide_eq_true_eq] at hc
        obtain ⟨rfl, hc⟩ := hc
        rcases hc with (⟨⟨⟨h9, -⟩, -⟩, -⟩ | ⟨⟨⟨-, h5⟩, h7⟩, h8⟩) | h9
        · omega
        · refine W.objInit hx hb hown (hts _ (amObjOk _ h5)) (hts _ amObj_i) (hts _ amObj_c) rfl (by rw [hml]; exact hl1) rfl hd (by omega) (by show 2 * 0 + _ + 12 ≤ _; rw [hs8]; omega) ?_
          exact kk _ _ _ _ _ Y0 hl hst2
        · omega
      · cases h
    · cases h
  | _ => simp [amStep] at h
