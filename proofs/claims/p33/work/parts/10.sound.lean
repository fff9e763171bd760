/-! the abstract machine's runs, on the machine; by hand -/
theorem amBack_mono {rec : amRec} (ih : ∀ M pc ls st hs c s o, rec M pc ls st hs c s = some o → c ≤ o.2.2.1 ∧ s ≤ o.2.2.2) {M : Nat} {x : amRes} {pc : Nat} {ls : amL} {rest : List Value} {c s : Nat} {q : Option amOut} {o : amOut} (h : amBack rec M x pc ls rest c s q = some o) : c ≤ o.2.2.1 ∧ s ≤ o.2.2.2 := by
  unfold amBack at h
  split at h
  · cases h
  · have h1 := ih _ _ _ _ _ _ _ _ h
    omega
  · split at h
    · cases h
    · split at h
      · cases h
        dsimp only
        omega
      · split at h
        · have h1 := ih _ _ _ _ _ _ _ _ h
          omega
        · have h1 := ih _ _ _ _ _ _ _ _ h
          omega
        · cases h
theorem amCall_mono {rec : amRec} (ih : ∀ M pc ls st hs c s o, rec M pc ls st hs c s = some o → c ≤ o.2.2.1 ∧ s ≤ o.2.2.2) {M : Nat} {x : amRes} {pc : Nat} {ls : amL} {st : List Value} {hs : amH} {c s : Nat} {o : amOut} (h : amCall rec M x pc ls st hs c s = some o) : c ≤ o.2.2.1 ∧ s ≤ o.2.2.2 := by
  unfold amCall at h
  split at h
  · cases h
  · split at h
    · cases h
    · split at h
      · exact amBack_mono ih h
      · cases h
theorem amMore_mono {rec : amRec} (ih : ∀ M pc ls st hs c s o, rec M pc ls st hs c s = some o → c ≤ o.2.2.1 ∧ s ≤ o.2.2.2) {M : Nat} {i : Instr} {x : amRes} {pc : Nat} {ls : amL} {st : List Value} {hs : amH} {c s : Nat} {o : amOut} (h : amMore rec M i x pc ls st hs c s = some o) : c ≤ o.2.2.1 ∧ s ≤ o.2.2.2 := by
  unfold amMore at h
  split at h
  · split at h
    · split at h
      · cases h; exact ⟨Nat.le_refl _, Nat.le_refl _⟩
      · cases h
    · cases h
  · split at h
    · cases h; exact ⟨Nat.le_refl _, Nat.le_refl _⟩
    · cases h
  · split at h
    · cases h; exact ⟨Nat.le_refl _, Nat.le_refl _⟩
    · cases h
  · split at h
    · split at h
      · cases h; dsimp only; omega
      · cases h
    · have h1 := ih _ _ _ _ _ _ _ _ h
      omega
  · split at h
    · split at h
      · split at h
        · have h1 := ih _ _ _ _ _ _ _ _ h
          omega
        · have h1 := ih _ _ _ _ _ _ _ _ h
          omega
        · cases h
      · cases h
    · cases h
  · split at h
    · split at h
      · have h1 := ih _ _ _ _ _ _ _ _ h
        omega
      · cases h
    · cases h
  · split at h
    · exact amCall_mono ih h
    · cases h
  · split at h
    · exact amCall_mono ih h
    · cases h
  · split at h
    · exact amCall_mono ih h
    · cases h
  · cases h
theorem amRun_mono : ∀ (n : Nat) (M pc : Nat) (ls : amL) (st : List Value) (hs : amH) (c s : Nat) (o : amOut), amRun n M pc ls st hs c s = some o → c ≤ o.2.2.1 ∧ s ≤ o.2.2.2
  | 0, _, _, _, _, _, _, _, _, h => by simp [amRun] at h
  | n + 1, M, pc, ls, st, hs, c, s, o, h => by
    simp only [amRun] at h
    split at h
    · cases h
    · split at h
      · exact amRun_mono n _ _ _ _ _ _ _ _ h
      · exact amMore_mono (amRun_mono n) h
theorem amGood {l : List Cond} (h : ∀ w ∈ l, w ∈ amTB) : GoodIn amTB l := fun w hw => ⟨h w hw, good_of_word (List.mem_filter.mp (h w hw)).2⟩
theorem amNw_warm {s U : State} (hW : s.WarmedH U.vm) (h : ∀ w ∈ amNests, va_Nw w s) : ∀ w ∈ amNests, va_Nw w U := by
  unfold amNests at h ⊢
  intro w hw
  rcases List.mem_cons.mp hw with rfl | hw
  · exact va_Nw.warmM hW (h _ List.mem_cons_self)
  · rw [List.mem_singleton.mp hw]
    exact va_Nw.warmM hW (h _ (List.mem_cons_of_mem _ List.mem_cons_self))
theorem amBad_warm {s U : State} (hW : s.WarmedH U.vm) (h : ∀ w ∈ amBad, va_Nw w s) : ∀ w ∈ amBad, va_Nw w U := by
  unfold amBad at h ⊢
  simp only [List.forall_mem_cons] at h ⊢
  obtain ⟨h1, h2, h3, h4, h5, h6, h7⟩ := h
  exact ⟨va_Nw.warmC hW h1, va_Nw.warmC hW h2, va_Nw.warmC hW h3, va_Nw.warmD hW h4, va_Nw.warmD hW h5, va_Nw.warmD hW h6, fun w hw => absurd hw List.not_mem_nil⟩
theorem amAmb_use {A B : Nat → Prop} {s U : State} {H : Heap} {locs : List Loc} (h : amAmb A s) (hS : va_S A s.heap H locs) (hB : ∀ q, B q → A q) (hU : U.heap = H) (hW : s.WarmedH U.vm) : amAmb B U := by
  obtain ⟨h1, h2, h3, h4, h5, h6, h7⟩ := h
  refine ⟨?_, ?_, fun q hq => ?_, fun q hq => va_Nc.moved hW.alike (h4 q hq), amNw_warm hW h5, va_AO.moved hW.alike h6, amBad_warm hW h7⟩
  · rw [hU]; exact vx_Zq.moved hW.alike ((h1.kept hS.2.1).narrow hB)
  · rw [hU]; exact vx_Zq.moved hW.alike ((h2.kept hS.2.1).narrow hB)
  · obtain ⟨sa, hsa⟩ := h3 q hq
    exact ⟨sa, vk_R.warm hW hsa⟩
def amIn0 (D : va_G) (ws : va_W) (σ : List Nat) (hs : amH) (b L : Nat) (xs : Nat → Int32) (sz : Nat) (U : State) : Prop := U.heap.size = sz ∧ va_P D vwCl ws U.heap ∧ va_K D vwCl [] U ∧ va_D (fun _ => True) ws ∧ amWR U σ hs ws ∧ hs[0]? = some (.inl (.int, L, .inl xs)) ∧ σ[0]? = some b ∧ va_X b L xs U U.heap ∧ b < U.heap.size ∧ ¬ va_A ws sz b ∧ amAmb (va_A ws sz) U
def amEnd (D : va_G) (ws : va_W) (sz : Nat) (σ σ' : List Nat) (ws' : va_W) (hs' : amH) (b L : Nat) (xs : Nat → Int32) (t : State) : Prop := amExt σ σ' ∧ va_P D vwCl ws' t.heap ∧ va_D (va_A ws sz) ws' ∧ amWR t σ' hs' ws' ∧ hs'[0]? = some (.inl (.int, L, .inl xs)) ∧ σ'[0]? = some b
def amQc (D : va_G) (ws : va_W) (sz : Nat) (σ : List Nat) (o : amOut) (b L : Nat) (xs : Nat → Int32) : Array Value → State → Outcome → State → Prop := fun _ st oc t =>
  (∃ v cv σ' ws', o.1 = .inl v ∧ oc = .returned cv ∧ amSR σ' v.toList cv.toList ∧ amEnd D ws sz σ σ' ws' o.2.1 b L xs t) ∧ va_F (va_A ws sz) st t
def amXC (D : va_G) (ws : va_W) (sz : Nat) (σ : List Nat) (o : amOut) (b L : Nat) (xs : Nat → Int32) : String → State → State → Prop := fun E' st t =>
  (∃ E σ' ws', o.1 = .inr E ∧ E' = amX E ∧ (E = 1 ∨ E = 2 ∨ E = 3) ∧ amEnd D ws sz σ σ' ws' o.2.1 b L xs t) ∧ va_F (va_A ws sz) st t
def amMet (l : Launch) (r : amRow) (o : amOut) (D : va_G) (ws : va_W) (sz : Nat) (σ : List Nat) (hs : amH) (b L : Nat) (xs : Nat → Int32) (cas : List Value) : Prop :=
  vx_Met l r.2.1 (amCW r :: amTB) { frames := r.2.2.2.2.2.2.1, cells := o.2.2.1, slots := o.2.2.2, locals := r.2.2.2.2.2.2.2 } (va_Pc cas (amIn0 D ws σ hs b L xs sz)) (amQc D ws sz σ o b L xs) (amXC D ws sz σ o b L xs) o.2.2.1 o.2.2.2 (va_A ws sz)
/-- the instruction by which a method gives this answer -/
def amRetI (M pc : Nat) (v : Option Value) : Prop := ∃ i len x, amFetch M pc = some (i, len, x) ∧ match v with
  | none => i = .return_
  | some (.int k) => i = .ireturn ∧ amRetOk M k = true
  | some (.ref _) => i = .areturn
  | _ => False
def amK (p : Program) (l : Launch) (e : Env) (R : Room) (s : State) (m : MethodId) (args : Array Value) (below : List Frame) (meth : Method) (cd : Code) (Q : State → Prop) (D : va_G) (A : Nat → Prop) (b L : Nat) (xs : Nat → Int32) (M nL : Nat) (σ : List Nat) (o : amOut) : Prop :=
  (∀ v, o.1 = .inl v → ∀ pc' σ' ws' H' locs' cls' cst', amExt σ σ' → amDy s D A σ' o.2.1 ws' H' locs' b L xs → amSR σ' v.toList cst' → cls'.size = nL → amRetI M pc' v → W p l e R s m args below meth cd H' locs' o.2.2.1 o.2.2.2 Q (F0 m pc' cls' cst')) ∧
  (∀ E, o.1 = .inr E → ∀ pc' σ' ws' H' locs' cls' cst' c' sl' k len x, amExt σ σ' → amDy s D A σ' o.2.1 ws' H' locs' b L xs → amFetch M pc' = some (.new k, len, x) → x.1 = 1 → x.2.1 = E → (cst'.map fun v : Value => v.category).sum ≤ 8 → cls'.size = nL → c' + 1 = o.2.2.1 → sl' + 6 = o.2.2.2 → W p l e R s m args below meth cd H' locs' c' sl' Q (F0 m pc' cls' cst')) ∧
  (∀ E, o.1 = .inr E → (E = 1 ∨ E = 2 ∨ E = 3) → ∀ pc' σ' ws' H' locs' cls' cst' q ce, amExt σ σ' → amDy s D A σ' o.2.1 ws' H' locs' b L xs → amHand M pc' E = none → H'[q]? = some ce → ce.vm = .none → s.vm.findClass (amX E) = some ce.cls → vx_W p l e R s m args below meth cd H' locs' o.2.2.1 o.2.2.2 Q (F0 m pc' cls' cst') q)
theorem amK_mono {p : Program} {l : Launch} {e : Env} {R : Room} {s : State} {m : MethodId} {args : Array Value} {below : List Frame} {meth : Method} {cd : Code} {Q : State → Prop} {D : va_G} {A : Nat → Prop} {b L : Nat} {xs : Nat → Int32} {M nL : Nat} {σ σ1 : List Nat} {o : amOut} (he : amExt σ σ1) (h : amK p l e R s m args below meth cd Q D A b L xs M nL σ o) : amK p l e R s m args below meth cd Q D A b L xs M nL σ1 o :=
  ⟨fun v hv pc' σ' ws' H' locs' cls' cst' h1 => h.1 v hv pc' σ' ws' H' locs' cls' cst' (amExt_tr he h1),
   fun E hv pc' σ' ws' H' locs' cls' cst' c' sl' k len x h1 => h.2.1 E hv pc' σ' ws' H' locs' cls' cst' c' sl' k len x (amExt_tr he h1),
   fun E hv h9 pc' σ' ws' H' locs' cls' cst' q ce h1 => h.2.2 E hv h9 pc' σ' ws' H' locs' cls' cst' q ce (amExt_tr he h1)⟩
def amSnd (n : Nat) : Prop := ∀ (p : Program) (l : Launch) (e : Env) (R : Room) (s : State) (m : MethodId) (args : Array Value) (below : List Frame) (meth : Method) (cd : Code) (Q : State → Prop) (D : va_G) (A : Nat → Prop) (b L : Nat) (xs : Nat → Int32) (M : Nat) (r : amRow × List (List amEnt)),
  amFr p l s m args meth cd r.1 D A b L xs → amAll[M]? = some r → r.1.2.2.2.2.2.2.1 ≤ R.frames → r.1.2.2.2.2.2.2.2 ≤ R.locals → ∀ (pc : Nat) (ls : amL) (st : List Value) (hs : amH) (c sl : Nat) (o : amOut), amRun n M pc ls st hs c sl = some o → ∀ (σ : List Nat) (ws : va_W) (H : Heap) (locs : List Loc) (cls : Array Slot) (cst : List Value), amDy s D A σ hs ws H locs b L xs → amLR σ ls r.1.2.2.2.1 cls → amSR σ st cst → o.2.2.1 ≤ R.cells → o.2.2.2 ≤ R.slots → amK p l e R s m args below meth cd Q D A b L xs M r.1.2.2.2.1 σ o → W p l e R s m args below meth cd H locs c sl Q (F0 m pc cls cst)
theorem am_own {tg ow mL : Nat} (h : amOwnL tg = some (ow, mL)) : ∃ rt, amAll[tg]? = some rt ∧ ow = rt.1.1 ∧ mL = rt.1.2.2.2.1 := by
  unfold amOwnL amRowOf at h
  cases hq : amAll[tg]? with
  | none => rw [hq] at h; simp at h
  | some rt =>
    rw [hq] at h
    simp only [Option.map_some, Option.some.injEq, Prod.mk.injEq] at h
    exact ⟨rt, rfl, h.1.symm, h.2.symm⟩
theorem am_rowOf {M : Nat} {r : amRow × List (List amEnt)} (hr : amAll[M]? = some r) : amRowOf M = some r.1 := by
  unfold amRowOf
  rw [hr]
  rfl
theorem am_this {hs : amH} {v : Value} {ow : Nat} (h : amThis hs v ow = true) : ∃ a fs, v = .ref a ∧ hs[a]? = some (.inr (ow, fs)) := by
  unfold amThis at h
  split at h
  · rename_i a
    split at h
    · rename_i c2 fs hq
      have h1 : c2 = ow := of_decide_eq_true h
      subst h1
      exact ⟨a, fs, rfl, hq⟩
    · cases h
  · cases h
theorem am_args {x : amRes} {st as rest : List Value} {hs : amH} {ow : Nat} (h : amArgs x st hs ow = some (as, rest)) : st = as.reverse ++ rest ∧ as.length = (if x.1 = 0 ∨ x.1 = 3 then x.2.2.toNat + 1 else x.2.2.toNat) ∧ (∀ v ∈ as, v.category = 1) ∧ amSum rest ≤ 8 ∧ ((x.1 = 0 ∨ x.1 = 3) → ∃ a fs as2, as = .ref a :: as2 ∧ hs[a]? = some (.inr (ow, fs))) := by
  unfold amArgs at h
  generalize (if x.1 = 0 ∨ x.1 = 3 then x.2.2.toNat + 1 else x.2.2.toNat) = k at h ⊢
  dsimp only at h
  rw [Option.ite_none_right_eq_some] at h
  obtain ⟨hq, h⟩ := h
  obtain ⟨h1, h2, h3, h4⟩ := hq
  cases h
  refine ⟨?_, h1, fun v hv => ?_, h3, fun h9 => ?_⟩
  · rw [List.reverse_reverse, List.take_append_drop]
  · have h5 := List.all_eq_true.mp h2 v hv
    exact of_decide_eq_true h5
  · have h5 := h4 h9
    generalize (List.take k st).reverse = zs at h5 ⊢
    cases zs with
    | nil => cases h5
    | cons v as2 =>
      obtain ⟨a, fs, rfl, h6⟩ := am_this h5
      exact ⟨a, fs, as2, rfl, h6⟩
theorem am_sl {cas : List Value} (h : ∀ v ∈ cas, v.category = 1) : lg_sl cas = cas.map Slot.val := by
  induction cas with
  | nil => rfl
  | cons v l ih =>
    have h1 := h v List.mem_cons_self
    have h2 := ih fun w hw => h w (List.mem_cons_of_mem _ hw)
    unfold lg_sl at h2 ⊢
    rw [List.flatMap_cons, h2, if_neg (by omega)]
    rfl
theorem am_cats {σ : List Nat} : ∀ {as cas : List Value}, amSR σ as cas → (∀ v ∈ as, v.category = 1) → ∀ w ∈ cas, w.category = 1
  | [], [], _, _ => fun w hw => absurd hw List.not_mem_nil
  | v :: as, w :: cas, h, h1 => fun u hu => by
    rcases List.mem_cons.mp hu with rfl | hu
    · rw [amVR_cat h.1]; exact h1 v List.mem_cons_self
    · exact am_cats h.2 (fun z hz => h1 z (List.mem_cons_of_mem _ hz)) u hu
  | [], _ :: _, h, _ => absurd h id
  | _ :: _, [], h, _ => absurd h id
theorem am_entry {σ : List Nat} {as cas : List Value} {n : Nat} (h : amSR σ as cas) (hc : ∀ v ∈ as, v.category = 1) (hn : as.length ≤ n) : amLR σ (amEntry as n) n ((lg_sl cas ++ List.replicate (n - (lg_sl cas).length) Slot.unset).toArray) := by
  have hcc := am_cats h hc
  have hsl := am_sl hcc
  have hlen := amSR_len h
  have hll : (lg_sl cas).length = as.length := by rw [hsl, List.length_map, hlen]
  obtain ⟨e1, e2, -⟩ := lv_entry cas (n := n) (by rw [hll]; exact hn)
  refine ⟨e1, ?_, e2, fun i v hv => ?_⟩
  · unfold amEntry
    rw [List.length_append, List.length_map, List.length_replicate]
    omega
  · unfold amEntry at hv
    by_cases hi : i < as.length
    · rw [List.getElem?_append_left (by rw [List.length_map]; exact hi), List.getElem?_map] at hv
      cases hg : as[i]? with
      | none => rw [hg] at hv; cases hv
      | some u =>
        rw [hg] at hv
        simp only [Option.map_some, Option.some.injEq] at hv
        subst hv
        obtain ⟨w, h1, h2⟩ := amSR_get h hg
        refine ⟨w, h2, hcc w (List.mem_of_getElem? h1), ?_⟩
        rw [List.getElem?_toArray, List.getElem?_append_left (by rw [hll]; exact hi), hsl, List.getElem?_map, h1]
        rfl
    · rw [List.getElem?_append_right (by rw [List.length_map]; omega), List.getElem?_replicate] at hv
      split at hv
      · cases hv
      · cases hv
