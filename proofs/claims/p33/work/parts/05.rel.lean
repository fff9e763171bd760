/-! what the abstract machine's values, locals, cells stand for; by hand -/
def amVR (σ : List Nat) (v w : Value) : Prop := match v with
  | .ref k => ∃ a, σ[k]? = some a ∧ w = .ref a
  | v => w = v
theorem amVR_int {σ : List Nat} {x : Int32} {w : Value} (h : amVR σ (.int x) w) : w = .int x := h
theorem amVR_long {σ : List Nat} {x : Int64} {w : Value} (h : amVR σ (.long x) w) : w = .long x := h
theorem amVR_ref {σ : List Nat} {k : Nat} {w : Value} (h : amVR σ (.ref k) w) : ∃ a, σ[k]? = some a ∧ w = .ref a := h
theorem amVR_cat {σ : List Nat} {v w : Value} (h : amVR σ v w) : w.category = v.category := by
  cases v with
  | ref k => obtain ⟨a, -, rfl⟩ := amVR_ref h; rfl
  | _ => have h2 : w = _ := h; rw [h2]
def amExt (σ σ' : List Nat) : Prop := ∀ (k a : Nat), σ[k]? = some a → σ'[k]? = some a
theorem amExt_rf {σ : List Nat} : amExt σ σ := fun _ _ h => h
theorem amExt_tr {σ σ1 σ2 : List Nat} (h : amExt σ σ1) (h2 : amExt σ1 σ2) : amExt σ σ2 := fun k a e => h2 k a (h k a e)
theorem amExt_push {σ : List Nat} {a : Nat} : amExt σ (σ ++ [a]) := fun k x e => by
  rw [List.getElem?_append_left (List.getElem?_eq_some_iff.mp e).1]; exact e
theorem amVR_mono {σ σ' : List Nat} (he : amExt σ σ') {v w : Value} (h : amVR σ v w) : amVR σ' v w := by
  cases v with
  | ref k => obtain ⟨a, h1, h2⟩ := amVR_ref h; exact ⟨a, he k a h1, h2⟩
  | _ => exact h
def amSR (σ : List Nat) : List Value → List Value → Prop
  | [], [] => True
  | v :: st, w :: cst => amVR σ v w ∧ amSR σ st cst
  | _, _ => False
theorem amSR_nil {σ : List Nat} {cst : List Value} (h : amSR σ [] cst) : cst = [] := by
  cases cst with
  | nil => rfl
  | cons a l => exact absurd h id
theorem amSR_cons {σ : List Nat} {v : Value} {st cst : List Value} (h : amSR σ (v :: st) cst) : ∃ w c, cst = w :: c ∧ amVR σ v w ∧ amSR σ st c := by
  cases cst with
  | nil => exact absurd h id
  | cons a l => exact ⟨a, l, rfl, h.1, h.2⟩
theorem amSR_int {σ : List Nat} {x : Int32} {st cst : List Value} (h : amSR σ (.int x :: st) cst) : ∃ c, cst = .int x :: c ∧ amSR σ st c := by
  obtain ⟨w, c, rfl, h1, h2⟩ := amSR_cons h
  exact ⟨c, by rw [amVR_int h1], h2⟩
theorem amSR_long {σ : List Nat} {x : Int64} {st cst : List Value} (h : amSR σ (.long x :: st) cst) : ∃ c, cst = .long x :: c ∧ amSR σ st c := by
  obtain ⟨w, c, rfl, h1, h2⟩ := amSR_cons h
  exact ⟨c, by rw [amVR_long h1], h2⟩
theorem amSR_ref {σ : List Nat} {k : Nat} {st cst : List Value} (h : amSR σ (.ref k :: st) cst) : ∃ a c, cst = .ref a :: c ∧ σ[k]? = some a ∧ amSR σ st c := by
  obtain ⟨w, c, rfl, h1, h2⟩ := amSR_cons h
  obtain ⟨a, h3, rfl⟩ := amVR_ref h1
  exact ⟨a, c, rfl, h3, h2⟩
theorem amSR_mk {σ : List Nat} {v w : Value} {st cst : List Value} (h : amVR σ v w) (h2 : amSR σ st cst) : amSR σ (v :: st) (w :: cst) := ⟨h, h2⟩
theorem amSR_mono {σ σ' : List Nat} (he : amExt σ σ') : ∀ {st cst : List Value}, amSR σ st cst → amSR σ' st cst
  | [], [], _ => trivial
  | _ :: _, _ :: _, h => ⟨amVR_mono he h.1, amSR_mono he h.2⟩
  | [], _ :: _, h => absurd h id
  | _ :: _, [], h => absurd h id
theorem amSR_len {σ : List Nat} : ∀ {st cst : List Value}, amSR σ st cst → cst.length = st.length
  | [], [], _ => rfl
  | _ :: _, _ :: _, h => by rw [List.length_cons, List.length_cons, amSR_len h.2]
  | [], _ :: _, h => absurd h id
  | _ :: _, [], h => absurd h id
theorem amSR_get {σ : List Nat} : ∀ {st cst : List Value} {k : Nat} {v : Value}, amSR σ st cst → st[k]? = some v → ∃ w, cst[k]? = some w ∧ amVR σ v w
  | [], _, _, _, _, hk => by simp at hk
  | v :: st, w :: cst, 0, _, h, hk => by simp at hk; subst hk; exact ⟨w, rfl, h.1⟩
  | v :: st, w :: cst, k + 1, _, h, hk => by simp at hk; simpa using amSR_get h.2 hk
  | _ :: _, [], _, _, h, _ => absurd h id
theorem amSR_set {σ : List Nat} : ∀ {st cst : List Value} {k : Nat} {v w : Value}, amSR σ st cst → amVR σ v w → amSR σ (st.set k v) (cst.set k w)
  | [], [], _, _, _, _, _ => trivial
  | v :: st, w :: cst, 0, _, _, h, hv => ⟨hv, h.2⟩
  | v :: st, w :: cst, k + 1, _, _, h, hv => ⟨h.1, amSR_set h.2 hv⟩
  | [], _ :: _, _, _, _, h, _ => absurd h id
  | _ :: _, [], _, _, _, h, _ => absurd h id
theorem amSR_sum {σ : List Nat} : ∀ {st cst : List Value}, amSR σ st cst → (cst.map fun v => v.category).sum = amSum st
  | [], [], _ => rfl
  | v :: st, w :: cst, h => by
    have h1 := amSR_sum h.2
    unfold amSum at h1 ⊢
    rw [List.map_cons, List.map_cons, List.sum_cons, List.sum_cons, h1, amVR_cat h.1]
  | [], _ :: _, h => absurd h id
  | _ :: _, [], h => absurd h id
theorem amSR_app {σ : List Nat} : ∀ {a b : List Value} {st : List Value}, amSR σ (a ++ b) st → ∃ ca cb, st = ca ++ cb ∧ amSR σ a ca ∧ amSR σ b cb
  | [], b, st, h => ⟨[], st, rfl, trivial, h⟩
  | v :: a, b, [], h => absurd h id
  | v :: a, b, w :: st, h => by
    obtain ⟨ca, cb, e, h1, h2⟩ := amSR_app (a := a) (b := b) h.2
    exact ⟨w :: ca, cb, by rw [e]; rfl, ⟨h.1, h1⟩, h2⟩
theorem amSR_snoc {σ : List Nat} {v w : Value} : ∀ {a ca : List Value}, amSR σ a ca → amVR σ v w → amSR σ (a ++ [v]) (ca ++ [w])
  | [], [], _, hv => ⟨hv, trivial⟩
  | _ :: _, _ :: _, h, hv => ⟨h.1, amSR_snoc h.2 hv⟩
  | [], _ :: _, h, _ => absurd h id
  | _ :: _, [], h, _ => absurd h id
theorem amSR_rev {σ : List Nat} : ∀ {a ca : List Value}, amSR σ a ca → amSR σ a.reverse ca.reverse
  | [], [], _ => trivial
  | v :: a, w :: ca, h => by
    rw [List.reverse_cons, List.reverse_cons]
    exact amSR_snoc (amSR_rev h.2) h.1
  | [], _ :: _, h => absurd h id
  | _ :: _, [], h => absurd h id
def amLR (σ : List Nat) (ls : amL) (nL : Nat) (cls : Array Slot) : Prop := cls.size = nL ∧ ls.length = nL ∧ lv_wf cls ∧ ∀ (i : Nat) (v : Value), ls[i]? = some (some v) → ∃ w, amVR σ v w ∧ w.category = 1 ∧ cls[i]? = some (.val w)
theorem amLR_mono {σ σ' : List Nat} (he : amExt σ σ') {ls : amL} {nL : Nat} {cls : Array Slot} (h : amLR σ ls nL cls) : amLR σ' ls nL cls :=
  ⟨h.1, h.2.1, h.2.2.1, fun i v hv => by obtain ⟨w, h1, h2⟩ := h.2.2.2 i v hv; exact ⟨w, amVR_mono he h1, h2⟩⟩
/-- storing a value of one slot: the same new locals for every list of what is held -/
theorem am_store {cls : Array Slot} {nL i : Nat} {w : Value} (hs : cls.size = nL) (hw : lv_wf cls) (hi : i < nL) (hc : w.category = 1) : ∃ ls', storeLocals cls i w = some ls' ∧ ls'.size = nL ∧ lv_wf ls' ∧ ls'[i]? = some (.val w) ∧ ∀ (j : Nat) (u : Value), j ≠ i → u.category = 1 → cls[j]? = some (.val u) → ls'[j]? = some (.val u) := by
  obtain ⟨ls', e, h1, h2, h3⟩ := lv_store1 (l := []) (v := w) ⟨hs, hw, fun q hq => by cases hq⟩ hi hc
  refine ⟨ls', e, h1, h2, h3 (i, w) (List.mem_cons_self), fun j u hj hu hx => ?_⟩
  obtain ⟨ls2, e2, h4, h5, h6⟩ := lv_store1 (l := [(j, u)]) (v := w) ⟨hs, hw, fun q hq => by rw [List.mem_singleton.mp hq]; exact hx⟩ hi hc
  rw [e] at e2
  cases e2
  refine h6 (j, u) (List.mem_cons_of_mem _ (List.mem_filter.mpr ⟨List.mem_singleton.mpr rfl, ?_⟩))
  simp [hj, hu]
theorem amLR_set {σ : List Nat} {ls : amL} {nL i : Nat} {cls : Array Slot} {v w : Value} (h : amLR σ ls nL cls) (hi : i < nL) (hv : amVR σ v w) (hc : w.category = 1) : ∃ ls', storeLocals cls i w = some ls' ∧ amLR σ (ls.set i (some v)) nL ls' := by
  obtain ⟨h1, h2, h3, h4⟩ := h
  obtain ⟨ls', e, a1, a2, a3, a4⟩ := am_store h1 h3 hi hc
  refine ⟨ls', e, a1, by rw [List.length_set]; exact h2, a2, fun j u hu => ?_⟩
  by_cases hj : j = i
  · subst hj
    rw [List.getElem?_set_self (by rw [h2]; exact hi)] at hu
    cases hu
    exact ⟨w, hv, hc, a3⟩
  · rw [List.getElem?_set_ne (Ne.symm hj)] at hu
    obtain ⟨w2, b1, b2, b3⟩ := h4 j u hu
    exact ⟨w2, b1, b2, a4 j w2 hj b2 b3⟩
theorem amLR_none {σ : List Nat} {ls : amL} {nL i : Nat} {cls : Array Slot} {w : Value} (h : amLR σ ls nL cls) (hi : i < nL) (hc : w.category = 1) : ∃ ls', storeLocals cls i w = some ls' ∧ amLR σ (ls.set i none) nL ls' := by
  obtain ⟨h1, h2, h3, h4⟩ := h
  obtain ⟨ls', e, a1, a2, a3, a4⟩ := am_store h1 h3 hi hc
  refine ⟨ls', e, a1, by rw [List.length_set]; exact h2, a2, fun j u hu => ?_⟩
  by_cases hj : j = i
  · subst hj
    rw [List.getElem?_set_self (by rw [h2]; exact hi)] at hu
    cases hu
  · rw [List.getElem?_set_ne (Ne.symm hj)] at hu
    obtain ⟨w2, b1, b2, b3⟩ := h4 j u hu
    exact ⟨w2, b1, b2, a4 j w2 hj b2 b3⟩
/-- what a cell stands for -/
def amCR (s : State) (σ : List Nat) (c : amC) (e : va_E) : Prop := match c with
  | .inl (ty, n, .inl f) => (ty = .int ∨ ty = .boolean) ∧ ∃ cA, e = .inl (cA, n, .inl f) ∧ ArrOfT s cA ty ∧ va_RA s cA ty
  | .inl (ty, n, .inr (.inl f)) => ty = .long ∧ ∃ cA, e = .inl (cA, n, .inr (.inl f)) ∧ ArrOfT s cA ty ∧ va_RA s cA ty
  | .inl (ty, n, .inr (.inr f)) => ∃ C cA f', ty = .object C ∧ e = .inl (cA, n, .inr (.inr (.inr (.inr f')))) ∧ ArrOfT s cA ty ∧ va_RA s cA ty ∧ ∀ i, i < n → ∀ k, f i = some k → ∃ a, σ[k]? = some a ∧ f' i = some a
  | .inr (ci, fs) => ∃ fs', e = .inr (ci, fs') ∧ amSR σ fs fs'
theorem amCR_mono {s : State} {σ σ' : List Nat} (he : amExt σ σ') {c : amC} {e : va_E} (h : amCR s σ c e) : amCR s σ' c e := by
  rcases c with ⟨ty, n, f | f | f⟩ | ⟨ci, fs⟩
  · exact h
  · exact h
  · obtain ⟨C, cA, f', h1, h2, h3, h4, h5⟩ := h
    exact ⟨C, cA, f', h1, h2, h3, h4, fun i hi k hk => by obtain ⟨a, b1, b2⟩ := h5 i hi k hk; exact ⟨a, he k a b1, b2⟩⟩
  · obtain ⟨fs', h1, h2⟩ := h
    exact ⟨fs', h1, amSR_mono he h2⟩
theorem amCR_moved {s U : State} (hvm : s.vm.Alike U.vm) {σ : List Nat} {c : amC} {e : va_E} (h : amCR s σ c e) : amCR U σ c e := by
  rcases c with ⟨ty, n, f | f | f⟩ | ⟨ci, fs⟩
  · obtain ⟨h0, cA, h1, h2, h3⟩ := h
    exact ⟨h0, cA, h1, arrOfT_moved hvm h2, h3.moved hvm⟩
  · obtain ⟨h0, cA, h1, h2, h3⟩ := h
    exact ⟨h0, cA, h1, arrOfT_moved hvm h2, h3.moved hvm⟩
  · obtain ⟨C, cA, f', h1, h2, h3, h4, h5⟩ := h
    exact ⟨C, cA, f', h1, h2, arrOfT_moved hvm h3, h4.moved hvm, h5⟩
  · exact h
def amWR (s : State) (σ : List Nat) (hs : amH) (ws : va_W) : Prop := σ.length = hs.length ∧ hs.length = ws.length + 1 ∧ ∀ (k : Nat) (c : amC), hs[k + 1]? = some c → ∃ a e, ws[k]? = some (a, e) ∧ σ[k + 1]? = some a ∧ amCR s σ c e
theorem amWR_moved {s U : State} (hvm : s.vm.Alike U.vm) {σ : List Nat} {hs : amH} {ws : va_W} (h : amWR s σ hs ws) : amWR U σ hs ws :=
  ⟨h.1, h.2.1, fun k c hk => by obtain ⟨a, e, h1, h2, h3⟩ := h.2.2 k c hk; exact ⟨a, e, h1, h2, amCR_moved hvm h3⟩⟩
theorem amWR_get {s : State} {σ : List Nat} {hs : amH} {ws : va_W} (h : amWR s σ hs ws) {k a : Nat} {c : amC} (hk : hs[k]? = some c) (h0 : k ≠ 0) (ha : σ[k]? = some a) : ∃ e, ws[k - 1]? = some (a, e) ∧ amCR s σ c e := by
  obtain ⟨j, rfl⟩ : ∃ j, k = j + 1 := ⟨k - 1, by omega⟩
  obtain ⟨a2, e, h1, h2, h3⟩ := h.2.2 j c hk
  rw [ha] at h2
  cases h2
  exact ⟨e, h1, h3⟩
theorem amWR_set {s : State} {σ : List Nat} {hs : amH} {ws : va_W} (h : amWR s σ hs ws) {k a : Nat} {c : amC} {e e0 : va_E} (hw : ws[k]? = some (a, e0)) (hc : amCR s σ c e) : amWR s σ (hs.set (k + 1) c) (ws.set k (a, e)) := by
  refine ⟨by rw [List.length_set]; exact h.1, by rw [List.length_set, List.length_set]; exact h.2.1, fun j c2 hj => ?_⟩
  have hl := (List.getElem?_eq_some_iff.mp hw).1
  by_cases hjk : j = k
  · subst hjk
    rw [List.getElem?_set_self (by rw [h.2.1]; omega)] at hj
    cases hj
    have hx : j + 1 < hs.length := by rw [h.2.1]; omega
    obtain ⟨a2, e2, h1, h2, -⟩ := h.2.2 j _ (List.getElem?_eq_getElem hx)
    rw [hw] at h1
    cases h1
    exact ⟨a, e, by rw [List.getElem?_set_self hl], h2, hc⟩
  · rw [List.getElem?_set_ne (by omega)] at hj
    obtain ⟨a2, e2, h1, h2, h3⟩ := h.2.2 j c2 hj
    exact ⟨a2, e2, by rw [List.getElem?_set_ne (Ne.symm hjk)]; exact h1, h2, h3⟩
theorem amWR_push {s : State} {σ : List Nat} {hs : amH} {ws : va_W} (h : amWR s σ hs ws) {a : Nat} {c : amC} {e : va_E} (hc : amCR s (σ ++ [a]) c e) : amWR s (σ ++ [a]) (hs ++ [c]) (ws ++ [(a, e)]) := by
  have h1 := h.1
  have h2 := h.2.1
  refine ⟨by simp [h1], by simp [h2], fun j c2 hj => ?_⟩
  by_cases hjl : j + 1 < hs.length
  · rw [List.getElem?_append_left hjl] at hj
    obtain ⟨a2, e2, b1, b2, b3⟩ := h.2.2 j c2 hj
    exact ⟨a2, e2, by rw [List.getElem?_append_left (List.getElem?_eq_some_iff.mp b1).1]; exact b1, amExt_push _ _ b2, amCR_mono amExt_push b3⟩
  · have hj1 : j + 1 < (hs ++ [c]).length := (List.getElem?_eq_some_iff.mp hj).1
    have hj2 : j + 1 = hs.length := by simp at hj1; omega
    rw [hj2] at hj ⊢
    have hjw : j = ws.length := by omega
    simp at hj
    subst hj
    exact ⟨a, e, by rw [hjw]; simp, by rw [← h1]; simp, hc⟩
