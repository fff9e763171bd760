/-! a contract out of a run of the abstract machine; by hand -/
theorem amBad_use {s : State} {args : Array Value} (h : ∀ w ∈ amBad, va_Nw w s) : ∀ w ∈ amBad, w.before args s = true := by
  unfold amBad at h ⊢
  simp only [List.forall_mem_cons] at h ⊢
  obtain ⟨h1, h2, h3, h4, h5, h6, h7⟩ := h
  exact ⟨va_Nw.use rfl h1, va_Nw.use rfl h2, va_Nw.use rfl h3, va_Nw.use rfl h4, va_Nw.use rfl h5, va_Nw.use rfl h6, fun w hw => absurd hw List.not_mem_nil⟩
theorem am_nc {s : State} (h : ∀ q ∈ amNcs, va_Nc q.1 q.2 s) {E E' : Nat} (h1 : E = 1 ∨ E = 2 ∨ E = 3) (h2 : E' = 1 ∨ E' = 2 ∨ E' = 3) (hne : E' ≠ E) : va_Nc (amX E) (amX E') s := by
  unfold amNcs at h
  simp only [List.forall_mem_cons] at h
  obtain ⟨a1, a2, a3, a4, a5, a6, -⟩ := h
  rcases h1 with rfl | rfl | rfl <;> rcases h2 with rfl | rfl | rfl
  · exact absurd rfl hne
  · exact a1
  · exact a2
  · exact a3
  · exact absurd rfl hne
  · exact a4
  · exact a5
  · exact a6
  · exact absurd rfl hne
theorem am_cat {k : Nat} (h : amCat k ≠ 0) : amCat k = 1 ∨ amCat k = 2 ∨ amCat k = 3 := by
  unfold amCat at h ⊢
  split <;> simp at h ⊢
theorem am_hand {M pc E : Nat} {r : amRow × List (List amEnt)} (hr : amAll[M]? = some r) : amHand M pc E = (r.1.2.2.2.2.2.1.find? fun z => decide (z.1 ≤ pc) && decide (pc < z.2.1) && decide (amCat z.2.2.2 = E)).map fun z => z.2.2.1 := by
  unfold amHand
  rw [am_rowOf hr]
  rfl
theorem am_hnd {M : Nat} {r : amRow × List (List amEnt)} (hr : amAll[M]? = some r) : ∀ z ∈ r.1.2.2.2.2.2.1, r.1.1 = 5 ∧ amCat z.2.2.2 ≠ 0 := by
  have h := amHndAll r (List.mem_of_getElem? hr)
  unfold amHndK at h
  intro z hz
  have h1 := List.all_eq_true.mp h z hz
  simp only [Bool.and_eq_true, decide_eq_true_eq] at h1
  exact h1
/-- a row of the table that doesn't take the thrown class -/
theorem am_pass {M pc E : Nat} {r : amRow × List (List amEnt)} {s : State} {args : Array Value} (hr : amAll[M]? = some r) (hts : ∀ w ∈ amTB, w.before args s = true) (hnc : ∀ q ∈ amNcs, va_Nc q.1 q.2 s) (hE : E = 1 ∨ E = 2 ∨ E = 3) {z : Nat × Nat × Nat × Nat} (hz : z ∈ r.1.2.2.2.2.2.1) (hn : ¬ (decide (z.1 ≤ pc) && decide (pc < z.2.1) && decide (amCat z.2.2.2 = E)) = true) : covers ⟨z.1, z.2.1, z.2.2.1, z.2.2.2⟩ pc = false ∨ (z.2.2.2 ≠ 0 ∧ ∃ nm : String, (Cond.classLink (amN r.1.1) z.2.2.2 nm).before args s = true ∧ va_Nc (amX E) nm s) := by
  obtain ⟨h5, hc⟩ := am_hnd hr z hz
  obtain ⟨g1, g2⟩ := amHl _ hc
  by_cases hcat : amCat z.2.2.2 = E
  · refine Or.inl ?_
    rw [hcat] at hn
    simpa [covers] using hn
  · refine Or.inr ⟨g2, amX (amCat z.2.2.2), ?_, am_nc hnc hE (am_cat hc) hcat⟩
    rw [h5]
    exact hts _ g1
theorem am_F {A : Nat → Prop} {s t : State} {H : Heap} {locs : List Loc} (hS : va_S A s.heap H locs) (h1 : H.size ≤ t.heap.size) (h2 : ∀ q : Nat, q < H.size → t.heap[q]? = H[q]?) : va_F A s t :=
  ⟨Nat.le_trans hS.1 h1, fun q hq hn => (h2 q (Nat.lt_of_lt_of_le hq hS.1)).trans (hS.2.1 q hq hn)⟩
set_option maxHeartbeats 4000000 in
set_option maxRecDepth 100000 in
theorem amMet_body {n : Nat} {l : Launch} (hfl : l.stackTraces = false) (IH : amSnd n) {M : Nat} {r : amRow × List (List amEnt)} (hr : amAll[M]? = some r) (htg : amTgtP r.1) {as cas : List Value} {hs : amH} {o : amOut} {σ : List Nat} {D : va_G} {ws : va_W} {sz b L : Nat} {xs : Nat → Int32} (h : amRun n M 0 (amEntry as r.1.2.2.2.1) [] hs 0 0 = some o) (hsr : amSR σ as cas) (hc : ∀ v ∈ as, v.category = 1) (hn : as.length ≤ r.1.2.2.2.1)
    {p : Program} {e : Env} {s : State} {m : MethodId} {args : Array Value} {below : List Frame} {meth : Method} {c : Code} {s₁ : State} {rm : Room} (hrm : rm = { frames := r.1.2.2.2.2.2.2.1, cells := o.2.2.1, slots := o.2.2.2, locals := r.1.2.2.2.2.2.2.2 }) (B : BodyLoose p l r.1.2.1 (headSpec (amCW r.1 :: amTB) rm) r.1.2.2.1 r.1.2.2.2.1 r.1.2.2.2.2.1 e s m args below meth c s₁) (hml : c.maxLocals = r.1.2.2.2.1) (htab : c.exceptionTable.toList = tableOf r.1.2.2.2.2.2.1) (hv : va_Pc cas (amIn0 D ws σ hs b L xs sz) args s) :
    W p l e rm s m args below meth c s.heap [] 0 0 (vx_MQ below (amQc D ws sz σ o b L xs) (amXC D ws sz σ o b L xs) args s o.2.2.1 o.2.2.2 (va_A ws sz)) (entryFrame m args r.1.2.2.2.1) := by
  obtain ⟨t1, t2, t3, t4, t5, t6⟩ := htg
  obtain ⟨rfl, hsz, hP, hK, hD, hWR, hs0, hσ0, hX, hbl, hbA, hamb⟩ := hv
  have hts0 := atoms_spec (ws := amCW r.1 :: amTB) B.pre
  have hts : ∀ w ∈ amTB, w.before cas.toArray s = true := fun w hw => hts0 w (List.mem_cons_of_mem _ hw)
  have hown : s.vm.findClass (amN r.1.1) = some m.cls := by rw [← t3]; exact findClass_of_methodNamed B.named
  subst hsz
  rw [lg_entry_eq]
  have F : amFr p l s m cas.toArray meth c r.1 D (va_A ws s.heap.size) b L xs := ⟨B.exec, B.bytes, hml, hown, hts, B.returns, B.notSynchronized, htab, fun q => (name_of_methodNamed B.named B.method).1.trans q, hK, hX, hbl, hbA, fun q h => Or.inr h, hamb, hfl⟩
  have hlocks := B.notSynchronized
  have hx := B.exec
  have hb := B.bytes
  have hret := B.returns
  subst hrm
  obtain ⟨z1, z2, z3, z4, z5, z6, z7⟩ := id hamb
  refine IH p l e _ s m _ below meth c _ D (va_A ws s.heap.size) b L xs M r F hr (Nat.le_refl _) (Nat.le_refl _) 0 _ [] hs 0 0 o h σ ws s.heap [] _ [] ⟨hP, hD.self, va_S.rf, hWR, hs0, hσ0⟩ (am_entry hsr hc hn) trivial (Nat.le_refl _) (Nat.le_refl _) ⟨?_, ?_, ?_⟩
  · intro v hv pc' σ' ws' H' locs' cls' cst' he Y hst hsz hri
    obtain ⟨y1, y2, y3, y4, y5, y6⟩ := id Y
    obtain ⟨i, len, x, hf, hm⟩ := hri
    have hd := amFetch_dec hr hf
    have hck := amFetch_chk hr hf
    have hq : ∀ cv : Option Value, amSR σ' v.toList cv.toList → ∀ t : State, t.heap = H' → s.WarmedH t.vm → amQc D ws s.heap.size σ o b L xs cas.toArray s (.returned cv) t := fun cv hcv t ht hW => ⟨⟨v, cv, σ', ws', hv, rfl, hcv, he, by rw [ht]; exact y1, y2, amWR_moved hW.alike y4, y5, y6⟩, y3.F ht⟩
    cases v with
    | none =>
      have hc0 := amSR_nil hst
      subst hc0
      have hm2 : i = .return_ := hm
      subst hm2
      simp only [amChk, Bool.and_eq_true, decide_eq_true_eq] at hck
      obtain ⟨rfl, hck⟩ := hck
      have hrn : meth.sig.returnType = none := by
        rw [hret]
        split at hck
        · assumption
        · cases hck
      exact vx_ret (W.vret hx hb hrn (hq none trivial) y3.2.2 hd hlocks)
    | some v =>
      cases v with
      | int k =>
        obtain ⟨rfl, hok⟩ : i = .ireturn ∧ amRetOk M k = true := hm
        simp only [amChk, decide_eq_true_eq] at hck
        subst hck
        obtain ⟨c2, rfl, h2⟩ := amSR_int (x := k) (st := []) hst
        have h3 := amSR_nil h2
        subst h3
        unfold amRetOk at hok
        rw [am_rowOf hr] at hok
        simp only [Option.bind_some] at hok
        split at hok
        · rename_i ty hty
          exact vx_ret (W.zret hx hb (by rw [hret]; exact hty) (of_decide_eq_true hok) (hq (some (.int k)) ⟨rfl, trivial⟩) y3.2.2 hd hlocks)
        · cases hok
      | ref k =>
        have hm2 : i = .areturn := hm
        subst hm2
        simp only [amChk, Bool.and_eq_true, decide_eq_true_eq] at hck
        obtain ⟨rfl, hck⟩ := hck
        obtain ⟨a, c2, rfl, ha, h2⟩ := amSR_ref (k := k) (st := []) hst
        have h3 := amSR_nil h2
        subst h3
        split at hck
        · rename_i nm hty
          exact vx_ret (W.aret (rt := .object nm) hx hb (by rw [hret]; exact hty) (Or.inl ⟨_, rfl⟩) (Or.inr ⟨a, rfl⟩) (hq (some (.ref a)) ⟨⟨a, ha, rfl⟩, trivial⟩) y3.2.2 hd hlocks)
        · cases hck
      | _ => exact absurd hm id
  · intro E hE pc' σ' ws' H' locs' cls' cst' c' sl' k len x he Y hf hx1 hxE hsum hsz hc' hsl'
    obtain ⟨y1, y2, y3, y4, y5, y6⟩ := id Y
    have hd := amFetch_dec hr hf
    have hck := amFetch_chk hr hf
    have hth := amFetch_thr hr hf
    simp only [amChk, Bool.and_eq_true, decide_eq_true_eq] at hck
    obtain ⟨rfl, -⟩ := hck
    simp only [amThrChk, hx1, decide_true, Bool.not_true, Bool.false_or, Bool.and_eq_true, decide_eq_true_eq] at hth
    obtain ⟨⟨⟨⟨⟨⟨⟨⟨d3, d4⟩, d6⟩, d9⟩, h3⟩, hh⟩, hmem⟩, hrf⟩, hrl⟩ := hth
    rw [hxE] at hmem
    obtain ⟨g1, g2, ⟨tx, g3⟩, g4, g5, g6, g7, g8⟩ := amThrOk _ hmem
    obtain ⟨sa, hsa⟩ := z3 _ g3
    have hown3 : s.vm.findClass RX3 = some m.cls := by
      have h9 := hown
      rw [h3] at h9
      exact h9
    refine vx_throwS hx hb hfl (names := amNames) (A := va_A ws s.heap.size) hown3 g7 amNames_ok (hts _ g1) (hts _ g2) hsa (vx_hat (B := amBad) (fun w hw => hts w (g4 w hw)) g5 (amBad_use z7)) g6 z1 z2 y3 (by rw [hml]; exact hsz) hd (by rw [← hb] at d3; rw [← hb]; exact d3) (by rw [← hb] at d4; rw [← hb]; exact d4) (by rw [← hb] at d6; rw [← hb]; exact d6) (by rw [← hb] at d9; rw [← hb]; exact d9) (by rw [htab, hh]; intro q hq; cases hq) ?_ ?_ ?_ ?_ hlocks ?_ y3.2.2 (by omega) (by omega)
    · show 2 + 3 < r.1.2.2.2.2.2.2.1
      omega
    · show _ + (13 * (2 + 1) + 43) ≤ r.1.2.2.2.2.2.2.2
      omega
    · show c' + 1 ≤ o.2.2.1
      omega
    · show sl' + 6 ≤ o.2.2.2
      omega
    · intro t hal hs1 hs2
      exact ⟨⟨E, σ', ws', hE, rfl, g8, he, y1.kept (fun k2 q2 hq2 => hs2 _ (y1 k2 q2 hq2).lt), y2, amWR_moved hal y4, y5, y6⟩, am_F y3 hs1 hs2⟩
  · intro E hE hE3 pc' σ' ws' H' locs' cls' cst' q ce he Y hh hq hvm hcl
    obtain ⟨y1, y2, y3, y4, y5, y6⟩ := id Y
    rw [am_hand hr, Option.map_eq_none_iff, List.find?_eq_none] at hh
    refine vx_outP hown hlocks ?_ hq hvm hcl ?_ y3.2.2 (Nat.le_refl _) (Nat.le_refl _)
    · rw [htab]
      intro z hz
      obtain ⟨z0, hz0, rfl⟩ := List.mem_map.mp hz
      exact am_pass hr hts z4 hE3 hz0 (hh z0 hz0)
    · intro t ht hal
      exact ⟨⟨E, σ', ws', hE, rfl, hE3, he, by rw [ht]; exact y1, y2, amWR_moved hal y4, y5, y6⟩, y3.F ht⟩
theorem amMet_mk {n : Nat} {l : Launch} (hfl : l.stackTraces = false) (IH : amSnd n) {M : Nat} {r : amRow × List (List amEnt)} (hr : amAll[M]? = some r) (htg : amTgtP r.1) {as cas : List Value} {hs : amH} {o : amOut} {σ : List Nat} {D : va_G} {ws : va_W} {sz b L : Nat} {xs : Nat → Int32} (h : amRun n M 0 (amEntry as r.1.2.2.2.1) [] hs 0 0 = some o) (hsr : amSR σ as cas) (hc : ∀ v ∈ as, v.category = 1) (hn : as.length ≤ r.1.2.2.2.1) : amMet l r.1 o D ws sz σ hs b L xs cas := by
  unfold amMet
  cases hh : r.1.2.2.2.2.2.1 with
  | nil =>
    refine vx_ofW (cc := r.1.2.2.1) (maxL := r.1.2.2.2.1) (ret := r.1.2.2.2.2.1) htg.2.2.2.1 (ws' := amTB) (by unfold amCW; rw [hh]) ?_
    intro p e s m args below meth c s₁ B hml ht hv
    exact amMet_body hfl IH hr htg h hsr hc hn rfl B hml (by rw [hh]; exact List.eq_nil_iff_forall_not_mem.mpr ht) hv
  | cons z zs =>
    have hcw : amCW r.1 = Cond.codeWith r.1.2.1 r.1.2.2.1 r.1.2.2.2.1 r.1.2.2.2.2.1 (z :: zs) := by unfold amCW; rw [hh]
    refine vx_ofWH (cc := r.1.2.2.1) (maxL := r.1.2.2.2.1) (ret := r.1.2.2.2.2.1) (hh := z :: zs) htg.2.2.2.1 (ws' := amTB) (by rw [hcw]) ?_
    intro p e s m args below meth c s₁ B hml hv
    have h9 : (amCW r.1).before args s = true := atoms_spec (ws := amCW r.1 :: amTB) B.pre _ List.mem_cons_self
    rw [hcw] at h9
    exact amMet_body hfl IH hr htg h hsr hc hn rfl B hml (by rw [hh]; exact vx_table (x := r.1.2.1) B h9) hv
