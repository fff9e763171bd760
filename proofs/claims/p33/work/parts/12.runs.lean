/-! runs with calls; by hand -/
theorem amSR_append {σ : List Nat} : ∀ {a ca b cb : List Value}, amSR σ a ca → amSR σ b cb → amSR σ (a ++ b) (ca ++ cb)
  | [], [], _, _, _, h => h
  | v :: a, w :: ca, _, _, h, h2 => ⟨h.1, amSR_append h.2 h2⟩
  | [], _ :: _, _, _, h, _ => absurd h id
  | _ :: _, [], _, _, h, _ => absurd h id
theorem amBack_ge {n M : Nat} {x : amRes} {pc : Nat} {ls : amL} {rest : List Value} {c s : Nat} {o1 o : amOut} (h : amBack (amRun n) M x pc ls rest c s (some o1) = some o) : c + o1.2.2.1 ≤ o.2.2.1 ∧ s + o1.2.2.2 ≤ o.2.2.2 := by
  obtain ⟨res, hs1, dc, ds⟩ := o1
  cases res with
  | inl v =>
    simp only [amBack] at h
    exact amRun_mono _ _ _ _ _ _ _ _ _ h
  | inr E =>
    simp only [amBack] at h
    split at h
    · cases h
    · split at h
      · cases h; exact ⟨Nat.le_refl _, Nat.le_refl _⟩
      · split at h
        · exact amRun_mono _ _ _ _ _ _ _ _ _ h
        · exact amRun_mono _ _ _ _ _ _ _ _ _ h
        · cases h
theorem am_part {A : Nat → Prop} {ws : va_W} {s : State} {H : Heap} {locs : List Loc} (hD : va_D A ws) (hS : va_S A s.heap H locs) (hA : ∀ q, s.heap.size ≤ q → A q) : ∀ q, va_A ws H.size q → A q := by
  intro q h
  rcases h with ⟨k, e, h⟩ | h
  · exact hD.2 k (q, e) h
  · exact hA q (Nat.le_trans hS.1 h)
theorem amIn0_blind {D : va_G} {ws : va_W} {σ : List Nat} {hs : amH} {b L : Nat} {xs : Nat → Int32} {sz : Nat} {cas : List Value} : FrameBlind (va_Pc cas (amIn0 D ws σ hs b L xs sz)) := by
  intro a U g mk h
  obtain ⟨q0, q1, q2, q3, q4, q5, q6, q7, q8, q9, q10, q11⟩ := h
  exact ⟨q0, q1, q2, va_K.moved (u := U) (U := U.calling g mk a) (Vm.Alike.refl U.vm) q3, q4, amWR_moved (s := U) (U := U.calling g mk a) (Vm.Alike.refl U.vm) q5, q6, q7, va_X.moved (u := U) (U := U.calling g mk a) (Vm.Alike.refl U.vm) q8, q9, q10, amAmb_use (U := U.calling g mk a) q11 va_S.rf (fun _ h => h) rfl (State.WarmedH.refl U)⟩
theorem amIn0_at {p : Program} {l : Launch} {s : State} {m : MethodId} {args : Array Value} {meth : Method} {cd : Code} {r : amRow} {D : va_G} {A : Nat → Prop} {b L : Nat} {xs : Nat → Int32} {σ : List Nat} {hs : amH} {ws : va_W} {H : Heap} {locs : List Loc} (F : amFr p l s m args meth cd r D A b L xs) (Y : amDy s D A σ hs ws H locs b L xs) {U : State} (hU : U.heap = H) (hW : s.WarmedH U.vm) : amIn0 D ws σ hs b L xs H.size U := by
  obtain ⟨hx, hb, hml, hown, hts, hret, hlocks, htab, hinit, hK, hX, hbl, hbA, hA, hamb, hfl⟩ := F
  obtain ⟨hP, hD, hS, hWR, hs0, hσ0⟩ := Y
  have hAA := am_part hD hS hA
  refine ⟨by rw [hU], by rw [hU]; exact hP, va_K.moved hW.alike hK, hD.weaken (fun _ _ _ _ => trivial), amWR_moved hW.alike hWR, hs0, hσ0, ?_, ?_, fun h => hbA (hAA b h), amAmb_use hamb hS hAA hU hW⟩
  · rw [hU]; exact va_X.moved hW.alike (hX.kept (hS.2.1 b hbl hbA))
  · rw [hU]; exact Nat.lt_of_lt_of_le hbl hS.1
set_option maxHeartbeats 4000000 in
theorem am_after {n : Nat} (IH : amSnd n) {p : Program} {l : Launch} {e : Env} {R : Room} {s : State} {m : MethodId} {args : Array Value} {below : List Frame} {meth : Method} {cd : Code} {H : Heap} {locs : List Loc} {Q : State → Prop} {D : va_G} {A : Nat → Prop} {b L : Nat} {xs : Nat → Int32} {M : Nat} {r : amRow × List (List amEnt)} {σ : List Nat} {ws : va_W} {cls : Array Slot} {cst crest cas : List Value} {x : amRes} {pc c sl : Nat} {ls : amL} {rest : List Value} {hs : amH} {o o1 : amOut}
    (F : amFr p l s m args meth cd r.1 D A b L xs) (hr : amAll[M]? = some r) (hRf : r.1.2.2.2.2.2.2.1 ≤ R.frames) (hRl : r.1.2.2.2.2.2.2.2 ≤ R.locals) (Y : amDy s D A σ hs ws H locs b L xs) (hl : amLR σ ls r.1.2.2.2.1 cls) (hrest : amSR σ rest crest) (hRc : o.2.2.1 ≤ R.cells) (hRs : o.2.2.2 ≤ R.slots) (h : amBack (amRun n) M x pc ls rest c sl (some o1) = some o)
    (K : amK p l e R s m args below meth cd Q D A b L xs M r.1.2.2.2.1 σ o)
    (hrun : vx_Run p l e R s m args below meth cd H locs c sl o1.2.2.1 o1.2.2.2 (F0 m pc cls cst) crest (amQc D ws H.size σ o1 b L xs cas.toArray) (amXC D ws H.size σ o1 b L xs) (va_A ws H.size)) : W p l e R s m args below meth cd H locs c sl Q (F0 m pc cls cst) := by
  obtain ⟨hx, hb, hml, hown, hts, hret, hlocks, htab, hinit, hK, hX, hbl, hbA, hA, hamb, hfl⟩ := id F
  obtain ⟨hP, hD, hS, hWR, hs0, hσ0⟩ := id Y
  obtain ⟨z1, z2, z3, z4, z5, z6, z7⟩ := id hamb
  have hAA := am_part hD hS hA
  obtain ⟨res, hs1, dc, ds⟩ := o1
  intro T hT X
  rcases hrun T hT X with ⟨v, st₀, t, T', L9, h0, X', hL, e1, e2, ⟨⟨v1, cv, σ', ws', hv, hcv, hsr', hend⟩, hF⟩, st⟩ | ⟨q, st₀, t, T', L9, E', ce, h0, X', hL, e1, e2, ⟨⟨E, σ', ws', hE, rfl, hE3, hend⟩, hF⟩, hce, hvm, hcl, st⟩
  · cases hcv
    have hv2 : res = .inl v1 := hv
    subst hv2
    simp only [amBack] at h
    obtain ⟨he, P1, D1, W1, s1, σ1⟩ := hend
    obtain ⟨k1, k2, k3⟩ := vx_keep h0 e1 hS (fun q _ z => hAA q z) hAA hL hF
    have hal : s.vm.Alike t.vm := by rw [← e2]; exact X'.warmed.alike
    have Y' : amDy s D A σ' hs1 ws' T'.heap (locs ++ L9) b L xs := ⟨by rw [e1]; exact P1, D1.weaken (fun _ q _ z => hAA q.1 z), k3, amWR_moved hal.symm W1, s1, σ1⟩
    have W2 := IH p l e R s m args below meth cd Q D A b L xs M r F hr hRf hRl _ _ _ _ _ _ _ h σ' ws' T'.heap (locs ++ L9) cls (v.toList ++ crest) Y' (amLR_mono he hl) (amSR_append hsr' (amSR_mono he hrest)) hRc hRs (amK_mono he K)
    obtain ⟨t2, a1, b1⟩ := W2 T' rfl X'
    exact ⟨t2, st t2 a1, b1⟩
  · have hv2 : res = .inr E := hE
    subst hv2
    obtain ⟨he, P1, D1, W1, s1, σ1⟩ := hend
    obtain ⟨k1, k2, k3⟩ := vx_keep h0 e1 hS (fun q _ z => hAA q z) hAA hL hF
    have hal : s.vm.Alike t.vm := by rw [← e2]; exact X'.warmed.alike
    have Y' : amDy s D A σ' hs1 ws' T'.heap (locs ++ L9) b L xs := ⟨by rw [e1]; exact P1, D1.weaken (fun _ q _ z => hAA q.1 z), k3, amWR_moved hal.symm W1, s1, σ1⟩
    have hce' : T'.heap[q]? = some ce := by rw [e1]; exact hce
    have W2 : vx_W p l e R s m args below meth cd T'.heap (locs ++ L9) (c + dc) (sl + ds) Q (F0 m pc cls crest) q := by
      simp only [amBack] at h
      split at h
      · cases h
      · cases hh : amHand M pc E with
        | none =>
          rw [hh] at h
          cases h
          exact K.2.2 E rfl hE3 pc σ' ws' T'.heap (locs ++ L9) cls crest q ce he Y' hh hce' hvm hcl
        | some hp =>
          rw [hh] at h
          rw [am_hand hr, Option.map_eq_some_iff] at hh
          obtain ⟨z, hz, rfl⟩ := hh
          obtain ⟨hpz, pre, suf, hspl, hpre⟩ := List.find?_eq_some_iff_append.mp hz
          simp only [Bool.and_eq_true, decide_eq_true_eq] at hpz
          obtain ⟨⟨c1, c2⟩, c3⟩ := hpz
          have hzm : z ∈ r.1.2.2.2.2.2.1 := by rw [hspl]; exact List.mem_append_right _ List.mem_cons_self
          obtain ⟨w5, w6⟩ := am_hnd hr z hzm
          obtain ⟨w7, w8⟩ := amHl _ w6
          rw [c3] at w7
          refine vx_catch (name := amX E) hown (pre.map fun q => (⟨q.1, q.2.1, q.2.2.1, q.2.2.2⟩ : ExceptionTableEntry)) ⟨z.1, z.2.1, z.2.2.1, z.2.2.2⟩ (suf.map fun q => (⟨q.1, q.2.1, q.2.2.1, q.2.2.2⟩ : ExceptionTableEntry)) ?_ ?_ (by simp [covers, c1, c2]) w8 (by rw [w5]; exact hts _ w7) ?_ hce' hvm hcl ?_
          · rw [htab, hspl]
            unfold tableOf
            rw [List.map_append, List.map_cons]
          · intro y hy
            obtain ⟨y0, hy0, rfl⟩ := List.mem_map.mp hy
            have hn := hpre y0 hy0
            refine am_pass hr hts z4 hE3 (by rw [hspl]; exact List.mem_append_left _ hy0) ?_
            intro hcon
            rw [hcon] at hn
            cases hn
          · rcases hE3 with rfl | rfl | rfl
            · exact amBad_use z7 _ (List.mem_cons_self)
            · exact amBad_use z7 _ (List.mem_cons_of_mem _ List.mem_cons_self)
            · exact amBad_use z7 _ (List.mem_cons_of_mem _ (List.mem_cons_of_mem _ List.mem_cons_self))
          · show W p l e R s m args below meth cd T'.heap (locs ++ L9) (c + dc) (sl + ds) Q (F0 m z.2.2.1 cls [.ref q])
            dsimp only at h
            split at h
            · rename_i k w hf
              obtain ⟨len, y⟩ := w
              have hd := amFetch_dec hr hf
              have hck := amFetch_chk hr hf
              simp only [amChk, Bool.and_eq_true, decide_eq_true_eq] at hck
              obtain ⟨rfl, hck⟩ := hck
              obtain ⟨ls2, f1, f2⟩ := amLR_none (w := .ref q) (amLR_mono he hl) hck rfl
              exact aw_astore hx hb hd f1 (IH p l e R s m args below meth cd Q D A b L xs M r F hr hRf hRl _ _ _ _ _ _ _ h σ' ws' T'.heap (locs ++ L9) ls2 [] Y' f2 trivial hRc hRs (amK_mono he K))
            · rename_i k w hf
              obtain ⟨len, y⟩ := w
              have hd := amFetch_dec hr hf
              have hck := amFetch_chk hr hf
              simp only [amChk, Bool.and_eq_true, decide_eq_true_eq] at hck
              obtain ⟨rfl, hck⟩ := hck
              obtain ⟨ls2, f1, f2⟩ := amLR_none (w := .ref q) (amLR_mono he hl) hck rfl
              exact aw_astore_n hx hb hd f1 (IH p l e R s m args below meth cd Q D A b L xs M r F hr hRf hRl _ _ _ _ _ _ _ h σ' ws' T'.heap (locs ++ L9) ls2 [] Y' f2 trivial hRc hRs (amK_mono he K))
            · cases h
    obtain ⟨t2, a1, b1⟩ := W2 T' rfl X'
    exact ⟨t2, st.trans a1, b1⟩
theorem am_runOf {p : Program} {l : Launch} {e : Env} {R : Room} {s : State} {m : MethodId} {args : Array Value} {below : List Frame} {meth : Method} {c : Code} {H : Heap} {locs : List Loc} {cells slots mc ms : Nat} {g : JFrame} {rest : List Value} {Qa : State → Outcome → State → Prop} {XC : String → State → State → Prop} {free : Addr → Prop} (h : va_Run p l e R s m args below meth c H locs cells slots mc ms g rest Qa free) : vx_Run p l e R s m args below meth c H locs cells slots mc ms g rest Qa XC free := fun T hT X => Or.inl (h T hT X)
theorem am_metRet {l : Launch} {y : MethodName} {wds : List Cond} {rm : Room} {Pc : Array Value → State → Prop} {mc ms : Nat} {free : Addr → Prop} {D : va_G} {ws : va_W} {sz : Nat} {σ : List Nat} {o : amOut} {b L : Nat} {xs : Nat → Int32} {v : Option Value} (hv : o.1 = .inl v) (h : vx_Met l y wds rm Pc (amQc D ws sz σ o b L xs) (amXC D ws sz σ o b L xs) mc ms free) : Met l y wds rm Pc (amQc D ws sz σ o b L xs) mc ms free := by
  intro p e ha hc hk s m args below hf happ hP hK
  obtain ⟨n, oc, h1, h2, h3, h4⟩ := h p e ha hc hk s m args below hf happ hP hK
  refine ⟨n, oc, h1, h2, h3, ?_⟩
  rcases h4 with h4 | ⟨q, -, E, ce, L9, ⟨⟨E', σ', ws', hE, -⟩, -⟩, -⟩
  · exact h4
  · rw [hv] at hE
    cases hE
theorem am_room {r : amRow} {tg : Nat} {rt : amRow × List (List amEnt)} (hrt : amAll[tg]? = some rt) (htl : tg < 100) (h : amRoomOk r tg = true) : rt.1.2.2.2.2.2.2.1 + 1 ≤ r.2.2.2.2.2.2.1 ∧ 8 + (rt.1.2.2.2.1 + 11) + rt.1.2.2.2.2.2.2.2 ≤ r.2.2.2.2.2.2.2 := by
  unfold amRoomOk at h
  rw [amRmAll tg htl rt hrt] at h
  simp only [Bool.and_eq_true, decide_eq_true_eq] at h
  exact h
theorem am_allLen : amAll.length = 100 := by decide +kernel
theorem am_lt {tg : Nat} {rt : amRow × List (List amEnt)} (h : amAll[tg]? = some rt) : tg < 100 := by
  have h1 := (List.getElem?_eq_some_iff.mp h).1
  rw [am_allLen] at h1
  exact h1
