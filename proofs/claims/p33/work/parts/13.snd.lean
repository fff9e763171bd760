/-! THE ABSTRACT MACHINE IS SOUND: what it answers, the machine does; by hand -/
set_option maxHeartbeats 4000000 in
theorem amCall_ok {n : Nat} (IH : amSnd n) {p : Program} {l : Launch} {e : Env} {R : Room} {s : State} {m : MethodId} {args : Array Value} {below : List Frame} {meth : Method} {cd : Code} {H : Heap} {locs : List Loc} {Q : State → Prop} {D : va_G} {A : Nat → Prop} {b L : Nat} {xs : Nat → Int32} {M : Nat} {r : amRow × List (List amEnt)} {σ : List Nat} {ws : va_W} {cls : Array Slot} {cst : List Value} {x : amRes} {pc c sl : Nat} {ls : amL} {st : List Value} {hs : amH} {o : amOut} {k : Nat}
    (F : amFr p l s m args meth cd r.1 D A b L xs) (hr : amAll[M]? = some r) (hRf : r.1.2.2.2.2.2.2.1 ≤ R.frames) (hRl : r.1.2.2.2.2.2.2.2 ≤ R.locals) (Y : amDy s D A σ hs ws H locs b L xs) (hl : amLR σ ls r.1.2.2.2.1 cls) (hst : amSR σ st cst) (hRc : o.2.2.1 ≤ R.cells) (hRs : o.2.2.2 ≤ R.slots) (h : amCall (amRun n) M x pc ls st hs c sl = some o)
    (K : amK p l e R s m args below meth cd Q D A b L xs M r.1.2.2.2.1 σ o) (hx0 : 0 ≤ x.2.2) (hlk : (r.1.1, k, x.1, x.2.1, x.2.2.toNat) ∈ amLnkL) (hro : amRoomOk r.1 x.2.1 = true)
    (hins : (x.1 = 0 ∧ decode r.1.2.2.1 pc = .ok (.invokevirtual k, 3)) ∨ ((x.1 = 1 ∨ x.1 = 2) ∧ decode r.1.2.2.1 pc = .ok (.invokestatic k, 3)) ∨ (x.1 = 3 ∧ decode r.1.2.2.1 pc = .ok (.invokespecial k, 3))) : W p l e R s m args below meth cd H locs c sl Q (F0 m pc cls cst) := by
  obtain ⟨hx, hb, hml, hown, hts, hret, hlocks, htab, hinit, hK, hX, hbl, hbA, hA, hamb, hfl⟩ := id F
  obtain ⟨hP, hD, hS, hWR, hs0, hσ0⟩ := id Y
  obtain ⟨z1, z2, z3, z4, z5, z6, z7⟩ := id hamb
  unfold amCall at h
  split at h
  · cases h
  · rename_i ow mL how
    obtain ⟨rt, hrt, rfl, rfl⟩ := am_own how
    split at h
    · cases h
    · rename_i as rest has
      obtain ⟨rfl, hlen, hcat, hsum, hthis⟩ := am_args has
      split at h
      · rename_i hle
        cases hq : amRun n x.2.1 0 (amEntry as rt.1.2.2.2.1) [] hs 0 0 with
        | none => rw [hq] at h; simp [amBack] at h
        | some o1 =>
          rw [hq] at h
          obtain ⟨ca, crest, rfl, hca, hrest⟩ := amSR_app hst
          obtain ⟨cas, rfl⟩ : ∃ z, ca = z.reverse := ⟨ca.reverse, by rw [List.reverse_reverse]⟩
          have hcas : amSR σ as cas := by
            have h9 := amSR_rev hca
            rw [List.reverse_reverse, List.reverse_reverse] at h9
            exact h9
          obtain ⟨hpn, htg, hkd⟩ := amLnkOk _ hlk rt hrt
          obtain ⟨t1, t2, t3, t4, t5, t6⟩ := id htg
          have hM := amMet_mk (D := D) (ws := ws) (sz := H.size) (b := b) (L := L) (xs := xs) hfl IH hrt htg hq hcas hcat hle
          have hroom := am_room hrt (am_lt hrt) hro
          have hge := amBack_ge h
          have hfits : c + o1.2.2.1 ≤ R.cells ∧ sl + o1.2.2.2 ≤ R.slots := ⟨by omega, by omega⟩
          have hcs : (crest.map fun v => v.category).sum ≤ 8 := by rw [amSR_sum hrest]; exact hsum
          have hwd : ∀ w ∈ amCW rt.1 :: amTB, w ∈ amTB := fun w hw => (List.mem_cons.mp hw).elim (fun q => by rw [q]; exact t1) id
          have hclen := amSR_len hcas
          have SF : CallFix p m cd r.1.2.2.1 r.1.2.2.2.1 s args amTB (amN r.1.1) := ⟨hx, hb, hml, hown, hts⟩
          have hpre : ∀ U : State, U.heap = H → s.WarmedH U.vm → va_Pc cas (amIn0 D ws σ hs b L xs H.size) cas.toArray U := fun U hU hW => ⟨rfl, amIn0_at F Y hU hW⟩
          have hRR : rt.1.2.2.2.2.2.2.1 + 1 ≤ R.frames ∧ 8 + (rt.1.2.2.2.1 + 11) + rt.1.2.2.2.2.2.2.2 ≤ R.locals := ⟨by omega, by omega⟩
          have hcode : rt.1.2.2.2.2.2.1 = [] → amCW rt.1 = Cond.code rt.1.2.1 rt.1.2.2.1 rt.1.2.2.2.1 rt.1.2.2.2.2.1 := fun q => by unfold amCW; rw [q]
          refine am_after IH F hr hRf hRl Y hl hrest hRc hRs h K (cas := cas) ?_
          rcases hins with ⟨hk0, hd⟩ | ⟨hk12, hd⟩ | ⟨hk3, hd⟩
          · -- virtual
            obtain ⟨a, fs, as2, rfl, hcell⟩ := hthis (Or.inl hk0)
            obtain ⟨a1, cas2, rfl, ha, hcas2⟩ := amSR_ref hcas
            have h0 : a ≠ 0 := fun z => by rw [z, hs0] at hcell; cases hcell
            obtain ⟨e1, hw, fs', rfl, -⟩ := amWR_get hWR hcell h0 ha
            simp only [hk0] at hkd
            obtain ⟨w1, w2, w3, w4, w5⟩ := hkd
            have hn : as2.length = x.2.2.toNat := by
              rw [if_pos (Or.inl hk0)] at hlen
              simpa using hlen
            have hrecv := va_recv hK hP (amCl_at _ w4) hw
            refine vx_runV (As := cas2) (rest := crest) SF (ret := rt.1.2.2.2.2.1) hM (cwV x.2.2.toNat hts (amGood ?_) (by rw [hcode w5]) rfl rfl ⟨t3, t5.1, t5.2, hpn⟩ hRR) ⟨amIn0_blind, hrecv, hpre⟩ rfl ?_ hl.1 ?_ ?_ hd hfits
            · intro w hw
              unfold wsV at hw
              rcases List.mem_append.mp hw with hw | hw
              · simp only [List.mem_cons, List.not_mem_nil, or_false] at hw
                rcases hw with rfl | rfl | rfl | rfl
                · exact w1
                · exact w2
                · rw [t3] at w3; exact w3
                · rw [t3] at t2; exact t2
              · exact hwd w hw
            · rw [amSR_len hcas2]; exact hn
            · simp
            · show 2 * 0 + _ ≤ 8
              omega
          · -- static
            have hno : ¬ (x.1 = 0 ∨ x.1 = 3) := by omega
            rw [if_neg hno] at hlen
            have hn : cas.length = x.2.2.toNat := by rw [hclen]; exact hlen
            rcases hk12 with hk1 | hk2
            · simp only [hk1] at hkd
              obtain ⟨w1, w2⟩ := hkd
              cases hh : rt.1.2.2.2.2.2.1 with
              | nil =>
                refine vx_runS (As := cas) (rest := crest) SF (ret := rt.1.2.2.2.2.1) hM ⟨callB_of x.2.2.toNat hts (amGood hwd) (by rw [hcode hh]) rfl rfl (hts _ t2) (hts _ w1) ⟨t5.1, t5.2, hpn⟩ hRR, hts _ w2⟩ ⟨amIn0_blind, hpre⟩ rfl hn hl.1 rfl ?_ hd hfits
                show 2 * 0 + _ ≤ 8
                omega
              | cons z zs =>
                have hcw : amCW rt.1 = Cond.codeWith rt.1.2.1 rt.1.2.2.1 rt.1.2.2.2.1 rt.1.2.2.2.2.1 (z :: zs) := by unfold amCW; rw [hh]
                refine vx_runSX (As := cas) (rest := crest) SF hM (vx_cwSW x.2.2.toNat hts (amGood ?_) (by rw [hcw]) rfl rfl ⟨t5.1, t5.2, hpn⟩ hRR) ⟨amIn0_blind, hpre⟩ rfl hn hl.1 rfl ?_ hd hfits
                · intro w hw
                  unfold va_wsS at hw
                  rcases List.mem_append.mp hw with hw | hw
                  · simp only [List.mem_cons, List.not_mem_nil, or_false] at hw
                    rcases hw with rfl | rfl | rfl
                    · exact w1
                    · exact w2
                    · exact t2
                  · exact hwd w hw
                · show 2 * 0 + _ ≤ 8
                  omega
            · simp only [hk2] at hkd
              obtain ⟨w1, w2, w5⟩ := hkd
              obtain ⟨res, hs1, dc, ds⟩ := o1
              cases res with
              | inr E => simp [amBack, hk2] at h
              | inl v =>
                refine am_runOf (va_runSN (As := cas) (rest := crest) SF (ret := rt.1.2.2.2.2.1) (am_metRet rfl hM) ⟨va_cnB x.2.2.toNat hts (amGood hwd) (by rw [hcode w5]) rfl rfl (z5 _ w1) (hts _ t2) ⟨t5.1, t5.2, hpn⟩ hRR, hts _ w2, trivial⟩ ⟨amIn0_blind, hpre⟩ rfl hn hl.1 rfl ?_ hd hfits)
                show 2 * 0 + _ ≤ 8
                omega
          · -- constructor
            obtain ⟨a, fs, as2, rfl, hcell⟩ := hthis (Or.inr hk3)
            obtain ⟨a1, cas2, rfl, ha, hcas2⟩ := amSR_ref hcas
            simp only [hk3] at hkd
            obtain ⟨w1, w2, w3, w4, w5, w6⟩ := hkd
            have hn : as2.length = x.2.2.toNat := by
              rw [if_pos (Or.inr hk3)] at hlen
              simpa using hlen
            obtain ⟨res, hs1, dc, ds⟩ := o1
            cases res with
            | inr E => simp [amBack, hk3] at h
            | inl v =>
              refine am_runOf (va_runI (As := cas2) (rest := crest) SF (am_metRet rfl hM) (cwI (bytes := rt.1.2.2.1) (maxL := rt.1.2.2.2.1) x.2.2.toNat hts (amGood hwd) (by rw [hcode w5, w4]) rfl rfl (hts _ t2) (hts _ w1) (hts _ w2) w3 ⟨t5.1, t5.2, hpn⟩ hRR) ⟨amIn0_blind, hpre⟩ rfl ?_ hl.1 ?_ ?_ hd hfits)
              · rw [amSR_len hcas2]; exact hn
              · simp
              · show 2 * 0 + _ ≤ 8
                omega
      · cases h
theorem amSR_def {σ : List Nat} (ci : Nat) : amSR σ (amDef ci) (amDef ci) := by
  unfold amDef
  split <;> simp [amSR, amVR]
theorem amDy_push {s : State} {D : va_G} {A : Nat → Prop} {σ : List Nat} {hs : amH} {ws : va_W} {H H1 : Heap} {locs locs1 : List Loc} {b L : Nat} {xs : Nat → Int32} (Y : amDy s D A σ hs ws H locs b L xs) {a : Nat} {c : amC} {e : va_E} (hc : amCR s (σ ++ [a]) c e) (hP : va_P D vwCl (ws ++ [(a, e)]) H1) (hD : va_D A (ws ++ [(a, e)])) (hS : va_S A s.heap H1 locs1) : amDy s D A (σ ++ [a]) (hs ++ [c]) (ws ++ [(a, e)]) H1 locs1 b L xs := by
  obtain ⟨y1, y2, y3, y4, y5, y6⟩ := Y
  exact ⟨hP, hD, hS, amWR_push y4 hc, by rw [List.getElem?_append_left (List.getElem?_eq_some_iff.mp y5).1]; exact y5, amExt_push _ _ y6⟩
theorem am_top {s : State} {σ : List Nat} {hs : amH} {ws : va_W} (h : amWR s σ hs ws) (q : Nat) : amVR (σ ++ [q]) (.ref hs.length) (.ref q) := ⟨q, by rw [← h.1]; simp, rfl⟩
set_option maxHeartbeats 4000000 in
theorem amSnd_succ {n : Nat} (IH : amSnd n) : amSnd (n + 1) := by
  intro p l e R s m args below meth cd Q D A b L xs M r F hr hRf hRl pc ls st hs c sl o h σ ws H locs cls cst Y hl hst hRc hRs K
  simp only [amRun] at h
  split at h
  · cases h
  · rename_i i len x hf
    split at h
    · rename_i pc' ls' st' hs' hstep
      have hm := amRun_mono _ _ _ _ _ _ _ _ _ h
      exact amStep_ok F hr hf hstep Y hl hst hRf hRl (by omega) (by omega) (fun ws' H' locs' cls' cst' Y' hl' hst' => IH p l e R s m args below meth cd Q D A b L xs M r F hr hRf hRl _ _ _ _ _ _ _ h σ ws' H' locs' cls' cst' Y' hl' hst' hRc hRs K)
    · rename_i hnone
      clear hnone
      have hmm := amMore_mono (amRun_mono n) h
      have hd := amFetch_dec hr hf
      have hck := amFetch_chk hr hf
      obtain ⟨hx, hb, hml, hown, hts, hret, hlocks, htab, hinit, hK, hX, hbl, hbA, hA, hamb, hfl⟩ := id F
      obtain ⟨hP, hD, hS, hWR, hs0, hσ0⟩ := id Y
      obtain ⟨z1, z2, z3, z4, z5, z6, z7⟩ := id hamb
      unfold amMore at h
      split at h
      · split at h
        · rename_i v
          split at h
          · rename_i hok
            cases h
            exact K.1 (some (.int v)) rfl pc σ ws H locs cls cst amExt_rf Y hst hl.1 ⟨_, _, _, hf, rfl, hok⟩
          · cases h
        · cases h
      · split at h
        · rename_i v
          cases h
          exact K.1 (some (.ref v)) rfl pc σ ws H locs cls cst amExt_rf Y hst hl.1 ⟨_, _, _, hf, rfl⟩
        · cases h
      · split at h
        · cases h
          exact K.1 none rfl pc σ ws H locs cls cst amExt_rf Y hst hl.1 ⟨_, _, _, hf, rfl⟩
        · cases h
      · rename_i k
        split at h
        · rename_i hx1
          split at h
          · rename_i hsum
            cases h
            exact K.2.1 _ rfl pc σ ws H locs cls cst c sl k len x amExt_rf Y hf hx1 rfl (by rw [amSR_sum hst]; exact hsum) hl.1 rfl rfl
          · cases h
        · rename_i hx1
          have hm := amRun_mono _ _ _ _ _ _ _ _ _ h
          simp only [amChk, Bool.and_eq_true, Bool.or_eq_true, decide_eq_true_eq] at hck
          obtain ⟨rfl, hck⟩ := hck
          rcases hck with hck | hck
          · exact absurd hck hx1
          · obtain ⟨c1, c2, c3, c5⟩ := amClsOk _ hck
            refine va_new (ci := x.2.1) (fs := amDef x.2.1) hx hb hts (amU_all _ c5) (amTy _) (amTy_ok _ c5) hown (hts _ c1) (hts _ c2) (hts _ c3) hK hP hD hS hA (amCl_at _ c5) (amDef_ok _ c5) (by omega) (show sl + amNF x.2.1 ≤ R.slots by omega) hd (fun q H1 hP1 hD1 hS1 => ?_)
            exact IH p l e R s m args below meth cd Q D A b L xs M r F hr hRf hRl _ _ _ _ _ _ _ h (σ ++ [q]) _ H1 locs cls (.ref q :: cst) (amDy_push Y ⟨amDef x.2.1, rfl, amSR_def _⟩ hP1 hD1 hS1) (amLR_mono amExt_push hl) (amSR_mk (am_top hWR q) (amSR_mono amExt_push hst)) hRc hRs (amK_mono amExt_push K)
      · split at h
        · rename_i nn st2
          obtain ⟨c2, rfl, hst2⟩ := amSR_int hst
          simp only [amChk, decide_eq_true_eq] at hck
          subst hck
          split at h
          · rename_i hq
            obtain ⟨hq1, hq2⟩ := hq
            split at h
            · have hm := amRun_mono _ _ _ _ _ _ _ _ _ h
              refine va_newa (a0 := (nn.toNatClampNeg, .inl (fun _ => 0))) (atype := .int) hx hb (hts _ amArr_int) rfl hK hP hD hS hA (fun cA => rfl) hq1 rfl (by show nn.toNatClampNeg * 4 ≤ 536870912; omega) (by omega) (by omega) hd (fun q cA H1 hK1 hP1 hD1 hS1 => ?_)
              have g := hK1.2 0 (cA, .int) rfl
              exact IH p l e R s m args below meth cd Q D A b L xs M r F hr hRf hRl _ _ _ _ _ _ _ h (σ ++ [q]) _ H1 locs cls (.ref q :: c2) (amDy_push Y ⟨Or.inl rfl, cA, rfl, g.1, g.2⟩ hP1 hD1 hS1) (amLR_mono amExt_push hl) (amSR_mk (am_top hWR q) (amSR_mono amExt_push hst2)) hRc hRs (amK_mono amExt_push K)
            · have hm := amRun_mono _ _ _ _ _ _ _ _ _ h
              refine va_newa (a0 := (nn.toNatClampNeg, .inl (fun _ => 0))) (atype := .boolean) hx hb (hts _ amArr_boolean) rfl hK hP hD hS hA (fun cA => rfl) hq1 rfl (by show nn.toNatClampNeg * 1 ≤ 536870912; omega) (by omega) (by omega) hd (fun q cA H1 hK1 hP1 hD1 hS1 => ?_)
              have g := hK1.2 0 (cA, .boolean) rfl
              exact IH p l e R s m args below meth cd Q D A b L xs M r F hr hRf hRl _ _ _ _ _ _ _ h (σ ++ [q]) _ H1 locs cls (.ref q :: c2) (amDy_push Y ⟨Or.inr rfl, cA, rfl, g.1, g.2⟩ hP1 hD1 hS1) (amLR_mono amExt_push hl) (amSR_mk (am_top hWR q) (amSR_mono amExt_push hst2)) hRc hRs (amK_mono amExt_push K)
            · cases h
          · cases h
        · cases h
      · split at h
        · rename_i k nn st2
          obtain ⟨c2, rfl, hst2⟩ := amSR_int hst
          split at h
          · rename_i hq
            obtain ⟨hq1, hq2, hq3⟩ := hq
            have hm := amRun_mono _ _ _ _ _ _ _ _ _ h
            simp only [amChk, Bool.and_eq_true, decide_eq_true_eq] at hck
            obtain ⟨rfl, hck⟩ := hck
            obtain ⟨g1, -, -, -⟩ := amClsOk _ hck
            rw [hq3] at g1 h
            refine va_newq (C := RX2) hx hb hown (hts _ g1) z6 hK hP hD hS hA hq1 rfl (by omega) (by omega) (by omega) hd (fun q cA H1 hK1 hP1 hD1 hS1 => ?_)
            have g := hK1.2 0 (cA, .object RX2) rfl
            exact IH p l e R s m args below meth cd Q D A b L xs M r F hr hRf hRl _ _ _ _ _ _ _ h (σ ++ [q]) _ H1 locs cls (.ref q :: c2) (amDy_push Y ⟨RX2, cA, (fun _ => none), rfl, rfl, g.1, g.2, fun i _ k2 hk2 => by cases hk2⟩ hP1 hD1 hS1) (amLR_mono amExt_push hl) (amSR_mk (am_top hWR q) (amSR_mono amExt_push hst2)) hRc hRs (amK_mono amExt_push K)
          · cases h
        · cases h
      · rename_i k
        split at h
        · rename_i hk
          simp only [amChk, Bool.and_eq_true, decide_eq_true_eq] at hck
          obtain ⟨⟨⟨⟨rfl, -⟩, h0⟩, hlk⟩, hro⟩ := hck
          exact amCall_ok IH F hr hRf hRl Y hl hst hRc hRs h K h0 hlk hro (Or.inl ⟨hk, hd⟩)
        · cases h
      · rename_i k
        split at h
        · rename_i hk
          simp only [amChk, Bool.and_eq_true, Bool.or_eq_true, decide_eq_true_eq] at hck
          obtain ⟨rfl, hck⟩ := hck
          rcases hck with ⟨⟨⟨-, h0⟩, hlk⟩, hro⟩ | ⟨⟨⟨h9, -⟩, -⟩, -⟩
          · exact amCall_ok IH F hr hRf hRl Y hl hst hRc hRs h K h0 hlk hro (Or.inr (Or.inl ⟨hk, hd⟩))
          · omega
        · cases h
      · rename_i k
        split at h
        · rename_i hk
          simp only [amChk, Bool.and_eq_true, Bool.or_eq_true, decide_eq_true_eq] at hck
          obtain ⟨rfl, hck⟩ := hck
          rcases hck with (⟨⟨⟨-, h0⟩, hlk⟩, hro⟩ | ⟨⟨⟨h9, -⟩, -⟩, -⟩) | h9
          · exact amCall_ok IH F hr hRf hRl Y hl hst hRc hRs h K h0 hlk hro (Or.inr (Or.inr ⟨hk, hd⟩))
          · omega
          · omega
        · cases h
      · cases h
theorem amSnd_all : ∀ n, amSnd n
  | 0 => by
    intro p l e R s m args below meth cd Q D A b L xs M r F hr hRf hRl pc ls st hs c sl o h
    simp [amRun] at h
  | n + 1 => amSnd_succ (amSnd_all n)
