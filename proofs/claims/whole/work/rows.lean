section
-- ===== PART A: goes FIRST, ahead of the names: the tables' words, and 'selects' of the private methods out of them =====
/-- a private method of a class that the tables say can be made, by its rows of tables_1 -/
def lw_okq (q : MethodName × Nat) : Prop := (q.1.cls ≠ "java/lang/invoke/MethodHandle" ∧ q.1.cls ≠ "java/lang/invoke/VarHandle") ∧ Cond.instantiable q.1.cls q.2 ∈ tables_1 ∧ Cond.privateMethod q.1 ∈ tables_1 ∧ Cond.instanceMethod q.1 ∈ tables_1
theorem lw_p0 : lw_okq (⟨"QuotientQuoin", "tableOf", "(I)LQuotientQuoin$Table;"⟩, 5) := ⟨⟨by decide +kernel, by decide +kernel⟩, List.mem_of_getElem? (i := 14) (by decide +kernel), List.mem_of_getElem? (i := 124) (by decide +kernel), List.mem_of_getElem? (i := 125) (by decide +kernel)⟩
theorem lw_p1 : lw_okq (⟨"java/lang/Throwable", "fillInStackTrace", "(I)Ljava/lang/Throwable;"⟩, 6) := ⟨⟨by decide +kernel, by decide +kernel⟩, List.mem_of_getElem? (i := 166) (by decide +kernel), List.mem_of_getElem? (i := 164) (by decide +kernel), List.mem_of_getElem? (i := 165) (by decide +kernel)⟩
theorem lw_p2 : lw_okq (⟨"QuotientQuoin", "putIn", "(LQuotientQuoin$Table;II)I"⟩, 5) := ⟨⟨by decide +kernel, by decide +kernel⟩, List.mem_of_getElem? (i := 14) (by decide +kernel), List.mem_of_getElem? (i := 197) (by decide +kernel), List.mem_of_getElem? (i := 198) (by decide +kernel)⟩
theorem lw_p3 : lw_okq (⟨"QuotientQuoin", "takeOut", "(LQuotientQuoin$Table;II)I"⟩, 5) := ⟨⟨by decide +kernel, by decide +kernel⟩, List.mem_of_getElem? (i := 14) (by decide +kernel), List.mem_of_getElem? (i := 324) (by decide +kernel), List.mem_of_getElem? (i := 325) (by decide +kernel)⟩
theorem lw_p4 : lw_okq (⟨"QuotientQuoin", "resize", "(LQuotientQuoin$Table;I)I"⟩, 5) := ⟨⟨by decide +kernel, by decide +kernel⟩, List.mem_of_getElem? (i := 14) (by decide +kernel), List.mem_of_getElem? (i := 440) (by decide +kernel), List.mem_of_getElem? (i := 441) (by decide +kernel)⟩
theorem lw_p5 : lw_okq (⟨"QuotientQuoinModel", "goes", "(ZZ)Z"⟩, 8) := ⟨⟨by decide +kernel, by decide +kernel⟩, List.mem_of_getElem? (i := 618) (by decide +kernel), List.mem_of_getElem? (i := 671) (by decide +kernel), List.mem_of_getElem? (i := 672) (by decide +kernel)⟩
theorem lw_p6 : lw_okq (⟨"QuotientQuoinModel", "changes", "(III)Z"⟩, 8) := ⟨⟨by decide +kernel, by decide +kernel⟩, List.mem_of_getElem? (i := 618) (by decide +kernel), List.mem_of_getElem? (i := 675) (by decide +kernel), List.mem_of_getElem? (i := 676) (by decide +kernel)⟩
theorem lw_p7 : lw_okq (⟨"QuotientQuoinModel", "countEntries", "(I)I"⟩, 8) := ⟨⟨by decide +kernel, by decide +kernel⟩, List.mem_of_getElem? (i := 618) (by decide +kernel), List.mem_of_getElem? (i := 679) (by decide +kernel), List.mem_of_getElem? (i := 680) (by decide +kernel)⟩
theorem lw_p8 : lw_okq (⟨"QuotientQuoinModel", "slotsOf", "(I)I"⟩, 8) := ⟨⟨by decide +kernel, by decide +kernel⟩, List.mem_of_getElem? (i := 618) (by decide +kernel), List.mem_of_getElem? (i := 686) (by decide +kernel), List.mem_of_getElem? (i := 687) (by decide +kernel)⟩
theorem lw_p9 : lw_okq (⟨"QuotientQuoinModel", "isLaid", "(II)Z"⟩, 8) := ⟨⟨by decide +kernel, by decide +kernel⟩, List.mem_of_getElem? (i := 618) (by decide +kernel), List.mem_of_getElem? (i := 773) (by decide +kernel), List.mem_of_getElem? (i := 774) (by decide +kernel)⟩
theorem lw_p10 : lw_okq (⟨"QuotientQuoinModel", "lays", "(I)V"⟩, 8) := ⟨⟨by decide +kernel, by decide +kernel⟩, List.mem_of_getElem? (i := 618) (by decide +kernel), List.mem_of_getElem? (i := 777) (by decide +kernel), List.mem_of_getElem? (i := 778) (by decide +kernel)⟩
theorem lw_p11 : lw_okq (⟨"QuotientQuoinModel", "places", "(I)V"⟩, 8) := ⟨⟨by decide +kernel, by decide +kernel⟩, List.mem_of_getElem? (i := 618) (by decide +kernel), List.mem_of_getElem? (i := 781) (by decide +kernel), List.mem_of_getElem? (i := 782) (by decide +kernel)⟩
theorem lw_p12 : lw_okq (⟨"QuotientQuoinModel", "isEntry", "(I)Z"⟩, 8) := ⟨⟨by decide +kernel, by decide +kernel⟩, List.mem_of_getElem? (i := 618) (by decide +kernel), List.mem_of_getElem? (i := 785) (by decide +kernel), List.mem_of_getElem? (i := 786) (by decide +kernel)⟩
theorem lw_p13 : lw_okq (⟨"QuotientQuoinModel", "quotientIn", "(II)I"⟩, 8) := ⟨⟨by decide +kernel, by decide +kernel⟩, List.mem_of_getElem? (i := 618) (by decide +kernel), List.mem_of_getElem? (i := 797) (by decide +kernel), List.mem_of_getElem? (i := 798) (by decide +kernel)⟩
theorem lw_p14 : lw_okq (⟨"QuotientQuoinModel", "isMoved", "(II)Z"⟩, 8) := ⟨⟨by decide +kernel, by decide +kernel⟩, List.mem_of_getElem? (i := 618) (by decide +kernel), List.mem_of_getElem? (i := 813) (by decide +kernel), List.mem_of_getElem? (i := 814) (by decide +kernel)⟩
def lw_privs_1 : List (MethodName × Nat) := [(⟨"QuotientQuoin", "tableOf", "(I)LQuotientQuoin$Table;"⟩, 5), (⟨"java/lang/Throwable", "fillInStackTrace", "(I)Ljava/lang/Throwable;"⟩, 6), (⟨"QuotientQuoin", "putIn", "(LQuotientQuoin$Table;II)I"⟩, 5), (⟨"QuotientQuoin", "takeOut", "(LQuotientQuoin$Table;II)I"⟩, 5), (⟨"QuotientQuoin", "resize", "(LQuotientQuoin$Table;I)I"⟩, 5), (⟨"QuotientQuoinModel", "goes", "(ZZ)Z"⟩, 8), (⟨"QuotientQuoinModel", "changes", "(III)Z"⟩, 8), (⟨"QuotientQuoinModel", "countEntries", "(I)I"⟩, 8), (⟨"QuotientQuoinModel", "slotsOf", "(I)I"⟩, 8), (⟨"QuotientQuoinModel", "isLaid", "(II)Z"⟩, 8), (⟨"QuotientQuoinModel", "lays", "(I)V"⟩, 8), (⟨"QuotientQuoinModel", "places", "(I)V"⟩, 8), (⟨"QuotientQuoinModel", "isEntry", "(I)Z"⟩, 8), (⟨"QuotientQuoinModel", "quotientIn", "(II)I"⟩, 8), (⟨"QuotientQuoinModel", "isMoved", "(II)Z"⟩, 8)]
theorem lw_r1 : ∀ q ∈ lw_privs_1, lw_okq q := List.forall_mem_cons.mpr ⟨lw_p0, List.forall_mem_cons.mpr ⟨lw_p1, List.forall_mem_cons.mpr ⟨lw_p2, List.forall_mem_cons.mpr ⟨lw_p3, List.forall_mem_cons.mpr ⟨lw_p4, List.forall_mem_cons.mpr ⟨lw_p5, List.forall_mem_cons.mpr ⟨lw_p6, List.forall_mem_cons.mpr ⟨lw_p7, List.forall_mem_cons.mpr ⟨lw_p8, List.forall_mem_cons.mpr ⟨lw_p9, List.forall_mem_cons.mpr ⟨lw_p10, List.forall_mem_cons.mpr ⟨lw_p11, List.forall_mem_cons.mpr ⟨lw_p12, List.forall_mem_cons.mpr ⟨lw_p13, List.forall_mem_cons.mpr ⟨lw_p14, fun _ h => absurd h List.not_mem_nil⟩⟩⟩⟩⟩⟩⟩⟩⟩⟩⟩⟩⟩⟩⟩
def lw_privs : List (MethodName × Nat) := lw_privs_1
def lw_tbl : List Cond := k2_sels lw_privs ++ tables_1
theorem lw_privs_ok : ∀ q ∈ lw_privs, lw_okq q := lw_r1
-- ===== end of PART A; then your names; then what follows =====
/-! ===== BEGIN words of one list among another's, by their places ===== -/
theorem goodIn_r {big : List Cond} (ws : List Cond) (ps : List Nat) (hp : ws = ps.filterMap (fun i => big[i]?)) (h : ws.all goodWord = true) : GoodIn big ws := by
  intro w hw
  have h1 := List.all_eq_true.mp h w hw
  rw [hp] at hw
  obtain ⟨i, -, hi⟩ := List.mem_filterMap.mp hw
  have hm : w ∈ big := by first | exact List.mem_of_getElem? hi | exact List.getElem?_mem hi
  exact ⟨hm, good_of_word h1⟩
theorem goodIn_app {big a b : List Cond} (ha : GoodIn big a) (hb : GoodIn big b) : GoodIn big (a ++ b) := fun w h => (List.mem_append.mp h).elim (ha w) (hb w)
theorem goodIn_ca {big a b : List Cond} {c : Cond} (ha : GoodIn big (c :: a)) (hb : GoodIn big b) : GoodIn big (c :: (a ++ b)) := fun w h => (List.mem_cons.mp h).elim (fun e => ha w (List.mem_cons.mpr (Or.inl e))) (fun h => (List.mem_append.mp h).elim (fun h => ha w (List.mem_cons.mpr (Or.inr h))) (hb w))
theorem goodIn_sub {big ws : List Cond} (hm : ∀ w ∈ ws, w ∈ big) (h : ws.all goodWord = true) : GoodIn big ws := fun w hw => ⟨hm w hw, good_of_word (List.all_eq_true.mp h w hw)⟩
/-! ===== END ===== -/

/-! ===== BEGIN exceptions that leave a method, and their catching by the caller (launches without stack traces) ===== -/
section VXA
/-! The laws vx_back, vx_callV, vx_callS, vx_callSW, vx_throw0, vx_throwS follow proofs of the library, with one case more: JvmDerived/Free/Laws.lean (Back.of_free), Shelf42/LK1.lean (callV, callS), Shelf/KitTraced.lean (throwNew0V, throwNewS). -/
/-- where a method has thrown q: the class by its name, the cell, what was written, the world -/
def vx_T (XC : String → State → State → Prop) (st : State) (q : Addr) (t : State) (mc ms : Nat) (free : Addr → Prop) : Prop :=
  ∃ (E : String) (ce : Cell) (L : List Loc), XC E st t ∧ t.heap[q]? = some ce ∧ ce.vm = .none ∧ st.vm.findClass E = some ce.cls ∧ st.WarmedH t.vm ∧ st.sameButNew ({ t with vm := st.vm } : State) L mc ms ∧ ∀ z ∈ L, free z.base
def vx_Q (Qc : Array Value → State → Outcome → State → Prop) (XC : String → State → State → Prop) (mc ms : Nat) (free : Addr → Prop) : Array Value → State → Outcome → State → Prop := fun a st o t =>
  (Qc a st o t ∧ ∃ L, FrameEnd st o t L mc ms ∧ ∀ q ∈ L, free q.base) ∨ ∃ q, o = .threw q ∧ vx_T XC st q t mc ms free
/-- a callee that returns or throws -/
def vx_Met (l : Launch) (y : MethodName) (ws : List Cond) (rm : Room) (Pc : Array Value → State → Prop) (Qc : Array Value → State → Outcome → State → Prop) (XC : String → State → State → Prop) (mc ms : Nat) (free : Addr → Prop) : Prop :=
  MetFree l y (headSpec ws rm) Pc (fun _ _ _ _ _ => True) (vx_Q Qc XC mc ms free)
def vx_Post (XC : String → State → State → Prop) (mc ms : Nat) (free : Addr → Prop) : Pt → Array Value → Addr → Pt → Prop := fun A a q B =>
  ∃ (g : JFrame) (mk : MethodId) (t : State) (L : List Loc) (E : String) (ce : Cell), B.U.heap = t.heap ∧ B.U.vm = t.vm ∧ XC E (A.U.calling g mk a) t ∧ t.heap[q]? = some ce ∧ ce.vm = .none ∧ A.U.vm.findClass E = some ce.cls ∧ B.locs = A.locs ++ L ∧ (∀ z ∈ L, free z.base) ∧ B.cells = A.cells + mc ∧ B.slots = A.slots + ms
def vx_Back (l : Launch) (R : Room) (p : Program) (e : Env) (below : List Frame) (s : State) (sargs : Array Value) (y : MethodName) (len W9 : Nat)
    (Pre : Pt → Array Value → Prop) (Post : Pt → Array Value → Option Value → Pt → Prop) (PostX : Pt → Array Value → Addr → Pt → Prop) : Prop :=
  ∀ (m : MethodId) (meth : Method) (c : Code) (A : Pt) (g : JFrame) (ig : Instr) (mk : MethodId) (a : Array Value),
    Stand p l e R s m sargs below meth c A.U A.locs A.cells A.slots → g.method = m → g.locals.size = c.maxLocals → decode c.code g.pc = .ok (ig, len) →
    2 * g.monitorRoom + (g.stack.map fun v => v.category).sum ≤ W9 → A.U.methodNamed? y = some mk → Pre A a →
    (∃ (v : Option Value) (B : Pt), Stand p l e R s m sargs below meth c B.U B.locs B.cells B.slots ∧ Post A a v B ∧
      Steps p.tables e below (doInvoke e (A.U.setTop g) [] mk a).1 (B.U.setTop { g with pc := g.pc + len, stack := v.toList ++ g.stack })) ∨
    (∃ (q : Addr) (B : Pt), Stand p l e R s m sargs below meth c B.U B.locs B.cells B.slots ∧ PostX A a q B ∧
      Steps p.tables e below (doInvoke e (A.U.setTop g) [] mk a).1 ((B.U.setTop g).pushFrame (.throwing q)))
section Payer
variable {l : Launch} {R : Room} {p : Program} {e : Env} {below : List Frame} {s : State} {sargs : Array Value} {y : MethodName} {len W9 : Nat}
theorem vx_back {ws : List Cond} {rm : Room} {Pc : Array Value → State → Prop} {Qc : Array Value → State → Outcome → State → Prop} {XC : String → State → State → Prop} {mc ms : Nat} {free : Addr → Prop} {bytes : ByteArray} {maxL : Nat} {ret : Option FieldType}
    (hM : vx_Met l y ws rm Pc Qc XC mc ms free) (hblind : FrameBlind Pc) (hrc : rm.cells = mc) (hrs : rm.slots = ms)
    (hframes : rm.frames + 1 ≤ R.frames) (hlocals : W9 + (maxL + 11) + rm.locals ≤ R.locals)
    (hws : ∀ w ∈ ws, ∀ a' U, s.WarmedH U.vm → w.before a' U = true) (hcode : Cond.code y bytes maxL ret ∈ ws) (hinit : ∀ a' U, s.WarmedH U.vm → (Cond.initialized y.cls).before a' U = true) :
    vx_Back l R p e below s sargs y len W9 (PreOf R mc ms Pc) (PostOf Qc mc ms free) (vx_Post XC mc ms free) := by
  intro m meth c A g ig mk a X hg hsize hdg hW hn hp
  have h1 : (headSpec ws rm).pre.before a A.U = true := atoms_intro fun w hw => hws w hw _ _ X.warmed
  have h2 : (Cond.code y bytes maxL ret).before a A.U = true := hws _ hcode _ _ X.warmed
  have h3 : (Cond.initialized y.cls).before a A.U = true := hinit _ _ X.warmed
  have h4 : A.cells + (headSpec ws rm).room.cells ≤ R.cells := by rw [show (headSpec ws rm).room.cells = mc from hrc]; exact hp.1
  have h5 : A.slots + (headSpec ws rm).room.slots ≤ R.slots := by rw [show (headSpec ws rm).room.slots = ms from hrs]; exact hp.2.1
  have hPc : Pc a (A.U.calling g mk a) := hblind _ _ _ _ hp.2.2
  obtain ⟨U, Ls, c0, s0⟩ := A
  dsimp only [Pt.U, Pt.locs, Pt.cells, Pt.slots] at h1 h2 h3 h4 h5 X hn hPc ⊢
  obtain ⟨methY, cY, hmY, hcY, -, hlY, -, -, -, -⟩ := Cond.code_spec hn h2
  obtain ⟨kY, hkY, -⟩ := className_of_methodNamed hn
  have hinitY : kY.init = .initialized := Cond.initialized_spec (findClass_of_methodNamed hn) hkY h3
  have h : At U g.method c below := by rw [hg]; exact X.here
  have hlocals9 : W9 + (maxL + 11) + (headSpec ws rm).room.locals ≤ R.locals := hlocals
  have happ : (headSpec ws rm).appliesLoose y e.platform (U.calling g mk a) = true :=
    Spec.appliesLoose_calling (g := g) h hdg hn hkY hinitY
      (X.room_calling (g := g) (R' := (headSpec ws rm).room) hsize hmY hcY hframes (by rw [hlY]; omega) h4 h5) h1
  obtain ⟨mid, hmid⟩ := h.above
  have hfr : (U.setTop g).frames = (.java g :: mid) ++ below := by rw [State.frames_setTop' g h.top, hmid]; rfl
  obtain ⟨o, s₂, hsteps, -, hend, hq⟩ := Steps.callFree hM p X.admits X.cas X.clock (acts := []) hfr happ hPc trivial
  have hq' : vx_Q Qc XC mc ms free a (U.calling g mk a) o s₂ := hq
  rw [State.frames_setTop' g h.top] at hend
  obtain ⟨g₀, hg0⟩ := Option.isSome_iff_exists.mp h.top
  obtain ⟨r, hr⟩ := State.topJava?_eq_some.mp hg0
  have hr' : (({ U with heap := s₂.heap, slotsUsed := s₂.slotsUsed } : State).setVm s₂.vm).frames = .java g₀ :: r := hr
  rcases hq' with ⟨hqc, L, hfe, hL⟩ | ⟨q, rfl, E, ce, L, hx, hce, hcv, hcl, hW₂, hsm, hL⟩
  · obtain ⟨⟨v, rfl⟩, hW₂, e2, q2, q3, q4, q5, q6⟩ := id hfe
    have e3 : s₂ = ({ (U.calling g mk a).setFrames s₂.frames with heap := s₂.heap, slotsUsed := s₂.slotsUsed } : State).setVm s₂.vm := by
      have : s₂ = ({ s₂ with vm := (U.calling g mk a).vm } : State).setVm s₂.vm := rfl
      rw [e2] at this
      exact this
    obtain ⟨c₂, i₂, len₂, hc₂, hd₂, hf₂⟩ := hend
    have hW' : U.WarmedH s₂.vm := hW₂
    have hcc : c₂ = c := by
      have h1 : s₂.code? g.method = U.code? g.method := by
        rw [State.code?_eq, State.code?_eq, hW'.alike.method?]
      exact Option.some.inj (hc₂.symm.trans (h1.trans h.code))
    subst hcc
    have hlen : len₂ = len := by rw [hdg] at hd₂; cases hd₂; rfl
    subst hlen
    have hs₂ : s₂ = (({ U with heap := s₂.heap, slotsUsed := s₂.slotsUsed } : State).setVm s₂.vm).setTop { g with pc := g.pc + len₂, stack := v.toList ++ g.stack } := by
      refine e3.trans ?_
      rw [hf₂, State.calling_eq h.top, State.setFrames_setFrames, State.setTop_of_frames _ hr', hr]
      rfl
    have hsame : U.sameButNew ({ U with heap := s₂.heap, slotsUsed := s₂.slotsUsed } : State) L mc ms := by
      refine ⟨?_, q2, q3, q4, q5, q6⟩
      obtain ⟨t, ht, -⟩ := State.frames_cons hr
      show ({ U with heap := s₂.heap, slotsUsed := s₂.slotsUsed } : State) = { U.setFrames U.frames with heap := s₂.heap, slotsUsed := s₂.slotsUsed }
      rw [State.setFrames_self ht]
    subst hg
    refine Or.inl ⟨v, ⟨(({ U with heap := s₂.heap, slotsUsed := s₂.slotsUsed } : State).setVm s₂.vm), Ls ++ L, c0 + mc, s0 + ms⟩,
      ⟨X.admits, X.cas, X.clock, X.frames, X.room, X.hears, X.method, X.code, (X.here.setHeapUsed s₂.heap s₂.slotsUsed).setVm hW'.alike, X.tail, State.WarmedH.trans X.warmed hW', X.limits, X.bytes, X.same.trans (hsame.setVm s.vm)⟩,
      ⟨g, mk, s₂, L, rfl, rfl, hqc, rfl, hL, rfl, rfl⟩, ?_⟩
    show Steps p.tables e below _ ((({ U with heap := s₂.heap, slotsUsed := s₂.slotsUsed } : State).setVm s₂.vm).setTop { g with pc := g.pc + len₂, stack := v.toList ++ g.stack })
    rw [← hs₂]
    exact hsteps
  · obtain ⟨e2, q2, q3, q4, q5, q6⟩ := id hsm
    have e3 : s₂ = ({ (U.calling g mk a).setFrames s₂.frames with heap := s₂.heap, slotsUsed := s₂.slotsUsed } : State).setVm s₂.vm := by
      have : s₂ = ({ s₂ with vm := (U.calling g mk a).vm } : State).setVm s₂.vm := rfl
      rw [e2] at this
      exact this
    have hf₂ : s₂.frames = .throwing q :: .java g :: U.frames.tail := hend
    have hW' : U.WarmedH s₂.vm := hW₂
    have hs₂ : s₂ = ((({ U with heap := s₂.heap, slotsUsed := s₂.slotsUsed } : State).setVm s₂.vm).setTop g).pushFrame (.throwing q) := by
      refine e3.trans ?_
      rw [hf₂, State.calling_eq h.top, State.setFrames_setFrames, State.pushFrame, State.frames_setTop _ hr', State.setTop_of_frames _ hr', State.setFrames_setFrames, hr]
      rfl
    have hsame : U.sameButNew ({ U with heap := s₂.heap, slotsUsed := s₂.slotsUsed } : State) L mc ms := by
      refine ⟨?_, q2, q3, q4, q5, q6⟩
      obtain ⟨t, ht, -⟩ := State.frames_cons hr
      show ({ U with heap := s₂.heap, slotsUsed := s₂.slotsUsed } : State) = { U.setFrames U.frames with heap := s₂.heap, slotsUsed := s₂.slotsUsed }
      rw [State.setFrames_self ht]
    subst hg
    refine Or.inr ⟨q, ⟨(({ U with heap := s₂.heap, slotsUsed := s₂.slotsUsed } : State).setVm s₂.vm), Ls ++ L, c0 + mc, s0 + ms⟩,
      ⟨X.admits, X.cas, X.clock, X.frames, X.room, X.hears, X.method, X.code, (X.here.setHeapUsed s₂.heap s₂.slotsUsed).setVm hW'.alike, X.tail, State.WarmedH.trans X.warmed hW', X.limits, X.bytes, X.same.trans (hsame.setVm s.vm)⟩,
      ⟨g, mk, s₂, L, E, ce, rfl, rfl, hx, hce, hcv, hcl, rfl, hL, rfl, rfl⟩, ?_⟩
    show Steps p.tables e below _ (((({ U with heap := s₂.heap, slotsUsed := s₂.slotsUsed } : State).setVm s₂.vm).setTop g).pushFrame (.throwing q))
    rw [← hs₂]
    exact hsteps
end Payer
section Calls
variable {p : Program} {l : Launch} {e : Env} {R : Room} {s : State} {m : MethodId} {args : Array Value} {below : List Frame} {meth : Method} {c : Code} {T : State} {locs : List Loc} {cells slots : Nat}
theorem vx_callV (X : Stand p l e R s m args below meth c T locs cells slots) (hexec : p.tables.exec = Jvm.exec) {own C : String} {index : Nat} {y : MethodName} {bytes : ByteArray} {maxL : Nat} {ret : Option FieldType}
    (hown : s.vm.findClass own = some m.cls) (hlink : (Cond.methodLink own index y).before args s = true) (hinst : (Cond.instanceMethod y).before args s = true) (hsel : (Cond.selects C y y).before args s = true)
    (hcode : (Cond.code y bytes maxL ret).before args s = true) (hy : y.cls ≠ "java/lang/invoke/MethodHandle" ∧ y.cls ≠ "java/lang/invoke/VarHandle")
    {W9 : Nat} {Pre : Pt → Array Value → Prop} {Post : Pt → Array Value → Option Value → Pt → Prop} {PostX : Pt → Array Value → Addr → Pt → Prop} (hK : vx_Back l R p e below s args y 3 W9 Pre Post PostX)
    {b : Addr} {cellB : Cell} (hcell : T.heap[b]? = some cellB) (hobj : cellB.vm.isStatics = false) (hcls : s.vm.findClass C = some cellB.cls)
    {g : JFrame} (hg : g.method = m) (hsize : g.locals.size = c.maxLocals) {argsL rest : List Value} (hlen : ∀ sig, parseMethodDescriptor y.desc = some sig → argsL.length = sig.parameters.length)
    (hstack : g.stack = argsL.reverse ++ .ref b :: rest) (hW : 2 * g.monitorRoom + (rest.map fun v => v.category).sum ≤ W9) (hdg : decode c.code g.pc = .ok (.invokevirtual index, 3))
    (hpre : ∀ vm₁, s.WarmedH vm₁ → Pre ⟨T.setVm vm₁, locs, cells, slots⟩ (Value.ref b :: argsL).toArray) :
    (∃ (v : Option Value) (vm₁ : Vm) (B : Pt), s.WarmedH vm₁ ∧ Stand p l e R s m args below meth c B.U B.locs B.cells B.slots ∧ Post ⟨T.setVm vm₁, locs, cells, slots⟩ (Value.ref b :: argsL).toArray v B ∧
      ∀ target, Steps p.tables e below (B.U.setTop { g with pc := g.pc + 3, stack := v.toList ++ rest }) target → Steps p.tables e below (T.setTop g) target) ∨
    (∃ (q : Addr) (vm₁ : Vm) (B : Pt), s.WarmedH vm₁ ∧ Stand p l e R s m args below meth c B.U B.locs B.cells B.slots ∧ PostX ⟨T.setVm vm₁, locs, cells, slots⟩ (Value.ref b :: argsL).toArray q B ∧
      Steps p.tables e below (T.setTop g) ((B.U.setTop { g with stack := rest }).pushFrame (.throwing q))) := by
  obtain ⟨mk, methM, hnamed, hmethM, hstM, habM⟩ := Cond.instanceMethod_spec hinst
  obtain ⟨methM', cM, hmethM', -, -, -, -, -, -, hsigM⟩ := Cond.code_spec hnamed hcode
  cases hmethM.symm.trans hmethM'
  obtain ⟨c2, r2, m2, q1, q2, q3, q4, kP, hkP, hkPi⟩ := Cond.selects_spec hsel
  cases hcls.symm.trans q1
  cases (State.methodFound?_of_named hnamed hy).symm.trans q2
  cases hnamed.symm.trans q3
  have hselP : selectMethod e.platform s.vm cellB.cls mk = .method mk := by rw [Launch.admits_selectMethod X.admits]; exact q4
  obtain ⟨vm₁, X₁, hstep₁⟩ := X.invokevirtual hexec hown hlink hnamed hmethM hstM hkP hkPi hy (a := b) (cell := cellB) hcell
    (fun z h => by rw [h] at hobj; cases hobj) hselP hmethM habM hkP hkPi (g := g) hg (argsL := argsL) (rest := rest) (hlen _ hsigM) hstack hdg
  rcases hK m meth c ⟨T.setVm vm₁, locs, cells, slots⟩ { g with stack := rest } (.invokevirtual index) mk (Value.ref b :: argsL).toArray X₁ hg hsize hdg hW (X₁.named hnamed) (hpre vm₁ X₁.warmed) with ⟨v, B, X', hpost, hsteps⟩ | ⟨q, B, X', hpost, hsteps⟩
  · exact Or.inl ⟨v, vm₁, B, X₁.warmed, X', hpost, fun target h => hstep₁ _ fun acts => by rw [doInvoke_state]; exact hsteps.trans h⟩
  · exact Or.inr ⟨q, vm₁, B, X₁.warmed, X', hpost, hstep₁ _ fun acts => by rw [doInvoke_state]; exact hsteps⟩
theorem vx_callS (X : Stand p l e R s m args below meth c T locs cells slots) (hexec : p.tables.exec = Jvm.exec) {own : String} {index : Nat} {y : MethodName} {bytes : ByteArray} {maxL : Nat} {ret : Option FieldType}
    (hown : s.vm.findClass own = some m.cls) (hlink : (Cond.methodLink own index y).before args s = true) (hstat : (Cond.static y).before args s = true) (hinit : (Cond.initialized y.cls).before args s = true)
    (hcode : (Cond.code y bytes maxL ret).before args s = true) (hy : y.cls ≠ "java/lang/invoke/MethodHandle" ∧ y.cls ≠ "java/lang/invoke/VarHandle")
    {W9 : Nat} {Pre : Pt → Array Value → Prop} {Post : Pt → Array Value → Option Value → Pt → Prop} {PostX : Pt → Array Value → Addr → Pt → Prop} (hK : vx_Back l R p e below s args y 3 W9 Pre Post PostX)
    {g : JFrame} (hg : g.method = m) (hsize : g.locals.size = c.maxLocals) {argsL rest : List Value} (hlen : ∀ sig, parseMethodDescriptor y.desc = some sig → argsL.length = sig.parameters.length)
    (hstack : g.stack = argsL.reverse ++ rest) (hW : 2 * g.monitorRoom + (rest.map fun v => v.category).sum ≤ W9) (hdg : decode c.code g.pc = .ok (.invokestatic index, 3))
    (hpre : ∀ vm₁, s.WarmedH vm₁ → Pre ⟨T.setVm vm₁, locs, cells, slots⟩ argsL.toArray) :
    (∃ (v : Option Value) (vm₁ : Vm) (B : Pt), s.WarmedH vm₁ ∧ Stand p l e R s m args below meth c B.U B.locs B.cells B.slots ∧ Post ⟨T.setVm vm₁, locs, cells, slots⟩ argsL.toArray v B ∧
      ∀ target, Steps p.tables e below (B.U.setTop { g with pc := g.pc + 3, stack := v.toList ++ rest }) target → Steps p.tables e below (T.setTop g) target) ∨
    (∃ (q : Addr) (vm₁ : Vm) (B : Pt), s.WarmedH vm₁ ∧ Stand p l e R s m args below meth c B.U B.locs B.cells B.slots ∧ PostX ⟨T.setVm vm₁, locs, cells, slots⟩ argsL.toArray q B ∧
      Steps p.tables e below (T.setTop g) ((B.U.setTop { g with stack := rest }).pushFrame (.throwing q))) := by
  obtain ⟨mk, hnamed⟩ := Cond.code_named hcode
  obtain ⟨methM, cM, hmethM, -, -, -, -, -, -, hsigM⟩ := Cond.code_spec hnamed hcode
  have hstatic : methM.isStatic = true := Cond.static_spec hnamed hmethM hstat
  obtain ⟨kP, hkP, -⟩ := className_of_methodNamed hnamed
  have hinitP : kP.init = .initialized := Cond.initialized_spec (findClass_of_methodNamed hnamed) hkP hinit
  obtain ⟨vm₁, X₁, hstep₁⟩ := X.invokestatic hexec hown hlink hnamed hmethM hstatic hkP hinitP hy (g := g) hg (argsL := argsL) (rest := rest) (hlen _ hsigM) hstack hdg
  rcases hK m meth c ⟨T.setVm vm₁, locs, cells, slots⟩ { g with stack := rest } (.invokestatic index) mk argsL.toArray X₁ hg hsize hdg hW (X₁.named hnamed) (hpre vm₁ X₁.warmed) with ⟨v, B, X', hpost, hsteps⟩ | ⟨q, B, X', hpost, hsteps⟩
  · exact Or.inl ⟨v, vm₁, B, X₁.warmed, X', hpost, fun target h => hstep₁ _ fun acts => by rw [doInvoke_state]; exact hsteps.trans h⟩
  · exact Or.inr ⟨q, vm₁, B, X₁.warmed, X', hpost, hstep₁ _ fun acts => by rw [doInvoke_state]; exact hsteps⟩
end Calls
theorem vx_cls {s : State} {T : State} {vm₁ : Vm} {E : String} {k : ClassId} (hW : s.WarmedH vm₁) (h : (T.setVm vm₁).vm.findClass E = some k) : s.vm.findClass E = some k := by
  have h1 : vm₁.findClass E = some k := h
  rw [hW.alike.findClass] at h1
  exact h1
/-- the method's frame g, with q thrown over it -/
def vx_W (p : Program) (l : Launch) (e : Env) (R : Room) (s : State) (m : MethodId) (args : Array Value) (below : List Frame) (meth : Method) (c : Code) (H : Heap) (locs : List Loc) (cells slots : Nat) (Q : State → Prop) (g : JFrame) (q : Addr) : Prop :=
  ∀ T : State, T.heap = H → Stand p l e R s m args below meth c T locs cells slots → ∃ t, Steps p.tables e below ((T.setTop g).pushFrame (.throwing q)) t ∧ Q t
def vx_Run (p : Program) (l : Launch) (e : Env) (R : Room) (s : State) (m : MethodId) (args : Array Value) (below : List Frame) (meth : Method) (c : Code) (H : Heap) (locs : List Loc) (cells slots mc ms : Nat) (g : JFrame) (rest : List Value) (Qa : State → Outcome → State → Prop) (XC : String → State → State → Prop) (free : Addr → Prop) : Prop :=
  ∀ T : State, T.heap = H → Stand p l e R s m args below meth c T locs cells slots →
    (∃ (v : Option Value) (st₀ t T' : State) (L : List Loc), st₀.heap = H ∧ Stand p l e R s m args below meth c T' (locs ++ L) (cells + mc) (slots + ms) ∧ (∀ q ∈ L, free q.base) ∧ T'.heap = t.heap ∧ T'.vm = t.vm ∧ Qa st₀ (.returned v) t ∧
      Goes p e below T g T' { g with pc := g.pc + 3, stack := v.toList ++ rest }) ∨
    (∃ (q : Addr) (st₀ t T' : State) (L : List Loc) (E : String) (ce : Cell), st₀.heap = H ∧ Stand p l e R s m args below meth c T' (locs ++ L) (cells + mc) (slots + ms) ∧ (∀ z ∈ L, free z.base) ∧ T'.heap = t.heap ∧ T'.vm = t.vm ∧ XC E st₀ t ∧ t.heap[q]? = some ce ∧ ce.vm = .none ∧ s.vm.findClass E = some ce.cls ∧
      Steps p.tables e below (T.setTop g) ((T'.setTop { g with stack := rest }).pushFrame (.throwing q)))
def vx_X {S : Type} (px : S → Prop) (B : String → S → State → Prop) (A : Nat → Prop) : String → State → State → Prop := fun E st t => ∃ u : S, px u ∧ B E u t ∧ va_F A st t
section Runs
variable {p : Program} {l : Launch} {e : Env} {R : Room} {s : State} {m : MethodId} {args : Array Value} {below : List Frame} {meth : Method} {c : Code} {H : Heap} {locs : List Loc} {cells slots : Nat}
variable {y : MethodName} {bytes cc : ByteArray} {maxL nL mc ms n index : Nat} {ret : Option FieldType} {ws : List Cond} {rm : Room} {Pc : Array Value → State → Prop} {Qc : Array Value → State → Outcome → State → Prop} {XC : String → State → State → Prop} {free : Addr → Prop} {Ts : List Cond} {own C : String} {b : Addr} {As rest : List Value} {g : JFrame}
theorem vx_callBack (cb : CallB R s args own index y bytes maxL ret ws rm mc ms n) (hM : vx_Met l y ws rm Pc Qc XC mc ms free) (hbl : FrameBlind Pc) : vx_Back l R p e below s args y 3 8 (PreOf R mc ms Pc) (PostOf Qc mc ms free) (vx_Post XC mc ms free) := by
  obtain ⟨hrc, hrs, hfr, hlo, hws, hcw, -, hini, -⟩ := cb
  exact vx_back (bytes := bytes) (maxL := maxL) (ret := ret) hM hbl hrc hrs hfr hlo hws hcw (fun a' U hW => word_at hW (Or.inl (by first | rfl | simp [Cond.onTables, Cond.keeps, Cond.steady])) hini)
theorem vx_runV (S : CallFix p m c cc nL s args Ts own) (hM : vx_Met l y ws rm Pc Qc XC mc ms free) (cw : CallW R s args own C index y bytes maxL ret ws rm mc ms n) (hp : PreV s H C b Pc As)
    (hg : g.method = m) (hn : As.length = n) (hsize : g.locals.size = nL) (hstack : g.stack = As.reverse ++ .ref b :: rest) (hW : 2 * g.monitorRoom + (rest.map fun v => v.category).sum ≤ 8) (hdg : decode cc g.pc = .ok (.invokevirtual index, 3)) (hf : cells + mc ≤ R.cells ∧ slots + ms ≤ R.slots) :
    vx_Run p l e R s m args below meth c H locs cells slots mc ms g rest (Qc (Value.ref b :: As).toArray) XC free := by
  have hK : vx_Back l R p e below s args y 3 8 (PreOf R mc ms Pc) (PostOf Qc mc ms free) (vx_Post XC mc ms free) := vx_callBack cw.1 hM hp.1
  obtain ⟨⟨-, -, -, -, -, -, hcode, -, hy, hlen, hl⟩, hin, hse⟩ := cw
  obtain ⟨hx, hb, hml, ho, -⟩ := S
  obtain ⟨-, ⟨cellB, hcB, hoB, hclB⟩, hPc⟩ := hp
  intro T hT X
  rcases vx_callV X hx (C := C) (bytes := bytes) (maxL := maxL) (ret := ret) ho hl hin hse hcode hy hK (by rw [hT]; exact hcB) hoB hclB hg (hsize.trans hml.symm) (argsL := As) (rest := rest) (fun sig h => hn.trans (hlen sig h)) hstack hW (by rw [hb]; exact hdg)
    (fun vm₁ hW₁ => ⟨hf.1, hf.2, hPc (T.setVm vm₁) hT hW₁⟩) with ⟨v, vm₁, ⟨U', l2, c2, s2⟩, hW₁, X', ⟨g', mk, t, L, e1, e2, hq, h1, hL, h2, h3⟩, st⟩ | ⟨q, vm₁, ⟨U', l2, c2, s2⟩, hW₁, X', ⟨g', mk, t, L, E, ce, e1, e2, hq, hce, hcv, hcl, h1, hL, h2, h3⟩, st⟩
  · dsimp only [Pt.U, Pt.locs, Pt.cells, Pt.slots] at X' e1 e2 h1 h2 h3 st
    subst h1; subst h2; subst h3
    exact Or.inl ⟨v, (T.setVm vm₁).calling g' mk (Value.ref b :: As).toArray, t, U', L, hT, X', hL, e1, e2, hq, st⟩
  · dsimp only [Pt.U, Pt.locs, Pt.cells, Pt.slots] at X' e1 e2 h1 h2 h3 st hcl
    subst h1; subst h2; subst h3
    exact Or.inr ⟨q, (T.setVm vm₁).calling g' mk (Value.ref b :: As).toArray, t, U', L, E, ce, hT, X', hL, e1, e2, hq, hce, hcv, vx_cls hW₁ hcl, st⟩
theorem vx_runS (S : CallFix p m c cc nL s args Ts own) (hM : vx_Met l y ws rm Pc Qc XC mc ms free) (cw : CallB R s args own index y bytes maxL ret ws rm mc ms n ∧ (Cond.static y).before args s = true) (hp : PreS s H Pc As)
    (hg : g.method = m) (hn : As.length = n) (hsize : g.locals.size = nL) (hstack : g.stack = As.reverse ++ rest) (hW : 2 * g.monitorRoom + (rest.map fun v => v.category).sum ≤ 8) (hdg : decode cc g.pc = .ok (.invokestatic index, 3)) (hf : cells + mc ≤ R.cells ∧ slots + ms ≤ R.slots) :
    vx_Run p l e R s m args below meth c H locs cells slots mc ms g rest (Qc As.toArray) XC free := by
  have hK : vx_Back l R p e below s args y 3 8 (PreOf R mc ms Pc) (PostOf Qc mc ms free) (vx_Post XC mc ms free) := vx_callBack cw.1 hM hp.1
  obtain ⟨⟨-, -, -, -, -, -, hcode, hini, hy, hlen, hl⟩, hstt⟩ := cw
  obtain ⟨hx, hb, hml, ho, -⟩ := S
  intro T hT X
  rcases vx_callS X hx (bytes := bytes) (maxL := maxL) (ret := ret) ho hl hstt hini hcode hy hK hg (hsize.trans hml.symm) (argsL := As) (rest := rest) (fun sig h => hn.trans (hlen sig h)) hstack hW (by rw [hb]; exact hdg)
    (fun vm₁ hW₁ => ⟨hf.1, hf.2, hp.2 (T.setVm vm₁) hT hW₁⟩) with ⟨v, vm₁, ⟨U', l2, c2, s2⟩, hW₁, X', ⟨g', mk, t, L, e1, e2, hq, h1, hL, h2, h3⟩, st⟩ | ⟨q, vm₁, ⟨U', l2, c2, s2⟩, hW₁, X', ⟨g', mk, t, L, E, ce, e1, e2, hq, hce, hcv, hcl, h1, hL, h2, h3⟩, st⟩
  · dsimp only [Pt.U, Pt.locs, Pt.cells, Pt.slots] at X' e1 e2 h1 h2 h3 st
    subst h1; subst h2; subst h3
    exact Or.inl ⟨v, (T.setVm vm₁).calling g' mk As.toArray, t, U', L, hT, X', hL, e1, e2, hq, st⟩
  · dsimp only [Pt.U, Pt.locs, Pt.cells, Pt.slots] at X' e1 e2 h1 h2 h3 st hcl
    subst h1; subst h2; subst h3
    exact Or.inr ⟨q, (T.setVm vm₁).calling g' mk As.toArray, t, U', L, E, ce, hT, X', hL, e1, e2, hq, hce, hcv, vx_cls hW₁ hcl, st⟩
end Runs
section Rows
variable {p : Program} {l : Launch} {e : Env} {R : Room} {s : State} {m : MethodId} {args : Array Value} {below : List Frame} {meth : Method} {c : Code} {H : Heap} {locs : List Loc} {cells slots : Nat} {Q : State → Prop}
variable {mc ms : Nat} {free : Addr → Prop} {A0 A1 : Nat → Prop} {H0 : Heap} {a : Array Value} {pc : Nat} {ls : Array Slot} {st0 rest : List Value}
theorem vx_keep {st₀ t T' : State} {L : List Loc} (h0 : st₀.heap = H) (e1 : T'.heap = t.heap) (hS : va_S A0 H0 H locs) (hA : ∀ q, q < H.size → A1 q → A0 q) (hf : ∀ q, free q → A0 q) (hL : ∀ q ∈ L, free q.base) (hF : va_F A1 st₀ t) :
    H.size ≤ T'.heap.size ∧ (∀ q : Nat, q < H.size → ¬ A1 q → T'.heap[q]? = H[q]?) ∧ va_S A0 H0 T'.heap (locs ++ L) := by
  obtain ⟨hz, hk⟩ := hF
  rw [h0] at hz hk
  exact ⟨by rw [e1]; exact hz, fun q h1 h2 => by rw [e1]; exact hk q h1 h2,
    ⟨Nat.le_trans hS.1 (by rw [e1]; exact hz), fun q h1 h2 => by rw [e1, hk q (Nat.lt_of_lt_of_le h1 hS.1) (fun z => h2 (hA q (Nat.lt_of_lt_of_le h1 hS.1) z))]; exact hS.2.1 q h1 h2, fun q hq => by
      rcases List.mem_append.mp hq with h | h
      · exact hS.2.2 q h
      · exact hf _ (hL q h)⟩⟩
theorem vx_calli {S SX : Type} {post : Int32 → S → Prop} {px : SX → Prop} {B : S → State → Prop} {BX : String → SX → State → Prop} {AX : Nat → Prop} (hr : vx_Run p l e R s m args below meth c H locs cells slots mc ms (F0 m pc ls st0) rest (va_Qi post B A1 a) (vx_X px BX AX) free) (hS : va_S A0 H0 H locs) (hA : ∀ q, q < H.size → A1 q → A0 q) (hf : ∀ q, free q → A0 q) (hAX : ∀ q, q < H.size → AX q → A0 q)
    (kx : ∀ (E : String) (ce : Cell) (q9 : Addr) (u : SX) (t : State) (H1 : Heap) (locs1 : List Loc), t.heap = H1 → s.vm.Alike t.vm → px u → BX E u t → H.size ≤ H1.size → (∀ q : Nat, q < H.size → ¬ AX q → H1[q]? = H[q]?) → va_S A0 H0 H1 locs1 → H1[q9]? = some ce → ce.vm = .none → s.vm.findClass E = some ce.cls → vx_W p l e R s m args below meth c H1 locs1 (cells + mc) (slots + ms) Q (F0 m pc ls rest) q9)
    (kk : ∀ (r : Int32) (u : S) (t : State) (H1 : Heap) (locs1 : List Loc), t.heap = H1 → s.vm.Alike t.vm → post r u → B u t → H.size ≤ H1.size → (∀ q : Nat, q < H.size → ¬ A1 q → H1[q]? = H[q]?) → va_S A0 H0 H1 locs1 → W p l e R s m args below meth c H1 locs1 (cells + mc) (slots + ms) Q (F0 m (pc + 3) ls (.int r :: rest))) : W p l e R s m args below meth c H locs cells slots Q (F0 m pc ls st0) := by
  intro T hT X
  rcases hr T hT X with ⟨v, st₀, t, T', L, h0, X', hL, e1, e2, ⟨⟨r, u, hv, hp, hb⟩, hF⟩, st⟩ | ⟨q, st₀, t, T', L, E, ce, h0, X', hL, e1, e2, ⟨u, hp, hb, hF⟩, hce, hcv, hcl, st⟩
  · cases hv
    obtain ⟨k1, k2, k3⟩ := vx_keep h0 e1 hS hA hf hL hF
    obtain ⟨t2, a1, b1⟩ := kk r u t T'.heap (locs ++ L) e1.symm (by rw [← e2]; exact X'.warmed.alike) hp hb k1 k2 k3 T' rfl X'
    exact ⟨t2, st t2 a1, b1⟩
  · obtain ⟨k1, k2, k3⟩ := vx_keep h0 e1 hS hAX hf hL hF
    obtain ⟨t2, a1, b1⟩ := kx E ce q u t T'.heap (locs ++ L) e1.symm (by rw [← e2]; exact X'.warmed.alike) hp hb k1 k2 k3 (by rw [e1]; exact hce) hcv hcl T' rfl X'
    exact ⟨t2, st.trans a1, b1⟩
theorem vx_calll {S SX : Type} {post : Int64 → S → Prop} {px : SX → Prop} {B : S → State → Prop} {BX : String → SX → State → Prop} {AX : Nat → Prop} (hr : vx_Run p l e R s m args below meth c H locs cells slots mc ms (F0 m pc ls st0) rest (va_Ql post B A1 a) (vx_X px BX AX) free) (hS : va_S A0 H0 H locs) (hA : ∀ q, q < H.size → A1 q → A0 q) (hf : ∀ q, free q → A0 q) (hAX : ∀ q, q < H.size → AX q → A0 q)
    (kx : ∀ (E : String) (ce : Cell) (q9 : Addr) (u : SX) (t : State) (H1 : Heap) (locs1 : List Loc), t.heap = H1 → s.vm.Alike t.vm → px u → BX E u t → H.size ≤ H1.size → (∀ q : Nat, q < H.size → ¬ AX q → H1[q]? = H[q]?) → va_S A0 H0 H1 locs1 → H1[q9]? = some ce → ce.vm = .none → s.vm.findClass E = some ce.cls → vx_W p l e R s m args below meth c H1 locs1 (cells + mc) (slots + ms) Q (F0 m pc ls rest) q9)
    (kk : ∀ (r : Int64) (u : S) (t : State) (H1 : Heap) (locs1 : List Loc), t.heap = H1 → s.vm.Alike t.vm → post r u → B u t → H.size ≤ H1.size → (∀ q : Nat, q < H.size → ¬ A1 q → H1[q]? = H[q]?) → va_S A0 H0 H1 locs1 → W p l e R s m args below meth c H1 locs1 (cells + mc) (slots + ms) Q (F0 m (pc + 3) ls (.long r :: rest))) : W p l e R s m args below meth c H locs cells slots Q (F0 m pc ls st0) := by
  intro T hT X
  rcases hr T hT X with ⟨v, st₀, t, T', L, h0, X', hL, e1, e2, ⟨⟨r, u, hv, hp, hb⟩, hF⟩, st⟩ | ⟨q, st₀, t, T', L, E, ce, h0, X', hL, e1, e2, ⟨u, hp, hb, hF⟩, hce, hcv, hcl, st⟩
  · cases hv
    obtain ⟨k1, k2, k3⟩ := vx_keep h0 e1 hS hA hf hL hF
    obtain ⟨t2, a1, b1⟩ := kk r u t T'.heap (locs ++ L) e1.symm (by rw [← e2]; exact X'.warmed.alike) hp hb k1 k2 k3 T' rfl X'
    exact ⟨t2, st t2 a1, b1⟩
  · obtain ⟨k1, k2, k3⟩ := vx_keep h0 e1 hS hAX hf hL hF
    obtain ⟨t2, a1, b1⟩ := kx E ce q u t T'.heap (locs ++ L) e1.symm (by rw [← e2]; exact X'.warmed.alike) hp hb k1 k2 k3 (by rw [e1]; exact hce) hcv hcl T' rfl X'
    exact ⟨t2, st.trans a1, b1⟩
theorem vx_callf {S SX : Type} {post : UInt32 → S → Prop} {px : SX → Prop} {B : S → State → Prop} {BX : String → SX → State → Prop} {AX : Nat → Prop} (hr : vx_Run p l e R s m args below meth c H locs cells slots mc ms (F0 m pc ls st0) rest (va_Qf post B A1 a) (vx_X px BX AX) free) (hS : va_S A0 H0 H locs) (hA : ∀ q, q < H.size → A1 q → A0 q) (hf : ∀ q, free q → A0 q) (hAX : ∀ q, q < H.size → AX q → A0 q)
    (kx : ∀ (E : String) (ce : Cell) (q9 : Addr) (u : SX) (t : State) (H1 : Heap) (locs1 : List Loc), t.heap = H1 → s.vm.Alike t.vm → px u → BX E u t → H.size ≤ H1.size → (∀ q : Nat, q < H.size → ¬ AX q → H1[q]? = H[q]?) → va_S A0 H0 H1 locs1 → H1[q9]? = some ce → ce.vm = .none → s.vm.findClass E = some ce.cls → vx_W p l e R s m args below meth c H1 locs1 (cells + mc) (slots + ms) Q (F0 m pc ls rest) q9)
    (kk : ∀ (r : UInt32) (u : S) (t : State) (H1 : Heap) (locs1 : List Loc), t.heap = H1 → s.vm.Alike t.vm → post r u → B u t → H.size ≤ H1.size → (∀ q : Nat, q < H.size → ¬ A1 q → H1[q]? = H[q]?) → va_S A0 H0 H1 locs1 → W p l e R s m args below meth c H1 locs1 (cells + mc) (slots + ms) Q (F0 m (pc + 3) ls (.float r :: rest))) : W p l e R s m args below meth c H locs cells slots Q (F0 m pc ls st0) := by
  intro T hT X
  rcases hr T hT X with ⟨v, st₀, t, T', L, h0, X', hL, e1, e2, ⟨⟨r, u, hv, hp, hb⟩, hF⟩, st⟩ | ⟨q, st₀, t, T', L, E, ce, h0, X', hL, e1, e2, ⟨u, hp, hb, hF⟩, hce, hcv, hcl, st⟩
  · cases hv
    obtain ⟨k1, k2, k3⟩ := vx_keep h0 e1 hS hA hf hL hF
    obtain ⟨t2, a1, b1⟩ := kk r u t T'.heap (locs ++ L) e1.symm (by rw [← e2]; exact X'.warmed.alike) hp hb k1 k2 k3 T' rfl X'
    exact ⟨t2, st t2 a1, b1⟩
  · obtain ⟨k1, k2, k3⟩ := vx_keep h0 e1 hS hAX hf hL hF
    obtain ⟨t2, a1, b1⟩ := kx E ce q u t T'.heap (locs ++ L) e1.symm (by rw [← e2]; exact X'.warmed.alike) hp hb k1 k2 k3 (by rw [e1]; exact hce) hcv hcl T' rfl X'
    exact ⟨t2, st.trans a1, b1⟩
theorem vx_calld {S SX : Type} {post : UInt64 → S → Prop} {px : SX → Prop} {B : S → State → Prop} {BX : String → SX → State → Prop} {AX : Nat → Prop} (hr : vx_Run p l e R s m args below meth c H locs cells slots mc ms (F0 m pc ls st0) rest (va_Qd post B A1 a) (vx_X px BX AX) free) (hS : va_S A0 H0 H locs) (hA : ∀ q, q < H.size → A1 q → A0 q) (hf : ∀ q, free q → A0 q) (hAX : ∀ q, q < H.size → AX q → A0 q)
    (kx : ∀ (E : String) (ce : Cell) (q9 : Addr) (u : SX) (t : State) (H1 : Heap) (locs1 : List Loc), t.heap = H1 → s.vm.Alike t.vm → px u → BX E u t → H.size ≤ H1.size → (∀ q : Nat, q < H.size → ¬ AX q → H1[q]? = H[q]?) → va_S A0 H0 H1 locs1 → H1[q9]? = some ce → ce.vm = .none → s.vm.findClass E = some ce.cls → vx_W p l e R s m args below meth c H1 locs1 (cells + mc) (slots + ms) Q (F0 m pc ls rest) q9)
    (kk : ∀ (r : UInt64) (u : S) (t : State) (H1 : Heap) (locs1 : List Loc), t.heap = H1 → s.vm.Alike t.vm → post r u → B u t → H.size ≤ H1.size → (∀ q : Nat, q < H.size → ¬ A1 q → H1[q]? = H[q]?) → va_S A0 H0 H1 locs1 → W p l e R s m args below meth c H1 locs1 (cells + mc) (slots + ms) Q (F0 m (pc + 3) ls (.double r :: rest))) : W p l e R s m args below meth c H locs cells slots Q (F0 m pc ls st0) := by
  intro T hT X
  rcases hr T hT X with ⟨v, st₀, t, T', L, h0, X', hL, e1, e2, ⟨⟨r, u, hv, hp, hb⟩, hF⟩, st⟩ | ⟨q, st₀, t, T', L, E, ce, h0, X', hL, e1, e2, ⟨u, hp, hb, hF⟩, hce, hcv, hcl, st⟩
  · cases hv
    obtain ⟨k1, k2, k3⟩ := vx_keep h0 e1 hS hA hf hL hF
    obtain ⟨t2, a1, b1⟩ := kk r u t T'.heap (locs ++ L) e1.symm (by rw [← e2]; exact X'.warmed.alike) hp hb k1 k2 k3 T' rfl X'
    exact ⟨t2, st t2 a1, b1⟩
  · obtain ⟨k1, k2, k3⟩ := vx_keep h0 e1 hS hAX hf hL hF
    obtain ⟨t2, a1, b1⟩ := kx E ce q u t T'.heap (locs ++ L) e1.symm (by rw [← e2]; exact X'.warmed.alike) hp hb k1 k2 k3 (by rw [e1]; exact hce) hcv hcl T' rfl X'
    exact ⟨t2, st.trans a1, b1⟩
theorem vx_callv {S SX : Type} {post : S → Prop} {px : SX → Prop} {B : S → State → Prop} {BX : String → SX → State → Prop} {AX : Nat → Prop} (hr : vx_Run p l e R s m args below meth c H locs cells slots mc ms (F0 m pc ls st0) rest (va_Qv post B A1 a) (vx_X px BX AX) free) (hS : va_S A0 H0 H locs) (hA : ∀ q, q < H.size → A1 q → A0 q) (hf : ∀ q, free q → A0 q) (hAX : ∀ q, q < H.size → AX q → A0 q)
    (kx : ∀ (E : String) (ce : Cell) (q9 : Addr) (u : SX) (t : State) (H1 : Heap) (locs1 : List Loc), t.heap = H1 → s.vm.Alike t.vm → px u → BX E u t → H.size ≤ H1.size → (∀ q : Nat, q < H.size → ¬ AX q → H1[q]? = H[q]?) → va_S A0 H0 H1 locs1 → H1[q9]? = some ce → ce.vm = .none → s.vm.findClass E = some ce.cls → vx_W p l e R s m args below meth c H1 locs1 (cells + mc) (slots + ms) Q (F0 m pc ls rest) q9)
    (kk : ∀ (u : S) (t : State) (H1 : Heap) (locs1 : List Loc), t.heap = H1 → s.vm.Alike t.vm → post u → B u t → H.size ≤ H1.size → (∀ q : Nat, q < H.size → ¬ A1 q → H1[q]? = H[q]?) → va_S A0 H0 H1 locs1 → W p l e R s m args below meth c H1 locs1 (cells + mc) (slots + ms) Q (F0 m (pc + 3) ls (rest))) : W p l e R s m args below meth c H locs cells slots Q (F0 m pc ls st0) := by
  intro T hT X
  rcases hr T hT X with ⟨v, st₀, t, T', L, h0, X', hL, e1, e2, ⟨⟨u, hv, hp, hb⟩, hF⟩, st⟩ | ⟨q, st₀, t, T', L, E, ce, h0, X', hL, e1, e2, ⟨u, hp, hb, hF⟩, hce, hcv, hcl, st⟩
  · cases hv
    obtain ⟨k1, k2, k3⟩ := vx_keep h0 e1 hS hA hf hL hF
    obtain ⟨t2, a1, b1⟩ := kk u t T'.heap (locs ++ L) e1.symm (by rw [← e2]; exact X'.warmed.alike) hp hb k1 k2 k3 T' rfl X'
    exact ⟨t2, st t2 a1, b1⟩
  · obtain ⟨k1, k2, k3⟩ := vx_keep h0 e1 hS hAX hf hL hF
    obtain ⟨t2, a1, b1⟩ := kx E ce q u t T'.heap (locs ++ L) e1.symm (by rw [← e2]; exact X'.warmed.alike) hp hb k1 k2 k3 (by rw [e1]; exact hce) hcv hcl T' rfl X'
    exact ⟨t2, st.trans a1, b1⟩
/-- caught by the row x of this method's table; the rows ahead don't take it -/
theorem vx_catch {own name : String} {E : String} {ce : Cell} {q : Addr} (hown : s.vm.findClass own = some m.cls) (pre : List ExceptionTableEntry) (x : ExceptionTableEntry) (suf : List ExceptionTableEntry) (hsplit : c.exceptionTable.toList = pre ++ x :: suf)
    (hpass : ∀ z ∈ pre, covers z pc = false ∨ (z.catchType ≠ 0 ∧ ∃ nm : String, (Cond.classLink own z.catchType nm).before args s = true ∧ va_Nc E nm s)) (hx : covers x pc = true) (h0 : x.catchType ≠ 0)
    (hlink : (Cond.classLink own x.catchType name).before args s = true) (hcast : (Cond.castable E name).before args s = true) (hcell : H[q]? = some ce) (hv : ce.vm = .none) (hcl : s.vm.findClass E = some ce.cls)
    (kk : W p l e R s m args below meth c H locs cells slots Q (F0 m x.handlerPc ls [.ref q])) : vx_W p l e R s m args below meth c H locs cells slots Q (F0 m pc ls rest) q := by
  intro T hT X
  have hpl : e.platform.magicAccessors = ({} : Platform).magicAccessors := by rw [X.admits.platform]
  obtain ⟨c3, c4, hc3, hc4, hasg⟩ := Cond.castable_spec hcast
  cases Option.some.inj (hc3.symm.trans hcl)
  obtain ⟨c5, hc5, hcl5⟩ := Cond.classLink_spec hown hlink e.platform hpl
  cases Option.some.inj (hc4.symm.trans hc5)
  obtain ⟨vm', X', st⟩ := X.thenCaughtThrough q (g := F0 m pc ls rest) rfl (Steps.refl _) (by rw [hT]; exact hcell) (by rw [hv]; rfl) (by obtain ⟨k9, h9, -⟩ := Vm.findClass_spec hcl; exact ⟨k9, h9⟩) pre x suf hsplit
    (fun z hz => by
      rcases hpass z hz with h | ⟨hz0, nm, hl1, hn1⟩
      · exact Or.inl h
      · obtain ⟨c6, hc6, hcl6⟩ := Cond.classLink_spec hown hl1 e.platform hpl
        obtain ⟨a8, b8, h1, h2, h3⟩ := hn1
        cases Option.some.inj (h1.symm.trans hcl)
        cases Option.some.inj (h2.symm.trans hc6)
        exact Or.inr ⟨hz0, _, hcl6, h3⟩) hx (Or.inr ⟨h0, c4, hcl5, hasg⟩)
  obtain ⟨t, a1, b1⟩ := kk (T.setVm vm') hT X'
  exact ⟨t, st.trans a1, b1⟩
end Rows
section Ends
variable {p : Program} {l : Launch} {e : Env} {R : Room} {s : State} {m : MethodId} {args : Array Value} {below : List Frame} {meth : Method} {c : Code} {H : Heap} {locs : List Loc} {cells slots : Nat} {Q : State → Prop}
variable {mc ms : Nat} {free : Addr → Prop} {A0 A1 : Nat → Prop} {H0 : Heap} {a : Array Value} {ls : Array Slot} {st0 rest : List Value}
variable {Qc : Array Value → State → Outcome → State → Prop} {XC : String → State → State → Prop}
/-- what a body that may throw owes at its end -/
def vx_MQ (below : List Frame) (Qc : Array Value → State → Outcome → State → Prop) (XC : String → State → State → Prop) (a : Array Value) (s : State) (mc ms : Nat) (free : Addr → Prop) : State → Prop := fun t =>
  ∃ o, t.status = .running ∧ Ended t below o ∧ vx_Q Qc XC mc ms free a s o t
theorem vx_ret {g : JFrame} {mc ms : Nat} (k : W p l e R s m args below meth c H locs cells slots (MQ below Qc args s mc ms free) g) : W p l e R s m args below meth c H locs cells slots (vx_MQ below Qc XC args s mc ms free) g := by
  intro T hT X
  obtain ⟨t, a1, o, b1, b2, b3, b4⟩ := k T hT X
  exact ⟨t, a1, o, b1, b2, Or.inl ⟨b3, b4⟩⟩
/-- not caught here: it goes on to the caller -/
theorem vx_widen {g : JFrame} {q : Addr} {k n : Nat} (h1 : cells ≤ k) (h2 : slots ≤ n) (kk : vx_W p l e R s m args below meth c H locs k n Q g q) : vx_W p l e R s m args below meth c H locs cells slots Q g q := fun T hT X => kk T hT (stand_widen X h1 h2)
theorem vx_out {pc : Nat} {E : String} {ce : Cell} {q : Addr} {mc ms : Nat} (hout : ∀ x ∈ c.exceptionTable.toList, covers x pc = false) (hlocks : meth.locks = false) (hcell : H[q]? = some ce) (hv : ce.vm = .none) (hcl : s.vm.findClass E = some ce.cls)
    (hx : ∀ t : State, t.heap = H → s.vm.Alike t.vm → XC E s t) (hf : ∀ z ∈ locs, free z.base) (hc : cells ≤ mc) (hs : slots ≤ ms) :
    vx_W p l e R s m args below meth c H locs cells slots (vx_MQ below Qc XC args s mc ms free) (F0 m pc ls rest) q := by
  intro T hT X
  obtain ⟨st1, hrun, hend, hW, hsm⟩ := X.leaveThrown q (g := F0 m pc ls rest) rfl rfl rfl hout hlocks
  have hcell9 : (T.setFrames (.throwing q :: below)).heap[q]? = some ce := by
    show T.heap[q]? = some ce
    rw [hT]; exact hcell
  exact ⟨_, st1, .threw q, hrun, hend, Or.inr ⟨q, rfl, E, ce, locs, hx _ hT hW.alike, hcell9, hv, hcl, hW, hsm.mono hc hs, hf⟩⟩
theorem vx_frame {U : State} {k n : Nat} (h : s.sameButNew ({ U with vm := s.vm } : State) locs k n) : s.heap.size ≤ U.heap.size ∧ ∀ q : Nat, q < s.heap.size → (∀ z ∈ locs, z.base ≠ q) → U.heap[q]? = s.heap[q]? := by
  obtain ⟨-, h2, -, -, -, h6⟩ := h
  refine ⟨h2, fun q hq hz => ?_⟩
  obtain ⟨c9, e1, e2, e3, e4⟩ := h6 q _ (Array.getElem?_eq_getElem hq)
  have hs : c9.slots = (s.heap[q]).slots := Array.ext_getElem? fun i => e4 i fun hm => hz _ hm rfl
  have h9 : c9 = s.heap[q] := by
    rw [hs] at e2
    exact e2
  have e5 : U.heap[q]? = some c9 := e1
  rw [e5, h9, Array.getElem?_eq_getElem hq]
/-- the words of a throw but the four that speak of the heap -/
def vx_no (w : Cond) : Bool := decide (w ≠ .isRef (.static Bundle.tN "UNASSIGNED_STACK" Bundle.steD)) && decide (w ≠ .isRef (.static Bundle.tN "SUPPRESSED_SENTINEL" Bundle.listD)) && decide (w ≠ .laysStatic Bundle.tN "UNASSIGNED_STACK" Bundle.steD) && decide (w ≠ .laysStatic Bundle.tN "SUPPRESSED_SENTINEL" Bundle.listD)
def vx_at0 (own : String) (ic : Nat) (X : String) (names : List String) : List Cond := (Bundle.ownAtoms0 own ic X names).filter vx_no
def vx_atS (own : String) (ic : Nat) (X : String) (names : List String) : List Cond := (Bundle.ownAtoms own ic X names).filter vx_no
/-- a word that the tables alone decide, or a good one -/
def vx_ot (w : Cond) : Bool := w.onTables || goodWord w
theorem vx_ot_at {args a' : Array Value} {s U : State} {w : Cond} (hW : s.WarmedH U.vm) (hvm : s.vm = U.vm) (hg : vx_ot w = true) (h : w.before args s = true) : w.before a' U = true := by
  simp only [vx_ot, Bool.or_eq_true] at hg
  rcases hg with hg | hg
  · exact va_tabs hg hvm h
  · exact word_at hW (good_of_word hg) h
/-- a list's words: the good ones out of the method's own list, the others by premises of their own -/
theorem vx_hat {args : Array Value} {s : State} {L B : List Cond} (h1 : ∀ w ∈ L.filter goodWord, w.before args s = true) (h2 : ∀ w ∈ L.filter (fun w => !goodWord w), w ∈ B) (h3 : ∀ w ∈ B, w.before args s = true) : ∀ w ∈ L, w.before args s = true := by
  intro w hw
  by_cases g : goodWord w = true
  · exact h1 w (List.mem_filter.mpr ⟨hw, g⟩)
  · refine h3 w (h2 w (List.mem_filter.mpr ⟨hw, ?_⟩))
    show (!goodWord w) = true
    cases hgw : goodWord w
    · rfl
    · exact absurd hgw g
theorem vx_c {args : Array Value} {s : State} {w : Cond} {B : List Cond} (h : w.before args s = true) (t : ∀ w ∈ B, w.before args s = true) : ∀ w' ∈ w :: B, w'.before args s = true := fun w' h' => (List.mem_cons.mp h').elim (fun e => by rw [e]; exact h) (t w')
theorem vx_n {args : Array Value} {s : State} : ∀ w ∈ ([] : List Cond), w.before args s = true := fun _ h => nomatch h
theorem vx_own {args : Array Value} {s : State} {L : List Cond} (h1 : ∀ w ∈ L.filter vx_no, w.before args s = true)
    (hU : (Cond.isRef (.static Bundle.tN "UNASSIGNED_STACK" Bundle.steD)).before args s = true) (hN : (Cond.isRef (.static Bundle.tN "SUPPRESSED_SENTINEL" Bundle.listD)).before args s = true)
    (lU : (Cond.laysStatic Bundle.tN "UNASSIGNED_STACK" Bundle.steD).before args s = true) (lN : (Cond.laysStatic Bundle.tN "SUPPRESSED_SENTINEL" Bundle.listD).before args s = true) : ∀ w ∈ L, w.before args s = true := by
  intro w hw
  by_cases e1 : w = .isRef (.static Bundle.tN "UNASSIGNED_STACK" Bundle.steD)
  · rw [e1]; exact hU
  · by_cases e2 : w = .isRef (.static Bundle.tN "SUPPRESSED_SENTINEL" Bundle.listD)
    · rw [e2]; exact hN
    · by_cases e3 : w = .laysStatic Bundle.tN "UNASSIGNED_STACK" Bundle.steD
      · rw [e3]; exact lU
      · by_cases e4 : w = .laysStatic Bundle.tN "SUPPRESSED_SENTINEL" Bundle.listD
        · rw [e4]; exact lN
        · exact h1 w (List.mem_filter.mpr ⟨hw, by unfold vx_no; rw [decide_eq_true e1, decide_eq_true e2, decide_eq_true e3, decide_eq_true e4]; rfl⟩)
/-- where a static field lies, its class's statics cell in H -/
def vx_L (C n d : String) (A : Nat → Prop) (U : State) (H : Heap) : Prop := ∃ (c : ClassId) (k : Class) (i : Nat) (f : Field) (a : Nat) (cell : Cell), U.vm.findClass C = some c ∧ U.fieldFound? C n d = some (c, k, i, f) ∧ f.isStatic = true ∧ k.statics = some a ∧ H[a]? = some cell ∧ cell.vm.isStatics = true ∧ cell.cls = c ∧ f.slot < cell.slots.size ∧ k.staticTypes[f.slot]? = some f.type ∧ ¬ A a
theorem vx_L.moved {C n d : String} {A : Nat → Prop} {u U : State} {H : Heap} (hvm : u.vm.Alike U.vm) (h : vx_L C n d A u H) : vx_L C n d A U H := by
  obtain ⟨c, k, i, f, a, cell, h1, h2, h3, h4, h5, h6, h7, h8, h9, h10⟩ := h
  obtain ⟨k', hi', he⟩ := State.fieldFound?_setVm hvm h2
  exact ⟨c, k', i, f, a, cell, by rw [hvm.findClass]; exact h1, hi', h3, by rw [he]; exact h4, h5, h6, h7, h8, by rw [he]; exact h9, h10⟩
theorem vx_L.kept {C n d : String} {A : Nat → Prop} {U : State} {H H1 : Heap} (h : vx_L C n d A U H) (hq : ∀ a : Nat, a < H.size → ¬ A a → H1[a]? = H[a]?) : vx_L C n d A U H1 := by
  obtain ⟨c, k, i, f, a, cell, h1, h2, h3, h4, h5, h6, h7, h8, h9, h10⟩ := h
  exact ⟨c, k, i, f, a, cell, h1, h2, h3, h4, by rw [hq a (Array.getElem?_eq_some_iff.mp h5).1 h10]; exact h5, h6, h7, h8, h9, h10⟩
theorem vx_L.narrow {C n d : String} {A B : Nat → Prop} {U : State} {H : Heap} (h : vx_L C n d A U H) (hAB : ∀ q, B q → A q) : vx_L C n d B U H := by
  obtain ⟨c, k, i, f, a, cell, h1, h2, h3, h4, h5, h6, h7, h8, h9, h10⟩ := h
  exact ⟨c, k, i, f, a, cell, h1, h2, h3, h4, h5, h6, h7, h8, h9, fun z => h10 (hAB _ z)⟩
theorem vx_L.word {C n d : String} {A : Nat → Prop} {s : State} {args : Array Value} (h : vx_L C n d A s s.heap) : (Cond.laysStatic C n d).before args s = true := by
  obtain ⟨c, k, i, f, a, cell, h1, h2, h3, h4, h5, h6, h7, h8, h9, -⟩ := h
  show (Cond.laysStatic C n d).holds args s none s [] = true
  exact Cond.laysStatic_of h1 h2 h3 h4 h5 h6 h7 h8 h9
/-- .. and what it holds: null or some reference -/
def vx_Zq (C n d : String) (A : Nat → Prop) (U : State) (H : Heap) : Prop := va_Zq C n d A U H ∧ vx_L C n d A U H
theorem vx_Zq.moved {C n d : String} {A : Nat → Prop} {u U : State} {H : Heap} (hvm : u.vm.Alike U.vm) (h : vx_Zq C n d A u H) : vx_Zq C n d A U H := ⟨va_Zq.moved hvm h.1, vx_L.moved hvm h.2⟩
theorem vx_Zq.kept {C n d : String} {A : Nat → Prop} {U : State} {H H1 : Heap} (h : vx_Zq C n d A U H) (hq : ∀ a : Nat, a < H.size → ¬ A a → H1[a]? = H[a]?) : vx_Zq C n d A U H1 := ⟨va_Zq.kept h.1 hq, vx_L.kept h.2 hq⟩
theorem vx_Zq.narrow {C n d : String} {A B : Nat → Prop} {U : State} {H : Heap} (h : vx_Zq C n d A U H) (hAB : ∀ q, B q → A q) : vx_Zq C n d B U H := ⟨va_Zq.narrow h.1 hAB, vx_L.narrow h.2 hAB⟩
theorem vx_Zqof {args : Array Value} {s : State} {C n d : String} {A : Nat → Prop} (hl : (Cond.laysStatic C n d).before args s = true) (hini : (Cond.initialized C).before args s = true) (h : (Cond.isRef (.static C n d)).before args s = true) (hA : ∀ a : Nat, a < s.heap.size → ¬ A a) : vx_Zq C n d A s s.heap := by
  refine ⟨va_Zqof hl hini h hA, ?_⟩
  obtain ⟨c, k, i, f, a, cell, h1, h2, h3, h4, h5, h6, h7, h8, h9⟩ := Cond.laysStatic_spec hl
  exact ⟨c, k, i, f, a, cell, h1, h2, h3, h4, h5, h6, h7, h8, h9, hA a (Array.getElem?_eq_some_iff.mp h5).1⟩
theorem vx_isRef {C n d : String} {v : Value} {A : Nat → Prop} {s : State} {args : Array Value} (h : va_Z C n d v A s s.heap) (hv : v.isRef = true) : (Cond.isRef (.static C n d)).before args s = true := by
  obtain ⟨cf, kf, fi, f, a, cell, h1, h2, h3, h4, h5, h6, h7, -⟩ := h
  have he : (Term.static C n d).eval args s none [] s = some v := by
    simp [Term.eval, State.fieldNamed?, h1, h2, h4, h5, h6, h7]
  simp only [Cond.before, Cond.holds, Cond.value, he]
  cases v <;> simp_all [Value.isRef]
theorem vx_isRefq {C n d : String} {A : Nat → Prop} {s : State} {args : Array Value} (h : va_Zq C n d A s s.heap) : (Cond.isRef (.static C n d)).before args s = true := by
  rcases h with h | ⟨t, h⟩
  · exact vx_isRef h rfl
  · exact vx_isRef h rfl
/-- the same frame, seen from here: as if the method were called anew in this heap -/
theorem vx_rebase {T : State} (X : Stand p l e R s m args below meth c T locs cells slots) {R' : Room} (hf : R'.frames ≤ R.frames) (hl : R'.locals ≤ R.locals) (hc : cells + R'.cells ≤ R.cells) (hs : slots + R'.slots ≤ R.slots) :
    Stand p l e R' ((T.setVm s.vm).setFrames (.invoking m args :: below)) m args below meth c T [] 0 0 := by
  have htop : (T.setVm s.vm).topJava?.isSome := X.here.top
  have hF : ((T.setVm s.vm).setFrames (.invoking m args :: below)).frames = .invoking m args :: below := State.frames_setFrames _ (State.cur_lt_of_top htop)
  obtain ⟨g₀, hg0⟩ := Option.isSome_iff_exists.mp htop
  obtain ⟨r, hr⟩ := State.topJava?_eq_some.mp hg0
  have hl9 : e.platform.stackLimits (T.setVm s.vm).me = e.platform.stackLimits s.me := X.limits
  have hb9 : (T.setVm s.vm).me.stackBytes = s.me.stackBytes := X.bytes
  refine ⟨X.admits, X.cas, X.clock, hF, ?_, X.hears, X.method, X.code, X.here, X.tail, X.warmed, ?_, ?_, ?_⟩
  · have h := X.room
    have hU : ((T.setVm s.vm).setFrames (.invoking m args :: below)).localsInUse = s.localsInUse := by
      rw [State.localsInUse_invoking hF (meth := meth) (c := c) X.method X.code, State.localsInUse_invoking X.frames X.method X.code]
    simp only [State.hasRoom, Bool.and_eq_true, decide_eq_true_eq] at h ⊢
    obtain ⟨⟨⟨⟨h1, h2, h3, h4, h5, h6⟩, h7⟩, h8⟩, h9⟩ := h
    rw [X.frames, List.length_cons] at h2 h3
    have q1 := X.heapSize
    have q2 := X.used
    simp only [hF, hU, List.length_cons, State.stackLimits_setFrames, State.stackBytes_setFrames, hl9, hb9]
    refine ⟨⟨⟨⟨by omega, by omega, by omega, by omega, by omega, h6⟩, ?_⟩, ?_⟩, X.book⟩
    · show T.heap.size + R'.cells ≤ e.platform.maxCells
      omega
    · show T.slotsUsed + R'.slots ≤ e.platform.maxSlots
      omega
  · rw [State.stackLimits_setFrames]; rfl
  · rw [State.stackBytes_setFrames]; rfl
  · refine ⟨?_, Nat.le_refl _, Nat.le_refl _, ?_, ?_, fun a c9 h9 => ⟨c9, h9, rfl, rfl, fun _ _ => rfl⟩⟩
    · obtain ⟨t, ht, -⟩ := State.frames_cons hr
      show T.setVm s.vm = { ((T.setVm s.vm).setFrames (.invoking m args :: below)).setFrames (T.setVm s.vm).frames with heap := T.heap, slotsUsed := T.slotsUsed }
      rw [State.setFrames_setFrames, State.setFrames_self ht]
      rfl
    · show T.slotsUsed = T.slotsUsed + ((T.heap.toList.drop T.heap.size).map (·.slots.size)).sum
      rw [List.drop_eq_nil_of_le (Nat.le_of_eq Array.length_toList)]
      rfl
    · show ((T.heap.toList.drop T.heap.size).map (·.slots.size)).sum ≤ 0
      rw [List.drop_eq_nil_of_le (Nat.le_of_eq Array.length_toList)]
      exact Nat.le_refl _
/-- 'throw new E()': new; dup; invokespecial; athrow -/
theorem vx_throw0 {cc : ByteArray} {pc : Nat} (hexec : p.tables.exec = Jvm.exec) (hb : c.code = cc) (hl : l.stackTraces = false) {own cls : String} {names : List String} {ik ic mc ms : Nat} {A : Nat → Prop}
    (hown : s.vm.findClass own = some m.cls) (hcls : Bundle.fit cls = true) (hnames : ∀ n ∈ names, Bundle.fit n = true)
    (hk : (Cond.classLink own ik cls).before args s = true) (hini : (Cond.initialized cls).before args s = true) (hat : ∀ w ∈ vx_at0 own ic cls names, w.before args s = true)
    (hgood : ∀ w ∈ Cond.classLink own ik cls :: Cond.initialized cls :: vx_at0 own ic cls names, vx_ot w = true)
    (hU : vx_Zq Bundle.tN "UNASSIGNED_STACK" Bundle.steD A s s.heap) (hN : vx_Zq Bundle.tN "SUPPRESSED_SENTINEL" Bundle.listD A s s.heap) (hS : va_S A s.heap H locs) (hsize : ls.size = c.maxLocals)
    (d0 : decode cc pc = .ok (.new ik, 3)) (d3 : decode cc (pc + 3) = .ok (.dup, 1)) (d4 : decode cc (pc + 4) = .ok (.invokespecial ic, 3)) (d7 : decode cc (pc + 7) = .ok (.athrow, 1))
    (hout : ∀ x ∈ c.exceptionTable.toList, covers x (pc + 7) = false)
    (hRframes : names.length + 3 < R.frames) (hRlocals : (rest.map fun v => v.category).sum + (13 * (names.length + 1) + 42) ≤ R.locals) (hRcells : cells + 1 ≤ R.cells) (hRslots : slots + 6 ≤ R.slots) (hlocks : meth.locks = false)
    (hx : ∀ t : State, s.vm.Alike t.vm → H.size ≤ t.heap.size → (∀ q : Nat, q < H.size → t.heap[q]? = H[q]?) → XC cls s t)
    (hf : ∀ z ∈ locs, free z.base) (hc : cells + 1 ≤ mc) (hs : slots + 6 ≤ ms) :
    W p l e R s m args below meth c H locs cells slots (vx_MQ below Qc XC args s mc ms free) (F0 m pc ls rest) := by
  intro T hT X
  have htr : e.platform.stackTraces = false := (show e.platform.stackTraces = l.stackTraces by rw [X.admits.platform]).trans hl
  have Y := vx_rebase X (R' := { frames := R.frames, locals := R.locals, cells := 1, slots := 6 }) (Nat.le_refl _) (Nat.le_refl _) hRcells hRslots
  obtain ⟨s', hA⟩ : ∃ z, z = (T.setVm s.vm).setFrames (.invoking m args :: below) := ⟨_, rfl⟩
  rw [← hA] at Y
  have hvm : s'.vm = s.vm := by rw [hA]; rfl
  have hhp : s'.heap = H := by rw [hA]; exact hT
  have hW0 : s.WarmedH s'.vm := by rw [hvm]; exact State.WarmedH.refl s
  have hat' : ∀ w ∈ vx_at0 own ic cls names, w.before args s' = true := fun w hw => vx_ot_at hW0 hvm.symm (hgood w (List.mem_cons_of_mem _ (List.mem_cons_of_mem _ hw))) (hat w hw)
  have hk' : (Cond.classLink own ik cls).before args s' = true := vx_ot_at hW0 hvm.symm (hgood _ List.mem_cons_self) hk
  have hini' : (Cond.initialized cls).before args s' = true := vx_ot_at hW0 hvm.symm (hgood _ (List.mem_cons_of_mem _ List.mem_cons_self)) hini
  have hU' : vx_Zq Bundle.tN "UNASSIGNED_STACK" Bundle.steD A s' s'.heap := by rw [hhp]; exact vx_Zq.moved hW0.alike (hU.kept hS.2.1)
  have hN' : vx_Zq Bundle.tN "SUPPRESSED_SENTINEL" Bundle.listD A s' s'.heap := by rw [hhp]; exact vx_Zq.moved hW0.alike (hN.kept hS.2.1)
  have h : ∀ w ∈ Bundle.ownAtoms0 own ic cls names, w.before args s' = true := vx_own hat' (vx_isRefq hU'.1) (vx_isRefq hN'.1) hU'.2.word hN'.2.word
  have hown' : s'.vm.findClass own = some m.cls := by rw [hvm]; exact hown
  have hins : (Cond.instantiable cls 6).before args s' = true := h _ (by simp [Bundle.ownAtoms0])
  obtain ⟨vm₁, cX, kX, hfX, hkX, -, -, X₁, st1⟩ := Y.newCold hexec (own := own) (C := cls) (index := ik) (n := 6) hown' hk' hins hini'
    (g := F0 m pc ls rest) rfl (by rw [hb]; exact d0) (Nat.le_refl _) (Nat.le_refl _)
  generalize hT1 : (T.setVm vm₁).pushCell { cls := cX, slots := kX.instanceTypes.map defaultValue, vm := .none } = T1 at X₁ st1
  have hcat : (Value.ref T.heap.size).category = 1 := rfl
  have hcellA : T1.heap[T.heap.size]? = some (freshCell cX kX) := by rw [← hT1]; exact State.heap_pushCell_size _ _
  have d3' : decode c.code (pc + 3) = .ok (.dup, 1) := by rw [hb]; exact d3
  obtain ⟨U, hsteps, hrun, hend, hW, hsame, ce, hce, hO⟩ := X₁.ctorThrow0 hexec htr (own := own) (cls := cls) (names := names) (ic := ic) hown' hcls hnames h (fun x hx => nomatch hx) hfX hkX hcellA (by rw [hhp, hT]; exact Nat.le_refl _)
    (g := { method := m, pc := pc + 4, locals := ls, stack := .ref T.heap.size :: .ref T.heap.size :: rest, locked := none }) rfl hsize rfl rfl (rest := rest) rfl
    (by rw [hb]; exact d4) (by rw [hb]; exact d7) hout hRframes (by simp only [List.map_cons, List.sum_cons, hcat]; omega) hlocks
  obtain ⟨f1, f2⟩ := vx_frame hsame
  rw [hhp] at f1 f2
  have hWs : s.WarmedH U.vm := State.WarmedH.trans hW0 hW
  have hcl : s.vm.findClass cls = some ce.cls := by
    have h9 := hO.cls
    rw [hvm] at h9
    exact h9
  have hall : s.sameButNew ({ U with vm := s.vm } : State) locs mc ms := by
    subst hA
    obtain ⟨e1, e2⟩ := hsame
    rw [State.setFrames_setFrames] at e1
    have h2 : (T.setVm s.vm).sameButNew ({ U with vm := s.vm } : State) [] (0 + 1) (0 + 6) := ⟨e1, e2⟩
    have h3 := X.same.trans h2
    rw [List.append_nil] at h3
    exact h3.mono hc hs
  refine ⟨U, ?_, .threw T.heap.size, hrun, hend, Or.inr ⟨T.heap.size, rfl, cls, ce, locs, hx U hWs.alike f1 (fun q hq => f2 q hq (fun z hz => nomatch hz)), hce, hO.vm, hcl, hWs, hall, hf⟩⟩
  refine st1 _ ?_
  show Steps p.tables e below (T1.setTop { method := m, pc := pc + 3, locals := ls, stack := .ref T.heap.size :: rest, locked := none }) _
  jvm_step X₁.here [X₁.here.top, hexec, d3', Value.category]
  exact hsteps
/-- 'throw new E("text")': new; dup; ldc; invokespecial; athrow -/
theorem vx_throwS {cc : ByteArray} {pc : Nat} (hexec : p.tables.exec = Jvm.exec) (hb : c.code = cc) (hl : l.stackTraces = false) {own cls text : String} {names : List String} {ik is ic mc ms sa : Nat} {A : Nat → Prop}
    (hown : s.vm.findClass own = some m.cls) (hcls : Bundle.fit cls = true) (hnames : ∀ n ∈ names, Bundle.fit n = true)
    (hk : (Cond.classLink own ik cls).before args s = true) (hini : (Cond.initialized cls).before args s = true) (hstr : vk_R own is text sa s) (hat : ∀ w ∈ vx_atS own ic cls names, w.before args s = true)
    (hgood : ∀ w ∈ Cond.classLink own ik cls :: Cond.initialized cls :: vx_atS own ic cls names, vx_ot w = true)
    (hU : vx_Zq Bundle.tN "UNASSIGNED_STACK" Bundle.steD A s s.heap) (hN : vx_Zq Bundle.tN "SUPPRESSED_SENTINEL" Bundle.listD A s s.heap) (hS : va_S A s.heap H locs) (hsize : ls.size = c.maxLocals)
    (d0 : decode cc pc = .ok (.new ik, 3)) (d3 : decode cc (pc + 3) = .ok (.dup, 1)) (d4 : decode cc (pc + 4) = .ok (.ldc is, 2)) (d6 : decode cc (pc + 6) = .ok (.invokespecial ic, 3)) (d9 : decode cc (pc + 9) = .ok (.athrow, 1))
    (hout : ∀ x ∈ c.exceptionTable.toList, covers x (pc + 9) = false)
    (hRframes : names.length + 3 < R.frames) (hRlocals : (rest.map fun v => v.category).sum + (13 * (names.length + 1) + 43) ≤ R.locals) (hRcells : cells + 1 ≤ R.cells) (hRslots : slots + 6 ≤ R.slots) (hlocks : meth.locks = false)
    (hx : ∀ t : State, s.vm.Alike t.vm → H.size ≤ t.heap.size → (∀ q : Nat, q < H.size → t.heap[q]? = H[q]?) → XC cls s t)
    (hf : ∀ z ∈ locs, free z.base) (hc : cells + 1 ≤ mc) (hs : slots + 6 ≤ ms) :
    W p l e R s m args below meth c H locs cells slots (vx_MQ below Qc XC args s mc ms free) (F0 m pc ls rest) := by
  intro T hT X
  have htr : e.platform.stackTraces = false := (show e.platform.stackTraces = l.stackTraces by rw [X.admits.platform]).trans hl
  have Y := vx_rebase X (R' := { frames := R.frames, locals := R.locals, cells := 1, slots := 6 }) (Nat.le_refl _) (Nat.le_refl _) hRcells hRslots
  obtain ⟨s', hA⟩ : ∃ z, z = (T.setVm s.vm).setFrames (.invoking m args :: below) := ⟨_, rfl⟩
  rw [← hA] at Y
  have hvm : s'.vm = s.vm := by rw [hA]; rfl
  have hhp : s'.heap = H := by rw [hA]; exact hT
  have hW0 : s.WarmedH s'.vm := by rw [hvm]; exact State.WarmedH.refl s
  have hat' : ∀ w ∈ vx_atS own ic cls names, w.before args s' = true := fun w hw => vx_ot_at hW0 hvm.symm (hgood w (List.mem_cons_of_mem _ (List.mem_cons_of_mem _ hw))) (hat w hw)
  have hk' : (Cond.classLink own ik cls).before args s' = true := vx_ot_at hW0 hvm.symm (hgood _ List.mem_cons_self) hk
  have hini' : (Cond.initialized cls).before args s' = true := vx_ot_at hW0 hvm.symm (hgood _ (List.mem_cons_of_mem _ List.mem_cons_self)) hini
  have hU' : vx_Zq Bundle.tN "UNASSIGNED_STACK" Bundle.steD A s' s'.heap := by rw [hhp]; exact vx_Zq.moved hW0.alike (hU.kept hS.2.1)
  have hN' : vx_Zq Bundle.tN "SUPPRESSED_SENTINEL" Bundle.listD A s' s'.heap := by rw [hhp]; exact vx_Zq.moved hW0.alike (hN.kept hS.2.1)
  have h : ∀ w ∈ Bundle.ownAtoms own ic cls names, w.before args s' = true := vx_own hat' (vx_isRefq hU'.1) (vx_isRefq hN'.1) hU'.2.word hN'.2.word
  have hown' : s'.vm.findClass own = some m.cls := by rw [hvm]; exact hown
  have hins : (Cond.instantiable cls 6).before args s' = true := h _ (by simp [Bundle.ownAtoms])
  obtain ⟨vm₁, cX, kX, hfX, hkX, -, -, X₁, st1⟩ := Y.newCold hexec (own := own) (C := cls) (index := ik) (n := 6) hown' hk' hins hini'
    (g := F0 m pc ls rest) rfl (by rw [hb]; exact d0) (Nat.le_refl _) (Nat.le_refl _)
  generalize hT1 : (T.setVm vm₁).pushCell { cls := cX, slots := kX.instanceTypes.map defaultValue, vm := .none } = T1 at X₁ st1
  have hcat : (Value.ref T.heap.size).category = 1 := rfl
  have hcellA : T1.heap[T.heap.size]? = some (freshCell cX kX) := by rw [← hT1]; exact State.heap_pushCell_size _ _
  have d3' : decode c.code (pc + 3) = .ok (.dup, 1) := by rw [hb]; exact d3
  have d4' : decode c.code (pc + 4) = .ok (.ldc is, 2) := by rw [hb]; exact d4
  have hstr' : vk_R own is text sa s' := vk_R.warm hW0 hstr
  obtain ⟨U, hsteps, hrun, hend, hW, hsame, ce, hce, hO⟩ := X₁.ctorThrowS hexec htr (own := own) (cls := cls) (names := names) (ic := ic) hown' hcls hnames h (fun x hx => nomatch hx) hfX hkX hcellA (by rw [hhp, hT]; exact Nat.le_refl _) (msg := .ref sa) rfl
    (g := { method := m, pc := pc + 6, locals := ls, stack := .ref sa :: .ref T.heap.size :: .ref T.heap.size :: rest, locked := none }) rfl hsize rfl rfl (rest := rest) rfl
    (by rw [hb]; exact d6) (by rw [hb]; exact d9) hout hRframes (by simp only [List.map_cons, List.sum_cons, hcat]; omega) hlocks
  obtain ⟨f1, f2⟩ := vx_frame hsame
  rw [hhp] at f1 f2
  have hWs : s.WarmedH U.vm := State.WarmedH.trans hW0 hW
  have hcl : s.vm.findClass cls = some ce.cls := by
    have h9 := hO.cls
    rw [hvm] at h9
    exact h9
  have hall : s.sameButNew ({ U with vm := s.vm } : State) locs mc ms := by
    subst hA
    obtain ⟨e1, e2⟩ := hsame
    rw [State.setFrames_setFrames] at e1
    have h2 : (T.setVm s.vm).sameButNew ({ U with vm := s.vm } : State) [] (0 + 1) (0 + 6) := ⟨e1, e2⟩
    have h3 := X.same.trans h2
    rw [List.append_nil] at h3
    exact h3.mono hc hs
  refine ⟨U, ?_, .threw T.heap.size, hrun, hend, Or.inr ⟨T.heap.size, rfl, cls, ce, locs, hx U hWs.alike f1 (fun q hq => f2 q hq (fun z hz => nomatch hz)), hce, hO.vm, hcl, hWs, hall, hf⟩⟩
  refine st1 _ ?_
  show Steps p.tables e below (T1.setTop { method := m, pc := pc + 3, locals := ls, stack := .ref T.heap.size :: rest, locked := none }) _
  jvm_step X₁.here [X₁.here.top, hexec, d3', Value.category]
  exact X₁.ldcString hexec (own := own) (text := text) (index := is) (a := sa) hown' hstr'.1 hstr'.2
    (g := { method := m, pc := pc + 4, locals := ls, stack := .ref T.heap.size :: .ref T.heap.size :: rest, locked := none }) rfl d4' _ hsteps
/-- 'throw new E("text")', the text by a wide index -/
theorem vx_throwSW {cc : ByteArray} {pc : Nat} (hexec : p.tables.exec = Jvm.exec) (hb : c.code = cc) (hl : l.stackTraces = false) {own cls text : String} {names : List String} {ik is ic mc ms sa : Nat} {A : Nat → Prop}
    (hown : s.vm.findClass own = some m.cls) (hcls : Bundle.fit cls = true) (hnames : ∀ n ∈ names, Bundle.fit n = true)
    (hk : (Cond.classLink own ik cls).before args s = true) (hini : (Cond.initialized cls).before args s = true) (hstr : vk_R own is text sa s) (hat : ∀ w ∈ vx_atS own ic cls names, w.before args s = true)
    (hgood : ∀ w ∈ Cond.classLink own ik cls :: Cond.initialized cls :: vx_atS own ic cls names, vx_ot w = true)
    (hU : vx_Zq Bundle.tN "UNASSIGNED_STACK" Bundle.steD A s s.heap) (hN : vx_Zq Bundle.tN "SUPPRESSED_SENTINEL" Bundle.listD A s s.heap) (hS : va_S A s.heap H locs) (hsize : ls.size = c.maxLocals)
    (d0 : decode cc pc = .ok (.new ik, 3)) (d3 : decode cc (pc + 3) = .ok (.dup, 1)) (d4 : decode cc (pc + 4) = .ok (.ldc_w is, 3)) (d7 : decode cc (pc + 7) = .ok (.invokespecial ic, 3)) (d10 : decode cc (pc + 10) = .ok (.athrow, 1))
    (hout : ∀ x ∈ c.exceptionTable.toList, covers x (pc + 10) = false)
    (hRframes : names.length + 3 < R.frames) (hRlocals : (rest.map fun v => v.category).sum + (13 * (names.length + 1) + 43) ≤ R.locals) (hRcells : cells + 1 ≤ R.cells) (hRslots : slots + 6 ≤ R.slots) (hlocks : meth.locks = false)
    (hx : ∀ t : State, s.vm.Alike t.vm → H.size ≤ t.heap.size → (∀ q : Nat, q < H.size → t.heap[q]? = H[q]?) → XC cls s t)
    (hf : ∀ z ∈ locs, free z.base) (hc : cells + 1 ≤ mc) (hs : slots + 6 ≤ ms) :
    W p l e R s m args below meth c H locs cells slots (vx_MQ below Qc XC args s mc ms free) (F0 m pc ls rest) := by
  intro T hT X
  have htr : e.platform.stackTraces = false := (show e.platform.stackTraces = l.stackTraces by rw [X.admits.platform]).trans hl
  have Y := vx_rebase X (R' := { frames := R.frames, locals := R.locals, cells := 1, slots := 6 }) (Nat.le_refl _) (Nat.le_refl _) hRcells hRslots
  obtain ⟨s', hA⟩ : ∃ z, z = (T.setVm s.vm).setFrames (.invoking m args :: below) := ⟨_, rfl⟩
  rw [← hA] at Y
  have hvm : s'.vm = s.vm := by rw [hA]; rfl
  have hhp : s'.heap = H := by rw [hA]; exact hT
  have hW0 : s.WarmedH s'.vm := by rw [hvm]; exact State.WarmedH.refl s
  have hat' : ∀ w ∈ vx_atS own ic cls names, w.before args s' = true := fun w hw => vx_ot_at hW0 hvm.symm (hgood w (List.mem_cons_of_mem _ (List.mem_cons_of_mem _ hw))) (hat w hw)
  have hk' : (Cond.classLink own ik cls).before args s' = true := vx_ot_at hW0 hvm.symm (hgood _ List.mem_cons_self) hk
  have hini' : (Cond.initialized cls).before args s' = true := vx_ot_at hW0 hvm.symm (hgood _ (List.mem_cons_of_mem _ List.mem_cons_self)) hini
  have hU' : vx_Zq Bundle.tN "UNASSIGNED_STACK" Bundle.steD A s' s'.heap := by rw [hhp]; exact vx_Zq.moved hW0.alike (hU.kept hS.2.1)
  have hN' : vx_Zq Bundle.tN "SUPPRESSED_SENTINEL" Bundle.listD A s' s'.heap := by rw [hhp]; exact vx_Zq.moved hW0.alike (hN.kept hS.2.1)
  have h : ∀ w ∈ Bundle.ownAtoms own ic cls names, w.before args s' = true := vx_own hat' (vx_isRefq hU'.1) (vx_isRefq hN'.1) hU'.2.word hN'.2.word
  have hown' : s'.vm.findClass own = some m.cls := by rw [hvm]; exact hown
  have hins : (Cond.instantiable cls 6).before args s' = true := h _ (by simp [Bundle.ownAtoms])
  obtain ⟨vm₁, cX, kX, hfX, hkX, -, -, X₁, st1⟩ := Y.newCold hexec (own := own) (C := cls) (index := ik) (n := 6) hown' hk' hins hini'
    (g := F0 m pc ls rest) rfl (by rw [hb]; exact d0) (Nat.le_refl _) (Nat.le_refl _)
  generalize hT1 : (T.setVm vm₁).pushCell { cls := cX, slots := kX.instanceTypes.map defaultValue, vm := .none } = T1 at X₁ st1
  have hcat : (Value.ref T.heap.size).category = 1 := rfl
  have hcellA : T1.heap[T.heap.size]? = some (freshCell cX kX) := by rw [← hT1]; exact State.heap_pushCell_size _ _
  have d3' : decode c.code (pc + 3) = .ok (.dup, 1) := by rw [hb]; exact d3
  have d4' : decode c.code (pc + 4) = .ok (.ldc_w is, 3) := by rw [hb]; exact d4
  have hstr' : vk_R own is text sa s' := vk_R.warm hW0 hstr
  obtain ⟨U, hsteps, hrun, hend, hW, hsame, ce, hce, hO⟩ := X₁.ctorThrowS hexec htr (own := own) (cls := cls) (names := names) (ic := ic) hown' hcls hnames h (fun x hx => nomatch hx) hfX hkX hcellA (by rw [hhp, hT]; exact Nat.le_refl _) (msg := .ref sa) rfl
    (g := { method := m, pc := pc + 7, locals := ls, stack := .ref sa :: .ref T.heap.size :: .ref T.heap.size :: rest, locked := none }) rfl hsize rfl rfl (rest := rest) rfl
    (by rw [hb]; exact d7) (by rw [hb]; exact d10) hout hRframes (by simp only [List.map_cons, List.sum_cons, hcat]; omega) hlocks
  obtain ⟨f1, f2⟩ := vx_frame hsame
  rw [hhp] at f1 f2
  have hWs : s.WarmedH U.vm := State.WarmedH.trans hW0 hW
  have hcl : s.vm.findClass cls = some ce.cls := by
    have h9 := hO.cls
    rw [hvm] at h9
    exact h9
  have hall : s.sameButNew ({ U with vm := s.vm } : State) locs mc ms := by
    subst hA
    obtain ⟨e1, e2⟩ := hsame
    rw [State.setFrames_setFrames] at e1
    have h2 : (T.setVm s.vm).sameButNew ({ U with vm := s.vm } : State) [] (0 + 1) (0 + 6) := ⟨e1, e2⟩
    have h3 := X.same.trans h2
    rw [List.append_nil] at h3
    exact h3.mono hc hs
  refine ⟨U, ?_, .threw T.heap.size, hrun, hend, Or.inr ⟨T.heap.size, rfl, cls, ce, locs, hx U hWs.alike f1 (fun q hq => f2 q hq (fun z hz => nomatch hz)), hce, hO.vm, hcl, hWs, hall, hf⟩⟩
  refine st1 _ ?_
  show Steps p.tables e below (T1.setTop { method := m, pc := pc + 3, locals := ls, stack := .ref T.heap.size :: rest, locked := none }) _
  jvm_step X₁.here [X₁.here.top, hexec, d3', Value.category]
  exact X₁.ldcStringW hexec (own := own) (text := text) (index := is) (a := sa) hown' hstr'.1 hstr'.2
    (g := { method := m, pc := pc + 4, locals := ls, stack := .ref T.heap.size :: .ref T.heap.size :: rest, locked := none }) rfl d4' _ hsteps
end Ends
section Bodies
variable {l : Launch}
theorem vx_ofW {y : MethodName} {ws ws' : List Cond} {rm : Room} {Pc : Array Value → State → Prop} {Qc : Array Value → State → Outcome → State → Prop} {XC : String → State → State → Prop} {mc ms : Nat} {free : Addr → Prop} {cc : ByteArray} {maxL : Nat} {ret : Option FieldType}
    (hy : plainName y.cls = true) (hw : ws = Cond.code y cc maxL ret :: ws')
    (body : ∀ p e s m args below meth c s₁, BodyLoose p l y (headSpec ws rm) cc maxL ret e s m args below meth c s₁ → c.maxLocals = maxL → (∀ x ∈ c.exceptionTable.toList, False) → Pc args s →
      W p l e (headSpec ws rm).room s m args below meth c s.heap [] 0 0 (vx_MQ below Qc XC args s mc ms free) (entryFrame m args maxL)) : vx_Met l y ws rm Pc Qc XC mc ms free := by
  refine MetFree.of_bodyS (code := cc) (maxLocals := maxL) (ret := ret) hy ?_ ?_
  · intro args s m h hn
    obtain ⟨meth, c, h1, h2, h3, h4, h5, h6, -, -⟩ := Cond.code_spec hn (atoms_spec (ws := ws) h _ (by rw [hw]; exact List.mem_cons_self))
    exact ⟨meth, c, h1, h2, h3, h4, h5, h6⟩
  · intro p e s m args below meth c s₁ B hml hP _
    have hh0 : s₁.heap = s.heap := by rw [B.state]; rfl
    have ht : ∀ x ∈ c.exceptionTable.toList, False := by
      obtain ⟨meth9, c9, h1, h2, -, -, -, -, h7, -⟩ := Cond.code_spec B.named (atoms_spec (ws := ws) B.pre _ (by rw [hw]; exact List.mem_cons_self))
      cases Option.some.inj (h1.symm.trans B.method)
      cases Option.some.inj (h2.symm.trans (Stand.of_body B).code)
      intro x hx
      rw [Array.isEmpty_iff.mp h7] at hx
      cases hx
    obtain ⟨t, a1, o, b1, b2, b3⟩ := body p e s m args below meth c s₁ B hml ht hP s₁ hh0 (Stand.of_body B)
    exact ⟨t, o, a1, b1, b2, b3⟩
/-- the table of a body with handlers -/
theorem vx_table {p : Program} {x y : MethodName} {S : Spec} {cc bytes : ByteArray} {maxL maxL' : Nat} {ret ret' : Option FieldType} {e : Env} {s s₁ : State} {m : MethodId} {args : Array Value} {below : List Frame} {meth : Method} {c : Code} {hh : List (Nat × Nat × Nat × Nat)}
    (B : BodyLoose p l y S cc maxL ret e s m args below meth c s₁) (h : (Cond.codeWith y bytes maxL' ret' hh).before args s = true) : c.exceptionTable.toList = tableOf hh := by
  obtain ⟨m9, meth9, c9, hn9, h1, h2, -, -, h6, -⟩ := Cond.codeWith_spec h
  cases Option.some.inj (hn9.symm.trans B.named)
  cases Option.some.inj (h1.symm.trans B.method)
  cases Option.some.inj (h2.symm.trans (Stand.of_body B).code)
  rw [← h6, table_eq]
end Bodies
end VXA
/-! ===== END ===== -/
/-! ===== BEGIN a static call of a method with an exception table ===== -/
section VXS
variable {p : Program} {l : Launch} {e : Env} {R : Room} {s : State} {m : MethodId} {args : Array Value} {below : List Frame} {meth : Method} {c : Code} {T : State} {H : Heap} {locs : List Loc} {cells slots : Nat}
abbrev vx_CSW (R : Room) (s : State) (args : Array Value) (own : String) (index : Nat) (y : MethodName) (bytes : ByteArray) (maxL : Nat) (ret : Option FieldType) (hh : List (Nat × Nat × Nat × Nat)) (ws : List Cond) (rm : Room) (mc ms n : Nat) : Prop :=
  (rm.cells = mc ∧ rm.slots = ms ∧ rm.frames + 1 ≤ R.frames ∧ 8 + (maxL + 11) + rm.locals ≤ R.locals ∧ (∀ w ∈ ws, ∀ (a' : Array Value) (U : State), s.WarmedH U.vm → w.before a' U = true) ∧ Cond.codeWith y bytes maxL ret hh ∈ ws) ∧
  (Cond.codeWith y bytes maxL ret hh).before args s = true ∧ (Cond.initialized y.cls).before args s = true ∧ (y.cls ≠ "java/lang/invoke/MethodHandle" ∧ y.cls ≠ "java/lang/invoke/VarHandle") ∧
  (∀ sig, parseMethodDescriptor y.desc = some sig → n = sig.parameters.length) ∧ (Cond.methodLink own index y).before args s = true ∧ (Cond.static y).before args s = true
theorem vx_cwSW {own : String} {index maxL mc ms : Nat} {y : MethodName} {bytes : ByteArray} {ret : Option FieldType} {hh : List (Nat × Nat × Nat × Nat)} {Ts ws ws' : List Cond} {rm : Room} (n : Nat) (ht : ∀ w ∈ Ts, w.before args s = true) (hT : GoodIn Ts (va_wsS own index y ws)) (hw : ws = Cond.codeWith y bytes maxL ret hh :: ws') (hrc : rm.cells = mc) (hrs : rm.slots = ms)
    (hd : y.cls ≠ "java/lang/invoke/MethodHandle" ∧ y.cls ≠ "java/lang/invoke/VarHandle" ∧ (parseMethodDescriptor y.desc).map (fun d => d.parameters.length) = some n) (hR : rm.frames + 1 ≤ R.frames ∧ 8 + (maxL + 11) + rm.locals ≤ R.locals) :
    vx_CSW R s args own index y bytes maxL ret hh ws rm mc ms n := by
  have ok : ∀ w ∈ va_wsS own index y ws, w.before args s = true := fun w h => ht w (hT w h).1
  have hG : GoodIn Ts ws := fun w h => hT w (by unfold va_wsS; exact List.mem_append_right _ h)
  have hc : Cond.codeWith y bytes maxL ret hh ∈ ws := by rw [hw]; exact List.mem_cons_self
  refine ⟨⟨hrc, hrs, hR.1, hR.2, pay_in ht hG, hc⟩, ht _ (hG _ hc).1, ok _ (by simp [va_wsS]), ⟨hd.1, hd.2.1⟩, fun sig h => ?_, ok _ (by simp [va_wsS]), ok _ (by simp [va_wsS])⟩
  have h2 := hd.2.2
  rw [h] at h2
  exact (Option.some.inj h2).symm
theorem vx_callSW (X : Stand p l e R s m args below meth c T locs cells slots) (hexec : p.tables.exec = Jvm.exec) {own : String} {index : Nat} {y : MethodName} {bytes : ByteArray} {maxL : Nat} {ret : Option FieldType} {hh : List (Nat × Nat × Nat × Nat)}
    (hown : s.vm.findClass own = some m.cls) (hlink : (Cond.methodLink own index y).before args s = true) (hstat : (Cond.static y).before args s = true) (hinit : (Cond.initialized y.cls).before args s = true)
    (hcode : (Cond.codeWith y bytes maxL ret hh).before args s = true) (hy : y.cls ≠ "java/lang/invoke/MethodHandle" ∧ y.cls ≠ "java/lang/invoke/VarHandle")
    {W9 : Nat} {Pre : Pt → Array Value → Prop} {Post : Pt → Array Value → Option Value → Pt → Prop} (hK : Back l R p e below s args y 3 W9 Pre Post)
    {g : JFrame} (hg : g.method = m) (hsize : g.locals.size = c.maxLocals) {argsL rest : List Value} (hlen : ∀ sig, parseMethodDescriptor y.desc = some sig → argsL.length = sig.parameters.length)
    (hstack : g.stack = argsL.reverse ++ rest) (hW : 2 * g.monitorRoom + (rest.map fun v => v.category).sum ≤ W9) (hdg : decode c.code g.pc = .ok (.invokestatic index, 3))
    (hpre : ∀ vm₁, s.WarmedH vm₁ → Pre ⟨T.setVm vm₁, locs, cells, slots⟩ argsL.toArray) :
    ∃ (v : Option Value) (vm₁ : Vm) (B : Pt), s.WarmedH vm₁ ∧ Stand p l e R s m args below meth c B.U B.locs B.cells B.slots ∧ Post ⟨T.setVm vm₁, locs, cells, slots⟩ argsL.toArray v B ∧
      ∀ target, Steps p.tables e below (B.U.setTop { g with pc := g.pc + 3, stack := v.toList ++ rest }) target → Steps p.tables e below (T.setTop g) target := by
  obtain ⟨mk, methM, cM, hnamed, hmethM, -, -, -, -, -, -, hsigM⟩ := Cond.codeWith_spec hcode
  have hstatic : methM.isStatic = true := Cond.static_spec hnamed hmethM hstat
  obtain ⟨kP, hkP, -⟩ := className_of_methodNamed hnamed
  have hinitP : kP.init = .initialized := Cond.initialized_spec (findClass_of_methodNamed hnamed) hkP hinit
  obtain ⟨vm₁, X₁, hstep₁⟩ := X.invokestatic hexec hown hlink hnamed hmethM hstatic hkP hinitP hy (g := g) hg (argsL := argsL) (rest := rest) (hlen _ hsigM) hstack hdg
  obtain ⟨v, B, X', hpost, hsteps⟩ := hK m meth c ⟨T.setVm vm₁, locs, cells, slots⟩ { g with stack := rest } (.invokestatic index) mk argsL.toArray X₁ hg hsize hdg hW (X₁.named hnamed) (hpre vm₁ X₁.warmed)
  exact ⟨v, vm₁, B, X₁.warmed, X', hpost, fun target h => hstep₁ _ fun acts => by rw [doInvoke_state]; exact hsteps.trans h⟩
theorem vx_runSW {y : MethodName} {bytes cc : ByteArray} {maxL nL mc ms n index : Nat} {ret : Option FieldType} {hh : List (Nat × Nat × Nat × Nat)} {ws : List Cond} {rm : Room} {Pc : Array Value → State → Prop} {Qc : Array Value → State → Outcome → State → Prop} {free : Addr → Prop} {Ts : List Cond} {own : String} {As rest : List Value} {g : JFrame}
    (S : CallFix p m c cc nL s args Ts own) (hM : Met l y ws rm Pc Qc mc ms free) (cw : vx_CSW R s args own index y bytes maxL ret hh ws rm mc ms n) (hp : PreS s H Pc As)
    (hg : g.method = m) (hn : As.length = n) (hsize : g.locals.size = nL) (hstack : g.stack = As.reverse ++ rest) (hW : 2 * g.monitorRoom + (rest.map fun v => v.category).sum ≤ 8) (hdg : decode cc g.pc = .ok (.invokestatic index, 3)) (hf : cells + mc ≤ R.cells ∧ slots + ms ≤ R.slots) :
    va_Run p l e R s m args below meth c H locs cells slots mc ms g rest (Qc As.toArray) (free) := by
  obtain ⟨⟨hrc, hrs, hfr, hlo, hws, hcw⟩, hcode, hini, hy, hlen, hl, hstt⟩ := cw
  have hK : Back l R p e below s args y 3 8 (PreOf R mc ms Pc) (PostOf Qc mc ms free) := va_backW (hh := hh) (bytes := bytes) (maxL := maxL) (ret := ret) hM hp.1 hrc hrs hfr hlo hws hcw (fun a' U hW => word_at hW (Or.inl (by first | rfl | simp [Cond.onTables, Cond.keeps, Cond.steady])) hini)
  obtain ⟨hx, hb, hml, ho, -⟩ := S
  intro T hT X
  obtain ⟨v, vm₁, ⟨U', l2, c2, s2⟩, hW₁, X', ⟨g', mk, t, L, e1, e2, hq, h1, hL, h2, h3⟩, st⟩ := vx_callSW X hx (hh := hh) (bytes := bytes) (maxL := maxL) (ret := ret) ho hl hstt hini hcode hy hK hg (hsize.trans hml.symm) (argsL := As) (rest := rest) (fun sig h => hn.trans (hlen sig h)) hstack hW (by rw [hb]; exact hdg)
    (fun vm₁ hW₁ => ⟨hf.1, hf.2, hp.2 (T.setVm vm₁) hT hW₁⟩)
  dsimp only [Pt.U, Pt.locs, Pt.cells, Pt.slots] at X' e1 e2 h1 h2 h3 st
  subst h1; subst h2; subst h3
  exact ⟨v, (T.setVm vm₁).calling g' mk As.toArray, t, U', L, hT, X', hL, e1, e2, hq, st⟩
/-- not caught here, past rows that name other classes: it goes on to the caller -/
theorem vx_outP {p : Program} {l : Launch} {e : Env} {R : Room} {s : State} {m : MethodId} {args : Array Value} {below : List Frame} {meth : Method} {c : Code} {H : Heap} {locs : List Loc} {cells slots : Nat} {free : Addr → Prop} {ls : Array Slot} {rest : List Value} {Qc : Array Value → State → Outcome → State → Prop} {XC : String → State → State → Prop}
    {pc : Nat} {own E : String} {ce : Cell} {q : Addr} {mc ms : Nat} (hown : s.vm.findClass own = some m.cls) (hlocks : meth.locks = false)
    (hpass : ∀ z ∈ c.exceptionTable.toList, covers z pc = false ∨ (z.catchType ≠ 0 ∧ ∃ nm : String, (Cond.classLink own z.catchType nm).before args s = true ∧ va_Nc E nm s)) (hcell : H[q]? = some ce) (hv : ce.vm = .none) (hcl : s.vm.findClass E = some ce.cls)
    (hx : ∀ t : State, t.heap = H → s.vm.Alike t.vm → XC E s t) (hf : ∀ z ∈ locs, free z.base) (hc : cells ≤ mc) (hs : slots ≤ ms) :
    vx_W p l e R s m args below meth c H locs cells slots (vx_MQ below Qc XC args s mc ms free) (F0 m pc ls rest) q := by
  intro T hT X
  have hpl : e.platform.magicAccessors = ({} : Platform).magicAccessors := by rw [X.admits.platform]
  obtain ⟨vm', hW', X', st⟩ := X.outThrough hlocks q (g := F0 m pc ls rest) rfl rfl rfl (cell := ce) (by rw [hT]; exact hcell) (by rw [hv]; rfl)
    (by obtain ⟨k9, h9, -⟩ := Vm.findClass_spec hcl; exact ⟨k9, h9⟩) (fun z hz => by
      rcases hpass z hz with h | ⟨hz0, nm, hl1, hn1⟩
      · exact Or.inl h
      · obtain ⟨c6, hc6, hcl6⟩ := Cond.classLink_spec hown hl1 e.platform hpl
        obtain ⟨a8, b8, h1, h2, h3⟩ := hn1
        cases Option.some.inj (h1.symm.trans hcl)
        cases Option.some.inj (h2.symm.trans hc6)
        exact Or.inr ⟨hz0, _, hcl6, h3⟩)
  obtain ⟨g₀, hfr⟩ := X'.frames_eq
  have hcell9 : ((T.setVm vm').setFrames (.throwing q :: below)).heap[q]? = some ce := by
    show T.heap[q]? = some ce
    rw [hT]; exact hcell
  have hend : Ended ((T.setVm vm').setFrames (.throwing q :: below)) below (.threw q) := State.frames_setFrames _ (State.cur_lt_of_frames hfr)
  refine ⟨(T.setVm vm').setFrames (.throwing q :: below), ?_, .threw q, X'.here.running, hend, Or.inr ⟨q, rfl, E, ce, locs, hx _ hT (X'.ends _).1.alike, hcell9, hv, hcl, (X'.ends _).1, (X'.ends _).2.mono hc hs, hf⟩⟩
  rw [X.pushThrowing_eq]
  exact st
/-- a thing of a world lies in the heap -/
theorem vx_lt {D : va_G} {cl : List vw_C} {ws : va_W} {H1 : Heap} (h : va_P D cl ws H1) {k : Nat} {q : Nat × va_E} (hk : ws[k]? = some q) : q.1 < H1.size := (h k q hk).lt
end VXS
/-! ===== END ===== -/
/-! ===== BEGIN methods with a table of their own: called by a name, returning or throwing ===== -/
section VXH
/-! vx_backW, vx_callVX, vx_callSX, vx_callVW, vx_runVW, vx_runVX, vx_runSX, vx_ofWH follow the same proofs as their sisters above (Free/Laws.lean, Shelf42/LK1.lean); vx_outP calls Shelf42/NT130.lean (outThrough). -/
section
variable {l : Launch} {R : Room} {p : Program} {e : Env} {below : List Frame} {s : State} {sargs : Array Value} {y : MethodName} {len W9 : Nat}
theorem vx_backW {ws : List Cond} {rm : Room} {Pc : Array Value → State → Prop} {Qc : Array Value → State → Outcome → State → Prop} {XC : String → State → State → Prop} {mc ms : Nat} {free : Addr → Prop} {bytes : ByteArray} {maxL : Nat} {ret : Option FieldType} {hh : List (Nat × Nat × Nat × Nat)}
    (hM : vx_Met l y ws rm Pc Qc XC mc ms free) (hblind : FrameBlind Pc) (hrc : rm.cells = mc) (hrs : rm.slots = ms)
    (hframes : rm.frames + 1 ≤ R.frames) (hlocals : W9 + (maxL + 11) + rm.locals ≤ R.locals)
    (hws : ∀ w ∈ ws, ∀ a' U, s.WarmedH U.vm → w.before a' U = true) (hcode : Cond.codeWith y bytes maxL ret hh ∈ ws) (hinit : ∀ a' U, s.WarmedH U.vm → (Cond.initialized y.cls).before a' U = true) :
    vx_Back l R p e below s sargs y len W9 (PreOf R mc ms Pc) (PostOf Qc mc ms free) (vx_Post XC mc ms free) := by
  intro m meth c A g ig mk a X hg hsize hdg hW hn hp
  have h1 : (headSpec ws rm).pre.before a A.U = true := atoms_intro fun w hw => hws w hw _ _ X.warmed
  have h2 : (Cond.codeWith y bytes maxL ret hh).before a A.U = true := hws _ hcode _ _ X.warmed
  have h3 : (Cond.initialized y.cls).before a A.U = true := hinit _ _ X.warmed
  have h4 : A.cells + (headSpec ws rm).room.cells ≤ R.cells := by rw [show (headSpec ws rm).room.cells = mc from hrc]; exact hp.1
  have h5 : A.slots + (headSpec ws rm).room.slots ≤ R.slots := by rw [show (headSpec ws rm).room.slots = ms from hrs]; exact hp.2.1
  have hPc : Pc a (A.U.calling g mk a) := hblind _ _ _ _ hp.2.2
  obtain ⟨U, Ls, c0, s0⟩ := A
  dsimp only [Pt.U, Pt.locs, Pt.cells, Pt.slots] at h1 h2 h3 h4 h5 X hn hPc ⊢
  obtain ⟨m9, methY, cY, hn9, hmY, hcY, -, hlY, -⟩ := Cond.codeWith_spec h2
  cases Option.some.inj (hn9.symm.trans hn)
  obtain ⟨kY, hkY, -⟩ := className_of_methodNamed hn
  have hinitY : kY.init = .initialized := Cond.initialized_spec (findClass_of_methodNamed hn) hkY h3
  have h : At U g.method c below := by rw [hg]; exact X.here
  have hlocals9 : W9 + (maxL + 11) + (headSpec ws rm).room.locals ≤ R.locals := hlocals
  have happ : (headSpec ws rm).appliesLoose y e.platform (U.calling g mk a) = true :=
    Spec.appliesLoose_calling (g := g) h hdg hn hkY hinitY
      (X.room_calling (g := g) (R' := (headSpec ws rm).room) hsize hmY hcY hframes (by rw [hlY]; omega) h4 h5) h1
  obtain ⟨mid, hmid⟩ := h.above
  have hfr : (U.setTop g).frames = (.java g :: mid) ++ below := by rw [State.frames_setTop' g h.top, hmid]; rfl
  obtain ⟨o, s₂, hsteps, -, hend, hq⟩ := Steps.callFree hM p X.admits X.cas X.clock (acts := []) hfr happ hPc trivial
  have hq' : vx_Q Qc XC mc ms free a (U.calling g mk a) o s₂ := hq
  rw [State.frames_setTop' g h.top] at hend
  obtain ⟨g₀, hg0⟩ := Option.isSome_iff_exists.mp h.top
  obtain ⟨r, hr⟩ := State.topJava?_eq_some.mp hg0
  have hr' : (({ U with heap := s₂.heap, slotsUsed := s₂.slotsUsed } : State).setVm s₂.vm).frames = .java g₀ :: r := hr
  rcases hq' with ⟨hqc, L, hfe, hL⟩ | ⟨q, rfl, E, ce, L, hx, hce, hcv, hcl, hW₂, hsm, hL⟩
  · obtain ⟨⟨v, rfl⟩, hW₂, e2, q2, q3, q4, q5, q6⟩ := id hfe
    have e3 : s₂ = ({ (U.calling g mk a).setFrames s₂.frames with heap := s₂.heap, slotsUsed := s₂.slotsUsed } : State).setVm s₂.vm := by
      have : s₂ = ({ s₂ with vm := (U.calling g mk a).vm } : State).setVm s₂.vm := rfl
      rw [e2] at this
      exact this
    obtain ⟨c₂, i₂, len₂, hc₂, hd₂, hf₂⟩ := hend
    have hW' : U.WarmedH s₂.vm := hW₂
    have hcc : c₂ = c := by
      have h1 : s₂.code? g.method = U.code? g.method := by
        rw [State.code?_eq, State.code?_eq, hW'.alike.method?]
      exact Option.some.inj (hc₂.symm.trans (h1.trans h.code))
    subst hcc
    have hlen : len₂ = len := by rw [hdg] at hd₂; cases hd₂; rfl
    subst hlen
    have hs₂ : s₂ = (({ U with heap := s₂.heap, slotsUsed := s₂.slotsUsed } : State).setVm s₂.vm).setTop { g with pc := g.pc + len₂, stack := v.toList ++ g.stack } := by
      refine e3.trans ?_
      rw [hf₂, State.calling_eq h.top, State.setFrames_setFrames, State.setTop_of_frames _ hr', hr]
      rfl
    have hsame : U.sameButNew ({ U with heap := s₂.heap, slotsUsed := s₂.slotsUsed } : State) L mc ms := by
      refine ⟨?_, q2, q3, q4, q5, q6⟩
      obtain ⟨t, ht, -⟩ := State.frames_cons hr
      show ({ U with heap := s₂.heap, slotsUsed := s₂.slotsUsed } : State) = { U.setFrames U.frames with heap := s₂.heap, slotsUsed := s₂.slotsUsed }
      rw [State.setFrames_self ht]
    subst hg
    refine Or.inl ⟨v, ⟨(({ U with heap := s₂.heap, slotsUsed := s₂.slotsUsed } : State).setVm s₂.vm), Ls ++ L, c0 + mc, s0 + ms⟩,
      ⟨X.admits, X.cas, X.clock, X.frames, X.room, X.hears, X.method, X.code, (X.here.setHeapUsed s₂.heap s₂.slotsUsed).setVm hW'.alike, X.tail, State.WarmedH.trans X.warmed hW', X.limits, X.bytes, X.same.trans (hsame.setVm s.vm)⟩,
      ⟨g, mk, s₂, L, rfl, rfl, hqc, rfl, hL, rfl, rfl⟩, ?_⟩
    show Steps p.tables e below _ ((({ U with heap := s₂.heap, slotsUsed := s₂.slotsUsed } : State).setVm s₂.vm).setTop { g with pc := g.pc + len₂, stack := v.toList ++ g.stack })
    rw [← hs₂]
    exact hsteps
  · obtain ⟨e2, q2, q3, q4, q5, q6⟩ := id hsm
    have e3 : s₂ = ({ (U.calling g mk a).setFrames s₂.frames with heap := s₂.heap, slotsUsed := s₂.slotsUsed } : State).setVm s₂.vm := by
      have : s₂ = ({ s₂ with vm := (U.calling g mk a).vm } : State).setVm s₂.vm := rfl
      rw [e2] at this
      exact this
    have hf₂ : s₂.frames = .throwing q :: .java g :: U.frames.tail := hend
    have hW' : U.WarmedH s₂.vm := hW₂
    have hs₂ : s₂ = ((({ U with heap := s₂.heap, slotsUsed := s₂.slotsUsed } : State).setVm s₂.vm).setTop g).pushFrame (.throwing q) := by
      refine e3.trans ?_
      rw [hf₂, State.calling_eq h.top, State.setFrames_setFrames, State.pushFrame, State.frames_setTop _ hr', State.setTop_of_frames _ hr', State.setFrames_setFrames, hr]
      rfl
    have hsame : U.sameButNew ({ U with heap := s₂.heap, slotsUsed := s₂.slotsUsed } : State) L mc ms := by
      refine ⟨?_, q2, q3, q4, q5, q6⟩
      obtain ⟨t, ht, -⟩ := State.frames_cons hr
      show ({ U with heap := s₂.heap, slotsUsed := s₂.slotsUsed } : State) = { U.setFrames U.frames with heap := s₂.heap, slotsUsed := s₂.slotsUsed }
      rw [State.setFrames_self ht]
    subst hg
    refine Or.inr ⟨q, ⟨(({ U with heap := s₂.heap, slotsUsed := s₂.slotsUsed } : State).setVm s₂.vm), Ls ++ L, c0 + mc, s0 + ms⟩,
      ⟨X.admits, X.cas, X.clock, X.frames, X.room, X.hears, X.method, X.code, (X.here.setHeapUsed s₂.heap s₂.slotsUsed).setVm hW'.alike, X.tail, State.WarmedH.trans X.warmed hW', X.limits, X.bytes, X.same.trans (hsame.setVm s.vm)⟩,
      ⟨g, mk, s₂, L, E, ce, rfl, rfl, hx, hce, hcv, hcl, rfl, hL, rfl, rfl⟩, ?_⟩
    show Steps p.tables e below _ (((({ U with heap := s₂.heap, slotsUsed := s₂.slotsUsed } : State).setVm s₂.vm).setTop g).pushFrame (.throwing q))
    rw [← hs₂]
    exact hsteps
end
variable {p : Program} {l : Launch} {e : Env} {R : Room} {s : State} {m : MethodId} {args : Array Value} {below : List Frame} {meth : Method} {c : Code} {T : State} {H : Heap} {locs : List Loc} {cells slots : Nat}
theorem vx_callVX (X : Stand p l e R s m args below meth c T locs cells slots) (hexec : p.tables.exec = Jvm.exec) {own C : String} {index : Nat} {y : MethodName} {bytes : ByteArray} {maxL : Nat} {ret : Option FieldType} {hh : List (Nat × Nat × Nat × Nat)}
    (hown : s.vm.findClass own = some m.cls) (hlink : (Cond.methodLink own index y).before args s = true) (hinst : (Cond.instanceMethod y).before args s = true) (hsel : (Cond.selects C y y).before args s = true)
    (hcode : (Cond.codeWith y bytes maxL ret hh).before args s = true) (hy : y.cls ≠ "java/lang/invoke/MethodHandle" ∧ y.cls ≠ "java/lang/invoke/VarHandle")
    {W9 : Nat} {Pre : Pt → Array Value → Prop} {Post : Pt → Array Value → Option Value → Pt → Prop} {PostX : Pt → Array Value → Addr → Pt → Prop} (hK : vx_Back l R p e below s args y 3 W9 Pre Post PostX)
    {b : Addr} {cellB : Cell} (hcell : T.heap[b]? = some cellB) (hobj : cellB.vm.isStatics = false) (hcls : s.vm.findClass C = some cellB.cls)
    {g : JFrame} (hg : g.method = m) (hsize : g.locals.size = c.maxLocals) {argsL rest : List Value} (hlen : ∀ sig, parseMethodDescriptor y.desc = some sig → argsL.length = sig.parameters.length)
    (hstack : g.stack = argsL.reverse ++ .ref b :: rest) (hW : 2 * g.monitorRoom + (rest.map fun v => v.category).sum ≤ W9) (hdg : decode c.code g.pc = .ok (.invokevirtual index, 3))
    (hpre : ∀ vm₁, s.WarmedH vm₁ → Pre ⟨T.setVm vm₁, locs, cells, slots⟩ (Value.ref b :: argsL).toArray) :
    (∃ (v : Option Value) (vm₁ : Vm) (B : Pt), s.WarmedH vm₁ ∧ Stand p l e R s m args below meth c B.U B.locs B.cells B.slots ∧ Post ⟨T.setVm vm₁, locs, cells, slots⟩ (Value.ref b :: argsL).toArray v B ∧
      ∀ target, Steps p.tables e below (B.U.setTop { g with pc := g.pc + 3, stack := v.toList ++ rest }) target → Steps p.tables e below (T.setTop g) target) ∨
    (∃ (q : Addr) (vm₁ : Vm) (B : Pt), s.WarmedH vm₁ ∧ Stand p l e R s m args below meth c B.U B.locs B.cells B.slots ∧ PostX ⟨T.setVm vm₁, locs, cells, slots⟩ (Value.ref b :: argsL).toArray q B ∧
      Steps p.tables e below (T.setTop g) ((B.U.setTop { g with stack := rest }).pushFrame (.throwing q))) := by
  obtain ⟨mk, methM, hnamed, hmethM, hstM, habM⟩ := Cond.instanceMethod_spec hinst
  obtain ⟨m8, methM', cM, hn8, hmethM', -, -, -, -, -, -, hsigM⟩ := Cond.codeWith_spec hcode
  cases Option.some.inj (hn8.symm.trans hnamed)
  cases hmethM.symm.trans hmethM'
  obtain ⟨c2, r2, m2, q1, q2, q3, q4, kP, hkP, hkPi⟩ := Cond.selects_spec hsel
  cases hcls.symm.trans q1
  cases (State.methodFound?_of_named hnamed hy).symm.trans q2
  cases hnamed.symm.trans q3
  have hselP : selectMethod e.platform s.vm cellB.cls mk = .method mk := by rw [Launch.admits_selectMethod X.admits]; exact q4
  obtain ⟨vm₁, X₁, hstep₁⟩ := X.invokevirtual hexec hown hlink hnamed hmethM hstM hkP hkPi hy (a := b) (cell := cellB) hcell
    (fun z h => by rw [h] at hobj; cases hobj) hselP hmethM habM hkP hkPi (g := g) hg (argsL := argsL) (rest := rest) (hlen _ hsigM) hstack hdg
  rcases hK m meth c ⟨T.setVm vm₁, locs, cells, slots⟩ { g with stack := rest } (.invokevirtual index) mk (Value.ref b :: argsL).toArray X₁ hg hsize hdg hW (X₁.named hnamed) (hpre vm₁ X₁.warmed) with ⟨v, B, X', hpost, hsteps⟩ | ⟨q, B, X', hpost, hsteps⟩
  · exact Or.inl ⟨v, vm₁, B, X₁.warmed, X', hpost, fun target h => hstep₁ _ fun acts => by rw [doInvoke_state]; exact hsteps.trans h⟩
  · exact Or.inr ⟨q, vm₁, B, X₁.warmed, X', hpost, hstep₁ _ fun acts => by rw [doInvoke_state]; exact hsteps⟩
theorem vx_callSX (X : Stand p l e R s m args below meth c T locs cells slots) (hexec : p.tables.exec = Jvm.exec) {own : String} {index : Nat} {y : MethodName} {bytes : ByteArray} {maxL : Nat} {ret : Option FieldType} {hh : List (Nat × Nat × Nat × Nat)}
    (hown : s.vm.findClass own = some m.cls) (hlink : (Cond.methodLink own index y).before args s = true) (hstat : (Cond.static y).before args s = true) (hinit : (Cond.initialized y.cls).before args s = true)
    (hcode : (Cond.codeWith y bytes maxL ret hh).before args s = true) (hy : y.cls ≠ "java/lang/invoke/MethodHandle" ∧ y.cls ≠ "java/lang/invoke/VarHandle")
    {W9 : Nat} {Pre : Pt → Array Value → Prop} {Post : Pt → Array Value → Option Value → Pt → Prop} {PostX : Pt → Array Value → Addr → Pt → Prop} (hK : vx_Back l R p e below s args y 3 W9 Pre Post PostX)
    {g : JFrame} (hg : g.method = m) (hsize : g.locals.size = c.maxLocals) {argsL rest : List Value} (hlen : ∀ sig, parseMethodDescriptor y.desc = some sig → argsL.length = sig.parameters.length)
    (hstack : g.stack = argsL.reverse ++ rest) (hW : 2 * g.monitorRoom + (rest.map fun v => v.category).sum ≤ W9) (hdg : decode c.code g.pc = .ok (.invokestatic index, 3))
    (hpre : ∀ vm₁, s.WarmedH vm₁ → Pre ⟨T.setVm vm₁, locs, cells, slots⟩ argsL.toArray) :
    (∃ (v : Option Value) (vm₁ : Vm) (B : Pt), s.WarmedH vm₁ ∧ Stand p l e R s m args below meth c B.U B.locs B.cells B.slots ∧ Post ⟨T.setVm vm₁, locs, cells, slots⟩ argsL.toArray v B ∧
      ∀ target, Steps p.tables e below (B.U.setTop { g with pc := g.pc + 3, stack := v.toList ++ rest }) target → Steps p.tables e below (T.setTop g) target) ∨
    (∃ (q : Addr) (vm₁ : Vm) (B : Pt), s.WarmedH vm₁ ∧ Stand p l e R s m args below meth c B.U B.locs B.cells B.slots ∧ PostX ⟨T.setVm vm₁, locs, cells, slots⟩ argsL.toArray q B ∧
      Steps p.tables e below (T.setTop g) ((B.U.setTop { g with stack := rest }).pushFrame (.throwing q))) := by
  obtain ⟨mk, methM, cM, hnamed, hmethM, -, -, -, -, -, -, hsigM⟩ := Cond.codeWith_spec hcode
  have hstatic : methM.isStatic = true := Cond.static_spec hnamed hmethM hstat
  obtain ⟨kP, hkP, -⟩ := className_of_methodNamed hnamed
  have hinitP : kP.init = .initialized := Cond.initialized_spec (findClass_of_methodNamed hnamed) hkP hinit
  obtain ⟨vm₁, X₁, hstep₁⟩ := X.invokestatic hexec hown hlink hnamed hmethM hstatic hkP hinitP hy (g := g) hg (argsL := argsL) (rest := rest) (hlen _ hsigM) hstack hdg
  rcases hK m meth c ⟨T.setVm vm₁, locs, cells, slots⟩ { g with stack := rest } (.invokestatic index) mk argsL.toArray X₁ hg hsize hdg hW (X₁.named hnamed) (hpre vm₁ X₁.warmed) with ⟨v, B, X', hpost, hsteps⟩ | ⟨q, B, X', hpost, hsteps⟩
  · exact Or.inl ⟨v, vm₁, B, X₁.warmed, X', hpost, fun target h => hstep₁ _ fun acts => by rw [doInvoke_state]; exact hsteps.trans h⟩
  · exact Or.inr ⟨q, vm₁, B, X₁.warmed, X', hpost, hstep₁ _ fun acts => by rw [doInvoke_state]; exact hsteps⟩
theorem vx_callVW (X : Stand p l e R s m args below meth c T locs cells slots) (hexec : p.tables.exec = Jvm.exec) {own C : String} {index : Nat} {y : MethodName} {bytes : ByteArray} {maxL : Nat} {ret : Option FieldType} {hh : List (Nat × Nat × Nat × Nat)}
    (hown : s.vm.findClass own = some m.cls) (hlink : (Cond.methodLink own index y).before args s = true) (hinst : (Cond.instanceMethod y).before args s = true) (hsel : (Cond.selects C y y).before args s = true)
    (hcode : (Cond.codeWith y bytes maxL ret hh).before args s = true) (hy : y.cls ≠ "java/lang/invoke/MethodHandle" ∧ y.cls ≠ "java/lang/invoke/VarHandle")
    {W9 : Nat} {Pre : Pt → Array Value → Prop} {Post : Pt → Array Value → Option Value → Pt → Prop} (hK : Back l R p e below s args y 3 W9 Pre Post)
    {b : Addr} {cellB : Cell} (hcell : T.heap[b]? = some cellB) (hobj : cellB.vm.isStatics = false) (hcls : s.vm.findClass C = some cellB.cls)
    {g : JFrame} (hg : g.method = m) (hsize : g.locals.size = c.maxLocals) {argsL rest : List Value} (hlen : ∀ sig, parseMethodDescriptor y.desc = some sig → argsL.length = sig.parameters.length)
    (hstack : g.stack = argsL.reverse ++ .ref b :: rest) (hW : 2 * g.monitorRoom + (rest.map fun v => v.category).sum ≤ W9) (hdg : decode c.code g.pc = .ok (.invokevirtual index, 3))
    (hpre : ∀ vm₁, s.WarmedH vm₁ → Pre ⟨T.setVm vm₁, locs, cells, slots⟩ (Value.ref b :: argsL).toArray) :
    ∃ (v : Option Value) (vm₁ : Vm) (B : Pt), s.WarmedH vm₁ ∧ Stand p l e R s m args below meth c B.U B.locs B.cells B.slots ∧ Post ⟨T.setVm vm₁, locs, cells, slots⟩ (Value.ref b :: argsL).toArray v B ∧
      ∀ target, Steps p.tables e below (B.U.setTop { g with pc := g.pc + 3, stack := v.toList ++ rest }) target → Steps p.tables e below (T.setTop g) target := by
  obtain ⟨mk, methM, hnamed, hmethM, hstM, habM⟩ := Cond.instanceMethod_spec hinst
  obtain ⟨m8, methM', cM, hn8, hmethM', -, -, -, -, -, -, hsigM⟩ := Cond.codeWith_spec hcode
  cases Option.some.inj (hn8.symm.trans hnamed)
  cases hmethM.symm.trans hmethM'
  obtain ⟨c2, r2, m2, q1, q2, q3, q4, kP, hkP, hkPi⟩ := Cond.selects_spec hsel
  cases hcls.symm.trans q1
  cases (State.methodFound?_of_named hnamed hy).symm.trans q2
  cases hnamed.symm.trans q3
  have hselP : selectMethod e.platform s.vm cellB.cls mk = .method mk := by rw [Launch.admits_selectMethod X.admits]; exact q4
  obtain ⟨vm₁, X₁, hstep₁⟩ := X.invokevirtual hexec hown hlink hnamed hmethM hstM hkP hkPi hy (a := b) (cell := cellB) hcell
    (fun z h => by rw [h] at hobj; cases hobj) hselP hmethM habM hkP hkPi (g := g) hg (argsL := argsL) (rest := rest) (hlen _ hsigM) hstack hdg
  obtain ⟨v, B, X', hpost, hsteps⟩ := hK m meth c ⟨T.setVm vm₁, locs, cells, slots⟩ { g with stack := rest } (.invokevirtual index) mk (Value.ref b :: argsL).toArray X₁ hg hsize hdg hW (X₁.named hnamed) (hpre vm₁ X₁.warmed)
  exact ⟨v, vm₁, B, X₁.warmed, X', hpost, fun target h => hstep₁ _ fun acts => by rw [doInvoke_state]; exact hsteps.trans h⟩
abbrev vx_CVW (R : Room) (s : State) (args : Array Value) (own C : String) (index : Nat) (y : MethodName) (bytes : ByteArray) (maxL : Nat) (ret : Option FieldType) (hh : List (Nat × Nat × Nat × Nat)) (ws : List Cond) (rm : Room) (mc ms n : Nat) : Prop :=
  (rm.cells = mc ∧ rm.slots = ms ∧ rm.frames + 1 ≤ R.frames ∧ 8 + (maxL + 11) + rm.locals ≤ R.locals ∧ (∀ w ∈ ws, ∀ (a' : Array Value) (U : State), s.WarmedH U.vm → w.before a' U = true) ∧ Cond.codeWith y bytes maxL ret hh ∈ ws) ∧
  (Cond.codeWith y bytes maxL ret hh).before args s = true ∧ (Cond.initialized y.cls).before args s = true ∧ (y.cls ≠ "java/lang/invoke/MethodHandle" ∧ y.cls ≠ "java/lang/invoke/VarHandle") ∧
  (∀ sig, parseMethodDescriptor y.desc = some sig → n = sig.parameters.length) ∧ (Cond.methodLink own index y).before args s = true ∧ (Cond.instanceMethod y).before args s = true ∧ (Cond.selects C y y).before args s = true
theorem vx_cwVW {own C : String} {index maxL mc ms : Nat} {y : MethodName} {bytes : ByteArray} {ret : Option FieldType} {hh : List (Nat × Nat × Nat × Nat)} {Ts ws ws' : List Cond} {rm : Room} (n : Nat) (ht : ∀ w ∈ Ts, w.before args s = true) (hT : GoodIn Ts (wsV own index C y ws)) (hw : ws = Cond.codeWith y bytes maxL ret hh :: ws') (hrc : rm.cells = mc) (hrs : rm.slots = ms)
    (hd : y.cls = C ∧ y.cls ≠ "java/lang/invoke/MethodHandle" ∧ y.cls ≠ "java/lang/invoke/VarHandle" ∧ (parseMethodDescriptor y.desc).map (fun d => d.parameters.length) = some n) (hR : rm.frames + 1 ≤ R.frames ∧ 8 + (maxL + 11) + rm.locals ≤ R.locals) :
    vx_CVW R s args own C index y bytes maxL ret hh ws rm mc ms n := by
  obtain ⟨hC, hd⟩ := hd
  subst hC
  have ok : ∀ w ∈ wsV own index y.cls y ws, w.before args s = true := fun w h => ht w (hT w h).1
  have hG : GoodIn Ts ws := fun w h => hT w (by unfold wsV; exact List.mem_append_right _ h)
  have hc : Cond.codeWith y bytes maxL ret hh ∈ ws := by rw [hw]; exact List.mem_cons_self
  refine ⟨⟨hrc, hrs, hR.1, hR.2, pay_in ht hG, hc⟩, ht _ (hG _ hc).1, ok _ (by simp [wsV]), ⟨hd.1, hd.2.1⟩, fun sig h => ?_, ok _ (by simp [wsV]), ok _ (by simp [wsV]), ok _ (by simp [wsV])⟩
  have h2 := hd.2.2
  rw [h] at h2
  exact (Option.some.inj h2).symm
theorem vx_runVW {y : MethodName} {bytes cc : ByteArray} {maxL nL mc ms n index : Nat} {ret : Option FieldType} {hh : List (Nat × Nat × Nat × Nat)} {ws : List Cond} {rm : Room} {Pc : Array Value → State → Prop} {Qc : Array Value → State → Outcome → State → Prop} {free : Addr → Prop} {Ts : List Cond} {own C : String} {b : Addr} {As rest : List Value} {g : JFrame}
    (S : CallFix p m c cc nL s args Ts own) (hM : Met l y ws rm Pc Qc mc ms free) (cw : vx_CVW R s args own C index y bytes maxL ret hh ws rm mc ms n) (hp : PreV s H C b Pc As)
    (hg : g.method = m) (hn : As.length = n) (hsize : g.locals.size = nL) (hstack : g.stack = As.reverse ++ .ref b :: rest) (hW : 2 * g.monitorRoom + (rest.map fun v => v.category).sum ≤ 8) (hdg : decode cc g.pc = .ok (.invokevirtual index, 3)) (hf : cells + mc ≤ R.cells ∧ slots + ms ≤ R.slots) :
    va_Run p l e R s m args below meth c H locs cells slots mc ms g rest (Qc (Value.ref b :: As).toArray) free := by
  obtain ⟨⟨hrc, hrs, hfr, hlo, hws, hcw⟩, hcode, hini, hy, hlen, hl, hin, hse⟩ := cw
  have hK : Back l R p e below s args y 3 8 (PreOf R mc ms Pc) (PostOf Qc mc ms free) := va_backW (hh := hh) (bytes := bytes) (maxL := maxL) (ret := ret) hM hp.1 hrc hrs hfr hlo hws hcw (fun a' U hW => word_at hW (Or.inl (by first | rfl | simp [Cond.onTables, Cond.keeps, Cond.steady])) hini)
  obtain ⟨hx, hb, hml, ho, -⟩ := S
  obtain ⟨-, ⟨cellB, hcB, hoB, hclB⟩, hPc⟩ := hp
  intro T hT X
  obtain ⟨v, vm₁, ⟨U', l2, c2, s2⟩, hW₁, X', ⟨g', mk, t, L, e1, e2, hq, h1, hL, h2, h3⟩, st⟩ := vx_callVW X hx (C := C) (hh := hh) (bytes := bytes) (maxL := maxL) (ret := ret) ho hl hin hse hcode hy hK (by rw [hT]; exact hcB) hoB hclB hg (hsize.trans hml.symm) (argsL := As) (rest := rest) (fun sig h => hn.trans (hlen sig h)) hstack hW (by rw [hb]; exact hdg)
    (fun vm₁ hW₁ => ⟨hf.1, hf.2, hPc (T.setVm vm₁) hT hW₁⟩)
  dsimp only [Pt.U, Pt.locs, Pt.cells, Pt.slots] at X' e1 e2 h1 h2 h3 st
  subst h1; subst h2; subst h3
  exact ⟨v, (T.setVm vm₁).calling g' mk (Value.ref b :: As).toArray, t, U', L, hT, X', hL, e1, e2, hq, st⟩
section
variable {y : MethodName} {bytes cc : ByteArray} {maxL nL mc ms n index : Nat} {ret : Option FieldType} {ws : List Cond} {rm : Room} {Pc : Array Value → State → Prop} {Qc : Array Value → State → Outcome → State → Prop} {XC : String → State → State → Prop} {free : Addr → Prop} {Ts : List Cond} {own C : String} {b : Addr} {As rest : List Value} {g : JFrame}
theorem vx_runVX {hh : List (Nat × Nat × Nat × Nat)} (S : CallFix p m c cc nL s args Ts own) (hM : vx_Met l y ws rm Pc Qc XC mc ms free) (cw : vx_CVW R s args own C index y bytes maxL ret hh ws rm mc ms n) (hp : PreV s H C b Pc As)
    (hg : g.method = m) (hn : As.length = n) (hsize : g.locals.size = nL) (hstack : g.stack = As.reverse ++ .ref b :: rest) (hW : 2 * g.monitorRoom + (rest.map fun v => v.category).sum ≤ 8) (hdg : decode cc g.pc = .ok (.invokevirtual index, 3)) (hf : cells + mc ≤ R.cells ∧ slots + ms ≤ R.slots) :
    vx_Run p l e R s m args below meth c H locs cells slots mc ms g rest (Qc (Value.ref b :: As).toArray) XC free := by
  obtain ⟨⟨hrc, hrs, hfr, hlo, hws, hcw⟩, hcode, hini, hy, hlen, hl, hin, hse⟩ := cw
  have hK : vx_Back l R p e below s args y 3 8 (PreOf R mc ms Pc) (PostOf Qc mc ms free) (vx_Post XC mc ms free) := vx_backW (hh := hh) (bytes := bytes) (maxL := maxL) (ret := ret) hM hp.1 hrc hrs hfr hlo hws hcw (fun a' U hW => word_at hW (Or.inl (by first | rfl | simp [Cond.onTables, Cond.keeps, Cond.steady])) hini)
  obtain ⟨hx, hb, hml, ho, -⟩ := S
  obtain ⟨-, ⟨cellB, hcB, hoB, hclB⟩, hPc⟩ := hp
  intro T hT X
  rcases vx_callVX X hx (C := C) (hh := hh) (bytes := bytes) (maxL := maxL) (ret := ret) ho hl hin hse hcode hy hK (by rw [hT]; exact hcB) hoB hclB hg (hsize.trans hml.symm) (argsL := As) (rest := rest) (fun sig h => hn.trans (hlen sig h)) hstack hW (by rw [hb]; exact hdg)
    (fun vm₁ hW₁ => ⟨hf.1, hf.2, hPc (T.setVm vm₁) hT hW₁⟩) with ⟨v, vm₁, ⟨U', l2, c2, s2⟩, hW₁, X', ⟨g', mk, t, L, e1, e2, hq, h1, hL, h2, h3⟩, st⟩ | ⟨q, vm₁, ⟨U', l2, c2, s2⟩, hW₁, X', ⟨g', mk, t, L, E, ce, e1, e2, hq, hce, hcv, hcl, h1, hL, h2, h3⟩, st⟩
  · dsimp only [Pt.U, Pt.locs, Pt.cells, Pt.slots] at X' e1 e2 h1 h2 h3 st
    subst h1; subst h2; subst h3
    exact Or.inl ⟨v, (T.setVm vm₁).calling g' mk (Value.ref b :: As).toArray, t, U', L, hT, X', hL, e1, e2, hq, st⟩
  · dsimp only [Pt.U, Pt.locs, Pt.cells, Pt.slots] at X' e1 e2 h1 h2 h3 st hcl
    subst h1; subst h2; subst h3
    exact Or.inr ⟨q, (T.setVm vm₁).calling g' mk (Value.ref b :: As).toArray, t, U', L, E, ce, hT, X', hL, e1, e2, hq, hce, hcv, vx_cls hW₁ hcl, st⟩
theorem vx_runSX {hh : List (Nat × Nat × Nat × Nat)} (S : CallFix p m c cc nL s args Ts own) (hM : vx_Met l y ws rm Pc Qc XC mc ms free) (cw : vx_CSW R s args own index y bytes maxL ret hh ws rm mc ms n) (hp : PreS s H Pc As)
    (hg : g.method = m) (hn : As.length = n) (hsize : g.locals.size = nL) (hstack : g.stack = As.reverse ++ rest) (hW : 2 * g.monitorRoom + (rest.map fun v => v.category).sum ≤ 8) (hdg : decode cc g.pc = .ok (.invokestatic index, 3)) (hf : cells + mc ≤ R.cells ∧ slots + ms ≤ R.slots) :
    vx_Run p l e R s m args below meth c H locs cells slots mc ms g rest (Qc As.toArray) XC free := by
  obtain ⟨⟨hrc, hrs, hfr, hlo, hws, hcw⟩, hcode, hini, hy, hlen, hl, hstt⟩ := cw
  have hK : vx_Back l R p e below s args y 3 8 (PreOf R mc ms Pc) (PostOf Qc mc ms free) (vx_Post XC mc ms free) := vx_backW (hh := hh) (bytes := bytes) (maxL := maxL) (ret := ret) hM hp.1 hrc hrs hfr hlo hws hcw (fun a' U hW => word_at hW (Or.inl (by first | rfl | simp [Cond.onTables, Cond.keeps, Cond.steady])) hini)
  obtain ⟨hx, hb, hml, ho, -⟩ := S
  intro T hT X
  rcases vx_callSX X hx (hh := hh) (bytes := bytes) (maxL := maxL) (ret := ret) ho hl hstt hini hcode hy hK hg (hsize.trans hml.symm) (argsL := As) (rest := rest) (fun sig h => hn.trans (hlen sig h)) hstack hW (by rw [hb]; exact hdg)
    (fun vm₁ hW₁ => ⟨hf.1, hf.2, hp.2 (T.setVm vm₁) hT hW₁⟩) with ⟨v, vm₁, ⟨U', l2, c2, s2⟩, hW₁, X', ⟨g', mk, t, L, e1, e2, hq, h1, hL, h2, h3⟩, st⟩ | ⟨q, vm₁, ⟨U', l2, c2, s2⟩, hW₁, X', ⟨g', mk, t, L, E, ce, e1, e2, hq, hce, hcv, hcl, h1, hL, h2, h3⟩, st⟩
  · dsimp only [Pt.U, Pt.locs, Pt.cells, Pt.slots] at X' e1 e2 h1 h2 h3 st
    subst h1; subst h2; subst h3
    exact Or.inl ⟨v, (T.setVm vm₁).calling g' mk As.toArray, t, U', L, hT, X', hL, e1, e2, hq, st⟩
  · dsimp only [Pt.U, Pt.locs, Pt.cells, Pt.slots] at X' e1 e2 h1 h2 h3 st hcl
    subst h1; subst h2; subst h3
    exact Or.inr ⟨q, (T.setVm vm₁).calling g' mk As.toArray, t, U', L, E, ce, hT, X', hL, e1, e2, hq, hce, hcv, vx_cls hW₁ hcl, st⟩
end
end VXH
theorem vx_ofWH {l : Launch} {y : MethodName} {ws ws' : List Cond} {rm : Room} {Pc : Array Value → State → Prop} {Qc : Array Value → State → Outcome → State → Prop} {XC : String → State → State → Prop} {mc ms : Nat} {free : Addr → Prop} {cc : ByteArray} {maxL : Nat} {ret : Option FieldType} {hh : List (Nat × Nat × Nat × Nat)}
    (hy : plainName y.cls = true) (hw : ws = Cond.codeWith y cc maxL ret hh :: ws')
    (body : ∀ p e s m args below meth c s₁, BodyLoose p l y (headSpec ws rm) cc maxL ret e s m args below meth c s₁ → c.maxLocals = maxL → Pc args s →
      W p l e (headSpec ws rm).room s m args below meth c s.heap [] 0 0 (vx_MQ below Qc XC args s mc ms free) (entryFrame m args maxL)) : vx_Met l y ws rm Pc Qc XC mc ms free := by
  refine MetFree.of_bodyS (code := cc) (maxLocals := maxL) (ret := ret) hy ?_ ?_
  · intro args s m h hn
    obtain ⟨m9, meth, c, hn9, h1, h2, h3, h4, -, h5, h6, -⟩ := Cond.codeWith_spec (atoms_spec (ws := ws) h _ (by rw [hw]; exact List.mem_cons_self))
    cases hn.symm.trans hn9
    exact ⟨meth, c, h1, h2, h3, h4, h5, h6⟩
  · intro p e s m args below meth c s₁ B hml hP _
    have hh0 : s₁.heap = s.heap := by rw [B.state]; rfl
    obtain ⟨t, a1, o, b1, b2, b3⟩ := body p e s m args below meth c s₁ B hml hP s₁ hh0 (Stand.of_body B)
    exact ⟨t, o, a1, b1, b2, b3⟩
/-! ===== END ===== -/

/-! ===== BEGIN printed: names, fields, word lists, decode rows ===== -/
def RX0 : String := "QuotientQuoin$Bag"
def TX0 : u_T := fun k => match k with
  | 0 => ("QuotientQuoin$Bag", "fingerprints", "[I", true)
  | 1 => ("QuotientQuoin$Bag", "counts", "[I", true)
  | _ => ("QuotientQuoin$Bag", "size", "I", false)
def tyX0 : Nat → FieldType := fun k => match k with
  | 0 => .array .int
  | 1 => .array .int
  | _ => .int
abbrev wsX00 : List Cond := u_ws RX0 TX0 3
theorem nmX0 : ∀ a, a < 3 → ∀ b, b < 3 → a ≠ b → (TX0 a).2.1 ≠ (TX0 b).2.1 := by decide +kernel
theorem tyX0_ok : ∀ k, k < 3 → parseFieldDescriptor (TX0 k).2.2.1 = some (tyX0 k) := by decide +kernel
abbrev cX0_init : ByteArray := prog_2_method_1_code
def yX0_init : MethodName := ⟨RX0, "<init>", "()V"⟩
abbrev cX0_drop : ByteArray := prog_2_method_2_code
def yX0_drop : MethodName := ⟨RX0, "drop", "()V"⟩
abbrev cX0_append : ByteArray := prog_2_method_3_code
def yX0_append : MethodName := ⟨RX0, "append", "(II)V"⟩
abbrev cX0_becomeSum : ByteArray := prog_2_method_4_code
def yX0_becomeSum : MethodName := ⟨RX0, "becomeSum", "(LQuotientQuoin$Bag;LQuotientQuoin$Bag;)V"⟩
abbrev cX0_becomeLesser : ByteArray := prog_2_method_5_code
def yX0_becomeLesser : MethodName := ⟨RX0, "becomeLesser", "(LQuotientQuoin$Bag;LQuotientQuoin$Bag;)V"⟩
abbrev cX0_becomeRest : ByteArray := prog_2_method_6_code
def yX0_becomeRest : MethodName := ⟨RX0, "becomeRest", "(LQuotientQuoin$Bag;II)V"⟩
abbrev cX0_placeNotBelow : ByteArray := prog_2_method_7_code
def yX0_placeNotBelow : MethodName := ⟨RX0, "placeNotBelow", "(II)I"⟩
abbrev cX0_hasSameAs : ByteArray := prog_2_method_8_code
def yX0_hasSameAs : MethodName := ⟨RX0, "hasSameAs", "(LQuotientQuoin$Bag;)Z"⟩
abbrev cX0_neededSlots : ByteArray := prog_2_method_9_code
def yX0_neededSlots : MethodName := ⟨RX0, "neededSlots", "()I"⟩
def RX1 : String := "QuotientQuoin$Lists"
def TX1 : u_T := fun k => match k with
  | 0 => ("QuotientQuoin$Lists", "firsts", "[I", true)
  | _ => ("QuotientQuoin$Lists", "nexts", "[I", true)
def tyX1 : Nat → FieldType := fun k => match k with
  | 0 => .array .int
  | _ => .array .int
abbrev wsX10 : List Cond := u_ws RX1 TX1 2
theorem nmX1 : ∀ a, a < 2 → ∀ b, b < 2 → a ≠ b → (TX1 a).2.1 ≠ (TX1 b).2.1 := by decide +kernel
theorem tyX1_ok : ∀ k, k < 2 → parseFieldDescriptor (TX1 k).2.2.1 = some (tyX1 k) := by decide +kernel
abbrev cX1_init : ByteArray := prog_3_method_1_code
def yX1_init : MethodName := ⟨RX1, "<init>", "()V"⟩
abbrev cX1_makeFrom : ByteArray := prog_3_method_2_code
def yX1_makeFrom : MethodName := ⟨RX1, "makeFrom", "(LQuotientQuoin$Table;)V"⟩
abbrev cX1_quotientHere : ByteArray := prog_3_method_3_code
def yX1_quotientHere : MethodName := ⟨RX1, "quotientHere", "(LQuotientQuoin$Table;II)I"⟩
abbrev cX1_sumFor : ByteArray := prog_3_method_4_code
def yX1_sumFor : MethodName := ⟨RX1, "sumFor", "(LQuotientQuoin$Table;I)I"⟩
def RX2 : String := "QuotientQuoin$Table"
def TX2 : u_T := fun k => match k with
  | 0 => ("QuotientQuoin$Table", "remainders", "[I", true)
  | 1 => ("QuotientQuoin$Table", "counters", "[I", true)
  | 2 => ("QuotientQuoin$Table", "occupied", "[Z", true)
  | 3 => ("QuotientQuoin$Table", "continuation", "[Z", true)
  | 4 => ("QuotientQuoin$Table", "shifted", "[Z", true)
  | _ => ("QuotientQuoin$Table", "bits", "I", false)
def tyX2 : Nat → FieldType := fun k => match k with
  | 0 => .array .int
  | 1 => .array .int
  | 2 => .array .boolean
  | 3 => .array .boolean
  | 4 => .array .boolean
  | _ => .int
abbrev wsX20 : List Cond := u_ws RX2 TX2 6
theorem nmX2 : ∀ a, a < 6 → ∀ b, b < 6 → a ≠ b → (TX2 a).2.1 ≠ (TX2 b).2.1 := by decide +kernel
theorem tyX2_ok : ∀ k, k < 6 → parseFieldDescriptor (TX2 k).2.2.1 = some (tyX2 k) := by decide +kernel
abbrev cX2_init : ByteArray := prog_4_method_1_code
def yX2_init : MethodName := ⟨RX2, "<init>", "()V"⟩
abbrev cX2_allSlots : ByteArray := prog_4_method_2_code
def yX2_allSlots : MethodName := ⟨RX2, "allSlots", "()I"⟩
abbrev cX2_isEmpty : ByteArray := prog_4_method_3_code
def yX2_isEmpty : MethodName := ⟨RX2, "isEmpty", "(I)Z"⟩
abbrev cX2_wrap : ByteArray := prog_4_method_4_code
def yX2_wrap : MethodName := ⟨RX2, "wrap", "(I)I"⟩
abbrev cX2_quotientOf : ByteArray := prog_4_method_5_code
def yX2_quotientOf : MethodName := ⟨RX2, "quotientOf", "(I)I"⟩
abbrev cX2_remainderOf : ByteArray := prog_4_method_6_code
def yX2_remainderOf : MethodName := ⟨RX2, "remainderOf", "(I)I"⟩
abbrev cX2_fingerprintOf : ByteArray := prog_4_method_7_code
def yX2_fingerprintOf : MethodName := ⟨RX2, "fingerprintOf", "(II)I"⟩
abbrev cX2_usedSlots : ByteArray := prog_4_method_8_code
def yX2_usedSlots : MethodName := ⟨RX2, "usedSlots", "()I"⟩
abbrev cX2_sumOfCounters : ByteArray := prog_4_method_9_code
def yX2_sumOfCounters : MethodName := ⟨RX2, "sumOfCounters", "()I"⟩
abbrev cX2_someEmptySlot : ByteArray := prog_4_method_10_code
def yX2_someEmptySlot : MethodName := ⟨RX2, "someEmptySlot", "()I"⟩
abbrev cX2_occupiedAfter : ByteArray := prog_4_method_11_code
def yX2_occupiedAfter : MethodName := ⟨RX2, "occupiedAfter", "(I)I"⟩
abbrev cX2_firstOfCluster : ByteArray := prog_4_method_12_code
def yX2_firstOfCluster : MethodName := ⟨RX2, "firstOfCluster", "(I)I"⟩
abbrev cX2_firstOfRun : ByteArray := prog_4_method_13_code
def yX2_firstOfRun : MethodName := ⟨RX2, "firstOfRun", "(I)I"⟩
abbrev cX2_lengthOfRun : ByteArray := prog_4_method_14_code
def yX2_lengthOfRun : MethodName := ⟨RX2, "lengthOfRun", "(I)I"⟩
abbrev cX2_quotientOfEntry : ByteArray := prog_4_method_15_code
def yX2_quotientOfEntry : MethodName := ⟨RX2, "quotientOfEntry", "(I)I"⟩
abbrev cX2_countInRun : ByteArray := prog_4_method_16_code
def yX2_countInRun : MethodName := ⟨RX2, "countInRun", "(I)I"⟩
abbrev cX2_looksFor : ByteArray := prog_4_method_17_code
def yX2_looksFor : MethodName := ⟨RX2, "looksFor", "(I)I"⟩
abbrev cX2_lengthOfLongestCluster : ByteArray := prog_4_method_18_code
def yX2_lengthOfLongestCluster : MethodName := ⟨RX2, "lengthOfLongestCluster", "()I"⟩
abbrev cX2_readInto : ByteArray := prog_4_method_19_code
def yX2_readInto : MethodName := ⟨RX2, "readInto", "(LQuotientQuoin$Bag;)V"⟩
abbrev cX2_wipe : ByteArray := prog_4_method_20_code
def yX2_wipe : MethodName := ⟨RX2, "wipe", "()V"⟩
abbrev cX2_fill : ByteArray := prog_4_method_21_code
def yX2_fill : MethodName := ⟨RX2, "fill", "(ILQuotientQuoin$Bag;)V"⟩
abbrev cX2_endInLine : ByteArray := prog_4_method_22_code
def yX2_endInLine : MethodName := ⟨RX2, "endInLine", "(LQuotientQuoin$Bag;)I"⟩
abbrev cX2_writeEntries : ByteArray := prog_4_method_23_code
def yX2_writeEntries : MethodName := ⟨RX2, "writeEntries", "(III)V"⟩
def RX3 : String := "QuotientQuoin"
def TX3 : u_T := fun k => match k with
  | 0 => ("QuotientQuoin", "tables", "[LQuotientQuoin$Table;", true)
  | 1 => ("QuotientQuoin", "mine", "LQuotientQuoin$Bag;", true)
  | 2 => ("QuotientQuoin", "theirs", "LQuotientQuoin$Bag;", true)
  | 3 => ("QuotientQuoin", "result", "LQuotientQuoin$Bag;", true)
  | _ => ("QuotientQuoin", "lists", "LQuotientQuoin$Lists;", true)
def tyX3 : Nat → FieldType := fun k => match k with
  | 0 => .array (.object "QuotientQuoin$Table")
  | 1 => .object "QuotientQuoin$Bag"
  | 2 => .object "QuotientQuoin$Bag"
  | 3 => .object "QuotientQuoin$Bag"
  | _ => .object "QuotientQuoin$Lists"
abbrev wsX30 : List Cond := u_ws RX3 TX3 5
theorem nmX3 : ∀ a, a < 5 → ∀ b, b < 5 → a ≠ b → (TX3 a).2.1 ≠ (TX3 b).2.1 := by decide +kernel
theorem tyX3_ok : ∀ k, k < 5 → parseFieldDescriptor (TX3 k).2.2.1 = some (tyX3 k) := by decide +kernel
abbrev cX3_init : ByteArray := prog_1_method_1_code
def yX3_init : MethodName := ⟨RX3, "<init>", "()V"⟩
abbrev cX3_fingerprint : ByteArray := prog_1_method_2_code
def yX3_fingerprint : MethodName := ⟨RX3, "fingerprint", "(I)I"⟩
abbrev cX3_insert : ByteArray := prog_1_method_3_code
def yX3_insert : MethodName := ⟨RX3, "insert", "(II)I"⟩
abbrev cX3_remove : ByteArray := prog_1_method_4_code
def yX3_remove : MethodName := ⟨RX3, "remove", "(II)Z"⟩
abbrev cX3_count : ByteArray := prog_1_method_5_code
def yX3_count : MethodName := ⟨RX3, "count", "(II)I"⟩
abbrev cX3_add : ByteArray := prog_1_method_6_code
def yX3_add : MethodName := ⟨RX3, "add", "(III)I"⟩
abbrev cX3_take : ByteArray := prog_1_method_7_code
def yX3_take : MethodName := ⟨RX3, "take", "(III)I"⟩
abbrev cX3_countOf : ByteArray := prog_1_method_8_code
def yX3_countOf : MethodName := ⟨RX3, "countOf", "(II)I"⟩
abbrev cX3_countInLists : ByteArray := prog_1_method_9_code
def yX3_countInLists : MethodName := ⟨RX3, "countInLists", "(II)I"⟩
abbrev cX3_lookedAt : ByteArray := prog_1_method_10_code
def yX3_lookedAt : MethodName := ⟨RX3, "lookedAt", "(II)I"⟩
abbrev cX3_clear : ByteArray := prog_1_method_11_code
def yX3_clear : MethodName := ⟨RX3, "clear", "(I)V"⟩
abbrev cX3_grow : ByteArray := prog_1_method_12_code
def yX3_grow : MethodName := ⟨RX3, "grow", "(I)I"⟩
abbrev cX3_shrink : ByteArray := prog_1_method_13_code
def yX3_shrink : MethodName := ⟨RX3, "shrink", "(I)I"⟩
abbrev cX3_merge : ByteArray := prog_1_method_14_code
def yX3_merge : MethodName := ⟨RX3, "merge", "(II)I"⟩
abbrev cX3_intersect : ByteArray := prog_1_method_15_code
def yX3_intersect : MethodName := ⟨RX3, "intersect", "(II)I"⟩
abbrev cX3_isSame : ByteArray := prog_1_method_16_code
def yX3_isSame : MethodName := ⟨RX3, "isSame", "(II)Z"⟩
abbrev cX3_slots : ByteArray := prog_1_method_17_code
def yX3_slots : MethodName := ⟨RX3, "slots", "(I)I"⟩
abbrev cX3_entries : ByteArray := prog_1_method_18_code
def yX3_entries : MethodName := ⟨RX3, "entries", "(I)I"⟩
abbrev cX3_distinct : ByteArray := prog_1_method_19_code
def yX3_distinct : MethodName := ⟨RX3, "distinct", "(I)I"⟩
abbrev cX3_total : ByteArray := prog_1_method_20_code
def yX3_total : MethodName := ⟨RX3, "total", "(I)I"⟩
abbrev cX3_fingerprintAt : ByteArray := prog_1_method_21_code
def yX3_fingerprintAt : MethodName := ⟨RX3, "fingerprintAt", "(II)I"⟩
abbrev cX3_remainderAt : ByteArray := prog_1_method_22_code
def yX3_remainderAt : MethodName := ⟨RX3, "remainderAt", "(II)I"⟩
abbrev cX3_counterAt : ByteArray := prog_1_method_23_code
def yX3_counterAt : MethodName := ⟨RX3, "counterAt", "(II)I"⟩
abbrev cX3_quotientAt : ByteArray := prog_1_method_24_code
def yX3_quotientAt : MethodName := ⟨RX3, "quotientAt", "(II)I"⟩
abbrev cX3_isOccupied : ByteArray := prog_1_method_25_code
def yX3_isOccupied : MethodName := ⟨RX3, "isOccupied", "(II)Z"⟩
abbrev cX3_isContinuation : ByteArray := prog_1_method_26_code
def yX3_isContinuation : MethodName := ⟨RX3, "isContinuation", "(II)Z"⟩
abbrev cX3_isShifted : ByteArray := prog_1_method_27_code
def yX3_isShifted : MethodName := ⟨RX3, "isShifted", "(II)Z"⟩
abbrev cX3_runStart : ByteArray := prog_1_method_28_code
def yX3_runStart : MethodName := ⟨RX3, "runStart", "(II)I"⟩
abbrev cX3_runLength : ByteArray := prog_1_method_29_code
def yX3_runLength : MethodName := ⟨RX3, "runLength", "(II)I"⟩
abbrev cX3_clusterStart : ByteArray := prog_1_method_30_code
def yX3_clusterStart : MethodName := ⟨RX3, "clusterStart", "(II)I"⟩
abbrev cX3_longestCluster : ByteArray := prog_1_method_31_code
def yX3_longestCluster : MethodName := ⟨RX3, "longestCluster", "(I)I"⟩
abbrev cX3_tableOf : ByteArray := prog_1_method_32_code
def yX3_tableOf : MethodName := ⟨RX3, "tableOf", "(I)LQuotientQuoin$Table;"⟩
abbrev cX3_checkSlot : ByteArray := prog_1_method_33_code
def yX3_checkSlot : MethodName := ⟨RX3, "checkSlot", "(LQuotientQuoin$Table;I)V"⟩
abbrev cX3_checkFingerprint : ByteArray := prog_1_method_34_code
def yX3_checkFingerprint : MethodName := ⟨RX3, "checkFingerprint", "(I)V"⟩
abbrev cX3_checkTimes : ByteArray := prog_1_method_35_code
def yX3_checkTimes : MethodName := ⟨RX3, "checkTimes", "(I)V"⟩
abbrev cX3_checkFits : ByteArray := prog_1_method_36_code
def yX3_checkFits : MethodName := ⟨RX3, "checkFits", "(LQuotientQuoin$Bag;I)V"⟩
abbrev cX3_mostEntries : ByteArray := prog_1_method_37_code
def yX3_mostEntries : MethodName := ⟨RX3, "mostEntries", "(I)I"⟩
abbrev cX3_entriesFor : ByteArray := prog_1_method_38_code
def yX3_entriesFor : MethodName := ⟨RX3, "entriesFor", "(I)I"⟩
abbrev cX3_putIn : ByteArray := prog_1_method_39_code
def yX3_putIn : MethodName := ⟨RX3, "putIn", "(LQuotientQuoin$Table;II)I"⟩
abbrev cX3_takeOut : ByteArray := prog_1_method_40_code
def yX3_takeOut : MethodName := ⟨RX3, "takeOut", "(LQuotientQuoin$Table;II)I"⟩
abbrev cX3_resize : ByteArray := prog_1_method_41_code
def yX3_resize : MethodName := ⟨RX3, "resize", "(LQuotientQuoin$Table;I)I"⟩
def RX4 : String := "QuotientQuoinModel"
def TX4 : u_T := fun k => match k with
  | 0 => ("QuotientQuoinModel", "counts", "[I", true)
  | 1 => ("QuotientQuoinModel", "bits", "[I", true)
  | 2 => ("QuotientQuoinModel", "prints", "[I", true)
  | 3 => ("QuotientQuoinModel", "counters", "[I", true)
  | 4 => ("QuotientQuoinModel", "lengths", "[I", true)
  | 5 => ("QuotientQuoinModel", "begins", "[I", true)
  | 6 => ("QuotientQuoinModel", "laid", "[I", true)
  | _ => ("QuotientQuoinModel", "last", "I", false)
def tyX4 : Nat → FieldType := fun k => match k with
  | 0 => .array .int
  | 1 => .array .int
  | 2 => .array .int
  | 3 => .array .int
  | 4 => .array .int
  | 5 => .array .int
  | 6 => .array .int
  | _ => .int
abbrev wsX40 : List Cond := u_ws RX4 TX4 8
theorem nmX4 : ∀ a, a < 8 → ∀ b, b < 8 → a ≠ b → (TX4 a).2.1 ≠ (TX4 b).2.1 := by decide +kernel
theorem tyX4_ok : ∀ k, k < 8 → parseFieldDescriptor (TX4 k).2.2.1 = some (tyX4 k) := by decide +kernel
abbrev cX4_init : ByteArray := prog_6_method_1_code
def yX4_init : MethodName := ⟨RX4, "<init>", "()V"⟩
abbrev cX4_thrown : ByteArray := prog_6_method_2_code
def yX4_thrown : MethodName := ⟨RX4, "thrown", "()I"⟩
abbrev cX4_in : ByteArray := prog_6_method_3_code
def yX4_in : MethodName := ⟨RX4, "in", "(III)Z"⟩
abbrev cX4_isFilter : ByteArray := prog_6_method_4_code
def yX4_isFilter : MethodName := ⟨RX4, "isFilter", "(I)Z"⟩
abbrev cX4_isPrint : ByteArray := prog_6_method_5_code
def yX4_isPrint : MethodName := ⟨RX4, "isPrint", "(I)Z"⟩
abbrev cX4_goes : ByteArray := prog_6_method_6_code
def yX4_goes : MethodName := ⟨RX4, "goes", "(ZZ)Z"⟩
abbrev cX4_slotsOf : ByteArray := prog_6_method_7_code
def yX4_slotsOf : MethodName := ⟨RX4, "slotsOf", "(I)I"⟩
abbrev cX4_entriesOf : ByteArray := prog_6_method_8_code
def yX4_entriesOf : MethodName := ⟨RX4, "entriesOf", "(I)I"⟩
abbrev cX4_countEntries : ByteArray := prog_6_method_9_code
def yX4_countEntries : MethodName := ⟨RX4, "countEntries", "(I)I"⟩
abbrev cX4_hasRoom : ByteArray := prog_6_method_10_code
def yX4_hasRoom : MethodName := ⟨RX4, "hasRoom", "(II)Z"⟩
abbrev cX4_printOf : ByteArray := prog_6_method_11_code
def yX4_printOf : MethodName := ⟨RX4, "printOf", "(I)I"⟩
abbrev cX4_places : ByteArray := prog_6_method_12_code
def yX4_places : MethodName := ⟨RX4, "places", "(I)V"⟩
abbrev cX4_lays : ByteArray := prog_6_method_13_code
def yX4_lays : MethodName := ⟨RX4, "lays", "(I)V"⟩
abbrev cX4_isEntry : ByteArray := prog_6_method_14_code
def yX4_isEntry : MethodName := ⟨RX4, "isEntry", "(I)Z"⟩
abbrev cX4_quotientIn : ByteArray := prog_6_method_15_code
def yX4_quotientIn : MethodName := ⟨RX4, "quotientIn", "(II)I"⟩
abbrev cX4_isMoved : ByteArray := prog_6_method_16_code
def yX4_isMoved : MethodName := ⟨RX4, "isMoved", "(II)Z"⟩
abbrev cX4_fingerprint : ByteArray := prog_6_method_17_code
def yX4_fingerprint : MethodName := ⟨RX4, "fingerprint", "(I)I"⟩
abbrev cX4_changes : ByteArray := prog_6_method_18_code
def yX4_changes : MethodName := ⟨RX4, "changes", "(III)Z"⟩
abbrev cX4_insert : ByteArray := prog_6_method_19_code
def yX4_insert : MethodName := ⟨RX4, "insert", "(II)I"⟩
abbrev cX4_remove : ByteArray := prog_6_method_20_code
def yX4_remove : MethodName := ⟨RX4, "remove", "(II)Z"⟩
abbrev cX4_count : ByteArray := prog_6_method_21_code
def yX4_count : MethodName := ⟨RX4, "count", "(II)I"⟩
abbrev cX4_add : ByteArray := prog_6_method_22_code
def yX4_add : MethodName := ⟨RX4, "add", "(III)I"⟩
abbrev cX4_take : ByteArray := prog_6_method_23_code
def yX4_take : MethodName := ⟨RX4, "take", "(III)I"⟩
abbrev cX4_countOf : ByteArray := prog_6_method_24_code
def yX4_countOf : MethodName := ⟨RX4, "countOf", "(II)I"⟩
abbrev cX4_countInLists : ByteArray := prog_6_method_25_code
def yX4_countInLists : MethodName := ⟨RX4, "countInLists", "(II)I"⟩
abbrev cX4_lookedAt : ByteArray := prog_6_method_26_code
def yX4_lookedAt : MethodName := ⟨RX4, "lookedAt", "(II)I"⟩
abbrev cX4_clear : ByteArray := prog_6_method_27_code
def yX4_clear : MethodName := ⟨RX4, "clear", "(I)V"⟩
abbrev cX4_grow : ByteArray := prog_6_method_28_code
def yX4_grow : MethodName := ⟨RX4, "grow", "(I)I"⟩
abbrev cX4_shrink : ByteArray := prog_6_method_29_code
def yX4_shrink : MethodName := ⟨RX4, "shrink", "(I)I"⟩
abbrev cX4_merge : ByteArray := prog_6_method_30_code
def yX4_merge : MethodName := ⟨RX4, "merge", "(II)I"⟩
abbrev cX4_intersect : ByteArray := prog_6_method_31_code
def yX4_intersect : MethodName := ⟨RX4, "intersect", "(II)I"⟩
abbrev cX4_isSame : ByteArray := prog_6_method_32_code
def yX4_isSame : MethodName := ⟨RX4, "isSame", "(II)Z"⟩
abbrev cX4_slots : ByteArray := prog_6_method_33_code
def yX4_slots : MethodName := ⟨RX4, "slots", "(I)I"⟩
abbrev cX4_entries : ByteArray := prog_6_method_34_code
def yX4_entries : MethodName := ⟨RX4, "entries", "(I)I"⟩
abbrev cX4_distinct : ByteArray := prog_6_method_35_code
def yX4_distinct : MethodName := ⟨RX4, "distinct", "(I)I"⟩
abbrev cX4_total : ByteArray := prog_6_method_36_code
def yX4_total : MethodName := ⟨RX4, "total", "(I)I"⟩
abbrev cX4_fingerprintAt : ByteArray := prog_6_method_37_code
def yX4_fingerprintAt : MethodName := ⟨RX4, "fingerprintAt", "(II)I"⟩
abbrev cX4_isLaid : ByteArray := prog_6_method_38_code
def yX4_isLaid : MethodName := ⟨RX4, "isLaid", "(II)Z"⟩
abbrev cX4_remainderAt : ByteArray := prog_6_method_39_code
def yX4_remainderAt : MethodName := ⟨RX4, "remainderAt", "(II)I"⟩
abbrev cX4_counterAt : ByteArray := prog_6_method_40_code
def yX4_counterAt : MethodName := ⟨RX4, "counterAt", "(II)I"⟩
abbrev cX4_quotientAt : ByteArray := prog_6_method_41_code
def yX4_quotientAt : MethodName := ⟨RX4, "quotientAt", "(II)I"⟩
abbrev cX4_isOccupied : ByteArray := prog_6_method_42_code
def yX4_isOccupied : MethodName := ⟨RX4, "isOccupied", "(II)Z"⟩
abbrev cX4_isContinuation : ByteArray := prog_6_method_43_code
def yX4_isContinuation : MethodName := ⟨RX4, "isContinuation", "(II)Z"⟩
abbrev cX4_isShifted : ByteArray := prog_6_method_44_code
def yX4_isShifted : MethodName := ⟨RX4, "isShifted", "(II)Z"⟩
abbrev cX4_runStart : ByteArray := prog_6_method_45_code
def yX4_runStart : MethodName := ⟨RX4, "runStart", "(II)I"⟩
abbrev cX4_runLength : ByteArray := prog_6_method_46_code
def yX4_runLength : MethodName := ⟨RX4, "runLength", "(II)I"⟩
abbrev cX4_clusterStart : ByteArray := prog_6_method_47_code
def yX4_clusterStart : MethodName := ⟨RX4, "clusterStart", "(II)I"⟩
abbrev cX4_longestCluster : ByteArray := prog_6_method_48_code
def yX4_longestCluster : MethodName := ⟨RX4, "longestCluster", "(I)I"⟩
def RJ9 : String := "java/lang/Math"
def TJ9 : u_T := fun k => match k with
  | _ => ("", "", "", false)
def tyJ9 : Nat → FieldType := fun k => match k with
  | _ => .int
abbrev wsJ90 : List Cond := u_ws RJ9 TJ9 0
theorem nmJ9 : ∀ a, a < 0 → ∀ b, b < 0 → a ≠ b → (TJ9 a).2.1 ≠ (TJ9 b).2.1 := by decide +kernel
theorem tyJ9_ok : ∀ k, k < 0 → parseFieldDescriptor (TJ9 k).2.2.1 = some (tyJ9 k) := by decide +kernel
abbrev cJ9_max_7cf53 : ByteArray := prog_11_method_65_code
def yJ9_max_7cf53 : MethodName := ⟨RJ9, "max", "(II)I"⟩
abbrev cJ9_min_7cf53 : ByteArray := prog_11_method_69_code
def yJ9_min_7cf53 : MethodName := ⟨RJ9, "min", "(II)I"⟩
def RJ0 : String := "java/lang/String"
def TJ0 : u_T := fun k => match k with
  | _ => ("", "", "", false)
def tyJ0 : Nat → FieldType := fun k => match k with
  | _ => .int
abbrev wsJ00 : List Cond := u_ws RJ0 TJ0 0
theorem nmJ0 : ∀ a, a < 0 → ∀ b, b < 0 → a ≠ b → (TJ0 a).2.1 ≠ (TJ0 b).2.1 := by decide +kernel
theorem tyJ0_ok : ∀ k, k < 0 → parseFieldDescriptor (TJ0 k).2.2.1 = some (tyJ0 k) := by decide +kernel
def RL : String := "QuotientQuoinLaw"
abbrev cL_insert : ByteArray := method_3_code
def yL_insert : MethodName := ⟨RL, "insert", "(LQuotientQuoin;II[J)I"⟩
abbrev cL_remove : ByteArray := method_4_code
def yL_remove : MethodName := ⟨RL, "remove", "(LQuotientQuoin;II[J)I"⟩
abbrev cL_count : ByteArray := method_5_code
def yL_count : MethodName := ⟨RL, "count", "(LQuotientQuoin;II[J)I"⟩
abbrev cL_add : ByteArray := method_6_code
def yL_add : MethodName := ⟨RL, "add", "(LQuotientQuoin;III[J)I"⟩
abbrev cL_take : ByteArray := method_7_code
def yL_take : MethodName := ⟨RL, "take", "(LQuotientQuoin;III[J)I"⟩
abbrev cL_countOf : ByteArray := method_8_code
def yL_countOf : MethodName := ⟨RL, "countOf", "(LQuotientQuoin;II[J)I"⟩
abbrev cL_countInLists : ByteArray := method_9_code
def yL_countInLists : MethodName := ⟨RL, "countInLists", "(LQuotientQuoin;II[J)I"⟩
abbrev cL_lookedAt : ByteArray := method_10_code
def yL_lookedAt : MethodName := ⟨RL, "lookedAt", "(LQuotientQuoin;II[J)I"⟩
abbrev cL_clear : ByteArray := method_11_code
def yL_clear : MethodName := ⟨RL, "clear", "(LQuotientQuoin;I)I"⟩
abbrev cL_grow : ByteArray := method_12_code
def yL_grow : MethodName := ⟨RL, "grow", "(LQuotientQuoin;I[J)I"⟩
abbrev cL_shrink : ByteArray := method_13_code
def yL_shrink : MethodName := ⟨RL, "shrink", "(LQuotientQuoin;I[J)I"⟩
abbrev cL_merge : ByteArray := method_14_code
def yL_merge : MethodName := ⟨RL, "merge", "(LQuotientQuoin;II[J)I"⟩
abbrev cL_intersect : ByteArray := method_15_code
def yL_intersect : MethodName := ⟨RL, "intersect", "(LQuotientQuoin;II[J)I"⟩
abbrev cL_isSame : ByteArray := method_16_code
def yL_isSame : MethodName := ⟨RL, "isSame", "(LQuotientQuoin;II[J)I"⟩
abbrev cL_slots : ByteArray := method_17_code
def yL_slots : MethodName := ⟨RL, "slots", "(LQuotientQuoin;I[J)I"⟩
abbrev cL_entries : ByteArray := method_18_code
def yL_entries : MethodName := ⟨RL, "entries", "(LQuotientQuoin;I[J)I"⟩
abbrev cL_distinct : ByteArray := method_19_code
def yL_distinct : MethodName := ⟨RL, "distinct", "(LQuotientQuoin;I[J)I"⟩
abbrev cL_total : ByteArray := method_20_code
def yL_total : MethodName := ⟨RL, "total", "(LQuotientQuoin;I[J)I"⟩
abbrev cL_fingerprintAt : ByteArray := method_21_code
def yL_fingerprintAt : MethodName := ⟨RL, "fingerprintAt", "(LQuotientQuoin;II[J)I"⟩
abbrev cL_remainderAt : ByteArray := method_22_code
def yL_remainderAt : MethodName := ⟨RL, "remainderAt", "(LQuotientQuoin;II[J)I"⟩
abbrev cL_counterAt : ByteArray := method_23_code
def yL_counterAt : MethodName := ⟨RL, "counterAt", "(LQuotientQuoin;II[J)I"⟩
abbrev cL_quotientAt : ByteArray := method_24_code
def yL_quotientAt : MethodName := ⟨RL, "quotientAt", "(LQuotientQuoin;II[J)I"⟩
abbrev cL_isOccupied : ByteArray := method_25_code
def yL_isOccupied : MethodName := ⟨RL, "isOccupied", "(LQuotientQuoin;II[J)I"⟩
abbrev cL_isContinuation : ByteArray := method_26_code
def yL_isContinuation : MethodName := ⟨RL, "isContinuation", "(LQuotientQuoin;II[J)I"⟩
abbrev cL_isShifted : ByteArray := method_27_code
def yL_isShifted : MethodName := ⟨RL, "isShifted", "(LQuotientQuoin;II[J)I"⟩
abbrev cL_runStart : ByteArray := method_28_code
def yL_runStart : MethodName := ⟨RL, "runStart", "(LQuotientQuoin;II[J)I"⟩
abbrev cL_runLength : ByteArray := method_29_code
def yL_runLength : MethodName := ⟨RL, "runLength", "(LQuotientQuoin;II[J)I"⟩
abbrev cL_clusterStart : ByteArray := method_30_code
def yL_clusterStart : MethodName := ⟨RL, "clusterStart", "(LQuotientQuoin;II[J)I"⟩
abbrev cL_longestCluster : ByteArray := method_31_code
def yL_longestCluster : MethodName := ⟨RL, "longestCluster", "(LQuotientQuoin;I[J)I"⟩
abbrev cL_law : ByteArray := code
def yL_law : MethodName := ⟨RL, "law", "([I)Z"⟩
abbrev vwCl : List vw_C := [(RX0, TX0, 3), (RX1, TX1, 2), (RX2, TX2, 6), (RX3, TX3, 5), (RX4, TX4, 8)]
end
section
/-! the abstract machine: tables, by wip/whole/gen02.py -/
abbrev amRes : Type := Nat × Nat × Int
abbrev amEnt : Type := Nat × (Instr × Nat × amRes)
/-- own class, name, bytes, locals, return type, table, frames, locals of its room -/
abbrev amRow : Type := Nat × MethodName × ByteArray × Nat × Option FieldType × List (Nat × Nat × Nat × Nat) × Nat × Nat
def amTB : List Cond := lw_tbl.filter goodWord
theorem amTB_of {w : Cond} {i : Nat} (h : lw_tbl[i]? = some w) (hg : goodWord w = true) : w ∈ amTB := List.mem_filter.mpr ⟨List.mem_of_getElem? h, hg⟩
def amN : Nat → String := fun k => match k with
  | 0 => RX0
  | 1 => RX1
  | 2 => RX2
  | 3 => RX3
  | 4 => RX4
  | _ => RL
def amK0_0 : List amEnt := [(0, .aload_n 0, 1, 0, 0, 0), (1, .invokespecial 3, 3, 6, 0, 0), (4, .aload_n 0, 1, 0, 0, 0), (5, .sipush 512, 3, 0, 0, 0), (8, .newarray .int, 2, 0, 0, 0), (10, .putfield 9, 3, 0, 0, 0), (13, .aload_n 0, 1, 0, 0, 0), (14, .sipush 512, 3, 0, 0, 0), (17, .newarray .int, 2, 0, 0, 0), (19, .putfield 15, 3, 0, 1, 0), (22, .return_, 1, 0, 0, 0)]
def amC0 : List (List amEnt) := [amK0_0]
def amR0 : amRow := (0, yX0_init, cX0_init, 1, none, [], 1, 21)
def amK1_0 : List amEnt := [(0, .aload_n 0, 1, 0, 0, 0), (1, .iconst 0, 1, 0, 0, 0), (2, .putfield 18, 3, 0, 2, 0), (5, .return_, 1, 0, 0, 0)]
def amC1 : List (List amEnt) := [amK1_0]
def amR1 : amRow := (0, yX0_drop, cX0_drop, 1, none, [], 0, 0)
def amK2_0 : List amEnt := [(0, .aload_n 0, 1, 0, 0, 0), (1, .getfield 18, 3, 0, 2, 0), (4, .iconst 1, 1, 0, 0, 0), (5, .isub, 1, 0, 0, 0), (6, .istore_n 3, 1, 0, 0, 0), (7, .iload_n 3, 1, 0, 0, 0), (8, .ifCond .lt 26, 3, 0, 0, 0), (11, .aload_n 0, 1, 0, 0, 0), (12, .getfield 9, 3, 0, 0, 0), (15, .iload_n 3, 1, 0, 0, 0), (16, .iaload, 1, 0, 0, 0), (17, .iload_n 1, 1, 0, 0, 0), (18, .if_icmp .ne 16, 3, 0, 0, 0), (21, .aload_n 0, 1, 0, 0, 0), (22, .getfield 15, 3, 0, 1, 0), (25, .iload_n 3, 1, 0, 0, 0), (26, .dup2, 1, 0, 0, 0), (27, .iaload, 1, 0, 0, 0), (28, .iload_n 2, 1, 0, 0, 0), (29, .iadd, 1, 0, 0, 0), (30, .iastore, 1, 0, 0, 0), (31, .goto 49, 3, 0, 0, 0), (34, .iload_n 2, 1, 0, 0, 0), (35, .ifCond .le 45, 3, 0, 0, 0), (38, .aload_n 0, 1, 0, 0, 0), (39, .getfield 18, 3, 0, 2, 0), (42, .aload_n 0, 1, 0, 0, 0), (43, .getfield 9, 3, 0, 0, 0), (46, .arraylength, 1, 0, 0, 0), (47, .if_icmp .ge 33, 3, 0, 0, 0), (50, .aload_n 0, 1, 0, 0, 0), (51, .getfield 9, 3, 0, 0, 0), (54, .aload_n 0, 1, 0, 0, 0), (55, .getfield 18, 3, 0, 2, 0), (58, .iload_n 1, 1, 0, 0, 0), (59, .iastore, 1, 0, 0, 0), (60, .aload_n 0, 1, 0, 0, 0), (61, .getfield 15, 3, 0, 1, 0)]
def amK2_1 : List amEnt := [(64, .aload_n 0, 1, 0, 0, 0), (65, .getfield 18, 3, 0, 2, 0), (68, .iload_n 2, 1, 0, 0, 0), (69, .iastore, 1, 0, 0, 0), (70, .aload_n 0, 1, 0, 0, 0), (71, .dup, 1, 0, 0, 0), (72, .getfield 18, 3, 0, 2, 0), (75, .iconst 1, 1, 0, 0, 0), (76, .iadd, 1, 0, 0, 0), (77, .putfield 18, 3, 0, 2, 0), (80, .return_, 1, 0, 0, 0)]
def amC2 : List (List amEnt) := [amK2_0, amK2_1]
def amR2 : amRow := (0, yX0_append, cX0_append, 4, none, [], 0, 0)
def amK3_0 : List amEnt := [(0, .aload_n 0, 1, 0, 0, 0), (1, .invokevirtual 22, 3, 0, 1, 0), (4, .iconst 0, 1, 0, 0, 0), (5, .istore_n 3, 1, 0, 0, 0), (6, .iconst 0, 1, 0, 0, 0), (7, .istore 4, 2, 0, 0, 0), (9, .aload_n 1, 1, 0, 0, 0), (10, .getfield 18, 3, 0, 2, 0), (13, .aload_n 2, 1, 0, 0, 0), (14, .getfield 18, 3, 0, 2, 0), (17, .iadd, 1, 0, 0, 0), (18, .istore 5, 2, 0, 0, 0), (20, .iload 5, 2, 0, 0, 0), (22, .ifCond .le 85, 3, 0, 0, 0), (25, .iload 4, 2, 0, 0, 0), (27, .aload_n 2, 1, 0, 0, 0), (28, .getfield 18, 3, 0, 2, 0), (31, .if_icmp .ge 27, 3, 0, 0, 0), (34, .iload_n 3, 1, 0, 0, 0), (35, .aload_n 1, 1, 0, 0, 0), (36, .getfield 18, 3, 0, 2, 0), (39, .if_icmp .ge 41, 3, 0, 0, 0), (42, .aload_n 1, 1, 0, 0, 0), (43, .getfield 9, 3, 0, 0, 0), (46, .iload_n 3, 1, 0, 0, 0), (47, .iaload, 1, 0, 0, 0), (48, .aload_n 2, 1, 0, 0, 0), (49, .getfield 9, 3, 0, 0, 0), (52, .iload 4, 2, 0, 0, 0), (54, .iaload, 1, 0, 0, 0), (55, .if_icmp .gt 25, 3, 0, 0, 0), (58, .aload_n 0, 1, 0, 0, 0), (59, .aload_n 1, 1, 0, 0, 0), (60, .getfield 9, 3, 0, 0, 0), (63, .iload_n 3, 1, 0, 0, 0)]
def amK3_1 : List amEnt := [(64, .iaload, 1, 0, 0, 0), (65, .aload_n 1, 1, 0, 0, 0), (66, .getfield 15, 3, 0, 1, 0), (69, .iload_n 3, 1, 0, 0, 0), (70, .iaload, 1, 0, 0, 0), (71, .invokevirtual 25, 3, 0, 2, 2), (74, .iinc 3 1, 3, 0, 0, 0), (77, .goto 24, 3, 0, 0, 0), (80, .aload_n 0, 1, 0, 0, 0), (81, .aload_n 2, 1, 0, 0, 0), (82, .getfield 9, 3, 0, 0, 0), (85, .iload 4, 2, 0, 0, 0), (87, .iaload, 1, 0, 0, 0), (88, .aload_n 2, 1, 0, 0, 0), (89, .getfield 15, 3, 0, 1, 0), (92, .iload 4, 2, 0, 0, 0), (94, .iaload, 1, 0, 0, 0), (95, .invokevirtual 25, 3, 0, 2, 2), (98, .iinc 4 1, 3, 0, 0, 0), (101, .iinc 5 (-1), 3, 0, 0, 0), (104, .goto (-84), 3, 0, 0, 0), (107, .return_, 1, 0, 0, 0)]
def amC3 : List (List amEnt) := [amK3_0, amK3_1]
def amR3 : amRow := (0, yX0_becomeSum, cX0_becomeSum, 6, none, [], 1, 23)
def amK4_0 : List amEnt := [(0, .aload_n 0, 1, 0, 0, 0), (1, .invokevirtual 22, 3, 0, 1, 0), (4, .iconst 0, 1, 0, 0, 0), (5, .istore_n 3, 1, 0, 0, 0), (6, .iconst 0, 1, 0, 0, 0), (7, .istore 4, 2, 0, 0, 0), (9, .iload 4, 2, 0, 0, 0), (11, .aload_n 1, 1, 0, 0, 0), (12, .getfield 18, 3, 0, 2, 0), (15, .if_icmp .ge 67, 3, 0, 0, 0), (18, .aload_n 1, 1, 0, 0, 0), (19, .getfield 9, 3, 0, 0, 0), (22, .iload 4, 2, 0, 0, 0), (24, .iaload, 1, 0, 0, 0), (25, .istore 5, 2, 0, 0, 0), (27, .aload_n 2, 1, 0, 0, 0), (28, .iload 5, 2, 0, 0, 0), (30, .iload_n 3, 1, 0, 0, 0), (31, .invokevirtual 29, 3, 0, 6, 2), (34, .istore_n 3, 1, 0, 0, 0), (35, .iload_n 3, 1, 0, 0, 0), (36, .aload_n 2, 1, 0, 0, 0), (37, .getfield 18, 3, 0, 2, 0), (40, .if_icmp .ge 36, 3, 0, 0, 0), (43, .aload_n 2, 1, 0, 0, 0), (44, .getfield 9, 3, 0, 0, 0), (47, .iload_n 3, 1, 0, 0, 0), (48, .iaload, 1, 0, 0, 0), (49, .iload 5, 2, 0, 0, 0), (51, .if_icmp .ne 25, 3, 0, 0, 0), (54, .aload_n 0, 1, 0, 0, 0), (55, .iload 5, 2, 0, 0, 0), (57, .aload_n 1, 1, 0, 0, 0), (58, .getfield 15, 3, 0, 1, 0), (61, .iload 4, 2, 0, 0, 0), (63, .iaload, 1, 0, 0, 0)]
def amK4_1 : List amEnt := [(64, .aload_n 2, 1, 0, 0, 0), (65, .getfield 15, 3, 0, 1, 0), (68, .iload_n 3, 1, 0, 0, 0), (69, .iaload, 1, 0, 0, 0), (70, .invokestatic 33, 3, 5, 0, 2), (73, .invokevirtual 25, 3, 0, 2, 2), (76, .iinc 4 1, 3, 0, 0, 0), (79, .goto (-70), 3, 0, 0, 0), (82, .return_, 1, 0, 0, 0)]
def amC4 : List (List amEnt) := [amK4_0, amK4_1]
def amR4 : amRow := (0, yX0_becomeLesser, cX0_becomeLesser, 6, none, [], 1, 23)
def amK5_0 : List amEnt := [(0, .aload_n 0, 1, 0, 0, 0), (1, .invokevirtual 22, 3, 0, 1, 0), (4, .iconst 0, 1, 0, 0, 0), (5, .istore 4, 2, 0, 0, 0), (7, .iload 4, 2, 0, 0, 0), (9, .aload_n 1, 1, 0, 0, 0), (10, .getfield 18, 3, 0, 2, 0), (13, .if_icmp .ge 48, 3, 0, 0, 0), (16, .aload_n 1, 1, 0, 0, 0), (17, .getfield 9, 3, 0, 0, 0), (20, .iload 4, 2, 0, 0, 0), (22, .iaload, 1, 0, 0, 0), (23, .iload_n 2, 1, 0, 0, 0), (24, .if_icmp .ne 7, 3, 0, 0, 0), (27, .iload_n 3, 1, 0, 0, 0), (28, .goto 4, 3, 0, 0, 0), (31, .iconst 0, 1, 0, 0, 0), (32, .istore 5, 2, 0, 0, 0), (34, .aload_n 0, 1, 0, 0, 0), (35, .aload_n 1, 1, 0, 0, 0), (36, .getfield 9, 3, 0, 0, 0), (39, .iload 4, 2, 0, 0, 0), (41, .iaload, 1, 0, 0, 0), (42, .aload_n 1, 1, 0, 0, 0), (43, .getfield 15, 3, 0, 1, 0), (46, .iload 4, 2, 0, 0, 0), (48, .iaload, 1, 0, 0, 0), (49, .iload 5, 2, 0, 0, 0), (51, .isub, 1, 0, 0, 0), (52, .invokevirtual 25, 3, 0, 2, 2), (55, .iinc 4 1, 3, 0, 0, 0), (58, .goto (-51), 3, 0, 0, 0), (61, .return_, 1, 0, 0, 0)]
def amC5 : List (List amEnt) := [amK5_0]
def amR5 : amRow := (0, yX0_becomeRest, cX0_becomeRest, 6, none, [], 1, 23)
def amK6_0 : List amEnt := [(0, .iload_n 2, 1, 0, 0, 0), (1, .istore_n 3, 1, 0, 0, 0), (2, .iload_n 3, 1, 0, 0, 0), (3, .aload_n 0, 1, 0, 0, 0), (4, .getfield 18, 3, 0, 2, 0), (7, .if_icmp .ge 19, 3, 0, 0, 0), (10, .aload_n 0, 1, 0, 0, 0), (11, .getfield 9, 3, 0, 0, 0), (14, .iload_n 3, 1, 0, 0, 0), (15, .iaload, 1, 0, 0, 0), (16, .iload_n 1, 1, 0, 0, 0), (17, .if_icmp .ge 9, 3, 0, 0, 0), (20, .iinc 3 1, 3, 0, 0, 0), (23, .goto (-21), 3, 0, 0, 0), (26, .iload_n 3, 1, 0, 0, 0), (27, .ireturn, 1, 0, 0, 0)]
def amC6 : List (List amEnt) := [amK6_0]
def amR6 : amRow := (0, yX0_placeNotBelow, cX0_placeNotBelow, 4, (some (.int)), [], 0, 0)
def amK7_0 : List amEnt := [(0, .aload_n 0, 1, 0, 0, 0), (1, .getfield 18, 3, 0, 2, 0), (4, .aload_n 1, 1, 0, 0, 0), (5, .getfield 18, 3, 0, 2, 0), (8, .if_icmp .eq 5, 3, 0, 0, 0), (11, .iconst 0, 1, 0, 0, 0), (12, .ireturn, 1, 0, 0, 0), (13, .iconst 0, 1, 0, 0, 0), (14, .istore_n 2, 1, 0, 0, 0), (15, .iload_n 2, 1, 0, 0, 0), (16, .aload_n 0, 1, 0, 0, 0), (17, .getfield 18, 3, 0, 2, 0), (20, .if_icmp .ge 41, 3, 0, 0, 0), (23, .aload_n 0, 1, 0, 0, 0), (24, .getfield 9, 3, 0, 0, 0), (27, .iload_n 2, 1, 0, 0, 0), (28, .iaload, 1, 0, 0, 0), (29, .aload_n 1, 1, 0, 0, 0), (30, .getfield 9, 3, 0, 0, 0), (33, .iload_n 2, 1, 0, 0, 0), (34, .iaload, 1, 0, 0, 0), (35, .if_icmp .ne 18, 3, 0, 0, 0), (38, .aload_n 0, 1, 0, 0, 0), (39, .getfield 15, 3, 0, 1, 0), (42, .iload_n 2, 1, 0, 0, 0), (43, .iaload, 1, 0, 0, 0), (44, .aload_n 1, 1, 0, 0, 0), (45, .getfield 15, 3, 0, 1, 0), (48, .iload_n 2, 1, 0, 0, 0), (49, .iaload, 1, 0, 0, 0), (50, .if_icmp .eq 5, 3, 0, 0, 0), (53, .iconst 0, 1, 0, 0, 0), (54, .ireturn, 1, 0, 0, 0), (55, .iinc 2 1, 3, 0, 0, 0), (58, .goto (-43), 3, 0, 0, 0), (61, .iconst 1, 1, 0, 0, 0), (62, .ireturn, 1, 0, 0, 0)]
def amC7 : List (List amEnt) := [amK7_0]
def amR7 : amRow := (0, yX0_hasSameAs, cX0_hasSameAs, 3, (some (.boolean)), [], 0, 0)
def amK8_0 : List amEnt := [(0, .iconst 0, 1, 0, 0, 0), (1, .istore_n 1, 1, 0, 0, 0), (2, .iconst 0, 1, 0, 0, 0), (3, .istore_n 2, 1, 0, 0, 0), (4, .iload_n 2, 1, 0, 0, 0), (5, .aload_n 0, 1, 0, 0, 0), (6, .getfield 18, 3, 0, 2, 0), (9, .if_icmp .ge 21, 3, 0, 0, 0), (12, .iload_n 1, 1, 0, 0, 0), (13, .aload_n 0, 1, 0, 0, 0), (14, .getfield 15, 3, 0, 1, 0), (17, .iload_n 2, 1, 0, 0, 0), (18, .iaload, 1, 0, 0, 0), (19, .invokestatic 38, 3, 2, 73, 1), (22, .iadd, 1, 0, 0, 0), (23, .istore_n 1, 1, 0, 0, 0), (24, .iinc 2 1, 3, 0, 0, 0), (27, .goto (-23), 3, 0, 0, 0), (30, .iload_n 1, 1, 0, 0, 0), (31, .ireturn, 1, 0, 0, 0)]
def amC8 : List (List amEnt) := [amK8_0]
def amR8 : amRow := (0, yX0_neededSlots, cX0_neededSlots, 3, (some (.int)), [], 1, 20)
def amK9_0 : List amEnt := [(0, .aload_n 0, 1, 0, 0, 0), (1, .invokespecial 3, 3, 6, 0, 0), (4, .aload_n 0, 1, 0, 0, 0), (5, .sipush 256, 3, 0, 0, 0), (8, .newarray .int, 2, 0, 0, 0), (10, .putfield 9, 3, 1, 0, 0), (13, .aload_n 0, 1, 0, 0, 0), (14, .sipush 256, 3, 0, 0, 0), (17, .newarray .int, 2, 0, 0, 0), (19, .putfield 15, 3, 1, 1, 0), (22, .return_, 1, 0, 0, 0)]
def amC9 : List (List amEnt) := [amK9_0]
def amR9 : amRow := (1, yX1_init, cX1_init, 1, none, [], 1, 21)
def amK10_0 : List amEnt := [(0, .iconst 0, 1, 0, 0, 0), (1, .istore_n 2, 1, 0, 0, 0), (2, .iload_n 2, 1, 0, 0, 0), (3, .sipush 256, 3, 0, 0, 0), (6, .if_icmp .ge 16, 3, 0, 0, 0), (9, .aload_n 0, 1, 0, 0, 0), (10, .getfield 9, 3, 1, 0, 0), (13, .iload_n 2, 1, 0, 0, 0), (14, .iconst (-1), 1, 0, 0, 0), (15, .iastore, 1, 0, 0, 0), (16, .iinc 2 1, 3, 0, 0, 0), (19, .goto (-17), 3, 0, 0, 0), (22, .aload_n 1, 1, 0, 0, 0), (23, .invokevirtual 18, 3, 0, 22, 0), (26, .istore_n 2, 1, 0, 0, 0), (27, .iload_n 2, 1, 0, 0, 0), (28, .istore_n 3, 1, 0, 0, 0), (29, .iconst 1, 1, 0, 0, 0), (30, .istore 4, 2, 0, 0, 0), (32, .iload 4, 2, 0, 0, 0), (34, .aload_n 1, 1, 0, 0, 0), (35, .invokevirtual 24, 3, 0, 14, 0), (38, .if_icmp .ge 57, 3, 0, 0, 0), (41, .aload_n 1, 1, 0, 0, 0), (42, .iload_n 2, 1, 0, 0, 0), (43, .iload 4, 2, 0, 0, 0), (45, .iadd, 1, 0, 0, 0), (46, .invokevirtual 27, 3, 0, 16, 1), (49, .istore 5, 2, 0, 0, 0), (51, .aload_n 1, 1, 0, 0, 0), (52, .iload 5, 2, 0, 0, 0), (54, .invokevirtual 31, 3, 0, 15, 1), (57, .ifCond .ne 32, 3, 0, 0, 0), (60, .aload_n 1, 1, 0, 0, 0), (61, .iload 5, 2, 0, 0, 0), (63, .iload_n 3, 1, 0, 0, 0)]
def amK10_1 : List amEnt := [(64, .invokestatic 35, 3, 1, 11, 3), (67, .istore_n 3, 1, 0, 0, 0), (68, .aload_n 0, 1, 0, 0, 0), (69, .getfield 15, 3, 1, 1, 0), (72, .iload 5, 2, 0, 0, 0), (74, .aload_n 0, 1, 0, 0, 0), (75, .getfield 9, 3, 1, 0, 0), (78, .iload_n 3, 1, 0, 0, 0), (79, .iaload, 1, 0, 0, 0), (80, .iastore, 1, 0, 0, 0), (81, .aload_n 0, 1, 0, 0, 0), (82, .getfield 9, 3, 1, 0, 0), (85, .iload_n 3, 1, 0, 0, 0), (86, .iload 5, 2, 0, 0, 0), (88, .iastore, 1, 0, 0, 0), (89, .iinc 4 1, 3, 0, 0, 0), (92, .goto (-60), 3, 0, 0, 0), (95, .return_, 1, 0, 0, 0)]
def amC10 : List (List amEnt) := [amK10_0, amK10_1]
def amR10 : amRow := (1, yX1_makeFrom, cX1_makeFrom, 6, none, [], 4, 86)
def amK11_0 : List amEnt := [(0, .aload_n 0, 1, 0, 0, 0), (1, .getfield 39, 3, 2, 4, 0), (4, .iload_n 1, 1, 0, 0, 0), (5, .baload, 1, 0, 0, 0), (6, .ifCond .ne 5, 3, 0, 0, 0), (9, .iload_n 1, 1, 0, 0, 0), (10, .ireturn, 1, 0, 0, 0), (11, .aload_n 0, 1, 0, 0, 0), (12, .getfield 43, 3, 2, 3, 0), (15, .iload_n 1, 1, 0, 0, 0), (16, .baload, 1, 0, 0, 0), (17, .ifCond .eq 7, 3, 0, 0, 0), (20, .iload_n 2, 1, 0, 0, 0), (21, .goto 8, 3, 0, 0, 0), (24, .aload_n 0, 1, 0, 0, 0), (25, .iload_n 2, 1, 0, 0, 0), (26, .invokevirtual 46, 3, 0, 23, 1), (29, .ireturn, 1, 0, 0, 0)]
def amC11 : List (List amEnt) := [amK11_0]
def amR11 : amRow := (1, yX1_quotientHere, cX1_quotientHere, 3, (some (.int)), [], 3, 64)
def amK12_0 : List amEnt := [(0, .aload_n 1, 1, 0, 0, 0), (1, .iload_n 2, 1, 0, 0, 0), (2, .invokevirtual 49, 3, 0, 18, 1), (5, .istore_n 3, 1, 0, 0, 0), (6, .aload_n 0, 1, 0, 0, 0), (7, .getfield 9, 3, 1, 0, 0), (10, .aload_n 1, 1, 0, 0, 0), (11, .iload_n 2, 1, 0, 0, 0), (12, .invokevirtual 52, 3, 0, 17, 1), (15, .iaload, 1, 0, 0, 0), (16, .istore 4, 2, 0, 0, 0), (18, .iconst 0, 1, 0, 0, 0), (19, .istore 5, 2, 0, 0, 0), (21, .iconst 0, 1, 0, 0, 0), (22, .istore 6, 2, 0, 0, 0), (24, .iload 6, 2, 0, 0, 0), (26, .sipush 256, 3, 0, 0, 0), (29, .if_icmp .ge 51, 3, 0, 0, 0), (32, .iload 4, 2, 0, 0, 0), (34, .iconst (-1), 1, 0, 0, 0), (35, .if_icmp .eq 45, 3, 0, 0, 0), (38, .iload 5, 2, 0, 0, 0), (40, .aload_n 1, 1, 0, 0, 0), (41, .getfield 55, 3, 2, 0, 0), (44, .iload 4, 2, 0, 0, 0), (46, .iaload, 1, 0, 0, 0), (47, .iload_n 3, 1, 0, 0, 0), (48, .if_icmp .ne 13, 3, 0, 0, 0), (51, .aload_n 1, 1, 0, 0, 0), (52, .getfield 58, 3, 2, 1, 0), (55, .iload 4, 2, 0, 0, 0), (57, .iaload, 1, 0, 0, 0), (58, .goto 4, 3, 0, 0, 0), (61, .iconst 0, 1, 0, 0, 0), (62, .iadd, 1, 0, 0, 0), (63, .istore 5, 2, 0, 0, 0)]
def amK12_1 : List amEnt := [(65, .aload_n 0, 1, 0, 0, 0), (66, .getfield 15, 3, 1, 1, 0), (69, .iload 4, 2, 0, 0, 0), (71, .iaload, 1, 0, 0, 0), (72, .istore 4, 2, 0, 0, 0), (74, .iinc 6 1, 3, 0, 0, 0), (77, .goto (-53), 3, 0, 0, 0), (80, .iload 5, 2, 0, 0, 0), (82, .ireturn, 1, 0, 0, 0)]
def amC12 : List (List amEnt) := [amK12_0, amK12_1]
def amR12 : amRow := (1, yX1_sumFor, cX1_sumFor, 7, (some (.int)), [], 1, 21)
def amK13_0 : List amEnt := [(0, .aload_n 0, 1, 0, 0, 0), (1, .invokespecial 3, 3, 6, 0, 0), (4, .aload_n 0, 1, 0, 0, 0), (5, .sipush 256, 3, 0, 0, 0), (8, .newarray .int, 2, 0, 0, 0), (10, .putfield 9, 3, 2, 0, 0), (13, .aload_n 0, 1, 0, 0, 0), (14, .sipush 256, 3, 0, 0, 0), (17, .newarray .int, 2, 0, 0, 0), (19, .putfield 15, 3, 2, 1, 0), (22, .aload_n 0, 1, 0, 0, 0), (23, .sipush 256, 3, 0, 0, 0), (26, .newarray .boolean, 2, 0, 0, 0), (28, .putfield 18, 3, 2, 2, 0), (31, .aload_n 0, 1, 0, 0, 0), (32, .sipush 256, 3, 0, 0, 0), (35, .newarray .boolean, 2, 0, 0, 0), (37, .putfield 22, 3, 2, 3, 0), (40, .aload_n 0, 1, 0, 0, 0), (41, .sipush 256, 3, 0, 0, 0), (44, .newarray .boolean, 2, 0, 0, 0), (46, .putfield 25, 3, 2, 4, 0), (49, .aload_n 0, 1, 0, 0, 0), (50, .iconst 3, 1, 0, 0, 0), (51, .putfield 28, 3, 2, 5, 0), (54, .return_, 1, 0, 0, 0)]
def amC13 : List (List amEnt) := [amK13_0]
def amR13 : amRow := (2, yX2_init, cX2_init, 1, none, [], 1, 21)
def amK14_0 : List amEnt := [(0, .iconst 1, 1, 0, 0, 0), (1, .aload_n 0, 1, 0, 0, 0), (2, .getfield 28, 3, 2, 5, 0), (5, .ishl, 1, 0, 0, 0), (6, .ireturn, 1, 0, 0, 0)]
def amC14 : List (List amEnt) := [amK14_0]
def amR14 : amRow := (2, yX2_allSlots, cX2_allSlots, 1, (some (.int)), [], 0, 0)
def amK15_0 : List amEnt := [(0, .aload_n 0, 1, 0, 0, 0), (1, .getfield 15, 3, 2, 1, 0), (4, .iload_n 1, 1, 0, 0, 0), (5, .iaload, 1, 0, 0, 0), (6, .ifCond .ne 7, 3, 0, 0, 0), (9, .iconst 1, 1, 0, 0, 0), (10, .goto 4, 3, 0, 0, 0), (13, .iconst 0, 1, 0, 0, 0), (14, .ireturn, 1, 0, 0, 0)]
def amC15 : List (List amEnt) := [amK15_0]
def amR15 : amRow := (2, yX2_isEmpty, cX2_isEmpty, 2, (some (.boolean)), [], 0, 0)
def amK16_0 : List amEnt := [(0, .iload_n 1, 1, 0, 0, 0), (1, .aload_n 0, 1, 0, 0, 0), (2, .invokevirtual 32, 3, 0, 14, 0), (5, .iconst 1, 1, 0, 0, 0), (6, .isub, 1, 0, 0, 0), (7, .iand, 1, 0, 0, 0), (8, .ireturn, 1, 0, 0, 0)]
def amC16 : List (List amEnt) := [amK16_0]
def amR16 : amRow := (2, yX2_wrap, cX2_wrap, 2, (some (.int)), [], 1, 20)
def amK17_0 : List amEnt := [(0, .iload_n 1, 1, 0, 0, 0), (1, .bipush 12, 2, 0, 0, 0), (3, .aload_n 0, 1, 0, 0, 0), (4, .getfield 28, 3, 2, 5, 0), (7, .isub, 1, 0, 0, 0), (8, .ishr, 1, 0, 0, 0), (9, .ireturn, 1, 0, 0, 0)]
def amC17 : List (List amEnt) := [amK17_0]
def amR17 : amRow := (2, yX2_quotientOf, cX2_quotientOf, 2, (some (.int)), [], 0, 0)
def amK18_0 : List amEnt := [(0, .iload_n 1, 1, 0, 0, 0), (1, .iconst 1, 1, 0, 0, 0), (2, .bipush 12, 2, 0, 0, 0), (4, .aload_n 0, 1, 0, 0, 0), (5, .getfield 28, 3, 2, 5, 0), (8, .isub, 1, 0, 0, 0), (9, .ishl, 1, 0, 0, 0), (10, .iconst 1, 1, 0, 0, 0), (11, .isub, 1, 0, 0, 0), (12, .iand, 1, 0, 0, 0), (13, .ireturn, 1, 0, 0, 0)]
def amC18 : List (List amEnt) := [amK18_0]
def amR18 : amRow := (2, yX2_remainderOf, cX2_remainderOf, 2, (some (.int)), [], 0, 0)
def amK19_0 : List amEnt := [(0, .iload_n 1, 1, 0, 0, 0), (1, .bipush 12, 2, 0, 0, 0), (3, .aload_n 0, 1, 0, 0, 0), (4, .getfield 28, 3, 2, 5, 0), (7, .isub, 1, 0, 0, 0), (8, .ishl, 1, 0, 0, 0), (9, .iload_n 2, 1, 0, 0, 0), (10, .ior, 1, 0, 0, 0), (11, .ireturn, 1, 0, 0, 0)]
def amC19 : List (List amEnt) := [amK19_0]
def amR19 : amRow := (2, yX2_fingerprintOf, cX2_fingerprintOf, 3, (some (.int)), [], 0, 0)
def amK20_0 : List amEnt := [(0, .iconst 0, 1, 0, 0, 0), (1, .istore_n 1, 1, 0, 0, 0), (2, .iconst 0, 1, 0, 0, 0), (3, .istore_n 2, 1, 0, 0, 0), (4, .iload_n 2, 1, 0, 0, 0), (5, .aload_n 0, 1, 0, 0, 0), (6, .invokevirtual 32, 3, 0, 14, 0), (9, .if_icmp .ge 25, 3, 0, 0, 0), (12, .iload_n 1, 1, 0, 0, 0), (13, .aload_n 0, 1, 0, 0, 0), (14, .iload_n 2, 1, 0, 0, 0), (15, .invokevirtual 36, 3, 0, 15, 1), (18, .ifCond .eq 7, 3, 0, 0, 0), (21, .iconst 0, 1, 0, 0, 0), (22, .goto 4, 3, 0, 0, 0), (25, .iconst 1, 1, 0, 0, 0), (26, .iadd, 1, 0, 0, 0), (27, .istore_n 1, 1, 0, 0, 0), (28, .iinc 2 1, 3, 0, 0, 0), (31, .goto (-27), 3, 0, 0, 0), (34, .iload_n 1, 1, 0, 0, 0), (35, .ireturn, 1, 0, 0, 0)]
def amC20 : List (List amEnt) := [amK20_0]
def amR20 : amRow := (2, yX2_usedSlots, cX2_usedSlots, 3, (some (.int)), [], 1, 21)
def amK21_0 : List amEnt := [(0, .iconst 0, 1, 0, 0, 0), (1, .istore_n 1, 1, 0, 0, 0), (2, .iconst 0, 1, 0, 0, 0), (3, .istore_n 2, 1, 0, 0, 0), (4, .iload_n 2, 1, 0, 0, 0), (5, .aload_n 0, 1, 0, 0, 0), (6, .invokevirtual 32, 3, 0, 14, 0), (9, .if_icmp .ge 18, 3, 0, 0, 0), (12, .iload_n 1, 1, 0, 0, 0), (13, .aload_n 0, 1, 0, 0, 0), (14, .getfield 15, 3, 2, 1, 0), (17, .iload_n 2, 1, 0, 0, 0), (18, .iaload, 1, 0, 0, 0), (19, .iadd, 1, 0, 0, 0), (20, .istore_n 1, 1, 0, 0, 0), (21, .iinc 2 1, 3, 0, 0, 0), (24, .goto (-20), 3, 0, 0, 0), (27, .iload_n 1, 1, 0, 0, 0), (28, .ireturn, 1, 0, 0, 0)]
def amC21 : List (List amEnt) := [amK21_0]
def amR21 : amRow := (2, yX2_sumOfCounters, cX2_sumOfCounters, 3, (some (.int)), [], 1, 20)
def amK22_0 : List amEnt := [(0, .iconst 0, 1, 0, 0, 0), (1, .istore_n 1, 1, 0, 0, 0), (2, .iload_n 1, 1, 0, 0, 0), (3, .aload_n 0, 1, 0, 0, 0), (4, .invokevirtual 32, 3, 0, 14, 0), (7, .iconst 1, 1, 0, 0, 0), (8, .isub, 1, 0, 0, 0), (9, .if_icmp .ge 17, 3, 0, 0, 0), (12, .aload_n 0, 1, 0, 0, 0), (13, .iload_n 1, 1, 0, 0, 0), (14, .invokevirtual 36, 3, 0, 15, 1), (17, .ifCond .ne 9, 3, 0, 0, 0), (20, .iinc 1 1, 3, 0, 0, 0), (23, .goto (-21), 3, 0, 0, 0), (26, .iload_n 1, 1, 0, 0, 0), (27, .ireturn, 1, 0, 0, 0)]
def amC22 : List (List amEnt) := [amK22_0]
def amR22 : amRow := (2, yX2_someEmptySlot, cX2_someEmptySlot, 2, (some (.int)), [], 1, 21)
def amK23_0 : List amEnt := [(0, .iconst 1, 1, 0, 0, 0), (1, .istore_n 2, 1, 0, 0, 0), (2, .iload_n 2, 1, 0, 0, 0), (3, .aload_n 0, 1, 0, 0, 0), (4, .invokevirtual 32, 3, 0, 14, 0), (7, .if_icmp .ge 28, 3, 0, 0, 0), (10, .aload_n 0, 1, 0, 0, 0), (11, .iload_n 1, 1, 0, 0, 0), (12, .iload_n 2, 1, 0, 0, 0), (13, .iadd, 1, 0, 0, 0), (14, .invokevirtual 40, 3, 0, 16, 1), (17, .istore_n 3, 1, 0, 0, 0), (18, .aload_n 0, 1, 0, 0, 0), (19, .getfield 18, 3, 2, 2, 0), (22, .iload_n 3, 1, 0, 0, 0), (23, .baload, 1, 0, 0, 0), (24, .ifCond .eq 5, 3, 0, 0, 0), (27, .iload_n 3, 1, 0, 0, 0), (28, .ireturn, 1, 0, 0, 0), (29, .iinc 2 1, 3, 0, 0, 0), (32, .goto (-30), 3, 0, 0, 0), (35, .iload_n 1, 1, 0, 0, 0), (36, .ireturn, 1, 0, 0, 0)]
def amC23 : List (List amEnt) := [amK23_0]
def amR23 : amRow := (2, yX2_occupiedAfter, cX2_occupiedAfter, 4, (some (.int)), [], 2, 41)
def amK24_0 : List amEnt := [(0, .iload_n 1, 1, 0, 0, 0), (1, .istore_n 2, 1, 0, 0, 0), (2, .iconst 0, 1, 0, 0, 0), (3, .istore_n 3, 1, 0, 0, 0), (4, .iload_n 3, 1, 0, 0, 0), (5, .aload_n 0, 1, 0, 0, 0), (6, .invokevirtual 32, 3, 0, 14, 0), (9, .if_icmp .ge 26, 3, 0, 0, 0), (12, .aload_n 0, 1, 0, 0, 0), (13, .getfield 25, 3, 2, 4, 0), (16, .iload_n 2, 1, 0, 0, 0), (17, .baload, 1, 0, 0, 0), (18, .ifCond .eq 17, 3, 0, 0, 0), (21, .aload_n 0, 1, 0, 0, 0), (22, .iload_n 2, 1, 0, 0, 0), (23, .iconst 1, 1, 0, 0, 0), (24, .isub, 1, 0, 0, 0), (25, .invokevirtual 40, 3, 0, 16, 1), (28, .istore_n 2, 1, 0, 0, 0), (29, .iinc 3 1, 3, 0, 0, 0), (32, .goto (-28), 3, 0, 0, 0), (35, .iload_n 2, 1, 0, 0, 0), (36, .ireturn, 1, 0, 0, 0)]
def amC24 : List (List amEnt) := [amK24_0]
def amR24 : amRow := (2, yX2_firstOfCluster, cX2_firstOfCluster, 4, (some (.int)), [], 2, 41)
def amK25_0 : List amEnt := [(0, .aload_n 0, 1, 0, 0, 0), (1, .getfield 18, 3, 2, 2, 0), (4, .iload_n 1, 1, 0, 0, 0), (5, .baload, 1, 0, 0, 0), (6, .ifCond .ne 5, 3, 0, 0, 0), (9, .iconst (-1), 1, 0, 0, 0), (10, .ireturn, 1, 0, 0, 0), (11, .aload_n 0, 1, 0, 0, 0), (12, .iload_n 1, 1, 0, 0, 0), (13, .invokevirtual 44, 3, 0, 24, 1), (16, .istore_n 2, 1, 0, 0, 0), (17, .iload_n 2, 1, 0, 0, 0), (18, .istore_n 3, 1, 0, 0, 0), (19, .iconst 0, 1, 0, 0, 0), (20, .istore 4, 2, 0, 0, 0), (22, .iload 4, 2, 0, 0, 0), (24, .aload_n 0, 1, 0, 0, 0), (25, .invokevirtual 32, 3, 0, 14, 0), (28, .if_icmp .ge 32, 3, 0, 0, 0), (31, .iload_n 3, 1, 0, 0, 0), (32, .iload_n 1, 1, 0, 0, 0), (33, .if_icmp .eq 27, 3, 0, 0, 0), (36, .aload_n 0, 1, 0, 0, 0), (37, .iload_n 2, 1, 0, 0, 0), (38, .aload_n 0, 1, 0, 0, 0), (39, .iload_n 2, 1, 0, 0, 0), (40, .invokevirtual 47, 3, 0, 26, 1), (43, .iadd, 1, 0, 0, 0), (44, .invokevirtual 40, 3, 0, 16, 1), (47, .istore_n 2, 1, 0, 0, 0), (48, .aload_n 0, 1, 0, 0, 0), (49, .iload_n 3, 1, 0, 0, 0), (50, .invokevirtual 50, 3, 0, 23, 1), (53, .istore_n 3, 1, 0, 0, 0), (54, .iinc 4 1, 3, 0, 0, 0), (57, .goto (-35), 3, 0, 0, 0), (60, .iload_n 2, 1, 0, 0, 0), (61, .ireturn, 1, 0, 0, 0)]
def amC25 : List (List amEnt) := [amK25_0]
def amR25 : amRow := (2, yX2_firstOfRun, cX2_firstOfRun, 5, (some (.int)), [], 3, 64)
def amK26_0 : List amEnt := [(0, .iconst 1, 1, 0, 0, 0), (1, .istore_n 2, 1, 0, 0, 0), (2, .iload_n 2, 1, 0, 0, 0), (3, .aload_n 0, 1, 0, 0, 0), (4, .invokevirtual 32, 3, 0, 14, 0), (7, .if_icmp .ge 24, 3, 0, 0, 0), (10, .aload_n 0, 1, 0, 0, 0), (11, .getfield 22, 3, 2, 3, 0), (14, .aload_n 0, 1, 0, 0, 0), (15, .iload_n 1, 1, 0, 0, 0), (16, .iload_n 2, 1, 0, 0, 0), (17, .iadd, 1, 0, 0, 0), (18, .invokevirtual 40, 3, 0, 16, 1), (21, .baload, 1, 0, 0, 0), (22, .ifCond .eq 9, 3, 0, 0, 0), (25, .iinc 2 1, 3, 0, 0, 0), (28, .goto (-26), 3, 0, 0, 0), (31, .iload_n 2, 1, 0, 0, 0), (32, .ireturn, 1, 0, 0, 0)]
def amC26 : List (List amEnt) := [amK26_0]
def amR26 : amRow := (2, yX2_lengthOfRun, cX2_lengthOfRun, 3, (some (.int)), [], 2, 41)
def amK27_0 : List amEnt := [(0, .aload_n 0, 1, 0, 0, 0), (1, .iload_n 1, 1, 0, 0, 0), (2, .invokevirtual 44, 3, 0, 24, 1), (5, .istore_n 2, 1, 0, 0, 0), (6, .iload_n 2, 1, 0, 0, 0), (7, .istore_n 3, 1, 0, 0, 0), (8, .iconst 0, 1, 0, 0, 0), (9, .istore 4, 2, 0, 0, 0), (11, .iload 4, 2, 0, 0, 0), (13, .aload_n 0, 1, 0, 0, 0), (14, .invokevirtual 32, 3, 0, 14, 0), (17, .if_icmp .ge 37, 3, 0, 0, 0), (20, .iload_n 2, 1, 0, 0, 0), (21, .iload_n 1, 1, 0, 0, 0), (22, .if_icmp .eq 32, 3, 0, 0, 0), (25, .aload_n 0, 1, 0, 0, 0), (26, .iload_n 2, 1, 0, 0, 0), (27, .iconst 1, 1, 0, 0, 0), (28, .iadd, 1, 0, 0, 0), (29, .invokevirtual 40, 3, 0, 16, 1), (32, .istore_n 2, 1, 0, 0, 0), (33, .aload_n 0, 1, 0, 0, 0), (34, .getfield 22, 3, 2, 3, 0), (37, .iload_n 2, 1, 0, 0, 0), (38, .baload, 1, 0, 0, 0), (39, .ifCond .ne 9, 3, 0, 0, 0), (42, .aload_n 0, 1, 0, 0, 0), (43, .iload_n 3, 1, 0, 0, 0), (44, .invokevirtual 50, 3, 0, 23, 1), (47, .istore_n 3, 1, 0, 0, 0), (48, .iinc 4 1, 3, 0, 0, 0), (51, .goto (-40), 3, 0, 0, 0), (54, .iload_n 3, 1, 0, 0, 0), (55, .ireturn, 1, 0, 0, 0)]
def amC27 : List (List amEnt) := [amK27_0]
def amR27 : amRow := (2, yX2_quotientOfEntry, cX2_quotientOfEntry, 5, (some (.int)), [], 3, 64)
def amK28_0 : List amEnt := [(0, .aload_n 0, 1, 0, 0, 0), (1, .aload_n 0, 1, 0, 0, 0), (2, .iload_n 1, 1, 0, 0, 0), (3, .invokevirtual 53, 3, 0, 17, 1), (6, .invokevirtual 56, 3, 0, 25, 1), (9, .istore_n 2, 1, 0, 0, 0), (10, .iload_n 2, 1, 0, 0, 0), (11, .iconst (-1), 1, 0, 0, 0), (12, .if_icmp .ne 5, 3, 0, 0, 0), (15, .iconst 0, 1, 0, 0, 0), (16, .ireturn, 1, 0, 0, 0), (17, .aload_n 0, 1, 0, 0, 0), (18, .iload_n 1, 1, 0, 0, 0), (19, .invokevirtual 59, 3, 0, 18, 1), (22, .istore_n 3, 1, 0, 0, 0), (23, .aload_n 0, 1, 0, 0, 0), (24, .iload_n 2, 1, 0, 0, 0), (25, .invokevirtual 47, 3, 0, 26, 1), (28, .istore 4, 2, 0, 0, 0), (30, .iconst 0, 1, 0, 0, 0), (31, .istore 5, 2, 0, 0, 0), (33, .iconst 0, 1, 0, 0, 0), (34, .istore 6, 2, 0, 0, 0), (36, .iload 6, 2, 0, 0, 0), (38, .iload 4, 2, 0, 0, 0), (40, .if_icmp .ge 46, 3, 0, 0, 0), (43, .aload_n 0, 1, 0, 0, 0), (44, .iload_n 2, 1, 0, 0, 0), (45, .iload 6, 2, 0, 0, 0), (47, .iadd, 1, 0, 0, 0), (48, .invokevirtual 40, 3, 0, 16, 1), (51, .istore 7, 2, 0, 0, 0), (53, .iload 5, 2, 0, 0, 0), (55, .aload_n 0, 1, 0, 0, 0), (56, .getfield 9, 3, 2, 0, 0), (59, .iload 7, 2, 0, 0, 0), (61, .iaload, 1, 0, 0, 0), (62, .iload_n 3, 1, 0, 0, 0), (63, .if_icmp .ne 13, 3, 0, 0, 0)]
def amK28_1 : List amEnt := [(66, .aload_n 0, 1, 0, 0, 0), (67, .getfield 15, 3, 2, 1, 0), (70, .iload 7, 2, 0, 0, 0), (72, .iaload, 1, 0, 0, 0), (73, .goto 4, 3, 0, 0, 0), (76, .iconst 0, 1, 0, 0, 0), (77, .iadd, 1, 0, 0, 0), (78, .istore 5, 2, 0, 0, 0), (80, .iinc 6 1, 3, 0, 0, 0), (83, .goto (-47), 3, 0, 0, 0), (86, .iload 5, 2, 0, 0, 0), (88, .ireturn, 1, 0, 0, 0)]
def amC28 : List (List amEnt) := [amK28_0, amK28_1]
def amR28 : amRow := (2, yX2_countInRun, cX2_countInRun, 8, (some (.int)), [], 4, 88)
def amK29_0 : List amEnt := [(0, .aload_n 0, 1, 0, 0, 0), (1, .aload_n 0, 1, 0, 0, 0), (2, .iload_n 1, 1, 0, 0, 0), (3, .invokevirtual 53, 3, 0, 17, 1), (6, .invokevirtual 56, 3, 0, 25, 1), (9, .istore_n 2, 1, 0, 0, 0), (10, .iload_n 2, 1, 0, 0, 0), (11, .iconst (-1), 1, 0, 0, 0), (12, .if_icmp .ne 5, 3, 0, 0, 0), (15, .iconst 0, 1, 0, 0, 0), (16, .ireturn, 1, 0, 0, 0), (17, .aload_n 0, 1, 0, 0, 0), (18, .iload_n 1, 1, 0, 0, 0), (19, .invokevirtual 59, 3, 0, 18, 1), (22, .istore_n 3, 1, 0, 0, 0), (23, .aload_n 0, 1, 0, 0, 0), (24, .iload_n 2, 1, 0, 0, 0), (25, .invokevirtual 47, 3, 0, 26, 1), (28, .istore 4, 2, 0, 0, 0), (30, .iconst 0, 1, 0, 0, 0), (31, .istore 5, 2, 0, 0, 0), (33, .iload 5, 2, 0, 0, 0), (35, .iload 4, 2, 0, 0, 0), (37, .if_icmp .ge 31, 3, 0, 0, 0), (40, .aload_n 0, 1, 0, 0, 0), (41, .getfield 9, 3, 2, 0, 0), (44, .aload_n 0, 1, 0, 0, 0), (45, .iload_n 2, 1, 0, 0, 0), (46, .iload 5, 2, 0, 0, 0), (48, .iadd, 1, 0, 0, 0), (49, .invokevirtual 40, 3, 0, 16, 1), (52, .iaload, 1, 0, 0, 0), (53, .iload_n 3, 1, 0, 0, 0), (54, .if_icmp .lt 8, 3, 0, 0, 0), (57, .iload 5, 2, 0, 0, 0), (59, .iconst 1, 1, 0, 0, 0), (60, .iadd, 1, 0, 0, 0), (61, .ireturn, 1, 0, 0, 0), (62, .iinc 5 1, 3, 0, 0, 0)]
def amK29_1 : List amEnt := [(65, .goto (-32), 3, 0, 0, 0), (68, .iload 4, 2, 0, 0, 0), (70, .ireturn, 1, 0, 0, 0)]
def amC29 : List (List amEnt) := [amK29_0, amK29_1]
def amR29 : amRow := (2, yX2_looksFor, cX2_looksFor, 6, (some (.int)), [], 4, 88)
def amK30_0 : List amEnt := [(0, .aload_n 0, 1, 0, 0, 0), (1, .invokevirtual 62, 3, 0, 22, 0), (4, .istore_n 1, 1, 0, 0, 0), (5, .iconst 0, 1, 0, 0, 0), (6, .istore_n 2, 1, 0, 0, 0), (7, .iconst 0, 1, 0, 0, 0), (8, .istore_n 3, 1, 0, 0, 0), (9, .iconst 0, 1, 0, 0, 0), (10, .istore 4, 2, 0, 0, 0), (12, .iload 4, 2, 0, 0, 0), (14, .aload_n 0, 1, 0, 0, 0), (15, .invokevirtual 32, 3, 0, 14, 0), (18, .if_icmp .ge 52, 3, 0, 0, 0), (21, .aload_n 0, 1, 0, 0, 0), (22, .iload_n 1, 1, 0, 0, 0), (23, .iload 4, 2, 0, 0, 0), (25, .iadd, 1, 0, 0, 0), (26, .invokevirtual 40, 3, 0, 16, 1), (29, .istore 5, 2, 0, 0, 0), (31, .aload_n 0, 1, 0, 0, 0), (32, .iload 5, 2, 0, 0, 0), (34, .invokevirtual 36, 3, 0, 15, 1), (37, .ifCond .ne 27, 3, 0, 0, 0), (40, .aload_n 0, 1, 0, 0, 0), (41, .getfield 25, 3, 2, 4, 0), (44, .iload 5, 2, 0, 0, 0), (46, .baload, 1, 0, 0, 0), (47, .ifCond .eq 9, 3, 0, 0, 0), (50, .iload_n 3, 1, 0, 0, 0), (51, .iconst 1, 1, 0, 0, 0), (52, .iadd, 1, 0, 0, 0), (53, .goto 4, 3, 0, 0, 0), (56, .iconst 1, 1, 0, 0, 0), (57, .istore_n 3, 1, 0, 0, 0), (58, .iload_n 2, 1, 0, 0, 0), (59, .iload_n 3, 1, 0, 0, 0), (60, .invokestatic 65, 3, 4, 0, 2), (63, .istore_n 2, 1, 0, 0, 0)]
def amK30_1 : List amEnt := [(64, .iinc 4 1, 3, 0, 0, 0), (67, .goto (-55), 3, 0, 0, 0), (70, .iload_n 2, 1, 0, 0, 0), (71, .ireturn, 1, 0, 0, 0)]
def amC30 : List (List amEnt) := [amK30_0, amK30_1]
def amR30 : amRow := (2, yX2_lengthOfLongestCluster, cX2_lengthOfLongestCluster, 6, (some (.int)), [], 2, 42)
def amK31_0 : List amEnt := [(0, .aload_n 1, 1, 0, 0, 0), (1, .invokevirtual 71, 3, 0, 1, 0), (4, .aload_n 0, 1, 0, 0, 0), (5, .invokevirtual 32, 3, 0, 14, 0), (8, .iconst 1, 1, 0, 0, 0), (9, .isub, 1, 0, 0, 0), (10, .istore_n 2, 1, 0, 0, 0), (11, .aload_n 0, 1, 0, 0, 0), (12, .aload_n 0, 1, 0, 0, 0), (13, .iload_n 2, 1, 0, 0, 0), (14, .invokevirtual 50, 3, 0, 23, 1), (17, .invokevirtual 56, 3, 0, 25, 1), (20, .istore_n 3, 1, 0, 0, 0), (21, .iload_n 3, 1, 0, 0, 0), (22, .iconst (-1), 1, 0, 0, 0), (23, .if_icmp .ne 4, 3, 0, 0, 0), (26, .return_, 1, 0, 0, 0), (27, .iconst 0, 1, 0, 0, 0), (28, .istore 4, 2, 0, 0, 0), (30, .iload 4, 2, 0, 0, 0), (32, .aload_n 0, 1, 0, 0, 0), (33, .invokevirtual 32, 3, 0, 14, 0), (36, .if_icmp .ge 71, 3, 0, 0, 0), (39, .aload_n 0, 1, 0, 0, 0), (40, .iload_n 3, 1, 0, 0, 0), (41, .iload 4, 2, 0, 0, 0), (43, .iadd, 1, 0, 0, 0), (44, .invokevirtual 40, 3, 0, 16, 1), (47, .istore 5, 2, 0, 0, 0), (49, .aload_n 0, 1, 0, 0, 0), (50, .iload 5, 2, 0, 0, 0), (52, .invokevirtual 36, 3, 0, 15, 1), (55, .ifCond .ne 46, 3, 0, 0, 0), (58, .aload_n 0, 1, 0, 0, 0), (59, .getfield 22, 3, 2, 3, 0), (62, .iload 5, 2, 0, 0, 0)]
def amK31_1 : List amEnt := [(64, .baload, 1, 0, 0, 0), (65, .ifCond .eq 7, 3, 0, 0, 0), (68, .iload_n 2, 1, 0, 0, 0), (69, .goto 8, 3, 0, 0, 0), (72, .aload_n 0, 1, 0, 0, 0), (73, .iload_n 2, 1, 0, 0, 0), (74, .invokevirtual 50, 3, 0, 23, 1), (77, .istore_n 2, 1, 0, 0, 0), (78, .aload_n 1, 1, 0, 0, 0), (79, .aload_n 0, 1, 0, 0, 0), (80, .iload_n 2, 1, 0, 0, 0), (81, .aload_n 0, 1, 0, 0, 0), (82, .getfield 9, 3, 2, 0, 0), (85, .iload 5, 2, 0, 0, 0), (87, .iaload, 1, 0, 0, 0), (88, .invokevirtual 76, 3, 0, 19, 2), (91, .aload_n 0, 1, 0, 0, 0), (92, .getfield 15, 3, 2, 1, 0), (95, .iload 5, 2, 0, 0, 0), (97, .iaload, 1, 0, 0, 0), (98, .invokevirtual 79, 3, 0, 2, 2), (101, .iinc 4 1, 3, 0, 0, 0), (104, .goto (-74), 3, 0, 0, 0), (107, .return_, 1, 0, 0, 0)]
def amC31 : List (List amEnt) := [amK31_0, amK31_1]
def amR31 : amRow := (2, yX2_readInto, cX2_readInto, 6, none, [], 4, 88)
def amK32_0 : List amEnt := [(0, .iconst 0, 1, 0, 0, 0), (1, .istore_n 1, 1, 0, 0, 0), (2, .iload_n 1, 1, 0, 0, 0), (3, .sipush 256, 3, 0, 0, 0), (6, .if_icmp .ge 44, 3, 0, 0, 0), (9, .aload_n 0, 1, 0, 0, 0), (10, .getfield 9, 3, 2, 0, 0), (13, .iload_n 1, 1, 0, 0, 0), (14, .iconst 0, 1, 0, 0, 0), (15, .iastore, 1, 0, 0, 0), (16, .aload_n 0, 1, 0, 0, 0), (17, .getfield 15, 3, 2, 1, 0), (20, .iload_n 1, 1, 0, 0, 0), (21, .iconst 0, 1, 0, 0, 0), (22, .iastore, 1, 0, 0, 0), (23, .aload_n 0, 1, 0, 0, 0), (24, .getfield 18, 3, 2, 2, 0), (27, .iload_n 1, 1, 0, 0, 0), (28, .iconst 0, 1, 0, 0, 0), (29, .bastore, 1, 0, 0, 0), (30, .aload_n 0, 1, 0, 0, 0), (31, .getfield 22, 3, 2, 3, 0), (34, .iload_n 1, 1, 0, 0, 0), (35, .iconst 0, 1, 0, 0, 0), (36, .bastore, 1, 0, 0, 0), (37, .aload_n 0, 1, 0, 0, 0), (38, .getfield 25, 3, 2, 4, 0), (41, .iload_n 1, 1, 0, 0, 0), (42, .iconst 0, 1, 0, 0, 0), (43, .bastore, 1, 0, 0, 0), (44, .iinc 1 1, 3, 0, 0, 0), (47, .goto (-45), 3, 0, 0, 0), (50, .return_, 1, 0, 0, 0)]
def amC32 : List (List amEnt) := [amK32_0]
def amR32 : amRow := (2, yX2_wipe, cX2_wipe, 2, none, [], 0, 0)
def amK33_0 : List amEnt := [(0, .aload_n 0, 1, 0, 0, 0), (1, .invokevirtual 83, 3, 0, 32, 0), (4, .aload_n 0, 1, 0, 0, 0), (5, .iload_n 1, 1, 0, 0, 0), (6, .putfield 28, 3, 2, 5, 0), (9, .iconst 0, 1, 0, 0, 0), (10, .aload_n 0, 1, 0, 0, 0), (11, .aload_n 2, 1, 0, 0, 0), (12, .invokevirtual 86, 3, 0, 34, 1), (15, .aload_n 0, 1, 0, 0, 0), (16, .invokevirtual 32, 3, 0, 14, 0), (19, .isub, 1, 0, 0, 0), (20, .invokestatic 65, 3, 4, 0, 2), (23, .istore_n 3, 1, 0, 0, 0), (24, .iconst 0, 1, 0, 0, 0), (25, .istore 4, 2, 0, 0, 0), (27, .iload 4, 2, 0, 0, 0), (29, .aload_n 2, 1, 0, 0, 0), (30, .getfield 90, 3, 0, 2, 0), (33, .if_icmp .ge 57, 3, 0, 0, 0), (36, .iload_n 3, 1, 0, 0, 0), (37, .aload_n 0, 1, 0, 0, 0), (38, .aload_n 2, 1, 0, 0, 0), (39, .getfield 93, 3, 0, 0, 0), (42, .iload 4, 2, 0, 0, 0), (44, .iaload, 1, 0, 0, 0), (45, .invokevirtual 53, 3, 0, 17, 1), (48, .invokestatic 65, 3, 4, 0, 2), (51, .istore_n 3, 1, 0, 0, 0), (52, .aload_n 0, 1, 0, 0, 0), (53, .iload_n 3, 1, 0, 0, 0), (54, .aload_n 2, 1, 0, 0, 0), (55, .getfield 93, 3, 0, 0, 0), (58, .iload 4, 2, 0, 0, 0), (60, .iaload, 1, 0, 0, 0), (61, .aload_n 2, 1, 0, 0, 0), (62, .getfield 96, 3, 0, 1, 0)]
def amK33_1 : List amEnt := [(65, .iload 4, 2, 0, 0, 0), (67, .iaload, 1, 0, 0, 0), (68, .invokevirtual 99, 3, 0, 35, 3), (71, .iload_n 3, 1, 0, 0, 0), (72, .aload_n 2, 1, 0, 0, 0), (73, .getfield 96, 3, 0, 1, 0), (76, .iload 4, 2, 0, 0, 0), (78, .iaload, 1, 0, 0, 0), (79, .invokestatic 103, 3, 2, 73, 1), (82, .iadd, 1, 0, 0, 0), (83, .istore_n 3, 1, 0, 0, 0), (84, .iinc 4 1, 3, 0, 0, 0), (87, .goto (-60), 3, 0, 0, 0), (90, .return_, 1, 0, 0, 0)]
def amC33 : List (List amEnt) := [amK33_0, amK33_1]
def amR33 : amRow := (2, yX2_fill, cX2_fill, 5, none, [], 3, 68)
def amK34_0 : List amEnt := [(0, .iconst 0, 1, 0, 0, 0), (1, .istore_n 2, 1, 0, 0, 0), (2, .iconst 0, 1, 0, 0, 0), (3, .istore_n 3, 1, 0, 0, 0), (4, .iload_n 3, 1, 0, 0, 0), (5, .aload_n 1, 1, 0, 0, 0), (6, .getfield 90, 3, 0, 2, 0), (9, .if_icmp .ge 34, 3, 0, 0, 0), (12, .iload_n 2, 1, 0, 0, 0), (13, .aload_n 0, 1, 0, 0, 0), (14, .aload_n 1, 1, 0, 0, 0), (15, .getfield 93, 3, 0, 0, 0), (18, .iload_n 3, 1, 0, 0, 0), (19, .iaload, 1, 0, 0, 0), (20, .invokevirtual 53, 3, 0, 17, 1), (23, .invokestatic 65, 3, 4, 0, 2), (26, .aload_n 1, 1, 0, 0, 0), (27, .getfield 96, 3, 0, 1, 0), (30, .iload_n 3, 1, 0, 0, 0), (31, .iaload, 1, 0, 0, 0), (32, .invokestatic 103, 3, 2, 73, 1), (35, .iadd, 1, 0, 0, 0), (36, .istore_n 2, 1, 0, 0, 0), (37, .iinc 3 1, 3, 0, 0, 0), (40, .goto (-36), 3, 0, 0, 0), (43, .iload_n 2, 1, 0, 0, 0), (44, .ireturn, 1, 0, 0, 0)]
def amC34 : List (List amEnt) := [amK34_0]
def amR34 : amRow := (2, yX2_endInLine, cX2_endInLine, 4, (some (.int)), [], 1, 21)
def amK35_0 : List amEnt := [(0, .aload_n 0, 1, 0, 0, 0), (1, .iload_n 2, 1, 0, 0, 0), (2, .invokevirtual 53, 3, 0, 17, 1), (5, .istore 4, 2, 0, 0, 0), (7, .iload_n 1, 1, 0, 0, 0), (8, .istore 5, 2, 0, 0, 0), (10, .iload_n 3, 1, 0, 0, 0), (11, .istore 6, 2, 0, 0, 0), (13, .iload 6, 2, 0, 0, 0), (15, .ifCond .le 87, 3, 0, 0, 0), (18, .aload_n 0, 1, 0, 0, 0), (19, .iload 5, 2, 0, 0, 0), (21, .invokevirtual 40, 3, 0, 16, 1), (24, .istore 7, 2, 0, 0, 0), (26, .aload_n 0, 1, 0, 0, 0), (27, .getfield 9, 3, 2, 0, 0), (30, .iload 7, 2, 0, 0, 0), (32, .aload_n 0, 1, 0, 0, 0), (33, .iload_n 2, 1, 0, 0, 0), (34, .invokevirtual 59, 3, 0, 18, 1), (37, .iastore, 1, 0, 0, 0), (38, .aload_n 0, 1, 0, 0, 0), (39, .getfield 15, 3, 2, 1, 0), (42, .iload 7, 2, 0, 0, 0), (44, .iload 6, 2, 0, 0, 0), (46, .bipush 7, 2, 0, 0, 0), (48, .invokestatic 106, 3, 5, 0, 2), (51, .iastore, 1, 0, 0, 0), (52, .aload_n 0, 1, 0, 0, 0), (53, .getfield 22, 3, 2, 3, 0), (56, .iload 7, 2, 0, 0, 0), (58, .aload_n 0, 1, 0, 0, 0), (59, .getfield 18, 3, 2, 2, 0), (62, .iload 4, 2, 0, 0, 0)]
def amK35_1 : List amEnt := [(64, .baload, 1, 0, 0, 0), (65, .bastore, 1, 0, 0, 0), (66, .aload_n 0, 1, 0, 0, 0), (67, .getfield 25, 3, 2, 4, 0), (70, .iload 7, 2, 0, 0, 0), (72, .iload 7, 2, 0, 0, 0), (74, .iload 4, 2, 0, 0, 0), (76, .if_icmp .eq 7, 3, 0, 0, 0), (79, .iconst 1, 1, 0, 0, 0), (80, .goto 4, 3, 0, 0, 0), (83, .iconst 0, 1, 0, 0, 0), (84, .bastore, 1, 0, 0, 0), (85, .aload_n 0, 1, 0, 0, 0), (86, .getfield 18, 3, 2, 2, 0), (89, .iload 4, 2, 0, 0, 0), (91, .iconst 1, 1, 0, 0, 0), (92, .bastore, 1, 0, 0, 0), (93, .iinc 5 1, 3, 0, 0, 0), (96, .iinc 6 (-7), 3, 0, 0, 0), (99, .goto (-86), 3, 0, 0, 0), (102, .return_, 1, 0, 0, 0)]
def amC35 : List (List amEnt) := [amK35_0, amK35_1]
def amR35 : amRow := (2, yX2_writeEntries, cX2_writeEntries, 8, none, [], 2, 41)
def amK36_0 : List amEnt := [(0, .aload_n 0, 1, 0, 0, 0), (1, .invokespecial 3, 3, 6, 0, 0), (4, .aload_n 0, 1, 0, 0, 0), (5, .iconst 4, 1, 0, 0, 0), (6, .anewarray 9, 3, 0, 2, 0), (9, .putfield 11, 3, 3, 0, 0), (12, .iconst 0, 1, 0, 0, 0), (13, .istore_n 1, 1, 0, 0, 0), (14, .iload_n 1, 1, 0, 0, 0), (15, .aload_n 0, 1, 0, 0, 0), (16, .getfield 11, 3, 3, 0, 0), (19, .arraylength, 1, 0, 0, 0), (20, .if_icmp .ge 22, 3, 0, 0, 0), (23, .aload_n 0, 1, 0, 0, 0), (24, .getfield 11, 3, 3, 0, 0), (27, .iload_n 1, 1, 0, 0, 0), (28, .new 9, 3, 0, 2, 0), (31, .dup, 1, 0, 0, 0), (32, .invokespecial 15, 3, 3, 13, 0), (35, .aastore, 1, 0, 0, 0), (36, .iinc 1 1, 3, 0, 0, 0), (39, .goto (-25), 3, 0, 0, 0), (42, .aload_n 0, 1, 0, 0, 0), (43, .new 16, 3, 0, 0, 0), (46, .dup, 1, 0, 0, 0), (47, .invokespecial 18, 3, 3, 0, 0), (50, .putfield 19, 3, 3, 1, 0), (53, .aload_n 0, 1, 0, 0, 0), (54, .new 16, 3, 0, 0, 0), (57, .dup, 1, 0, 0, 0), (58, .invokespecial 18, 3, 3, 0, 0), (61, .putfield 23, 3, 3, 2, 0)]
def amK36_1 : List amEnt := [(64, .aload_n 0, 1, 0, 0, 0), (65, .new 16, 3, 0, 0, 0), (68, .dup, 1, 0, 0, 0), (69, .invokespecial 18, 3, 3, 0, 0), (72, .putfield 26, 3, 3, 3, 0), (75, .aload_n 0, 1, 0, 0, 0), (76, .new 29, 3, 0, 1, 0), (79, .dup, 1, 0, 0, 0), (80, .invokespecial 31, 3, 3, 9, 0), (83, .putfield 32, 3, 3, 4, 0), (86, .return_, 1, 0, 0, 0)]
def amC36 : List (List amEnt) := [amK36_0, amK36_1]
def amR36 : amRow := (3, yX3_init, cX3_init, 2, none, [], 2, 41)
def amK37_0 : List amEnt := [(0, .iload_n 1, 1, 0, 0, 0), (1, .ldc 36, 2, 0, 0, (-1640531527)), (3, .imul, 1, 0, 0, 0), (4, .bipush 20, 2, 0, 0, 0), (6, .iushr, 1, 0, 0, 0), (7, .ireturn, 1, 0, 0, 0)]
def amC37 : List (List amEnt) := [amK37_0]
def amR37 : amRow := (3, yX3_fingerprint, cX3_fingerprint, 2, (some (.int)), [], 0, 0)
def amK38_0 : List amEnt := [(0, .aload_n 0, 1, 0, 0, 0), (1, .iload_n 1, 1, 0, 0, 0), (2, .invokevirtual 37, 3, 0, 67, 1), (5, .astore_n 3, 1, 0, 0, 0), (6, .aload_n 0, 1, 0, 0, 0), (7, .aload_n 3, 1, 0, 0, 0), (8, .aload_n 0, 1, 0, 0, 0), (9, .iload_n 2, 1, 0, 0, 0), (10, .invokevirtual 41, 3, 0, 37, 1), (13, .iconst 1, 1, 0, 0, 0), (14, .invokevirtual 45, 3, 0, 74, 3), (17, .ireturn, 1, 0, 0, 0)]
def amC38 : List (List amEnt) := [amK38_0]
def amR38 : amRow := (3, yX3_insert, cX3_insert, 4, (some (.int)), [], 8, 138)
def amK39_0 : List amEnt := [(0, .aload_n 0, 1, 0, 0, 0), (1, .iload_n 1, 1, 0, 0, 0), (2, .invokevirtual 37, 3, 0, 67, 1), (5, .astore_n 3, 1, 0, 0, 0), (6, .aload_n 0, 1, 0, 0, 0), (7, .aload_n 3, 1, 0, 0, 0), (8, .aload_n 0, 1, 0, 0, 0), (9, .iload_n 2, 1, 0, 0, 0), (10, .invokevirtual 41, 3, 0, 37, 1), (13, .iconst 1, 1, 0, 0, 0), (14, .invokevirtual 49, 3, 0, 75, 3), (17, .iconst 1, 1, 0, 0, 0), (18, .if_icmp .ne 7, 3, 0, 0, 0), (21, .iconst 1, 1, 0, 0, 0), (22, .goto 4, 3, 0, 0, 0), (25, .iconst 0, 1, 0, 0, 0), (26, .ireturn, 1, 0, 0, 0)]
def amC39 : List (List amEnt) := [amK39_0]
def amR39 : amRow := (3, yX3_remove, cX3_remove, 4, (some (.boolean)), [], 7, 139)
def amK40_0 : List amEnt := [(0, .aload_n 0, 1, 0, 0, 0), (1, .iload_n 1, 1, 0, 0, 0), (2, .invokevirtual 37, 3, 0, 67, 1), (5, .astore_n 3, 1, 0, 0, 0), (6, .aload_n 3, 1, 0, 0, 0), (7, .aload_n 0, 1, 0, 0, 0), (8, .iload_n 2, 1, 0, 0, 0), (9, .invokevirtual 41, 3, 0, 37, 1), (12, .invokevirtual 52, 3, 0, 28, 1), (15, .ireturn, 1, 0, 0, 0)]
def amC40 : List (List amEnt) := [amK40_0]
def amR40 : amRow := (3, yX3_count, cX3_count, 4, (some (.int)), [], 7, 115)
def amK41_0 : List amEnt := [(0, .aload_n 0, 1, 0, 0, 0), (1, .iload_n 1, 1, 0, 0, 0), (2, .invokevirtual 37, 3, 0, 67, 1), (5, .astore 4, 2, 0, 0, 0), (7, .iload_n 2, 1, 0, 0, 0), (8, .invokestatic 55, 3, 1, 69, 1), (11, .iload_n 3, 1, 0, 0, 0), (12, .invokestatic 59, 3, 1, 70, 1), (15, .aload_n 0, 1, 0, 0, 0), (16, .aload 4, 2, 0, 0, 0), (18, .iload_n 2, 1, 0, 0, 0), (19, .iload_n 3, 1, 0, 0, 0), (20, .invokevirtual 45, 3, 0, 74, 3), (23, .ireturn, 1, 0, 0, 0)]
def amC41 : List (List amEnt) := [amK41_0]
def amR41 : amRow := (3, yX3_add, cX3_add, 5, (some (.int)), [], 8, 138)
def amK42_0 : List amEnt := [(0, .aload_n 0, 1, 0, 0, 0), (1, .iload_n 1, 1, 0, 0, 0), (2, .invokevirtual 37, 3, 0, 67, 1), (5, .astore 4, 2, 0, 0, 0), (7, .iload_n 2, 1, 0, 0, 0), (8, .invokestatic 55, 3, 1, 69, 1), (11, .iload_n 3, 1, 0, 0, 0), (12, .invokestatic 59, 3, 1, 70, 1), (15, .aload_n 0, 1, 0, 0, 0), (16, .aload 4, 2, 0, 0, 0), (18, .iload_n 2, 1, 0, 0, 0), (19, .iload_n 3, 1, 0, 0, 0), (20, .invokevirtual 49, 3, 0, 75, 3), (23, .ireturn, 1, 0, 0, 0)]
def amC42 : List (List amEnt) := [amK42_0]
def amR42 : amRow := (3, yX3_take, cX3_take, 5, (some (.int)), [], 7, 139)
def amK43_0 : List amEnt := [(0, .aload_n 0, 1, 0, 0, 0), (1, .iload_n 1, 1, 0, 0, 0), (2, .invokevirtual 37, 3, 0, 67, 1), (5, .astore_n 3, 1, 0, 0, 0), (6, .iload_n 2, 1, 0, 0, 0), (7, .invokestatic 55, 3, 1, 69, 1), (10, .aload_n 3, 1, 0, 0, 0), (11, .iload_n 2, 1, 0, 0, 0), (12, .invokevirtual 52, 3, 0, 28, 1), (15, .ireturn, 1, 0, 0, 0)]
def amC43 : List (List amEnt) := [amK43_0]
def amR43 : amRow := (3, yX3_countOf, cX3_countOf, 4, (some (.int)), [], 7, 115)
def amK44_0 : List amEnt := [(0, .aload_n 0, 1, 0, 0, 0), (1, .iload_n 1, 1, 0, 0, 0), (2, .invokevirtual 37, 3, 0, 67, 1), (5, .astore_n 3, 1, 0, 0, 0), (6, .iload_n 2, 1, 0, 0, 0), (7, .invokestatic 55, 3, 1, 69, 1), (10, .aload_n 0, 1, 0, 0, 0), (11, .getfield 32, 3, 3, 4, 0), (14, .aload_n 3, 1, 0, 0, 0), (15, .invokevirtual 62, 3, 0, 10, 1), (18, .aload_n 0, 1, 0, 0, 0), (19, .getfield 32, 3, 3, 4, 0), (22, .aload_n 3, 1, 0, 0, 0), (23, .iload_n 2, 1, 0, 0, 0), (24, .invokevirtual 66, 3, 0, 12, 2), (27, .ireturn, 1, 0, 0, 0)]
def amC44 : List (List amEnt) := [amK44_0]
def amR44 : amRow := (3, yX3_countInLists, cX3_countInLists, 4, (some (.int)), [], 7, 111)
def amK45_0 : List amEnt := [(0, .aload_n 0, 1, 0, 0, 0), (1, .iload_n 1, 1, 0, 0, 0), (2, .invokevirtual 37, 3, 0, 67, 1), (5, .astore_n 3, 1, 0, 0, 0), (6, .iload_n 2, 1, 0, 0, 0), (7, .invokestatic 55, 3, 1, 69, 1), (10, .aload_n 3, 1, 0, 0, 0), (11, .iload_n 2, 1, 0, 0, 0), (12, .invokevirtual 70, 3, 0, 29, 1), (15, .ireturn, 1, 0, 0, 0)]
def amC45 : List (List amEnt) := [amK45_0]
def amR45 : amRow := (3, yX3_lookedAt, cX3_lookedAt, 4, (some (.int)), [], 7, 113)
def amK46_0 : List amEnt := [(0, .aload_n 0, 1, 0, 0, 0), (1, .iload_n 1, 1, 0, 0, 0), (2, .invokevirtual 37, 3, 0, 67, 1), (5, .invokevirtual 73, 3, 0, 32, 0), (8, .return_, 1, 0, 0, 0)]
def amC46 : List (List amEnt) := [amK46_0]
def amR46 : amRow := (3, yX3_clear, cX3_clear, 2, none, [], 7, 111)
def amK47_0 : List amEnt := [(0, .aload_n 0, 1, 0, 0, 0), (1, .iload_n 1, 1, 0, 0, 0), (2, .invokevirtual 37, 3, 0, 67, 1), (5, .astore_n 2, 1, 0, 0, 0), (6, .aload_n 2, 1, 0, 0, 0), (7, .getfield 76, 3, 2, 5, 0), (10, .bipush 8, 2, 0, 0, 0), (12, .if_icmp .lt 13, 3, 0, 0, 0), (15, .new 80, 3, 1, 2, 82084), (18, .dup, 1, 0, 0, 0), (19, .ldc 82, 2, 0, 0, 0), (21, .invokespecial 84, 3, 9, 0, 1), (24, .athrow, 1, 0, 0, 0), (25, .aload_n 0, 1, 0, 0, 0), (26, .aload_n 2, 1, 0, 0, 0), (27, .aload_n 2, 1, 0, 0, 0), (28, .getfield 76, 3, 2, 5, 0), (31, .iconst 1, 1, 0, 0, 0), (32, .iadd, 1, 0, 0, 0), (33, .invokevirtual 87, 3, 0, 76, 2), (36, .ireturn, 1, 0, 0, 0)]
def amC47 : List (List amEnt) := [amK47_0]
def amR47 : amRow := (3, yX3_grow, cX3_grow, 3, (some (.int)), [], 8, 135)
def amK48_0 : List amEnt := [(0, .aload_n 0, 1, 0, 0, 0), (1, .iload_n 1, 1, 0, 0, 0), (2, .invokevirtual 37, 3, 0, 67, 1), (5, .astore_n 2, 1, 0, 0, 0), (6, .aload_n 2, 1, 0, 0, 0), (7, .getfield 76, 3, 2, 5, 0), (10, .iconst 3, 1, 0, 0, 0), (11, .if_icmp .gt 13, 3, 0, 0, 0), (14, .new 80, 3, 1, 2, 90084), (17, .dup, 1, 0, 0, 0), (18, .ldc 90, 2, 0, 0, 0), (20, .invokespecial 84, 3, 9, 0, 1), (23, .athrow, 1, 0, 0, 0), (24, .aload_n 0, 1, 0, 0, 0), (25, .aload_n 2, 1, 0, 0, 0), (26, .aload_n 2, 1, 0, 0, 0), (27, .getfield 76, 3, 2, 5, 0), (30, .iconst 1, 1, 0, 0, 0), (31, .isub, 1, 0, 0, 0), (32, .invokevirtual 87, 3, 0, 76, 2), (35, .ireturn, 1, 0, 0, 0)]
def amC48 : List (List amEnt) := [amK48_0]
def amR48 : amRow := (3, yX3_shrink, cX3_shrink, 3, (some (.int)), [], 8, 135)
def amK49_0 : List amEnt := [(0, .aload_n 0, 1, 0, 0, 0), (1, .iload_n 1, 1, 0, 0, 0), (2, .invokevirtual 37, 3, 0, 67, 1), (5, .astore_n 3, 1, 0, 0, 0), (6, .aload_n 0, 1, 0, 0, 0), (7, .iload_n 2, 1, 0, 0, 0), (8, .invokevirtual 37, 3, 0, 67, 1), (11, .astore 4, 2, 0, 0, 0), (13, .aload_n 3, 1, 0, 0, 0), (14, .aload_n 0, 1, 0, 0, 0), (15, .getfield 19, 3, 3, 1, 0), (18, .invokevirtual 92, 3, 0, 31, 1), (21, .aload 4, 2, 0, 0, 0), (23, .aload_n 0, 1, 0, 0, 0), (24, .getfield 23, 3, 3, 2, 0), (27, .invokevirtual 92, 3, 0, 31, 1), (30, .aload_n 0, 1, 0, 0, 0), (31, .getfield 26, 3, 3, 3, 0), (34, .aload_n 0, 1, 0, 0, 0), (35, .getfield 19, 3, 3, 1, 0), (38, .aload_n 0, 1, 0, 0, 0), (39, .getfield 23, 3, 3, 2, 0), (42, .invokevirtual 96, 3, 0, 3, 2), (45, .aload_n 0, 1, 0, 0, 0), (46, .getfield 26, 3, 3, 3, 0), (49, .aload_n 3, 1, 0, 0, 0), (50, .getfield 76, 3, 2, 5, 0), (53, .invokestatic 100, 3, 1, 71, 2), (56, .aload_n 3, 1, 0, 0, 0), (57, .aload_n 3, 1, 0, 0, 0), (58, .getfield 76, 3, 2, 5, 0), (61, .aload_n 0, 1, 0, 0, 0), (62, .getfield 26, 3, 3, 3, 0)]
def amK49_1 : List amEnt := [(65, .invokevirtual 104, 3, 0, 33, 2), (68, .aload_n 3, 1, 0, 0, 0), (69, .invokevirtual 108, 3, 0, 20, 0), (72, .ireturn, 1, 0, 0, 0)]
def amC49 : List (List amEnt) := [amK49_0, amK49_1]
def amR49 : amRow := (3, yX3_merge, cX3_merge, 5, (some (.int)), [], 7, 113)
def amK50_0 : List amEnt := [(0, .aload_n 0, 1, 0, 0, 0), (1, .iload_n 1, 1, 0, 0, 0), (2, .invokevirtual 37, 3, 0, 67, 1), (5, .astore_n 3, 1, 0, 0, 0), (6, .aload_n 0, 1, 0, 0, 0), (7, .iload_n 2, 1, 0, 0, 0), (8, .invokevirtual 37, 3, 0, 67, 1), (11, .astore 4, 2, 0, 0, 0), (13, .aload_n 3, 1, 0, 0, 0), (14, .aload_n 0, 1, 0, 0, 0), (15, .getfield 19, 3, 3, 1, 0), (18, .invokevirtual 92, 3, 0, 31, 1), (21, .aload 4, 2, 0, 0, 0), (23, .aload_n 0, 1, 0, 0, 0), (24, .getfield 23, 3, 3, 2, 0), (27, .invokevirtual 92, 3, 0, 31, 1), (30, .aload_n 0, 1, 0, 0, 0), (31, .getfield 26, 3, 3, 3, 0), (34, .aload_n 0, 1, 0, 0, 0), (35, .getfield 19, 3, 3, 1, 0), (38, .aload_n 0, 1, 0, 0, 0), (39, .getfield 23, 3, 3, 2, 0), (42, .invokevirtual 112, 3, 0, 4, 2), (45, .aload_n 3, 1, 0, 0, 0), (46, .aload_n 3, 1, 0, 0, 0), (47, .getfield 76, 3, 2, 5, 0), (50, .aload_n 0, 1, 0, 0, 0), (51, .getfield 26, 3, 3, 3, 0), (54, .invokevirtual 104, 3, 0, 33, 2), (57, .aload_n 3, 1, 0, 0, 0), (58, .invokevirtual 108, 3, 0, 20, 0), (61, .ireturn, 1, 0, 0, 0)]
def amC50 : List (List amEnt) := [amK50_0]
def amR50 : amRow := (3, yX3_intersect, cX3_intersect, 5, (some (.int)), [], 7, 113)
def amK51_0 : List amEnt := [(0, .aload_n 0, 1, 0, 0, 0), (1, .iload_n 1, 1, 0, 0, 0), (2, .invokevirtual 37, 3, 0, 67, 1), (5, .astore_n 3, 1, 0, 0, 0), (6, .aload_n 0, 1, 0, 0, 0), (7, .iload_n 2, 1, 0, 0, 0), (8, .invokevirtual 37, 3, 0, 67, 1), (11, .astore 4, 2, 0, 0, 0), (13, .aload_n 3, 1, 0, 0, 0), (14, .aload_n 0, 1, 0, 0, 0), (15, .getfield 19, 3, 3, 1, 0), (18, .invokevirtual 92, 3, 0, 31, 1), (21, .aload 4, 2, 0, 0, 0), (23, .aload_n 0, 1, 0, 0, 0), (24, .getfield 23, 3, 3, 2, 0), (27, .invokevirtual 92, 3, 0, 31, 1), (30, .aload_n 0, 1, 0, 0, 0), (31, .getfield 19, 3, 3, 1, 0), (34, .aload_n 0, 1, 0, 0, 0), (35, .getfield 23, 3, 3, 2, 0), (38, .invokevirtual 115, 3, 0, 7, 1), (41, .ireturn, 1, 0, 0, 0)]
def amC51 : List (List amEnt) := [amK51_0]
def amR51 : amRow := (3, yX3_isSame, cX3_isSame, 5, (some (.boolean)), [], 7, 113)
def amK52_0 : List amEnt := [(0, .aload_n 0, 1, 0, 0, 0), (1, .iload_n 1, 1, 0, 0, 0), (2, .invokevirtual 37, 3, 0, 67, 1), (5, .invokevirtual 119, 3, 0, 14, 0), (8, .ireturn, 1, 0, 0, 0)]
def amC52 : List (List amEnt) := [amK52_0]
def amR52 : amRow := (3, yX3_slots, cX3_slots, 2, (some (.int)), [], 7, 111)
def amK53_0 : List amEnt := [(0, .aload_n 0, 1, 0, 0, 0), (1, .iload_n 1, 1, 0, 0, 0), (2, .invokevirtual 37, 3, 0, 67, 1), (5, .invokevirtual 108, 3, 0, 20, 0), (8, .ireturn, 1, 0, 0, 0)]
def amC53 : List (List amEnt) := [amK53_0]
def amR53 : amRow := (3, yX3_entries, cX3_entries, 2, (some (.int)), [], 7, 111)
def amK54_0 : List amEnt := [(0, .aload_n 0, 1, 0, 0, 0), (1, .iload_n 1, 1, 0, 0, 0), (2, .invokevirtual 37, 3, 0, 67, 1), (5, .aload_n 0, 1, 0, 0, 0), (6, .getfield 19, 3, 3, 1, 0), (9, .invokevirtual 92, 3, 0, 31, 1), (12, .aload_n 0, 1, 0, 0, 0), (13, .getfield 19, 3, 3, 1, 0), (16, .getfield 122, 3, 0, 2, 0), (19, .ireturn, 1, 0, 0, 0)]
def amC54 : List (List amEnt) := [amK54_0]
def amR54 : amRow := (3, yX3_distinct, cX3_distinct, 2, (some (.int)), [], 7, 113)
def amK55_0 : List amEnt := [(0, .aload_n 0, 1, 0, 0, 0), (1, .iload_n 1, 1, 0, 0, 0), (2, .invokevirtual 37, 3, 0, 67, 1), (5, .invokevirtual 125, 3, 0, 21, 0), (8, .ireturn, 1, 0, 0, 0)]
def amC55 : List (List amEnt) := [amK55_0]
def amR55 : amRow := (3, yX3_total, cX3_total, 2, (some (.int)), [], 7, 111)
def amK56_0 : List amEnt := [(0, .aload_n 0, 1, 0, 0, 0), (1, .iload_n 1, 1, 0, 0, 0), (2, .invokevirtual 37, 3, 0, 67, 1), (5, .aload_n 0, 1, 0, 0, 0), (6, .getfield 19, 3, 3, 1, 0), (9, .invokevirtual 92, 3, 0, 31, 1), (12, .iload_n 2, 1, 0, 0, 0), (13, .ifCond .lt 14, 3, 0, 0, 0), (16, .iload_n 2, 1, 0, 0, 0), (17, .aload_n 0, 1, 0, 0, 0), (18, .getfield 19, 3, 3, 1, 0), (21, .getfield 122, 3, 0, 2, 0), (24, .if_icmp .lt 13, 3, 0, 0, 0), (27, .new 128, 3, 1, 1, 130132), (30, .dup, 1, 0, 0, 0), (31, .ldc 130, 2, 0, 0, 0), (33, .invokespecial 132, 3, 9, 0, 1), (36, .athrow, 1, 0, 0, 0), (37, .aload_n 0, 1, 0, 0, 0), (38, .getfield 19, 3, 3, 1, 0), (41, .getfield 133, 3, 0, 0, 0), (44, .iload_n 2, 1, 0, 0, 0), (45, .iaload, 1, 0, 0, 0), (46, .ireturn, 1, 0, 0, 0)]
def amC56 : List (List amEnt) := [amK56_0]
def amR56 : amRow := (3, yX3_fingerprintAt, cX3_fingerprintAt, 3, (some (.int)), [], 7, 113)
def amK57_0 : List amEnt := [(0, .aload_n 0, 1, 0, 0, 0), (1, .iload_n 1, 1, 0, 0, 0), (2, .invokevirtual 37, 3, 0, 67, 1), (5, .astore_n 3, 1, 0, 0, 0), (6, .aload_n 3, 1, 0, 0, 0), (7, .iload_n 2, 1, 0, 0, 0), (8, .invokestatic 137, 3, 1, 68, 2), (11, .aload_n 3, 1, 0, 0, 0), (12, .iload_n 2, 1, 0, 0, 0), (13, .invokevirtual 141, 3, 0, 15, 1), (16, .ifCond .eq 7, 3, 0, 0, 0), (19, .iconst (-1), 1, 0, 0, 0), (20, .goto 9, 3, 0, 0, 0), (23, .aload_n 3, 1, 0, 0, 0), (24, .getfield 145, 3, 2, 0, 0), (27, .iload_n 2, 1, 0, 0, 0), (28, .iaload, 1, 0, 0, 0), (29, .ireturn, 1, 0, 0, 0)]
def amC57 : List (List amEnt) := [amK57_0]
def amR57 : amRow := (3, yX3_remainderAt, cX3_remainderAt, 4, (some (.int)), [], 7, 111)
def amK58_0 : List amEnt := [(0, .aload_n 0, 1, 0, 0, 0), (1, .iload_n 1, 1, 0, 0, 0), (2, .invokevirtual 37, 3, 0, 67, 1), (5, .astore_n 3, 1, 0, 0, 0), (6, .aload_n 3, 1, 0, 0, 0), (7, .iload_n 2, 1, 0, 0, 0), (8, .invokestatic 137, 3, 1, 68, 2), (11, .aload_n 3, 1, 0, 0, 0), (12, .getfield 148, 3, 2, 1, 0), (15, .iload_n 2, 1, 0, 0, 0), (16, .iaload, 1, 0, 0, 0), (17, .ireturn, 1, 0, 0, 0)]
def amC58 : List (List amEnt) := [amK58_0]
def amR58 : amRow := (3, yX3_counterAt, cX3_counterAt, 4, (some (.int)), [], 7, 111)
def amK59_0 : List amEnt := [(0, .aload_n 0, 1, 0, 0, 0), (1, .iload_n 1, 1, 0, 0, 0), (2, .invokevirtual 37, 3, 0, 67, 1), (5, .astore_n 3, 1, 0, 0, 0), (6, .aload_n 3, 1, 0, 0, 0), (7, .iload_n 2, 1, 0, 0, 0), (8, .invokestatic 137, 3, 1, 68, 2), (11, .aload_n 3, 1, 0, 0, 0), (12, .iload_n 2, 1, 0, 0, 0), (13, .invokevirtual 141, 3, 0, 15, 1), (16, .ifCond .eq 7, 3, 0, 0, 0), (19, .iconst (-1), 1, 0, 0, 0), (20, .goto 8, 3, 0, 0, 0), (23, .aload_n 3, 1, 0, 0, 0), (24, .iload_n 2, 1, 0, 0, 0), (25, .invokevirtual 151, 3, 0, 27, 1), (28, .ireturn, 1, 0, 0, 0)]
def amC59 : List (List amEnt) := [amK59_0]
def amR59 : amRow := (3, yX3_quotientAt, cX3_quotientAt, 4, (some (.int)), [], 7, 111)
def amK60_0 : List amEnt := [(0, .aload_n 0, 1, 0, 0, 0), (1, .iload_n 1, 1, 0, 0, 0), (2, .invokevirtual 37, 3, 0, 67, 1), (5, .astore_n 3, 1, 0, 0, 0), (6, .aload_n 3, 1, 0, 0, 0), (7, .iload_n 2, 1, 0, 0, 0), (8, .invokestatic 137, 3, 1, 68, 2), (11, .aload_n 3, 1, 0, 0, 0), (12, .getfield 154, 3, 2, 2, 0), (15, .iload_n 2, 1, 0, 0, 0), (16, .baload, 1, 0, 0, 0), (17, .ireturn, 1, 0, 0, 0)]
def amC60 : List (List amEnt) := [amK60_0]
def amR60 : amRow := (3, yX3_isOccupied, cX3_isOccupied, 4, (some (.boolean)), [], 7, 111)
def amK61_0 : List amEnt := [(0, .aload_n 0, 1, 0, 0, 0), (1, .iload_n 1, 1, 0, 0, 0), (2, .invokevirtual 37, 3, 0, 67, 1), (5, .astore_n 3, 1, 0, 0, 0), (6, .aload_n 3, 1, 0, 0, 0), (7, .iload_n 2, 1, 0, 0, 0), (8, .invokestatic 137, 3, 1, 68, 2), (11, .aload_n 3, 1, 0, 0, 0), (12, .getfield 158, 3, 2, 3, 0), (15, .iload_n 2, 1, 0, 0, 0), (16, .baload, 1, 0, 0, 0), (17, .ireturn, 1, 0, 0, 0)]
def amC61 : List (List amEnt) := [amK61_0]
def amR61 : amRow := (3, yX3_isContinuation, cX3_isContinuation, 4, (some (.boolean)), [], 7, 111)
def amK62_0 : List amEnt := [(0, .aload_n 0, 1, 0, 0, 0), (1, .iload_n 1, 1, 0, 0, 0), (2, .invokevirtual 37, 3, 0, 67, 1), (5, .astore_n 3, 1, 0, 0, 0), (6, .aload_n 3, 1, 0, 0, 0), (7, .iload_n 2, 1, 0, 0, 0), (8, .invokestatic 137, 3, 1, 68, 2), (11, .aload_n 3, 1, 0, 0, 0), (12, .getfield 161, 3, 2, 4, 0), (15, .iload_n 2, 1, 0, 0, 0), (16, .baload, 1, 0, 0, 0), (17, .ireturn, 1, 0, 0, 0)]
def amC62 : List (List amEnt) := [amK62_0]
def amR62 : amRow := (3, yX3_isShifted, cX3_isShifted, 4, (some (.boolean)), [], 7, 111)
def amK63_0 : List amEnt := [(0, .aload_n 0, 1, 0, 0, 0), (1, .iload_n 1, 1, 0, 0, 0), (2, .invokevirtual 37, 3, 0, 67, 1), (5, .astore_n 3, 1, 0, 0, 0), (6, .aload_n 3, 1, 0, 0, 0), (7, .iload_n 2, 1, 0, 0, 0), (8, .invokestatic 137, 3, 1, 68, 2), (11, .aload_n 3, 1, 0, 0, 0), (12, .iload_n 2, 1, 0, 0, 0), (13, .invokevirtual 164, 3, 0, 25, 1), (16, .ireturn, 1, 0, 0, 0)]
def amC63 : List (List amEnt) := [amK63_0]
def amR63 : amRow := (3, yX3_runStart, cX3_runStart, 4, (some (.int)), [], 7, 111)
def amK64_0 : List amEnt := [(0, .aload_n 0, 1, 0, 0, 0), (1, .iload_n 1, 1, 0, 0, 0), (2, .invokevirtual 37, 3, 0, 67, 1), (5, .astore_n 3, 1, 0, 0, 0), (6, .aload_n 3, 1, 0, 0, 0), (7, .iload_n 2, 1, 0, 0, 0), (8, .invokestatic 137, 3, 1, 68, 2), (11, .aload_n 3, 1, 0, 0, 0), (12, .iload_n 2, 1, 0, 0, 0), (13, .invokevirtual 164, 3, 0, 25, 1), (16, .istore 4, 2, 0, 0, 0), (18, .iload 4, 2, 0, 0, 0), (20, .iconst (-1), 1, 0, 0, 0), (21, .if_icmp .ne 7, 3, 0, 0, 0), (24, .iconst 0, 1, 0, 0, 0), (25, .goto 9, 3, 0, 0, 0), (28, .aload_n 3, 1, 0, 0, 0), (29, .iload 4, 2, 0, 0, 0), (31, .invokevirtual 167, 3, 0, 26, 1), (34, .ireturn, 1, 0, 0, 0)]
def amC64 : List (List amEnt) := [amK64_0]
def amR64 : amRow := (3, yX3_runLength, cX3_runLength, 5, (some (.int)), [], 7, 111)
def amK65_0 : List amEnt := [(0, .aload_n 0, 1, 0, 0, 0), (1, .iload_n 1, 1, 0, 0, 0), (2, .invokevirtual 37, 3, 0, 67, 1), (5, .astore_n 3, 1, 0, 0, 0), (6, .aload_n 3, 1, 0, 0, 0), (7, .iload_n 2, 1, 0, 0, 0), (8, .invokestatic 137, 3, 1, 68, 2), (11, .aload_n 3, 1, 0, 0, 0), (12, .iload_n 2, 1, 0, 0, 0), (13, .invokevirtual 141, 3, 0, 15, 1), (16, .ifCond .eq 7, 3, 0, 0, 0), (19, .iconst (-1), 1, 0, 0, 0), (20, .goto 8, 3, 0, 0, 0), (23, .aload_n 3, 1, 0, 0, 0), (24, .iload_n 2, 1, 0, 0, 0), (25, .invokevirtual 170, 3, 0, 24, 1), (28, .ireturn, 1, 0, 0, 0)]
def amC65 : List (List amEnt) := [amK65_0]
def amR65 : amRow := (3, yX3_clusterStart, cX3_clusterStart, 4, (some (.int)), [], 7, 111)
def amK66_0 : List amEnt := [(0, .aload_n 0, 1, 0, 0, 0), (1, .iload_n 1, 1, 0, 0, 0), (2, .invokevirtual 37, 3, 0, 67, 1), (5, .invokevirtual 173, 3, 0, 30, 0), (8, .ireturn, 1, 0, 0, 0)]
def amC66 : List (List amEnt) := [amK66_0]
def amR66 : amRow := (3, yX3_longestCluster, cX3_longestCluster, 2, (some (.int)), [], 7, 111)
def amK67_0 : List amEnt := [(0, .iload_n 1, 1, 0, 0, 0), (1, .ifCond .lt 12, 3, 0, 0, 0), (4, .iload_n 1, 1, 0, 0, 0), (5, .aload_n 0, 1, 0, 0, 0), (6, .getfield 11, 3, 3, 0, 0), (9, .arraylength, 1, 0, 0, 0), (10, .if_icmp .lt 13, 3, 0, 0, 0), (13, .new 128, 3, 1, 1, 176132), (16, .dup, 1, 0, 0, 0), (17, .ldc 176, 2, 0, 0, 0), (19, .invokespecial 132, 3, 9, 0, 1), (22, .athrow, 1, 0, 0, 0), (23, .aload_n 0, 1, 0, 0, 0), (24, .getfield 11, 3, 3, 0, 0), (27, .iload_n 1, 1, 0, 0, 0), (28, .aaload, 1, 0, 0, 0), (29, .areturn, 1, 0, 0, 0)]
def amC67 : List (List amEnt) := [amK67_0]
def amR67 : amRow := (3, yX3_tableOf, cX3_tableOf, 2, (some ((.object "QuotientQuoin$Table"))), [], 6, 90)
def amK68_0 : List amEnt := [(0, .iload_n 1, 1, 0, 0, 0), (1, .ifCond .lt 11, 3, 0, 0, 0), (4, .iload_n 1, 1, 0, 0, 0), (5, .aload_n 0, 1, 0, 0, 0), (6, .invokevirtual 119, 3, 0, 14, 0), (9, .if_icmp .lt 13, 3, 0, 0, 0), (12, .new 128, 3, 1, 1, 178132), (15, .dup, 1, 0, 0, 0), (16, .ldc 178, 2, 0, 0, 0), (18, .invokespecial 132, 3, 9, 0, 1), (21, .athrow, 1, 0, 0, 0), (22, .return_, 1, 0, 0, 0)]
def amC68 : List (List amEnt) := [amK68_0]
def amR68 : amRow := (3, yX3_checkSlot, cX3_checkSlot, 2, none, [], 6, 90)
def amK69_0 : List amEnt := [(0, .iload_n 0, 1, 0, 0, 0), (1, .ifCond .lt 10, 3, 0, 0, 0), (4, .iload_n 0, 1, 0, 0, 0), (5, .sipush 4096, 3, 0, 0, 0), (8, .if_icmp .lt 13, 3, 0, 0, 0), (11, .new 180, 3, 1, 3, 182184), (14, .dup, 1, 0, 0, 0), (15, .ldc 182, 2, 0, 0, 0), (17, .invokespecial 184, 3, 9, 0, 1), (20, .athrow, 1, 0, 0, 0), (21, .return_, 1, 0, 0, 0)]
def amC69 : List (List amEnt) := [amK69_0]
def amR69 : amRow := (3, yX3_checkFingerprint, cX3_checkFingerprint, 1, none, [], 6, 90)
def amK70_0 : List amEnt := [(0, .iload_n 0, 1, 0, 0, 0), (1, .iconst 1, 1, 0, 0, 0), (2, .if_icmp .lt 9, 3, 0, 0, 0), (5, .iload_n 0, 1, 0, 0, 0), (6, .bipush 100, 2, 0, 0, 0), (8, .if_icmp .le 13, 3, 0, 0, 0), (11, .new 180, 3, 1, 3, 185184), (14, .dup, 1, 0, 0, 0), (15, .ldc 185, 2, 0, 0, 0), (17, .invokespecial 184, 3, 9, 0, 1), (20, .athrow, 1, 0, 0, 0), (21, .return_, 1, 0, 0, 0)]
def amC70 : List (List amEnt) := [amK70_0]
def amR70 : amRow := (3, yX3_checkTimes, cX3_checkTimes, 1, none, [], 6, 90)
def amK71_0 : List amEnt := [(0, .aload_n 0, 1, 0, 0, 0), (1, .invokevirtual 187, 3, 0, 8, 0), (4, .iload_n 1, 1, 0, 0, 0), (5, .invokestatic 190, 3, 1, 72, 1), (8, .if_icmp .le 13, 3, 0, 0, 0), (11, .new 80, 3, 1, 2, 193084), (14, .dup, 1, 0, 0, 0), (15, .ldc 193, 2, 0, 0, 0), (17, .invokespecial 84, 3, 9, 0, 1), (20, .athrow, 1, 0, 0, 0), (21, .return_, 1, 0, 0, 0)]
def amC71 : List (List amEnt) := [amK71_0]
def amR71 : amRow := (3, yX3_checkFits, cX3_checkFits, 2, none, [], 6, 90)
def amK72_0 : List amEnt := [(0, .bipush 7, 2, 0, 0, 0), (2, .iload_n 0, 1, 0, 0, 0), (3, .ishl, 1, 0, 0, 0), (4, .iconst 3, 1, 0, 0, 0), (5, .ishr, 1, 0, 0, 0), (6, .ireturn, 1, 0, 0, 0)]
def amC72 : List (List amEnt) := [amK72_0]
def amR72 : amRow := (3, yX3_mostEntries, cX3_mostEntries, 1, (some (.int)), [], 0, 0)
def amK73_0 : List amEnt := [(0, .iload_n 0, 1, 0, 0, 0), (1, .bipush 7, 2, 0, 0, 0), (3, .iadd, 1, 0, 0, 0), (4, .iconst 1, 1, 0, 0, 0), (5, .isub, 1, 0, 0, 0), (6, .bipush 7, 2, 0, 0, 0), (8, .idiv, 1, 0, 0, 0), (9, .ireturn, 1, 0, 0, 0)]
def amC73 : List (List amEnt) := [amK73_0]
def amR73 : amRow := (3, yX3_entriesFor, cX3_entriesFor, 1, (some (.int)), [], 0, 0)
def amK74_0 : List amEnt := [(0, .aload_n 1, 1, 0, 0, 0), (1, .aload_n 0, 1, 0, 0, 0), (2, .getfield 19, 3, 3, 1, 0), (5, .invokevirtual 92, 3, 0, 31, 1), (8, .aload_n 0, 1, 0, 0, 0), (9, .getfield 23, 3, 3, 2, 0), (12, .invokevirtual 195, 3, 0, 1, 0), (15, .aload_n 0, 1, 0, 0, 0), (16, .getfield 23, 3, 3, 2, 0), (19, .iload_n 2, 1, 0, 0, 0), (20, .iload_n 3, 1, 0, 0, 0), (21, .invokevirtual 198, 3, 0, 2, 2), (24, .aload_n 0, 1, 0, 0, 0), (25, .getfield 26, 3, 3, 3, 0), (28, .aload_n 0, 1, 0, 0, 0), (29, .getfield 19, 3, 3, 1, 0), (32, .aload_n 0, 1, 0, 0, 0), (33, .getfield 23, 3, 3, 2, 0), (36, .invokevirtual 96, 3, 0, 3, 2), (39, .aload_n 0, 1, 0, 0, 0), (40, .getfield 26, 3, 3, 3, 0), (43, .aload_n 1, 1, 0, 0, 0), (44, .getfield 76, 3, 2, 5, 0), (47, .invokestatic 100, 3, 1, 71, 2), (50, .aload_n 1, 1, 0, 0, 0), (51, .aload_n 1, 1, 0, 0, 0), (52, .getfield 76, 3, 2, 5, 0), (55, .aload_n 0, 1, 0, 0, 0), (56, .getfield 26, 3, 3, 3, 0), (59, .invokevirtual 104, 3, 0, 33, 2), (62, .aload_n 1, 1, 0, 0, 0), (63, .iload_n 2, 1, 0, 0, 0)]
def amK74_1 : List amEnt := [(64, .invokevirtual 52, 3, 0, 28, 1), (67, .ireturn, 1, 0, 0, 0)]
def amC74 : List (List amEnt) := [amK74_0, amK74_1]
def amR74 : amRow := (3, yX3_putIn, cX3_putIn, 4, (some (.int)), [], 7, 115)
def amK75_0 : List amEnt := [(0, .iload_n 3, 1, 0, 0, 0), (1, .aload_n 1, 1, 0, 0, 0), (2, .iload_n 2, 1, 0, 0, 0), (3, .invokevirtual 52, 3, 0, 28, 1), (6, .invokestatic 202, 3, 5, 0, 2), (9, .istore 4, 2, 0, 0, 0), (11, .iload 4, 2, 0, 0, 0), (13, .ifCond .le 37, 3, 0, 0, 0), (16, .aload_n 1, 1, 0, 0, 0), (17, .aload_n 0, 1, 0, 0, 0), (18, .getfield 19, 3, 3, 1, 0), (21, .invokevirtual 92, 3, 0, 31, 1), (24, .aload_n 0, 1, 0, 0, 0), (25, .getfield 26, 3, 3, 3, 0), (28, .aload_n 0, 1, 0, 0, 0), (29, .getfield 19, 3, 3, 1, 0), (32, .iload_n 2, 1, 0, 0, 0), (33, .iload 4, 2, 0, 0, 0), (35, .invokevirtual 208, 3, 0, 5, 3), (38, .aload_n 1, 1, 0, 0, 0), (39, .aload_n 1, 1, 0, 0, 0), (40, .getfield 76, 3, 2, 5, 0), (43, .aload_n 0, 1, 0, 0, 0), (44, .getfield 26, 3, 3, 3, 0), (47, .invokevirtual 104, 3, 0, 33, 2), (50, .iload 4, 2, 0, 0, 0), (52, .ireturn, 1, 0, 0, 0)]
def amC75 : List (List amEnt) := [amK75_0]
def amR75 : amRow := (3, yX3_takeOut, cX3_takeOut, 5, (some (.int)), [], 5, 115)
def amK76_0 : List amEnt := [(0, .aload_n 1, 1, 0, 0, 0), (1, .aload_n 0, 1, 0, 0, 0), (2, .getfield 19, 3, 3, 1, 0), (5, .invokevirtual 92, 3, 0, 31, 1), (8, .aload_n 0, 1, 0, 0, 0), (9, .getfield 19, 3, 3, 1, 0), (12, .iload_n 2, 1, 0, 0, 0), (13, .invokestatic 100, 3, 1, 71, 2), (16, .aload_n 1, 1, 0, 0, 0), (17, .iload_n 2, 1, 0, 0, 0), (18, .aload_n 0, 1, 0, 0, 0), (19, .getfield 19, 3, 3, 1, 0), (22, .invokevirtual 104, 3, 0, 33, 2), (25, .aload_n 1, 1, 0, 0, 0), (26, .invokevirtual 119, 3, 0, 14, 0), (29, .ireturn, 1, 0, 0, 0)]
def amC76 : List (List amEnt) := [amK76_0]
def amR76 : amRow := (3, yX3_resize, cX3_resize, 3, (some (.int)), [], 7, 113)
def amK77_0 : List amEnt := [(0, .aload_n 0, 1, 0, 0, 0), (1, .invokespecial 1, 3, 6, 0, 0), (4, .aload_n 0, 1, 0, 0, 0), (5, .sipush 16384, 3, 0, 0, 0), (8, .newarray .int, 2, 0, 0, 0), (10, .putfield 7, 3, 4, 0, 0), (13, .aload_n 0, 1, 0, 0, 0), (14, .iconst 4, 1, 0, 0, 0), (15, .newarray .int, 2, 0, 0, 0), (17, .putfield 13, 3, 4, 1, 0), (20, .aload_n 0, 1, 0, 0, 0), (21, .sipush 256, 3, 0, 0, 0), (24, .newarray .int, 2, 0, 0, 0), (26, .putfield 16, 3, 4, 2, 0), (29, .aload_n 0, 1, 0, 0, 0), (30, .sipush 256, 3, 0, 0, 0), (33, .newarray .int, 2, 0, 0, 0), (35, .putfield 19, 3, 4, 3, 0), (38, .aload_n 0, 1, 0, 0, 0), (39, .sipush 256, 3, 0, 0, 0), (42, .newarray .int, 2, 0, 0, 0), (44, .putfield 22, 3, 4, 4, 0), (47, .aload_n 0, 1, 0, 0, 0), (48, .sipush 256, 3, 0, 0, 0), (51, .newarray .int, 2, 0, 0, 0), (53, .putfield 25, 3, 4, 5, 0), (56, .aload_n 0, 1, 0, 0, 0), (57, .sipush 256, 3, 0, 0, 0), (60, .newarray .int, 2, 0, 0, 0), (62, .putfield 28, 3, 4, 6, 0)]
def amK77_1 : List amEnt := [(65, .iconst 0, 1, 0, 0, 0), (66, .istore_n 1, 1, 0, 0, 0), (67, .iload_n 1, 1, 0, 0, 0), (68, .iconst 4, 1, 0, 0, 0), (69, .if_icmp .ge 16, 3, 0, 0, 0), (72, .aload_n 0, 1, 0, 0, 0), (73, .getfield 13, 3, 4, 1, 0), (76, .iload_n 1, 1, 0, 0, 0), (77, .iconst 3, 1, 0, 0, 0), (78, .iastore, 1, 0, 0, 0), (79, .iinc 1 1, 3, 0, 0, 0), (82, .goto (-15), 3, 0, 0, 0), (85, .return_, 1, 0, 0, 0)]
def amC77 : List (List amEnt) := [amK77_0, amK77_1]
def amR77 : amRow := (4, yX4_init, cX4_init, 2, none, [], 1, 21)
def amK78_0 : List amEnt := [(0, .aload_n 0, 1, 0, 0, 0), (1, .getfield 31, 3, 4, 7, 0), (4, .ireturn, 1, 0, 0, 0)]
def amC78 : List (List amEnt) := [amK78_0]
def amR78 : amRow := (4, yX4_thrown, cX4_thrown, 1, (some (.int)), [], 0, 0)
def amK79_0 : List amEnt := [(0, .iload_n 0, 1, 0, 0, 0), (1, .iload_n 1, 1, 0, 0, 0), (2, .if_icmp .lt 12, 3, 0, 0, 0), (5, .iload_n 0, 1, 0, 0, 0), (6, .iload_n 2, 1, 0, 0, 0), (7, .if_icmp .gt 7, 3, 0, 0, 0), (10, .iconst 1, 1, 0, 0, 0), (11, .goto 4, 3, 0, 0, 0), (14, .iconst 0, 1, 0, 0, 0), (15, .ireturn, 1, 0, 0, 0)]
def amC79 : List (List amEnt) := [amK79_0]
def amR79 : amRow := (4, yX4_in, cX4_in, 3, (some (.boolean)), [], 0, 0)
def amK80_0 : List amEnt := [(0, .iload_n 0, 1, 0, 0, 0), (1, .iconst 0, 1, 0, 0, 0), (2, .iconst 3, 1, 0, 0, 0), (3, .invokestatic 35, 3, 1, 79, 3), (6, .ireturn, 1, 0, 0, 0)]
def amC80 : List (List amEnt) := [amK80_0]
def amR80 : amRow := (4, yX4_isFilter, cX4_isFilter, 1, (some (.boolean)), [], 1, 22)
def amK81_0 : List amEnt := [(0, .iload_n 0, 1, 0, 0, 0), (1, .iconst 0, 1, 0, 0, 0), (2, .sipush 4095, 3, 0, 0, 0), (5, .invokestatic 35, 3, 1, 79, 3), (8, .ireturn, 1, 0, 0, 0)]
def amC81 : List (List amEnt) := [amK81_0]
def amR81 : amRow := (4, yX4_isPrint, cX4_isPrint, 1, (some (.boolean)), [], 1, 22)
def amK82_0 : List amEnt := [(0, .aload_n 0, 1, 0, 0, 0), (1, .iload_n 1, 1, 0, 0, 0), (2, .ifCond .ne 7, 3, 0, 0, 0), (5, .iconst 1, 1, 0, 0, 0), (6, .goto 12, 3, 0, 0, 0), (9, .iload_n 2, 1, 0, 0, 0), (10, .ifCond .eq 7, 3, 0, 0, 0), (13, .iconst 0, 1, 0, 0, 0), (14, .goto 4, 3, 0, 0, 0), (17, .iconst 2, 1, 0, 0, 0), (18, .putfield 31, 3, 4, 7, 0), (21, .aload_n 0, 1, 0, 0, 0), (22, .getfield 31, 3, 4, 7, 0), (25, .ifCond .ne 7, 3, 0, 0, 0), (28, .iconst 1, 1, 0, 0, 0), (29, .goto 4, 3, 0, 0, 0), (32, .iconst 0, 1, 0, 0, 0), (33, .ireturn, 1, 0, 0, 0)]
def amC82 : List (List amEnt) := [amK82_0]
def amR82 : amRow := (4, yX4_goes, cX4_goes, 3, (some (.boolean)), [], 0, 0)
def amK83_0 : List amEnt := [(0, .iconst 1, 1, 0, 0, 0), (1, .aload_n 0, 1, 0, 0, 0), (2, .getfield 13, 3, 4, 1, 0), (5, .iload_n 1, 1, 0, 0, 0), (6, .iaload, 1, 0, 0, 0), (7, .ishl, 1, 0, 0, 0), (8, .ireturn, 1, 0, 0, 0)]
def amC83 : List (List amEnt) := [amK83_0]
def amR83 : amRow := (4, yX4_slotsOf, cX4_slotsOf, 2, (some (.int)), [], 0, 0)
def amK84_0 : List amEnt := [(0, .iload_n 0, 1, 0, 0, 0), (1, .bipush 7, 2, 0, 0, 0), (3, .iadd, 1, 0, 0, 0), (4, .iconst 1, 1, 0, 0, 0), (5, .isub, 1, 0, 0, 0), (6, .bipush 7, 2, 0, 0, 0), (8, .idiv, 1, 0, 0, 0), (9, .ireturn, 1, 0, 0, 0)]
def amC84 : List (List amEnt) := [amK84_0]
def amR84 : amRow := (4, yX4_entriesOf, cX4_entriesOf, 1, (some (.int)), [], 0, 0)
def amK85_0 : List amEnt := [(0, .iconst 0, 1, 0, 0, 0), (1, .istore_n 2, 1, 0, 0, 0), (2, .iconst 0, 1, 0, 0, 0), (3, .istore_n 3, 1, 0, 0, 0), (4, .iload_n 3, 1, 0, 0, 0), (5, .sipush 4096, 3, 0, 0, 0), (8, .if_icmp .ge 27, 3, 0, 0, 0), (11, .iload_n 2, 1, 0, 0, 0), (12, .aload_n 0, 1, 0, 0, 0), (13, .getfield 7, 3, 4, 0, 0), (16, .sipush 4096, 3, 0, 0, 0), (19, .iload_n 1, 1, 0, 0, 0), (20, .imul, 1, 0, 0, 0), (21, .iload_n 3, 1, 0, 0, 0), (22, .iadd, 1, 0, 0, 0), (23, .iaload, 1, 0, 0, 0), (24, .invokestatic 39, 3, 1, 84, 1), (27, .iadd, 1, 0, 0, 0), (28, .istore_n 2, 1, 0, 0, 0), (29, .iinc 3 1, 3, 0, 0, 0), (32, .goto (-28), 3, 0, 0, 0), (35, .iload_n 2, 1, 0, 0, 0), (36, .ireturn, 1, 0, 0, 0)]
def amC85 : List (List amEnt) := [amK85_0]
def amR85 : amRow := (4, yX4_countEntries, cX4_countEntries, 4, (some (.int)), [], 1, 20)
def amK86_0 : List amEnt := [(0, .iload_n 0, 1, 0, 0, 0), (1, .iload_n 1, 1, 0, 0, 0), (2, .bipush 8, 2, 0, 0, 0), (4, .idiv, 1, 0, 0, 0), (5, .bipush 7, 2, 0, 0, 0), (7, .imul, 1, 0, 0, 0), (8, .if_icmp .gt 7, 3, 0, 0, 0), (11, .iconst 1, 1, 0, 0, 0), (12, .goto 4, 3, 0, 0, 0), (15, .iconst 0, 1, 0, 0, 0), (16, .ireturn, 1, 0, 0, 0)]
def amC86 : List (List amEnt) := [amK86_0]
def amR86 : amRow := (4, yX4_hasRoom, cX4_hasRoom, 2, (some (.boolean)), [], 0, 0)
def amK87_0 : List amEnt := [(0, .iload_n 0, 1, 0, 0, 0), (1, .ldc 43, 2, 0, 0, (-1640531527)), (3, .imul, 1, 0, 0, 0), (4, .bipush 20, 2, 0, 0, 0), (6, .iushr, 1, 0, 0, 0), (7, .ireturn, 1, 0, 0, 0)]
def amC87 : List (List amEnt) := [amK87_0]
def amR87 : amRow := (4, yX4_printOf, cX4_printOf, 1, (some (.int)), [], 0, 0)
def amK88_0 : List amEnt := [(0, .iconst 0, 1, 0, 0, 0), (1, .istore_n 2, 1, 0, 0, 0), (2, .iconst 0, 1, 0, 0, 0), (3, .istore_n 3, 1, 0, 0, 0), (4, .iload_n 3, 1, 0, 0, 0), (5, .iconst 2, 1, 0, 0, 0), (6, .if_icmp .ge 90, 3, 0, 0, 0), (9, .iload_n 2, 1, 0, 0, 0), (10, .istore 4, 2, 0, 0, 0), (12, .iconst 0, 1, 0, 0, 0), (13, .istore 5, 2, 0, 0, 0), (15, .iload 5, 2, 0, 0, 0), (17, .iload_n 1, 1, 0, 0, 0), (18, .if_icmp .ge 57, 3, 0, 0, 0), (21, .aload_n 0, 1, 0, 0, 0), (22, .getfield 22, 3, 4, 4, 0), (25, .iload 5, 2, 0, 0, 0), (27, .iaload, 1, 0, 0, 0), (28, .ifCond .le 41, 3, 0, 0, 0), (31, .aload_n 0, 1, 0, 0, 0), (32, .getfield 25, 3, 4, 5, 0), (35, .iload 5, 2, 0, 0, 0), (37, .iload 4, 2, 0, 0, 0), (39, .iload 5, 2, 0, 0, 0), (41, .if_icmp .le 8, 3, 0, 0, 0), (44, .iload 4, 2, 0, 0, 0), (46, .goto 5, 3, 0, 0, 0), (49, .iload 5, 2, 0, 0, 0), (51, .iastore, 1, 0, 0, 0), (52, .aload_n 0, 1, 0, 0, 0), (53, .getfield 25, 3, 4, 5, 0), (56, .iload 5, 2, 0, 0, 0), (58, .iaload, 1, 0, 0, 0), (59, .aload_n 0, 1, 0, 0, 0), (60, .getfield 22, 3, 4, 4, 0), (63, .iload 5, 2, 0, 0, 0)]
def amK88_1 : List amEnt := [(65, .iaload, 1, 0, 0, 0), (66, .iadd, 1, 0, 0, 0), (67, .istore 4, 2, 0, 0, 0), (69, .iinc 5 1, 3, 0, 0, 0), (72, .goto (-57), 3, 0, 0, 0), (75, .iload 4, 2, 0, 0, 0), (77, .iload_n 1, 1, 0, 0, 0), (78, .if_icmp .le 10, 3, 0, 0, 0), (81, .iload 4, 2, 0, 0, 0), (83, .iload_n 1, 1, 0, 0, 0), (84, .isub, 1, 0, 0, 0), (85, .goto 4, 3, 0, 0, 0), (88, .iconst 0, 1, 0, 0, 0), (89, .istore_n 2, 1, 0, 0, 0), (90, .iinc 3 1, 3, 0, 0, 0), (93, .goto (-89), 3, 0, 0, 0), (96, .return_, 1, 0, 0, 0)]
def amC88 : List (List amEnt) := [amK88_0, amK88_1]
def amR88 : amRow := (4, yX4_places, cX4_places, 6, none, [], 0, 0)
def amK89_0 : List amEnt := [(0, .aload_n 0, 1, 0, 0, 0), (1, .iload_n 1, 1, 0, 0, 0), (2, .invokevirtual 44, 3, 0, 83, 1), (5, .istore_n 2, 1, 0, 0, 0), (6, .bipush 12, 2, 0, 0, 0), (8, .aload_n 0, 1, 0, 0, 0), (9, .getfield 13, 3, 4, 1, 0), (12, .iload_n 1, 1, 0, 0, 0), (13, .iaload, 1, 0, 0, 0), (14, .isub, 1, 0, 0, 0), (15, .istore_n 3, 1, 0, 0, 0), (16, .iconst 0, 1, 0, 0, 0), (17, .istore 4, 2, 0, 0, 0), (19, .iload 4, 2, 0, 0, 0), (21, .iload_n 2, 1, 0, 0, 0), (22, .if_icmp .ge 41, 3, 0, 0, 0), (25, .aload_n 0, 1, 0, 0, 0), (26, .getfield 22, 3, 4, 4, 0), (29, .iload 4, 2, 0, 0, 0), (31, .iconst 0, 1, 0, 0, 0), (32, .iastore, 1, 0, 0, 0), (33, .aload_n 0, 1, 0, 0, 0), (34, .getfield 28, 3, 4, 6, 0), (37, .iload 4, 2, 0, 0, 0), (39, .iconst 0, 1, 0, 0, 0), (40, .iastore, 1, 0, 0, 0), (41, .aload_n 0, 1, 0, 0, 0), (42, .getfield 16, 3, 4, 2, 0), (45, .iload 4, 2, 0, 0, 0), (47, .iconst 0, 1, 0, 0, 0), (48, .iastore, 1, 0, 0, 0), (49, .aload_n 0, 1, 0, 0, 0), (50, .getfield 19, 3, 4, 3, 0), (53, .iload 4, 2, 0, 0, 0), (55, .iconst 0, 1, 0, 0, 0), (56, .iastore, 1, 0, 0, 0), (57, .iinc 4 1, 3, 0, 0, 0), (60, .goto (-41), 3, 0, 0, 0), (63, .iconst 0, 1, 0, 0, 0)]
def amK89_1 : List amEnt := [(64, .istore 4, 2, 0, 0, 0), (66, .iload 4, 2, 0, 0, 0), (68, .sipush 4096, 3, 0, 0, 0), (71, .if_icmp .ge 37, 3, 0, 0, 0), (74, .aload_n 0, 1, 0, 0, 0), (75, .getfield 22, 3, 4, 4, 0), (78, .iload 4, 2, 0, 0, 0), (80, .iload_n 3, 1, 0, 0, 0), (81, .ishr, 1, 0, 0, 0), (82, .dup2, 1, 0, 0, 0), (83, .iaload, 1, 0, 0, 0), (84, .aload_n 0, 1, 0, 0, 0), (85, .getfield 7, 3, 4, 0, 0), (88, .sipush 4096, 3, 0, 0, 0), (91, .iload_n 1, 1, 0, 0, 0), (92, .imul, 1, 0, 0, 0), (93, .iload 4, 2, 0, 0, 0), (95, .iadd, 1, 0, 0, 0), (96, .iaload, 1, 0, 0, 0), (97, .invokestatic 39, 3, 1, 84, 1), (100, .iadd, 1, 0, 0, 0), (101, .iastore, 1, 0, 0, 0), (102, .iinc 4 1, 3, 0, 0, 0), (105, .goto (-39), 3, 0, 0, 0), (108, .aload_n 0, 1, 0, 0, 0), (109, .iload_n 2, 1, 0, 0, 0), (110, .invokevirtual 47, 3, 0, 88, 1), (113, .iconst 0, 1, 0, 0, 0), (114, .istore 4, 2, 0, 0, 0), (116, .iload 4, 2, 0, 0, 0), (118, .sipush 4096, 3, 0, 0, 0), (121, .if_icmp .ge 103, 3, 0, 0, 0), (124, .iload 4, 2, 0, 0, 0), (126, .iload_n 3, 1, 0, 0, 0), (127, .ishr, 1, 0, 0, 0)]
def amK89_2 : List amEnt := [(128, .istore 5, 2, 0, 0, 0), (130, .aload_n 0, 1, 0, 0, 0), (131, .getfield 7, 3, 4, 0, 0), (134, .sipush 4096, 3, 0, 0, 0), (137, .iload_n 1, 1, 0, 0, 0), (138, .imul, 1, 0, 0, 0), (139, .iload 4, 2, 0, 0, 0), (141, .iadd, 1, 0, 0, 0), (142, .iaload, 1, 0, 0, 0), (143, .istore 6, 2, 0, 0, 0), (145, .iload 6, 2, 0, 0, 0), (147, .ifCond .le 71, 3, 0, 0, 0), (150, .aload_n 0, 1, 0, 0, 0), (151, .getfield 25, 3, 4, 5, 0), (154, .iload 5, 2, 0, 0, 0), (156, .iaload, 1, 0, 0, 0), (157, .aload_n 0, 1, 0, 0, 0), (158, .getfield 28, 3, 4, 6, 0), (161, .iload 5, 2, 0, 0, 0), (163, .iaload, 1, 0, 0, 0), (164, .iadd, 1, 0, 0, 0), (165, .iload_n 2, 1, 0, 0, 0), (166, .irem, 1, 0, 0, 0), (167, .istore 7, 2, 0, 0, 0), (169, .aload_n 0, 1, 0, 0, 0), (170, .getfield 16, 3, 4, 2, 0), (173, .iload 7, 2, 0, 0, 0), (175, .iload 4, 2, 0, 0, 0), (177, .iconst 1, 1, 0, 0, 0), (178, .iadd, 1, 0, 0, 0), (179, .iastore, 1, 0, 0, 0), (180, .aload_n 0, 1, 0, 0, 0), (181, .getfield 19, 3, 4, 3, 0), (184, .iload 7, 2, 0, 0, 0), (186, .iload 6, 2, 0, 0, 0), (188, .bipush 7, 2, 0, 0, 0), (190, .if_icmp .le 8, 3, 0, 0, 0)]
def amK89_3 : List amEnt := [(193, .bipush 7, 2, 0, 0, 0), (195, .goto 5, 3, 0, 0, 0), (198, .iload 6, 2, 0, 0, 0), (200, .iastore, 1, 0, 0, 0), (201, .aload_n 0, 1, 0, 0, 0), (202, .getfield 28, 3, 4, 6, 0), (205, .iload 5, 2, 0, 0, 0), (207, .dup2, 1, 0, 0, 0), (208, .iaload, 1, 0, 0, 0), (209, .iconst 1, 1, 0, 0, 0), (210, .iadd, 1, 0, 0, 0), (211, .iastore, 1, 0, 0, 0), (212, .iinc 6 (-7), 3, 0, 0, 0), (215, .goto (-70), 3, 0, 0, 0), (218, .iinc 4 1, 3, 0, 0, 0), (221, .goto (-105), 3, 0, 0, 0), (224, .return_, 1, 0, 0, 0)]
def amC89 : List (List amEnt) := [amK89_0, amK89_1, amK89_2, amK89_3]
def amR89 : amRow := (4, yX4_lays, cX4_lays, 8, none, [], 1, 25)
def amK90_0 : List amEnt := [(0, .aload_n 0, 1, 0, 0, 0), (1, .getfield 16, 3, 4, 2, 0), (4, .iload_n 1, 1, 0, 0, 0), (5, .iaload, 1, 0, 0, 0), (6, .ifCond .le 7, 3, 0, 0, 0), (9, .iconst 1, 1, 0, 0, 0), (10, .goto 4, 3, 0, 0, 0), (13, .iconst 0, 1, 0, 0, 0), (14, .ireturn, 1, 0, 0, 0)]
def amC90 : List (List amEnt) := [amK90_0]
def amR90 : amRow := (4, yX4_isEntry, cX4_isEntry, 2, (some (.boolean)), [], 0, 0)
def amK91_0 : List amEnt := [(0, .aload_n 0, 1, 0, 0, 0), (1, .getfield 16, 3, 4, 2, 0), (4, .iload_n 2, 1, 0, 0, 0), (5, .iaload, 1, 0, 0, 0), (6, .iconst 1, 1, 0, 0, 0), (7, .isub, 1, 0, 0, 0), (8, .bipush 12, 2, 0, 0, 0), (10, .aload_n 0, 1, 0, 0, 0), (11, .getfield 13, 3, 4, 1, 0), (14, .iload_n 1, 1, 0, 0, 0), (15, .iaload, 1, 0, 0, 0), (16, .isub, 1, 0, 0, 0), (17, .ishr, 1, 0, 0, 0), (18, .ireturn, 1, 0, 0, 0)]
def amC91 : List (List amEnt) := [amK91_0]
def amR91 : amRow := (4, yX4_quotientIn, cX4_quotientIn, 3, (some (.int)), [], 0, 0)
def amK92_0 : List amEnt := [(0, .aload_n 0, 1, 0, 0, 0), (1, .iload_n 2, 1, 0, 0, 0), (2, .invokevirtual 51, 3, 0, 90, 1), (5, .ifCond .eq 17, 3, 0, 0, 0), (8, .aload_n 0, 1, 0, 0, 0), (9, .iload_n 1, 1, 0, 0, 0), (10, .iload_n 2, 1, 0, 0, 0), (11, .invokevirtual 55, 3, 0, 91, 2), (14, .iload_n 2, 1, 0, 0, 0), (15, .if_icmp .eq 7, 3, 0, 0, 0), (18, .iconst 1, 1, 0, 0, 0), (19, .goto 4, 3, 0, 0, 0), (22, .iconst 0, 1, 0, 0, 0), (23, .ireturn, 1, 0, 0, 0)]
def amC92 : List (List amEnt) := [amK92_0]
def amR92 : amRow := (4, yX4_isMoved, cX4_isMoved, 3, (some (.boolean)), [], 1, 22)
def amK93_0 : List amEnt := [(0, .aload_n 0, 1, 0, 0, 0), (1, .iconst 0, 1, 0, 0, 0), (2, .putfield 31, 3, 4, 7, 0), (5, .iload_n 1, 1, 0, 0, 0), (6, .invokestatic 59, 3, 1, 87, 1), (9, .ireturn, 1, 0, 0, 0)]
def amC93 : List (List amEnt) := [amK93_0]
def amR93 : amRow := (4, yX4_fingerprint, cX4_fingerprint, 2, (some (.int)), [], 1, 20)
def amK94_0 : List amEnt := [(0, .aload_n 0, 1, 0, 0, 0), (1, .getfield 7, 3, 4, 0, 0), (4, .sipush 4096, 3, 0, 0, 0), (7, .iload_n 1, 1, 0, 0, 0), (8, .imul, 1, 0, 0, 0), (9, .iload_n 2, 1, 0, 0, 0), (10, .iadd, 1, 0, 0, 0), (11, .iaload, 1, 0, 0, 0), (12, .istore 4, 2, 0, 0, 0), (14, .aload_n 0, 1, 0, 0, 0), (15, .iload_n 1, 1, 0, 0, 0), (16, .invokevirtual 62, 3, 0, 85, 1), (19, .iload 4, 2, 0, 0, 0), (21, .invokestatic 39, 3, 1, 84, 1), (24, .isub, 1, 0, 0, 0), (25, .iload_n 3, 1, 0, 0, 0), (26, .invokestatic 39, 3, 1, 84, 1), (29, .iadd, 1, 0, 0, 0), (30, .istore 5, 2, 0, 0, 0), (32, .iload 5, 2, 0, 0, 0), (34, .aload_n 0, 1, 0, 0, 0), (35, .iload_n 1, 1, 0, 0, 0), (36, .invokevirtual 44, 3, 0, 83, 1), (39, .invokestatic 65, 3, 1, 86, 2), (42, .istore 6, 2, 0, 0, 0), (44, .aload_n 0, 1, 0, 0, 0), (45, .getfield 7, 3, 4, 0, 0), (48, .sipush 4096, 3, 0, 0, 0), (51, .iload_n 1, 1, 0, 0, 0), (52, .imul, 1, 0, 0, 0), (53, .iload_n 2, 1, 0, 0, 0), (54, .iadd, 1, 0, 0, 0), (55, .iload 6, 2, 0, 0, 0), (57, .ifCond .eq 7, 3, 0, 0, 0), (60, .iload_n 3, 1, 0, 0, 0), (61, .goto 5, 3, 0, 0, 0)]
def amK94_1 : List amEnt := [(64, .iload 4, 2, 0, 0, 0), (66, .iastore, 1, 0, 0, 0), (67, .iload 6, 2, 0, 0, 0), (69, .ireturn, 1, 0, 0, 0)]
def amC94 : List (List amEnt) := [amK94_0, amK94_1]
def amR94 : amRow := (4, yX4_changes, cX4_changes, 7, (some (.boolean)), [], 2, 43)
def amK95_0 : List amEnt := [(0, .aload_n 0, 1, 0, 0, 0), (1, .iload_n 1, 1, 0, 0, 0), (2, .invokestatic 69, 3, 1, 80, 1), (5, .iconst 1, 1, 0, 0, 0), (6, .invokevirtual 72, 3, 0, 82, 2), (9, .ifCond .ne 5, 3, 0, 0, 0), (12, .iconst 0, 1, 0, 0, 0), (13, .ireturn, 1, 0, 0, 0), (14, .sipush 4096, 3, 0, 0, 0), (17, .iload_n 1, 1, 0, 0, 0), (18, .imul, 1, 0, 0, 0), (19, .iload_n 2, 1, 0, 0, 0), (20, .invokestatic 59, 3, 1, 87, 1), (23, .iadd, 1, 0, 0, 0), (24, .istore_n 3, 1, 0, 0, 0), (25, .aload_n 0, 1, 0, 0, 0), (26, .aload_n 0, 1, 0, 0, 0), (27, .iload_n 1, 1, 0, 0, 0), (28, .iload_n 2, 1, 0, 0, 0), (29, .invokestatic 59, 3, 1, 87, 1), (32, .aload_n 0, 1, 0, 0, 0), (33, .getfield 7, 3, 4, 0, 0), (36, .iload_n 3, 1, 0, 0, 0), (37, .iaload, 1, 0, 0, 0), (38, .iconst 1, 1, 0, 0, 0), (39, .iadd, 1, 0, 0, 0), (40, .invokevirtual 76, 3, 0, 94, 3), (43, .ifCond .eq 7, 3, 0, 0, 0), (46, .iconst 0, 1, 0, 0, 0), (47, .goto 4, 3, 0, 0, 0), (50, .iconst 2, 1, 0, 0, 0), (51, .putfield 31, 3, 4, 7, 0), (54, .aload_n 0, 1, 0, 0, 0), (55, .getfield 31, 3, 4, 7, 0), (58, .ifCond .ne 12, 3, 0, 0, 0), (61, .aload_n 0, 1, 0, 0, 0), (62, .getfield 7, 3, 4, 0, 0)]
def amK95_1 : List amEnt := [(65, .iload_n 3, 1, 0, 0, 0), (66, .iaload, 1, 0, 0, 0), (67, .goto 4, 3, 0, 0, 0), (70, .iconst 0, 1, 0, 0, 0), (71, .ireturn, 1, 0, 0, 0)]
def amC95 : List (List amEnt) := [amK95_0, amK95_1]
def amR95 : amRow := (4, yX4_insert, cX4_insert, 4, (some (.int)), [], 3, 69)
def amK96_0 : List amEnt := [(0, .aload_n 0, 1, 0, 0, 0), (1, .iload_n 1, 1, 0, 0, 0), (2, .invokestatic 69, 3, 1, 80, 1), (5, .iconst 1, 1, 0, 0, 0), (6, .invokevirtual 72, 3, 0, 82, 2), (9, .ifCond .ne 5, 3, 0, 0, 0), (12, .iconst 0, 1, 0, 0, 0), (13, .ireturn, 1, 0, 0, 0), (14, .aload_n 0, 1, 0, 0, 0), (15, .getfield 7, 3, 4, 0, 0), (18, .sipush 4096, 3, 0, 0, 0), (21, .iload_n 1, 1, 0, 0, 0), (22, .imul, 1, 0, 0, 0), (23, .iload_n 2, 1, 0, 0, 0), (24, .invokestatic 59, 3, 1, 87, 1), (27, .iadd, 1, 0, 0, 0), (28, .iaload, 1, 0, 0, 0), (29, .istore_n 3, 1, 0, 0, 0), (30, .iload_n 3, 1, 0, 0, 0), (31, .ifCond .le 22, 3, 0, 0, 0), (34, .aload_n 0, 1, 0, 0, 0), (35, .iload_n 1, 1, 0, 0, 0), (36, .iload_n 2, 1, 0, 0, 0), (37, .invokestatic 59, 3, 1, 87, 1), (40, .iload_n 3, 1, 0, 0, 0), (41, .iconst 1, 1, 0, 0, 0), (42, .isub, 1, 0, 0, 0), (43, .invokevirtual 76, 3, 0, 94, 3), (46, .ifCond .eq 7, 3, 0, 0, 0), (49, .iconst 1, 1, 0, 0, 0), (50, .goto 4, 3, 0, 0, 0), (53, .iconst 0, 1, 0, 0, 0), (54, .ireturn, 1, 0, 0, 0)]
def amC96 : List (List amEnt) := [amK96_0]
def amR96 : amRow := (4, yX4_remove, cX4_remove, 4, (some (.boolean)), [], 3, 69)
def amK97_0 : List amEnt := [(0, .aload_n 0, 1, 0, 0, 0), (1, .iload_n 1, 1, 0, 0, 0), (2, .invokestatic 69, 3, 1, 80, 1), (5, .iconst 1, 1, 0, 0, 0), (6, .invokevirtual 72, 3, 0, 82, 2), (9, .ifCond .eq 21, 3, 0, 0, 0), (12, .aload_n 0, 1, 0, 0, 0), (13, .getfield 7, 3, 4, 0, 0), (16, .sipush 4096, 3, 0, 0, 0), (19, .iload_n 1, 1, 0, 0, 0), (20, .imul, 1, 0, 0, 0), (21, .iload_n 2, 1, 0, 0, 0), (22, .invokestatic 59, 3, 1, 87, 1), (25, .iadd, 1, 0, 0, 0), (26, .iaload, 1, 0, 0, 0), (27, .goto 4, 3, 0, 0, 0), (30, .iconst 0, 1, 0, 0, 0), (31, .ireturn, 1, 0, 0, 0)]
def amC97 : List (List amEnt) := [amK97_0]
def amR97 : amRow := (4, yX4_count, cX4_count, 3, (some (.int)), [], 2, 42)
def amK98_0 : List amEnt := [(0, .aload_n 0, 1, 0, 0, 0), (1, .iload_n 1, 1, 0, 0, 0), (2, .invokestatic 69, 3, 1, 80, 1), (5, .iload_n 2, 1, 0, 0, 0), (6, .invokestatic 79, 3, 1, 81, 1), (9, .ifCond .eq 17, 3, 0, 0, 0), (12, .iload_n 3, 1, 0, 0, 0), (13, .iconst 1, 1, 0, 0, 0), (14, .bipush 100, 2, 0, 0, 0), (16, .invokestatic 35, 3, 1, 79, 3), (19, .ifCond .eq 7, 3, 0, 0, 0), (22, .iconst 1, 1, 0, 0, 0), (23, .goto 4, 3, 0, 0, 0), (26, .iconst 0, 1, 0, 0, 0), (27, .invokevirtual 72, 3, 0, 82, 2), (30, .ifCond .ne 5, 3, 0, 0, 0), (33, .iconst 0, 1, 0, 0, 0), (34, .ireturn, 1, 0, 0, 0), (35, .aload_n 0, 1, 0, 0, 0), (36, .getfield 7, 3, 4, 0, 0), (39, .sipush 4096, 3, 0, 0, 0), (42, .iload_n 1, 1, 0, 0, 0), (43, .imul, 1, 0, 0, 0), (44, .iload_n 2, 1, 0, 0, 0), (45, .iadd, 1, 0, 0, 0), (46, .iaload, 1, 0, 0, 0), (47, .iload_n 3, 1, 0, 0, 0), (48, .iadd, 1, 0, 0, 0), (49, .istore 4, 2, 0, 0, 0), (51, .aload_n 0, 1, 0, 0, 0), (52, .aload_n 0, 1, 0, 0, 0), (53, .iload_n 1, 1, 0, 0, 0), (54, .iload_n 2, 1, 0, 0, 0), (55, .iload 4, 2, 0, 0, 0), (57, .invokevirtual 76, 3, 0, 94, 3), (60, .ifCond .eq 7, 3, 0, 0, 0), (63, .iconst 0, 1, 0, 0, 0)]
def amK98_1 : List amEnt := [(64, .goto 4, 3, 0, 0, 0), (67, .iconst 3, 1, 0, 0, 0), (68, .putfield 31, 3, 4, 7, 0), (71, .aload_n 0, 1, 0, 0, 0), (72, .getfield 31, 3, 4, 7, 0), (75, .ifCond .ne 8, 3, 0, 0, 0), (78, .iload 4, 2, 0, 0, 0), (80, .goto 4, 3, 0, 0, 0), (83, .iconst 0, 1, 0, 0, 0), (84, .ireturn, 1, 0, 0, 0)]
def amC98 : List (List amEnt) := [amK98_0, amK98_1]
def amR98 : amRow := (4, yX4_add, cX4_add, 5, (some (.int)), [], 3, 69)
def amK99_0 : List amEnt := [(0, .aload_n 0, 1, 0, 0, 0), (1, .iload_n 1, 1, 0, 0, 0), (2, .invokestatic 69, 3, 1, 80, 1), (5, .iload_n 2, 1, 0, 0, 0), (6, .invokestatic 79, 3, 1, 81, 1), (9, .ifCond .eq 17, 3, 0, 0, 0), (12, .iload_n 3, 1, 0, 0, 0), (13, .iconst 1, 1, 0, 0, 0), (14, .bipush 100, 2, 0, 0, 0), (16, .invokestatic 35, 3, 1, 79, 3), (19, .ifCond .eq 7, 3, 0, 0, 0), (22, .iconst 1, 1, 0, 0, 0), (23, .goto 4, 3, 0, 0, 0), (26, .iconst 0, 1, 0, 0, 0), (27, .invokevirtual 72, 3, 0, 82, 2), (30, .ifCond .ne 5, 3, 0, 0, 0), (33, .iconst 0, 1, 0, 0, 0), (34, .ireturn, 1, 0, 0, 0), (35, .aload_n 0, 1, 0, 0, 0), (36, .getfield 7, 3, 4, 0, 0), (39, .sipush 4096, 3, 0, 0, 0), (42, .iload_n 1, 1, 0, 0, 0), (43, .imul, 1, 0, 0, 0), (44, .iload_n 2, 1, 0, 0, 0), (45, .iadd, 1, 0, 0, 0), (46, .iaload, 1, 0, 0, 0), (47, .istore 4, 2, 0, 0, 0), (49, .iload_n 3, 1, 0, 0, 0), (50, .iload 4, 2, 0, 0, 0), (52, .if_icmp .le 8, 3, 0, 0, 0), (55, .iload 4, 2, 0, 0, 0), (57, .goto 4, 3, 0, 0, 0), (60, .iload_n 3, 1, 0, 0, 0), (61, .istore 5, 2, 0, 0, 0), (63, .aload_n 0, 1, 0, 0, 0)]
def amK99_1 : List amEnt := [(64, .getfield 7, 3, 4, 0, 0), (67, .sipush 4096, 3, 0, 0, 0), (70, .iload_n 1, 1, 0, 0, 0), (71, .imul, 1, 0, 0, 0), (72, .iload_n 2, 1, 0, 0, 0), (73, .iadd, 1, 0, 0, 0), (74, .iload 4, 2, 0, 0, 0), (76, .iload 5, 2, 0, 0, 0), (78, .isub, 1, 0, 0, 0), (79, .iastore, 1, 0, 0, 0), (80, .iload 5, 2, 0, 0, 0), (82, .ireturn, 1, 0, 0, 0)]
def amC99 : List (List amEnt) := [amK99_0, amK99_1]
def amR99 : amRow := (4, yX4_take, cX4_take, 6, (some (.int)), [], 2, 42)
def amK100_0 : List amEnt := [(0, .aload_n 0, 1, 0, 0, 0), (1, .iload_n 1, 1, 0, 0, 0), (2, .invokestatic 69, 3, 1, 80, 1), (5, .iload_n 2, 1, 0, 0, 0), (6, .invokestatic 79, 3, 1, 81, 1), (9, .invokevirtual 72, 3, 0, 82, 2), (12, .ifCond .eq 18, 3, 0, 0, 0), (15, .aload_n 0, 1, 0, 0, 0), (16, .getfield 7, 3, 4, 0, 0), (19, .sipush 4096, 3, 0, 0, 0), (22, .iload_n 1, 1, 0, 0, 0), (23, .imul, 1, 0, 0, 0), (24, .iload_n 2, 1, 0, 0, 0), (25, .iadd, 1, 0, 0, 0), (26, .iaload, 1, 0, 0, 0), (27, .goto 4, 3, 0, 0, 0), (30, .iconst 0, 1, 0, 0, 0), (31, .ireturn, 1, 0, 0, 0)]
def amC100 : List (List amEnt) := [amK100_0]
def amR100 : amRow := (4, yX4_countOf, cX4_countOf, 3, (some (.int)), [], 2, 42)
def amK101_0 : List amEnt := [(0, .aload_n 0, 1, 0, 0, 0), (1, .iload_n 1, 1, 0, 0, 0), (2, .iload_n 2, 1, 0, 0, 0), (3, .invokevirtual 82, 3, 0, 100, 2), (6, .ireturn, 1, 0, 0, 0)]
def amC101 : List (List amEnt) := [amK101_0]
def amR101 : amRow := (4, yX4_countInLists, cX4_countInLists, 3, (some (.int)), [], 3, 64)
def amK102_0 : List amEnt := [(0, .aload_n 0, 1, 0, 0, 0), (1, .iload_n 1, 1, 0, 0, 0), (2, .invokestatic 69, 3, 1, 80, 1), (5, .iload_n 2, 1, 0, 0, 0), (6, .invokestatic 79, 3, 1, 81, 1), (9, .invokevirtual 72, 3, 0, 82, 2), (12, .ifCond .ne 5, 3, 0, 0, 0), (15, .iconst 0, 1, 0, 0, 0), (16, .ireturn, 1, 0, 0, 0), (17, .bipush 12, 2, 0, 0, 0), (19, .aload_n 0, 1, 0, 0, 0), (20, .getfield 13, 3, 4, 1, 0), (23, .iload_n 1, 1, 0, 0, 0), (24, .iaload, 1, 0, 0, 0), (25, .isub, 1, 0, 0, 0), (26, .istore_n 3, 1, 0, 0, 0), (27, .iload_n 2, 1, 0, 0, 0), (28, .iload_n 3, 1, 0, 0, 0), (29, .ishr, 1, 0, 0, 0), (30, .iload_n 3, 1, 0, 0, 0), (31, .ishl, 1, 0, 0, 0), (32, .istore 4, 2, 0, 0, 0), (34, .iconst 0, 1, 0, 0, 0), (35, .istore 5, 2, 0, 0, 0), (37, .iload 4, 2, 0, 0, 0), (39, .istore 6, 2, 0, 0, 0), (41, .iload 6, 2, 0, 0, 0), (43, .iload_n 2, 1, 0, 0, 0), (44, .if_icmp .ge 30, 3, 0, 0, 0), (47, .iload 5, 2, 0, 0, 0), (49, .aload_n 0, 1, 0, 0, 0), (50, .getfield 7, 3, 4, 0, 0), (53, .sipush 4096, 3, 0, 0, 0), (56, .iload_n 1, 1, 0, 0, 0), (57, .imul, 1, 0, 0, 0), (58, .iload 6, 2, 0, 0, 0), (60, .iadd, 1, 0, 0, 0), (61, .iaload, 1, 0, 0, 0), (62, .invokestatic 39, 3, 1, 84, 1)]
def amK102_1 : List amEnt := [(65, .iadd, 1, 0, 0, 0), (66, .istore 5, 2, 0, 0, 0), (68, .iinc 6 1, 3, 0, 0, 0), (71, .goto (-30), 3, 0, 0, 0), (74, .iconst 0, 1, 0, 0, 0), (75, .istore 6, 2, 0, 0, 0), (77, .iload_n 2, 1, 0, 0, 0), (78, .istore 7, 2, 0, 0, 0), (80, .iload 7, 2, 0, 0, 0), (82, .iload 4, 2, 0, 0, 0), (84, .iconst 1, 1, 0, 0, 0), (85, .iload_n 3, 1, 0, 0, 0), (86, .ishl, 1, 0, 0, 0), (87, .iadd, 1, 0, 0, 0), (88, .if_icmp .ge 37, 3, 0, 0, 0), (91, .iload 6, 2, 0, 0, 0), (93, .ifCond .ne 19, 3, 0, 0, 0), (96, .aload_n 0, 1, 0, 0, 0), (97, .getfield 7, 3, 4, 0, 0), (100, .sipush 4096, 3, 0, 0, 0), (103, .iload_n 1, 1, 0, 0, 0), (104, .imul, 1, 0, 0, 0), (105, .iload 7, 2, 0, 0, 0), (107, .iadd, 1, 0, 0, 0), (108, .iaload, 1, 0, 0, 0), (109, .ifCond .le 7, 3, 0, 0, 0), (112, .iconst 1, 1, 0, 0, 0), (113, .goto 4, 3, 0, 0, 0), (116, .iconst 0, 1, 0, 0, 0), (117, .istore 6, 2, 0, 0, 0), (119, .iinc 7 1, 3, 0, 0, 0), (122, .goto (-42), 3, 0, 0, 0), (125, .iload 6, 2, 0, 0, 0), (127, .ifCond .eq 10, 3, 0, 0, 0)]
def amK102_2 : List amEnt := [(130, .iload 5, 2, 0, 0, 0), (132, .iconst 1, 1, 0, 0, 0), (133, .iadd, 1, 0, 0, 0), (134, .goto 5, 3, 0, 0, 0), (137, .iload 5, 2, 0, 0, 0), (139, .ireturn, 1, 0, 0, 0)]
def amC102 : List (List amEnt) := [amK102_0, amK102_1, amK102_2]
def amR102 : amRow := (4, yX4_lookedAt, cX4_lookedAt, 8, (some (.int)), [], 2, 42)
def amK103_0 : List amEnt := [(0, .aload_n 0, 1, 0, 0, 0), (1, .iload_n 1, 1, 0, 0, 0), (2, .invokestatic 69, 3, 1, 80, 1), (5, .iconst 1, 1, 0, 0, 0), (6, .invokevirtual 72, 3, 0, 82, 2), (9, .istore_n 2, 1, 0, 0, 0), (10, .iconst 0, 1, 0, 0, 0), (11, .istore_n 3, 1, 0, 0, 0), (12, .iload_n 3, 1, 0, 0, 0), (13, .sipush 4096, 3, 0, 0, 0), (16, .if_icmp .ge 26, 3, 0, 0, 0), (19, .iload_n 2, 1, 0, 0, 0), (20, .ifCond .eq 22, 3, 0, 0, 0), (23, .aload_n 0, 1, 0, 0, 0), (24, .getfield 7, 3, 4, 0, 0), (27, .sipush 4096, 3, 0, 0, 0), (30, .iload_n 1, 1, 0, 0, 0), (31, .imul, 1, 0, 0, 0), (32, .iload_n 3, 1, 0, 0, 0), (33, .iadd, 1, 0, 0, 0), (34, .iconst 0, 1, 0, 0, 0), (35, .iastore, 1, 0, 0, 0), (36, .iinc 3 1, 3, 0, 0, 0), (39, .goto (-27), 3, 0, 0, 0), (42, .return_, 1, 0, 0, 0)]
def amC103 : List (List amEnt) := [amK103_0]
def amR103 : amRow := (4, yX4_clear, cX4_clear, 4, none, [], 2, 42)
def amK104_0 : List amEnt := [(0, .iload_n 1, 1, 0, 0, 0), (1, .invokestatic 69, 3, 1, 80, 1), (4, .istore_n 2, 1, 0, 0, 0), (5, .aload_n 0, 1, 0, 0, 0), (6, .iload_n 2, 1, 0, 0, 0), (7, .iload_n 2, 1, 0, 0, 0), (8, .ifCond .eq 18, 3, 0, 0, 0), (11, .aload_n 0, 1, 0, 0, 0), (12, .getfield 13, 3, 4, 1, 0), (15, .iload_n 1, 1, 0, 0, 0), (16, .iaload, 1, 0, 0, 0), (17, .bipush 8, 2, 0, 0, 0), (19, .if_icmp .ge 7, 3, 0, 0, 0), (22, .iconst 1, 1, 0, 0, 0), (23, .goto 4, 3, 0, 0, 0), (26, .iconst 0, 1, 0, 0, 0), (27, .invokevirtual 72, 3, 0, 82, 2), (30, .ifCond .ne 5, 3, 0, 0, 0), (33, .iconst 0, 1, 0, 0, 0), (34, .ireturn, 1, 0, 0, 0), (35, .aload_n 0, 1, 0, 0, 0), (36, .getfield 13, 3, 4, 1, 0), (39, .iload_n 1, 1, 0, 0, 0), (40, .dup2, 1, 0, 0, 0), (41, .iaload, 1, 0, 0, 0), (42, .iconst 1, 1, 0, 0, 0), (43, .iadd, 1, 0, 0, 0), (44, .iastore, 1, 0, 0, 0), (45, .aload_n 0, 1, 0, 0, 0), (46, .iload_n 1, 1, 0, 0, 0), (47, .invokevirtual 44, 3, 0, 83, 1), (50, .ireturn, 1, 0, 0, 0)]
def amC104 : List (List amEnt) := [amK104_0]
def amR104 : amRow := (4, yX4_grow, cX4_grow, 3, (some (.int)), [], 2, 42)
def amK105_0 : List amEnt := [(0, .iload_n 1, 1, 0, 0, 0), (1, .invokestatic 69, 3, 1, 80, 1), (4, .istore_n 2, 1, 0, 0, 0), (5, .aload_n 0, 1, 0, 0, 0), (6, .iload_n 2, 1, 0, 0, 0), (7, .iload_n 2, 1, 0, 0, 0), (8, .ifCond .eq 35, 3, 0, 0, 0), (11, .aload_n 0, 1, 0, 0, 0), (12, .getfield 13, 3, 4, 1, 0), (15, .iload_n 1, 1, 0, 0, 0), (16, .iaload, 1, 0, 0, 0), (17, .iconst 3, 1, 0, 0, 0), (18, .if_icmp .le 25, 3, 0, 0, 0), (21, .aload_n 0, 1, 0, 0, 0), (22, .iload_n 1, 1, 0, 0, 0), (23, .invokevirtual 62, 3, 0, 85, 1), (26, .aload_n 0, 1, 0, 0, 0), (27, .iload_n 1, 1, 0, 0, 0), (28, .invokevirtual 44, 3, 0, 83, 1), (31, .iconst 2, 1, 0, 0, 0), (32, .idiv, 1, 0, 0, 0), (33, .invokestatic 65, 3, 1, 86, 2), (36, .ifCond .eq 7, 3, 0, 0, 0), (39, .iconst 1, 1, 0, 0, 0), (40, .goto 4, 3, 0, 0, 0), (43, .iconst 0, 1, 0, 0, 0), (44, .invokevirtual 72, 3, 0, 82, 2), (47, .ifCond .ne 5, 3, 0, 0, 0), (50, .iconst 0, 1, 0, 0, 0), (51, .ireturn, 1, 0, 0, 0), (52, .aload_n 0, 1, 0, 0, 0), (53, .getfield 13, 3, 4, 1, 0), (56, .iload_n 1, 1, 0, 0, 0), (57, .dup2, 1, 0, 0, 0), (58, .iaload, 1, 0, 0, 0), (59, .iconst 1, 1, 0, 0, 0), (60, .isub, 1, 0, 0, 0), (61, .iastore, 1, 0, 0, 0), (62, .aload_n 0, 1, 0, 0, 0), (63, .iload_n 1, 1, 0, 0, 0)]
def amK105_1 : List amEnt := [(64, .invokevirtual 44, 3, 0, 83, 1), (67, .ireturn, 1, 0, 0, 0)]
def amC105 : List (List amEnt) := [amK105_0, amK105_1]
def amR105 : amRow := (4, yX4_shrink, cX4_shrink, 3, (some (.int)), [], 2, 43)
def amK106_0 : List amEnt := [(0, .aload_n 0, 1, 0, 0, 0), (1, .iload_n 1, 1, 0, 0, 0), (2, .invokestatic 69, 3, 1, 80, 1), (5, .ifCond .eq 14, 3, 0, 0, 0), (8, .iload_n 2, 1, 0, 0, 0), (9, .invokestatic 69, 3, 1, 80, 1), (12, .ifCond .eq 7, 3, 0, 0, 0), (15, .iconst 1, 1, 0, 0, 0), (16, .goto 4, 3, 0, 0, 0), (19, .iconst 0, 1, 0, 0, 0), (20, .iconst 1, 1, 0, 0, 0), (21, .invokevirtual 72, 3, 0, 82, 2), (24, .ifCond .ne 5, 3, 0, 0, 0), (27, .iconst 0, 1, 0, 0, 0), (28, .ireturn, 1, 0, 0, 0), (29, .iconst 0, 1, 0, 0, 0), (30, .istore_n 3, 1, 0, 0, 0), (31, .iconst 0, 1, 0, 0, 0), (32, .istore 4, 2, 0, 0, 0), (34, .iload 4, 2, 0, 0, 0), (36, .sipush 4096, 3, 0, 0, 0), (39, .if_icmp .ge 42, 3, 0, 0, 0), (42, .iload_n 3, 1, 0, 0, 0), (43, .aload_n 0, 1, 0, 0, 0), (44, .getfield 7, 3, 4, 0, 0), (47, .sipush 4096, 3, 0, 0, 0), (50, .iload_n 1, 1, 0, 0, 0), (51, .imul, 1, 0, 0, 0), (52, .iload 4, 2, 0, 0, 0), (54, .iadd, 1, 0, 0, 0), (55, .iaload, 1, 0, 0, 0), (56, .aload_n 0, 1, 0, 0, 0), (57, .getfield 7, 3, 4, 0, 0), (60, .sipush 4096, 3, 0, 0, 0), (63, .iload_n 2, 1, 0, 0, 0)]
def amK106_1 : List amEnt := [(64, .imul, 1, 0, 0, 0), (65, .iload 4, 2, 0, 0, 0), (67, .iadd, 1, 0, 0, 0), (68, .iaload, 1, 0, 0, 0), (69, .iadd, 1, 0, 0, 0), (70, .invokestatic 39, 3, 1, 84, 1), (73, .iadd, 1, 0, 0, 0), (74, .istore_n 3, 1, 0, 0, 0), (75, .iinc 4 1, 3, 0, 0, 0), (78, .goto (-44), 3, 0, 0, 0), (81, .aload_n 0, 1, 0, 0, 0), (82, .iload_n 3, 1, 0, 0, 0), (83, .aload_n 0, 1, 0, 0, 0), (84, .iload_n 1, 1, 0, 0, 0), (85, .invokevirtual 44, 3, 0, 83, 1), (88, .invokestatic 65, 3, 1, 86, 2), (91, .ifCond .eq 7, 3, 0, 0, 0), (94, .iconst 0, 1, 0, 0, 0), (95, .goto 4, 3, 0, 0, 0), (98, .iconst 2, 1, 0, 0, 0), (99, .putfield 31, 3, 4, 7, 0), (102, .iconst 0, 1, 0, 0, 0), (103, .istore 4, 2, 0, 0, 0), (105, .iload 4, 2, 0, 0, 0), (107, .sipush 4096, 3, 0, 0, 0), (110, .if_icmp .ge 45, 3, 0, 0, 0), (113, .aload_n 0, 1, 0, 0, 0), (114, .getfield 31, 3, 4, 7, 0), (117, .ifCond .ne 38, 3, 0, 0, 0), (120, .aload_n 0, 1, 0, 0, 0), (121, .getfield 7, 3, 4, 0, 0), (124, .sipush 4096, 3, 0, 0, 0), (127, .iload_n 1, 1, 0, 0, 0)]
def amK106_2 : List amEnt := [(128, .imul, 1, 0, 0, 0), (129, .iload 4, 2, 0, 0, 0), (131, .iadd, 1, 0, 0, 0), (132, .dup2, 1, 0, 0, 0), (133, .iaload, 1, 0, 0, 0), (134, .aload_n 0, 1, 0, 0, 0), (135, .getfield 7, 3, 4, 0, 0), (138, .sipush 4096, 3, 0, 0, 0), (141, .iload_n 2, 1, 0, 0, 0), (142, .imul, 1, 0, 0, 0), (143, .iload 4, 2, 0, 0, 0), (145, .iadd, 1, 0, 0, 0), (146, .iaload, 1, 0, 0, 0), (147, .iadd, 1, 0, 0, 0), (148, .iastore, 1, 0, 0, 0), (149, .iinc 4 1, 3, 0, 0, 0), (152, .goto (-47), 3, 0, 0, 0), (155, .aload_n 0, 1, 0, 0, 0), (156, .getfield 31, 3, 4, 7, 0), (159, .ifCond .ne 7, 3, 0, 0, 0), (162, .iload_n 3, 1, 0, 0, 0), (163, .goto 4, 3, 0, 0, 0), (166, .iconst 0, 1, 0, 0, 0), (167, .ireturn, 1, 0, 0, 0)]
def amC106 : List (List amEnt) := [amK106_0, amK106_1, amK106_2]
def amR106 : amRow := (4, yX4_merge, cX4_merge, 5, (some (.int)), [], 2, 42)
def amK107_0 : List amEnt := [(0, .aload_n 0, 1, 0, 0, 0), (1, .iload_n 1, 1, 0, 0, 0), (2, .invokestatic 69, 3, 1, 80, 1), (5, .ifCond .eq 14, 3, 0, 0, 0), (8, .iload_n 2, 1, 0, 0, 0), (9, .invokestatic 69, 3, 1, 80, 1), (12, .ifCond .eq 7, 3, 0, 0, 0), (15, .iconst 1, 1, 0, 0, 0), (16, .goto 4, 3, 0, 0, 0), (19, .iconst 0, 1, 0, 0, 0), (20, .iconst 1, 1, 0, 0, 0), (21, .invokevirtual 72, 3, 0, 82, 2), (24, .ifCond .ne 5, 3, 0, 0, 0), (27, .iconst 0, 1, 0, 0, 0), (28, .ireturn, 1, 0, 0, 0), (29, .iconst 0, 1, 0, 0, 0), (30, .istore_n 3, 1, 0, 0, 0), (31, .iload_n 3, 1, 0, 0, 0), (32, .sipush 4096, 3, 0, 0, 0), (35, .if_icmp .ge 69, 3, 0, 0, 0), (38, .aload_n 0, 1, 0, 0, 0), (39, .getfield 7, 3, 4, 0, 0), (42, .sipush 4096, 3, 0, 0, 0), (45, .iload_n 2, 1, 0, 0, 0), (46, .imul, 1, 0, 0, 0), (47, .iload_n 3, 1, 0, 0, 0), (48, .iadd, 1, 0, 0, 0), (49, .iaload, 1, 0, 0, 0), (50, .istore 4, 2, 0, 0, 0), (52, .aload_n 0, 1, 0, 0, 0), (53, .getfield 7, 3, 4, 0, 0), (56, .sipush 4096, 3, 0, 0, 0), (59, .iload_n 1, 1, 0, 0, 0), (60, .imul, 1, 0, 0, 0), (61, .iload_n 3, 1, 0, 0, 0), (62, .iadd, 1, 0, 0, 0), (63, .iload 4, 2, 0, 0, 0)]
def amK107_1 : List amEnt := [(65, .aload_n 0, 1, 0, 0, 0), (66, .getfield 7, 3, 4, 0, 0), (69, .sipush 4096, 3, 0, 0, 0), (72, .iload_n 1, 1, 0, 0, 0), (73, .imul, 1, 0, 0, 0), (74, .iload_n 3, 1, 0, 0, 0), (75, .iadd, 1, 0, 0, 0), (76, .iaload, 1, 0, 0, 0), (77, .if_icmp .ge 8, 3, 0, 0, 0), (80, .iload 4, 2, 0, 0, 0), (82, .goto 15, 3, 0, 0, 0), (85, .aload_n 0, 1, 0, 0, 0), (86, .getfield 7, 3, 4, 0, 0), (89, .sipush 4096, 3, 0, 0, 0), (92, .iload_n 1, 1, 0, 0, 0), (93, .imul, 1, 0, 0, 0), (94, .iload_n 3, 1, 0, 0, 0), (95, .iadd, 1, 0, 0, 0), (96, .iaload, 1, 0, 0, 0), (97, .iastore, 1, 0, 0, 0), (98, .iinc 3 1, 3, 0, 0, 0), (101, .goto (-70), 3, 0, 0, 0), (104, .aload_n 0, 1, 0, 0, 0), (105, .iload_n 1, 1, 0, 0, 0), (106, .invokevirtual 62, 3, 0, 85, 1), (109, .ireturn, 1, 0, 0, 0)]
def amC107 : List (List amEnt) := [amK107_0, amK107_1]
def amR107 : amRow := (4, yX4_intersect, cX4_intersect, 5, (some (.int)), [], 2, 43)
def amK108_0 : List amEnt := [(0, .aload_n 0, 1, 0, 0, 0), (1, .iload_n 1, 1, 0, 0, 0), (2, .invokestatic 69, 3, 1, 80, 1), (5, .ifCond .eq 14, 3, 0, 0, 0), (8, .iload_n 2, 1, 0, 0, 0), (9, .invokestatic 69, 3, 1, 80, 1), (12, .ifCond .eq 7, 3, 0, 0, 0), (15, .iconst 1, 1, 0, 0, 0), (16, .goto 4, 3, 0, 0, 0), (19, .iconst 0, 1, 0, 0, 0), (20, .iconst 1, 1, 0, 0, 0), (21, .invokevirtual 72, 3, 0, 82, 2), (24, .istore_n 3, 1, 0, 0, 0), (25, .iconst 0, 1, 0, 0, 0), (26, .istore 4, 2, 0, 0, 0), (28, .iload 4, 2, 0, 0, 0), (30, .sipush 4096, 3, 0, 0, 0), (33, .if_icmp .ge 48, 3, 0, 0, 0), (36, .iload_n 3, 1, 0, 0, 0), (37, .ifCond .eq 44, 3, 0, 0, 0), (40, .aload_n 0, 1, 0, 0, 0), (41, .getfield 7, 3, 4, 0, 0), (44, .sipush 4096, 3, 0, 0, 0), (47, .iload_n 1, 1, 0, 0, 0), (48, .imul, 1, 0, 0, 0), (49, .iload 4, 2, 0, 0, 0), (51, .iadd, 1, 0, 0, 0), (52, .iaload, 1, 0, 0, 0), (53, .aload_n 0, 1, 0, 0, 0), (54, .getfield 7, 3, 4, 0, 0), (57, .sipush 4096, 3, 0, 0, 0), (60, .iload_n 2, 1, 0, 0, 0), (61, .imul, 1, 0, 0, 0), (62, .iload 4, 2, 0, 0, 0)]
def amK108_1 : List amEnt := [(64, .iadd, 1, 0, 0, 0), (65, .iaload, 1, 0, 0, 0), (66, .if_icmp .ne 7, 3, 0, 0, 0), (69, .iconst 1, 1, 0, 0, 0), (70, .goto 4, 3, 0, 0, 0), (73, .iconst 0, 1, 0, 0, 0), (74, .istore_n 3, 1, 0, 0, 0), (75, .iinc 4 1, 3, 0, 0, 0), (78, .goto (-50), 3, 0, 0, 0), (81, .iload_n 3, 1, 0, 0, 0), (82, .ireturn, 1, 0, 0, 0)]
def amC108 : List (List amEnt) := [amK108_0, amK108_1]
def amR108 : amRow := (4, yX4_isSame, cX4_isSame, 5, (some (.boolean)), [], 2, 42)
def amK109_0 : List amEnt := [(0, .aload_n 0, 1, 0, 0, 0), (1, .iload_n 1, 1, 0, 0, 0), (2, .invokestatic 69, 3, 1, 80, 1), (5, .iconst 1, 1, 0, 0, 0), (6, .invokevirtual 72, 3, 0, 82, 2), (9, .ifCond .eq 11, 3, 0, 0, 0), (12, .aload_n 0, 1, 0, 0, 0), (13, .iload_n 1, 1, 0, 0, 0), (14, .invokevirtual 44, 3, 0, 83, 1), (17, .goto 4, 3, 0, 0, 0), (20, .iconst 0, 1, 0, 0, 0), (21, .ireturn, 1, 0, 0, 0)]
def amC109 : List (List amEnt) := [amK109_0]
def amR109 : amRow := (4, yX4_slots, cX4_slots, 2, (some (.int)), [], 2, 42)
def amK110_0 : List amEnt := [(0, .aload_n 0, 1, 0, 0, 0), (1, .iload_n 1, 1, 0, 0, 0), (2, .invokestatic 69, 3, 1, 80, 1), (5, .iconst 1, 1, 0, 0, 0), (6, .invokevirtual 72, 3, 0, 82, 2), (9, .ifCond .eq 11, 3, 0, 0, 0), (12, .aload_n 0, 1, 0, 0, 0), (13, .iload_n 1, 1, 0, 0, 0), (14, .invokevirtual 62, 3, 0, 85, 1), (17, .goto 4, 3, 0, 0, 0), (20, .iconst 0, 1, 0, 0, 0), (21, .ireturn, 1, 0, 0, 0)]
def amC110 : List (List amEnt) := [amK110_0]
def amR110 : amRow := (4, yX4_entries, cX4_entries, 2, (some (.int)), [], 2, 43)
def amK111_0 : List amEnt := [(0, .iconst 0, 1, 0, 0, 0), (1, .istore_n 2, 1, 0, 0, 0), (2, .aload_n 0, 1, 0, 0, 0), (3, .iload_n 1, 1, 0, 0, 0), (4, .invokestatic 69, 3, 1, 80, 1), (7, .iconst 1, 1, 0, 0, 0), (8, .invokevirtual 72, 3, 0, 82, 2), (11, .istore_n 3, 1, 0, 0, 0), (12, .iconst 0, 1, 0, 0, 0), (13, .istore 4, 2, 0, 0, 0), (15, .iload 4, 2, 0, 0, 0), (17, .sipush 4096, 3, 0, 0, 0), (20, .if_icmp .ge 37, 3, 0, 0, 0), (23, .iload_n 3, 1, 0, 0, 0), (24, .ifCond .eq 33, 3, 0, 0, 0), (27, .iload_n 2, 1, 0, 0, 0), (28, .aload_n 0, 1, 0, 0, 0), (29, .getfield 7, 3, 4, 0, 0), (32, .sipush 4096, 3, 0, 0, 0), (35, .iload_n 1, 1, 0, 0, 0), (36, .imul, 1, 0, 0, 0), (37, .iload 4, 2, 0, 0, 0), (39, .iadd, 1, 0, 0, 0), (40, .iaload, 1, 0, 0, 0), (41, .ifCond .le 7, 3, 0, 0, 0), (44, .iconst 1, 1, 0, 0, 0), (45, .goto 4, 3, 0, 0, 0), (48, .iconst 0, 1, 0, 0, 0), (49, .iadd, 1, 0, 0, 0), (50, .istore_n 2, 1, 0, 0, 0), (51, .iinc 4 1, 3, 0, 0, 0), (54, .goto (-39), 3, 0, 0, 0), (57, .iload_n 2, 1, 0, 0, 0), (58, .ireturn, 1, 0, 0, 0)]
def amC111 : List (List amEnt) := [amK111_0]
def amR111 : amRow := (4, yX4_distinct, cX4_distinct, 5, (some (.int)), [], 2, 42)
def amK112_0 : List amEnt := [(0, .iconst 0, 1, 0, 0, 0), (1, .istore_n 2, 1, 0, 0, 0), (2, .aload_n 0, 1, 0, 0, 0), (3, .iload_n 1, 1, 0, 0, 0), (4, .invokestatic 69, 3, 1, 80, 1), (7, .iconst 1, 1, 0, 0, 0), (8, .invokevirtual 72, 3, 0, 82, 2), (11, .istore_n 3, 1, 0, 0, 0), (12, .iconst 0, 1, 0, 0, 0), (13, .istore 4, 2, 0, 0, 0), (15, .iload 4, 2, 0, 0, 0), (17, .sipush 4096, 3, 0, 0, 0), (20, .if_icmp .ge 29, 3, 0, 0, 0), (23, .iload_n 3, 1, 0, 0, 0), (24, .ifCond .eq 25, 3, 0, 0, 0), (27, .iload_n 2, 1, 0, 0, 0), (28, .aload_n 0, 1, 0, 0, 0), (29, .getfield 7, 3, 4, 0, 0), (32, .sipush 4096, 3, 0, 0, 0), (35, .iload_n 1, 1, 0, 0, 0), (36, .imul, 1, 0, 0, 0), (37, .iload 4, 2, 0, 0, 0), (39, .iadd, 1, 0, 0, 0), (40, .iaload, 1, 0, 0, 0), (41, .iadd, 1, 0, 0, 0), (42, .istore_n 2, 1, 0, 0, 0), (43, .iinc 4 1, 3, 0, 0, 0), (46, .goto (-31), 3, 0, 0, 0), (49, .iload_n 2, 1, 0, 0, 0), (50, .ireturn, 1, 0, 0, 0)]
def amC112 : List (List amEnt) := [amK112_0]
def amR112 : amRow := (4, yX4_total, cX4_total, 5, (some (.int)), [], 2, 42)
def amK113_0 : List amEnt := [(0, .iload_n 2, 1, 0, 0, 0), (1, .istore_n 3, 1, 0, 0, 0), (2, .aload_n 0, 1, 0, 0, 0), (3, .iload_n 1, 1, 0, 0, 0), (4, .invokestatic 69, 3, 1, 80, 1), (7, .iconst 1, 1, 0, 0, 0), (8, .invokevirtual 72, 3, 0, 82, 2), (11, .ifCond .eq 11, 3, 0, 0, 0), (14, .iload_n 2, 1, 0, 0, 0), (15, .ifCond .lt 7, 3, 0, 0, 0), (18, .iconst 1, 1, 0, 0, 0), (19, .goto 4, 3, 0, 0, 0), (22, .iconst 0, 1, 0, 0, 0), (23, .istore 4, 2, 0, 0, 0), (25, .iconst 0, 1, 0, 0, 0), (26, .istore 5, 2, 0, 0, 0), (28, .iload 5, 2, 0, 0, 0), (30, .sipush 4096, 3, 0, 0, 0), (33, .if_icmp .ge 62, 3, 0, 0, 0), (36, .iload 4, 2, 0, 0, 0), (38, .ifCond .eq 57, 3, 0, 0, 0), (41, .aload_n 0, 1, 0, 0, 0), (42, .getfield 7, 3, 4, 0, 0), (45, .sipush 4096, 3, 0, 0, 0), (48, .iload_n 1, 1, 0, 0, 0), (49, .imul, 1, 0, 0, 0), (50, .iload 5, 2, 0, 0, 0), (52, .iadd, 1, 0, 0, 0), (53, .iaload, 1, 0, 0, 0), (54, .ifCond .le 7, 3, 0, 0, 0), (57, .iconst 1, 1, 0, 0, 0), (58, .goto 4, 3, 0, 0, 0), (61, .iconst 0, 1, 0, 0, 0), (62, .istore 6, 2, 0, 0, 0)]
def amK113_1 : List amEnt := [(64, .iload 6, 2, 0, 0, 0), (66, .ifCond .eq 10, 3, 0, 0, 0), (69, .iload_n 3, 1, 0, 0, 0), (70, .ifCond .ne 6, 3, 0, 0, 0), (73, .iload 5, 2, 0, 0, 0), (75, .ireturn, 1, 0, 0, 0), (76, .iload_n 3, 1, 0, 0, 0), (77, .iload 6, 2, 0, 0, 0), (79, .ifCond .eq 7, 3, 0, 0, 0), (82, .iconst 1, 1, 0, 0, 0), (83, .goto 4, 3, 0, 0, 0), (86, .iconst 0, 1, 0, 0, 0), (87, .isub, 1, 0, 0, 0), (88, .istore_n 3, 1, 0, 0, 0), (89, .iinc 5 1, 3, 0, 0, 0), (92, .goto (-64), 3, 0, 0, 0), (95, .aload_n 0, 1, 0, 0, 0), (96, .iconst 1, 1, 0, 0, 0), (97, .putfield 31, 3, 4, 7, 0), (100, .iconst 0, 1, 0, 0, 0), (101, .ireturn, 1, 0, 0, 0)]
def amC113 : List (List amEnt) := [amK113_0, amK113_1]
def amR113 : amRow := (4, yX4_fingerprintAt, cX4_fingerprintAt, 7, (some (.int)), [], 2, 42)
def amK114_0 : List amEnt := [(0, .aload_n 0, 1, 0, 0, 0), (1, .iload_n 1, 1, 0, 0, 0), (2, .invokestatic 69, 3, 1, 80, 1), (5, .ifCond .eq 22, 3, 0, 0, 0), (8, .iload_n 2, 1, 0, 0, 0), (9, .iconst 0, 1, 0, 0, 0), (10, .aload_n 0, 1, 0, 0, 0), (11, .iload_n 1, 1, 0, 0, 0), (12, .invokevirtual 44, 3, 0, 83, 1), (15, .iconst 1, 1, 0, 0, 0), (16, .isub, 1, 0, 0, 0), (17, .invokestatic 35, 3, 1, 79, 3), (20, .ifCond .eq 7, 3, 0, 0, 0), (23, .iconst 1, 1, 0, 0, 0), (24, .goto 4, 3, 0, 0, 0), (27, .iconst 0, 1, 0, 0, 0), (28, .iconst 1, 1, 0, 0, 0), (29, .invokevirtual 72, 3, 0, 82, 2), (32, .ifCond .ne 5, 3, 0, 0, 0), (35, .iconst 0, 1, 0, 0, 0), (36, .ireturn, 1, 0, 0, 0), (37, .aload_n 0, 1, 0, 0, 0), (38, .iload_n 1, 1, 0, 0, 0), (39, .invokevirtual 85, 3, 0, 89, 1), (42, .iconst 1, 1, 0, 0, 0), (43, .ireturn, 1, 0, 0, 0)]
def amC114 : List (List amEnt) := [amK114_0]
def amR114 : amRow := (4, yX4_isLaid, cX4_isLaid, 3, (some (.boolean)), [], 2, 52)
def amK115_0 : List amEnt := [(0, .aload_n 0, 1, 0, 0, 0), (1, .iload_n 1, 1, 0, 0, 0), (2, .iload_n 2, 1, 0, 0, 0), (3, .invokevirtual 88, 3, 0, 114, 2), (6, .ifCond .ne 5, 3, 0, 0, 0), (9, .iconst 0, 1, 0, 0, 0), (10, .ireturn, 1, 0, 0, 0), (11, .aload_n 0, 1, 0, 0, 0), (12, .iload_n 2, 1, 0, 0, 0), (13, .invokevirtual 51, 3, 0, 90, 1), (16, .ifCond .eq 28, 3, 0, 0, 0), (19, .aload_n 0, 1, 0, 0, 0), (20, .getfield 16, 3, 4, 2, 0), (23, .iload_n 2, 1, 0, 0, 0), (24, .iaload, 1, 0, 0, 0), (25, .iconst 1, 1, 0, 0, 0), (26, .isub, 1, 0, 0, 0), (27, .iconst 1, 1, 0, 0, 0), (28, .bipush 12, 2, 0, 0, 0), (30, .aload_n 0, 1, 0, 0, 0), (31, .getfield 13, 3, 4, 1, 0), (34, .iload_n 1, 1, 0, 0, 0), (35, .iaload, 1, 0, 0, 0), (36, .isub, 1, 0, 0, 0), (37, .ishl, 1, 0, 0, 0), (38, .iconst 1, 1, 0, 0, 0), (39, .isub, 1, 0, 0, 0), (40, .iand, 1, 0, 0, 0), (41, .goto 4, 3, 0, 0, 0), (44, .iconst (-1), 1, 0, 0, 0), (45, .ireturn, 1, 0, 0, 0)]
def amC115 : List (List amEnt) := [amK115_0]
def amR115 : amRow := (4, yX4_remainderAt, cX4_remainderAt, 3, (some (.int)), [], 3, 74)
def amK116_0 : List amEnt := [(0, .aload_n 0, 1, 0, 0, 0), (1, .iload_n 1, 1, 0, 0, 0), (2, .iload_n 2, 1, 0, 0, 0), (3, .invokevirtual 88, 3, 0, 114, 2), (6, .ifCond .eq 12, 3, 0, 0, 0), (9, .aload_n 0, 1, 0, 0, 0), (10, .getfield 19, 3, 4, 3, 0), (13, .iload_n 2, 1, 0, 0, 0), (14, .iaload, 1, 0, 0, 0), (15, .goto 4, 3, 0, 0, 0), (18, .iconst 0, 1, 0, 0, 0), (19, .ireturn, 1, 0, 0, 0)]
def amC116 : List (List amEnt) := [amK116_0]
def amR116 : amRow := (4, yX4_counterAt, cX4_counterAt, 3, (some (.int)), [], 3, 74)
def amK117_0 : List amEnt := [(0, .aload_n 0, 1, 0, 0, 0), (1, .iload_n 1, 1, 0, 0, 0), (2, .iload_n 2, 1, 0, 0, 0), (3, .invokevirtual 88, 3, 0, 114, 2), (6, .ifCond .ne 5, 3, 0, 0, 0), (9, .iconst 0, 1, 0, 0, 0), (10, .ireturn, 1, 0, 0, 0), (11, .aload_n 0, 1, 0, 0, 0), (12, .iload_n 2, 1, 0, 0, 0), (13, .invokevirtual 51, 3, 0, 90, 1), (16, .ifCond .eq 12, 3, 0, 0, 0), (19, .aload_n 0, 1, 0, 0, 0), (20, .iload_n 1, 1, 0, 0, 0), (21, .iload_n 2, 1, 0, 0, 0), (22, .invokevirtual 55, 3, 0, 91, 2), (25, .goto 4, 3, 0, 0, 0), (28, .iconst (-1), 1, 0, 0, 0), (29, .ireturn, 1, 0, 0, 0)]
def amC117 : List (List amEnt) := [amK117_0]
def amR117 : amRow := (4, yX4_quotientAt, cX4_quotientAt, 3, (some (.int)), [], 3, 74)
def amK118_0 : List amEnt := [(0, .aload_n 0, 1, 0, 0, 0), (1, .iload_n 1, 1, 0, 0, 0), (2, .iload_n 2, 1, 0, 0, 0), (3, .invokevirtual 88, 3, 0, 114, 2), (6, .ifCond .eq 16, 3, 0, 0, 0), (9, .aload_n 0, 1, 0, 0, 0), (10, .getfield 22, 3, 4, 4, 0), (13, .iload_n 2, 1, 0, 0, 0), (14, .iaload, 1, 0, 0, 0), (15, .ifCond .le 7, 3, 0, 0, 0), (18, .iconst 1, 1, 0, 0, 0), (19, .goto 4, 3, 0, 0, 0), (22, .iconst 0, 1, 0, 0, 0), (23, .ireturn, 1, 0, 0, 0)]
def amC118 : List (List amEnt) := [amK118_0]
def amR118 : amRow := (4, yX4_isOccupied, cX4_isOccupied, 3, (some (.boolean)), [], 3, 74)
def amK119_0 : List amEnt := [(0, .aload_n 0, 1, 0, 0, 0), (1, .iload_n 1, 1, 0, 0, 0), (2, .iload_n 2, 1, 0, 0, 0), (3, .invokevirtual 88, 3, 0, 114, 2), (6, .ifCond .eq 36, 3, 0, 0, 0), (9, .aload_n 0, 1, 0, 0, 0), (10, .iload_n 2, 1, 0, 0, 0), (11, .invokevirtual 51, 3, 0, 90, 1), (14, .ifCond .eq 28, 3, 0, 0, 0), (17, .aload_n 0, 1, 0, 0, 0), (18, .getfield 25, 3, 4, 5, 0), (21, .aload_n 0, 1, 0, 0, 0), (22, .iload_n 1, 1, 0, 0, 0), (23, .iload_n 2, 1, 0, 0, 0), (24, .invokevirtual 55, 3, 0, 91, 2), (27, .iaload, 1, 0, 0, 0), (28, .aload_n 0, 1, 0, 0, 0), (29, .iload_n 1, 1, 0, 0, 0), (30, .invokevirtual 44, 3, 0, 83, 1), (33, .irem, 1, 0, 0, 0), (34, .iload_n 2, 1, 0, 0, 0), (35, .if_icmp .eq 7, 3, 0, 0, 0), (38, .iconst 1, 1, 0, 0, 0), (39, .goto 4, 3, 0, 0, 0), (42, .iconst 0, 1, 0, 0, 0), (43, .ireturn, 1, 0, 0, 0)]
def amC119 : List (List amEnt) := [amK119_0]
def amR119 : amRow := (4, yX4_isContinuation, cX4_isContinuation, 3, (some (.boolean)), [], 3, 74)
def amK120_0 : List amEnt := [(0, .aload_n 0, 1, 0, 0, 0), (1, .iload_n 1, 1, 0, 0, 0), (2, .iload_n 2, 1, 0, 0, 0), (3, .invokevirtual 88, 3, 0, 114, 2), (6, .ifCond .eq 16, 3, 0, 0, 0), (9, .aload_n 0, 1, 0, 0, 0), (10, .iload_n 1, 1, 0, 0, 0), (11, .iload_n 2, 1, 0, 0, 0), (12, .invokevirtual 91, 3, 0, 92, 2), (15, .ifCond .eq 7, 3, 0, 0, 0), (18, .iconst 1, 1, 0, 0, 0), (19, .goto 4, 3, 0, 0, 0), (22, .iconst 0, 1, 0, 0, 0), (23, .ireturn, 1, 0, 0, 0)]
def amC120 : List (List amEnt) := [amK120_0]
def amR120 : amRow := (4, yX4_isShifted, cX4_isShifted, 3, (some (.boolean)), [], 3, 74)
def amK121_0 : List amEnt := [(0, .aload_n 0, 1, 0, 0, 0), (1, .iload_n 1, 1, 0, 0, 0), (2, .iload_n 2, 1, 0, 0, 0), (3, .invokevirtual 88, 3, 0, 114, 2), (6, .ifCond .ne 5, 3, 0, 0, 0), (9, .iconst 0, 1, 0, 0, 0), (10, .ireturn, 1, 0, 0, 0), (11, .aload_n 0, 1, 0, 0, 0), (12, .getfield 22, 3, 4, 4, 0), (15, .iload_n 2, 1, 0, 0, 0), (16, .iaload, 1, 0, 0, 0), (17, .ifCond .le 18, 3, 0, 0, 0), (20, .aload_n 0, 1, 0, 0, 0), (21, .getfield 25, 3, 4, 5, 0), (24, .iload_n 2, 1, 0, 0, 0), (25, .iaload, 1, 0, 0, 0), (26, .aload_n 0, 1, 0, 0, 0), (27, .iload_n 1, 1, 0, 0, 0), (28, .invokevirtual 44, 3, 0, 83, 1), (31, .irem, 1, 0, 0, 0), (32, .goto 4, 3, 0, 0, 0), (35, .iconst (-1), 1, 0, 0, 0), (36, .ireturn, 1, 0, 0, 0)]
def amC121 : List (List amEnt) := [amK121_0]
def amR121 : amRow := (4, yX4_runStart, cX4_runStart, 3, (some (.int)), [], 3, 74)
def amK122_0 : List amEnt := [(0, .aload_n 0, 1, 0, 0, 0), (1, .iload_n 1, 1, 0, 0, 0), (2, .iload_n 2, 1, 0, 0, 0), (3, .invokevirtual 88, 3, 0, 114, 2), (6, .ifCond .eq 12, 3, 0, 0, 0), (9, .aload_n 0, 1, 0, 0, 0), (10, .getfield 22, 3, 4, 4, 0), (13, .iload_n 2, 1, 0, 0, 0), (14, .iaload, 1, 0, 0, 0), (15, .goto 4, 3, 0, 0, 0), (18, .iconst 0, 1, 0, 0, 0), (19, .ireturn, 1, 0, 0, 0)]
def amC122 : List (List amEnt) := [amK122_0]
def amR122 : amRow := (4, yX4_runLength, cX4_runLength, 3, (some (.int)), [], 3, 74)
def amK123_0 : List amEnt := [(0, .aload_n 0, 1, 0, 0, 0), (1, .iload_n 1, 1, 0, 0, 0), (2, .iload_n 2, 1, 0, 0, 0), (3, .invokevirtual 88, 3, 0, 114, 2), (6, .ifCond .ne 5, 3, 0, 0, 0), (9, .iconst 0, 1, 0, 0, 0), (10, .ireturn, 1, 0, 0, 0), (11, .iload_n 2, 1, 0, 0, 0), (12, .istore_n 3, 1, 0, 0, 0), (13, .aload_n 0, 1, 0, 0, 0), (14, .iload_n 1, 1, 0, 0, 0), (15, .iload_n 3, 1, 0, 0, 0), (16, .invokevirtual 91, 3, 0, 92, 2), (19, .ifCond .eq 24, 3, 0, 0, 0), (22, .iload_n 3, 1, 0, 0, 0), (23, .ifCond .ne 13, 3, 0, 0, 0), (26, .aload_n 0, 1, 0, 0, 0), (27, .iload_n 1, 1, 0, 0, 0), (28, .invokevirtual 44, 3, 0, 83, 1), (31, .iconst 1, 1, 0, 0, 0), (32, .isub, 1, 0, 0, 0), (33, .goto 6, 3, 0, 0, 0), (36, .iload_n 3, 1, 0, 0, 0), (37, .iconst 1, 1, 0, 0, 0), (38, .isub, 1, 0, 0, 0), (39, .istore_n 3, 1, 0, 0, 0), (40, .goto (-27), 3, 0, 0, 0), (43, .aload_n 0, 1, 0, 0, 0), (44, .iload_n 2, 1, 0, 0, 0), (45, .invokevirtual 51, 3, 0, 90, 1), (48, .ifCond .eq 7, 3, 0, 0, 0), (51, .iload_n 3, 1, 0, 0, 0), (52, .goto 4, 3, 0, 0, 0), (55, .iconst (-1), 1, 0, 0, 0), (56, .ireturn, 1, 0, 0, 0)]
def amC123 : List (List amEnt) := [amK123_0]
def amR123 : amRow := (4, yX4_clusterStart, cX4_clusterStart, 4, (some (.int)), [], 3, 74)
def amK124_0 : List amEnt := [(0, .iconst 0, 1, 0, 0, 0), (1, .istore_n 2, 1, 0, 0, 0), (2, .aload_n 0, 1, 0, 0, 0), (3, .iload_n 1, 1, 0, 0, 0), (4, .iconst 0, 1, 0, 0, 0), (5, .invokevirtual 88, 3, 0, 114, 2), (8, .ifCond .eq 89, 3, 0, 0, 0), (11, .aload_n 0, 1, 0, 0, 0), (12, .iload_n 1, 1, 0, 0, 0), (13, .invokevirtual 44, 3, 0, 83, 1), (16, .istore_n 3, 1, 0, 0, 0), (17, .iconst 0, 1, 0, 0, 0), (18, .istore 4, 2, 0, 0, 0), (20, .iload 4, 2, 0, 0, 0), (22, .iload_n 3, 1, 0, 0, 0), (23, .if_icmp .ge 74, 3, 0, 0, 0), (26, .aload_n 0, 1, 0, 0, 0), (27, .iload 4, 2, 0, 0, 0), (29, .invokevirtual 51, 3, 0, 90, 1), (32, .ifCond .eq 17, 3, 0, 0, 0), (35, .aload_n 0, 1, 0, 0, 0), (36, .iload_n 1, 1, 0, 0, 0), (37, .iload 4, 2, 0, 0, 0), (39, .invokevirtual 91, 3, 0, 92, 2), (42, .ifCond .ne 7, 3, 0, 0, 0), (45, .iconst 1, 1, 0, 0, 0), (46, .goto 4, 3, 0, 0, 0), (49, .iconst 0, 1, 0, 0, 0), (50, .istore 5, 2, 0, 0, 0), (52, .iload 5, 2, 0, 0, 0), (54, .ifCond .le 24, 3, 0, 0, 0), (57, .aload_n 0, 1, 0, 0, 0), (58, .iload_n 1, 1, 0, 0, 0), (59, .iload 4, 2, 0, 0, 0), (61, .iload 5, 2, 0, 0, 0), (63, .iadd, 1, 0, 0, 0)]
def amK124_1 : List amEnt := [(64, .iload_n 3, 1, 0, 0, 0), (65, .irem, 1, 0, 0, 0), (66, .invokevirtual 91, 3, 0, 92, 2), (69, .ifCond .eq 9, 3, 0, 0, 0), (72, .iinc 5 1, 3, 0, 0, 0), (75, .goto (-23), 3, 0, 0, 0), (78, .iload 5, 2, 0, 0, 0), (80, .iload_n 2, 1, 0, 0, 0), (81, .if_icmp .le 8, 3, 0, 0, 0), (84, .iload 5, 2, 0, 0, 0), (86, .goto 4, 3, 0, 0, 0), (89, .iload_n 2, 1, 0, 0, 0), (90, .istore_n 2, 1, 0, 0, 0), (91, .iinc 4 1, 3, 0, 0, 0), (94, .goto (-74), 3, 0, 0, 0), (97, .iload_n 2, 1, 0, 0, 0), (98, .ireturn, 1, 0, 0, 0)]
def amC124 : List (List amEnt) := [amK124_0, amK124_1]
def amR124 : amRow := (4, yX4_longestCluster, cX4_longestCluster, 6, (some (.int)), [], 3, 74)
def amK125_0 : List amEnt := [(0, .aload_n 3, 1, 0, 0, 0), (1, .iconst 0, 1, 0, 0, 0), (2, .aload_n 0, 1, 0, 0, 0), (3, .iload_n 1, 1, 0, 0, 0), (4, .iload_n 2, 1, 0, 0, 0), (5, .invokevirtual 7, 3, 0, 38, 2), (8, .i2l, 1, 0, 0, 0), (9, .lastore, 1, 0, 0, 0), (10, .goto 11, 3, 0, 0, 0), (13, .astore 4, 2, 0, 0, 0), (15, .iconst 1, 1, 0, 0, 0), (16, .ireturn, 1, 0, 0, 0), (17, .astore 4, 2, 0, 0, 0), (19, .iconst 2, 1, 0, 0, 0), (20, .ireturn, 1, 0, 0, 0), (21, .iconst 0, 1, 0, 0, 0), (22, .ireturn, 1, 0, 0, 0)]
def amC125 : List (List amEnt) := [amK125_0]
def amR125 : amRow := (5, yL_insert, cL_insert, 5, (some (.int)), [(0, 10, 13, 13), (0, 10, 17, 15)], 9, 161)
def amK126_0 : List amEnt := [(0, .aload_n 3, 1, 0, 0, 0), (1, .iconst 0, 1, 0, 0, 0), (2, .aload_n 0, 1, 0, 0, 0), (3, .iload_n 1, 1, 0, 0, 0), (4, .iload_n 2, 1, 0, 0, 0), (5, .invokevirtual 17, 3, 0, 39, 2), (8, .ifCond .eq 7, 3, 0, 0, 0), (11, .lconst 1, 1, 0, 0, 0), (12, .goto 4, 3, 0, 0, 0), (15, .lconst 0, 1, 0, 0, 0), (16, .lastore, 1, 0, 0, 0), (17, .goto 7, 3, 0, 0, 0), (20, .astore 4, 2, 0, 0, 0), (22, .iconst 1, 1, 0, 0, 0), (23, .ireturn, 1, 0, 0, 0), (24, .iconst 0, 1, 0, 0, 0), (25, .ireturn, 1, 0, 0, 0)]
def amC126 : List (List amEnt) := [amK126_0]
def amR126 : amRow := (5, yL_remove, cL_remove, 5, (some (.int)), [(0, 17, 20, 13)], 8, 162)
def amK127_0 : List amEnt := [(0, .aload_n 3, 1, 0, 0, 0), (1, .iconst 0, 1, 0, 0, 0), (2, .aload_n 0, 1, 0, 0, 0), (3, .iload_n 1, 1, 0, 0, 0), (4, .iload_n 2, 1, 0, 0, 0), (5, .invokevirtual 21, 3, 0, 40, 2), (8, .i2l, 1, 0, 0, 0), (9, .lastore, 1, 0, 0, 0), (10, .goto 7, 3, 0, 0, 0), (13, .astore 4, 2, 0, 0, 0), (15, .iconst 1, 1, 0, 0, 0), (16, .ireturn, 1, 0, 0, 0), (17, .iconst 0, 1, 0, 0, 0), (18, .ireturn, 1, 0, 0, 0)]
def amC127 : List (List amEnt) := [amK127_0]
def amR127 : amRow := (5, yL_count, cL_count, 5, (some (.int)), [(0, 10, 13, 13)], 8, 138)
def amK128_0 : List amEnt := [(0, .aload 4, 2, 0, 0, 0), (2, .iconst 0, 1, 0, 0, 0), (3, .aload_n 0, 1, 0, 0, 0), (4, .iload_n 1, 1, 0, 0, 0), (5, .iload_n 2, 1, 0, 0, 0), (6, .iload_n 3, 1, 0, 0, 0), (7, .invokevirtual 24, 3, 0, 41, 3), (10, .i2l, 1, 0, 0, 0), (11, .lastore, 1, 0, 0, 0), (12, .goto 15, 3, 0, 0, 0), (15, .astore 5, 2, 0, 0, 0), (17, .iconst 1, 1, 0, 0, 0), (18, .ireturn, 1, 0, 0, 0), (19, .astore 5, 2, 0, 0, 0), (21, .iconst 2, 1, 0, 0, 0), (22, .ireturn, 1, 0, 0, 0), (23, .astore 5, 2, 0, 0, 0), (25, .iconst 3, 1, 0, 0, 0), (26, .ireturn, 1, 0, 0, 0), (27, .iconst 0, 1, 0, 0, 0), (28, .ireturn, 1, 0, 0, 0)]
def amC128 : List (List amEnt) := [amK128_0]
def amR128 : amRow := (5, yL_add, cL_add, 6, (some (.int)), [(0, 12, 15, 13), (0, 12, 19, 28), (0, 12, 23, 15)], 9, 162)
def amK129_0 : List amEnt := [(0, .aload 4, 2, 0, 0, 0), (2, .iconst 0, 1, 0, 0, 0), (3, .aload_n 0, 1, 0, 0, 0), (4, .iload_n 1, 1, 0, 0, 0), (5, .iload_n 2, 1, 0, 0, 0), (6, .iload_n 3, 1, 0, 0, 0), (7, .invokevirtual 30, 3, 0, 42, 3), (10, .i2l, 1, 0, 0, 0), (11, .lastore, 1, 0, 0, 0), (12, .goto 11, 3, 0, 0, 0), (15, .astore 5, 2, 0, 0, 0), (17, .iconst 1, 1, 0, 0, 0), (18, .ireturn, 1, 0, 0, 0), (19, .astore 5, 2, 0, 0, 0), (21, .iconst 2, 1, 0, 0, 0), (22, .ireturn, 1, 0, 0, 0), (23, .iconst 0, 1, 0, 0, 0), (24, .ireturn, 1, 0, 0, 0)]
def amC129 : List (List amEnt) := [amK129_0]
def amR129 : amRow := (5, yL_take, cL_take, 6, (some (.int)), [(0, 12, 15, 13), (0, 12, 19, 28)], 8, 163)
def amK130_0 : List amEnt := [(0, .aload_n 3, 1, 0, 0, 0), (1, .iconst 0, 1, 0, 0, 0), (2, .aload_n 0, 1, 0, 0, 0), (3, .iload_n 1, 1, 0, 0, 0), (4, .iload_n 2, 1, 0, 0, 0), (5, .invokevirtual 33, 3, 0, 43, 2), (8, .i2l, 1, 0, 0, 0), (9, .lastore, 1, 0, 0, 0), (10, .goto 11, 3, 0, 0, 0), (13, .astore 4, 2, 0, 0, 0), (15, .iconst 1, 1, 0, 0, 0), (16, .ireturn, 1, 0, 0, 0), (17, .astore 4, 2, 0, 0, 0), (19, .iconst 2, 1, 0, 0, 0), (20, .ireturn, 1, 0, 0, 0), (21, .iconst 0, 1, 0, 0, 0), (22, .ireturn, 1, 0, 0, 0)]
def amC130 : List (List amEnt) := [amK130_0]
def amR130 : amRow := (5, yL_countOf, cL_countOf, 5, (some (.int)), [(0, 10, 13, 13), (0, 10, 17, 28)], 8, 138)
def amK131_0 : List amEnt := [(0, .aload_n 3, 1, 0, 0, 0), (1, .iconst 0, 1, 0, 0, 0), (2, .aload_n 0, 1, 0, 0, 0), (3, .iload_n 1, 1, 0, 0, 0), (4, .iload_n 2, 1, 0, 0, 0), (5, .invokevirtual 36, 3, 0, 44, 2), (8, .i2l, 1, 0, 0, 0), (9, .lastore, 1, 0, 0, 0), (10, .goto 11, 3, 0, 0, 0), (13, .astore 4, 2, 0, 0, 0), (15, .iconst 1, 1, 0, 0, 0), (16, .ireturn, 1, 0, 0, 0), (17, .astore 4, 2, 0, 0, 0), (19, .iconst 2, 1, 0, 0, 0), (20, .ireturn, 1, 0, 0, 0), (21, .iconst 0, 1, 0, 0, 0), (22, .ireturn, 1, 0, 0, 0)]
def amC131 : List (List amEnt) := [amK131_0]
def amR131 : amRow := (5, yL_countInLists, cL_countInLists, 5, (some (.int)), [(0, 10, 13, 13), (0, 10, 17, 28)], 8, 134)
def amK132_0 : List amEnt := [(0, .aload_n 3, 1, 0, 0, 0), (1, .iconst 0, 1, 0, 0, 0), (2, .aload_n 0, 1, 0, 0, 0), (3, .iload_n 1, 1, 0, 0, 0), (4, .iload_n 2, 1, 0, 0, 0), (5, .invokevirtual 39, 3, 0, 45, 2), (8, .i2l, 1, 0, 0, 0), (9, .lastore, 1, 0, 0, 0), (10, .goto 11, 3, 0, 0, 0), (13, .astore 4, 2, 0, 0, 0), (15, .iconst 1, 1, 0, 0, 0), (16, .ireturn, 1, 0, 0, 0), (17, .astore 4, 2, 0, 0, 0), (19, .iconst 2, 1, 0, 0, 0), (20, .ireturn, 1, 0, 0, 0), (21, .iconst 0, 1, 0, 0, 0), (22, .ireturn, 1, 0, 0, 0)]
def amC132 : List (List amEnt) := [amK132_0]
def amR132 : amRow := (5, yL_lookedAt, cL_lookedAt, 5, (some (.int)), [(0, 10, 13, 13), (0, 10, 17, 28)], 8, 136)
def amK133_0 : List amEnt := [(0, .aload_n 0, 1, 0, 0, 0), (1, .iload_n 1, 1, 0, 0, 0), (2, .invokevirtual 42, 3, 0, 46, 1), (5, .goto 6, 3, 0, 0, 0), (8, .astore_n 2, 1, 0, 0, 0), (9, .iconst 1, 1, 0, 0, 0), (10, .ireturn, 1, 0, 0, 0), (11, .iconst 0, 1, 0, 0, 0), (12, .ireturn, 1, 0, 0, 0)]
def amC133 : List (List amEnt) := [amK133_0]
def amR133 : amRow := (5, yL_clear, cL_clear, 3, (some (.int)), [(0, 5, 8, 13)], 8, 132)
def amK134_0 : List amEnt := [(0, .aload_n 2, 1, 0, 0, 0), (1, .iconst 0, 1, 0, 0, 0), (2, .aload_n 0, 1, 0, 0, 0), (3, .iload_n 1, 1, 0, 0, 0), (4, .invokevirtual 46, 3, 0, 47, 1), (7, .i2l, 1, 0, 0, 0), (8, .lastore, 1, 0, 0, 0), (9, .goto 9, 3, 0, 0, 0), (12, .astore_n 3, 1, 0, 0, 0), (13, .iconst 1, 1, 0, 0, 0), (14, .ireturn, 1, 0, 0, 0), (15, .astore_n 3, 1, 0, 0, 0), (16, .iconst 2, 1, 0, 0, 0), (17, .ireturn, 1, 0, 0, 0), (18, .iconst 0, 1, 0, 0, 0), (19, .ireturn, 1, 0, 0, 0)]
def amC134 : List (List amEnt) := [amK134_0]
def amR134 : amRow := (5, yL_grow, cL_grow, 4, (some (.int)), [(0, 9, 12, 13), (0, 9, 15, 15)], 9, 157)
def amK135_0 : List amEnt := [(0, .aload_n 2, 1, 0, 0, 0), (1, .iconst 0, 1, 0, 0, 0), (2, .aload_n 0, 1, 0, 0, 0), (3, .iload_n 1, 1, 0, 0, 0), (4, .invokevirtual 50, 3, 0, 48, 1), (7, .i2l, 1, 0, 0, 0), (8, .lastore, 1, 0, 0, 0), (9, .goto 9, 3, 0, 0, 0), (12, .astore_n 3, 1, 0, 0, 0), (13, .iconst 1, 1, 0, 0, 0), (14, .ireturn, 1, 0, 0, 0), (15, .astore_n 3, 1, 0, 0, 0), (16, .iconst 2, 1, 0, 0, 0), (17, .ireturn, 1, 0, 0, 0), (18, .iconst 0, 1, 0, 0, 0), (19, .ireturn, 1, 0, 0, 0)]
def amC135 : List (List amEnt) := [amK135_0]
def amR135 : amRow := (5, yL_shrink, cL_shrink, 4, (some (.int)), [(0, 9, 12, 13), (0, 9, 15, 15)], 9, 157)
def amK136_0 : List amEnt := [(0, .aload_n 3, 1, 0, 0, 0), (1, .iconst 0, 1, 0, 0, 0), (2, .aload_n 0, 1, 0, 0, 0), (3, .iload_n 1, 1, 0, 0, 0), (4, .iload_n 2, 1, 0, 0, 0), (5, .invokevirtual 53, 3, 0, 49, 2), (8, .i2l, 1, 0, 0, 0), (9, .lastore, 1, 0, 0, 0), (10, .goto 11, 3, 0, 0, 0), (13, .astore 4, 2, 0, 0, 0), (15, .iconst 1, 1, 0, 0, 0), (16, .ireturn, 1, 0, 0, 0), (17, .astore 4, 2, 0, 0, 0), (19, .iconst 2, 1, 0, 0, 0), (20, .ireturn, 1, 0, 0, 0), (21, .iconst 0, 1, 0, 0, 0), (22, .ireturn, 1, 0, 0, 0)]
def amC136 : List (List amEnt) := [amK136_0]
def amR136 : amRow := (5, yL_merge, cL_merge, 5, (some (.int)), [(0, 10, 13, 13), (0, 10, 17, 15)], 8, 137)
def amK137_0 : List amEnt := [(0, .aload_n 3, 1, 0, 0, 0), (1, .iconst 0, 1, 0, 0, 0), (2, .aload_n 0, 1, 0, 0, 0), (3, .iload_n 1, 1, 0, 0, 0), (4, .iload_n 2, 1, 0, 0, 0), (5, .invokevirtual 56, 3, 0, 50, 2), (8, .i2l, 1, 0, 0, 0), (9, .lastore, 1, 0, 0, 0), (10, .goto 7, 3, 0, 0, 0), (13, .astore 4, 2, 0, 0, 0), (15, .iconst 1, 1, 0, 0, 0), (16, .ireturn, 1, 0, 0, 0), (17, .iconst 0, 1, 0, 0, 0), (18, .ireturn, 1, 0, 0, 0)]
def amC137 : List (List amEnt) := [amK137_0]
def amR137 : amRow := (5, yL_intersect, cL_intersect, 5, (some (.int)), [(0, 10, 13, 13)], 8, 137)
def amK138_0 : List amEnt := [(0, .aload_n 3, 1, 0, 0, 0), (1, .iconst 0, 1, 0, 0, 0), (2, .aload_n 0, 1, 0, 0, 0), (3, .iload_n 1, 1, 0, 0, 0), (4, .iload_n 2, 1, 0, 0, 0), (5, .invokevirtual 59, 3, 0, 51, 2), (8, .ifCond .eq 7, 3, 0, 0, 0), (11, .lconst 1, 1, 0, 0, 0), (12, .goto 4, 3, 0, 0, 0), (15, .lconst 0, 1, 0, 0, 0), (16, .lastore, 1, 0, 0, 0), (17, .goto 7, 3, 0, 0, 0), (20, .astore 4, 2, 0, 0, 0), (22, .iconst 1, 1, 0, 0, 0), (23, .ireturn, 1, 0, 0, 0), (24, .iconst 0, 1, 0, 0, 0), (25, .ireturn, 1, 0, 0, 0)]
def amC138 : List (List amEnt) := [amK138_0]
def amR138 : amRow := (5, yL_isSame, cL_isSame, 5, (some (.int)), [(0, 17, 20, 13)], 8, 137)
def amK139_0 : List amEnt := [(0, .aload_n 2, 1, 0, 0, 0), (1, .iconst 0, 1, 0, 0, 0), (2, .aload_n 0, 1, 0, 0, 0), (3, .iload_n 1, 1, 0, 0, 0), (4, .invokevirtual 62, 3, 0, 52, 1), (7, .i2l, 1, 0, 0, 0), (8, .lastore, 1, 0, 0, 0), (9, .goto 6, 3, 0, 0, 0), (12, .astore_n 3, 1, 0, 0, 0), (13, .iconst 1, 1, 0, 0, 0), (14, .ireturn, 1, 0, 0, 0), (15, .iconst 0, 1, 0, 0, 0), (16, .ireturn, 1, 0, 0, 0)]
def amC139 : List (List amEnt) := [amK139_0]
def amR139 : amRow := (5, yL_slots, cL_slots, 4, (some (.int)), [(0, 9, 12, 13)], 8, 132)
def amK140_0 : List amEnt := [(0, .aload_n 2, 1, 0, 0, 0), (1, .iconst 0, 1, 0, 0, 0), (2, .aload_n 0, 1, 0, 0, 0), (3, .iload_n 1, 1, 0, 0, 0), (4, .invokevirtual 65, 3, 0, 53, 1), (7, .i2l, 1, 0, 0, 0), (8, .lastore, 1, 0, 0, 0), (9, .goto 6, 3, 0, 0, 0), (12, .astore_n 3, 1, 0, 0, 0), (13, .iconst 1, 1, 0, 0, 0), (14, .ireturn, 1, 0, 0, 0), (15, .iconst 0, 1, 0, 0, 0), (16, .ireturn, 1, 0, 0, 0)]
def amC140 : List (List amEnt) := [amK140_0]
def amR140 : amRow := (5, yL_entries, cL_entries, 4, (some (.int)), [(0, 9, 12, 13)], 8, 132)
def amK141_0 : List amEnt := [(0, .aload_n 2, 1, 0, 0, 0), (1, .iconst 0, 1, 0, 0, 0), (2, .aload_n 0, 1, 0, 0, 0), (3, .iload_n 1, 1, 0, 0, 0), (4, .invokevirtual 68, 3, 0, 54, 1), (7, .i2l, 1, 0, 0, 0), (8, .lastore, 1, 0, 0, 0), (9, .goto 6, 3, 0, 0, 0), (12, .astore_n 3, 1, 0, 0, 0), (13, .iconst 1, 1, 0, 0, 0), (14, .ireturn, 1, 0, 0, 0), (15, .iconst 0, 1, 0, 0, 0), (16, .ireturn, 1, 0, 0, 0)]
def amC141 : List (List amEnt) := [amK141_0]
def amR141 : amRow := (5, yL_distinct, cL_distinct, 4, (some (.int)), [(0, 9, 12, 13)], 8, 134)
def amK142_0 : List amEnt := [(0, .aload_n 2, 1, 0, 0, 0), (1, .iconst 0, 1, 0, 0, 0), (2, .aload_n 0, 1, 0, 0, 0), (3, .iload_n 1, 1, 0, 0, 0), (4, .invokevirtual 71, 3, 0, 55, 1), (7, .i2l, 1, 0, 0, 0), (8, .lastore, 1, 0, 0, 0), (9, .goto 6, 3, 0, 0, 0), (12, .astore_n 3, 1, 0, 0, 0), (13, .iconst 1, 1, 0, 0, 0), (14, .ireturn, 1, 0, 0, 0), (15, .iconst 0, 1, 0, 0, 0), (16, .ireturn, 1, 0, 0, 0)]
def amC142 : List (List amEnt) := [amK142_0]
def amR142 : amRow := (5, yL_total, cL_total, 4, (some (.int)), [(0, 9, 12, 13)], 8, 132)
def amK143_0 : List amEnt := [(0, .aload_n 3, 1, 0, 0, 0), (1, .iconst 0, 1, 0, 0, 0), (2, .aload_n 0, 1, 0, 0, 0), (3, .iload_n 1, 1, 0, 0, 0), (4, .iload_n 2, 1, 0, 0, 0), (5, .invokevirtual 74, 3, 0, 56, 2), (8, .i2l, 1, 0, 0, 0), (9, .lastore, 1, 0, 0, 0), (10, .goto 7, 3, 0, 0, 0), (13, .astore 4, 2, 0, 0, 0), (15, .iconst 1, 1, 0, 0, 0), (16, .ireturn, 1, 0, 0, 0), (17, .iconst 0, 1, 0, 0, 0), (18, .ireturn, 1, 0, 0, 0)]
def amC143 : List (List amEnt) := [amK143_0]
def amR143 : amRow := (5, yL_fingerprintAt, cL_fingerprintAt, 5, (some (.int)), [(0, 10, 13, 13)], 8, 135)
def amK144_0 : List amEnt := [(0, .aload_n 3, 1, 0, 0, 0), (1, .iconst 0, 1, 0, 0, 0), (2, .aload_n 0, 1, 0, 0, 0), (3, .iload_n 1, 1, 0, 0, 0), (4, .iload_n 2, 1, 0, 0, 0), (5, .invokevirtual 77, 3, 0, 57, 2), (8, .i2l, 1, 0, 0, 0), (9, .lastore, 1, 0, 0, 0), (10, .goto 7, 3, 0, 0, 0), (13, .astore 4, 2, 0, 0, 0), (15, .iconst 1, 1, 0, 0, 0), (16, .ireturn, 1, 0, 0, 0), (17, .iconst 0, 1, 0, 0, 0), (18, .ireturn, 1, 0, 0, 0)]
def amC144 : List (List amEnt) := [amK144_0]
def amR144 : amRow := (5, yL_remainderAt, cL_remainderAt, 5, (some (.int)), [(0, 10, 13, 13)], 8, 134)
def amK145_0 : List amEnt := [(0, .aload_n 3, 1, 0, 0, 0), (1, .iconst 0, 1, 0, 0, 0), (2, .aload_n 0, 1, 0, 0, 0), (3, .iload_n 1, 1, 0, 0, 0), (4, .iload_n 2, 1, 0, 0, 0), (5, .invokevirtual 80, 3, 0, 58, 2), (8, .i2l, 1, 0, 0, 0), (9, .lastore, 1, 0, 0, 0), (10, .goto 7, 3, 0, 0, 0), (13, .astore 4, 2, 0, 0, 0), (15, .iconst 1, 1, 0, 0, 0), (16, .ireturn, 1, 0, 0, 0), (17, .iconst 0, 1, 0, 0, 0), (18, .ireturn, 1, 0, 0, 0)]
def amC145 : List (List amEnt) := [amK145_0]
def amR145 : amRow := (5, yL_counterAt, cL_counterAt, 5, (some (.int)), [(0, 10, 13, 13)], 8, 134)
def amK146_0 : List amEnt := [(0, .aload_n 3, 1, 0, 0, 0), (1, .iconst 0, 1, 0, 0, 0), (2, .aload_n 0, 1, 0, 0, 0), (3, .iload_n 1, 1, 0, 0, 0), (4, .iload_n 2, 1, 0, 0, 0), (5, .invokevirtual 83, 3, 0, 59, 2), (8, .i2l, 1, 0, 0, 0), (9, .lastore, 1, 0, 0, 0), (10, .goto 7, 3, 0, 0, 0), (13, .astore 4, 2, 0, 0, 0), (15, .iconst 1, 1, 0, 0, 0), (16, .ireturn, 1, 0, 0, 0), (17, .iconst 0, 1, 0, 0, 0), (18, .ireturn, 1, 0, 0, 0)]
def amC146 : List (List amEnt) := [amK146_0]
def amR146 : amRow := (5, yL_quotientAt, cL_quotientAt, 5, (some (.int)), [(0, 10, 13, 13)], 8, 134)
def amK147_0 : List amEnt := [(0, .aload_n 3, 1, 0, 0, 0), (1, .iconst 0, 1, 0, 0, 0), (2, .aload_n 0, 1, 0, 0, 0), (3, .iload_n 1, 1, 0, 0, 0), (4, .iload_n 2, 1, 0, 0, 0), (5, .invokevirtual 86, 3, 0, 60, 2), (8, .ifCond .eq 7, 3, 0, 0, 0), (11, .lconst 1, 1, 0, 0, 0), (12, .goto 4, 3, 0, 0, 0), (15, .lconst 0, 1, 0, 0, 0), (16, .lastore, 1, 0, 0, 0), (17, .goto 7, 3, 0, 0, 0), (20, .astore 4, 2, 0, 0, 0), (22, .iconst 1, 1, 0, 0, 0), (23, .ireturn, 1, 0, 0, 0), (24, .iconst 0, 1, 0, 0, 0), (25, .ireturn, 1, 0, 0, 0)]
def amC147 : List (List amEnt) := [amK147_0]
def amR147 : amRow := (5, yL_isOccupied, cL_isOccupied, 5, (some (.int)), [(0, 17, 20, 13)], 8, 134)
def amK148_0 : List amEnt := [(0, .aload_n 3, 1, 0, 0, 0), (1, .iconst 0, 1, 0, 0, 0), (2, .aload_n 0, 1, 0, 0, 0), (3, .iload_n 1, 1, 0, 0, 0), (4, .iload_n 2, 1, 0, 0, 0), (5, .invokevirtual 89, 3, 0, 61, 2), (8, .ifCond .eq 7, 3, 0, 0, 0), (11, .lconst 1, 1, 0, 0, 0), (12, .goto 4, 3, 0, 0, 0), (15, .lconst 0, 1, 0, 0, 0), (16, .lastore, 1, 0, 0, 0), (17, .goto 7, 3, 0, 0, 0), (20, .astore 4, 2, 0, 0, 0), (22, .iconst 1, 1, 0, 0, 0), (23, .ireturn, 1, 0, 0, 0), (24, .iconst 0, 1, 0, 0, 0), (25, .ireturn, 1, 0, 0, 0)]
def amC148 : List (List amEnt) := [amK148_0]
def amR148 : amRow := (5, yL_isContinuation, cL_isContinuation, 5, (some (.int)), [(0, 17, 20, 13)], 8, 134)
def amK149_0 : List amEnt := [(0, .aload_n 3, 1, 0, 0, 0), (1, .iconst 0, 1, 0, 0, 0), (2, .aload_n 0, 1, 0, 0, 0), (3, .iload_n 1, 1, 0, 0, 0), (4, .iload_n 2, 1, 0, 0, 0), (5, .invokevirtual 92, 3, 0, 62, 2), (8, .ifCond .eq 7, 3, 0, 0, 0), (11, .lconst 1, 1, 0, 0, 0), (12, .goto 4, 3, 0, 0, 0), (15, .lconst 0, 1, 0, 0, 0), (16, .lastore, 1, 0, 0, 0), (17, .goto 7, 3, 0, 0, 0), (20, .astore 4, 2, 0, 0, 0), (22, .iconst 1, 1, 0, 0, 0), (23, .ireturn, 1, 0, 0, 0), (24, .iconst 0, 1, 0, 0, 0), (25, .ireturn, 1, 0, 0, 0)]
def amC149 : List (List amEnt) := [amK149_0]
def amR149 : amRow := (5, yL_isShifted, cL_isShifted, 5, (some (.int)), [(0, 17, 20, 13)], 8, 134)
def amK150_0 : List amEnt := [(0, .aload_n 3, 1, 0, 0, 0), (1, .iconst 0, 1, 0, 0, 0), (2, .aload_n 0, 1, 0, 0, 0), (3, .iload_n 1, 1, 0, 0, 0), (4, .iload_n 2, 1, 0, 0, 0), (5, .invokevirtual 95, 3, 0, 63, 2), (8, .i2l, 1, 0, 0, 0), (9, .lastore, 1, 0, 0, 0), (10, .goto 7, 3, 0, 0, 0), (13, .astore 4, 2, 0, 0, 0), (15, .iconst 1, 1, 0, 0, 0), (16, .ireturn, 1, 0, 0, 0), (17, .iconst 0, 1, 0, 0, 0), (18, .ireturn, 1, 0, 0, 0)]
def amC150 : List (List amEnt) := [amK150_0]
def amR150 : amRow := (5, yL_runStart, cL_runStart, 5, (some (.int)), [(0, 10, 13, 13)], 8, 134)
def amK151_0 : List amEnt := [(0, .aload_n 3, 1, 0, 0, 0), (1, .iconst 0, 1, 0, 0, 0), (2, .aload_n 0, 1, 0, 0, 0), (3, .iload_n 1, 1, 0, 0, 0), (4, .iload_n 2, 1, 0, 0, 0), (5, .invokevirtual 98, 3, 0, 64, 2), (8, .i2l, 1, 0, 0, 0), (9, .lastore, 1, 0, 0, 0), (10, .goto 7, 3, 0, 0, 0), (13, .astore 4, 2, 0, 0, 0), (15, .iconst 1, 1, 0, 0, 0), (16, .ireturn, 1, 0, 0, 0), (17, .iconst 0, 1, 0, 0, 0), (18, .ireturn, 1, 0, 0, 0)]
def amC151 : List (List amEnt) := [amK151_0]
def amR151 : amRow := (5, yL_runLength, cL_runLength, 5, (some (.int)), [(0, 10, 13, 13)], 8, 135)
def amK152_0 : List amEnt := [(0, .aload_n 3, 1, 0, 0, 0), (1, .iconst 0, 1, 0, 0, 0), (2, .aload_n 0, 1, 0, 0, 0), (3, .iload_n 1, 1, 0, 0, 0), (4, .iload_n 2, 1, 0, 0, 0), (5, .invokevirtual 101, 3, 0, 65, 2), (8, .i2l, 1, 0, 0, 0), (9, .lastore, 1, 0, 0, 0), (10, .goto 7, 3, 0, 0, 0), (13, .astore 4, 2, 0, 0, 0), (15, .iconst 1, 1, 0, 0, 0), (16, .ireturn, 1, 0, 0, 0), (17, .iconst 0, 1, 0, 0, 0), (18, .ireturn, 1, 0, 0, 0)]
def amC152 : List (List amEnt) := [amK152_0]
def amR152 : amRow := (5, yL_clusterStart, cL_clusterStart, 5, (some (.int)), [(0, 10, 13, 13)], 8, 134)
def amK153_0 : List amEnt := [(0, .aload_n 2, 1, 0, 0, 0), (1, .iconst 0, 1, 0, 0, 0), (2, .aload_n 0, 1, 0, 0, 0), (3, .iload_n 1, 1, 0, 0, 0), (4, .invokevirtual 104, 3, 0, 66, 1), (7, .i2l, 1, 0, 0, 0), (8, .lastore, 1, 0, 0, 0), (9, .goto 6, 3, 0, 0, 0), (12, .astore_n 3, 1, 0, 0, 0), (13, .iconst 1, 1, 0, 0, 0), (14, .ireturn, 1, 0, 0, 0), (15, .iconst 0, 1, 0, 0, 0), (16, .ireturn, 1, 0, 0, 0)]
def amC153 : List (List amEnt) := [amK153_0]
def amR153 : amRow := (5, yL_longestCluster, cL_longestCluster, 4, (some (.int)), [(0, 9, 12, 13)], 8, 132)
def amK154_0 : List amEnt := [(0, .new 8, 3, 0, 3, 0), (3, .dup, 1, 0, 0, 0), (4, .invokespecial 107, 3, 3, 36, 0), (7, .astore_n 1, 1, 0, 0, 0), (8, .new 108, 3, 0, 4, 0), (11, .dup, 1, 0, 0, 0), (12, .invokespecial 110, 3, 3, 77, 0), (15, .astore_n 2, 1, 0, 0, 0), (16, .iconst 1, 1, 0, 0, 0), (17, .newarray .long, 2, 0, 0, 0), (19, .astore_n 3, 1, 0, 0, 0), (20, .iconst 0, 1, 0, 0, 0), (21, .istore 4, 2, 0, 0, 0), (23, .iload 4, 2, 0, 0, 0), (25, .aload_n 0, 1, 0, 0, 0), (26, .arraylength, 1, 0, 0, 0), (27, .iconst 4, 1, 0, 0, 0), (28, .isub, 1, 0, 0, 0), (29, .if_icmp .gt 2089, 3, 0, 0, 0), (32, .aload_n 0, 1, 0, 0, 0), (33, .iload 4, 2, 0, 0, 0), (35, .iaload, 1, 0, 0, 0), (36, .bipush 31, 2, 0, 0, 0), (38, .iand, 1, 0, 0, 0), (39, .tableswitch 2073 0 29 #[133, 158, 226, 301, 369, 449, 529, 597, 665, 733, 769, 825, 881, 949, 1017, 1092, 1148, 1204, 1260, 1316, 1384, 1452, 1520, 1588, 1663, 1738, 1813, 1881, 1949, 2017], 133, 0, 0, 0)]
def amK154_1 : List amEnt := []
def amK154_2 : List amEnt := [(172, .aload_n 1, 1, 0, 0, 0), (173, .aload_n 0, 1, 0, 0, 0), (174, .iload 4, 2, 0, 0, 0), (176, .iconst 1, 1, 0, 0, 0), (177, .iadd, 1, 0, 0, 0), (178, .iaload, 1, 0, 0, 0), (179, .invokevirtual 111, 3, 0, 37, 1), (182, .aload_n 2, 1, 0, 0, 0), (183, .aload_n 0, 1, 0, 0, 0), (184, .iload 4, 2, 0, 0, 0), (186, .iconst 1, 1, 0, 0, 0), (187, .iadd, 1, 0, 0, 0), (188, .iaload, 1, 0, 0, 0), (189, .invokevirtual 114, 3, 0, 93, 1)]
def amK154_3 : List amEnt := [(192, .if_icmp .eq 1920, 3, 0, 0, 0), (195, .iconst 0, 1, 0, 0, 0), (196, .ireturn, 1, 0, 0, 0), (197, .aload_n 1, 1, 0, 0, 0), (198, .aload_n 0, 1, 0, 0, 0), (199, .iload 4, 2, 0, 0, 0), (201, .iconst 1, 1, 0, 0, 0), (202, .iadd, 1, 0, 0, 0), (203, .iaload, 1, 0, 0, 0), (204, .aload_n 0, 1, 0, 0, 0), (205, .iload 4, 2, 0, 0, 0), (207, .iconst 2, 1, 0, 0, 0), (208, .iadd, 1, 0, 0, 0), (209, .iaload, 1, 0, 0, 0), (210, .aload_n 3, 1, 0, 0, 0), (211, .invokestatic 115, 3, 1, 125, 4), (214, .istore 5, 2, 0, 0, 0), (216, .aload_n 2, 1, 0, 0, 0), (217, .aload_n 0, 1, 0, 0, 0), (218, .iload 4, 2, 0, 0, 0), (220, .iconst 1, 1, 0, 0, 0), (221, .iadd, 1, 0, 0, 0), (222, .iaload, 1, 0, 0, 0), (223, .aload_n 0, 1, 0, 0, 0), (224, .iload 4, 2, 0, 0, 0), (226, .iconst 2, 1, 0, 0, 0), (227, .iadd, 1, 0, 0, 0), (228, .iaload, 1, 0, 0, 0), (229, .invokevirtual 120, 3, 0, 95, 2), (232, .istore 6, 2, 0, 0, 0), (234, .aload_n 2, 1, 0, 0, 0), (235, .invokevirtual 121, 3, 0, 78, 0), (238, .iload 5, 2, 0, 0, 0), (240, .if_icmp .eq 5, 3, 0, 0, 0), (243, .iconst 0, 1, 0, 0, 0), (244, .ireturn, 1, 0, 0, 0), (245, .iload 5, 2, 0, 0, 0), (247, .ifCond .ne 15, 3, 0, 0, 0), (250, .aload_n 3, 1, 0, 0, 0), (251, .iconst 0, 1, 0, 0, 0), (252, .laload, 1, 0, 0, 0), (253, .iload 6, 2, 0, 0, 0), (255, .i2l, 1, 0, 0, 0)]
def amK154_4 : List amEnt := [(256, .lcmp, 1, 0, 0, 0), (257, .ifCond .eq 5, 3, 0, 0, 0), (260, .iconst 0, 1, 0, 0, 0), (261, .ireturn, 1, 0, 0, 0), (262, .goto 1850, 3, 0, 0, 0), (265, .aload_n 1, 1, 0, 0, 0), (266, .aload_n 0, 1, 0, 0, 0), (267, .iload 4, 2, 0, 0, 0), (269, .iconst 1, 1, 0, 0, 0), (270, .iadd, 1, 0, 0, 0), (271, .iaload, 1, 0, 0, 0), (272, .aload_n 0, 1, 0, 0, 0), (273, .iload 4, 2, 0, 0, 0), (275, .iconst 2, 1, 0, 0, 0), (276, .iadd, 1, 0, 0, 0), (277, .iaload, 1, 0, 0, 0), (278, .aload_n 3, 1, 0, 0, 0), (279, .invokestatic 125, 3, 1, 126, 4), (282, .istore 5, 2, 0, 0, 0), (284, .aload_n 2, 1, 0, 0, 0), (285, .aload_n 0, 1, 0, 0, 0), (286, .iload 4, 2, 0, 0, 0), (288, .iconst 1, 1, 0, 0, 0), (289, .iadd, 1, 0, 0, 0), (290, .iaload, 1, 0, 0, 0), (291, .aload_n 0, 1, 0, 0, 0), (292, .iload 4, 2, 0, 0, 0), (294, .iconst 2, 1, 0, 0, 0), (295, .iadd, 1, 0, 0, 0), (296, .iaload, 1, 0, 0, 0), (297, .invokevirtual 127, 3, 0, 96, 2), (300, .istore 6, 2, 0, 0, 0), (302, .aload_n 2, 1, 0, 0, 0), (303, .invokevirtual 121, 3, 0, 78, 0), (306, .iload 5, 2, 0, 0, 0), (308, .if_icmp .eq 5, 3, 0, 0, 0), (311, .iconst 0, 1, 0, 0, 0), (312, .ireturn, 1, 0, 0, 0), (313, .iload 5, 2, 0, 0, 0), (315, .ifCond .ne 22, 3, 0, 0, 0), (318, .aload_n 3, 1, 0, 0, 0), (319, .iconst 0, 1, 0, 0, 0)]
def amK154_5 : List amEnt := [(320, .laload, 1, 0, 0, 0), (321, .iload 6, 2, 0, 0, 0), (323, .ifCond .eq 7, 3, 0, 0, 0), (326, .lconst 1, 1, 0, 0, 0), (327, .goto 4, 3, 0, 0, 0), (330, .lconst 0, 1, 0, 0, 0), (331, .lcmp, 1, 0, 0, 0), (332, .ifCond .eq 5, 3, 0, 0, 0), (335, .iconst 0, 1, 0, 0, 0), (336, .ireturn, 1, 0, 0, 0), (337, .goto 1775, 3, 0, 0, 0), (340, .aload_n 1, 1, 0, 0, 0), (341, .aload_n 0, 1, 0, 0, 0), (342, .iload 4, 2, 0, 0, 0), (344, .iconst 1, 1, 0, 0, 0), (345, .iadd, 1, 0, 0, 0), (346, .iaload, 1, 0, 0, 0), (347, .aload_n 0, 1, 0, 0, 0), (348, .iload 4, 2, 0, 0, 0), (350, .iconst 2, 1, 0, 0, 0), (351, .iadd, 1, 0, 0, 0), (352, .iaload, 1, 0, 0, 0), (353, .aload_n 3, 1, 0, 0, 0), (354, .invokestatic 128, 3, 1, 127, 4), (357, .istore 5, 2, 0, 0, 0), (359, .aload_n 2, 1, 0, 0, 0), (360, .aload_n 0, 1, 0, 0, 0), (361, .iload 4, 2, 0, 0, 0), (363, .iconst 1, 1, 0, 0, 0), (364, .iadd, 1, 0, 0, 0), (365, .iaload, 1, 0, 0, 0), (366, .aload_n 0, 1, 0, 0, 0), (367, .iload 4, 2, 0, 0, 0), (369, .iconst 2, 1, 0, 0, 0), (370, .iadd, 1, 0, 0, 0), (371, .iaload, 1, 0, 0, 0), (372, .invokevirtual 130, 3, 0, 97, 2), (375, .istore 6, 2, 0, 0, 0), (377, .aload_n 2, 1, 0, 0, 0), (378, .invokevirtual 121, 3, 0, 78, 0), (381, .iload 5, 2, 0, 0, 0), (383, .if_icmp .eq 5, 3, 0, 0, 0)]
def amK154_6 : List amEnt := [(386, .iconst 0, 1, 0, 0, 0), (387, .ireturn, 1, 0, 0, 0), (388, .iload 5, 2, 0, 0, 0), (390, .ifCond .ne 15, 3, 0, 0, 0), (393, .aload_n 3, 1, 0, 0, 0), (394, .iconst 0, 1, 0, 0, 0), (395, .laload, 1, 0, 0, 0), (396, .iload 6, 2, 0, 0, 0), (398, .i2l, 1, 0, 0, 0), (399, .lcmp, 1, 0, 0, 0), (400, .ifCond .eq 5, 3, 0, 0, 0), (403, .iconst 0, 1, 0, 0, 0), (404, .ireturn, 1, 0, 0, 0), (405, .goto 1707, 3, 0, 0, 0), (408, .aload_n 1, 1, 0, 0, 0), (409, .aload_n 0, 1, 0, 0, 0), (410, .iload 4, 2, 0, 0, 0), (412, .iconst 1, 1, 0, 0, 0), (413, .iadd, 1, 0, 0, 0), (414, .iaload, 1, 0, 0, 0), (415, .aload_n 0, 1, 0, 0, 0), (416, .iload 4, 2, 0, 0, 0), (418, .iconst 2, 1, 0, 0, 0), (419, .iadd, 1, 0, 0, 0), (420, .iaload, 1, 0, 0, 0), (421, .aload_n 0, 1, 0, 0, 0), (422, .iload 4, 2, 0, 0, 0), (424, .iconst 3, 1, 0, 0, 0), (425, .iadd, 1, 0, 0, 0), (426, .iaload, 1, 0, 0, 0), (427, .aload_n 3, 1, 0, 0, 0), (428, .invokestatic 131, 3, 1, 128, 5), (431, .istore 5, 2, 0, 0, 0), (433, .aload_n 2, 1, 0, 0, 0), (434, .aload_n 0, 1, 0, 0, 0), (435, .iload 4, 2, 0, 0, 0), (437, .iconst 1, 1, 0, 0, 0), (438, .iadd, 1, 0, 0, 0), (439, .iaload, 1, 0, 0, 0), (440, .aload_n 0, 1, 0, 0, 0), (441, .iload 4, 2, 0, 0, 0), (443, .iconst 2, 1, 0, 0, 0), (444, .iadd, 1, 0, 0, 0), (445, .iaload, 1, 0, 0, 0), (446, .aload_n 0, 1, 0, 0, 0), (447, .iload 4, 2, 0, 0, 0)]
def amK154_7 : List amEnt := [(449, .iconst 3, 1, 0, 0, 0), (450, .iadd, 1, 0, 0, 0), (451, .iaload, 1, 0, 0, 0), (452, .invokevirtual 134, 3, 0, 98, 3), (455, .istore 6, 2, 0, 0, 0), (457, .aload_n 2, 1, 0, 0, 0), (458, .invokevirtual 121, 3, 0, 78, 0), (461, .iload 5, 2, 0, 0, 0), (463, .if_icmp .eq 5, 3, 0, 0, 0), (466, .iconst 0, 1, 0, 0, 0), (467, .ireturn, 1, 0, 0, 0), (468, .iload 5, 2, 0, 0, 0), (470, .ifCond .ne 15, 3, 0, 0, 0), (473, .aload_n 3, 1, 0, 0, 0), (474, .iconst 0, 1, 0, 0, 0), (475, .laload, 1, 0, 0, 0), (476, .iload 6, 2, 0, 0, 0), (478, .i2l, 1, 0, 0, 0), (479, .lcmp, 1, 0, 0, 0), (480, .ifCond .eq 5, 3, 0, 0, 0), (483, .iconst 0, 1, 0, 0, 0), (484, .ireturn, 1, 0, 0, 0), (485, .goto 1627, 3, 0, 0, 0), (488, .aload_n 1, 1, 0, 0, 0), (489, .aload_n 0, 1, 0, 0, 0), (490, .iload 4, 2, 0, 0, 0), (492, .iconst 1, 1, 0, 0, 0), (493, .iadd, 1, 0, 0, 0), (494, .iaload, 1, 0, 0, 0), (495, .aload_n 0, 1, 0, 0, 0), (496, .iload 4, 2, 0, 0, 0), (498, .iconst 2, 1, 0, 0, 0), (499, .iadd, 1, 0, 0, 0), (500, .iaload, 1, 0, 0, 0), (501, .aload_n 0, 1, 0, 0, 0), (502, .iload 4, 2, 0, 0, 0), (504, .iconst 3, 1, 0, 0, 0), (505, .iadd, 1, 0, 0, 0), (506, .iaload, 1, 0, 0, 0), (507, .aload_n 3, 1, 0, 0, 0), (508, .invokestatic 135, 3, 1, 129, 5), (511, .istore 5, 2, 0, 0, 0)]
def amK154_8 : List amEnt := [(513, .aload_n 2, 1, 0, 0, 0), (514, .aload_n 0, 1, 0, 0, 0), (515, .iload 4, 2, 0, 0, 0), (517, .iconst 1, 1, 0, 0, 0), (518, .iadd, 1, 0, 0, 0), (519, .iaload, 1, 0, 0, 0), (520, .aload_n 0, 1, 0, 0, 0), (521, .iload 4, 2, 0, 0, 0), (523, .iconst 2, 1, 0, 0, 0), (524, .iadd, 1, 0, 0, 0), (525, .iaload, 1, 0, 0, 0), (526, .aload_n 0, 1, 0, 0, 0), (527, .iload 4, 2, 0, 0, 0), (529, .iconst 3, 1, 0, 0, 0), (530, .iadd, 1, 0, 0, 0), (531, .iaload, 1, 0, 0, 0), (532, .invokevirtual 137, 3, 0, 99, 3), (535, .istore 6, 2, 0, 0, 0), (537, .aload_n 2, 1, 0, 0, 0), (538, .invokevirtual 121, 3, 0, 78, 0), (541, .iload 5, 2, 0, 0, 0), (543, .if_icmp .eq 5, 3, 0, 0, 0), (546, .iconst 0, 1, 0, 0, 0), (547, .ireturn, 1, 0, 0, 0), (548, .iload 5, 2, 0, 0, 0), (550, .ifCond .ne 15, 3, 0, 0, 0), (553, .aload_n 3, 1, 0, 0, 0), (554, .iconst 0, 1, 0, 0, 0), (555, .laload, 1, 0, 0, 0), (556, .iload 6, 2, 0, 0, 0), (558, .i2l, 1, 0, 0, 0), (559, .lcmp, 1, 0, 0, 0), (560, .ifCond .eq 5, 3, 0, 0, 0), (563, .iconst 0, 1, 0, 0, 0), (564, .ireturn, 1, 0, 0, 0), (565, .goto 1547, 3, 0, 0, 0), (568, .aload_n 1, 1, 0, 0, 0), (569, .aload_n 0, 1, 0, 0, 0), (570, .iload 4, 2, 0, 0, 0), (572, .iconst 1, 1, 0, 0, 0), (573, .iadd, 1, 0, 0, 0), (574, .iaload, 1, 0, 0, 0), (575, .aload_n 0, 1, 0, 0, 0)]
def amK154_9 : List amEnt := [(576, .iload 4, 2, 0, 0, 0), (578, .iconst 2, 1, 0, 0, 0), (579, .iadd, 1, 0, 0, 0), (580, .iaload, 1, 0, 0, 0), (581, .aload_n 3, 1, 0, 0, 0), (582, .invokestatic 138, 3, 1, 130, 4), (585, .istore 5, 2, 0, 0, 0), (587, .aload_n 2, 1, 0, 0, 0), (588, .aload_n 0, 1, 0, 0, 0), (589, .iload 4, 2, 0, 0, 0), (591, .iconst 1, 1, 0, 0, 0), (592, .iadd, 1, 0, 0, 0), (593, .iaload, 1, 0, 0, 0), (594, .aload_n 0, 1, 0, 0, 0), (595, .iload 4, 2, 0, 0, 0), (597, .iconst 2, 1, 0, 0, 0), (598, .iadd, 1, 0, 0, 0), (599, .iaload, 1, 0, 0, 0), (600, .invokevirtual 140, 3, 0, 100, 2), (603, .istore 6, 2, 0, 0, 0), (605, .aload_n 2, 1, 0, 0, 0), (606, .invokevirtual 121, 3, 0, 78, 0), (609, .iload 5, 2, 0, 0, 0), (611, .if_icmp .eq 5, 3, 0, 0, 0), (614, .iconst 0, 1, 0, 0, 0), (615, .ireturn, 1, 0, 0, 0), (616, .iload 5, 2, 0, 0, 0), (618, .ifCond .ne 15, 3, 0, 0, 0), (621, .aload_n 3, 1, 0, 0, 0), (622, .iconst 0, 1, 0, 0, 0), (623, .laload, 1, 0, 0, 0), (624, .iload 6, 2, 0, 0, 0), (626, .i2l, 1, 0, 0, 0), (627, .lcmp, 1, 0, 0, 0), (628, .ifCond .eq 5, 3, 0, 0, 0), (631, .iconst 0, 1, 0, 0, 0), (632, .ireturn, 1, 0, 0, 0), (633, .goto 1479, 3, 0, 0, 0), (636, .aload_n 1, 1, 0, 0, 0), (637, .aload_n 0, 1, 0, 0, 0), (638, .iload 4, 2, 0, 0, 0)]
def amK154_10 : List amEnt := [(640, .iconst 1, 1, 0, 0, 0), (641, .iadd, 1, 0, 0, 0), (642, .iaload, 1, 0, 0, 0), (643, .aload_n 0, 1, 0, 0, 0), (644, .iload 4, 2, 0, 0, 0), (646, .iconst 2, 1, 0, 0, 0), (647, .iadd, 1, 0, 0, 0), (648, .iaload, 1, 0, 0, 0), (649, .aload_n 3, 1, 0, 0, 0), (650, .invokestatic 141, 3, 1, 131, 4), (653, .istore 5, 2, 0, 0, 0), (655, .aload_n 2, 1, 0, 0, 0), (656, .aload_n 0, 1, 0, 0, 0), (657, .iload 4, 2, 0, 0, 0), (659, .iconst 1, 1, 0, 0, 0), (660, .iadd, 1, 0, 0, 0), (661, .iaload, 1, 0, 0, 0), (662, .aload_n 0, 1, 0, 0, 0), (663, .iload 4, 2, 0, 0, 0), (665, .iconst 2, 1, 0, 0, 0), (666, .iadd, 1, 0, 0, 0), (667, .iaload, 1, 0, 0, 0), (668, .invokevirtual 143, 3, 0, 101, 2), (671, .istore 6, 2, 0, 0, 0), (673, .aload_n 2, 1, 0, 0, 0), (674, .invokevirtual 121, 3, 0, 78, 0), (677, .iload 5, 2, 0, 0, 0), (679, .if_icmp .eq 5, 3, 0, 0, 0), (682, .iconst 0, 1, 0, 0, 0), (683, .ireturn, 1, 0, 0, 0), (684, .iload 5, 2, 0, 0, 0), (686, .ifCond .ne 15, 3, 0, 0, 0), (689, .aload_n 3, 1, 0, 0, 0), (690, .iconst 0, 1, 0, 0, 0), (691, .laload, 1, 0, 0, 0), (692, .iload 6, 2, 0, 0, 0), (694, .i2l, 1, 0, 0, 0), (695, .lcmp, 1, 0, 0, 0), (696, .ifCond .eq 5, 3, 0, 0, 0), (699, .iconst 0, 1, 0, 0, 0), (700, .ireturn, 1, 0, 0, 0), (701, .goto 1411, 3, 0, 0, 0)]
def amK154_11 : List amEnt := [(704, .aload_n 1, 1, 0, 0, 0), (705, .aload_n 0, 1, 0, 0, 0), (706, .iload 4, 2, 0, 0, 0), (708, .iconst 1, 1, 0, 0, 0), (709, .iadd, 1, 0, 0, 0), (710, .iaload, 1, 0, 0, 0), (711, .aload_n 0, 1, 0, 0, 0), (712, .iload 4, 2, 0, 0, 0), (714, .iconst 2, 1, 0, 0, 0), (715, .iadd, 1, 0, 0, 0), (716, .iaload, 1, 0, 0, 0), (717, .aload_n 3, 1, 0, 0, 0), (718, .invokestatic 144, 3, 1, 132, 4), (721, .istore 5, 2, 0, 0, 0), (723, .aload_n 2, 1, 0, 0, 0), (724, .aload_n 0, 1, 0, 0, 0), (725, .iload 4, 2, 0, 0, 0), (727, .iconst 1, 1, 0, 0, 0), (728, .iadd, 1, 0, 0, 0), (729, .iaload, 1, 0, 0, 0), (730, .aload_n 0, 1, 0, 0, 0), (731, .iload 4, 2, 0, 0, 0), (733, .iconst 2, 1, 0, 0, 0), (734, .iadd, 1, 0, 0, 0), (735, .iaload, 1, 0, 0, 0), (736, .invokevirtual 146, 3, 0, 102, 2), (739, .istore 6, 2, 0, 0, 0), (741, .aload_n 2, 1, 0, 0, 0), (742, .invokevirtual 121, 3, 0, 78, 0), (745, .iload 5, 2, 0, 0, 0), (747, .if_icmp .eq 5, 3, 0, 0, 0), (750, .iconst 0, 1, 0, 0, 0), (751, .ireturn, 1, 0, 0, 0), (752, .iload 5, 2, 0, 0, 0), (754, .ifCond .ne 15, 3, 0, 0, 0), (757, .aload_n 3, 1, 0, 0, 0), (758, .iconst 0, 1, 0, 0, 0), (759, .laload, 1, 0, 0, 0), (760, .iload 6, 2, 0, 0, 0), (762, .i2l, 1, 0, 0, 0), (763, .lcmp, 1, 0, 0, 0), (764, .ifCond .eq 5, 3, 0, 0, 0), (767, .iconst 0, 1, 0, 0, 0)]
def amK154_12 : List amEnt := [(768, .ireturn, 1, 0, 0, 0), (769, .goto 1343, 3, 0, 0, 0), (772, .aload_n 1, 1, 0, 0, 0), (773, .aload_n 0, 1, 0, 0, 0), (774, .iload 4, 2, 0, 0, 0), (776, .iconst 1, 1, 0, 0, 0), (777, .iadd, 1, 0, 0, 0), (778, .iaload, 1, 0, 0, 0), (779, .invokestatic 147, 3, 1, 133, 2), (782, .istore 5, 2, 0, 0, 0), (784, .aload_n 2, 1, 0, 0, 0), (785, .aload_n 0, 1, 0, 0, 0), (786, .iload 4, 2, 0, 0, 0), (788, .iconst 1, 1, 0, 0, 0), (789, .iadd, 1, 0, 0, 0), (790, .iaload, 1, 0, 0, 0), (791, .invokevirtual 150, 3, 0, 103, 1), (794, .aload_n 2, 1, 0, 0, 0), (795, .invokevirtual 121, 3, 0, 78, 0), (798, .iload 5, 2, 0, 0, 0), (800, .if_icmp .eq 5, 3, 0, 0, 0), (803, .iconst 0, 1, 0, 0, 0), (804, .ireturn, 1, 0, 0, 0), (805, .goto 1307, 3, 0, 0, 0), (808, .aload_n 1, 1, 0, 0, 0), (809, .aload_n 0, 1, 0, 0, 0), (810, .iload 4, 2, 0, 0, 0), (812, .iconst 1, 1, 0, 0, 0), (813, .iadd, 1, 0, 0, 0), (814, .iaload, 1, 0, 0, 0), (815, .aload_n 3, 1, 0, 0, 0), (816, .invokestatic 151, 3, 1, 134, 3), (819, .istore 5, 2, 0, 0, 0), (821, .aload_n 2, 1, 0, 0, 0), (822, .aload_n 0, 1, 0, 0, 0), (823, .iload 4, 2, 0, 0, 0), (825, .iconst 1, 1, 0, 0, 0), (826, .iadd, 1, 0, 0, 0), (827, .iaload, 1, 0, 0, 0), (828, .invokevirtual 154, 3, 0, 104, 1), (831, .istore 6, 2, 0, 0, 0)]
def amK154_13 : List amEnt := [(833, .aload_n 2, 1, 0, 0, 0), (834, .invokevirtual 121, 3, 0, 78, 0), (837, .iload 5, 2, 0, 0, 0), (839, .if_icmp .eq 5, 3, 0, 0, 0), (842, .iconst 0, 1, 0, 0, 0), (843, .ireturn, 1, 0, 0, 0), (844, .iload 5, 2, 0, 0, 0), (846, .ifCond .ne 15, 3, 0, 0, 0), (849, .aload_n 3, 1, 0, 0, 0), (850, .iconst 0, 1, 0, 0, 0), (851, .laload, 1, 0, 0, 0), (852, .iload 6, 2, 0, 0, 0), (854, .i2l, 1, 0, 0, 0), (855, .lcmp, 1, 0, 0, 0), (856, .ifCond .eq 5, 3, 0, 0, 0), (859, .iconst 0, 1, 0, 0, 0), (860, .ireturn, 1, 0, 0, 0), (861, .goto 1251, 3, 0, 0, 0), (864, .aload_n 1, 1, 0, 0, 0), (865, .aload_n 0, 1, 0, 0, 0), (866, .iload 4, 2, 0, 0, 0), (868, .iconst 1, 1, 0, 0, 0), (869, .iadd, 1, 0, 0, 0), (870, .iaload, 1, 0, 0, 0), (871, .aload_n 3, 1, 0, 0, 0), (872, .invokestatic 155, 3, 1, 135, 3), (875, .istore 5, 2, 0, 0, 0), (877, .aload_n 2, 1, 0, 0, 0), (878, .aload_n 0, 1, 0, 0, 0), (879, .iload 4, 2, 0, 0, 0), (881, .iconst 1, 1, 0, 0, 0), (882, .iadd, 1, 0, 0, 0), (883, .iaload, 1, 0, 0, 0), (884, .invokevirtual 157, 3, 0, 105, 1), (887, .istore 6, 2, 0, 0, 0), (889, .aload_n 2, 1, 0, 0, 0), (890, .invokevirtual 121, 3, 0, 78, 0), (893, .iload 5, 2, 0, 0, 0), (895, .if_icmp .eq 5, 3, 0, 0, 0)]
def amK154_14 : List amEnt := [(898, .iconst 0, 1, 0, 0, 0), (899, .ireturn, 1, 0, 0, 0), (900, .iload 5, 2, 0, 0, 0), (902, .ifCond .ne 15, 3, 0, 0, 0), (905, .aload_n 3, 1, 0, 0, 0), (906, .iconst 0, 1, 0, 0, 0), (907, .laload, 1, 0, 0, 0), (908, .iload 6, 2, 0, 0, 0), (910, .i2l, 1, 0, 0, 0), (911, .lcmp, 1, 0, 0, 0), (912, .ifCond .eq 5, 3, 0, 0, 0), (915, .iconst 0, 1, 0, 0, 0), (916, .ireturn, 1, 0, 0, 0), (917, .goto 1195, 3, 0, 0, 0), (920, .aload_n 1, 1, 0, 0, 0), (921, .aload_n 0, 1, 0, 0, 0), (922, .iload 4, 2, 0, 0, 0), (924, .iconst 1, 1, 0, 0, 0), (925, .iadd, 1, 0, 0, 0), (926, .iaload, 1, 0, 0, 0), (927, .aload_n 0, 1, 0, 0, 0), (928, .iload 4, 2, 0, 0, 0), (930, .iconst 2, 1, 0, 0, 0), (931, .iadd, 1, 0, 0, 0), (932, .iaload, 1, 0, 0, 0), (933, .aload_n 3, 1, 0, 0, 0), (934, .invokestatic 158, 3, 1, 136, 4), (937, .istore 5, 2, 0, 0, 0), (939, .aload_n 2, 1, 0, 0, 0), (940, .aload_n 0, 1, 0, 0, 0), (941, .iload 4, 2, 0, 0, 0), (943, .iconst 1, 1, 0, 0, 0), (944, .iadd, 1, 0, 0, 0), (945, .iaload, 1, 0, 0, 0), (946, .aload_n 0, 1, 0, 0, 0), (947, .iload 4, 2, 0, 0, 0), (949, .iconst 2, 1, 0, 0, 0), (950, .iadd, 1, 0, 0, 0), (951, .iaload, 1, 0, 0, 0), (952, .invokevirtual 160, 3, 0, 106, 2), (955, .istore 6, 2, 0, 0, 0), (957, .aload_n 2, 1, 0, 0, 0), (958, .invokevirtual 121, 3, 0, 78, 0)]
def amK154_15 : List amEnt := [(961, .iload 5, 2, 0, 0, 0), (963, .if_icmp .eq 5, 3, 0, 0, 0), (966, .iconst 0, 1, 0, 0, 0), (967, .ireturn, 1, 0, 0, 0), (968, .iload 5, 2, 0, 0, 0), (970, .ifCond .ne 15, 3, 0, 0, 0), (973, .aload_n 3, 1, 0, 0, 0), (974, .iconst 0, 1, 0, 0, 0), (975, .laload, 1, 0, 0, 0), (976, .iload 6, 2, 0, 0, 0), (978, .i2l, 1, 0, 0, 0), (979, .lcmp, 1, 0, 0, 0), (980, .ifCond .eq 5, 3, 0, 0, 0), (983, .iconst 0, 1, 0, 0, 0), (984, .ireturn, 1, 0, 0, 0), (985, .goto 1127, 3, 0, 0, 0), (988, .aload_n 1, 1, 0, 0, 0), (989, .aload_n 0, 1, 0, 0, 0), (990, .iload 4, 2, 0, 0, 0), (992, .iconst 1, 1, 0, 0, 0), (993, .iadd, 1, 0, 0, 0), (994, .iaload, 1, 0, 0, 0), (995, .aload_n 0, 1, 0, 0, 0), (996, .iload 4, 2, 0, 0, 0), (998, .iconst 2, 1, 0, 0, 0), (999, .iadd, 1, 0, 0, 0), (1000, .iaload, 1, 0, 0, 0), (1001, .aload_n 3, 1, 0, 0, 0), (1002, .invokestatic 161, 3, 1, 137, 4), (1005, .istore 5, 2, 0, 0, 0), (1007, .aload_n 2, 1, 0, 0, 0), (1008, .aload_n 0, 1, 0, 0, 0), (1009, .iload 4, 2, 0, 0, 0), (1011, .iconst 1, 1, 0, 0, 0), (1012, .iadd, 1, 0, 0, 0), (1013, .iaload, 1, 0, 0, 0), (1014, .aload_n 0, 1, 0, 0, 0), (1015, .iload 4, 2, 0, 0, 0), (1017, .iconst 2, 1, 0, 0, 0), (1018, .iadd, 1, 0, 0, 0), (1019, .iaload, 1, 0, 0, 0), (1020, .invokevirtual 163, 3, 0, 107, 2), (1023, .istore 6, 2, 0, 0, 0)]
def amK154_16 : List amEnt := [(1025, .aload_n 2, 1, 0, 0, 0), (1026, .invokevirtual 121, 3, 0, 78, 0), (1029, .iload 5, 2, 0, 0, 0), (1031, .if_icmp .eq 5, 3, 0, 0, 0), (1034, .iconst 0, 1, 0, 0, 0), (1035, .ireturn, 1, 0, 0, 0), (1036, .iload 5, 2, 0, 0, 0), (1038, .ifCond .ne 15, 3, 0, 0, 0), (1041, .aload_n 3, 1, 0, 0, 0), (1042, .iconst 0, 1, 0, 0, 0), (1043, .laload, 1, 0, 0, 0), (1044, .iload 6, 2, 0, 0, 0), (1046, .i2l, 1, 0, 0, 0), (1047, .lcmp, 1, 0, 0, 0), (1048, .ifCond .eq 5, 3, 0, 0, 0), (1051, .iconst 0, 1, 0, 0, 0), (1052, .ireturn, 1, 0, 0, 0), (1053, .goto 1059, 3, 0, 0, 0), (1056, .aload_n 1, 1, 0, 0, 0), (1057, .aload_n 0, 1, 0, 0, 0), (1058, .iload 4, 2, 0, 0, 0), (1060, .iconst 1, 1, 0, 0, 0), (1061, .iadd, 1, 0, 0, 0), (1062, .iaload, 1, 0, 0, 0), (1063, .aload_n 0, 1, 0, 0, 0), (1064, .iload 4, 2, 0, 0, 0), (1066, .iconst 2, 1, 0, 0, 0), (1067, .iadd, 1, 0, 0, 0), (1068, .iaload, 1, 0, 0, 0), (1069, .aload_n 3, 1, 0, 0, 0), (1070, .invokestatic 164, 3, 1, 138, 4), (1073, .istore 5, 2, 0, 0, 0), (1075, .aload_n 2, 1, 0, 0, 0), (1076, .aload_n 0, 1, 0, 0, 0), (1077, .iload 4, 2, 0, 0, 0), (1079, .iconst 1, 1, 0, 0, 0), (1080, .iadd, 1, 0, 0, 0), (1081, .iaload, 1, 0, 0, 0), (1082, .aload_n 0, 1, 0, 0, 0), (1083, .iload 4, 2, 0, 0, 0), (1085, .iconst 2, 1, 0, 0, 0), (1086, .iadd, 1, 0, 0, 0), (1087, .iaload, 1, 0, 0, 0)]
def amK154_17 : List amEnt := [(1088, .invokevirtual 166, 3, 0, 108, 2), (1091, .istore 6, 2, 0, 0, 0), (1093, .aload_n 2, 1, 0, 0, 0), (1094, .invokevirtual 121, 3, 0, 78, 0), (1097, .iload 5, 2, 0, 0, 0), (1099, .if_icmp .eq 5, 3, 0, 0, 0), (1102, .iconst 0, 1, 0, 0, 0), (1103, .ireturn, 1, 0, 0, 0), (1104, .iload 5, 2, 0, 0, 0), (1106, .ifCond .ne 22, 3, 0, 0, 0), (1109, .aload_n 3, 1, 0, 0, 0), (1110, .iconst 0, 1, 0, 0, 0), (1111, .laload, 1, 0, 0, 0), (1112, .iload 6, 2, 0, 0, 0), (1114, .ifCond .eq 7, 3, 0, 0, 0), (1117, .lconst 1, 1, 0, 0, 0), (1118, .goto 4, 3, 0, 0, 0), (1121, .lconst 0, 1, 0, 0, 0), (1122, .lcmp, 1, 0, 0, 0), (1123, .ifCond .eq 5, 3, 0, 0, 0), (1126, .iconst 0, 1, 0, 0, 0), (1127, .ireturn, 1, 0, 0, 0), (1128, .goto 984, 3, 0, 0, 0), (1131, .aload_n 1, 1, 0, 0, 0), (1132, .aload_n 0, 1, 0, 0, 0), (1133, .iload 4, 2, 0, 0, 0), (1135, .iconst 1, 1, 0, 0, 0), (1136, .iadd, 1, 0, 0, 0), (1137, .iaload, 1, 0, 0, 0), (1138, .aload_n 3, 1, 0, 0, 0), (1139, .invokestatic 167, 3, 1, 139, 3), (1142, .istore 5, 2, 0, 0, 0), (1144, .aload_n 2, 1, 0, 0, 0), (1145, .aload_n 0, 1, 0, 0, 0), (1146, .iload 4, 2, 0, 0, 0), (1148, .iconst 1, 1, 0, 0, 0), (1149, .iadd, 1, 0, 0, 0), (1150, .iaload, 1, 0, 0, 0), (1151, .invokevirtual 169, 3, 0, 109, 1)]
def amK154_18 : List amEnt := [(1154, .istore 6, 2, 0, 0, 0), (1156, .aload_n 2, 1, 0, 0, 0), (1157, .invokevirtual 121, 3, 0, 78, 0), (1160, .iload 5, 2, 0, 0, 0), (1162, .if_icmp .eq 5, 3, 0, 0, 0), (1165, .iconst 0, 1, 0, 0, 0), (1166, .ireturn, 1, 0, 0, 0), (1167, .iload 5, 2, 0, 0, 0), (1169, .ifCond .ne 15, 3, 0, 0, 0), (1172, .aload_n 3, 1, 0, 0, 0), (1173, .iconst 0, 1, 0, 0, 0), (1174, .laload, 1, 0, 0, 0), (1175, .iload 6, 2, 0, 0, 0), (1177, .i2l, 1, 0, 0, 0), (1178, .lcmp, 1, 0, 0, 0), (1179, .ifCond .eq 5, 3, 0, 0, 0), (1182, .iconst 0, 1, 0, 0, 0), (1183, .ireturn, 1, 0, 0, 0), (1184, .goto 928, 3, 0, 0, 0), (1187, .aload_n 1, 1, 0, 0, 0), (1188, .aload_n 0, 1, 0, 0, 0), (1189, .iload 4, 2, 0, 0, 0), (1191, .iconst 1, 1, 0, 0, 0), (1192, .iadd, 1, 0, 0, 0), (1193, .iaload, 1, 0, 0, 0), (1194, .aload_n 3, 1, 0, 0, 0), (1195, .invokestatic 170, 3, 1, 140, 3), (1198, .istore 5, 2, 0, 0, 0), (1200, .aload_n 2, 1, 0, 0, 0), (1201, .aload_n 0, 1, 0, 0, 0), (1202, .iload 4, 2, 0, 0, 0), (1204, .iconst 1, 1, 0, 0, 0), (1205, .iadd, 1, 0, 0, 0), (1206, .iaload, 1, 0, 0, 0), (1207, .invokevirtual 172, 3, 0, 110, 1), (1210, .istore 6, 2, 0, 0, 0), (1212, .aload_n 2, 1, 0, 0, 0), (1213, .invokevirtual 121, 3, 0, 78, 0)]
def amK154_19 : List amEnt := [(1216, .iload 5, 2, 0, 0, 0), (1218, .if_icmp .eq 5, 3, 0, 0, 0), (1221, .iconst 0, 1, 0, 0, 0), (1222, .ireturn, 1, 0, 0, 0), (1223, .iload 5, 2, 0, 0, 0), (1225, .ifCond .ne 15, 3, 0, 0, 0), (1228, .aload_n 3, 1, 0, 0, 0), (1229, .iconst 0, 1, 0, 0, 0), (1230, .laload, 1, 0, 0, 0), (1231, .iload 6, 2, 0, 0, 0), (1233, .i2l, 1, 0, 0, 0), (1234, .lcmp, 1, 0, 0, 0), (1235, .ifCond .eq 5, 3, 0, 0, 0), (1238, .iconst 0, 1, 0, 0, 0), (1239, .ireturn, 1, 0, 0, 0), (1240, .goto 872, 3, 0, 0, 0), (1243, .aload_n 1, 1, 0, 0, 0), (1244, .aload_n 0, 1, 0, 0, 0), (1245, .iload 4, 2, 0, 0, 0), (1247, .iconst 1, 1, 0, 0, 0), (1248, .iadd, 1, 0, 0, 0), (1249, .iaload, 1, 0, 0, 0), (1250, .aload_n 3, 1, 0, 0, 0), (1251, .invokestatic 173, 3, 1, 141, 3), (1254, .istore 5, 2, 0, 0, 0), (1256, .aload_n 2, 1, 0, 0, 0), (1257, .aload_n 0, 1, 0, 0, 0), (1258, .iload 4, 2, 0, 0, 0), (1260, .iconst 1, 1, 0, 0, 0), (1261, .iadd, 1, 0, 0, 0), (1262, .iaload, 1, 0, 0, 0), (1263, .invokevirtual 175, 3, 0, 111, 1), (1266, .istore 6, 2, 0, 0, 0), (1268, .aload_n 2, 1, 0, 0, 0), (1269, .invokevirtual 121, 3, 0, 78, 0), (1272, .iload 5, 2, 0, 0, 0), (1274, .if_icmp .eq 5, 3, 0, 0, 0), (1277, .iconst 0, 1, 0, 0, 0), (1278, .ireturn, 1, 0, 0, 0), (1279, .iload 5, 2, 0, 0, 0)]
def amK154_20 : List amEnt := [(1281, .ifCond .ne 15, 3, 0, 0, 0), (1284, .aload_n 3, 1, 0, 0, 0), (1285, .iconst 0, 1, 0, 0, 0), (1286, .laload, 1, 0, 0, 0), (1287, .iload 6, 2, 0, 0, 0), (1289, .i2l, 1, 0, 0, 0), (1290, .lcmp, 1, 0, 0, 0), (1291, .ifCond .eq 5, 3, 0, 0, 0), (1294, .iconst 0, 1, 0, 0, 0), (1295, .ireturn, 1, 0, 0, 0), (1296, .goto 816, 3, 0, 0, 0), (1299, .aload_n 1, 1, 0, 0, 0), (1300, .aload_n 0, 1, 0, 0, 0), (1301, .iload 4, 2, 0, 0, 0), (1303, .iconst 1, 1, 0, 0, 0), (1304, .iadd, 1, 0, 0, 0), (1305, .iaload, 1, 0, 0, 0), (1306, .aload_n 3, 1, 0, 0, 0), (1307, .invokestatic 176, 3, 1, 142, 3), (1310, .istore 5, 2, 0, 0, 0), (1312, .aload_n 2, 1, 0, 0, 0), (1313, .aload_n 0, 1, 0, 0, 0), (1314, .iload 4, 2, 0, 0, 0), (1316, .iconst 1, 1, 0, 0, 0), (1317, .iadd, 1, 0, 0, 0), (1318, .iaload, 1, 0, 0, 0), (1319, .invokevirtual 178, 3, 0, 112, 1), (1322, .istore 6, 2, 0, 0, 0), (1324, .aload_n 2, 1, 0, 0, 0), (1325, .invokevirtual 121, 3, 0, 78, 0), (1328, .iload 5, 2, 0, 0, 0), (1330, .if_icmp .eq 5, 3, 0, 0, 0), (1333, .iconst 0, 1, 0, 0, 0), (1334, .ireturn, 1, 0, 0, 0), (1335, .iload 5, 2, 0, 0, 0), (1337, .ifCond .ne 15, 3, 0, 0, 0), (1340, .aload_n 3, 1, 0, 0, 0), (1341, .iconst 0, 1, 0, 0, 0), (1342, .laload, 1, 0, 0, 0), (1343, .iload 6, 2, 0, 0, 0)]
def amK154_21 : List amEnt := [(1345, .i2l, 1, 0, 0, 0), (1346, .lcmp, 1, 0, 0, 0), (1347, .ifCond .eq 5, 3, 0, 0, 0), (1350, .iconst 0, 1, 0, 0, 0), (1351, .ireturn, 1, 0, 0, 0), (1352, .goto 760, 3, 0, 0, 0), (1355, .aload_n 1, 1, 0, 0, 0), (1356, .aload_n 0, 1, 0, 0, 0), (1357, .iload 4, 2, 0, 0, 0), (1359, .iconst 1, 1, 0, 0, 0), (1360, .iadd, 1, 0, 0, 0), (1361, .iaload, 1, 0, 0, 0), (1362, .aload_n 0, 1, 0, 0, 0), (1363, .iload 4, 2, 0, 0, 0), (1365, .iconst 2, 1, 0, 0, 0), (1366, .iadd, 1, 0, 0, 0), (1367, .iaload, 1, 0, 0, 0), (1368, .aload_n 3, 1, 0, 0, 0), (1369, .invokestatic 179, 3, 1, 143, 4), (1372, .istore 5, 2, 0, 0, 0), (1374, .aload_n 2, 1, 0, 0, 0), (1375, .aload_n 0, 1, 0, 0, 0), (1376, .iload 4, 2, 0, 0, 0), (1378, .iconst 1, 1, 0, 0, 0), (1379, .iadd, 1, 0, 0, 0), (1380, .iaload, 1, 0, 0, 0), (1381, .aload_n 0, 1, 0, 0, 0), (1382, .iload 4, 2, 0, 0, 0), (1384, .iconst 2, 1, 0, 0, 0), (1385, .iadd, 1, 0, 0, 0), (1386, .iaload, 1, 0, 0, 0), (1387, .invokevirtual 181, 3, 0, 113, 2), (1390, .istore 6, 2, 0, 0, 0), (1392, .aload_n 2, 1, 0, 0, 0), (1393, .invokevirtual 121, 3, 0, 78, 0), (1396, .iload 5, 2, 0, 0, 0), (1398, .if_icmp .eq 5, 3, 0, 0, 0), (1401, .iconst 0, 1, 0, 0, 0), (1402, .ireturn, 1, 0, 0, 0), (1403, .iload 5, 2, 0, 0, 0), (1405, .ifCond .ne 15, 3, 0, 0, 0)]
def amK154_22 : List amEnt := [(1408, .aload_n 3, 1, 0, 0, 0), (1409, .iconst 0, 1, 0, 0, 0), (1410, .laload, 1, 0, 0, 0), (1411, .iload 6, 2, 0, 0, 0), (1413, .i2l, 1, 0, 0, 0), (1414, .lcmp, 1, 0, 0, 0), (1415, .ifCond .eq 5, 3, 0, 0, 0), (1418, .iconst 0, 1, 0, 0, 0), (1419, .ireturn, 1, 0, 0, 0), (1420, .goto 692, 3, 0, 0, 0), (1423, .aload_n 1, 1, 0, 0, 0), (1424, .aload_n 0, 1, 0, 0, 0), (1425, .iload 4, 2, 0, 0, 0), (1427, .iconst 1, 1, 0, 0, 0), (1428, .iadd, 1, 0, 0, 0), (1429, .iaload, 1, 0, 0, 0), (1430, .aload_n 0, 1, 0, 0, 0), (1431, .iload 4, 2, 0, 0, 0), (1433, .iconst 2, 1, 0, 0, 0), (1434, .iadd, 1, 0, 0, 0), (1435, .iaload, 1, 0, 0, 0), (1436, .aload_n 3, 1, 0, 0, 0), (1437, .invokestatic 182, 3, 1, 144, 4), (1440, .istore 5, 2, 0, 0, 0), (1442, .aload_n 2, 1, 0, 0, 0), (1443, .aload_n 0, 1, 0, 0, 0), (1444, .iload 4, 2, 0, 0, 0), (1446, .iconst 1, 1, 0, 0, 0), (1447, .iadd, 1, 0, 0, 0), (1448, .iaload, 1, 0, 0, 0), (1449, .aload_n 0, 1, 0, 0, 0), (1450, .iload 4, 2, 0, 0, 0), (1452, .iconst 2, 1, 0, 0, 0), (1453, .iadd, 1, 0, 0, 0), (1454, .iaload, 1, 0, 0, 0), (1455, .invokevirtual 184, 3, 0, 115, 2), (1458, .istore 6, 2, 0, 0, 0), (1460, .aload_n 2, 1, 0, 0, 0), (1461, .invokevirtual 121, 3, 0, 78, 0), (1464, .iload 5, 2, 0, 0, 0), (1466, .if_icmp .eq 5, 3, 0, 0, 0), (1469, .iconst 0, 1, 0, 0, 0), (1470, .ireturn, 1, 0, 0, 0), (1471, .iload 5, 2, 0, 0, 0)]
def amK154_23 : List amEnt := [(1473, .ifCond .ne 15, 3, 0, 0, 0), (1476, .aload_n 3, 1, 0, 0, 0), (1477, .iconst 0, 1, 0, 0, 0), (1478, .laload, 1, 0, 0, 0), (1479, .iload 6, 2, 0, 0, 0), (1481, .i2l, 1, 0, 0, 0), (1482, .lcmp, 1, 0, 0, 0), (1483, .ifCond .eq 5, 3, 0, 0, 0), (1486, .iconst 0, 1, 0, 0, 0), (1487, .ireturn, 1, 0, 0, 0), (1488, .goto 624, 3, 0, 0, 0), (1491, .aload_n 1, 1, 0, 0, 0), (1492, .aload_n 0, 1, 0, 0, 0), (1493, .iload 4, 2, 0, 0, 0), (1495, .iconst 1, 1, 0, 0, 0), (1496, .iadd, 1, 0, 0, 0), (1497, .iaload, 1, 0, 0, 0), (1498, .aload_n 0, 1, 0, 0, 0), (1499, .iload 4, 2, 0, 0, 0), (1501, .iconst 2, 1, 0, 0, 0), (1502, .iadd, 1, 0, 0, 0), (1503, .iaload, 1, 0, 0, 0), (1504, .aload_n 3, 1, 0, 0, 0), (1505, .invokestatic 185, 3, 1, 145, 4), (1508, .istore 5, 2, 0, 0, 0), (1510, .aload_n 2, 1, 0, 0, 0), (1511, .aload_n 0, 1, 0, 0, 0), (1512, .iload 4, 2, 0, 0, 0), (1514, .iconst 1, 1, 0, 0, 0), (1515, .iadd, 1, 0, 0, 0), (1516, .iaload, 1, 0, 0, 0), (1517, .aload_n 0, 1, 0, 0, 0), (1518, .iload 4, 2, 0, 0, 0), (1520, .iconst 2, 1, 0, 0, 0), (1521, .iadd, 1, 0, 0, 0), (1522, .iaload, 1, 0, 0, 0), (1523, .invokevirtual 187, 3, 0, 116, 2), (1526, .istore 6, 2, 0, 0, 0), (1528, .aload_n 2, 1, 0, 0, 0), (1529, .invokevirtual 121, 3, 0, 78, 0), (1532, .iload 5, 2, 0, 0, 0), (1534, .if_icmp .eq 5, 3, 0, 0, 0)]
def amK154_24 : List amEnt := [(1537, .iconst 0, 1, 0, 0, 0), (1538, .ireturn, 1, 0, 0, 0), (1539, .iload 5, 2, 0, 0, 0), (1541, .ifCond .ne 15, 3, 0, 0, 0), (1544, .aload_n 3, 1, 0, 0, 0), (1545, .iconst 0, 1, 0, 0, 0), (1546, .laload, 1, 0, 0, 0), (1547, .iload 6, 2, 0, 0, 0), (1549, .i2l, 1, 0, 0, 0), (1550, .lcmp, 1, 0, 0, 0), (1551, .ifCond .eq 5, 3, 0, 0, 0), (1554, .iconst 0, 1, 0, 0, 0), (1555, .ireturn, 1, 0, 0, 0), (1556, .goto 556, 3, 0, 0, 0), (1559, .aload_n 1, 1, 0, 0, 0), (1560, .aload_n 0, 1, 0, 0, 0), (1561, .iload 4, 2, 0, 0, 0), (1563, .iconst 1, 1, 0, 0, 0), (1564, .iadd, 1, 0, 0, 0), (1565, .iaload, 1, 0, 0, 0), (1566, .aload_n 0, 1, 0, 0, 0), (1567, .iload 4, 2, 0, 0, 0), (1569, .iconst 2, 1, 0, 0, 0), (1570, .iadd, 1, 0, 0, 0), (1571, .iaload, 1, 0, 0, 0), (1572, .aload_n 3, 1, 0, 0, 0), (1573, .invokestatic 188, 3, 1, 146, 4), (1576, .istore 5, 2, 0, 0, 0), (1578, .aload_n 2, 1, 0, 0, 0), (1579, .aload_n 0, 1, 0, 0, 0), (1580, .iload 4, 2, 0, 0, 0), (1582, .iconst 1, 1, 0, 0, 0), (1583, .iadd, 1, 0, 0, 0), (1584, .iaload, 1, 0, 0, 0), (1585, .aload_n 0, 1, 0, 0, 0), (1586, .iload 4, 2, 0, 0, 0), (1588, .iconst 2, 1, 0, 0, 0), (1589, .iadd, 1, 0, 0, 0), (1590, .iaload, 1, 0, 0, 0), (1591, .invokevirtual 190, 3, 0, 117, 2), (1594, .istore 6, 2, 0, 0, 0), (1596, .aload_n 2, 1, 0, 0, 0), (1597, .invokevirtual 121, 3, 0, 78, 0)]
def amK154_25 : List amEnt := [(1600, .iload 5, 2, 0, 0, 0), (1602, .if_icmp .eq 5, 3, 0, 0, 0), (1605, .iconst 0, 1, 0, 0, 0), (1606, .ireturn, 1, 0, 0, 0), (1607, .iload 5, 2, 0, 0, 0), (1609, .ifCond .ne 15, 3, 0, 0, 0), (1612, .aload_n 3, 1, 0, 0, 0), (1613, .iconst 0, 1, 0, 0, 0), (1614, .laload, 1, 0, 0, 0), (1615, .iload 6, 2, 0, 0, 0), (1617, .i2l, 1, 0, 0, 0), (1618, .lcmp, 1, 0, 0, 0), (1619, .ifCond .eq 5, 3, 0, 0, 0), (1622, .iconst 0, 1, 0, 0, 0), (1623, .ireturn, 1, 0, 0, 0), (1624, .goto 488, 3, 0, 0, 0), (1627, .aload_n 1, 1, 0, 0, 0), (1628, .aload_n 0, 1, 0, 0, 0), (1629, .iload 4, 2, 0, 0, 0), (1631, .iconst 1, 1, 0, 0, 0), (1632, .iadd, 1, 0, 0, 0), (1633, .iaload, 1, 0, 0, 0), (1634, .aload_n 0, 1, 0, 0, 0), (1635, .iload 4, 2, 0, 0, 0), (1637, .iconst 2, 1, 0, 0, 0), (1638, .iadd, 1, 0, 0, 0), (1639, .iaload, 1, 0, 0, 0), (1640, .aload_n 3, 1, 0, 0, 0), (1641, .invokestatic 191, 3, 1, 147, 4), (1644, .istore 5, 2, 0, 0, 0), (1646, .aload_n 2, 1, 0, 0, 0), (1647, .aload_n 0, 1, 0, 0, 0), (1648, .iload 4, 2, 0, 0, 0), (1650, .iconst 1, 1, 0, 0, 0), (1651, .iadd, 1, 0, 0, 0), (1652, .iaload, 1, 0, 0, 0), (1653, .aload_n 0, 1, 0, 0, 0), (1654, .iload 4, 2, 0, 0, 0), (1656, .iconst 2, 1, 0, 0, 0), (1657, .iadd, 1, 0, 0, 0), (1658, .iaload, 1, 0, 0, 0), (1659, .invokevirtual 193, 3, 0, 118, 2), (1662, .istore 6, 2, 0, 0, 0)]
def amK154_26 : List amEnt := [(1664, .aload_n 2, 1, 0, 0, 0), (1665, .invokevirtual 121, 3, 0, 78, 0), (1668, .iload 5, 2, 0, 0, 0), (1670, .if_icmp .eq 5, 3, 0, 0, 0), (1673, .iconst 0, 1, 0, 0, 0), (1674, .ireturn, 1, 0, 0, 0), (1675, .iload 5, 2, 0, 0, 0), (1677, .ifCond .ne 22, 3, 0, 0, 0), (1680, .aload_n 3, 1, 0, 0, 0), (1681, .iconst 0, 1, 0, 0, 0), (1682, .laload, 1, 0, 0, 0), (1683, .iload 6, 2, 0, 0, 0), (1685, .ifCond .eq 7, 3, 0, 0, 0), (1688, .lconst 1, 1, 0, 0, 0), (1689, .goto 4, 3, 0, 0, 0), (1692, .lconst 0, 1, 0, 0, 0), (1693, .lcmp, 1, 0, 0, 0), (1694, .ifCond .eq 5, 3, 0, 0, 0), (1697, .iconst 0, 1, 0, 0, 0), (1698, .ireturn, 1, 0, 0, 0), (1699, .goto 413, 3, 0, 0, 0), (1702, .aload_n 1, 1, 0, 0, 0), (1703, .aload_n 0, 1, 0, 0, 0), (1704, .iload 4, 2, 0, 0, 0), (1706, .iconst 1, 1, 0, 0, 0), (1707, .iadd, 1, 0, 0, 0), (1708, .iaload, 1, 0, 0, 0), (1709, .aload_n 0, 1, 0, 0, 0), (1710, .iload 4, 2, 0, 0, 0), (1712, .iconst 2, 1, 0, 0, 0), (1713, .iadd, 1, 0, 0, 0), (1714, .iaload, 1, 0, 0, 0), (1715, .aload_n 3, 1, 0, 0, 0), (1716, .invokestatic 194, 3, 1, 148, 4), (1719, .istore 5, 2, 0, 0, 0), (1721, .aload_n 2, 1, 0, 0, 0), (1722, .aload_n 0, 1, 0, 0, 0), (1723, .iload 4, 2, 0, 0, 0), (1725, .iconst 1, 1, 0, 0, 0), (1726, .iadd, 1, 0, 0, 0), (1727, .iaload, 1, 0, 0, 0)]
def amK154_27 : List amEnt := [(1728, .aload_n 0, 1, 0, 0, 0), (1729, .iload 4, 2, 0, 0, 0), (1731, .iconst 2, 1, 0, 0, 0), (1732, .iadd, 1, 0, 0, 0), (1733, .iaload, 1, 0, 0, 0), (1734, .invokevirtual 196, 3, 0, 119, 2), (1737, .istore 6, 2, 0, 0, 0), (1739, .aload_n 2, 1, 0, 0, 0), (1740, .invokevirtual 121, 3, 0, 78, 0), (1743, .iload 5, 2, 0, 0, 0), (1745, .if_icmp .eq 5, 3, 0, 0, 0), (1748, .iconst 0, 1, 0, 0, 0), (1749, .ireturn, 1, 0, 0, 0), (1750, .iload 5, 2, 0, 0, 0), (1752, .ifCond .ne 22, 3, 0, 0, 0), (1755, .aload_n 3, 1, 0, 0, 0), (1756, .iconst 0, 1, 0, 0, 0), (1757, .laload, 1, 0, 0, 0), (1758, .iload 6, 2, 0, 0, 0), (1760, .ifCond .eq 7, 3, 0, 0, 0), (1763, .lconst 1, 1, 0, 0, 0), (1764, .goto 4, 3, 0, 0, 0), (1767, .lconst 0, 1, 0, 0, 0), (1768, .lcmp, 1, 0, 0, 0), (1769, .ifCond .eq 5, 3, 0, 0, 0), (1772, .iconst 0, 1, 0, 0, 0), (1773, .ireturn, 1, 0, 0, 0), (1774, .goto 338, 3, 0, 0, 0), (1777, .aload_n 1, 1, 0, 0, 0), (1778, .aload_n 0, 1, 0, 0, 0), (1779, .iload 4, 2, 0, 0, 0), (1781, .iconst 1, 1, 0, 0, 0), (1782, .iadd, 1, 0, 0, 0), (1783, .iaload, 1, 0, 0, 0), (1784, .aload_n 0, 1, 0, 0, 0), (1785, .iload 4, 2, 0, 0, 0), (1787, .iconst 2, 1, 0, 0, 0), (1788, .iadd, 1, 0, 0, 0), (1789, .iaload, 1, 0, 0, 0), (1790, .aload_n 3, 1, 0, 0, 0), (1791, .invokestatic 197, 3, 1, 149, 4)]
def amK154_28 : List amEnt := [(1794, .istore 5, 2, 0, 0, 0), (1796, .aload_n 2, 1, 0, 0, 0), (1797, .aload_n 0, 1, 0, 0, 0), (1798, .iload 4, 2, 0, 0, 0), (1800, .iconst 1, 1, 0, 0, 0), (1801, .iadd, 1, 0, 0, 0), (1802, .iaload, 1, 0, 0, 0), (1803, .aload_n 0, 1, 0, 0, 0), (1804, .iload 4, 2, 0, 0, 0), (1806, .iconst 2, 1, 0, 0, 0), (1807, .iadd, 1, 0, 0, 0), (1808, .iaload, 1, 0, 0, 0), (1809, .invokevirtual 199, 3, 0, 120, 2), (1812, .istore 6, 2, 0, 0, 0), (1814, .aload_n 2, 1, 0, 0, 0), (1815, .invokevirtual 121, 3, 0, 78, 0), (1818, .iload 5, 2, 0, 0, 0), (1820, .if_icmp .eq 5, 3, 0, 0, 0), (1823, .iconst 0, 1, 0, 0, 0), (1824, .ireturn, 1, 0, 0, 0), (1825, .iload 5, 2, 0, 0, 0), (1827, .ifCond .ne 22, 3, 0, 0, 0), (1830, .aload_n 3, 1, 0, 0, 0), (1831, .iconst 0, 1, 0, 0, 0), (1832, .laload, 1, 0, 0, 0), (1833, .iload 6, 2, 0, 0, 0), (1835, .ifCond .eq 7, 3, 0, 0, 0), (1838, .lconst 1, 1, 0, 0, 0), (1839, .goto 4, 3, 0, 0, 0), (1842, .lconst 0, 1, 0, 0, 0), (1843, .lcmp, 1, 0, 0, 0), (1844, .ifCond .eq 5, 3, 0, 0, 0), (1847, .iconst 0, 1, 0, 0, 0), (1848, .ireturn, 1, 0, 0, 0), (1849, .goto 263, 3, 0, 0, 0), (1852, .aload_n 1, 1, 0, 0, 0), (1853, .aload_n 0, 1, 0, 0, 0), (1854, .iload 4, 2, 0, 0, 0)]
def amK154_29 : List amEnt := [(1856, .iconst 1, 1, 0, 0, 0), (1857, .iadd, 1, 0, 0, 0), (1858, .iaload, 1, 0, 0, 0), (1859, .aload_n 0, 1, 0, 0, 0), (1860, .iload 4, 2, 0, 0, 0), (1862, .iconst 2, 1, 0, 0, 0), (1863, .iadd, 1, 0, 0, 0), (1864, .iaload, 1, 0, 0, 0), (1865, .aload_n 3, 1, 0, 0, 0), (1866, .invokestatic 200, 3, 1, 150, 4), (1869, .istore 5, 2, 0, 0, 0), (1871, .aload_n 2, 1, 0, 0, 0), (1872, .aload_n 0, 1, 0, 0, 0), (1873, .iload 4, 2, 0, 0, 0), (1875, .iconst 1, 1, 0, 0, 0), (1876, .iadd, 1, 0, 0, 0), (1877, .iaload, 1, 0, 0, 0), (1878, .aload_n 0, 1, 0, 0, 0), (1879, .iload 4, 2, 0, 0, 0), (1881, .iconst 2, 1, 0, 0, 0), (1882, .iadd, 1, 0, 0, 0), (1883, .iaload, 1, 0, 0, 0), (1884, .invokevirtual 202, 3, 0, 121, 2), (1887, .istore 6, 2, 0, 0, 0), (1889, .aload_n 2, 1, 0, 0, 0), (1890, .invokevirtual 121, 3, 0, 78, 0), (1893, .iload 5, 2, 0, 0, 0), (1895, .if_icmp .eq 5, 3, 0, 0, 0), (1898, .iconst 0, 1, 0, 0, 0), (1899, .ireturn, 1, 0, 0, 0), (1900, .iload 5, 2, 0, 0, 0), (1902, .ifCond .ne 15, 3, 0, 0, 0), (1905, .aload_n 3, 1, 0, 0, 0), (1906, .iconst 0, 1, 0, 0, 0), (1907, .laload, 1, 0, 0, 0), (1908, .iload 6, 2, 0, 0, 0), (1910, .i2l, 1, 0, 0, 0), (1911, .lcmp, 1, 0, 0, 0), (1912, .ifCond .eq 5, 3, 0, 0, 0), (1915, .iconst 0, 1, 0, 0, 0), (1916, .ireturn, 1, 0, 0, 0), (1917, .goto 195, 3, 0, 0, 0)]
def amK154_30 : List amEnt := [(1920, .aload_n 1, 1, 0, 0, 0), (1921, .aload_n 0, 1, 0, 0, 0), (1922, .iload 4, 2, 0, 0, 0), (1924, .iconst 1, 1, 0, 0, 0), (1925, .iadd, 1, 0, 0, 0), (1926, .iaload, 1, 0, 0, 0), (1927, .aload_n 0, 1, 0, 0, 0), (1928, .iload 4, 2, 0, 0, 0), (1930, .iconst 2, 1, 0, 0, 0), (1931, .iadd, 1, 0, 0, 0), (1932, .iaload, 1, 0, 0, 0), (1933, .aload_n 3, 1, 0, 0, 0), (1934, .invokestatic 203, 3, 1, 151, 4), (1937, .istore 5, 2, 0, 0, 0), (1939, .aload_n 2, 1, 0, 0, 0), (1940, .aload_n 0, 1, 0, 0, 0), (1941, .iload 4, 2, 0, 0, 0), (1943, .iconst 1, 1, 0, 0, 0), (1944, .iadd, 1, 0, 0, 0), (1945, .iaload, 1, 0, 0, 0), (1946, .aload_n 0, 1, 0, 0, 0), (1947, .iload 4, 2, 0, 0, 0), (1949, .iconst 2, 1, 0, 0, 0), (1950, .iadd, 1, 0, 0, 0), (1951, .iaload, 1, 0, 0, 0), (1952, .invokevirtual 205, 3, 0, 122, 2), (1955, .istore 6, 2, 0, 0, 0), (1957, .aload_n 2, 1, 0, 0, 0), (1958, .invokevirtual 121, 3, 0, 78, 0), (1961, .iload 5, 2, 0, 0, 0), (1963, .if_icmp .eq 5, 3, 0, 0, 0), (1966, .iconst 0, 1, 0, 0, 0), (1967, .ireturn, 1, 0, 0, 0), (1968, .iload 5, 2, 0, 0, 0), (1970, .ifCond .ne 15, 3, 0, 0, 0), (1973, .aload_n 3, 1, 0, 0, 0), (1974, .iconst 0, 1, 0, 0, 0), (1975, .laload, 1, 0, 0, 0), (1976, .iload 6, 2, 0, 0, 0), (1978, .i2l, 1, 0, 0, 0), (1979, .lcmp, 1, 0, 0, 0), (1980, .ifCond .eq 5, 3, 0, 0, 0), (1983, .iconst 0, 1, 0, 0, 0)]
def amK154_31 : List amEnt := [(1984, .ireturn, 1, 0, 0, 0), (1985, .goto 127, 3, 0, 0, 0), (1988, .aload_n 1, 1, 0, 0, 0), (1989, .aload_n 0, 1, 0, 0, 0), (1990, .iload 4, 2, 0, 0, 0), (1992, .iconst 1, 1, 0, 0, 0), (1993, .iadd, 1, 0, 0, 0), (1994, .iaload, 1, 0, 0, 0), (1995, .aload_n 0, 1, 0, 0, 0), (1996, .iload 4, 2, 0, 0, 0), (1998, .iconst 2, 1, 0, 0, 0), (1999, .iadd, 1, 0, 0, 0), (2000, .iaload, 1, 0, 0, 0), (2001, .aload_n 3, 1, 0, 0, 0), (2002, .invokestatic 206, 3, 1, 152, 4), (2005, .istore 5, 2, 0, 0, 0), (2007, .aload_n 2, 1, 0, 0, 0), (2008, .aload_n 0, 1, 0, 0, 0), (2009, .iload 4, 2, 0, 0, 0), (2011, .iconst 1, 1, 0, 0, 0), (2012, .iadd, 1, 0, 0, 0), (2013, .iaload, 1, 0, 0, 0), (2014, .aload_n 0, 1, 0, 0, 0), (2015, .iload 4, 2, 0, 0, 0), (2017, .iconst 2, 1, 0, 0, 0), (2018, .iadd, 1, 0, 0, 0), (2019, .iaload, 1, 0, 0, 0), (2020, .invokevirtual 208, 3, 0, 123, 2), (2023, .istore 6, 2, 0, 0, 0), (2025, .aload_n 2, 1, 0, 0, 0), (2026, .invokevirtual 121, 3, 0, 78, 0), (2029, .iload 5, 2, 0, 0, 0), (2031, .if_icmp .eq 5, 3, 0, 0, 0), (2034, .iconst 0, 1, 0, 0, 0), (2035, .ireturn, 1, 0, 0, 0), (2036, .iload 5, 2, 0, 0, 0), (2038, .ifCond .ne 15, 3, 0, 0, 0), (2041, .aload_n 3, 1, 0, 0, 0), (2042, .iconst 0, 1, 0, 0, 0), (2043, .laload, 1, 0, 0, 0), (2044, .iload 6, 2, 0, 0, 0), (2046, .i2l, 1, 0, 0, 0), (2047, .lcmp, 1, 0, 0, 0)]
def amK154_32 : List amEnt := [(2048, .ifCond .eq 5, 3, 0, 0, 0), (2051, .iconst 0, 1, 0, 0, 0), (2052, .ireturn, 1, 0, 0, 0), (2053, .goto 59, 3, 0, 0, 0), (2056, .aload_n 1, 1, 0, 0, 0), (2057, .aload_n 0, 1, 0, 0, 0), (2058, .iload 4, 2, 0, 0, 0), (2060, .iconst 1, 1, 0, 0, 0), (2061, .iadd, 1, 0, 0, 0), (2062, .iaload, 1, 0, 0, 0), (2063, .aload_n 3, 1, 0, 0, 0), (2064, .invokestatic 209, 3, 1, 153, 3), (2067, .istore 5, 2, 0, 0, 0), (2069, .aload_n 2, 1, 0, 0, 0), (2070, .aload_n 0, 1, 0, 0, 0), (2071, .iload 4, 2, 0, 0, 0), (2073, .iconst 1, 1, 0, 0, 0), (2074, .iadd, 1, 0, 0, 0), (2075, .iaload, 1, 0, 0, 0), (2076, .invokevirtual 211, 3, 0, 124, 1), (2079, .istore 6, 2, 0, 0, 0), (2081, .aload_n 2, 1, 0, 0, 0), (2082, .invokevirtual 121, 3, 0, 78, 0), (2085, .iload 5, 2, 0, 0, 0), (2087, .if_icmp .eq 5, 3, 0, 0, 0), (2090, .iconst 0, 1, 0, 0, 0), (2091, .ireturn, 1, 0, 0, 0), (2092, .iload 5, 2, 0, 0, 0), (2094, .ifCond .ne 15, 3, 0, 0, 0), (2097, .aload_n 3, 1, 0, 0, 0), (2098, .iconst 0, 1, 0, 0, 0), (2099, .laload, 1, 0, 0, 0), (2100, .iload 6, 2, 0, 0, 0), (2102, .i2l, 1, 0, 0, 0), (2103, .lcmp, 1, 0, 0, 0), (2104, .ifCond .eq 5, 3, 0, 0, 0), (2107, .iconst 0, 1, 0, 0, 0), (2108, .ireturn, 1, 0, 0, 0), (2109, .goto 3, 3, 0, 0, 0)]
def amK154_33 : List amEnt := [(2112, .iinc 4 4, 3, 0, 0, 0), (2115, .goto (-2092), 3, 0, 0, 0), (2118, .iconst 1, 1, 0, 0, 0), (2119, .ireturn, 1, 0, 0, 0)]
def amC154 : List (List amEnt) := [amK154_0, amK154_1, amK154_2, amK154_3, amK154_4, amK154_5, amK154_6, amK154_7, amK154_8, amK154_9, amK154_10, amK154_11, amK154_12, amK154_13, amK154_14, amK154_15, amK154_16, amK154_17, amK154_18, amK154_19, amK154_20, amK154_21, amK154_22, amK154_23, amK154_24, amK154_25, amK154_26, amK154_27, amK154_28, amK154_29, amK154_30, amK154_31, amK154_32, amK154_33]
def amR154 : amRow := (5, yL_law, cL_law, 7, (some (.boolean)), [], 10, 188)
def amAll : List (amRow × List (List amEnt)) := [(amR0, amC0), (amR1, amC1), (amR2, amC2), (amR3, amC3), (amR4, amC4), (amR5, amC5), (amR6, amC6), (amR7, amC7), (amR8, amC8), (amR9, amC9), (amR10, amC10), (amR11, amC11), (amR12, amC12), (amR13, amC13), (amR14, amC14), (amR15, amC15), (amR16, amC16), (amR17, amC17), (amR18, amC18), (amR19, amC19), (amR20, amC20), (amR21, amC21), (amR22, amC22), (amR23, amC23), (amR24, amC24), (amR25, amC25), (amR26, amC26), (amR27, amC27), (amR28, amC28), (amR29, amC29), (amR30, amC30), (amR31, amC31), (amR32, amC32), (amR33, amC33), (amR34, amC34), (amR35, amC35), (amR36, amC36), (amR37, amC37), (amR38, amC38), (amR39, amC39), (amR40, amC40), (amR41, amC41), (amR42, amC42), (amR43, amC43), (amR44, amC44), (amR45, amC45), (amR46, amC46), (amR47, amC47), (amR48, amC48), (amR49, amC49), (amR50, amC50), (amR51, amC51), (amR52, amC52), (amR53, amC53), (amR54, amC54), (amR55, amC55), (amR56, amC56), (amR57, amC57), (amR58, amC58), (amR59, amC59), (amR60, amC60), (amR61, amC61), (amR62, amC62), (amR63, amC63), (amR64, amC64), (amR65, amC65), (amR66, amC66), (amR67, amC67), (amR68, amC68), (amR69, amC69), (amR70, amC70), (amR71, amC71), (amR72, amC72), (amR73, amC73), (amR74, amC74), (amR75, amC75), (amR76, amC76), (amR77, amC77), (amR78, amC78), (amR79, amC79), (amR80, amC80), (amR81, amC81), (amR82, amC82), (amR83, amC83), (amR84, amC84), (amR85, amC85), (amR86, amC86), (amR87, amC87), (amR88, amC88), (amR89, amC89), (amR90, amC90), (amR91, amC91), (amR92, amC92), (amR93, amC93), (amR94, amC94), (amR95, amC95), (amR96, amC96), (amR97, amC97), (amR98, amC98), (amR99, amC99), (amR100, amC100), (amR101, amC101), (amR102, amC102), (amR103, amC103), (amR104, amC104), (amR105, amC105), (amR106, amC106), (amR107, amC107), (amR108, amC108), (amR109, amC109), (amR110, amC110), (amR111, amC111), (amR112, amC112), (amR113, amC113), (amR114, amC114), (amR115, amC115), (amR116, amC116), (amR117, amC117), (amR118, amC118), (amR119, amC119), (amR120, amC120), (amR121, amC121), (amR122, amC122), (amR123, amC123), (amR124, amC124), (amR125, amC125), (amR126, amC126), (amR127, amC127), (amR128, amC128), (amR129, amC129), (amR130, amC130), (amR131, amC131), (amR132, amC132), (amR133, amC133), (amR134, amC134), (amR135, amC135), (amR136, amC136), (amR137, amC137), (amR138, amC138), (amR139, amC139), (amR140, amC140), (amR141, amC141), (amR142, amC142), (amR143, amC143), (amR144, amC144), (amR145, amC145), (amR146, amC146), (amR147, amC147), (amR148, amC148), (amR149, amC149), (amR150, amC150), (amR151, amC151), (amR152, amC152), (amR153, amC153), (amR154, amC154)]
def amFetch (M pc : Nat) : Option (Instr × Nat × amRes) := (amAll[M]?).bind fun r => (r.2[pc / 64]?).bind fun q => q.lookup pc
end
section
/-! decode rows: every chunk of the code lists decodes as the bytes say, by wip/whole/gen02.py -/
def amDecK (b : ByteArray) (l : List amEnt) : Prop := ∀ q ∈ l, decode b q.1 = .ok (q.2.1, q.2.2.1)
theorem amDecK_of {b : ByteArray} {l : List amEnt} (h : l.all (fun q => decide (decode b q.1 = .ok (q.2.1, q.2.2.1))) = true) : amDecK b l := fun q hq => of_decide_eq_true (List.all_eq_true.mp h q hq)
theorem amD0_0 : amDecK cX0_init amK0_0 := amDecK_of (by decide +kernel)
theorem amD0 : ∀ l ∈ amC0, amDecK cX0_init l := List.forall_mem_cons.mpr ⟨amD0_0, fun _ h => absurd h List.not_mem_nil⟩
theorem amD1_0 : amDecK cX0_drop amK1_0 := amDecK_of (by decide +kernel)
theorem amD1 : ∀ l ∈ amC1, amDecK cX0_drop l := List.forall_mem_cons.mpr ⟨amD1_0, fun _ h => absurd h List.not_mem_nil⟩
theorem amD2_0 : amDecK cX0_append amK2_0 := amDecK_of (by decide +kernel)
theorem amD2_1 : amDecK cX0_append amK2_1 := amDecK_of (by decide +kernel)
theorem amD2 : ∀ l ∈ amC2, amDecK cX0_append l := List.forall_mem_cons.mpr ⟨amD2_0, List.forall_mem_cons.mpr ⟨amD2_1, fun _ h => absurd h List.not_mem_nil⟩⟩
theorem amD3_0 : amDecK cX0_becomeSum amK3_0 := amDecK_of (by decide +kernel)
theorem amD3_1 : amDecK cX0_becomeSum amK3_1 := amDecK_of (by decide +kernel)
theorem amD3 : ∀ l ∈ amC3, amDecK cX0_becomeSum l := List.forall_mem_cons.mpr ⟨amD3_0, List.forall_mem_cons.mpr ⟨amD3_1, fun _ h => absurd h List.not_mem_nil⟩⟩
theorem amD4_0 : amDecK cX0_becomeLesser amK4_0 := amDecK_of (by decide +kernel)
theorem amD4_1 : amDecK cX0_becomeLesser amK4_1 := amDecK_of (by decide +kernel)
theorem amD4 : ∀ l ∈ amC4, amDecK cX0_becomeLesser l := List.forall_mem_cons.mpr ⟨amD4_0, List.forall_mem_cons.mpr ⟨amD4_1, fun _ h => absurd h List.not_mem_nil⟩⟩
theorem amD5_0 : amDecK cX0_becomeRest amK5_0 := amDecK_of (by decide +kernel)
theorem amD5 : ∀ l ∈ amC5, amDecK cX0_becomeRest l := List.forall_mem_cons.mpr ⟨amD5_0, fun _ h => absurd h List.not_mem_nil⟩
theorem amD6_0 : amDecK cX0_placeNotBelow amK6_0 := amDecK_of (by decide +kernel)
theorem amD6 : ∀ l ∈ amC6, amDecK cX0_placeNotBelow l := List.forall_mem_cons.mpr ⟨amD6_0, fun _ h => absurd h List.not_mem_nil⟩
theorem amD7_0 : amDecK cX0_hasSameAs amK7_0 := amDecK_of (by decide +kernel)
theorem amD7 : ∀ l ∈ amC7, amDecK cX0_hasSameAs l := List.forall_mem_cons.mpr ⟨amD7_0, fun _ h => absurd h List.not_mem_nil⟩
theorem amD8_0 : amDecK cX0_neededSlots amK8_0 := amDecK_of (by decide +kernel)
theorem amD8 : ∀ l ∈ amC8, amDecK cX0_neededSlots l := List.forall_mem_cons.mpr ⟨amD8_0, fun _ h => absurd h List.not_mem_nil⟩
theorem amD9_0 : amDecK cX1_init amK9_0 := amDecK_of (by decide +kernel)
theorem amD9 : ∀ l ∈ amC9, amDecK cX1_init l := List.forall_mem_cons.mpr ⟨amD9_0, fun _ h => absurd h List.not_mem_nil⟩
theorem amD10_0 : amDecK cX1_makeFrom amK10_0 := amDecK_of (by decide +kernel)
theorem amD10_1 : amDecK cX1_makeFrom amK10_1 := amDecK_of (by decide +kernel)
theorem amD10 : ∀ l ∈ amC10, amDecK cX1_makeFrom l := List.forall_mem_cons.mpr ⟨amD10_0, List.forall_mem_cons.mpr ⟨amD10_1, fun _ h => absurd h List.not_mem_nil⟩⟩
theorem amD11_0 : amDecK cX1_quotientHere amK11_0 := amDecK_of (by decide +kernel)
theorem amD11 : ∀ l ∈ amC11, amDecK cX1_quotientHere l := List.forall_mem_cons.mpr ⟨amD11_0, fun _ h => absurd h List.not_mem_nil⟩
theorem amD12_0 : amDecK cX1_sumFor amK12_0 := amDecK_of (by decide +kernel)
theorem amD12_1 : amDecK cX1_sumFor amK12_1 := amDecK_of (by decide +kernel)
theorem amD12 : ∀ l ∈ amC12, amDecK cX1_sumFor l := List.forall_mem_cons.mpr ⟨amD12_0, List.forall_mem_cons.mpr ⟨amD12_1, fun _ h => absurd h List.not_mem_nil⟩⟩
theorem amD13_0 : amDecK cX2_init amK13_0 := amDecK_of (by decide +kernel)
theorem amD13 : ∀ l ∈ amC13, amDecK cX2_init l := List.forall_mem_cons.mpr ⟨amD13_0, fun _ h => absurd h List.not_mem_nil⟩
theorem amD14_0 : amDecK cX2_allSlots amK14_0 := amDecK_of (by decide +kernel)
theorem amD14 : ∀ l ∈ amC14, amDecK cX2_allSlots l := List.forall_mem_cons.mpr ⟨amD14_0, fun _ h => absurd h List.not_mem_nil⟩
theorem amD15_0 : amDecK cX2_isEmpty amK15_0 := amDecK_of (by decide +kernel)
theorem amD15 : ∀ l ∈ amC15, amDecK cX2_isEmpty l := List.forall_mem_cons.mpr ⟨amD15_0, fun _ h => absurd h List.not_mem_nil⟩
theorem amD16_0 : amDecK cX2_wrap amK16_0 := amDecK_of (by decide +kernel)
theorem amD16 : ∀ l ∈ amC16, amDecK cX2_wrap l := List.forall_mem_cons.mpr ⟨amD16_0, fun _ h => absurd h List.not_mem_nil⟩
theorem amD17_0 : amDecK cX2_quotientOf amK17_0 := amDecK_of (by decide +kernel)
theorem amD17 : ∀ l ∈ amC17, amDecK cX2_quotientOf l := List.forall_mem_cons.mpr ⟨amD17_0, fun _ h => absurd h List.not_mem_nil⟩
theorem amD18_0 : amDecK cX2_remainderOf amK18_0 := amDecK_of (by decide +kernel)
theorem amD18 : ∀ l ∈ amC18, amDecK cX2_remainderOf l := List.forall_mem_cons.mpr ⟨amD18_0, fun _ h => absurd h List.not_mem_nil⟩
theorem amD19_0 : amDecK cX2_fingerprintOf amK19_0 := amDecK_of (by decide +kernel)
theorem amD19 : ∀ l ∈ amC19, amDecK cX2_fingerprintOf l := List.forall_mem_cons.mpr ⟨amD19_0, fun _ h => absurd h List.not_mem_nil⟩
theorem amD20_0 : amDecK cX2_usedSlots amK20_0 := amDecK_of (by decide +kernel)
theorem amD20 : ∀ l ∈ amC20, amDecK cX2_usedSlots l := List.forall_mem_cons.mpr ⟨amD20_0, fun _ h => absurd h List.not_mem_nil⟩
theorem amD21_0 : amDecK cX2_sumOfCounters amK21_0 := amDecK_of (by decide +kernel)
theorem amD21 : ∀ l ∈ amC21, amDecK cX2_sumOfCounters l := List.forall_mem_cons.mpr ⟨amD21_0, fun _ h => absurd h List.not_mem_nil⟩
theorem amD22_0 : amDecK cX2_someEmptySlot amK22_0 := amDecK_of (by decide +kernel)
theorem amD22 : ∀ l ∈ amC22, amDecK cX2_someEmptySlot l := List.forall_mem_cons.mpr ⟨amD22_0, fun _ h => absurd h List.not_mem_nil⟩
theorem amD23_0 : amDecK cX2_occupiedAfter amK23_0 := amDecK_of (by decide +kernel)
theorem amD23 : ∀ l ∈ amC23, amDecK cX2_occupiedAfter l := List.forall_mem_cons.mpr ⟨amD23_0, fun _ h => absurd h List.not_mem_nil⟩
theorem amD24_0 : amDecK cX2_firstOfCluster amK24_0 := amDecK_of (by decide +kernel)
theorem amD24 : ∀ l ∈ amC24, amDecK cX2_firstOfCluster l := List.forall_mem_cons.mpr ⟨amD24_0, fun _ h => absurd h List.not_mem_nil⟩
theorem amD25_0 : amDecK cX2_firstOfRun amK25_0 := amDecK_of (by decide +kernel)
theorem amD25 : ∀ l ∈ amC25, amDecK cX2_firstOfRun l := List.forall_mem_cons.mpr ⟨amD25_0, fun _ h => absurd h List.not_mem_nil⟩
theorem amD26_0 : amDecK cX2_lengthOfRun amK26_0 := amDecK_of (by decide +kernel)
theorem amD26 : ∀ l ∈ amC26, amDecK cX2_lengthOfRun l := List.forall_mem_cons.mpr ⟨amD26_0, fun _ h => absurd h List.not_mem_nil⟩
theorem amD27_0 : amDecK cX2_quotientOfEntry amK27_0 := amDecK_of (by decide +kernel)
theorem amD27 : ∀ l ∈ amC27, amDecK cX2_quotientOfEntry l := List.forall_mem_cons.mpr ⟨amD27_0, fun _ h => absurd h List.not_mem_nil⟩
theorem amD28_0 : amDecK cX2_countInRun amK28_0 := amDecK_of (by decide +kernel)
theorem amD28_1 : amDecK cX2_countInRun amK28_1 := amDecK_of (by decide +kernel)
theorem amD28 : ∀ l ∈ amC28, amDecK cX2_countInRun l := List.forall_mem_cons.mpr ⟨amD28_0, List.forall_mem_cons.mpr ⟨amD28_1, fun _ h => absurd h List.not_mem_nil⟩⟩
theorem amD29_0 : amDecK cX2_looksFor amK29_0 := amDecK_of (by decide +kernel)
theorem amD29_1 : amDecK cX2_looksFor amK29_1 := amDecK_of (by decide +kernel)
theorem amD29 : ∀ l ∈ amC29, amDecK cX2_looksFor l := List.forall_mem_cons.mpr ⟨amD29_0, List.forall_mem_cons.mpr ⟨amD29_1, fun _ h => absurd h List.not_mem_nil⟩⟩
theorem amD30_0 : amDecK cX2_lengthOfLongestCluster amK30_0 := amDecK_of (by decide +kernel)
theorem amD30_1 : amDecK cX2_lengthOfLongestCluster amK30_1 := amDecK_of (by decide +kernel)
theorem amD30 : ∀ l ∈ amC30, amDecK cX2_lengthOfLongestCluster l := List.forall_mem_cons.mpr ⟨amD30_0, List.forall_mem_cons.mpr ⟨amD30_1, fun _ h => absurd h List.not_mem_nil⟩⟩
theorem amD31_0 : amDecK cX2_readInto amK31_0 := amDecK_of (by decide +kernel)
theorem amD31_1 : amDecK cX2_readInto amK31_1 := amDecK_of (by decide +kernel)
theorem amD31 : ∀ l ∈ amC31, amDecK cX2_readInto l := List.forall_mem_cons.mpr ⟨amD31_0, List.forall_mem_cons.mpr ⟨amD31_1, fun _ h => absurd h List.not_mem_nil⟩⟩
theorem amD32_0 : amDecK cX2_wipe amK32_0 := amDecK_of (by decide +kernel)
theorem amD32 : ∀ l ∈ amC32, amDecK cX2_wipe l := List.forall_mem_cons.mpr ⟨amD32_0, fun _ h => absurd h List.not_mem_nil⟩
theorem amD33_0 : amDecK cX2_fill amK33_0 := amDecK_of (by decide +kernel)
theorem amD33_1 : amDecK cX2_fill amK33_1 := amDecK_of (by decide +kernel)
theorem amD33 : ∀ l ∈ amC33, amDecK cX2_fill l := List.forall_mem_cons.mpr ⟨amD33_0, List.forall_mem_cons.mpr ⟨amD33_1, fun _ h => absurd h List.not_mem_nil⟩⟩
theorem amD34_0 : amDecK cX2_endInLine amK34_0 := amDecK_of (by decide +kernel)
theorem amD34 : ∀ l ∈ amC34, amDecK cX2_endInLine l := List.forall_mem_cons.mpr ⟨amD34_0, fun _ h => absurd h List.not_mem_nil⟩
theorem amD35_0 : amDecK cX2_writeEntries amK35_0 := amDecK_of (by decide +kernel)
theorem amD35_1 : amDecK cX2_writeEntries amK35_1 := amDecK_of (by decide +kernel)
theorem amD35 : ∀ l ∈ amC35, amDecK cX2_writeEntries l := List.forall_mem_cons.mpr ⟨amD35_0, List.forall_mem_cons.mpr ⟨amD35_1, fun _ h => absurd h List.not_mem_nil⟩⟩
theorem amD36_0 : amDecK cX3_init amK36_0 := amDecK_of (by decide +kernel)
theorem amD36_1 : amDecK cX3_init amK36_1 := amDecK_of (by decide +kernel)
theorem amD36 : ∀ l ∈ amC36, amDecK cX3_init l := List.forall_mem_cons.mpr ⟨amD36_0, List.forall_mem_cons.mpr ⟨amD36_1, fun _ h => absurd h List.not_mem_nil⟩⟩
theorem amD37_0 : amDecK cX3_fingerprint amK37_0 := amDecK_of (by decide +kernel)
theorem amD37 : ∀ l ∈ amC37, amDecK cX3_fingerprint l := List.forall_mem_cons.mpr ⟨amD37_0, fun _ h => absurd h List.not_mem_nil⟩
theorem amD38_0 : amDecK cX3_insert amK38_0 := amDecK_of (by decide +kernel)
theorem amD38 : ∀ l ∈ amC38, amDecK cX3_insert l := List.forall_mem_cons.mpr ⟨amD38_0, fun _ h => absurd h List.not_mem_nil⟩
theorem amD39_0 : amDecK cX3_remove amK39_0 := amDecK_of (by decide +kernel)
theorem amD39 : ∀ l ∈ amC39, amDecK cX3_remove l := List.forall_mem_cons.mpr ⟨amD39_0, fun _ h => absurd h List.not_mem_nil⟩
theorem amD40_0 : amDecK cX3_count amK40_0 := amDecK_of (by decide +kernel)
theorem amD40 : ∀ l ∈ amC40, amDecK cX3_count l := List.forall_mem_cons.mpr ⟨amD40_0, fun _ h => absurd h List.not_mem_nil⟩
theorem amD41_0 : amDecK cX3_add amK41_0 := amDecK_of (by decide +kernel)
theorem amD41 : ∀ l ∈ amC41, amDecK cX3_add l := List.forall_mem_cons.mpr ⟨amD41_0, fun _ h => absurd h List.not_mem_nil⟩
theorem amD42_0 : amDecK cX3_take amK42_0 := amDecK_of (by decide +kernel)
theorem amD42 : ∀ l ∈ amC42, amDecK cX3_take l := List.forall_mem_cons.mpr ⟨amD42_0, fun _ h => absurd h List.not_mem_nil⟩
theorem amD43_0 : amDecK cX3_countOf amK43_0 := amDecK_of (by decide +kernel)
theorem amD43 : ∀ l ∈ amC43, amDecK cX3_countOf l := List.forall_mem_cons.mpr ⟨amD43_0, fun _ h => absurd h List.not_mem_nil⟩
theorem amD44_0 : amDecK cX3_countInLists amK44_0 := amDecK_of (by decide +kernel)
theorem amD44 : ∀ l ∈ amC44, amDecK cX3_countInLists l := List.forall_mem_cons.mpr ⟨amD44_0, fun _ h => absurd h List.not_mem_nil⟩
theorem amD45_0 : amDecK cX3_lookedAt amK45_0 := amDecK_of (by decide +kernel)
theorem amD45 : ∀ l ∈ amC45, amDecK cX3_lookedAt l := List.forall_mem_cons.mpr ⟨amD45_0, fun _ h => absurd h List.not_mem_nil⟩
theorem amD46_0 : amDecK cX3_clear amK46_0 := amDecK_of (by decide +kernel)
theorem amD46 : ∀ l ∈ amC46, amDecK cX3_clear l := List.forall_mem_cons.mpr ⟨amD46_0, fun _ h => absurd h List.not_mem_nil⟩
theorem amD47_0 : amDecK cX3_grow amK47_0 := amDecK_of (by decide +kernel)
theorem amD47 : ∀ l ∈ amC47, amDecK cX3_grow l := List.forall_mem_cons.mpr ⟨amD47_0, fun _ h => absurd h List.not_mem_nil⟩
theorem amD48_0 : amDecK cX3_shrink amK48_0 := amDecK_of (by decide +kernel)
theorem amD48 : ∀ l ∈ amC48, amDecK cX3_shrink l := List.forall_mem_cons.mpr ⟨amD48_0, fun _ h => absurd h List.not_mem_nil⟩
theorem amD49_0 : amDecK cX3_merge amK49_0 := amDecK_of (by decide +kernel)
theorem amD49_1 : amDecK cX3_merge amK49_1 := amDecK_of (by decide +kernel)
theorem amD49 : ∀ l ∈ amC49, amDecK cX3_merge l := List.forall_mem_cons.mpr ⟨amD49_0, List.forall_mem_cons.mpr ⟨amD49_1, fun _ h => absurd h List.not_mem_nil⟩⟩
theorem amD50_0 : amDecK cX3_intersect amK50_0 := amDecK_of (by decide +kernel)
theorem amD50 : ∀ l ∈ amC50, amDecK cX3_intersect l := List.forall_mem_cons.mpr ⟨amD50_0, fun _ h => absurd h List.not_mem_nil⟩
theorem amD51_0 : amDecK cX3_isSame amK51_0 := amDecK_of (by decide +kernel)
theorem amD51 : ∀ l ∈ amC51, amDecK cX3_isSame l := List.forall_mem_cons.mpr ⟨amD51_0, fun _ h => absurd h List.not_mem_nil⟩
theorem amD52_0 : amDecK cX3_slots amK52_0 := amDecK_of (by decide +kernel)
theorem amD52 : ∀ l ∈ amC52, amDecK cX3_slots l := List.forall_mem_cons.mpr ⟨amD52_0, fun _ h => absurd h List.not_mem_nil⟩
theorem amD53_0 : amDecK cX3_entries amK53_0 := amDecK_of (by decide +kernel)
theorem amD53 : ∀ l ∈ amC53, amDecK cX3_entries l := List.forall_mem_cons.mpr ⟨amD53_0, fun _ h => absurd h List.not_mem_nil⟩
theorem amD54_0 : amDecK cX3_distinct amK54_0 := amDecK_of (by decide +kernel)
theorem amD54 : ∀ l ∈ amC54, amDecK cX3_distinct l := List.forall_mem_cons.mpr ⟨amD54_0, fun _ h => absurd h List.not_mem_nil⟩
theorem amD55_0 : amDecK cX3_total amK55_0 := amDecK_of (by decide +kernel)
theorem amD55 : ∀ l ∈ amC55, amDecK cX3_total l := List.forall_mem_cons.mpr ⟨amD55_0, fun _ h => absurd h List.not_mem_nil⟩
theorem amD56_0 : amDecK cX3_fingerprintAt amK56_0 := amDecK_of (by decide +kernel)
theorem amD56 : ∀ l ∈ amC56, amDecK cX3_fingerprintAt l := List.forall_mem_cons.mpr ⟨amD56_0, fun _ h => absurd h List.not_mem_nil⟩
theorem amD57_0 : amDecK cX3_remainderAt amK57_0 := amDecK_of (by decide +kernel)
theorem amD57 : ∀ l ∈ amC57, amDecK cX3_remainderAt l := List.forall_mem_cons.mpr ⟨amD57_0, fun _ h => absurd h List.not_mem_nil⟩
theorem amD58_0 : amDecK cX3_counterAt amK58_0 := amDecK_of (by decide +kernel)
theorem amD58 : ∀ l ∈ amC58, amDecK cX3_counterAt l := List.forall_mem_cons.mpr ⟨amD58_0, fun _ h => absurd h List.not_mem_nil⟩
theorem amD59_0 : amDecK cX3_quotientAt amK59_0 := amDecK_of (by decide +kernel)
theorem amD59 : ∀ l ∈ amC59, amDecK cX3_quotientAt l := List.forall_mem_cons.mpr ⟨amD59_0, fun _ h => absurd h List.not_mem_nil⟩
theorem amD60_0 : amDecK cX3_isOccupied amK60_0 := amDecK_of (by decide +kernel)
theorem amD60 : ∀ l ∈ amC60, amDecK cX3_isOccupied l := List.forall_mem_cons.mpr ⟨amD60_0, fun _ h => absurd h List.not_mem_nil⟩
theorem amD61_0 : amDecK cX3_isContinuation amK61_0 := amDecK_of (by decide +kernel)
theorem amD61 : ∀ l ∈ amC61, amDecK cX3_isContinuation l := List.forall_mem_cons.mpr ⟨amD61_0, fun _ h => absurd h List.not_mem_nil⟩
theorem amD62_0 : amDecK cX3_isShifted amK62_0 := amDecK_of (by decide +kernel)
theorem amD62 : ∀ l ∈ amC62, amDecK cX3_isShifted l := List.forall_mem_cons.mpr ⟨amD62_0, fun _ h => absurd h List.not_mem_nil⟩
theorem amD63_0 : amDecK cX3_runStart amK63_0 := amDecK_of (by decide +kernel)
theorem amD63 : ∀ l ∈ amC63, amDecK cX3_runStart l := List.forall_mem_cons.mpr ⟨amD63_0, fun _ h => absurd h List.not_mem_nil⟩
theorem amD64_0 : amDecK cX3_runLength amK64_0 := amDecK_of (by decide +kernel)
theorem amD64 : ∀ l ∈ amC64, amDecK cX3_runLength l := List.forall_mem_cons.mpr ⟨amD64_0, fun _ h => absurd h List.not_mem_nil⟩
theorem amD65_0 : amDecK cX3_clusterStart amK65_0 := amDecK_of (by decide +kernel)
theorem amD65 : ∀ l ∈ amC65, amDecK cX3_clusterStart l := List.forall_mem_cons.mpr ⟨amD65_0, fun _ h => absurd h List.not_mem_nil⟩
theorem amD66_0 : amDecK cX3_longestCluster amK66_0 := amDecK_of (by decide +kernel)
theorem amD66 : ∀ l ∈ amC66, amDecK cX3_longestCluster l := List.forall_mem_cons.mpr ⟨amD66_0, fun _ h => absurd h List.not_mem_nil⟩
theorem amD67_0 : amDecK cX3_tableOf amK67_0 := amDecK_of (by decide +kernel)
theorem amD67 : ∀ l ∈ amC67, amDecK cX3_tableOf l := List.forall_mem_cons.mpr ⟨amD67_0, fun _ h => absurd h List.not_mem_nil⟩
theorem amD68_0 : amDecK cX3_checkSlot amK68_0 := amDecK_of (by decide +kernel)
theorem amD68 : ∀ l ∈ amC68, amDecK cX3_checkSlot l := List.forall_mem_cons.mpr ⟨amD68_0, fun _ h => absurd h List.not_mem_nil⟩
theorem amD69_0 : amDecK cX3_checkFingerprint amK69_0 := amDecK_of (by decide +kernel)
theorem amD69 : ∀ l ∈ amC69, amDecK cX3_checkFingerprint l := List.forall_mem_cons.mpr ⟨amD69_0, fun _ h => absurd h List.not_mem_nil⟩
theorem amD70_0 : amDecK cX3_checkTimes amK70_0 := amDecK_of (by decide +kernel)
theorem amD70 : ∀ l ∈ amC70, amDecK cX3_checkTimes l := List.forall_mem_cons.mpr ⟨amD70_0, fun _ h => absurd h List.not_mem_nil⟩
theorem amD71_0 : amDecK cX3_checkFits amK71_0 := amDecK_of (by decide +kernel)
theorem amD71 : ∀ l ∈ amC71, amDecK cX3_checkFits l := List.forall_mem_cons.mpr ⟨amD71_0, fun _ h => absurd h List.not_mem_nil⟩
theorem amD72_0 : amDecK cX3_mostEntries amK72_0 := amDecK_of (by decide +kernel)
theorem amD72 : ∀ l ∈ amC72, amDecK cX3_mostEntries l := List.forall_mem_cons.mpr ⟨amD72_0, fun _ h => absurd h List.not_mem_nil⟩
theorem amD73_0 : amDecK cX3_entriesFor amK73_0 := amDecK_of (by decide +kernel)
theorem amD73 : ∀ l ∈ amC73, amDecK cX3_entriesFor l := List.forall_mem_cons.mpr ⟨amD73_0, fun _ h => absurd h List.not_mem_nil⟩
theorem amD74_0 : amDecK cX3_putIn amK74_0 := amDecK_of (by decide +kernel)
theorem amD74_1 : amDecK cX3_putIn amK74_1 := amDecK_of (by decide +kernel)
theorem amD74 : ∀ l ∈ amC74, amDecK cX3_putIn l := List.forall_mem_cons.mpr ⟨amD74_0, List.forall_mem_cons.mpr ⟨amD74_1, fun _ h => absurd h List.not_mem_nil⟩⟩
theorem amD75_0 : amDecK cX3_takeOut amK75_0 := amDecK_of (by decide +kernel)
theorem amD75 : ∀ l ∈ amC75, amDecK cX3_takeOut l := List.forall_mem_cons.mpr ⟨amD75_0, fun _ h => absurd h List.not_mem_nil⟩
theorem amD76_0 : amDecK cX3_resize amK76_0 := amDecK_of (by decide +kernel)
theorem amD76 : ∀ l ∈ amC76, amDecK cX3_resize l := List.forall_mem_cons.mpr ⟨amD76_0, fun _ h => absurd h List.not_mem_nil⟩
theorem amD77_0 : amDecK cX4_init amK77_0 := amDecK_of (by decide +kernel)
theorem amD77_1 : amDecK cX4_init amK77_1 := amDecK_of (by decide +kernel)
theorem amD77 : ∀ l ∈ amC77, amDecK cX4_init l := List.forall_mem_cons.mpr ⟨amD77_0, List.forall_mem_cons.mpr ⟨amD77_1, fun _ h => absurd h List.not_mem_nil⟩⟩
theorem amD78_0 : amDecK cX4_thrown amK78_0 := amDecK_of (by decide +kernel)
theorem amD78 : ∀ l ∈ amC78, amDecK cX4_thrown l := List.forall_mem_cons.mpr ⟨amD78_0, fun _ h => absurd h List.not_mem_nil⟩
theorem amD79_0 : amDecK cX4_in amK79_0 := amDecK_of (by decide +kernel)
theorem amD79 : ∀ l ∈ amC79, amDecK cX4_in l := List.forall_mem_cons.mpr ⟨amD79_0, fun _ h => absurd h List.not_mem_nil⟩
theorem amD80_0 : amDecK cX4_isFilter amK80_0 := amDecK_of (by decide +kernel)
theorem amD80 : ∀ l ∈ amC80, amDecK cX4_isFilter l := List.forall_mem_cons.mpr ⟨amD80_0, fun _ h => absurd h List.not_mem_nil⟩
theorem amD81_0 : amDecK cX4_isPrint amK81_0 := amDecK_of (by decide +kernel)
theorem amD81 : ∀ l ∈ amC81, amDecK cX4_isPrint l := List.forall_mem_cons.mpr ⟨amD81_0, fun _ h => absurd h List.not_mem_nil⟩
theorem amD82_0 : amDecK cX4_goes amK82_0 := amDecK_of (by decide +kernel)
theorem amD82 : ∀ l ∈ amC82, amDecK cX4_goes l := List.forall_mem_cons.mpr ⟨amD82_0, fun _ h => absurd h List.not_mem_nil⟩
theorem amD83_0 : amDecK cX4_slotsOf amK83_0 := amDecK_of (by decide +kernel)
theorem amD83 : ∀ l ∈ amC83, amDecK cX4_slotsOf l := List.forall_mem_cons.mpr ⟨amD83_0, fun _ h => absurd h List.not_mem_nil⟩
theorem amD84_0 : amDecK cX4_entriesOf amK84_0 := amDecK_of (by decide +kernel)
theorem amD84 : ∀ l ∈ amC84, amDecK cX4_entriesOf l := List.forall_mem_cons.mpr ⟨amD84_0, fun _ h => absurd h List.not_mem_nil⟩
theorem amD85_0 : amDecK cX4_countEntries amK85_0 := amDecK_of (by decide +kernel)
theorem amD85 : ∀ l ∈ amC85, amDecK cX4_countEntries l := List.forall_mem_cons.mpr ⟨amD85_0, fun _ h => absurd h List.not_mem_nil⟩
theorem amD86_0 : amDecK cX4_hasRoom amK86_0 := amDecK_of (by decide +kernel)
theorem amD86 : ∀ l ∈ amC86, amDecK cX4_hasRoom l := List.forall_mem_cons.mpr ⟨amD86_0, fun _ h => absurd h List.not_mem_nil⟩
theorem amD87_0 : amDecK cX4_printOf amK87_0 := amDecK_of (by decide +kernel)
theorem amD87 : ∀ l ∈ amC87, amDecK cX4_printOf l := List.forall_mem_cons.mpr ⟨amD87_0, fun _ h => absurd h List.not_mem_nil⟩
theorem amD88_0 : amDecK cX4_places amK88_0 := amDecK_of (by decide +kernel)
theorem amD88_1 : amDecK cX4_places amK88_1 := amDecK_of (by decide +kernel)
theorem amD88 : ∀ l ∈ amC88, amDecK cX4_places l := List.forall_mem_cons.mpr ⟨amD88_0, List.forall_mem_cons.mpr ⟨amD88_1, fun _ h => absurd h List.not_mem_nil⟩⟩
theorem amD89_0 : amDecK cX4_lays amK89_0 := amDecK_of (by decide +kernel)
theorem amD89_1 : amDecK cX4_lays amK89_1 := amDecK_of (by decide +kernel)
theorem amD89_2 : amDecK cX4_lays amK89_2 := amDecK_of (by decide +kernel)
theorem amD89_3 : amDecK cX4_lays amK89_3 := amDecK_of (by decide +kernel)
theorem amD89 : ∀ l ∈ amC89, amDecK cX4_lays l := List.forall_mem_cons.mpr ⟨amD89_0, List.forall_mem_cons.mpr ⟨amD89_1, List.forall_mem_cons.mpr ⟨amD89_2, List.forall_mem_cons.mpr ⟨amD89_3, fun _ h => absurd h List.not_mem_nil⟩⟩⟩⟩
theorem amD90_0 : amDecK cX4_isEntry amK90_0 := amDecK_of (by decide +kernel)
theorem amD90 : ∀ l ∈ amC90, amDecK cX4_isEntry l := List.forall_mem_cons.mpr ⟨amD90_0, fun _ h => absurd h List.not_mem_nil⟩
theorem amD91_0 : amDecK cX4_quotientIn amK91_0 := amDecK_of (by decide +kernel)
theorem amD91 : ∀ l ∈ amC91, amDecK cX4_quotientIn l := List.forall_mem_cons.mpr ⟨amD91_0, fun _ h => absurd h List.not_mem_nil⟩
theorem amD92_0 : amDecK cX4_isMoved amK92_0 := amDecK_of (by decide +kernel)
theorem amD92 : ∀ l ∈ amC92, amDecK cX4_isMoved l := List.forall_mem_cons.mpr ⟨amD92_0, fun _ h => absurd h List.not_mem_nil⟩
theorem amD93_0 : amDecK cX4_fingerprint amK93_0 := amDecK_of (by decide +kernel)
theorem amD93 : ∀ l ∈ amC93, amDecK cX4_fingerprint l := List.forall_mem_cons.mpr ⟨amD93_0, fun _ h => absurd h List.not_mem_nil⟩
theorem amD94_0 : amDecK cX4_changes amK94_0 := amDecK_of (by decide +kernel)
theorem amD94_1 : amDecK cX4_changes amK94_1 := amDecK_of (by decide +kernel)
theorem amD94 : ∀ l ∈ amC94, amDecK cX4_changes l := List.forall_mem_cons.mpr ⟨amD94_0, List.forall_mem_cons.mpr ⟨amD94_1, fun _ h => absurd h List.not_mem_nil⟩⟩
theorem amD95_0 : amDecK cX4_insert amK95_0 := amDecK_of (by decide +kernel)
theorem amD95_1 : amDecK cX4_insert amK95_1 := amDecK_of (by decide +kernel)
theorem amD95 : ∀ l ∈ amC95, amDecK cX4_insert l := List.forall_mem_cons.mpr ⟨amD95_0, List.forall_mem_cons.mpr ⟨amD95_1, fun _ h => absurd h List.not_mem_nil⟩⟩
theorem amD96_0 : amDecK cX4_remove amK96_0 := amDecK_of (by decide +kernel)
theorem amD96 : ∀ l ∈ amC96, amDecK cX4_remove l := List.forall_mem_cons.mpr ⟨amD96_0, fun _ h => absurd h List.not_mem_nil⟩
theorem amD97_0 : amDecK cX4_count amK97_0 := amDecK_of (by decide +kernel)
theorem amD97 : ∀ l ∈ amC97, amDecK cX4_count l := List.forall_mem_cons.mpr ⟨amD97_0, fun _ h => absurd h List.not_mem_nil⟩
theorem amD98_0 : amDecK cX4_add amK98_0 := amDecK_of (by decide +kernel)
theorem amD98_1 : amDecK cX4_add amK98_1 := amDecK_of (by decide +kernel)
theorem amD98 : ∀ l ∈ amC98, amDecK cX4_add l := List.forall_mem_cons.mpr ⟨amD98_0, List.forall_mem_cons.mpr ⟨amD98_1, fun _ h => absurd h List.not_mem_nil⟩⟩
theorem amD99_0 : amDecK cX4_take amK99_0 := amDecK_of (by decide +kernel)
theorem amD99_1 : amDecK cX4_take amK99_1 := amDecK_of (by decide +kernel)
theorem amD99 : ∀ l ∈ amC99, amDecK cX4_take l := List.forall_mem_cons.mpr ⟨amD99_0, List.forall_mem_cons.mpr ⟨amD99_1, fun _ h => absurd h List.not_mem_nil⟩⟩
theorem amD100_0 : amDecK cX4_countOf amK100_0 := amDecK_of (by decide +kernel)
theorem amD100 : ∀ l ∈ amC100, amDecK cX4_countOf l := List.forall_mem_cons.mpr ⟨amD100_0, fun _ h => absurd h List.not_mem_nil⟩
theorem amD101_0 : amDecK cX4_countInLists amK101_0 := amDecK_of (by decide +kernel)
theorem amD101 : ∀ l ∈ amC101, amDecK cX4_countInLists l := List.forall_mem_cons.mpr ⟨amD101_0, fun _ h => absurd h List.not_mem_nil⟩
theorem amD102_0 : amDecK cX4_lookedAt amK102_0 := amDecK_of (by decide +kernel)
theorem amD102_1 : amDecK cX4_lookedAt amK102_1 := amDecK_of (by decide +kernel)
theorem amD102_2 : amDecK cX4_lookedAt amK102_2 := amDecK_of (by decide +kernel)
theorem amD102 : ∀ l ∈ amC102, amDecK cX4_lookedAt l := List.forall_mem_cons.mpr ⟨amD102_0, List.forall_mem_cons.mpr ⟨amD102_1, List.forall_mem_cons.mpr ⟨amD102_2, fun _ h => absurd h List.not_mem_nil⟩⟩⟩
theorem amD103_0 : amDecK cX4_clear amK103_0 := amDecK_of (by decide +kernel)
theorem amD103 : ∀ l ∈ amC103, amDecK cX4_clear l := List.forall_mem_cons.mpr ⟨amD103_0, fun _ h => absurd h List.not_mem_nil⟩
theorem amD104_0 : amDecK cX4_grow amK104_0 := amDecK_of (by decide +kernel)
theorem amD104 : ∀ l ∈ amC104, amDecK cX4_grow l := List.forall_mem_cons.mpr ⟨amD104_0, fun _ h => absurd h List.not_mem_nil⟩
theorem amD105_0 : amDecK cX4_shrink amK105_0 := amDecK_of (by decide +kernel)
theorem amD105_1 : amDecK cX4_shrink amK105_1 := amDecK_of (by decide +kernel)
theorem amD105 : ∀ l ∈ amC105, amDecK cX4_shrink l := List.forall_mem_cons.mpr ⟨amD105_0, List.forall_mem_cons.mpr ⟨amD105_1, fun _ h => absurd h List.not_mem_nil⟩⟩
theorem amD106_0 : amDecK cX4_merge amK106_0 := amDecK_of (by decide +kernel)
theorem amD106_1 : amDecK cX4_merge amK106_1 := amDecK_of (by decide +kernel)
theorem amD106_2 : amDecK cX4_merge amK106_2 := amDecK_of (by decide +kernel)
theorem amD106 : ∀ l ∈ amC106, amDecK cX4_merge l := List.forall_mem_cons.mpr ⟨amD106_0, List.forall_mem_cons.mpr ⟨amD106_1, List.forall_mem_cons.mpr ⟨amD106_2, fun _ h => absurd h List.not_mem_nil⟩⟩⟩
theorem amD107_0 : amDecK cX4_intersect amK107_0 := amDecK_of (by decide +kernel)
theorem amD107_1 : amDecK cX4_intersect amK107_1 := amDecK_of (by decide +kernel)
theorem amD107 : ∀ l ∈ amC107, amDecK cX4_intersect l := List.forall_mem_cons.mpr ⟨amD107_0, List.forall_mem_cons.mpr ⟨amD107_1, fun _ h => absurd h List.not_mem_nil⟩⟩
theorem amD108_0 : amDecK cX4_isSame amK108_0 := amDecK_of (by decide +kernel)
theorem amD108_1 : amDecK cX4_isSame amK108_1 := amDecK_of (by decide +kernel)
theorem amD108 : ∀ l ∈ amC108, amDecK cX4_isSame l := List.forall_mem_cons.mpr ⟨amD108_0, List.forall_mem_cons.mpr ⟨amD108_1, fun _ h => absurd h List.not_mem_nil⟩⟩
theorem amD109_0 : amDecK cX4_slots amK109_0 := amDecK_of (by decide +kernel)
theorem amD109 : ∀ l ∈ amC109, amDecK cX4_slots l := List.forall_mem_cons.mpr ⟨amD109_0, fun _ h => absurd h List.not_mem_nil⟩
theorem amD110_0 : amDecK cX4_entries amK110_0 := amDecK_of (by decide +kernel)
theorem amD110 : ∀ l ∈ amC110, amDecK cX4_entries l := List.forall_mem_cons.mpr ⟨amD110_0, fun _ h => absurd h List.not_mem_nil⟩
theorem amD111_0 : amDecK cX4_distinct amK111_0 := amDecK_of (by decide +kernel)
theorem amD111 : ∀ l ∈ amC111, amDecK cX4_distinct l := List.forall_mem_cons.mpr ⟨amD111_0, fun _ h => absurd h List.not_mem_nil⟩
theorem amD112_0 : amDecK cX4_total amK112_0 := amDecK_of (by decide +kernel)
theorem amD112 : ∀ l ∈ amC112, amDecK cX4_total l := List.forall_mem_cons.mpr ⟨amD112_0, fun _ h => absurd h List.not_mem_nil⟩
theorem amD113_0 : amDecK cX4_fingerprintAt amK113_0 := amDecK_of (by decide +kernel)
theorem amD113_1 : amDecK cX4_fingerprintAt amK113_1 := amDecK_of (by decide +kernel)
theorem amD113 : ∀ l ∈ amC113, amDecK cX4_fingerprintAt l := List.forall_mem_cons.mpr ⟨amD113_0, List.forall_mem_cons.mpr ⟨amD113_1, fun _ h => absurd h List.not_mem_nil⟩⟩
theorem amD114_0 : amDecK cX4_isLaid amK114_0 := amDecK_of (by decide +kernel)
theorem amD114 : ∀ l ∈ amC114, amDecK cX4_isLaid l := List.forall_mem_cons.mpr ⟨amD114_0, fun _ h => absurd h List.not_mem_nil⟩
theorem amD115_0 : amDecK cX4_remainderAt amK115_0 := amDecK_of (by decide +kernel)
theorem amD115 : ∀ l ∈ amC115, amDecK cX4_remainderAt l := List.forall_mem_cons.mpr ⟨amD115_0, fun _ h => absurd h List.not_mem_nil⟩
theorem amD116_0 : amDecK cX4_counterAt amK116_0 := amDecK_of (by decide +kernel)
theorem amD116 : ∀ l ∈ amC116, amDecK cX4_counterAt l := List.forall_mem_cons.mpr ⟨amD116_0, fun _ h => absurd h List.not_mem_nil⟩
theorem amD117_0 : amDecK cX4_quotientAt amK117_0 := amDecK_of (by decide +kernel)
theorem amD117 : ∀ l ∈ amC117, amDecK cX4_quotientAt l := List.forall_mem_cons.mpr ⟨amD117_0, fun _ h => absurd h List.not_mem_nil⟩
theorem amD118_0 : amDecK cX4_isOccupied amK118_0 := amDecK_of (by decide +kernel)
theorem amD118 : ∀ l ∈ amC118, amDecK cX4_isOccupied l := List.forall_mem_cons.mpr ⟨amD118_0, fun _ h => absurd h List.not_mem_nil⟩
theorem amD119_0 : amDecK cX4_isContinuation amK119_0 := amDecK_of (by decide +kernel)
theorem amD119 : ∀ l ∈ amC119, amDecK cX4_isContinuation l := List.forall_mem_cons.mpr ⟨amD119_0, fun _ h => absurd h List.not_mem_nil⟩
theorem amD120_0 : amDecK cX4_isShifted amK120_0 := amDecK_of (by decide +kernel)
theorem amD120 : ∀ l ∈ amC120, amDecK cX4_isShifted l := List.forall_mem_cons.mpr ⟨amD120_0, fun _ h => absurd h List.not_mem_nil⟩
theorem amD121_0 : amDecK cX4_runStart amK121_0 := amDecK_of (by decide +kernel)
theorem amD121 : ∀ l ∈ amC121, amDecK cX4_runStart l := List.forall_mem_cons.mpr ⟨amD121_0, fun _ h => absurd h List.not_mem_nil⟩
theorem amD122_0 : amDecK cX4_runLength amK122_0 := amDecK_of (by decide +kernel)
theorem amD122 : ∀ l ∈ amC122, amDecK cX4_runLength l := List.forall_mem_cons.mpr ⟨amD122_0, fun _ h => absurd h List.not_mem_nil⟩
theorem amD123_0 : amDecK cX4_clusterStart amK123_0 := amDecK_of (by decide +kernel)
theorem amD123 : ∀ l ∈ amC123, amDecK cX4_clusterStart l := List.forall_mem_cons.mpr ⟨amD123_0, fun _ h => absurd h List.not_mem_nil⟩
theorem amD124_0 : amDecK cX4_longestCluster amK124_0 := amDecK_of (by decide +kernel)
theorem amD124_1 : amDecK cX4_longestCluster amK124_1 := amDecK_of (by decide +kernel)
theorem amD124 : ∀ l ∈ amC124, amDecK cX4_longestCluster l := List.forall_mem_cons.mpr ⟨amD124_0, List.forall_mem_cons.mpr ⟨amD124_1, fun _ h => absurd h List.not_mem_nil⟩⟩
theorem amD125_0 : amDecK cL_insert amK125_0 := amDecK_of (by decide +kernel)
theorem amD125 : ∀ l ∈ amC125, amDecK cL_insert l := List.forall_mem_cons.mpr ⟨amD125_0, fun _ h => absurd h List.not_mem_nil⟩
theorem amD126_0 : amDecK cL_remove amK126_0 := amDecK_of (by decide +kernel)
theorem amD126 : ∀ l ∈ amC126, amDecK cL_remove l := List.forall_mem_cons.mpr ⟨amD126_0, fun _ h => absurd h List.not_mem_nil⟩
theorem amD127_0 : amDecK cL_count amK127_0 := amDecK_of (by decide +kernel)
theorem amD127 : ∀ l ∈ amC127, amDecK cL_count l := List.forall_mem_cons.mpr ⟨amD127_0, fun _ h => absurd h List.not_mem_nil⟩
theorem amD128_0 : amDecK cL_add amK128_0 := amDecK_of (by decide +kernel)
theorem amD128 : ∀ l ∈ amC128, amDecK cL_add l := List.forall_mem_cons.mpr ⟨amD128_0, fun _ h => absurd h List.not_mem_nil⟩
theorem amD129_0 : amDecK cL_take amK129_0 := amDecK_of (by decide +kernel)
theorem amD129 : ∀ l ∈ amC129, amDecK cL_take l := List.forall_mem_cons.mpr ⟨amD129_0, fun _ h => absurd h List.not_mem_nil⟩
theorem amD130_0 : amDecK cL_countOf amK130_0 := amDecK_of (by decide +kernel)
theorem amD130 : ∀ l ∈ amC130, amDecK cL_countOf l := List.forall_mem_cons.mpr ⟨amD130_0, fun _ h => absurd h List.not_mem_nil⟩
theorem amD131_0 : amDecK cL_countInLists amK131_0 := amDecK_of (by decide +kernel)
theorem amD131 : ∀ l ∈ amC131, amDecK cL_countInLists l := List.forall_mem_cons.mpr ⟨amD131_0, fun _ h => absurd h List.not_mem_nil⟩
theorem amD132_0 : amDecK cL_lookedAt amK132_0 := amDecK_of (by decide +kernel)
theorem amD132 : ∀ l ∈ amC132, amDecK cL_lookedAt l := List.forall_mem_cons.mpr ⟨amD132_0, fun _ h => absurd h List.not_mem_nil⟩
theorem amD133_0 : amDecK cL_clear amK133_0 := amDecK_of (by decide +kernel)
theorem amD133 : ∀ l ∈ amC133, amDecK cL_clear l := List.forall_mem_cons.mpr ⟨amD133_0, fun _ h => absurd h List.not_mem_nil⟩
theorem amD134_0 : amDecK cL_grow amK134_0 := amDecK_of (by decide +kernel)
theorem amD134 : ∀ l ∈ amC134, amDecK cL_grow l := List.forall_mem_cons.mpr ⟨amD134_0, fun _ h => absurd h List.not_mem_nil⟩
theorem amD135_0 : amDecK cL_shrink amK135_0 := amDecK_of (by decide +kernel)
theorem amD135 : ∀ l ∈ amC135, amDecK cL_shrink l := List.forall_mem_cons.mpr ⟨amD135_0, fun _ h => absurd h List.not_mem_nil⟩
theorem amD136_0 : amDecK cL_merge amK136_0 := amDecK_of (by decide +kernel)
theorem amD136 : ∀ l ∈ amC136, amDecK cL_merge l := List.forall_mem_cons.mpr ⟨amD136_0, fun _ h => absurd h List.not_mem_nil⟩
theorem amD137_0 : amDecK cL_intersect amK137_0 := amDecK_of (by decide +kernel)
theorem amD137 : ∀ l ∈ amC137, amDecK cL_intersect l := List.forall_mem_cons.mpr ⟨amD137_0, fun _ h => absurd h List.not_mem_nil⟩
theorem amD138_0 : amDecK cL_isSame amK138_0 := amDecK_of (by decide +kernel)
theorem amD138 : ∀ l ∈ amC138, amDecK cL_isSame l := List.forall_mem_cons.mpr ⟨amD138_0, fun _ h => absurd h List.not_mem_nil⟩
theorem amD139_0 : amDecK cL_slots amK139_0 := amDecK_of (by decide +kernel)
theorem amD139 : ∀ l ∈ amC139, amDecK cL_slots l := List.forall_mem_cons.mpr ⟨amD139_0, fun _ h => absurd h List.not_mem_nil⟩
theorem amD140_0 : amDecK cL_entries amK140_0 := amDecK_of (by decide +kernel)
theorem amD140 : ∀ l ∈ amC140, amDecK cL_entries l := List.forall_mem_cons.mpr ⟨amD140_0, fun _ h => absurd h List.not_mem_nil⟩
theorem amD141_0 : amDecK cL_distinct amK141_0 := amDecK_of (by decide +kernel)
theorem amD141 : ∀ l ∈ amC141, amDecK cL_distinct l := List.forall_mem_cons.mpr ⟨amD141_0, fun _ h => absurd h List.not_mem_nil⟩
theorem amD142_0 : amDecK cL_total amK142_0 := amDecK_of (by decide +kernel)
theorem amD142 : ∀ l ∈ amC142, amDecK cL_total l := List.forall_mem_cons.mpr ⟨amD142_0, fun _ h => absurd h List.not_mem_nil⟩
theorem amD143_0 : amDecK cL_fingerprintAt amK143_0 := amDecK_of (by decide +kernel)
theorem amD143 : ∀ l ∈ amC143, amDecK cL_fingerprintAt l := List.forall_mem_cons.mpr ⟨amD143_0, fun _ h => absurd h List.not_mem_nil⟩
theorem amD144_0 : amDecK cL_remainderAt amK144_0 := amDecK_of (by decide +kernel)
theorem amD144 : ∀ l ∈ amC144, amDecK cL_remainderAt l := List.forall_mem_cons.mpr ⟨amD144_0, fun _ h => absurd h List.not_mem_nil⟩
theorem amD145_0 : amDecK cL_counterAt amK145_0 := amDecK_of (by decide +kernel)
theorem amD145 : ∀ l ∈ amC145, amDecK cL_counterAt l := List.forall_mem_cons.mpr ⟨amD145_0, fun _ h => absurd h List.not_mem_nil⟩
theorem amD146_0 : amDecK cL_quotientAt amK146_0 := amDecK_of (by decide +kernel)
theorem amD146 : ∀ l ∈ amC146, amDecK cL_quotientAt l := List.forall_mem_cons.mpr ⟨amD146_0, fun _ h => absurd h List.not_mem_nil⟩
theorem amD147_0 : amDecK cL_isOccupied amK147_0 := amDecK_of (by decide +kernel)
theorem amD147 : ∀ l ∈ amC147, amDecK cL_isOccupied l := List.forall_mem_cons.mpr ⟨amD147_0, fun _ h => absurd h List.not_mem_nil⟩
theorem amD148_0 : amDecK cL_isContinuation amK148_0 := amDecK_of (by decide +kernel)
theorem amD148 : ∀ l ∈ amC148, amDecK cL_isContinuation l := List.forall_mem_cons.mpr ⟨amD148_0, fun _ h => absurd h List.not_mem_nil⟩
theorem amD149_0 : amDecK cL_isShifted amK149_0 := amDecK_of (by decide +kernel)
theorem amD149 : ∀ l ∈ amC149, amDecK cL_isShifted l := List.forall_mem_cons.mpr ⟨amD149_0, fun _ h => absurd h List.not_mem_nil⟩
theorem amD150_0 : amDecK cL_runStart amK150_0 := amDecK_of (by decide +kernel)
theorem amD150 : ∀ l ∈ amC150, amDecK cL_runStart l := List.forall_mem_cons.mpr ⟨amD150_0, fun _ h => absurd h List.not_mem_nil⟩
theorem amD151_0 : amDecK cL_runLength amK151_0 := amDecK_of (by decide +kernel)
theorem amD151 : ∀ l ∈ amC151, amDecK cL_runLength l := List.forall_mem_cons.mpr ⟨amD151_0, fun _ h => absurd h List.not_mem_nil⟩
theorem amD152_0 : amDecK cL_clusterStart amK152_0 := amDecK_of (by decide +kernel)
theorem amD152 : ∀ l ∈ amC152, amDecK cL_clusterStart l := List.forall_mem_cons.mpr ⟨amD152_0, fun _ h => absurd h List.not_mem_nil⟩
theorem amD153_0 : amDecK cL_longestCluster amK153_0 := amDecK_of (by decide +kernel)
theorem amD153 : ∀ l ∈ amC153, amDecK cL_longestCluster l := List.forall_mem_cons.mpr ⟨amD153_0, fun _ h => absurd h List.not_mem_nil⟩
theorem amD154_0 : amDecK cL_law amK154_0 := amDecK_of (by decide +kernel)
theorem amD154_1 : amDecK cL_law amK154_1 := amDecK_of (by decide +kernel)
theorem amD154_2 : amDecK cL_law amK154_2 := amDecK_of (by decide +kernel)
theorem amD154_3 : amDecK cL_law amK154_3 := amDecK_of (by decide +kernel)
theorem amD154_4 : amDecK cL_law amK154_4 := amDecK_of (by decide +kernel)
theorem amD154_5 : amDecK cL_law amK154_5 := amDecK_of (by decide +kernel)
theorem amD154_6 : amDecK cL_law amK154_6 := amDecK_of (by decide +kernel)
theorem amD154_7 : amDecK cL_law amK154_7 := amDecK_of (by decide +kernel)
theorem amD154_8 : amDecK cL_law amK154_8 := amDecK_of (by decide +kernel)
theorem amD154_9 : amDecK cL_law amK154_9 := amDecK_of (by decide +kernel)
theorem amD154_10 : amDecK cL_law amK154_10 := amDecK_of (by decide +kernel)
theorem amD154_11 : amDecK cL_law amK154_11 := amDecK_of (by decide +kernel)
theorem amD154_12 : amDecK cL_law amK154_12 := amDecK_of (by decide +kernel)
theorem amD154_13 : amDecK cL_law amK154_13 := amDecK_of (by decide +kernel)
theorem amD154_14 : amDecK cL_law amK154_14 := amDecK_of (by decide +kernel)
theorem amD154_15 : amDecK cL_law amK154_15 := amDecK_of (by decide +kernel)
theorem amD154_16 : amDecK cL_law amK154_16 := amDecK_of (by decide +kernel)
theorem amD154_17 : amDecK cL_law amK154_17 := amDecK_of (by decide +kernel)
theorem amD154_18 : amDecK cL_law amK154_18 := amDecK_of (by decide +kernel)
theorem amD154_19 : amDecK cL_law amK154_19 := amDecK_of (by decide +kernel)
theorem amD154_20 : amDecK cL_law amK154_20 := amDecK_of (by decide +kernel)
theorem amD154_21 : amDecK cL_law amK154_21 := amDecK_of (by decide +kernel)
theorem amD154_22 : amDecK cL_law amK154_22 := amDecK_of (by decide +kernel)
theorem amD154_23 : amDecK cL_law amK154_23 := amDecK_of (by decide +kernel)
theorem amD154_24 : amDecK cL_law amK154_24 := amDecK_of (by decide +kernel)
theorem amD154_25 : amDecK cL_law amK154_25 := amDecK_of (by decide +kernel)
theorem amD154_26 : amDecK cL_law amK154_26 := amDecK_of (by decide +kernel)
theorem amD154_27 : amDecK cL_law amK154_27 := amDecK_of (by decide +kernel)
theorem amD154_28 : amDecK cL_law amK154_28 := amDecK_of (by decide +kernel)
theorem amD154_29 : amDecK cL_law amK154_29 := amDecK_of (by decide +kernel)
theorem amD154_30 : amDecK cL_law amK154_30 := amDecK_of (by decide +kernel)
theorem amD154_31 : amDecK cL_law amK154_31 := amDecK_of (by decide +kernel)
theorem amD154_32 : amDecK cL_law amK154_32 := amDecK_of (by decide +kernel)
theorem amD154_33 : amDecK cL_law amK154_33 := amDecK_of (by decide +kernel)
theorem amD154 : ∀ l ∈ amC154, amDecK cL_law l := List.forall_mem_cons.mpr ⟨amD154_0, List.forall_mem_cons.mpr ⟨amD154_1, List.forall_mem_cons.mpr ⟨amD154_2, List.forall_mem_cons.mpr ⟨amD154_3, List.forall_mem_cons.mpr ⟨amD154_4, List.forall_mem_cons.mpr ⟨amD154_5, List.forall_mem_cons.mpr ⟨amD154_6, List.forall_mem_cons.mpr ⟨amD154_7, List.forall_mem_cons.mpr ⟨amD154_8, List.forall_mem_cons.mpr ⟨amD154_9, List.forall_mem_cons.mpr ⟨amD154_10, List.forall_mem_cons.mpr ⟨amD154_11, List.forall_mem_cons.mpr ⟨amD154_12, List.forall_mem_cons.mpr ⟨amD154_13, List.forall_mem_cons.mpr ⟨amD154_14, List.forall_mem_cons.mpr ⟨amD154_15, List.forall_mem_cons.mpr ⟨amD154_16, List.forall_mem_cons.mpr ⟨amD154_17, List.forall_mem_cons.mpr ⟨amD154_18, List.forall_mem_cons.mpr ⟨amD154_19, List.forall_mem_cons.mpr ⟨amD154_20, List.forall_mem_cons.mpr ⟨amD154_21, List.forall_mem_cons.mpr ⟨amD154_22, List.forall_mem_cons.mpr ⟨amD154_23, List.forall_mem_cons.mpr ⟨amD154_24, List.forall_mem_cons.mpr ⟨amD154_25, List.forall_mem_cons.mpr ⟨amD154_26, List.forall_mem_cons.mpr ⟨amD154_27, List.forall_mem_cons.mpr ⟨amD154_28, List.forall_mem_cons.mpr ⟨amD154_29, List.forall_mem_cons.mpr ⟨amD154_30, List.forall_mem_cons.mpr ⟨amD154_31, List.forall_mem_cons.mpr ⟨amD154_32, List.forall_mem_cons.mpr ⟨amD154_33, fun _ h => absurd h List.not_mem_nil⟩⟩⟩⟩⟩⟩⟩⟩⟩⟩⟩⟩⟩⟩⟩⟩⟩⟩⟩⟩⟩⟩⟩⟩⟩⟩⟩⟩⟩⟩⟩⟩⟩⟩
theorem amDecAll : ∀ r ∈ amAll, ∀ l ∈ r.2, amDecK r.1.2.2.1 l := List.forall_mem_cons.mpr ⟨amD0, List.forall_mem_cons.mpr ⟨amD1, List.forall_mem_cons.mpr ⟨amD2, List.forall_mem_cons.mpr ⟨amD3, List.forall_mem_cons.mpr ⟨amD4, List.forall_mem_cons.mpr ⟨amD5, List.forall_mem_cons.mpr ⟨amD6, List.forall_mem_cons.mpr ⟨amD7, List.forall_mem_cons.mpr ⟨amD8, List.forall_mem_cons.mpr ⟨amD9, List.forall_mem_cons.mpr ⟨amD10, List.forall_mem_cons.mpr ⟨amD11, List.forall_mem_cons.mpr ⟨amD12, List.forall_mem_cons.mpr ⟨amD13, List.forall_mem_cons.mpr ⟨amD14, List.forall_mem_cons.mpr ⟨amD15, List.forall_mem_cons.mpr ⟨amD16, List.forall_mem_cons.mpr ⟨amD17, List.forall_mem_cons.mpr ⟨amD18, List.forall_mem_cons.mpr ⟨amD19, List.forall_mem_cons.mpr ⟨amD20, List.forall_mem_cons.mpr ⟨amD21, List.forall_mem_cons.mpr ⟨amD22, List.forall_mem_cons.mpr ⟨amD23, List.forall_mem_cons.mpr ⟨amD24, List.forall_mem_cons.mpr ⟨amD25, List.forall_mem_cons.mpr ⟨amD26, List.forall_mem_cons.mpr ⟨amD27, List.forall_mem_cons.mpr ⟨amD28, List.forall_mem_cons.mpr ⟨amD29, List.forall_mem_cons.mpr ⟨amD30, List.forall_mem_cons.mpr ⟨amD31, List.forall_mem_cons.mpr ⟨amD32, List.forall_mem_cons.mpr ⟨amD33, List.forall_mem_cons.mpr ⟨amD34, List.forall_mem_cons.mpr ⟨amD35, List.forall_mem_cons.mpr ⟨amD36, List.forall_mem_cons.mpr ⟨amD37, List.forall_mem_cons.mpr ⟨amD38, List.forall_mem_cons.mpr ⟨amD39, List.forall_mem_cons.mpr ⟨amD40, List.forall_mem_cons.mpr ⟨amD41, List.forall_mem_cons.mpr ⟨amD42, List.forall_mem_cons.mpr ⟨amD43, List.forall_mem_cons.mpr ⟨amD44, List.forall_mem_cons.mpr ⟨amD45, List.forall_mem_cons.mpr ⟨amD46, List.forall_mem_cons.mpr ⟨amD47, List.forall_mem_cons.mpr ⟨amD48, List.forall_mem_cons.mpr ⟨amD49, List.forall_mem_cons.mpr ⟨amD50, List.forall_mem_cons.mpr ⟨amD51, List.forall_mem_cons.mpr ⟨amD52, List.forall_mem_cons.mpr ⟨amD53, List.forall_mem_cons.mpr ⟨amD54, List.forall_mem_cons.mpr ⟨amD55, List.forall_mem_cons.mpr ⟨amD56, List.forall_mem_cons.mpr ⟨amD57, List.forall_mem_cons.mpr ⟨amD58, List.forall_mem_cons.mpr ⟨amD59, List.forall_mem_cons.mpr ⟨amD60, List.forall_mem_cons.mpr ⟨amD61, List.forall_mem_cons.mpr ⟨amD62, List.forall_mem_cons.mpr ⟨amD63, List.forall_mem_cons.mpr ⟨amD64, List.forall_mem_cons.mpr ⟨amD65, List.forall_mem_cons.mpr ⟨amD66, List.forall_mem_cons.mpr ⟨amD67, List.forall_mem_cons.mpr ⟨amD68, List.forall_mem_cons.mpr ⟨amD69, List.forall_mem_cons.mpr ⟨amD70, List.forall_mem_cons.mpr ⟨amD71, List.forall_mem_cons.mpr ⟨amD72, List.forall_mem_cons.mpr ⟨amD73, List.forall_mem_cons.mpr ⟨amD74, List.forall_mem_cons.mpr ⟨amD75, List.forall_mem_cons.mpr ⟨amD76, List.forall_mem_cons.mpr ⟨amD77, List.forall_mem_cons.mpr ⟨amD78, List.forall_mem_cons.mpr ⟨amD79, List.forall_mem_cons.mpr ⟨amD80, List.forall_mem_cons.mpr ⟨amD81, List.forall_mem_cons.mpr ⟨amD82, List.forall_mem_cons.mpr ⟨amD83, List.forall_mem_cons.mpr ⟨amD84, List.forall_mem_cons.mpr ⟨amD85, List.forall_mem_cons.mpr ⟨amD86, List.forall_mem_cons.mpr ⟨amD87, List.forall_mem_cons.mpr ⟨amD88, List.forall_mem_cons.mpr ⟨amD89, List.forall_mem_cons.mpr ⟨amD90, List.forall_mem_cons.mpr ⟨amD91, List.forall_mem_cons.mpr ⟨amD92, List.forall_mem_cons.mpr ⟨amD93, List.forall_mem_cons.mpr ⟨amD94, List.forall_mem_cons.mpr ⟨amD95, List.forall_mem_cons.mpr ⟨amD96, List.forall_mem_cons.mpr ⟨amD97, List.forall_mem_cons.mpr ⟨amD98, List.forall_mem_cons.mpr ⟨amD99, List.forall_mem_cons.mpr ⟨amD100, List.forall_mem_cons.mpr ⟨amD101, List.forall_mem_cons.mpr ⟨amD102, List.forall_mem_cons.mpr ⟨amD103, List.forall_mem_cons.mpr ⟨amD104, List.forall_mem_cons.mpr ⟨amD105, List.forall_mem_cons.mpr ⟨amD106, List.forall_mem_cons.mpr ⟨amD107, List.forall_mem_cons.mpr ⟨amD108, List.forall_mem_cons.mpr ⟨amD109, List.forall_mem_cons.mpr ⟨amD110, List.forall_mem_cons.mpr ⟨amD111, List.forall_mem_cons.mpr ⟨amD112, List.forall_mem_cons.mpr ⟨amD113, List.forall_mem_cons.mpr ⟨amD114, List.forall_mem_cons.mpr ⟨amD115, List.forall_mem_cons.mpr ⟨amD116, List.forall_mem_cons.mpr ⟨amD117, List.forall_mem_cons.mpr ⟨amD118, List.forall_mem_cons.mpr ⟨amD119, List.forall_mem_cons.mpr ⟨amD120, List.forall_mem_cons.mpr ⟨amD121, List.forall_mem_cons.mpr ⟨amD122, List.forall_mem_cons.mpr ⟨amD123, List.forall_mem_cons.mpr ⟨amD124, List.forall_mem_cons.mpr ⟨amD125, List.forall_mem_cons.mpr ⟨amD126, List.forall_mem_cons.mpr ⟨amD127, List.forall_mem_cons.mpr ⟨amD128, List.forall_mem_cons.mpr ⟨amD129, List.forall_mem_cons.mpr ⟨amD130, List.forall_mem_cons.mpr ⟨amD131, List.forall_mem_cons.mpr ⟨amD132, List.forall_mem_cons.mpr ⟨amD133, List.forall_mem_cons.mpr ⟨amD134, List.forall_mem_cons.mpr ⟨amD135, List.forall_mem_cons.mpr ⟨amD136, List.forall_mem_cons.mpr ⟨amD137, List.forall_mem_cons.mpr ⟨amD138, List.forall_mem_cons.mpr ⟨amD139, List.forall_mem_cons.mpr ⟨amD140, List.forall_mem_cons.mpr ⟨amD141, List.forall_mem_cons.mpr ⟨amD142, List.forall_mem_cons.mpr ⟨amD143, List.forall_mem_cons.mpr ⟨amD144, List.forall_mem_cons.mpr ⟨amD145, List.forall_mem_cons.mpr ⟨amD146, List.forall_mem_cons.mpr ⟨amD147, List.forall_mem_cons.mpr ⟨amD148, List.forall_mem_cons.mpr ⟨amD149, List.forall_mem_cons.mpr ⟨amD150, List.forall_mem_cons.mpr ⟨amD151, List.forall_mem_cons.mpr ⟨amD152, List.forall_mem_cons.mpr ⟨amD153, List.forall_mem_cons.mpr ⟨amD154, fun _ h => absurd h List.not_mem_nil⟩⟩⟩⟩⟩⟩⟩⟩⟩⟩⟩⟩⟩⟩⟩⟩⟩⟩⟩⟩⟩⟩⟩⟩⟩⟩⟩⟩⟩⟩⟩⟩⟩⟩⟩⟩⟩⟩⟩⟩⟩⟩⟩⟩⟩⟩⟩⟩⟩⟩⟩⟩⟩⟩⟩⟩⟩⟩⟩⟩⟩⟩⟩⟩⟩⟩⟩⟩⟩⟩⟩⟩⟩⟩⟩⟩⟩⟩⟩⟩⟩⟩⟩⟩⟩⟩⟩⟩⟩⟩⟩⟩⟩⟩⟩⟩⟩⟩⟩⟩⟩⟩⟩⟩⟩⟩⟩⟩⟩⟩⟩⟩⟩⟩⟩⟩⟩⟩⟩⟩⟩⟩⟩⟩⟩⟩⟩⟩⟩⟩⟩⟩⟩⟩⟩⟩⟩⟩⟩⟩⟩⟩⟩⟩⟩⟩⟩⟩⟩⟩⟩⟩⟩⟩⟩
end
section
theorem am_lookup {l : List amEnt} {pc : Nat} {v : Instr × Nat × amRes} (h : l.lookup pc = some v) : (pc, v) ∈ l := by
  induction l with
  | nil => cases h
  | cons a l ih =>
    obtain ⟨k, w⟩ := a
    rw [List.lookup_cons] at h
    by_cases e : pc = k
    · subst e
      simp at h
      subst h
      exact List.mem_cons_self
    · have e2 : (pc == k) = false := by simpa using e
      rw [e2] at h
      exact List.mem_cons_of_mem _ (ih h)
theorem amFetch_gen (all : List (amRow × List (List amEnt))) {M pc : Nat} {r : amRow × List (List amEnt)} {v : Instr × Nat × amRes} (hr : all[M]? = some r) (h : ((all[M]?).bind fun r => (r.2[pc / 64]?).bind fun q => q.lookup pc) = some v) : ∃ l ∈ r.2, (pc, v) ∈ l := by
  rw [hr] at h
  simp only [Option.bind_some] at h
  cases hq : r.2[pc / 64]? with
  | none => rw [hq] at h; cases h
  | some q =>
    rw [hq] at h
    exact ⟨q, List.mem_of_getElem? hq, am_lookup h⟩
theorem amFetch_mem {M pc : Nat} {r : amRow × List (List amEnt)} {v : Instr × Nat × amRes} (hr : amAll[M]? = some r) (h : amFetch M pc = some v) : ∃ l ∈ r.2, (pc, v) ∈ l := amFetch_gen amAll hr h
theorem amDecK_use {bb : ByteArray} {l : List amEnt} {pc : Nat} {i : Instr} {len : Nat} {x : amRes} (h : amDecK bb l) (hm : (pc, i, len, x) ∈ l) : decode bb pc = .ok (i, len) := by
  unfold amDecK at h
  have h2 := h (pc, i, len, x) hm
  exact h2
theorem amFetch_dgen (all : List (amRow × List (List amEnt))) (hall : ∀ r ∈ all, ∀ l ∈ r.2, amDecK r.1.2.2.1 l) {M pc : Nat} {r : amRow × List (List amEnt)} {i : Instr} {len : Nat} {x : amRes} (hr : all[M]? = some r) (h : ((all[M]?).bind fun r => (r.2[pc / 64]?).bind fun q => q.lookup pc) = some (i, len, x)) : decode r.1.2.2.1 pc = .ok (i, len) := by
  obtain ⟨l, hl, hm⟩ := amFetch_gen all hr h
  exact amDecK_use (hall r (List.mem_of_getElem? hr) l hl) hm
theorem amFetch_dec {M pc : Nat} {r : amRow × List (List amEnt)} {i : Instr} {len : Nat} {x : amRes} (hr : amAll[M]? = some r) (h : amFetch M pc = some (i, len, x)) : decode r.1.2.2.1 pc = .ok (i, len) := amFetch_dgen amAll amDecAll hr h
/-! the abstract machine: a world of numbered cells (cell 0: the script), one method at a time; by hand -/
abbrev amC : Type := (FieldType × Nat × ((Nat → Int32) ⊕ (Nat → Int64) ⊕ (Nat → Option Nat))) ⊕ (Nat × List Value)
abbrev amH : Type := List amC
abbrev amL : Type := List (Option Value)
abbrev amOut : Type := (Option Value ⊕ Nat) × amH × Nat × Nat
def amTgt (pc : Nat) (off : Int) : Nat := ((pc : Int) + off).toNat
def amIn (i : Int32) (n : Nat) : Bool := decide (¬ i < 0) && decide (i.toNatClampNeg < n)
def amIf0 (c : ClassFile.Cond) (v : Int32) (a b : Nat) : Nat := match c with
  | .eq => if v = 0 then a else b
  | .ne => if ¬ v = 0 then a else b
  | .lt => if v < 0 then a else b
  | .ge => if 0 ≤ v then a else b
  | .gt => if 0 < v then a else b
  | .le => if v ≤ 0 then a else b
def amIf2 (c : ClassFile.Cond) (x y : Int32) (a b : Nat) : Nat := match c with
  | .eq => if x = y then a else b
  | .ne => if ¬ x = y then a else b
  | .lt => if x < y then a else b
  | .ge => if y ≤ x then a else b
  | .gt => if y < x then a else b
  | .le => if x ≤ y then a else b
def amTT : Nat → Nat → String × String × String × Bool := fun ci k => match ci with
  | 0 => TX0 k
  | 1 => TX1 k
  | 2 => TX2 k
  | 3 => TX3 k
  | _ => TX4 k
def amTy : Nat → Nat → FieldType := fun ci k => match ci with
  | 0 => tyX0 k
  | 1 => tyX1 k
  | 2 => tyX2 k
  | 3 => tyX3 k
  | _ => tyX4 k
def amNF : Nat → Nat := fun ci => match ci with
  | 0 => 3
  | 1 => 2
  | 2 => 6
  | 3 => 5
  | 4 => 8
  | _ => 0
def amDef : Nat → List Value := fun ci => match ci with
  | 0 => [.null, .null, .int 0]
  | 1 => [.null, .null]
  | 2 => [.null, .null, .null, .null, .null, .int 0]
  | 3 => [.null, .null, .null, .null, .null]
  | 4 => [.null, .null, .null, .null, .null, .null, .null, .int 0]
  | _ => []
/-- a value of the kind that a field of this type takes -/
def amFits (ty : FieldType) (v : Value) : Bool := match ty, v with
  | .int, .int _ => true
  | .array _, .ref _ => true
  | .object _, .ref _ => true
  | _, _ => false
def amSum (st : List Value) : Nat := (st.map fun v => v.category).sum
/-- one instruction that calls nothing and makes nothing -/
def amStep (i : Instr) (x : amRes) (pc : Nat) (ls : amL) (st : List Value) (hs : amH) : Option (Nat × amL × List Value × amH) := match i with
  | .iconst n => some (pc + 1, ls, .int (Int32.ofInt n) :: st, hs)
  | .bipush n => some (pc + 2, ls, .int (Int8.ofInt n).toInt32 :: st, hs)
  | .sipush n => some (pc + 3, ls, .int (Int16.ofInt n).toInt32 :: st, hs)
  | .lconst n => some (pc + 1, ls, .long (Int64.ofNat (n : Nat)) :: st, hs)
  | .ldc _ => if x.2.2 = -1640531527 then some (pc + 2, ls, .int (Int32.ofInt x.2.2) :: st, hs) else none
  | .iload k => match ls[k]? with
    | some (some (.int v)) => some (pc + 2, ls, .int v :: st, hs)
    | _ => none
  | .iload_n k => match ls[(k : Nat)]? with
    | some (some (.int v)) => some (pc + 1, ls, .int v :: st, hs)
    | _ => none
  | .aload k => match ls[k]? with
    | some (some (.ref v)) => some (pc + 2, ls, .ref v :: st, hs)
    | _ => none
  | .aload_n k => match ls[(k : Nat)]? with
    | some (some (.ref v)) => some (pc + 1, ls, .ref v :: st, hs)
    | _ => none
  | .istore k => match st with
    | .int v :: st => some (pc + 2, ls.set k (some (.int v)), st, hs)
    | _ => none
  | .istore_n k => match st with
    | .int v :: st => some (pc + 1, ls.set (k : Nat) (some (.int v)), st, hs)
    | _ => none
  | .astore k => match st with
    | .ref v :: st => some (pc + 2, ls.set k (some (.ref v)), st, hs)
    | _ => none
  | .astore_n k => match st with
    | .ref v :: st => some (pc + 1, ls.set (k : Nat) (some (.ref v)), st, hs)
    | _ => none
  | .iinc k n => match ls[k]? with
    | some (some (.int v)) => some (pc + 3, ls.set k (some (.int (v + Int32.ofInt n))), st, hs)
    | _ => none
  | .iadd => match st with
    | .int b :: .int a :: st => some (pc + 1, ls, .int (a + b) :: st, hs)
    | _ => none
  | .isub => match st with
    | .int b :: .int a :: st => some (pc + 1, ls, .int (a - b) :: st, hs)
    | _ => none
  | .imul => match st with
    | .int b :: .int a :: st => some (pc + 1, ls, .int (a * b) :: st, hs)
    | _ => none
  | .iand => match st with
    | .int b :: .int a :: st => some (pc + 1, ls, .int (a &&& b) :: st, hs)
    | _ => none
  | .ior => match st with
    | .int b :: .int a :: st => some (pc + 1, ls, .int (a ||| b) :: st, hs)
    | _ => none
  | .idiv => match st with
    | .int b :: .int a :: st => if b = 0 then none else some (pc + 1, ls, .int (a / b) :: st, hs)
    | _ => none
  | .irem => match st with
    | .int b :: .int a :: st => if b = 0 then none else some (pc + 1, ls, .int (a - a / b * b) :: st, hs)
    | _ => none
  | .ishl => match st with
    | .int b :: .int a :: st => some (pc + 1, ls, .int (a <<< (b &&& 31)) :: st, hs)
    | _ => none
  | .ishr => match st with
    | .int b :: .int a :: st => some (pc + 1, ls, .int (a >>> (b &&& 31)) :: st, hs)
    | _ => none
  | .iushr => match st with
    | .int b :: .int a :: st => some (pc + 1, ls, .int (a.toUInt32 >>> (b.toUInt32 &&& Int32.toUInt32 31)).toInt32 :: st, hs)
    | _ => none
  | .i2l => match st with
    | .int a :: st => some (pc + 1, ls, .long a.toInt64 :: st, hs)
    | _ => none
  | .lcmp => match st with
    | .long b :: .long a :: st => some (pc + 1, ls, .int (lg_cmp a b) :: st, hs)
    | _ => none
  | .dup => match st with
    | v :: st => if v.category = 1 then some (pc + 1, ls, v :: v :: st, hs) else none
    | _ => none
  | .dup2 => match st with
    | v :: w :: st => if v.category = 1 ∧ w.category = 1 then some (pc + 1, ls, v :: w :: v :: w :: st, hs) else none
    | _ => none
  | .ifCond c off => match st with
    | .int v :: st => some (amIf0 c v (amTgt pc off) (pc + 3), ls, st, hs)
    | _ => none
  | .if_icmp c off => match st with
    | .int b :: .int a :: st => some (amIf2 c a b (amTgt pc off) (pc + 3), ls, st, hs)
    | _ => none
  | .goto off => some (amTgt pc off, ls, st, hs)
  | .tableswitch dflt lo hi offs => match st with
    | .int v :: st => if v.toInt < lo ∨ hi < v.toInt then some (amTgt pc dflt, ls, st, hs) else match offs[(v.toInt - lo).toNat]? with
      | some off => some (amTgt pc off, ls, st, hs)
      | none => none
    | _ => none
  | .getfield _ => match st with
    | .ref a :: st => match hs[a]? with
      | some (.inr (ci, fs)) => if ci = x.1 then match fs[x.2.1]? with
          | some v => some (pc + 3, ls, v :: st, hs)
          | none => none
        else none
      | _ => none
    | _ => none
  | .putfield _ => match st with
    | v :: .ref a :: st => match hs[a]? with
      | some (.inr (ci, fs)) => if ci = x.1 ∧ amFits (amTy x.1 x.2.1) v = true ∧ x.2.1 < fs.length then some (pc + 3, ls, st, hs.set a (.inr (ci, fs.set x.2.1 v))) else none
      | _ => none
    | _ => none
  | .arraylength => match st with
    | .ref a :: st => match hs[a]? with
      | some (.inl (_, n, _)) => some (pc + 1, ls, .int (Int32.ofNat n) :: st, hs)
      | _ => none
    | _ => none
  | .iaload => match st with
    | .int i :: .ref a :: st => match hs[a]? with
      | some (.inl (.int, n, .inl f)) => if amIn i n = true then some (pc + 1, ls, .int (f i.toNatClampNeg) :: st, hs) else none
      | _ => none
    | _ => none
  | .baload => match st with
    | .int i :: .ref a :: st => match hs[a]? with
      | some (.inl (.boolean, n, .inl f)) => if amIn i n = true then some (pc + 1, ls, .int (f i.toNatClampNeg) :: st, hs) else none
      | _ => none
    | _ => none
  | .laload => match st with
    | .int i :: .ref a :: st => match hs[a]? with
      | some (.inl (.long, n, .inr (.inl f))) => if amIn i n = true then some (pc + 1, ls, .long (f i.toNatClampNeg) :: st, hs) else none
      | _ => none
    | _ => none
  | .aaload => match st with
    | .int i :: .ref a :: st => match hs[a]? with
      | some (.inl (.object _, n, .inr (.inr f))) => if amIn i n = true then match f i.toNatClampNeg with
          | some k => some (pc + 1, ls, .ref k :: st, hs)
          | none => none
        else none
      | _ => none
    | _ => none
  | .iastore => match st with
    | .int v :: .int i :: .ref a :: st => match hs[a]? with
      | some (.inl (.int, n, .inl f)) => if amIn i n = true ∧ ¬ a = 0 then some (pc + 1, ls, st, hs.set a (.inl (.int, n, .inl (upd f i.toNatClampNeg v)))) else none
      | _ => none
    | _ => none
  | .bastore => match st with
    | .int v :: .int i :: .ref a :: st => match hs[a]? with
      | some (.inl (.boolean, n, .inl f)) => if amIn i n = true ∧ ¬ a = 0 then some (pc + 1, ls, st, hs.set a (.inl (.boolean, n, .inl (upd f i.toNatClampNeg (vp_nar .boolean v))))) else none
      | _ => none
    | _ => none
  | .lastore => match st with
    | .long v :: .int i :: .ref a :: st => match hs[a]? with
      | some (.inl (.long, n, .inr (.inl f))) => if amIn i n = true ∧ ¬ a = 0 then some (pc + 1, ls, st, hs.set a (.inl (.long, n, .inr (.inl (vp_updL f i.toNatClampNeg v))))) else none
      | _ => none
    | _ => none
  | .aastore => match st with
    | .ref v :: .int i :: .ref a :: st => match hs[a]?, hs[v]? with
      | some (.inl (.object C, n, .inr (.inr f))), some (.inr (ci, _)) => if amIn i n = true ∧ ¬ a = 0 ∧ ci < 5 ∧ C = amN ci then some (pc + 1, ls, st, hs.set a (.inl (.object C, n, .inr (.inr (va_up f i.toNatClampNeg (some v)))))) else none
      | _, _ => none
    | _ => none
  | .invokestatic _ => match st with
    | .int b :: .int a :: st => if amSum st ≤ 8 then (if x.1 = 4 then some (pc + 3, ls, .int (if a < b then b else a) :: st, hs) else if x.1 = 5 then some (pc + 3, ls, .int (if b < a then b else a) :: st, hs) else none) else none
    | _ => none
  | .invokespecial _ => match st with
    | .ref _ :: st => if x.1 = 6 ∧ amSum st ≤ 8 then some (pc + 3, ls, st, hs) else none
    | _ => none
  | _ => none
def amEntry (args : List Value) (n : Nat) : amL := args.map some ++ List.replicate (n - args.length) none
def amRowOf (M : Nat) : Option amRow := (amAll[M]?).map fun r => r.1
/-- which exception a place of the law's pool names -/
def amCat : Nat → Nat := fun k => match k with
  | 13 => 1
  | 15 => 2
  | 28 => 3
  | _ => 0
def amHand (M pc E : Nat) : Option Nat := (amRowOf M).bind fun r => (r.2.2.2.2.2.1.find? fun z => decide (z.1 ≤ pc) && decide (pc < z.2.1) && decide (amCat z.2.2.2 = E)).map fun z => z.2.2.1
/-- the callee's class, locals -/
def amOwnL (M : Nat) : Option (Nat × Nat) := (amRowOf M).map fun r => (r.1, r.2.2.2.1)
def amRetOk (M : Nat) (v : Int32) : Bool := match (amRowOf M).bind fun r => r.2.2.2.2.1 with
  | some ty => decide (narrow ty (.int v) = .int v)
  | none => false
def amThis (hs : amH) (v : Value) (ci : Nat) : Bool := match v with
  | .ref a => match hs[a]? with
    | some (.inr (c2, _)) => decide (c2 = ci)
    | _ => false
  | _ => false
/-- the arguments of a call off the stack: with the object for kinds 0 and 3 -/
def amArgs (x : amRes) (st : List Value) (hs : amH) (own : Nat) : Option (List Value × List Value) :=
  let k := if x.1 = 0 ∨ x.1 = 3 then x.2.2.toNat + 1 else x.2.2.toNat
  let as := (st.take k).reverse
  if as.length = k ∧ as.all (fun v => decide (v.category = 1)) = true ∧ amSum (st.drop k) ≤ 8 ∧ ((x.1 = 0 ∨ x.1 = 3) → (match as with | v :: _ => amThis hs v own | [] => false) = true) then some (as, st.drop k) else none
abbrev amRec : Type := Nat → Nat → amL → List Value → amH → Nat → Nat → Option amOut
def amBack (rec : amRec) (M : Nat) (x : amRes) (pc : Nat) (ls : amL) (rest : List Value) (c s : Nat) (o : Option amOut) : Option amOut := match o with
  | none => none
  | some (.inl v, hs', dc, ds) => rec M (pc + 3) ls (v.toList ++ rest) hs' (c + dc) (s + ds)
  | some (.inr E, hs', dc, ds) => if x.1 = 2 ∨ x.1 = 3 then none else match amHand M pc E with
    | none => some (.inr E, hs', c + dc, s + ds)
    | some h => match amFetch M h with
      | some (.astore k, _) => rec M (h + 2) (ls.set k none) [] hs' (c + dc) (s + ds)
      | some (.astore_n k, _) => rec M (h + 1) (ls.set (k : Nat) none) [] hs' (c + dc) (s + ds)
      | _ => none
def amCall (rec : amRec) (M : Nat) (x : amRes) (pc : Nat) (ls : amL) (st : List Value) (hs : amH) (c s : Nat) : Option amOut := match amOwnL x.2.1 with
  | none => none
  | some (own, mL) => match amArgs x st hs own with
    | none => none
    | some (as, rest) => if as.length ≤ mL then amBack rec M x pc ls rest c s (rec x.2.1 0 (amEntry as mL) [] hs 0 0) else none
def amMore (rec : amRec) (M : Nat) (i : Instr) (x : amRes) (pc : Nat) (ls : amL) (st : List Value) (hs : amH) (c s : Nat) : Option amOut := match i with
  | .ireturn => match st with
    | [.int v] => if amRetOk M v = true then some (.inl (some (.int v)), hs, c, s) else none
    | _ => none
  | .areturn => match st with
    | [.ref v] => some (.inl (some (.ref v)), hs, c, s)
    | _ => none
  | .return_ => match st with
    | [] => some (.inl none, hs, c, s)
    | _ => none
  | .new _ => if x.1 = 1 then (if amSum st ≤ 8 then some (.inr x.2.1, hs, c + 1, s + 6) else none)
    else rec M (pc + 3) ls (.ref hs.length :: st) (hs ++ [.inr (x.2.1, amDef x.2.1)]) (c + 1) (s + amNF x.2.1)
  | .newarray t => match st with
    | .int n :: st => if ¬ n < 0 ∧ n.toNatClampNeg ≤ 65536 then (match t with
        | .int => rec M (pc + 2) ls (.ref hs.length :: st) (hs ++ [.inl (.int, n.toNatClampNeg, .inl (fun _ => 0))]) (c + 1) (s + n.toNatClampNeg)
        | .boolean => rec M (pc + 2) ls (.ref hs.length :: st) (hs ++ [.inl (.boolean, n.toNatClampNeg, .inl (fun _ => 0))]) (c + 1) (s + n.toNatClampNeg)
        | .long => rec M (pc + 2) ls (.ref hs.length :: st) (hs ++ [.inl (.long, n.toNatClampNeg, .inr (.inl (fun _ => 0)))]) (c + 1) (s + n.toNatClampNeg)
        | _ => none) else none
    | _ => none
  | .anewarray _ => match st with
    | .int n :: st => if ¬ n < 0 ∧ n.toNatClampNeg ≤ 65536 ∧ x.2.1 = 2 then rec M (pc + 3) ls (.ref hs.length :: st) (hs ++ [.inl (.object (amN x.2.1), n.toNatClampNeg, .inr (.inr (fun _ => none)))]) (c + 1) (s + n.toNatClampNeg) else none
    | _ => none
  | .invokevirtual _ => if x.1 = 0 then amCall rec M x pc ls st hs c s else none
  | .invokestatic _ => if x.1 = 1 ∨ x.1 = 2 then amCall rec M x pc ls st hs c s else none
  | .invokespecial _ => if x.1 = 3 then amCall rec M x pc ls st hs c s else none
  | _ => none
def amRun : Nat → amRec
  | 0 => fun _ _ _ _ _ _ _ => none
  | n + 1 => fun M pc ls st hs c s => match amFetch M pc with
    | none => none
    | some (i, _, x) => match amStep i x pc ls st hs with
      | some (pc', ls', st', hs') => amRun n M pc' ls' st' hs' c s
      | none => amMore (amRun n) M i x pc ls st hs c s
/-! a call from its start: of a method with these arguments -/
def amDo (n M : Nat) (as : List Value) (hs : amH) : Option amOut := (amOwnL M).bind fun q => amRun n M 0 (amEntry as q.2) [] hs 0 0
end
section
/-! what the abstract machine's values, locals, cells stand for; by hand -/
def amVR (σ : List Nat) (v w : Value) : Prop := match v with
  | .ref k => ∃ a, σ[k]? = some a ∧ w = .ref a
  | v => w = v
theorem amVR_int {σ : List Nat} {x : Int32} {w : Value} (h : amVR σ (.int x) w) : w = .int x := h
theorem amVR_long {σ : List Nat} {x : Int64} {w : Value} (h : amVR σ (.long x) w) : w = .long x := h
theorem amVR_ref {σ : List Nat} {k : Nat} {w : Value} (h : amVR σ (.ref k) w) : ∃ a, σ[k]? = some a ∧ w = .ref a := h
theorem amVR_cat {σ : List Nat} {v w : Value} (h : amVR σ v w) : w.category = v.category := by
  cases v with
  | ref k => obtain ⟨a, -, rfl⟩ := amVR_ref h; rfl
  | _ => have h2 : w = _ := h; rw [h2]
def amExt (σ σ' : List Nat) : Prop := ∀ (k a : Nat), σ[k]? = some a → σ'[k]? = some a
theorem amExt_rf {σ : List Nat} : amExt σ σ := fun _ _ h => h
theorem amExt_tr {σ σ1 σ2 : List Nat} (h : amExt σ σ1) (h2 : amExt σ1 σ2) : amExt σ σ2 := fun k a e => h2 k a (h k a e)
theorem amExt_push {σ : List Nat} {a : Nat} : amExt σ (σ ++ [a]) := fun k x e => by
  rw [List.getElem?_append_left (List.getElem?_eq_some_iff.mp e).1]; exact e
theorem amVR_mono {σ σ' : List Nat} (he : amExt σ σ') {v w : Value} (h : amVR σ v w) : amVR σ' v w := by
  cases v with
  | ref k => obtain ⟨a, h1, h2⟩ := amVR_ref h; exact ⟨a, he k a h1, h2⟩
  | _ => exact h
def amSR (σ : List Nat) : List Value → List Value → Prop
  | [], [] => True
  | v :: st, w :: cst => amVR σ v w ∧ amSR σ st cst
  | _, _ => False
theorem amSR_nil {σ : List Nat} {cst : List Value} (h : amSR σ [] cst) : cst = [] := by
  cases cst with
  | nil => rfl
  | cons a l => exact absurd h id
theorem amSR_cons {σ : List Nat} {v : Value} {st cst : List Value} (h : amSR σ (v :: st) cst) : ∃ w c, cst = w :: c ∧ amVR σ v w ∧ amSR σ st c := by
  cases cst with
  | nil => exact absurd h id
  | cons a l => exact ⟨a, l, rfl, h.1, h.2⟩
theorem amSR_int {σ : List Nat} {x : Int32} {st cst : List Value} (h : amSR σ (.int x :: st) cst) : ∃ c, cst = .int x :: c ∧ amSR σ st c := by
  obtain ⟨w, c, rfl, h1, h2⟩ := amSR_cons h
  exact ⟨c, by rw [amVR_int h1], h2⟩
theorem amSR_long {σ : List Nat} {x : Int64} {st cst : List Value} (h : amSR σ (.long x :: st) cst) : ∃ c, cst = .long x :: c ∧ amSR σ st c := by
  obtain ⟨w, c, rfl, h1, h2⟩ := amSR_cons h
  exact ⟨c, by rw [amVR_long h1], h2⟩
theorem amSR_ref {σ : List Nat} {k : Nat} {st cst : List Value} (h : amSR σ (.ref k :: st) cst) : ∃ a c, cst = .ref a :: c ∧ σ[k]? = some a ∧ amSR σ st c := by
  obtain ⟨w, c, rfl, h1, h2⟩ := amSR_cons h
  obtain ⟨a, h3, rfl⟩ := amVR_ref h1
  exact ⟨a, c, rfl, h3, h2⟩
theorem amSR_mk {σ : List Nat} {v w : Value} {st cst : List Value} (h : amVR σ v w) (h2 : amSR σ st cst) : amSR σ (v :: st) (w :: cst) := ⟨h, h2⟩
theorem amSR_mono {σ σ' : List Nat} (he : amExt σ σ') : ∀ {st cst : List Value}, amSR σ st cst → amSR σ' st cst
  | [], [], _ => trivial
  | _ :: _, _ :: _, h => ⟨amVR_mono he h.1, amSR_mono he h.2⟩
  | [], _ :: _, h => absurd h id
  | _ :: _, [], h => absurd h id
theorem amSR_len {σ : List Nat} : ∀ {st cst : List Value}, amSR σ st cst → cst.length = st.length
  | [], [], _ => rfl
  | _ :: _, _ :: _, h => by rw [List.length_cons, List.length_cons, amSR_len h.2]
  | [], _ :: _, h => absurd h id
  | _ :: _, [], h => absurd h id
theorem amSR_get {σ : List Nat} : ∀ {st cst : List Value} {k : Nat} {v : Value}, amSR σ st cst → st[k]? = some v → ∃ w, cst[k]? = some w ∧ amVR σ v w
  | [], _, _, _, _, hk => by simp at hk
  | v :: st, w :: cst, 0, _, h, hk => by simp at hk; subst hk; exact ⟨w, rfl, h.1⟩
  | v :: st, w :: cst, k + 1, _, h, hk => by simp at hk; simpa using amSR_get h.2 hk
  | _ :: _, [], _, _, h, _ => absurd h id
theorem amSR_set {σ : List Nat} : ∀ {st cst : List Value} {k : Nat} {v w : Value}, amSR σ st cst → amVR σ v w → amSR σ (st.set k v) (cst.set k w)
  | [], [], _, _, _, _, _ => trivial
  | v :: st, w :: cst, 0, _, _, h, hv => ⟨hv, h.2⟩
  | v :: st, w :: cst, k + 1, _, _, h, hv => ⟨h.1, amSR_set h.2 hv⟩
  | [], _ :: _, _, _, _, h, _ => absurd h id
  | _ :: _, [], _, _, _, h, _ => absurd h id
theorem amSR_sum {σ : List Nat} : ∀ {st cst : List Value}, amSR σ st cst → (cst.map fun v => v.category).sum = amSum st
  | [], [], _ => rfl
  | v :: st, w :: cst, h => by
    have h1 := amSR_sum h.2
    unfold amSum at h1 ⊢
    rw [List.map_cons, List.map_cons, List.sum_cons, List.sum_cons, h1, amVR_cat h.1]
  | [], _ :: _, h => absurd h id
  | _ :: _, [], h => absurd h id
theorem amSR_app {σ : List Nat} : ∀ {a b : List Value} {st : List Value}, amSR σ (a ++ b) st → ∃ ca cb, st = ca ++ cb ∧ amSR σ a ca ∧ amSR σ b cb
  | [], b, st, h => ⟨[], st, rfl, trivial, h⟩
  | v :: a, b, [], h => absurd h id
  | v :: a, b, w :: st, h => by
    obtain ⟨ca, cb, e, h1, h2⟩ := amSR_app (a := a) (b := b) h.2
    exact ⟨w :: ca, cb, by rw [e]; rfl, ⟨h.1, h1⟩, h2⟩
theorem amSR_snoc {σ : List Nat} {v w : Value} : ∀ {a ca : List Value}, amSR σ a ca → amVR σ v w → amSR σ (a ++ [v]) (ca ++ [w])
  | [], [], _, hv => ⟨hv, trivial⟩
  | _ :: _, _ :: _, h, hv => ⟨h.1, amSR_snoc h.2 hv⟩
  | [], _ :: _, h, _ => absurd h id
  | _ :: _, [], h, _ => absurd h id
theorem amSR_rev {σ : List Nat} : ∀ {a ca : List Value}, amSR σ a ca → amSR σ a.reverse ca.reverse
  | [], [], _ => trivial
  | v :: a, w :: ca, h => by
    rw [List.reverse_cons, List.reverse_cons]
    exact amSR_snoc (amSR_rev h.2) h.1
  | [], _ :: _, h => absurd h id
  | _ :: _, [], h => absurd h id
def amLR (σ : List Nat) (ls : amL) (nL : Nat) (cls : Array Slot) : Prop := cls.size = nL ∧ ls.length = nL ∧ lv_wf cls ∧ ∀ (i : Nat) (v : Value), ls[i]? = some (some v) → ∃ w, amVR σ v w ∧ w.category = 1 ∧ cls[i]? = some (.val w)
theorem amLR_mono {σ σ' : List Nat} (he : amExt σ σ') {ls : amL} {nL : Nat} {cls : Array Slot} (h : amLR σ ls nL cls) : amLR σ' ls nL cls :=
  ⟨h.1, h.2.1, h.2.2.1, fun i v hv => by obtain ⟨w, h1, h2⟩ := h.2.2.2 i v hv; exact ⟨w, amVR_mono he h1, h2⟩⟩
/-- storing a value of one slot: the same new locals for every list of what is held -/
theorem am_store {cls : Array Slot} {nL i : Nat} {w : Value} (hs : cls.size = nL) (hw : lv_wf cls) (hi : i < nL) (hc : w.category = 1) : ∃ ls', storeLocals cls i w = some ls' ∧ ls'.size = nL ∧ lv_wf ls' ∧ ls'[i]? = some (.val w) ∧ ∀ (j : Nat) (u : Value), j ≠ i → u.category = 1 → cls[j]? = some (.val u) → ls'[j]? = some (.val u) := by
  obtain ⟨ls', e, h1, h2, h3⟩ := lv_store1 (l := []) (v := w) ⟨hs, hw, fun q hq => by cases hq⟩ hi hc
  refine ⟨ls', e, h1, h2, h3 (i, w) (List.mem_cons_self), fun j u hj hu hx => ?_⟩
  obtain ⟨ls2, e2, h4, h5, h6⟩ := lv_store1 (l := [(j, u)]) (v := w) ⟨hs, hw, fun q hq => by rw [List.mem_singleton.mp hq]; exact hx⟩ hi hc
  rw [e] at e2
  cases e2
  refine h6 (j, u) (List.mem_cons_of_mem _ (List.mem_filter.mpr ⟨List.mem_singleton.mpr rfl, ?_⟩))
  simp [hj, hu]
theorem amLR_set {σ : List Nat} {ls : amL} {nL i : Nat} {cls : Array Slot} {v w : Value} (h : amLR σ ls nL cls) (hi : i < nL) (hv : amVR σ v w) (hc : w.category = 1) : ∃ ls', storeLocals cls i w = some ls' ∧ amLR σ (ls.set i (some v)) nL ls' := by
  obtain ⟨h1, h2, h3, h4⟩ := h
  obtain ⟨ls', e, a1, a2, a3, a4⟩ := am_store h1 h3 hi hc
  refine ⟨ls', e, a1, by rw [List.length_set]; exact h2, a2, fun j u hu => ?_⟩
  by_cases hj : j = i
  · subst hj
    rw [List.getElem?_set_self (by rw [h2]; exact hi)] at hu
    cases hu
    exact ⟨w, hv, hc, a3⟩
  · rw [List.getElem?_set_ne (Ne.symm hj)] at hu
    obtain ⟨w2, b1, b2, b3⟩ := h4 j u hu
    exact ⟨w2, b1, b2, a4 j w2 hj b2 b3⟩
theorem amLR_none {σ : List Nat} {ls : amL} {nL i : Nat} {cls : Array Slot} {w : Value} (h : amLR σ ls nL cls) (hi : i < nL) (hc : w.category = 1) : ∃ ls', storeLocals cls i w = some ls' ∧ amLR σ (ls.set i none) nL ls' := by
  obtain ⟨h1, h2, h3, h4⟩ := h
  obtain ⟨ls', e, a1, a2, a3, a4⟩ := am_store h1 h3 hi hc
  refine ⟨ls', e, a1, by rw [List.length_set]; exact h2, a2, fun j u hu => ?_⟩
  by_cases hj : j = i
  · subst hj
    rw [List.getElem?_set_self (by rw [h2]; exact hi)] at hu
    cases hu
  · rw [List.getElem?_set_ne (Ne.symm hj)] at hu
    obtain ⟨w2, b1, b2, b3⟩ := h4 j u hu
    exact ⟨w2, b1, b2, a4 j w2 hj b2 b3⟩
/-- what a cell stands for -/
def amCR (s : State) (σ : List Nat) (c : amC) (e : va_E) : Prop := match c with
  | .inl (ty, n, .inl f) => (ty = .int ∨ ty = .boolean) ∧ ∃ cA, e = .inl (cA, n, .inl f) ∧ ArrOfT s cA ty ∧ va_RA s cA ty
  | .inl (ty, n, .inr (.inl f)) => ty = .long ∧ ∃ cA, e = .inl (cA, n, .inr (.inl f)) ∧ ArrOfT s cA ty ∧ va_RA s cA ty
  | .inl (ty, n, .inr (.inr f)) => ∃ C cA f', ty = .object C ∧ e = .inl (cA, n, .inr (.inr (.inr (.inr f')))) ∧ ArrOfT s cA ty ∧ va_RA s cA ty ∧ ∀ i, i < n → ∀ k, f i = some k → ∃ a, σ[k]? = some a ∧ f' i = some a
  | .inr (ci, fs) => ∃ fs', e = .inr (ci, fs') ∧ amSR σ fs fs'
theorem amCR_mono {s : State} {σ σ' : List Nat} (he : amExt σ σ') {c : amC} {e : va_E} (h : amCR s σ c e) : amCR s σ' c e := by
  rcases c with ⟨ty, n, f | f | f⟩ | ⟨ci, fs⟩
  · exact h
  · exact h
  · obtain ⟨C, cA, f', h1, h2, h3, h4, h5⟩ := h
    exact ⟨C, cA, f', h1, h2, h3, h4, fun i hi k hk => by obtain ⟨a, b1, b2⟩ := h5 i hi k hk; exact ⟨a, he k a b1, b2⟩⟩
  · obtain ⟨fs', h1, h2⟩ := h
    exact ⟨fs', h1, amSR_mono he h2⟩
theorem amCR_moved {s U : State} (hvm : s.vm.Alike U.vm) {σ : List Nat} {c : amC} {e : va_E} (h : amCR s σ c e) : amCR U σ c e := by
  rcases c with ⟨ty, n, f | f | f⟩ | ⟨ci, fs⟩
  · obtain ⟨h0, cA, h1, h2, h3⟩ := h
    exact ⟨h0, cA, h1, arrOfT_moved hvm h2, h3.moved hvm⟩
  · obtain ⟨h0, cA, h1, h2, h3⟩ := h
    exact ⟨h0, cA, h1, arrOfT_moved hvm h2, h3.moved hvm⟩
  · obtain ⟨C, cA, f', h1, h2, h3, h4, h5⟩ := h
    exact ⟨C, cA, f', h1, h2, arrOfT_moved hvm h3, h4.moved hvm, h5⟩
  · exact h
def amWR (s : State) (σ : List Nat) (hs : amH) (ws : va_W) : Prop := σ.length = hs.length ∧ hs.length = ws.length + 1 ∧ ∀ (k : Nat) (c : amC), hs[k + 1]? = some c → ∃ a e, ws[k]? = some (a, e) ∧ σ[k + 1]? = some a ∧ amCR s σ c e
theorem amWR_moved {s U : State} (hvm : s.vm.Alike U.vm) {σ : List Nat} {hs : amH} {ws : va_W} (h : amWR s σ hs ws) : amWR U σ hs ws :=
  ⟨h.1, h.2.1, fun k c hk => by obtain ⟨a, e, h1, h2, h3⟩ := h.2.2 k c hk; exact ⟨a, e, h1, h2, amCR_moved hvm h3⟩⟩
theorem amWR_get {s : State} {σ : List Nat} {hs : amH} {ws : va_W} (h : amWR s σ hs ws) {k a : Nat} {c : amC} (hk : hs[k]? = some c) (h0 : k ≠ 0) (ha : σ[k]? = some a) : ∃ e, ws[k - 1]? = some (a, e) ∧ amCR s σ c e := by
  obtain ⟨j, rfl⟩ : ∃ j, k = j + 1 := ⟨k - 1, by omega⟩
  obtain ⟨a2, e, h1, h2, h3⟩ := h.2.2 j c hk
  rw [ha] at h2
  cases h2
  exact ⟨e, h1, h3⟩
theorem amWR_set {s : State} {σ : List Nat} {hs : amH} {ws : va_W} (h : amWR s σ hs ws) {k a : Nat} {c : amC} {e e0 : va_E} (hw : ws[k]? = some (a, e0)) (hc : amCR s σ c e) : amWR s σ (hs.set (k + 1) c) (ws.set k (a, e)) := by
  refine ⟨by rw [List.length_set]; exact h.1, by rw [List.length_set, List.length_set]; exact h.2.1, fun j c2 hj => ?_⟩
  have hl := (List.getElem?_eq_some_iff.mp hw).1
  by_cases hjk : j = k
  · subst hjk
    rw [List.getElem?_set_self (by rw [h.2.1]; omega)] at hj
    cases hj
    have hx : j + 1 < hs.length := by rw [h.2.1]; omega
    obtain ⟨a2, e2, h1, h2, -⟩ := h.2.2 j _ (List.getElem?_eq_getElem hx)
    rw [hw] at h1
    cases h1
    exact ⟨a, e, by rw [List.getElem?_set_self hl], h2, hc⟩
  · rw [List.getElem?_set_ne (by omega)] at hj
    obtain ⟨a2, e2, h1, h2, h3⟩ := h.2.2 j c2 hj
    exact ⟨a2, e2, by rw [List.getElem?_set_ne (Ne.symm hjk)]; exact h1, h2, h3⟩
theorem amWR_push {s : State} {σ : List Nat} {hs : amH} {ws : va_W} (h : amWR s σ hs ws) {a : Nat} {c : amC} {e : va_E} (hc : amCR s (σ ++ [a]) c e) : amWR s (σ ++ [a]) (hs ++ [c]) (ws ++ [(a, e)]) := by
  have h1 := h.1
  have h2 := h.2.1
  refine ⟨by simp [h1], by simp [h2], fun j c2 hj => ?_⟩
  by_cases hjl : j + 1 < hs.length
  · rw [List.getElem?_append_left hjl] at hj
    obtain ⟨a2, e2, b1, b2, b3⟩ := h.2.2 j c2 hj
    exact ⟨a2, e2, by rw [List.getElem?_append_left (List.getElem?_eq_some_iff.mp b1).1]; exact b1, amExt_push _ _ b2, amCR_mono amExt_push b3⟩
  · have hj1 : j + 1 < (hs ++ [c]).length := (List.getElem?_eq_some_iff.mp hj).1
    have hj2 : j + 1 = hs.length := by simp at hj1; omega
    rw [hj2] at hj ⊢
    have hjw : j = ws.length := by omega
    simp at hj
    subst hj
    exact ⟨a, e, by rw [hjw]; simp, by rw [← h1]; simp, hc⟩
end
section
/-! words of the tables behind every resolved place; the check of every instruction; by wip/whole/gen06.py -/
def amFldL : List (Nat × Nat × Nat × Nat) := [(0, 9, 0, 0), (0, 15, 0, 1), (0, 18, 0, 2), (1, 9, 1, 0), (1, 15, 1, 1), (1, 39, 2, 4), (1, 43, 2, 3), (1, 55, 2, 0), (1, 58, 2, 1), (2, 9, 2, 0), (2, 15, 2, 1), (2, 18, 2, 2), (2, 22, 2, 3), (2, 25, 2, 4), (2, 28, 2, 5), (2, 90, 0, 2), (2, 93, 0, 0), (2, 96, 0, 1), (3, 11, 3, 0), (3, 19, 3, 1), (3, 23, 3, 2), (3, 26, 3, 3), (3, 32, 3, 4), (3, 76, 2, 5), (3, 122, 0, 2), (3, 133, 0, 0), (3, 145, 2, 0), (3, 148, 2, 1), (3, 154, 2, 2), (3, 158, 2, 3), (3, 161, 2, 4), (4, 7, 4, 0), (4, 13, 4, 1), (4, 16, 4, 2), (4, 19, 4, 3), (4, 22, 4, 4), (4, 25, 4, 5), (4, 28, 4, 6), (4, 31, 4, 7)]
def amClsL : List (Nat × Nat × Nat) := [(3, 9, 2), (3, 16, 0), (3, 29, 1), (5, 8, 3), (5, 108, 4)]
def amLnkL : List (Nat × Nat × Nat × Nat × Nat) := [(0, 22, 0, 1, 0), (0, 25, 0, 2, 2), (0, 29, 0, 6, 2), (0, 38, 2, 73, 1), (1, 18, 0, 22, 0), (1, 24, 0, 14, 0), (1, 27, 0, 16, 1), (1, 31, 0, 15, 1), (1, 35, 1, 11, 3), (1, 46, 0, 23, 1), (1, 49, 0, 18, 1), (1, 52, 0, 17, 1), (2, 32, 0, 14, 0), (2, 36, 0, 15, 1), (2, 40, 0, 16, 1), (2, 44, 0, 24, 1), (2, 47, 0, 26, 1), (2, 50, 0, 23, 1), (2, 53, 0, 17, 1), (2, 56, 0, 25, 1), (2, 59, 0, 18, 1), (2, 62, 0, 22, 0), (2, 71, 0, 1, 0), (2, 76, 0, 19, 2), (2, 79, 0, 2, 2), (2, 83, 0, 32, 0), (2, 86, 0, 34, 1), (2, 99, 0, 35, 3), (2, 103, 2, 73, 1), (3, 15, 3, 13, 0), (3, 18, 3, 0, 0), (3, 31, 3, 9, 0), (3, 37, 0, 67, 1), (3, 41, 0, 37, 1), (3, 45, 0, 74, 3), (3, 49, 0, 75, 3), (3, 52, 0, 28, 1), (3, 55, 1, 69, 1), (3, 59, 1, 70, 1), (3, 62, 0, 10, 1), (3, 66, 0, 12, 2), (3, 70, 0, 29, 1), (3, 73, 0, 32, 0), (3, 87, 0, 76, 2), (3, 92, 0, 31, 1), (3, 96, 0, 3, 2), (3, 100, 1, 71, 2), (3, 104, 0, 33, 2), (3, 108, 0, 20, 0), (3, 112, 0, 4, 2), (3, 115, 0, 7, 1), (3, 119, 0, 14, 0), (3, 125, 0, 21, 0), (3, 137, 1, 68, 2), (3, 141, 0, 15, 1), (3, 151, 0, 27, 1), (3, 164, 0, 25, 1), (3, 167, 0, 26, 1), (3, 170, 0, 24, 1), (3, 173, 0, 30, 0), (3, 187, 0, 8, 0), (3, 190, 1, 72, 1), (3, 195, 0, 1, 0), (3, 198, 0, 2, 2), (3, 208, 0, 5, 3), (4, 35, 1, 79, 3), (4, 39, 1, 84, 1), (4, 44, 0, 83, 1), (4, 47, 0, 88, 1), (4, 51, 0, 90, 1), (4, 55, 0, 91, 2), (4, 59, 1, 87, 1), (4, 62, 0, 85, 1), (4, 65, 1, 86, 2), (4, 69, 1, 80, 1), (4, 72, 0, 82, 2), (4, 76, 0, 94, 3), (4, 79, 1, 81, 1), (4, 82, 0, 100, 2), (4, 85, 0, 89, 1), (4, 88, 0, 114, 2), (4, 91, 0, 92, 2), (5, 7, 0, 38, 2), (5, 17, 0, 39, 2), (5, 21, 0, 40, 2), (5, 24, 0, 41, 3), (5, 30, 0, 42, 3), (5, 33, 0, 43, 2), (5, 36, 0, 44, 2), (5, 39, 0, 45, 2), (5, 42, 0, 46, 1), (5, 46, 0, 47, 1), (5, 50, 0, 48, 1), (5, 53, 0, 49, 2), (5, 56, 0, 50, 2), (5, 59, 0, 51, 2), (5, 62, 0, 52, 1), (5, 65, 0, 53, 1), (5, 68, 0, 54, 1), (5, 71, 0, 55, 1), (5, 74, 0, 56, 2), (5, 77, 0, 57, 2), (5, 80, 0, 58, 2), (5, 83, 0, 59, 2), (5, 86, 0, 60, 2), (5, 89, 0, 61, 2), (5, 92, 0, 62, 2), (5, 95, 0, 63, 2), (5, 98, 0, 64, 2), (5, 101, 0, 65, 2), (5, 104, 0, 66, 1), (5, 107, 3, 36, 0), (5, 110, 3, 77, 0), (5, 111, 0, 37, 1), (5, 114, 0, 93, 1), (5, 115, 1, 125, 4), (5, 120, 0, 95, 2), (5, 121, 0, 78, 0), (5, 125, 1, 126, 4), (5, 127, 0, 96, 2), (5, 128, 1, 127, 4), (5, 130, 0, 97, 2), (5, 131, 1, 128, 5), (5, 134, 0, 98, 3), (5, 135, 1, 129, 5), (5, 137, 0, 99, 3), (5, 138, 1, 130, 4), (5, 140, 0, 100, 2), (5, 141, 1, 131, 4), (5, 143, 0, 101, 2), (5, 144, 1, 132, 4), (5, 146, 0, 102, 2), (5, 147, 1, 133, 2), (5, 150, 0, 103, 1), (5, 151, 1, 134, 3), (5, 154, 0, 104, 1), (5, 155, 1, 135, 3), (5, 157, 0, 105, 1), (5, 158, 1, 136, 4), (5, 160, 0, 106, 2), (5, 161, 1, 137, 4), (5, 163, 0, 107, 2), (5, 164, 1, 138, 4), (5, 166, 0, 108, 2), (5, 167, 1, 139, 3), (5, 169, 0, 109, 1), (5, 170, 1, 140, 3), (5, 172, 0, 110, 1), (5, 173, 1, 141, 3), (5, 175, 0, 111, 1), (5, 176, 1, 142, 3), (5, 178, 0, 112, 1), (5, 179, 1, 143, 4), (5, 181, 0, 113, 2), (5, 182, 1, 144, 4), (5, 184, 0, 115, 2), (5, 185, 1, 145, 4), (5, 187, 0, 116, 2), (5, 188, 1, 146, 4), (5, 190, 0, 117, 2), (5, 191, 1, 147, 4), (5, 193, 0, 118, 2), (5, 194, 1, 148, 4), (5, 196, 0, 119, 2), (5, 197, 1, 149, 4), (5, 199, 0, 120, 2), (5, 200, 1, 150, 4), (5, 202, 0, 121, 2), (5, 203, 1, 151, 4), (5, 205, 0, 122, 2), (5, 206, 1, 152, 4), (5, 208, 0, 123, 2), (5, 209, 1, 153, 3), (5, 211, 0, 124, 1)]
def amObjL : List (Nat × Nat) := [(0, 3), (1, 3), (2, 3), (3, 3), (4, 1)]
def amMthL : List (Nat × Nat × Nat) := [(0, 33, 5), (2, 65, 4), (2, 106, 5), (3, 202, 5)]
def amRm : List (Nat × Nat × Nat) := [(1, 1, 21), (1, 0, 0), (4, 0, 0), (6, 1, 23), (6, 1, 23), (6, 1, 23), (4, 0, 0), (3, 0, 0), (3, 1, 20), (1, 1, 21), (6, 4, 86), (3, 3, 64), (7, 1, 21), (1, 1, 21), (1, 0, 0), (2, 0, 0), (2, 1, 20), (2, 0, 0), (2, 0, 0), (3, 0, 0), (3, 1, 21), (3, 1, 20), (2, 1, 21), (4, 2, 41), (4, 2, 41), (5, 3, 64), (3, 2, 41), (5, 3, 64), (8, 4, 88), (6, 4, 88), (6, 2, 42), (6, 4, 88), (2, 0, 0), (5, 3, 68), (4, 1, 21), (8, 2, 41), (2, 2, 41), (2, 0, 0), (4, 8, 138), (4, 7, 139), (4, 7, 115), (5, 8, 138), (5, 7, 139), (4, 7, 115), (4, 7, 111), (4, 7, 113), (2, 7, 111), (3, 8, 135), (3, 8, 135), (5, 7, 113), (5, 7, 113), (5, 7, 113), (2, 7, 111), (2, 7, 111), (2, 7, 113), (2, 7, 111), (3, 7, 113), (4, 7, 111), (4, 7, 111), (4, 7, 111), (4, 7, 111), (4, 7, 111), (4, 7, 111), (4, 7, 111), (5, 7, 111), (4, 7, 111), (2, 7, 111), (2, 6, 90), (2, 6, 90), (1, 6, 90), (1, 6, 90), (2, 6, 90), (1, 0, 0), (1, 0, 0), (4, 7, 115), (5, 5, 115), (3, 7, 113), (2, 1, 21), (1, 0, 0), (3, 0, 0), (1, 1, 22), (1, 1, 22), (3, 0, 0), (2, 0, 0), (1, 0, 0), (4, 1, 20), (2, 0, 0), (1, 0, 0), (6, 0, 0), (8, 1, 25), (2, 0, 0), (3, 0, 0), (3, 1, 22), (2, 1, 20), (7, 2, 43), (4, 3, 69), (4, 3, 69), (3, 2, 42), (5, 3, 69), (6, 2, 42), (3, 2, 42), (3, 3, 64), (8, 2, 42), (4, 2, 42), (3, 2, 42), (3, 2, 43), (5, 2, 42), (5, 2, 43), (5, 2, 42), (2, 2, 42), (2, 2, 43), (5, 2, 42), (5, 2, 42), (7, 2, 42), (3, 2, 52), (3, 3, 74), (3, 3, 74), (3, 3, 74), (3, 3, 74), (3, 3, 74), (3, 3, 74), (3, 3, 74), (3, 3, 74), (4, 3, 74), (6, 3, 74), (5, 9, 161), (5, 8, 162), (5, 8, 138), (6, 9, 162), (6, 8, 163), (5, 8, 138), (5, 8, 134), (5, 8, 136), (3, 8, 132), (4, 9, 157), (4, 9, 157), (5, 8, 137), (5, 8, 137), (5, 8, 137), (4, 8, 132), (4, 8, 132), (4, 8, 134), (4, 8, 132), (5, 8, 135), (5, 8, 134), (5, 8, 134), (5, 8, 134), (5, 8, 134), (5, 8, 134), (5, 8, 134), (5, 8, 134), (5, 8, 135), (5, 8, 134), (4, 8, 132), (7, 10, 188)]
def amThrL : List (Nat × Nat × Nat × Nat × Nat) := [(3, 80, 2, 82, 84), (3, 80, 2, 90, 84), (3, 128, 1, 130, 132), (3, 128, 1, 176, 132), (3, 128, 1, 178, 132), (3, 180, 3, 182, 184), (3, 180, 3, 185, 184), (3, 80, 2, 193, 84)]
def amRoomOk (r : amRow) (tg : Nat) : Bool := match amRm[tg]? with
  | some (mL, f, l) => decide (f + 1 ≤ r.2.2.2.2.2.2.1) && decide (8 + (mL + 11) + l ≤ r.2.2.2.2.2.2.2)
  | none => false
def amFinal (ci k : Nat) : Bool := (amTT ci k).2.2.2
def amChk (r : amRow) (q : amEnt) : Bool := match q with
  | (pc, i, len, x) => match i with
    | .iconst _ | .lconst _ | .iload_n _ | .aload_n _ | .iadd | .isub | .imul | .iand | .ior | .idiv | .irem | .ishl | .ishr | .iushr | .i2l | .lcmp | .dup | .dup2 | .arraylength | .iaload | .baload | .laload | .aaload | .iastore | .bastore | .lastore | .aastore | .ireturn => decide (len = 1)
    | .bipush _ | .iload _ | .aload _ => decide (len = 2)
    | .sipush _ => decide (len = 3)
    | .ldc k => decide (len = 2) && (decide (x.2.2 ≠ -1640531527) || decide (r.1 = 3 ∧ k = 36) || decide (r.1 = 4 ∧ k = 43))
    | .istore k | .astore k => decide (len = 2) && decide (k < r.2.2.2.1)
    | .istore_n k | .astore_n k => decide (len = 1) && decide ((k : Nat) < r.2.2.2.1)
    | .iinc k _ => decide (len = 3) && decide (k < r.2.2.2.1)
    | .ifCond _ off | .if_icmp _ off | .goto off => decide (len = 3) && decide (0 ≤ (pc : Int) + off)
    | .tableswitch d _ _ offs => decide (0 ≤ (pc : Int) + d) && offs.all (fun off => decide (0 ≤ (pc : Int) + off))
    | .getfield k => decide (len = 3) && decide ((r.1, k, x.1, x.2.1) ∈ amFldL)
    | .putfield k => decide (len = 3) && decide ((r.1, k, x.1, x.2.1) ∈ amFldL) && (!(amFinal x.1 x.2.1) || (decide (r.2.1.name = "<init>") && decide (r.1 = x.1)))
    | .areturn => decide (len = 1) && (match r.2.2.2.2.1 with
      | some (.object _) => true
      | _ => false)
    | .return_ => decide (len = 1) && (match r.2.2.2.2.1 with
      | none => true
      | _ => false)
    | .new k => decide (len = 3) && (decide (x.1 = 1) || decide ((r.1, k, x.2.1) ∈ amClsL))
    | .newarray _ => decide (len = 2)
    | .anewarray k => decide (len = 3) && decide ((r.1, k, x.2.1) ∈ amClsL)
    | .invokevirtual k => decide (len = 3) && decide (x.1 = 0) && decide (0 ≤ x.2.2) && decide ((r.1, k, x.1, x.2.1, x.2.2.toNat) ∈ amLnkL) && amRoomOk r x.2.1
    | .invokestatic k => decide (len = 3) && ((decide (x.1 = 1 ∨ x.1 = 2) && decide (0 ≤ x.2.2) && decide ((r.1, k, x.1, x.2.1, x.2.2.toNat) ∈ amLnkL) && amRoomOk r x.2.1) || (decide (x.1 = 4 ∨ x.1 = 5) && decide ((r.1, k, x.1) ∈ amMthL) && decide (1 ≤ r.2.2.2.2.2.2.1) && decide (21 ≤ r.2.2.2.2.2.2.2)))
    | .invokespecial k => decide (len = 3) && ((decide (x.1 = 3) && decide (0 ≤ x.2.2) && decide ((r.1, k, x.1, x.2.1, x.2.2.toNat) ∈ amLnkL) && amRoomOk r x.2.1) || (decide (x.1 = 6) && decide ((r.1, k) ∈ amObjL) && decide (1 ≤ r.2.2.2.2.2.2.1) && decide (21 ≤ r.2.2.2.2.2.2.2)) || decide (x.1 = 9))
    | _ => true
def amChkK (r : amRow) (l : List amEnt) : Prop := l.all (amChk r) = true
theorem amH0 : ∀ l ∈ amC0, amChkK amR0 l := List.forall_mem_cons.mpr ⟨(by unfold amChkK; decide +kernel), fun _ h => absurd h List.not_mem_nil⟩
theorem amH1 : ∀ l ∈ amC1, amChkK amR1 l := List.forall_mem_cons.mpr ⟨(by unfold amChkK; decide +kernel), fun _ h => absurd h List.not_mem_nil⟩
theorem amH2 : ∀ l ∈ amC2, amChkK amR2 l := List.forall_mem_cons.mpr ⟨(by unfold amChkK; decide +kernel), List.forall_mem_cons.mpr ⟨(by unfold amChkK; decide +kernel), fun _ h => absurd h List.not_mem_nil⟩⟩
theorem amH3 : ∀ l ∈ amC3, amChkK amR3 l := List.forall_mem_cons.mpr ⟨(by unfold amChkK; decide +kernel), List.forall_mem_cons.mpr ⟨(by unfold amChkK; decide +kernel), fun _ h => absurd h List.not_mem_nil⟩⟩
theorem amH4 : ∀ l ∈ amC4, amChkK amR4 l := List.forall_mem_cons.mpr ⟨(by unfold amChkK; decide +kernel), List.forall_mem_cons.mpr ⟨(by unfold amChkK; decide +kernel), fun _ h => absurd h List.not_mem_nil⟩⟩
theorem amH5 : ∀ l ∈ amC5, amChkK amR5 l := List.forall_mem_cons.mpr ⟨(by unfold amChkK; decide +kernel), fun _ h => absurd h List.not_mem_nil⟩
theorem amH6 : ∀ l ∈ amC6, amChkK amR6 l := List.forall_mem_cons.mpr ⟨(by unfold amChkK; decide +kernel), fun _ h => absurd h List.not_mem_nil⟩
theorem amH7 : ∀ l ∈ amC7, amChkK amR7 l := List.forall_mem_cons.mpr ⟨(by unfold amChkK; decide +kernel), fun _ h => absurd h List.not_mem_nil⟩
theorem amH8 : ∀ l ∈ amC8, amChkK amR8 l := List.forall_mem_cons.mpr ⟨(by unfold amChkK; decide +kernel), fun _ h => absurd h List.not_mem_nil⟩
theorem amH9 : ∀ l ∈ amC9, amChkK amR9 l := List.forall_mem_cons.mpr ⟨(by unfold amChkK; decide +kernel), fun _ h => absurd h List.not_mem_nil⟩
theorem amH10 : ∀ l ∈ amC10, amChkK amR10 l := List.forall_mem_cons.mpr ⟨(by unfold amChkK; decide +kernel), List.forall_mem_cons.mpr ⟨(by unfold amChkK; decide +kernel), fun _ h => absurd h List.not_mem_nil⟩⟩
theorem amH11 : ∀ l ∈ amC11, amChkK amR11 l := List.forall_mem_cons.mpr ⟨(by unfold amChkK; decide +kernel), fun _ h => absurd h List.not_mem_nil⟩
theorem amH12 : ∀ l ∈ amC12, amChkK amR12 l := List.forall_mem_cons.mpr ⟨(by unfold amChkK; decide +kernel), List.forall_mem_cons.mpr ⟨(by unfold amChkK; decide +kernel), fun _ h => absurd h List.not_mem_nil⟩⟩
theorem amH13 : ∀ l ∈ amC13, amChkK amR13 l := List.forall_mem_cons.mpr ⟨(by unfold amChkK; decide +kernel), fun _ h => absurd h List.not_mem_nil⟩
theorem amH14 : ∀ l ∈ amC14, amChkK amR14 l := List.forall_mem_cons.mpr ⟨(by unfold amChkK; decide +kernel), fun _ h => absurd h List.not_mem_nil⟩
theorem amH15 : ∀ l ∈ amC15, amChkK amR15 l := List.forall_mem_cons.mpr ⟨(by unfold amChkK; decide +kernel), fun _ h => absurd h List.not_mem_nil⟩
theorem amH16 : ∀ l ∈ amC16, amChkK amR16 l := List.forall_mem_cons.mpr ⟨(by unfold amChkK; decide +kernel), fun _ h => absurd h List.not_mem_nil⟩
theorem amH17 : ∀ l ∈ amC17, amChkK amR17 l := List.forall_mem_cons.mpr ⟨(by unfold amChkK; decide +kernel), fun _ h => absurd h List.not_mem_nil⟩
theorem amH18 : ∀ l ∈ amC18, amChkK amR18 l := List.forall_mem_cons.mpr ⟨(by unfold amChkK; decide +kernel), fun _ h => absurd h List.not_mem_nil⟩
theorem amH19 : ∀ l ∈ amC19, amChkK amR19 l := List.forall_mem_cons.mpr ⟨(by unfold amChkK; decide +kernel), fun _ h => absurd h List.not_mem_nil⟩
theorem amH20 : ∀ l ∈ amC20, amChkK amR20 l := List.forall_mem_cons.mpr ⟨(by unfold amChkK; decide +kernel), fun _ h => absurd h List.not_mem_nil⟩
theorem amH21 : ∀ l ∈ amC21, amChkK amR21 l := List.forall_mem_cons.mpr ⟨(by unfold amChkK; decide +kernel), fun _ h => absurd h List.not_mem_nil⟩
theorem amH22 : ∀ l ∈ amC22, amChkK amR22 l := List.forall_mem_cons.mpr ⟨(by unfold amChkK; decide +kernel), fun _ h => absurd h List.not_mem_nil⟩
theorem amH23 : ∀ l ∈ amC23, amChkK amR23 l := List.forall_mem_cons.mpr ⟨(by unfold amChkK; decide +kernel), fun _ h => absurd h List.not_mem_nil⟩
theorem amH24 : ∀ l ∈ amC24, amChkK amR24 l := List.forall_mem_cons.mpr ⟨(by unfold amChkK; decide +kernel), fun _ h => absurd h List.not_mem_nil⟩
theorem amH25 : ∀ l ∈ amC25, amChkK amR25 l := List.forall_mem_cons.mpr ⟨(by unfold amChkK; decide +kernel), fun _ h => absurd h List.not_mem_nil⟩
theorem amH26 : ∀ l ∈ amC26, amChkK amR26 l := List.forall_mem_cons.mpr ⟨(by unfold amChkK; decide +kernel), fun _ h => absurd h List.not_mem_nil⟩
theorem amH27 : ∀ l ∈ amC27, amChkK amR27 l := List.forall_mem_cons.mpr ⟨(by unfold amChkK; decide +kernel), fun _ h => absurd h List.not_mem_nil⟩
theorem amH28 : ∀ l ∈ amC28, amChkK amR28 l := List.forall_mem_cons.mpr ⟨(by unfold amChkK; decide +kernel), List.forall_mem_cons.mpr ⟨(by unfold amChkK; decide +kernel), fun _ h => absurd h List.not_mem_nil⟩⟩
theorem amH29 : ∀ l ∈ amC29, amChkK amR29 l := List.forall_mem_cons.mpr ⟨(by unfold amChkK; decide +kernel), List.forall_mem_cons.mpr ⟨(by unfold amChkK; decide +kernel), fun _ h => absurd h List.not_mem_nil⟩⟩
theorem amH30 : ∀ l ∈ amC30, amChkK amR30 l := List.forall_mem_cons.mpr ⟨(by unfold amChkK; decide +kernel), List.forall_mem_cons.mpr ⟨(by unfold amChkK; decide +kernel), fun _ h => absurd h List.not_mem_nil⟩⟩
theorem amH31 : ∀ l ∈ amC31, amChkK amR31 l := List.forall_mem_cons.mpr ⟨(by unfold amChkK; decide +kernel), List.forall_mem_cons.mpr ⟨(by unfold amChkK; decide +kernel), fun _ h => absurd h List.not_mem_nil⟩⟩
theorem amH32 : ∀ l ∈ amC32, amChkK amR32 l := List.forall_mem_cons.mpr ⟨(by unfold amChkK; decide +kernel), fun _ h => absurd h List.not_mem_nil⟩
theorem amH33 : ∀ l ∈ amC33, amChkK amR33 l := List.forall_mem_cons.mpr ⟨(by unfold amChkK; decide +kernel), List.forall_mem_cons.mpr ⟨(by unfold amChkK; decide +kernel), fun _ h => absurd h List.not_mem_nil⟩⟩
theorem amH34 : ∀ l ∈ amC34, amChkK amR34 l := List.forall_mem_cons.mpr ⟨(by unfold amChkK; decide +kernel), fun _ h => absurd h List.not_mem_nil⟩
theorem amH35 : ∀ l ∈ amC35, amChkK amR35 l := List.forall_mem_cons.mpr ⟨(by unfold amChkK; decide +kernel), List.forall_mem_cons.mpr ⟨(by unfold amChkK; decide +kernel), fun _ h => absurd h List.not_mem_nil⟩⟩
theorem amH36 : ∀ l ∈ amC36, amChkK amR36 l := List.forall_mem_cons.mpr ⟨(by unfold amChkK; decide +kernel), List.forall_mem_cons.mpr ⟨(by unfold amChkK; decide +kernel), fun _ h => absurd h List.not_mem_nil⟩⟩
theorem amH37 : ∀ l ∈ amC37, amChkK amR37 l := List.forall_mem_cons.mpr ⟨(by unfold amChkK; decide +kernel), fun _ h => absurd h List.not_mem_nil⟩
theorem amH38 : ∀ l ∈ amC38, amChkK amR38 l := List.forall_mem_cons.mpr ⟨(by unfold amChkK; decide +kernel), fun _ h => absurd h List.not_mem_nil⟩
theorem amH39 : ∀ l ∈ amC39, amChkK amR39 l := List.forall_mem_cons.mpr ⟨(by unfold amChkK; decide +kernel), fun _ h => absurd h List.not_mem_nil⟩
theorem amH40 : ∀ l ∈ amC40, amChkK amR40 l := List.forall_mem_cons.mpr ⟨(by unfold amChkK; decide +kernel), fun _ h => absurd h List.not_mem_nil⟩
theorem amH41 : ∀ l ∈ amC41, amChkK amR41 l := List.forall_mem_cons.mpr ⟨(by unfold amChkK; decide +kernel), fun _ h => absurd h List.not_mem_nil⟩
theorem amH42 : ∀ l ∈ amC42, amChkK amR42 l := List.forall_mem_cons.mpr ⟨(by unfold amChkK; decide +kernel), fun _ h => absurd h List.not_mem_nil⟩
theorem amH43 : ∀ l ∈ amC43, amChkK amR43 l := List.forall_mem_cons.mpr ⟨(by unfold amChkK; decide +kernel), fun _ h => absurd h List.not_mem_nil⟩
theorem amH44 : ∀ l ∈ amC44, amChkK amR44 l := List.forall_mem_cons.mpr ⟨(by unfold amChkK; decide +kernel), fun _ h => absurd h List.not_mem_nil⟩
theorem amH45 : ∀ l ∈ amC45, amChkK amR45 l := List.forall_mem_cons.mpr ⟨(by unfold amChkK; decide +kernel), fun _ h => absurd h List.not_mem_nil⟩
theorem amH46 : ∀ l ∈ amC46, amChkK amR46 l := List.forall_mem_cons.mpr ⟨(by unfold amChkK; decide +kernel), fun _ h => absurd h List.not_mem_nil⟩
theorem amH47 : ∀ l ∈ amC47, amChkK amR47 l := List.forall_mem_cons.mpr ⟨(by unfold amChkK; decide +kernel), fun _ h => absurd h List.not_mem_nil⟩
theorem amH48 : ∀ l ∈ amC48, amChkK amR48 l := List.forall_mem_cons.mpr ⟨(by unfold amChkK; decide +kernel), fun _ h => absurd h List.not_mem_nil⟩
theorem amH49 : ∀ l ∈ amC49, amChkK amR49 l := List.forall_mem_cons.mpr ⟨(by unfold amChkK; decide +kernel), List.forall_mem_cons.mpr ⟨(by unfold amChkK; decide +kernel), fun _ h => absurd h List.not_mem_nil⟩⟩
theorem amH50 : ∀ l ∈ amC50, amChkK amR50 l := List.forall_mem_cons.mpr ⟨(by unfold amChkK; decide +kernel), fun _ h => absurd h List.not_mem_nil⟩
theorem amH51 : ∀ l ∈ amC51, amChkK amR51 l := List.forall_mem_cons.mpr ⟨(by unfold amChkK; decide +kernel), fun _ h => absurd h List.not_mem_nil⟩
theorem amH52 : ∀ l ∈ amC52, amChkK amR52 l := List.forall_mem_cons.mpr ⟨(by unfold amChkK; decide +kernel), fun _ h => absurd h List.not_mem_nil⟩
theorem amH53 : ∀ l ∈ amC53, amChkK amR53 l := List.forall_mem_cons.mpr ⟨(by unfold amChkK; decide +kernel), fun _ h => absurd h List.not_mem_nil⟩
theorem amH54 : ∀ l ∈ amC54, amChkK amR54 l := List.forall_mem_cons.mpr ⟨(by unfold amChkK; decide +kernel), fun _ h => absurd h List.not_mem_nil⟩
theorem amH55 : ∀ l ∈ amC55, amChkK amR55 l := List.forall_mem_cons.mpr ⟨(by unfold amChkK; decide +kernel), fun _ h => absurd h List.not_mem_nil⟩
theorem amH56 : ∀ l ∈ amC56, amChkK amR56 l := List.forall_mem_cons.mpr ⟨(by unfold amChkK; decide +kernel), fun _ h => absurd h List.not_mem_nil⟩
theorem amH57 : ∀ l ∈ amC57, amChkK amR57 l := List.forall_mem_cons.mpr ⟨(by unfold amChkK; decide +kernel), fun _ h => absurd h List.not_mem_nil⟩
theorem amH58 : ∀ l ∈ amC58, amChkK amR58 l := List.forall_mem_cons.mpr ⟨(by unfold amChkK; decide +kernel), fun _ h => absurd h List.not_mem_nil⟩
theorem amH59 : ∀ l ∈ amC59, amChkK amR59 l := List.forall_mem_cons.mpr ⟨(by unfold amChkK; decide +kernel), fun _ h => absurd h List.not_mem_nil⟩
theorem amH60 : ∀ l ∈ amC60, amChkK amR60 l := List.forall_mem_cons.mpr ⟨(by unfold amChkK; decide +kernel), fun _ h => absurd h List.not_mem_nil⟩
theorem amH61 : ∀ l ∈ amC61, amChkK amR61 l := List.forall_mem_cons.mpr ⟨(by unfold amChkK; decide +kernel), fun _ h => absurd h List.not_mem_nil⟩
theorem amH62 : ∀ l ∈ amC62, amChkK amR62 l := List.forall_mem_cons.mpr ⟨(by unfold amChkK; decide +kernel), fun _ h => absurd h List.not_mem_nil⟩
theorem amH63 : ∀ l ∈ amC63, amChkK amR63 l := List.forall_mem_cons.mpr ⟨(by unfold amChkK; decide +kernel), fun _ h => absurd h List.not_mem_nil⟩
theorem amH64 : ∀ l ∈ amC64, amChkK amR64 l := List.forall_mem_cons.mpr ⟨(by unfold amChkK; decide +kernel), fun _ h => absurd h List.not_mem_nil⟩
theorem amH65 : ∀ l ∈ amC65, amChkK amR65 l := List.forall_mem_cons.mpr ⟨(by unfold amChkK; decide +kernel), fun _ h => absurd h List.not_mem_nil⟩
theorem amH66 : ∀ l ∈ amC66, amChkK amR66 l := List.forall_mem_cons.mpr ⟨(by unfold amChkK; decide +kernel), fun _ h => absurd h List.not_mem_nil⟩
theorem amH67 : ∀ l ∈ amC67, amChkK amR67 l := List.forall_mem_cons.mpr ⟨(by unfold amChkK; decide +kernel), fun _ h => absurd h List.not_mem_nil⟩
theorem amH68 : ∀ l ∈ amC68, amChkK amR68 l := List.forall_mem_cons.mpr ⟨(by unfold amChkK; decide +kernel), fun _ h => absurd h List.not_mem_nil⟩
theorem amH69 : ∀ l ∈ amC69, amChkK amR69 l := List.forall_mem_cons.mpr ⟨(by unfold amChkK; decide +kernel), fun _ h => absurd h List.not_mem_nil⟩
theorem amH70 : ∀ l ∈ amC70, amChkK amR70 l := List.forall_mem_cons.mpr ⟨(by unfold amChkK; decide +kernel), fun _ h => absurd h List.not_mem_nil⟩
theorem amH71 : ∀ l ∈ amC71, amChkK amR71 l := List.forall_mem_cons.mpr ⟨(by unfold amChkK; decide +kernel), fun _ h => absurd h List.not_mem_nil⟩
theorem amH72 : ∀ l ∈ amC72, amChkK amR72 l := List.forall_mem_cons.mpr ⟨(by unfold amChkK; decide +kernel), fun _ h => absurd h List.not_mem_nil⟩
theorem amH73 : ∀ l ∈ amC73, amChkK amR73 l := List.forall_mem_cons.mpr ⟨(by unfold amChkK; decide +kernel), fun _ h => absurd h List.not_mem_nil⟩
theorem amH74 : ∀ l ∈ amC74, amChkK amR74 l := List.forall_mem_cons.mpr ⟨(by unfold amChkK; decide +kernel), List.forall_mem_cons.mpr ⟨(by unfold amChkK; decide +kernel), fun _ h => absurd h List.not_mem_nil⟩⟩
theorem amH75 : ∀ l ∈ amC75, amChkK amR75 l := List.forall_mem_cons.mpr ⟨(by unfold amChkK; decide +kernel), fun _ h => absurd h List.not_mem_nil⟩
theorem amH76 : ∀ l ∈ amC76, amChkK amR76 l := List.forall_mem_cons.mpr ⟨(by unfold amChkK; decide +kernel), fun _ h => absurd h List.not_mem_nil⟩
theorem amH77 : ∀ l ∈ amC77, amChkK amR77 l := List.forall_mem_cons.mpr ⟨(by unfold amChkK; decide +kernel), List.forall_mem_cons.mpr ⟨(by unfold amChkK; decide +kernel), fun _ h => absurd h List.not_mem_nil⟩⟩
theorem amH78 : ∀ l ∈ amC78, amChkK amR78 l := List.forall_mem_cons.mpr ⟨(by unfold amChkK; decide +kernel), fun _ h => absurd h List.not_mem_nil⟩
theorem amH79 : ∀ l ∈ amC79, amChkK amR79 l := List.forall_mem_cons.mpr ⟨(by unfold amChkK; decide +kernel), fun _ h => absurd h List.not_mem_nil⟩
theorem amH80 : ∀ l ∈ amC80, amChkK amR80 l := List.forall_mem_cons.mpr ⟨(by unfold amChkK; decide +kernel), fun _ h => absurd h List.not_mem_nil⟩
theorem amH81 : ∀ l ∈ amC81, amChkK amR81 l := List.forall_mem_cons.mpr ⟨(by unfold amChkK; decide +kernel), fun _ h => absurd h List.not_mem_nil⟩
theorem amH82 : ∀ l ∈ amC82, amChkK amR82 l := List.forall_mem_cons.mpr ⟨(by unfold amChkK; decide +kernel), fun _ h => absurd h List.not_mem_nil⟩
theorem amH83 : ∀ l ∈ amC83, amChkK amR83 l := List.forall_mem_cons.mpr ⟨(by unfold amChkK; decide +kernel), fun _ h => absurd h List.not_mem_nil⟩
theorem amH84 : ∀ l ∈ amC84, amChkK amR84 l := List.forall_mem_cons.mpr ⟨(by unfold amChkK; decide +kernel), fun _ h => absurd h List.not_mem_nil⟩
theorem amH85 : ∀ l ∈ amC85, amChkK amR85 l := List.forall_mem_cons.mpr ⟨(by unfold amChkK; decide +kernel), fun _ h => absurd h List.not_mem_nil⟩
theorem amH86 : ∀ l ∈ amC86, amChkK amR86 l := List.forall_mem_cons.mpr ⟨(by unfold amChkK; decide +kernel), fun _ h => absurd h List.not_mem_nil⟩
theorem amH87 : ∀ l ∈ amC87, amChkK amR87 l := List.forall_mem_cons.mpr ⟨(by unfold amChkK; decide +kernel), fun _ h => absurd h List.not_mem_nil⟩
theorem amH88 : ∀ l ∈ amC88, amChkK amR88 l := List.forall_mem_cons.mpr ⟨(by unfold amChkK; decide +kernel), List.forall_mem_cons.mpr ⟨(by unfold amChkK; decide +kernel), fun _ h => absurd h List.not_mem_nil⟩⟩
theorem amH89 : ∀ l ∈ amC89, amChkK amR89 l := List.forall_mem_cons.mpr ⟨(by unfold amChkK; decide +kernel), List.forall_mem_cons.mpr ⟨(by unfold amChkK; decide +kernel), List.forall_mem_cons.mpr ⟨(by unfold amChkK; decide +kernel), List.forall_mem_cons.mpr ⟨(by unfold amChkK; decide +kernel), fun _ h => absurd h List.not_mem_nil⟩⟩⟩⟩
theorem amH90 : ∀ l ∈ amC90, amChkK amR90 l := List.forall_mem_cons.mpr ⟨(by unfold amChkK; decide +kernel), fun _ h => absurd h List.not_mem_nil⟩
theorem amH91 : ∀ l ∈ amC91, amChkK amR91 l := List.forall_mem_cons.mpr ⟨(by unfold amChkK; decide +kernel), fun _ h => absurd h List.not_mem_nil⟩
theorem amH92 : ∀ l ∈ amC92, amChkK amR92 l := List.forall_mem_cons.mpr ⟨(by unfold amChkK; decide +kernel), fun _ h => absurd h List.not_mem_nil⟩
theorem amH93 : ∀ l ∈ amC93, amChkK amR93 l := List.forall_mem_cons.mpr ⟨(by unfold amChkK; decide +kernel), fun _ h => absurd h List.not_mem_nil⟩
theorem amH94 : ∀ l ∈ amC94, amChkK amR94 l := List.forall_mem_cons.mpr ⟨(by unfold amChkK; decide +kernel), List.forall_mem_cons.mpr ⟨(by unfold amChkK; decide +kernel), fun _ h => absurd h List.not_mem_nil⟩⟩
theorem amH95 : ∀ l ∈ amC95, amChkK amR95 l := List.forall_mem_cons.mpr ⟨(by unfold amChkK; decide +kernel), List.forall_mem_cons.mpr ⟨(by unfold amChkK; decide +kernel), fun _ h => absurd h List.not_mem_nil⟩⟩
theorem amH96 : ∀ l ∈ amC96, amChkK amR96 l := List.forall_mem_cons.mpr ⟨(by unfold amChkK; decide +kernel), fun _ h => absurd h List.not_mem_nil⟩
theorem amH97 : ∀ l ∈ amC97, amChkK amR97 l := List.forall_mem_cons.mpr ⟨(by unfold amChkK; decide +kernel), fun _ h => absurd h List.not_mem_nil⟩
theorem amH98 : ∀ l ∈ amC98, amChkK amR98 l := List.forall_mem_cons.mpr ⟨(by unfold amChkK; decide +kernel), List.forall_mem_cons.mpr ⟨(by unfold amChkK; decide +kernel), fun _ h => absurd h List.not_mem_nil⟩⟩
theorem amH99 : ∀ l ∈ amC99, amChkK amR99 l := List.forall_mem_cons.mpr ⟨(by unfold amChkK; decide +kernel), List.forall_mem_cons.mpr ⟨(by unfold amChkK; decide +kernel), fun _ h => absurd h List.not_mem_nil⟩⟩
theorem amH100 : ∀ l ∈ amC100, amChkK amR100 l := List.forall_mem_cons.mpr ⟨(by unfold amChkK; decide +kernel), fun _ h => absurd h List.not_mem_nil⟩
theorem amH101 : ∀ l ∈ amC101, amChkK amR101 l := List.forall_mem_cons.mpr ⟨(by unfold amChkK; decide +kernel), fun _ h => absurd h List.not_mem_nil⟩
theorem amH102 : ∀ l ∈ amC102, amChkK amR102 l := List.forall_mem_cons.mpr ⟨(by unfold amChkK; decide +kernel), List.forall_mem_cons.mpr ⟨(by unfold amChkK; decide +kernel), List.forall_mem_cons.mpr ⟨(by unfold amChkK; decide +kernel), fun _ h => absurd h List.not_mem_nil⟩⟩⟩
theorem amH103 : ∀ l ∈ amC103, amChkK amR103 l := List.forall_mem_cons.mpr ⟨(by unfold amChkK; decide +kernel), fun _ h => absurd h List.not_mem_nil⟩
theorem amH104 : ∀ l ∈ amC104, amChkK amR104 l := List.forall_mem_cons.mpr ⟨(by unfold amChkK; decide +kernel), fun _ h => absurd h List.not_mem_nil⟩
theorem amH105 : ∀ l ∈ amC105, amChkK amR105 l := List.forall_mem_cons.mpr ⟨(by unfold amChkK; decide +kernel), List.forall_mem_cons.mpr ⟨(by unfold amChkK; decide +kernel), fun _ h => absurd h List.not_mem_nil⟩⟩
theorem amH106 : ∀ l ∈ amC106, amChkK amR106 l := List.forall_mem_cons.mpr ⟨(by unfold amChkK; decide +kernel), List.forall_mem_cons.mpr ⟨(by unfold amChkK; decide +kernel), List.forall_mem_cons.mpr ⟨(by unfold amChkK; decide +kernel), fun _ h => absurd h List.not_mem_nil⟩⟩⟩
theorem amH107 : ∀ l ∈ amC107, amChkK amR107 l := List.forall_mem_cons.mpr ⟨(by unfold amChkK; decide +kernel), List.forall_mem_cons.mpr ⟨(by unfold amChkK; decide +kernel), fun _ h => absurd h List.not_mem_nil⟩⟩
theorem amH108 : ∀ l ∈ amC108, amChkK amR108 l := List.forall_mem_cons.mpr ⟨(by unfold amChkK; decide +kernel), List.forall_mem_cons.mpr ⟨(by unfold amChkK; decide +kernel), fun _ h => absurd h List.not_mem_nil⟩⟩
theorem amH109 : ∀ l ∈ amC109, amChkK amR109 l := List.forall_mem_cons.mpr ⟨(by unfold amChkK; decide +kernel), fun _ h => absurd h List.not_mem_nil⟩
theorem amH110 : ∀ l ∈ amC110, amChkK amR110 l := List.forall_mem_cons.mpr ⟨(by unfold amChkK; decide +kernel), fun _ h => absurd h List.not_mem_nil⟩
theorem amH111 : ∀ l ∈ amC111, amChkK amR111 l := List.forall_mem_cons.mpr ⟨(by unfold amChkK; decide +kernel), fun _ h => absurd h List.not_mem_nil⟩
theorem amH112 : ∀ l ∈ amC112, amChkK amR112 l := List.forall_mem_cons.mpr ⟨(by unfold amChkK; decide +kernel), fun _ h => absurd h List.not_mem_nil⟩
theorem amH113 : ∀ l ∈ amC113, amChkK amR113 l := List.forall_mem_cons.mpr ⟨(by unfold amChkK; decide +kernel), List.forall_mem_cons.mpr ⟨(by unfold amChkK; decide +kernel), fun _ h => absurd h List.not_mem_nil⟩⟩
theorem amH114 : ∀ l ∈ amC114, amChkK amR114 l := List.forall_mem_cons.mpr ⟨(by unfold amChkK; decide +kernel), fun _ h => absurd h List.not_mem_nil⟩
theorem amH115 : ∀ l ∈ amC115, amChkK amR115 l := List.forall_mem_cons.mpr ⟨(by unfold amChkK; decide +kernel), fun _ h => absurd h List.not_mem_nil⟩
theorem amH116 : ∀ l ∈ amC116, amChkK amR116 l := List.forall_mem_cons.mpr ⟨(by unfold amChkK; decide +kernel), fun _ h => absurd h List.not_mem_nil⟩
theorem amH117 : ∀ l ∈ amC117, amChkK amR117 l := List.forall_mem_cons.mpr ⟨(by unfold amChkK; decide +kernel), fun _ h => absurd h List.not_mem_nil⟩
theorem amH118 : ∀ l ∈ amC118, amChkK amR118 l := List.forall_mem_cons.mpr ⟨(by unfold amChkK; decide +kernel), fun _ h => absurd h List.not_mem_nil⟩
theorem amH119 : ∀ l ∈ amC119, amChkK amR119 l := List.forall_mem_cons.mpr ⟨(by unfold amChkK; decide +kernel), fun _ h => absurd h List.not_mem_nil⟩
theorem amH120 : ∀ l ∈ amC120, amChkK amR120 l := List.forall_mem_cons.mpr ⟨(by unfold amChkK; decide +kernel), fun _ h => absurd h List.not_mem_nil⟩
theorem amH121 : ∀ l ∈ amC121, amChkK amR121 l := List.forall_mem_cons.mpr ⟨(by unfold amChkK; decide +kernel), fun _ h => absurd h List.not_mem_nil⟩
theorem amH122 : ∀ l ∈ amC122, amChkK amR122 l := List.forall_mem_cons.mpr ⟨(by unfold amChkK; decide +kernel), fun _ h => absurd h List.not_mem_nil⟩
theorem amH123 : ∀ l ∈ amC123, amChkK amR123 l := List.forall_mem_cons.mpr ⟨(by unfold amChkK; decide +kernel), fun _ h => absurd h List.not_mem_nil⟩
theorem amH124 : ∀ l ∈ amC124, amChkK amR124 l := List.forall_mem_cons.mpr ⟨(by unfold amChkK; decide +kernel), List.forall_mem_cons.mpr ⟨(by unfold amChkK; decide +kernel), fun _ h => absurd h List.not_mem_nil⟩⟩
theorem amH125 : ∀ l ∈ amC125, amChkK amR125 l := List.forall_mem_cons.mpr ⟨(by unfold amChkK; decide +kernel), fun _ h => absurd h List.not_mem_nil⟩
theorem amH126 : ∀ l ∈ amC126, amChkK amR126 l := List.forall_mem_cons.mpr ⟨(by unfold amChkK; decide +kernel), fun _ h => absurd h List.not_mem_nil⟩
theorem amH127 : ∀ l ∈ amC127, amChkK amR127 l := List.forall_mem_cons.mpr ⟨(by unfold amChkK; decide +kernel), fun _ h => absurd h List.not_mem_nil⟩
theorem amH128 : ∀ l ∈ amC128, amChkK amR128 l := List.forall_mem_cons.mpr ⟨(by unfold amChkK; decide +kernel), fun _ h => absurd h List.not_mem_nil⟩
theorem amH129 : ∀ l ∈ amC129, amChkK amR129 l := List.forall_mem_cons.mpr ⟨(by unfold amChkK; decide +kernel), fun _ h => absurd h List.not_mem_nil⟩
theorem amH130 : ∀ l ∈ amC130, amChkK amR130 l := List.forall_mem_cons.mpr ⟨(by unfold amChkK; decide +kernel), fun _ h => absurd h List.not_mem_nil⟩
theorem amH131 : ∀ l ∈ amC131, amChkK amR131 l := List.forall_mem_cons.mpr ⟨(by unfold amChkK; decide +kernel), fun _ h => absurd h List.not_mem_nil⟩
theorem amH132 : ∀ l ∈ amC132, amChkK amR132 l := List.forall_mem_cons.mpr ⟨(by unfold amChkK; decide +kernel), fun _ h => absurd h List.not_mem_nil⟩
theorem amH133 : ∀ l ∈ amC133, amChkK amR133 l := List.forall_mem_cons.mpr ⟨(by unfold amChkK; decide +kernel), fun _ h => absurd h List.not_mem_nil⟩
theorem amH134 : ∀ l ∈ amC134, amChkK amR134 l := List.forall_mem_cons.mpr ⟨(by unfold amChkK; decide +kernel), fun _ h => absurd h List.not_mem_nil⟩
theorem amH135 : ∀ l ∈ amC135, amChkK amR135 l := List.forall_mem_cons.mpr ⟨(by unfold amChkK; decide +kernel), fun _ h => absurd h List.not_mem_nil⟩
theorem amH136 : ∀ l ∈ amC136, amChkK amR136 l := List.forall_mem_cons.mpr ⟨(by unfold amChkK; decide +kernel), fun _ h => absurd h List.not_mem_nil⟩
theorem amH137 : ∀ l ∈ amC137, amChkK amR137 l := List.forall_mem_cons.mpr ⟨(by unfold amChkK; decide +kernel), fun _ h => absurd h List.not_mem_nil⟩
theorem amH138 : ∀ l ∈ amC138, amChkK amR138 l := List.forall_mem_cons.mpr ⟨(by unfold amChkK; decide +kernel), fun _ h => absurd h List.not_mem_nil⟩
theorem amH139 : ∀ l ∈ amC139, amChkK amR139 l := List.forall_mem_cons.mpr ⟨(by unfold amChkK; decide +kernel), fun _ h => absurd h List.not_mem_nil⟩
theorem amH140 : ∀ l ∈ amC140, amChkK amR140 l := List.forall_mem_cons.mpr ⟨(by unfold amChkK; decide +kernel), fun _ h => absurd h List.not_mem_nil⟩
theorem amH141 : ∀ l ∈ amC141, amChkK amR141 l := List.forall_mem_cons.mpr ⟨(by unfold amChkK; decide +kernel), fun _ h => absurd h List.not_mem_nil⟩
theorem amH142 : ∀ l ∈ amC142, amChkK amR142 l := List.forall_mem_cons.mpr ⟨(by unfold amChkK; decide +kernel), fun _ h => absurd h List.not_mem_nil⟩
theorem amH143 : ∀ l ∈ amC143, amChkK amR143 l := List.forall_mem_cons.mpr ⟨(by unfold amChkK; decide +kernel), fun _ h => absurd h List.not_mem_nil⟩
theorem amH144 : ∀ l ∈ amC144, amChkK amR144 l := List.forall_mem_cons.mpr ⟨(by unfold amChkK; decide +kernel), fun _ h => absurd h List.not_mem_nil⟩
theorem amH145 : ∀ l ∈ amC145, amChkK amR145 l := List.forall_mem_cons.mpr ⟨(by unfold amChkK; decide +kernel), fun _ h => absurd h List.not_mem_nil⟩
theorem amH146 : ∀ l ∈ amC146, amChkK amR146 l := List.forall_mem_cons.mpr ⟨(by unfold amChkK; decide +kernel), fun _ h => absurd h List.not_mem_nil⟩
theorem amH147 : ∀ l ∈ amC147, amChkK amR147 l := List.forall_mem_cons.mpr ⟨(by unfold amChkK; decide +kernel), fun _ h => absurd h List.not_mem_nil⟩
theorem amH148 : ∀ l ∈ amC148, amChkK amR148 l := List.forall_mem_cons.mpr ⟨(by unfold amChkK; decide +kernel), fun _ h => absurd h List.not_mem_nil⟩
theorem amH149 : ∀ l ∈ amC149, amChkK amR149 l := List.forall_mem_cons.mpr ⟨(by unfold amChkK; decide +kernel), fun _ h => absurd h List.not_mem_nil⟩
theorem amH150 : ∀ l ∈ amC150, amChkK amR150 l := List.forall_mem_cons.mpr ⟨(by unfold amChkK; decide +kernel), fun _ h => absurd h List.not_mem_nil⟩
theorem amH151 : ∀ l ∈ amC151, amChkK amR151 l := List.forall_mem_cons.mpr ⟨(by unfold amChkK; decide +kernel), fun _ h => absurd h List.not_mem_nil⟩
theorem amH152 : ∀ l ∈ amC152, amChkK amR152 l := List.forall_mem_cons.mpr ⟨(by unfold amChkK; decide +kernel), fun _ h => absurd h List.not_mem_nil⟩
theorem amH153 : ∀ l ∈ amC153, amChkK amR153 l := List.forall_mem_cons.mpr ⟨(by unfold amChkK; decide +kernel), fun _ h => absurd h List.not_mem_nil⟩
theorem amH154 : ∀ l ∈ amC154, amChkK amR154 l := List.forall_mem_cons.mpr ⟨(by unfold amChkK; decide +kernel), List.forall_mem_cons.mpr ⟨(by unfold amChkK; decide +kernel), List.forall_mem_cons.mpr ⟨(by unfold amChkK; decide +kernel), List.forall_mem_cons.mpr ⟨(by unfold amChkK; decide +kernel), List.forall_mem_cons.mpr ⟨(by unfold amChkK; decide +kernel), List.forall_mem_cons.mpr ⟨(by unfold amChkK; decide +kernel), List.forall_mem_cons.mpr ⟨(by unfold amChkK; decide +kernel), List.forall_mem_cons.mpr ⟨(by unfold amChkK; decide +kernel), List.forall_mem_cons.mpr ⟨(by unfold amChkK; decide +kernel), List.forall_mem_cons.mpr ⟨(by unfold amChkK; decide +kernel), List.forall_mem_cons.mpr ⟨(by unfold amChkK; decide +kernel), List.forall_mem_cons.mpr ⟨(by unfold amChkK; decide +kernel), List.forall_mem_cons.mpr ⟨(by unfold amChkK; decide +kernel), List.forall_mem_cons.mpr ⟨(by unfold amChkK; decide +kernel), List.forall_mem_cons.mpr ⟨(by unfold amChkK; decide +kernel), List.forall_mem_cons.mpr ⟨(by unfold amChkK; decide +kernel), List.forall_mem_cons.mpr ⟨(by unfold amChkK; decide +kernel), List.forall_mem_cons.mpr ⟨(by unfold amChkK; decide +kernel), List.forall_mem_cons.mpr ⟨(by unfold amChkK; decide +kernel), List.forall_mem_cons.mpr ⟨(by unfold amChkK; decide +kernel), List.forall_mem_cons.mpr ⟨(by unfold amChkK; decide +kernel), List.forall_mem_cons.mpr ⟨(by unfold amChkK; decide +kernel), List.forall_mem_cons.mpr ⟨(by unfold amChkK; decide +kernel), List.forall_mem_cons.mpr ⟨(by unfold amChkK; decide +kernel), List.forall_mem_cons.mpr ⟨(by unfold amChkK; decide +kernel), List.forall_mem_cons.mpr ⟨(by unfold amChkK; decide +kernel), List.forall_mem_cons.mpr ⟨(by unfold amChkK; decide +kernel), List.forall_mem_cons.mpr ⟨(by unfold amChkK; decide +kernel), List.forall_mem_cons.mpr ⟨(by unfold amChkK; decide +kernel), List.forall_mem_cons.mpr ⟨(by unfold amChkK; decide +kernel), List.forall_mem_cons.mpr ⟨(by unfold amChkK; decide +kernel), List.forall_mem_cons.mpr ⟨(by unfold amChkK; decide +kernel), List.forall_mem_cons.mpr ⟨(by unfold amChkK; decide +kernel), List.forall_mem_cons.mpr ⟨(by unfold amChkK; decide +kernel), fun _ h => absurd h List.not_mem_nil⟩⟩⟩⟩⟩⟩⟩⟩⟩⟩⟩⟩⟩⟩⟩⟩⟩⟩⟩⟩⟩⟩⟩⟩⟩⟩⟩⟩⟩⟩⟩⟩⟩⟩
theorem amChkAll : ∀ r ∈ amAll, ∀ l ∈ r.2, amChkK r.1 l := List.forall_mem_cons.mpr ⟨amH0, List.forall_mem_cons.mpr ⟨amH1, List.forall_mem_cons.mpr ⟨amH2, List.forall_mem_cons.mpr ⟨amH3, List.forall_mem_cons.mpr ⟨amH4, List.forall_mem_cons.mpr ⟨amH5, List.forall_mem_cons.mpr ⟨amH6, List.forall_mem_cons.mpr ⟨amH7, List.forall_mem_cons.mpr ⟨amH8, List.forall_mem_cons.mpr ⟨amH9, List.forall_mem_cons.mpr ⟨amH10, List.forall_mem_cons.mpr ⟨amH11, List.forall_mem_cons.mpr ⟨amH12, List.forall_mem_cons.mpr ⟨amH13, List.forall_mem_cons.mpr ⟨amH14, List.forall_mem_cons.mpr ⟨amH15, List.forall_mem_cons.mpr ⟨amH16, List.forall_mem_cons.mpr ⟨amH17, List.forall_mem_cons.mpr ⟨amH18, List.forall_mem_cons.mpr ⟨amH19, List.forall_mem_cons.mpr ⟨amH20, List.forall_mem_cons.mpr ⟨amH21, List.forall_mem_cons.mpr ⟨amH22, List.forall_mem_cons.mpr ⟨amH23, List.forall_mem_cons.mpr ⟨amH24, List.forall_mem_cons.mpr ⟨amH25, List.forall_mem_cons.mpr ⟨amH26, List.forall_mem_cons.mpr ⟨amH27, List.forall_mem_cons.mpr ⟨amH28, List.forall_mem_cons.mpr ⟨amH29, List.forall_mem_cons.mpr ⟨amH30, List.forall_mem_cons.mpr ⟨amH31, List.forall_mem_cons.mpr ⟨amH32, List.forall_mem_cons.mpr ⟨amH33, List.forall_mem_cons.mpr ⟨amH34, List.forall_mem_cons.mpr ⟨amH35, List.forall_mem_cons.mpr ⟨amH36, List.forall_mem_cons.mpr ⟨amH37, List.forall_mem_cons.mpr ⟨amH38, List.forall_mem_cons.mpr ⟨amH39, List.forall_mem_cons.mpr ⟨amH40, List.forall_mem_cons.mpr ⟨amH41, List.forall_mem_cons.mpr ⟨amH42, List.forall_mem_cons.mpr ⟨amH43, List.forall_mem_cons.mpr ⟨amH44, List.forall_mem_cons.mpr ⟨amH45, List.forall_mem_cons.mpr ⟨amH46, List.forall_mem_cons.mpr ⟨amH47, List.forall_mem_cons.mpr ⟨amH48, List.forall_mem_cons.mpr ⟨amH49, List.forall_mem_cons.mpr ⟨amH50, List.forall_mem_cons.mpr ⟨amH51, List.forall_mem_cons.mpr ⟨amH52, List.forall_mem_cons.mpr ⟨amH53, List.forall_mem_cons.mpr ⟨amH54, List.forall_mem_cons.mpr ⟨amH55, List.forall_mem_cons.mpr ⟨amH56, List.forall_mem_cons.mpr ⟨amH57, List.forall_mem_cons.mpr ⟨amH58, List.forall_mem_cons.mpr ⟨amH59, List.forall_mem_cons.mpr ⟨amH60, List.forall_mem_cons.mpr ⟨amH61, List.forall_mem_cons.mpr ⟨amH62, List.forall_mem_cons.mpr ⟨amH63, List.forall_mem_cons.mpr ⟨amH64, List.forall_mem_cons.mpr ⟨amH65, List.forall_mem_cons.mpr ⟨amH66, List.forall_mem_cons.mpr ⟨amH67, List.forall_mem_cons.mpr ⟨amH68, List.forall_mem_cons.mpr ⟨amH69, List.forall_mem_cons.mpr ⟨amH70, List.forall_mem_cons.mpr ⟨amH71, List.forall_mem_cons.mpr ⟨amH72, List.forall_mem_cons.mpr ⟨amH73, List.forall_mem_cons.mpr ⟨amH74, List.forall_mem_cons.mpr ⟨amH75, List.forall_mem_cons.mpr ⟨amH76, List.forall_mem_cons.mpr ⟨amH77, List.forall_mem_cons.mpr ⟨amH78, List.forall_mem_cons.mpr ⟨amH79, List.forall_mem_cons.mpr ⟨amH80, List.forall_mem_cons.mpr ⟨amH81, List.forall_mem_cons.mpr ⟨amH82, List.forall_mem_cons.mpr ⟨amH83, List.forall_mem_cons.mpr ⟨amH84, List.forall_mem_cons.mpr ⟨amH85, List.forall_mem_cons.mpr ⟨amH86, List.forall_mem_cons.mpr ⟨amH87, List.forall_mem_cons.mpr ⟨amH88, List.forall_mem_cons.mpr ⟨amH89, List.forall_mem_cons.mpr ⟨amH90, List.forall_mem_cons.mpr ⟨amH91, List.forall_mem_cons.mpr ⟨amH92, List.forall_mem_cons.mpr ⟨amH93, List.forall_mem_cons.mpr ⟨amH94, List.forall_mem_cons.mpr ⟨amH95, List.forall_mem_cons.mpr ⟨amH96, List.forall_mem_cons.mpr ⟨amH97, List.forall_mem_cons.mpr ⟨amH98, List.forall_mem_cons.mpr ⟨amH99, List.forall_mem_cons.mpr ⟨amH100, List.forall_mem_cons.mpr ⟨amH101, List.forall_mem_cons.mpr ⟨amH102, List.forall_mem_cons.mpr ⟨amH103, List.forall_mem_cons.mpr ⟨amH104, List.forall_mem_cons.mpr ⟨amH105, List.forall_mem_cons.mpr ⟨amH106, List.forall_mem_cons.mpr ⟨amH107, List.forall_mem_cons.mpr ⟨amH108, List.forall_mem_cons.mpr ⟨amH109, List.forall_mem_cons.mpr ⟨amH110, List.forall_mem_cons.mpr ⟨amH111, List.forall_mem_cons.mpr ⟨amH112, List.forall_mem_cons.mpr ⟨amH113, List.forall_mem_cons.mpr ⟨amH114, List.forall_mem_cons.mpr ⟨amH115, List.forall_mem_cons.mpr ⟨amH116, List.forall_mem_cons.mpr ⟨amH117, List.forall_mem_cons.mpr ⟨amH118, List.forall_mem_cons.mpr ⟨amH119, List.forall_mem_cons.mpr ⟨amH120, List.forall_mem_cons.mpr ⟨amH121, List.forall_mem_cons.mpr ⟨amH122, List.forall_mem_cons.mpr ⟨amH123, List.forall_mem_cons.mpr ⟨amH124, List.forall_mem_cons.mpr ⟨amH125, List.forall_mem_cons.mpr ⟨amH126, List.forall_mem_cons.mpr ⟨amH127, List.forall_mem_cons.mpr ⟨amH128, List.forall_mem_cons.mpr ⟨amH129, List.forall_mem_cons.mpr ⟨amH130, List.forall_mem_cons.mpr ⟨amH131, List.forall_mem_cons.mpr ⟨amH132, List.forall_mem_cons.mpr ⟨amH133, List.forall_mem_cons.mpr ⟨amH134, List.forall_mem_cons.mpr ⟨amH135, List.forall_mem_cons.mpr ⟨amH136, List.forall_mem_cons.mpr ⟨amH137, List.forall_mem_cons.mpr ⟨amH138, List.forall_mem_cons.mpr ⟨amH139, List.forall_mem_cons.mpr ⟨amH140, List.forall_mem_cons.mpr ⟨amH141, List.forall_mem_cons.mpr ⟨amH142, List.forall_mem_cons.mpr ⟨amH143, List.forall_mem_cons.mpr ⟨amH144, List.forall_mem_cons.mpr ⟨amH145, List.forall_mem_cons.mpr ⟨amH146, List.forall_mem_cons.mpr ⟨amH147, List.forall_mem_cons.mpr ⟨amH148, List.forall_mem_cons.mpr ⟨amH149, List.forall_mem_cons.mpr ⟨amH150, List.forall_mem_cons.mpr ⟨amH151, List.forall_mem_cons.mpr ⟨amH152, List.forall_mem_cons.mpr ⟨amH153, List.forall_mem_cons.mpr ⟨amH154, fun _ h => absurd h List.not_mem_nil⟩⟩⟩⟩⟩⟩⟩⟩⟩⟩⟩⟩⟩⟩⟩⟩⟩⟩⟩⟩⟩⟩⟩⟩⟩⟩⟩⟩⟩⟩⟩⟩⟩⟩⟩⟩⟩⟩⟩⟩⟩⟩⟩⟩⟩⟩⟩⟩⟩⟩⟩⟩⟩⟩⟩⟩⟩⟩⟩⟩⟩⟩⟩⟩⟩⟩⟩⟩⟩⟩⟩⟩⟩⟩⟩⟩⟩⟩⟩⟩⟩⟩⟩⟩⟩⟩⟩⟩⟩⟩⟩⟩⟩⟩⟩⟩⟩⟩⟩⟩⟩⟩⟩⟩⟩⟩⟩⟩⟩⟩⟩⟩⟩⟩⟩⟩⟩⟩⟩⟩⟩⟩⟩⟩⟩⟩⟩⟩⟩⟩⟩⟩⟩⟩⟩⟩⟩⟩⟩⟩⟩⟩⟩⟩⟩⟩⟩⟩⟩⟩⟩⟩⟩⟩⟩
end
section
/-! words of the tables behind every resolved place, by wip/whole/gen07.py -/
def amCW (r : amRow) : Cond := match r.2.2.2.2.2.1 with
  | [] => .code r.2.1 r.2.2.1 r.2.2.2.1 r.2.2.2.2.1
  | hh => .codeWith r.2.1 r.2.2.1 r.2.2.2.1 r.2.2.2.2.1 hh
def amFldP (q : Nat × Nat × Nat × Nat) : Prop := Cond.fieldLink (amN q.1) q.2.1 (amTT q.2.2.1 q.2.2.2).1 (amTT q.2.2.1 q.2.2.2).2.1 (amTT q.2.2.1 q.2.2.2).2.2.1 ∈ amTB ∧ q.2.2.2 < amNF q.2.2.1 ∧ q.2.2.1 < 5
def amClsP (q : Nat × Nat × Nat) : Prop := Cond.classLink (amN q.1) q.2.1 (amN q.2.2) ∈ amTB ∧ Cond.instantiable (amN q.2.2) (amNF q.2.2) ∈ amTB ∧ Cond.initialized (amN q.2.2) ∈ amTB ∧ q.2.2 < 5
def amNests : List Cond := [.methodLinkNest RX0 38 yX3_entriesFor RX3, .methodLinkNest RX2 103 yX3_entriesFor RX3]
def amTgtP (r : amRow) : Prop := amCW r ∈ amTB ∧ Cond.initialized r.2.1.cls ∈ amTB ∧ r.2.1.cls = amN r.1 ∧ plainName r.2.1.cls = true ∧ (r.2.1.cls ≠ "java/lang/invoke/MethodHandle" ∧ r.2.1.cls ≠ "java/lang/invoke/VarHandle") ∧ r.1 < 6
def amLnkP (q : Nat × Nat × Nat × Nat × Nat) (r : amRow) : Prop := (parseMethodDescriptor r.2.1.desc).map (fun d => d.parameters.length) = some q.2.2.2.2 ∧ amTgtP r ∧ match q.2.2.1 with
  | 0 => Cond.methodLink (amN q.1) q.2.1 r.2.1 ∈ amTB ∧ Cond.instanceMethod r.2.1 ∈ amTB ∧ Cond.selects r.2.1.cls r.2.1 r.2.1 ∈ amTB ∧ r.1 < 5 ∧ r.2.2.2.2.2.1 = []
  | 1 => Cond.methodLink (amN q.1) q.2.1 r.2.1 ∈ amTB ∧ Cond.static r.2.1 ∈ amTB
  | 2 => Cond.methodLinkNest (amN q.1) q.2.1 r.2.1 RX3 ∈ amNests ∧ Cond.static r.2.1 ∈ amTB ∧ r.2.2.2.2.2.1 = []
  | _ => Cond.methodLink (amN q.1) q.2.1 r.2.1 ∈ amTB ∧ Cond.instanceMethod r.2.1 ∈ amTB ∧ r.2.1.name = "<init>" ∧ r.2.2.2.2.1 = none ∧ r.2.2.2.2.2.1 = [] ∧ r.1 < 5
def amMthP (q : Nat × Nat × Nat) : Prop := match q.2.2 with
  | 4 => Cond.methodLink (amN q.1) q.2.1 Lib.Math.max.name ∈ amTB
  | _ => Cond.methodLink (amN q.1) q.2.1 Lib.Math.min.name ∈ amTB
def amObjP (q : Nat × Nat) : Prop := Cond.methodLink (amN q.1) q.2 objectInit ∈ amTB
theorem amF_0_9 : amFldP (0, 9, 0, 0) := ⟨amTB_of (i := 80) (by decide +kernel) (by decide +kernel), by decide +kernel, by decide +kernel⟩
theorem amF_0_15 : amFldP (0, 15, 0, 1) := ⟨amTB_of (i := 83) (by decide +kernel) (by decide +kernel), by decide +kernel, by decide +kernel⟩
theorem amF_0_18 : amFldP (0, 18, 0, 2) := ⟨amTB_of (i := 85) (by decide +kernel) (by decide +kernel), by decide +kernel, by decide +kernel⟩
theorem amF_1_9 : amFldP (1, 9, 1, 0) := ⟨amTB_of (i := 101) (by decide +kernel) (by decide +kernel), by decide +kernel, by decide +kernel⟩
theorem amF_1_15 : amFldP (1, 15, 1, 1) := ⟨amTB_of (i := 102) (by decide +kernel) (by decide +kernel), by decide +kernel, by decide +kernel⟩
theorem amF_1_39 : amFldP (1, 39, 2, 4) := ⟨amTB_of (i := 55) (by decide +kernel) (by decide +kernel), by decide +kernel, by decide +kernel⟩
theorem amF_1_43 : amFldP (1, 43, 2, 3) := ⟨amTB_of (i := 52) (by decide +kernel) (by decide +kernel), by decide +kernel, by decide +kernel⟩
theorem amF_1_55 : amFldP (1, 55, 2, 0) := ⟨amTB_of (i := 44) (by decide +kernel) (by decide +kernel), by decide +kernel, by decide +kernel⟩
theorem amF_1_58 : amFldP (1, 58, 2, 1) := ⟨amTB_of (i := 47) (by decide +kernel) (by decide +kernel), by decide +kernel, by decide +kernel⟩
theorem amF_2_9 : amFldP (2, 9, 2, 0) := ⟨amTB_of (i := 43) (by decide +kernel) (by decide +kernel), by decide +kernel, by decide +kernel⟩
theorem amF_2_15 : amFldP (2, 15, 2, 1) := ⟨amTB_of (i := 46) (by decide +kernel) (by decide +kernel), by decide +kernel, by decide +kernel⟩
theorem amF_2_18 : amFldP (2, 18, 2, 2) := ⟨amTB_of (i := 49) (by decide +kernel) (by decide +kernel), by decide +kernel, by decide +kernel⟩
theorem amF_2_22 : amFldP (2, 22, 2, 3) := ⟨amTB_of (i := 51) (by decide +kernel) (by decide +kernel), by decide +kernel, by decide +kernel⟩
theorem amF_2_25 : amFldP (2, 25, 2, 4) := ⟨amTB_of (i := 54) (by decide +kernel) (by decide +kernel), by decide +kernel, by decide +kernel⟩
theorem amF_2_28 : amFldP (2, 28, 2, 5) := ⟨amTB_of (i := 57) (by decide +kernel) (by decide +kernel), by decide +kernel, by decide +kernel⟩
theorem amF_2_90 : amFldP (2, 90, 0, 2) := ⟨amTB_of (i := 87) (by decide +kernel) (by decide +kernel), by decide +kernel, by decide +kernel⟩
theorem amF_2_93 : amFldP (2, 93, 0, 0) := ⟨amTB_of (i := 81) (by decide +kernel) (by decide +kernel), by decide +kernel, by decide +kernel⟩
theorem amF_2_96 : amFldP (2, 96, 0, 1) := ⟨amTB_of (i := 84) (by decide +kernel) (by decide +kernel), by decide +kernel, by decide +kernel⟩
theorem amF_3_11 : amFldP (3, 11, 3, 0) := ⟨amTB_of (i := 108) (by decide +kernel) (by decide +kernel), by decide +kernel, by decide +kernel⟩
theorem amF_3_19 : amFldP (3, 19, 3, 1) := ⟨amTB_of (i := 109) (by decide +kernel) (by decide +kernel), by decide +kernel, by decide +kernel⟩
theorem amF_3_23 : amFldP (3, 23, 3, 2) := ⟨amTB_of (i := 110) (by decide +kernel) (by decide +kernel), by decide +kernel, by decide +kernel⟩
theorem amF_3_26 : amFldP (3, 26, 3, 3) := ⟨amTB_of (i := 111) (by decide +kernel) (by decide +kernel), by decide +kernel, by decide +kernel⟩
theorem amF_3_32 : amFldP (3, 32, 3, 4) := ⟨amTB_of (i := 112) (by decide +kernel) (by decide +kernel), by decide +kernel, by decide +kernel⟩
theorem amF_3_76 : amFldP (3, 76, 2, 5) := ⟨amTB_of (i := 58) (by decide +kernel) (by decide +kernel), by decide +kernel, by decide +kernel⟩
theorem amF_3_122 : amFldP (3, 122, 0, 2) := ⟨amTB_of (i := 86) (by decide +kernel) (by decide +kernel), by decide +kernel, by decide +kernel⟩
theorem amF_3_133 : amFldP (3, 133, 0, 0) := ⟨amTB_of (i := 82) (by decide +kernel) (by decide +kernel), by decide +kernel, by decide +kernel⟩
theorem amF_3_145 : amFldP (3, 145, 2, 0) := ⟨amTB_of (i := 45) (by decide +kernel) (by decide +kernel), by decide +kernel, by decide +kernel⟩
theorem amF_3_148 : amFldP (3, 148, 2, 1) := ⟨amTB_of (i := 48) (by decide +kernel) (by decide +kernel), by decide +kernel, by decide +kernel⟩
theorem amF_3_154 : amFldP (3, 154, 2, 2) := ⟨amTB_of (i := 50) (by decide +kernel) (by decide +kernel), by decide +kernel, by decide +kernel⟩
theorem amF_3_158 : amFldP (3, 158, 2, 3) := ⟨amTB_of (i := 53) (by decide +kernel) (by decide +kernel), by decide +kernel, by decide +kernel⟩
theorem amF_3_161 : amFldP (3, 161, 2, 4) := ⟨amTB_of (i := 56) (by decide +kernel) (by decide +kernel), by decide +kernel, by decide +kernel⟩
theorem amF_4_7 : amFldP (4, 7, 4, 0) := ⟨amTB_of (i := 638) (by decide +kernel) (by decide +kernel), by decide +kernel, by decide +kernel⟩
theorem amF_4_13 : amFldP (4, 13, 4, 1) := ⟨amTB_of (i := 639) (by decide +kernel) (by decide +kernel), by decide +kernel, by decide +kernel⟩
theorem amF_4_16 : amFldP (4, 16, 4, 2) := ⟨amTB_of (i := 640) (by decide +kernel) (by decide +kernel), by decide +kernel, by decide +kernel⟩
theorem amF_4_19 : amFldP (4, 19, 4, 3) := ⟨amTB_of (i := 641) (by decide +kernel) (by decide +kernel), by decide +kernel, by decide +kernel⟩
theorem amF_4_22 : amFldP (4, 22, 4, 4) := ⟨amTB_of (i := 642) (by decide +kernel) (by decide +kernel), by decide +kernel, by decide +kernel⟩
theorem amF_4_25 : amFldP (4, 25, 4, 5) := ⟨amTB_of (i := 643) (by decide +kernel) (by decide +kernel), by decide +kernel, by decide +kernel⟩
theorem amF_4_28 : amFldP (4, 28, 4, 6) := ⟨amTB_of (i := 644) (by decide +kernel) (by decide +kernel), by decide +kernel, by decide +kernel⟩
theorem amF_4_31 : amFldP (4, 31, 4, 7) := ⟨amTB_of (i := 645) (by decide +kernel) (by decide +kernel), by decide +kernel, by decide +kernel⟩
theorem amFldOk : ∀ q ∈ amFldL, amFldP q := List.forall_mem_cons.mpr ⟨amF_0_9, List.forall_mem_cons.mpr ⟨amF_0_15, List.forall_mem_cons.mpr ⟨amF_0_18, List.forall_mem_cons.mpr ⟨amF_1_9, List.forall_mem_cons.mpr ⟨amF_1_15, List.forall_mem_cons.mpr ⟨amF_1_39, List.forall_mem_cons.mpr ⟨amF_1_43, List.forall_mem_cons.mpr ⟨amF_1_55, List.forall_mem_cons.mpr ⟨amF_1_58, List.forall_mem_cons.mpr ⟨amF_2_9, List.forall_mem_cons.mpr ⟨amF_2_15, List.forall_mem_cons.mpr ⟨amF_2_18, List.forall_mem_cons.mpr ⟨amF_2_22, List.forall_mem_cons.mpr ⟨amF_2_25, List.forall_mem_cons.mpr ⟨amF_2_28, List.forall_mem_cons.mpr ⟨amF_2_90, List.forall_mem_cons.mpr ⟨amF_2_93, List.forall_mem_cons.mpr ⟨amF_2_96, List.forall_mem_cons.mpr ⟨amF_3_11, List.forall_mem_cons.mpr ⟨amF_3_19, List.forall_mem_cons.mpr ⟨amF_3_23, List.forall_mem_cons.mpr ⟨amF_3_26, List.forall_mem_cons.mpr ⟨amF_3_32, List.forall_mem_cons.mpr ⟨amF_3_76, List.forall_mem_cons.mpr ⟨amF_3_122, List.forall_mem_cons.mpr ⟨amF_3_133, List.forall_mem_cons.mpr ⟨amF_3_145, List.forall_mem_cons.mpr ⟨amF_3_148, List.forall_mem_cons.mpr ⟨amF_3_154, List.forall_mem_cons.mpr ⟨amF_3_158, List.forall_mem_cons.mpr ⟨amF_3_161, List.forall_mem_cons.mpr ⟨amF_4_7, List.forall_mem_cons.mpr ⟨amF_4_13, List.forall_mem_cons.mpr ⟨amF_4_16, List.forall_mem_cons.mpr ⟨amF_4_19, List.forall_mem_cons.mpr ⟨amF_4_22, List.forall_mem_cons.mpr ⟨amF_4_25, List.forall_mem_cons.mpr ⟨amF_4_28, List.forall_mem_cons.mpr ⟨amF_4_31, fun _ h => absurd h List.not_mem_nil⟩⟩⟩⟩⟩⟩⟩⟩⟩⟩⟩⟩⟩⟩⟩⟩⟩⟩⟩⟩⟩⟩⟩⟩⟩⟩⟩⟩⟩⟩⟩⟩⟩⟩⟩⟩⟩⟩⟩
theorem amIn_0 : Cond.initialized (amN 0) ∈ amTB := amTB_of (i := 18) (by decide +kernel) (by decide +kernel)
theorem amIs_0 : Cond.instantiable (amN 0) (amNF 0) ∈ amTB := amTB_of (i := 75) (by decide +kernel) (by decide +kernel)
theorem amU_0 : ∀ w ∈ u_ws (amN 0) (amTT 0) (amNF 0), w ∈ amTB := List.forall_mem_cons.mpr ⟨amTB_of (i := 88) (by decide +kernel) (by decide +kernel), List.forall_mem_cons.mpr ⟨amTB_of (i := 90) (by decide +kernel) (by decide +kernel), List.forall_mem_cons.mpr ⟨amTB_of (i := 92) (by decide +kernel) (by decide +kernel), fun _ h => absurd h List.not_mem_nil⟩⟩⟩
theorem amIn_1 : Cond.initialized (amN 1) ∈ amTB := amTB_of (i := 19) (by decide +kernel) (by decide +kernel)
theorem amIs_1 : Cond.instantiable (amN 1) (amNF 1) ∈ amTB := amTB_of (i := 96) (by decide +kernel) (by decide +kernel)
theorem amU_1 : ∀ w ∈ u_ws (amN 1) (amTT 1) (amNF 1), w ∈ amTB := List.forall_mem_cons.mpr ⟨amTB_of (i := 103) (by decide +kernel) (by decide +kernel), List.forall_mem_cons.mpr ⟨amTB_of (i := 105) (by decide +kernel) (by decide +kernel), fun _ h => absurd h List.not_mem_nil⟩⟩
theorem amIn_2 : Cond.initialized (amN 2) ∈ amTB := amTB_of (i := 17) (by decide +kernel) (by decide +kernel)
theorem amIs_2 : Cond.instantiable (amN 2) (amNF 2) ∈ amTB := amTB_of (i := 38) (by decide +kernel) (by decide +kernel)
theorem amU_2 : ∀ w ∈ u_ws (amN 2) (amTT 2) (amNF 2), w ∈ amTB := List.forall_mem_cons.mpr ⟨amTB_of (i := 59) (by decide +kernel) (by decide +kernel), List.forall_mem_cons.mpr ⟨amTB_of (i := 61) (by decide +kernel) (by decide +kernel), List.forall_mem_cons.mpr ⟨amTB_of (i := 63) (by decide +kernel) (by decide +kernel), List.forall_mem_cons.mpr ⟨amTB_of (i := 65) (by decide +kernel) (by decide +kernel), List.forall_mem_cons.mpr ⟨amTB_of (i := 67) (by decide +kernel) (by decide +kernel), List.forall_mem_cons.mpr ⟨amTB_of (i := 69) (by decide +kernel) (by decide +kernel), fun _ h => absurd h List.not_mem_nil⟩⟩⟩⟩⟩⟩
theorem amIn_3 : Cond.initialized (amN 3) ∈ amTB := amTB_of (i := 16) (by decide +kernel) (by decide +kernel)
theorem amIs_3 : Cond.instantiable (amN 3) (amNF 3) ∈ amTB := amTB_of (i := 29) (by decide +kernel) (by decide +kernel)
theorem amU_3 : ∀ w ∈ u_ws (amN 3) (amTT 3) (amNF 3), w ∈ amTB := List.forall_mem_cons.mpr ⟨amTB_of (i := 113) (by decide +kernel) (by decide +kernel), List.forall_mem_cons.mpr ⟨amTB_of (i := 115) (by decide +kernel) (by decide +kernel), List.forall_mem_cons.mpr ⟨amTB_of (i := 117) (by decide +kernel) (by decide +kernel), List.forall_mem_cons.mpr ⟨amTB_of (i := 119) (by decide +kernel) (by decide +kernel), List.forall_mem_cons.mpr ⟨amTB_of (i := 121) (by decide +kernel) (by decide +kernel), fun _ h => absurd h List.not_mem_nil⟩⟩⟩⟩⟩
theorem amIn_4 : Cond.initialized (amN 4) ∈ amTB := amTB_of (i := 20) (by decide +kernel) (by decide +kernel)
theorem amIs_4 : Cond.instantiable (amN 4) (amNF 4) ∈ amTB := amTB_of (i := 633) (by decide +kernel) (by decide +kernel)
theorem amU_4 : ∀ w ∈ u_ws (amN 4) (amTT 4) (amNF 4), w ∈ amTB := List.forall_mem_cons.mpr ⟨amTB_of (i := 646) (by decide +kernel) (by decide +kernel), List.forall_mem_cons.mpr ⟨amTB_of (i := 648) (by decide +kernel) (by decide +kernel), List.forall_mem_cons.mpr ⟨amTB_of (i := 650) (by decide +kernel) (by decide +kernel), List.forall_mem_cons.mpr ⟨amTB_of (i := 652) (by decide +kernel) (by decide +kernel), List.forall_mem_cons.mpr ⟨amTB_of (i := 654) (by decide +kernel) (by decide +kernel), List.forall_mem_cons.mpr ⟨amTB_of (i := 656) (by decide +kernel) (by decide +kernel), List.forall_mem_cons.mpr ⟨amTB_of (i := 658) (by decide +kernel) (by decide +kernel), List.forall_mem_cons.mpr ⟨amTB_of (i := 660) (by decide +kernel) (by decide +kernel), fun _ h => absurd h List.not_mem_nil⟩⟩⟩⟩⟩⟩⟩⟩
theorem amIn_5 : Cond.initialized (amN 5) ∈ amTB := amTB_of (i := 15) (by decide +kernel) (by decide +kernel)
theorem amCl_3_9 : amClsP (3, 9, 2) := ⟨amTB_of (i := 36) (by decide +kernel) (by decide +kernel), amIs_2, amIn_2, by decide +kernel⟩
theorem amCl_3_16 : amClsP (3, 16, 0) := ⟨amTB_of (i := 74) (by decide +kernel) (by decide +kernel), amIs_0, amIn_0, by decide +kernel⟩
theorem amCl_3_29 : amClsP (3, 29, 1) := ⟨amTB_of (i := 95) (by decide +kernel) (by decide +kernel), amIs_1, amIn_1, by decide +kernel⟩
theorem amCl_5_8 : amClsP (5, 8, 3) := ⟨amTB_of (i := 28) (by decide +kernel) (by decide +kernel), amIs_3, amIn_3, by decide +kernel⟩
theorem amCl_5_108 : amClsP (5, 108, 4) := ⟨amTB_of (i := 632) (by decide +kernel) (by decide +kernel), amIs_4, amIn_4, by decide +kernel⟩
theorem amClsOk : ∀ q ∈ amClsL, amClsP q := List.forall_mem_cons.mpr ⟨amCl_3_9, List.forall_mem_cons.mpr ⟨amCl_3_16, List.forall_mem_cons.mpr ⟨amCl_3_29, List.forall_mem_cons.mpr ⟨amCl_5_8, List.forall_mem_cons.mpr ⟨amCl_5_108, fun _ h => absurd h List.not_mem_nil⟩⟩⟩⟩⟩
theorem amTg_0 : amTgtP amR0 := ⟨amTB_of (i := 78) (by decide +kernel) (by decide +kernel), amIn_0, rfl, by decide +kernel, by decide +kernel, by decide +kernel⟩
theorem amAt_0 : amAll[0]? = some (amR0, amC0) := rfl
theorem amTg_1 : amTgtP amR1 := ⟨amTB_of (i := 222) (by decide +kernel) (by decide +kernel), amIn_0, rfl, by decide +kernel, by decide +kernel, by decide +kernel⟩
theorem amAt_1 : amAll[1]? = some (amR1, amC1) := rfl
theorem amTg_2 : amTgtP amR2 := ⟨amTB_of (i := 258) (by decide +kernel) (by decide +kernel), amIn_0, rfl, by decide +kernel, by decide +kernel, by decide +kernel⟩
theorem amAt_2 : amAll[2]? = some (amR2, amC2) := rfl
theorem amTg_3 : amTgtP amR3 := ⟨amTB_of (i := 264) (by decide +kernel) (by decide +kernel), amIn_0, rfl, by decide +kernel, by decide +kernel, by decide +kernel⟩
theorem amAt_3 : amAll[3]? = some (amR3, amC3) := rfl
theorem amTg_4 : amTgtP amR4 := ⟨amTB_of (i := 488) (by decide +kernel) (by decide +kernel), amIn_0, rfl, by decide +kernel, by decide +kernel, by decide +kernel⟩
theorem amAt_4 : amAll[4]? = some (amR4, amC4) := rfl
theorem amTg_5 : amTgtP amR5 := ⟨amTB_of (i := 346) (by decide +kernel) (by decide +kernel), amIn_0, rfl, by decide +kernel, by decide +kernel, by decide +kernel⟩
theorem amAt_5 : amAll[5]? = some (amR5, amC5) := rfl
theorem amTg_6 : amTgtP amR6 := ⟨amTB_of (i := 492) (by decide +kernel) (by decide +kernel), amIn_0, rfl, by decide +kernel, by decide +kernel, by decide +kernel⟩
theorem amAt_6 : amAll[6]? = some (amR6, amC6) := rfl
theorem amTg_7 : amTgtP amR7 := ⟨amTB_of (i := 504) (by decide +kernel) (by decide +kernel), amIn_0, rfl, by decide +kernel, by decide +kernel, by decide +kernel⟩
theorem amAt_7 : amAll[7]? = some (amR7, amC7) := rfl
theorem amTg_8 : amTgtP amR8 := ⟨amTB_of (i := 273) (by decide +kernel) (by decide +kernel), amIn_0, rfl, by decide +kernel, by decide +kernel, by decide +kernel⟩
theorem amAt_8 : amAll[8]? = some (amR8, amC8) := rfl
theorem amTg_9 : amTgtP amR9 := ⟨amTB_of (i := 99) (by decide +kernel) (by decide +kernel), amIn_1, rfl, by decide +kernel, by decide +kernel, by decide +kernel⟩
theorem amAt_9 : amAll[9]? = some (amR9, amC9) := rfl
theorem amTg_10 : amTgtP amR10 := ⟨amTB_of (i := 409) (by decide +kernel) (by decide +kernel), amIn_1, rfl, by decide +kernel, by decide +kernel, by decide +kernel⟩
theorem amAt_10 : amAll[10]? = some (amR10, amC10) := rfl
theorem amTg_11 : amTgtP amR11 := ⟨amTB_of (i := 419) (by decide +kernel) (by decide +kernel), amIn_1, rfl, by decide +kernel, by decide +kernel, by decide +kernel⟩
theorem amAt_11 : amAll[11]? = some (amR11, amC11) := rfl
theorem amTg_12 : amTgtP amR12 := ⟨amTB_of (i := 424) (by decide +kernel) (by decide +kernel), amIn_1, rfl, by decide +kernel, by decide +kernel, by decide +kernel⟩
theorem amAt_12 : amAll[12]? = some (amR12, amC12) := rfl
theorem amTg_13 : amTgtP amR13 := ⟨amTB_of (i := 41) (by decide +kernel) (by decide +kernel), amIn_2, rfl, by decide +kernel, by decide +kernel, by decide +kernel⟩
theorem amAt_13 : amAll[13]? = some (amR13, amC13) := rfl
theorem amTg_14 : amTgtP amR14 := ⟨amTB_of (i := 226) (by decide +kernel) (by decide +kernel), amIn_2, rfl, by decide +kernel, by decide +kernel, by decide +kernel⟩
theorem amAt_14 : amAll[14]? = some (amR14, amC14) := rfl
theorem amTg_15 : amTgtP amR15 := ⟨amTB_of (i := 250) (by decide +kernel) (by decide +kernel), amIn_2, rfl, by decide +kernel, by decide +kernel, by decide +kernel⟩
theorem amAt_15 : amAll[15]? = some (amR15, amC15) := rfl
theorem amTg_16 : amTgtP amR16 := ⟨amTB_of (i := 234) (by decide +kernel) (by decide +kernel), amIn_2, rfl, by decide +kernel, by decide +kernel, by decide +kernel⟩
theorem amAt_16 : amAll[16]? = some (amR16, amC16) := rfl
theorem amTg_17 : amTgtP amR17 := ⟨amTB_of (i := 311) (by decide +kernel) (by decide +kernel), amIn_2, rfl, by decide +kernel, by decide +kernel, by decide +kernel⟩
theorem amAt_17 : amAll[17]? = some (amR17, amC17) := rfl
theorem amTg_18 : amTgtP amR18 := ⟨amTB_of (i := 323) (by decide +kernel) (by decide +kernel), amIn_2, rfl, by decide +kernel, by decide +kernel, by decide +kernel⟩
theorem amAt_18 : amAll[18]? = some (amR18, amC18) := rfl
theorem amTg_19 : amTgtP amR19 := ⟨amTB_of (i := 254) (by decide +kernel) (by decide +kernel), amIn_2, rfl, by decide +kernel, by decide +kernel, by decide +kernel⟩
theorem amAt_19 : amAll[19]? = some (amR19, amC19) := rfl
theorem amTg_20 : amTgtP amR20 := ⟨amTB_of (i := 477) (by decide +kernel) (by decide +kernel), amIn_2, rfl, by decide +kernel, by decide +kernel, by decide +kernel⟩
theorem amAt_20 : amAll[20]? = some (amR20, amC20) := rfl
theorem amTg_21 : amTgtP amR21 := ⟨amTB_of (i := 536) (by decide +kernel) (by decide +kernel), amIn_2, rfl, by decide +kernel, by decide +kernel, by decide +kernel⟩
theorem amAt_21 : amAll[21]? = some (amR21, amC21) := rfl
theorem amTg_22 : amTgtP amR22 := ⟨amTB_of (i := 413) (by decide +kernel) (by decide +kernel), amIn_2, rfl, by decide +kernel, by decide +kernel, by decide +kernel⟩
theorem amAt_22 : amAll[22]? = some (amR22, amC22) := rfl
theorem amTg_23 : amTgtP amR23 := ⟨amTB_of (i := 230) (by decide +kernel) (by decide +kernel), amIn_2, rfl, by decide +kernel, by decide +kernel, by decide +kernel⟩
theorem amAt_23 : amAll[23]? = some (amR23, amC23) := rfl
theorem amTg_24 : amTgtP amR24 := ⟨amTB_of (i := 242) (by decide +kernel) (by decide +kernel), amIn_2, rfl, by decide +kernel, by decide +kernel, by decide +kernel⟩
theorem amAt_24 : amAll[24]? = some (amR24, amC24) := rfl
theorem amTg_25 : amTgtP amR25 := ⟨amTB_of (i := 238) (by decide +kernel) (by decide +kernel), amIn_2, rfl, by decide +kernel, by decide +kernel, by decide +kernel⟩
theorem amAt_25 : amAll[25]? = some (amR25, amC25) := rfl
theorem amTg_26 : amTgtP amR26 := ⟨amTB_of (i := 246) (by decide +kernel) (by decide +kernel), amIn_2, rfl, by decide +kernel, by decide +kernel, by decide +kernel⟩
theorem amAt_26 : amAll[26]? = some (amR26, amC26) := rfl
theorem amTg_27 : amTgtP amR27 := ⟨amTB_of (i := 574) (by decide +kernel) (by decide +kernel), amIn_2, rfl, by decide +kernel, by decide +kernel, by decide +kernel⟩
theorem amAt_27 : amAll[27]? = some (amR27, amC27) := rfl
theorem amTg_28 : amTgtP amR28 := ⟨amTB_of (i := 330) (by decide +kernel) (by decide +kernel), amIn_2, rfl, by decide +kernel, by decide +kernel, by decide +kernel⟩
theorem amAt_28 : amAll[28]? = some (amR28, amC28) := rfl
theorem amTg_29 : amTgtP amR29 := ⟨amTB_of (i := 437) (by decide +kernel) (by decide +kernel), amIn_2, rfl, by decide +kernel, by decide +kernel, by decide +kernel⟩
theorem amAt_29 : amAll[29]? = some (amR29, amC29) := rfl
theorem amTg_30 : amTgtP amR30 := ⟨amTB_of (i := 630) (by decide +kernel) (by decide +kernel), amIn_2, rfl, by decide +kernel, by decide +kernel, by decide +kernel⟩
theorem amAt_30 : amAll[30]? = some (amR30, amC30) := rfl
theorem amTg_31 : amTgtP amR31 := ⟨amTB_of (i := 218) (by decide +kernel) (by decide +kernel), amIn_2, rfl, by decide +kernel, by decide +kernel, by decide +kernel⟩
theorem amAt_31 : amAll[31]? = some (amR31, amC31) := rfl
theorem amTg_32 : amTgtP amR32 := ⟨amTB_of (i := 303) (by decide +kernel) (by decide +kernel), amIn_2, rfl, by decide +kernel, by decide +kernel, by decide +kernel⟩
theorem amAt_32 : amAll[32]? = some (amR32, amC32) := rfl
theorem amTg_33 : amTgtP amR33 := ⟨amTB_of (i := 299) (by decide +kernel) (by decide +kernel), amIn_2, rfl, by decide +kernel, by decide +kernel, by decide +kernel⟩
theorem amAt_33 : amAll[33]? = some (amR33, amC33) := rfl
theorem amTg_34 : amTgtP amR34 := ⟨amTB_of (i := 307) (by decide +kernel) (by decide +kernel), amIn_2, rfl, by decide +kernel, by decide +kernel, by decide +kernel⟩
theorem amAt_34 : amAll[34]? = some (amR34, amC34) := rfl
theorem amTg_35 : amTgtP amR35 := ⟨amTB_of (i := 319) (by decide +kernel) (by decide +kernel), amIn_2, rfl, by decide +kernel, by decide +kernel, by decide +kernel⟩
theorem amAt_35 : amAll[35]? = some (amR35, amC35) := rfl
theorem amTg_36 : amTgtP amR36 := ⟨amTB_of (i := 32) (by decide +kernel) (by decide +kernel), amIn_3, rfl, by decide +kernel, by decide +kernel, by decide +kernel⟩
theorem amAt_36 : amAll[36]? = some (amR36, amC36) := rfl
theorem amTg_37 : amTgtP amR37 := ⟨amTB_of (i := 127) (by decide +kernel) (by decide +kernel), amIn_3, rfl, by decide +kernel, by decide +kernel, by decide +kernel⟩
theorem amAt_37 : amAll[37]? = some (amR37, amC37) := rfl
theorem amTg_38 : amTgtP amR38 := ⟨amTB_of (i := 137) (by decide +kernel) (by decide +kernel), amIn_3, rfl, by decide +kernel, by decide +kernel, by decide +kernel⟩
theorem amAt_38 : amAll[38]? = some (amR38, amC38) := rfl
theorem amTg_39 : amTgtP amR39 := ⟨amTB_of (i := 337) (by decide +kernel) (by decide +kernel), amIn_3, rfl, by decide +kernel, by decide +kernel, by decide +kernel⟩
theorem amAt_39 : amAll[39]? = some (amR39, amC39) := rfl
theorem amTg_40 : amTgtP amR40 := ⟨amTB_of (i := 353) (by decide +kernel) (by decide +kernel), amIn_3, rfl, by decide +kernel, by decide +kernel, by decide +kernel⟩
theorem amAt_40 : amAll[40]? = some (amR40, amC40) := rfl
theorem amTg_41 : amTgtP amR41 := ⟨amTB_of (i := 361) (by decide +kernel) (by decide +kernel), amIn_3, rfl, by decide +kernel, by decide +kernel, by decide +kernel⟩
theorem amAt_41 : amAll[41]? = some (amR41, amC41) := rfl
theorem amTg_42 : amTgtP amR42 := ⟨amTB_of (i := 391) (by decide +kernel) (by decide +kernel), amIn_3, rfl, by decide +kernel, by decide +kernel, by decide +kernel⟩
theorem amAt_42 : amAll[42]? = some (amR42, amC42) := rfl
theorem amTg_43 : amTgtP amR43 := ⟨amTB_of (i := 398) (by decide +kernel) (by decide +kernel), amIn_3, rfl, by decide +kernel, by decide +kernel, by decide +kernel⟩
theorem amAt_43 : amAll[43]? = some (amR43, amC43) := rfl
theorem amTg_44 : amTgtP amR44 := ⟨amTB_of (i := 405) (by decide +kernel) (by decide +kernel), amIn_3, rfl, by decide +kernel, by decide +kernel, by decide +kernel⟩
theorem amAt_44 : amAll[44]? = some (amR44, amC44) := rfl
theorem amTg_45 : amTgtP amR45 := ⟨amTB_of (i := 433) (by decide +kernel) (by decide +kernel), amIn_3, rfl, by decide +kernel, by decide +kernel, by decide +kernel⟩
theorem amAt_45 : amAll[45]? = some (amR45, amC45) := rfl
theorem amTg_46 : amTgtP amR46 := ⟨amTB_of (i := 444) (by decide +kernel) (by decide +kernel), amIn_3, rfl, by decide +kernel, by decide +kernel, by decide +kernel⟩
theorem amAt_46 : amAll[46]? = some (amR46, amC46) := rfl
theorem amTg_47 : amTgtP amR47 := ⟨amTB_of (i := 452) (by decide +kernel) (by decide +kernel), amIn_3, rfl, by decide +kernel, by decide +kernel, by decide +kernel⟩
theorem amAt_47 : amAll[47]? = some (amR47, amC47) := rfl
theorem amTg_48 : amTgtP amR48 := ⟨amTB_of (i := 465) (by decide +kernel) (by decide +kernel), amIn_3, rfl, by decide +kernel, by decide +kernel, by decide +kernel⟩
theorem amAt_48 : amAll[48]? = some (amR48, amC48) := rfl
theorem amTg_49 : amTgtP amR49 := ⟨amTB_of (i := 473) (by decide +kernel) (by decide +kernel), amIn_3, rfl, by decide +kernel, by decide +kernel, by decide +kernel⟩
theorem amAt_49 : amAll[49]? = some (amR49, amC49) := rfl
theorem amTg_50 : amTgtP amR50 := ⟨amTB_of (i := 484) (by decide +kernel) (by decide +kernel), amIn_3, rfl, by decide +kernel, by decide +kernel, by decide +kernel⟩
theorem amAt_50 : amAll[50]? = some (amR50, amC50) := rfl
theorem amTg_51 : amTgtP amR51 := ⟨amTB_of (i := 500) (by decide +kernel) (by decide +kernel), amIn_3, rfl, by decide +kernel, by decide +kernel, by decide +kernel⟩
theorem amAt_51 : amAll[51]? = some (amR51, amC51) := rfl
theorem amTg_52 : amTgtP amR52 := ⟨amTB_of (i := 511) (by decide +kernel) (by decide +kernel), amIn_3, rfl, by decide +kernel, by decide +kernel, by decide +kernel⟩
theorem amAt_52 : amAll[52]? = some (amR52, amC52) := rfl
theorem amTg_53 : amTgtP amR53 := ⟨amTB_of (i := 518) (by decide +kernel) (by decide +kernel), amIn_3, rfl, by decide +kernel, by decide +kernel, by decide +kernel⟩
theorem amAt_53 : amAll[53]? = some (amR53, amC53) := rfl
theorem amTg_54 : amTgtP amR54 := ⟨amTB_of (i := 525) (by decide +kernel) (by decide +kernel), amIn_3, rfl, by decide +kernel, by decide +kernel, by decide +kernel⟩
theorem amAt_54 : amAll[54]? = some (amR54, amC54) := rfl
theorem amTg_55 : amTgtP amR55 := ⟨amTB_of (i := 532) (by decide +kernel) (by decide +kernel), amIn_3, rfl, by decide +kernel, by decide +kernel, by decide +kernel⟩
theorem amAt_55 : amAll[55]? = some (amR55, amC55) := rfl
theorem amTg_56 : amTgtP amR56 := ⟨amTB_of (i := 543) (by decide +kernel) (by decide +kernel), amIn_3, rfl, by decide +kernel, by decide +kernel, by decide +kernel⟩
theorem amAt_56 : amAll[56]? = some (amR56, amC56) := rfl
theorem amTg_57 : amTgtP amR57 := ⟨amTB_of (i := 551) (by decide +kernel) (by decide +kernel), amIn_3, rfl, by decide +kernel, by decide +kernel, by decide +kernel⟩
theorem amAt_57 : amAll[57]? = some (amR57, amC57) := rfl
theorem amTg_58 : amTgtP amR58 := ⟨amTB_of (i := 563) (by decide +kernel) (by decide +kernel), amIn_3, rfl, by decide +kernel, by decide +kernel, by decide +kernel⟩
theorem amAt_58 : amAll[58]? = some (amR58, amC58) := rfl
theorem amTg_59 : amTgtP amR59 := ⟨amTB_of (i := 570) (by decide +kernel) (by decide +kernel), amIn_3, rfl, by decide +kernel, by decide +kernel, by decide +kernel⟩
theorem amAt_59 : amAll[59]? = some (amR59, amC59) := rfl
theorem amTg_60 : amTgtP amR60 := ⟨amTB_of (i := 581) (by decide +kernel) (by decide +kernel), amIn_3, rfl, by decide +kernel, by decide +kernel, by decide +kernel⟩
theorem amAt_60 : amAll[60]? = some (amR60, amC60) := rfl
theorem amTg_61 : amTgtP amR61 := ⟨amTB_of (i := 588) (by decide +kernel) (by decide +kernel), amIn_3, rfl, by decide +kernel, by decide +kernel, by decide +kernel⟩
theorem amAt_61 : amAll[61]? = some (amR61, amC61) := rfl
theorem amTg_62 : amTgtP amR62 := ⟨amTB_of (i := 595) (by decide +kernel) (by decide +kernel), amIn_3, rfl, by decide +kernel, by decide +kernel, by decide +kernel⟩
theorem amAt_62 : amAll[62]? = some (amR62, amC62) := rfl
theorem amTg_63 : amTgtP amR63 := ⟨amTB_of (i := 602) (by decide +kernel) (by decide +kernel), amIn_3, rfl, by decide +kernel, by decide +kernel, by decide +kernel⟩
theorem amAt_63 : amAll[63]? = some (amR63, amC63) := rfl
theorem amTg_64 : amTgtP amR64 := ⟨amTB_of (i := 610) (by decide +kernel) (by decide +kernel), amIn_3, rfl, by decide +kernel, by decide +kernel, by decide +kernel⟩
theorem amAt_64 : amAll[64]? = some (amR64, amC64) := rfl
theorem amTg_65 : amTgtP amR65 := ⟨amTB_of (i := 618) (by decide +kernel) (by decide +kernel), amIn_3, rfl, by decide +kernel, by decide +kernel, by decide +kernel⟩
theorem amAt_65 : amAll[65]? = some (amR65, amC65) := rfl
theorem amTg_66 : amTgtP amR66 := ⟨amTB_of (i := 626) (by decide +kernel) (by decide +kernel), amIn_3, rfl, by decide +kernel, by decide +kernel, by decide +kernel⟩
theorem amAt_66 : amAll[66]? = some (amR66, amC66) := rfl
theorem amTg_67 : amTgtP amR67 := ⟨amTB_of (i := 141) (by decide +kernel) (by decide +kernel), amIn_3, rfl, by decide +kernel, by decide +kernel, by decide +kernel⟩
theorem amAt_67 : amAll[67]? = some (amR67, amC67) := rfl
theorem amTg_68 : amTgtP amR68 := ⟨amTB_of (i := 554) (by decide +kernel) (by decide +kernel), amIn_3, rfl, by decide +kernel, by decide +kernel, by decide +kernel⟩
theorem amAt_68 : amAll[68]? = some (amR68, amC68) := rfl
theorem amTg_69 : amTgtP amR69 := ⟨amTB_of (i := 364) (by decide +kernel) (by decide +kernel), amIn_3, rfl, by decide +kernel, by decide +kernel, by decide +kernel⟩
theorem amAt_69 : amAll[69]? = some (amR69, amC69) := rfl
theorem amTg_70 : amTgtP amR70 := ⟨amTB_of (i := 383) (by decide +kernel) (by decide +kernel), amIn_3, rfl, by decide +kernel, by decide +kernel, by decide +kernel⟩
theorem amAt_70 : amAll[70]? = some (amR70, amC70) := rfl
theorem amTg_71 : amTgtP amR71 := ⟨amTB_of (i := 269) (by decide +kernel) (by decide +kernel), amIn_3, rfl, by decide +kernel, by decide +kernel, by decide +kernel⟩
theorem amAt_71 : amAll[71]? = some (amR71, amC71) := rfl
theorem amTg_72 : amTgtP amR72 := ⟨amTB_of (i := 279) (by decide +kernel) (by decide +kernel), amIn_3, rfl, by decide +kernel, by decide +kernel, by decide +kernel⟩
theorem amAt_72 : amAll[72]? = some (amR72, amC72) := rfl
theorem amTg_73 : amTgtP amR73 := ⟨amTB_of (i := 276) (by decide +kernel) (by decide +kernel), amIn_3, rfl, by decide +kernel, by decide +kernel, by decide +kernel⟩
theorem amAt_73 : amAll[73]? = some (amR73, amC73) := rfl
theorem amTg_74 : amTgtP amR74 := ⟨amTB_of (i := 214) (by decide +kernel) (by decide +kernel), amIn_3, rfl, by decide +kernel, by decide +kernel, by decide +kernel⟩
theorem amAt_74 : amAll[74]? = some (amR74, amC74) := rfl
theorem amTg_75 : amTgtP amR75 := ⟨amTB_of (i := 341) (by decide +kernel) (by decide +kernel), amIn_3, rfl, by decide +kernel, by decide +kernel, by decide +kernel⟩
theorem amAt_75 : amAll[75]? = some (amR75, amC75) := rfl
theorem amTg_76 : amTgtP amR76 := ⟨amTB_of (i := 457) (by decide +kernel) (by decide +kernel), amIn_3, rfl, by decide +kernel, by decide +kernel, by decide +kernel⟩
theorem amAt_76 : amAll[76]? = some (amR76, amC76) := rfl
theorem amTg_77 : amTgtP amR77 := ⟨amTB_of (i := 636) (by decide +kernel) (by decide +kernel), amIn_4, rfl, by decide +kernel, by decide +kernel, by decide +kernel⟩
theorem amAt_77 : amAll[77]? = some (amR77, amC77) := rfl
theorem amTg_78 : amTgtP amR78 := ⟨amTB_of (i := 666) (by decide +kernel) (by decide +kernel), amIn_4, rfl, by decide +kernel, by decide +kernel, by decide +kernel⟩
theorem amAt_78 : amAll[78]? = some (amR78, amC78) := rfl
theorem amTg_79 : amTgtP amR79 := ⟨amTB_of (i := 684) (by decide +kernel) (by decide +kernel), amIn_4, rfl, by decide +kernel, by decide +kernel, by decide +kernel⟩
theorem amAt_79 : amAll[79]? = some (amR79, amC79) := rfl
theorem amTg_80 : amTgtP amR80 := ⟨amTB_of (i := 681) (by decide +kernel) (by decide +kernel), amIn_4, rfl, by decide +kernel, by decide +kernel, by decide +kernel⟩
theorem amAt_80 : amAll[80]? = some (amR80, amC80) := rfl
theorem amTg_81 : amTgtP amR81 := ⟨amTB_of (i := 721) (by decide +kernel) (by decide +kernel), amIn_4, rfl, by decide +kernel, by decide +kernel, by decide +kernel⟩
theorem amAt_81 : amAll[81]? = some (amR81, amC81) := rfl
theorem amTg_82 : amTgtP amR82 := ⟨amTB_of (i := 688) (by decide +kernel) (by decide +kernel), amIn_4, rfl, by decide +kernel, by decide +kernel, by decide +kernel⟩
theorem amAt_82 : amAll[82]? = some (amR82, amC82) := rfl
theorem amTg_83 : amTgtP amR83 := ⟨amTB_of (i := 703) (by decide +kernel) (by decide +kernel), amIn_4, rfl, by decide +kernel, by decide +kernel, by decide +kernel⟩
theorem amAt_83 : amAll[83]? = some (amR83, amC83) := rfl
theorem amTg_84 : amTgtP amR84 := ⟨amTB_of (i := 699) (by decide +kernel) (by decide +kernel), amIn_4, rfl, by decide +kernel, by decide +kernel, by decide +kernel⟩
theorem amAt_84 : amAll[84]? = some (amR84, amC84) := rfl
theorem amTg_85 : amTgtP amR85 := ⟨amTB_of (i := 696) (by decide +kernel) (by decide +kernel), amIn_4, rfl, by decide +kernel, by decide +kernel, by decide +kernel⟩
theorem amAt_85 : amAll[85]? = some (amR85, amC85) := rfl
theorem amTg_86 : amTgtP amR86 := ⟨amTB_of (i := 706) (by decide +kernel) (by decide +kernel), amIn_4, rfl, by decide +kernel, by decide +kernel, by decide +kernel⟩
theorem amAt_86 : amAll[86]? = some (amR86, amC86) := rfl
theorem amTg_87 : amTgtP amR87 := ⟨amTB_of (i := 673) (by decide +kernel) (by decide +kernel), amIn_4, rfl, by decide +kernel, by decide +kernel, by decide +kernel⟩
theorem amAt_87 : amAll[87]? = some (amR87, amC87) := rfl
theorem amTg_88 : amTgtP amR88 := ⟨amTB_of (i := 798) (by decide +kernel) (by decide +kernel), amIn_4, rfl, by decide +kernel, by decide +kernel, by decide +kernel⟩
theorem amAt_88 : amAll[88]? = some (amR88, amC88) := rfl
theorem amTg_89 : amTgtP amR89 := ⟨amTB_of (i := 794) (by decide +kernel) (by decide +kernel), amIn_4, rfl, by decide +kernel, by decide +kernel, by decide +kernel⟩
theorem amAt_89 : amAll[89]? = some (amR89, amC89) := rfl
theorem amTg_90 : amTgtP amR90 := ⟨amTB_of (i := 802) (by decide +kernel) (by decide +kernel), amIn_4, rfl, by decide +kernel, by decide +kernel, by decide +kernel⟩
theorem amAt_90 : amAll[90]? = some (amR90, amC90) := rfl
theorem amTg_91 : amTgtP amR91 := ⟨amTB_of (i := 814) (by decide +kernel) (by decide +kernel), amIn_4, rfl, by decide +kernel, by decide +kernel, by decide +kernel⟩
theorem amAt_91 : amAll[91]? = some (amR91, amC91) := rfl
theorem amTg_92 : amTgtP amR92 := ⟨amTB_of (i := 830) (by decide +kernel) (by decide +kernel), amIn_4, rfl, by decide +kernel, by decide +kernel, by decide +kernel⟩
theorem amAt_92 : amAll[92]? = some (amR92, amC92) := rfl
theorem amTg_93 : amTgtP amR93 := ⟨amTB_of (i := 670) (by decide +kernel) (by decide +kernel), amIn_4, rfl, by decide +kernel, by decide +kernel, by decide +kernel⟩
theorem amAt_93 : amAll[93]? = some (amR93, amC93) := rfl
theorem amTg_94 : amTgtP amR94 := ⟨amTB_of (i := 692) (by decide +kernel) (by decide +kernel), amIn_4, rfl, by decide +kernel, by decide +kernel, by decide +kernel⟩
theorem amAt_94 : amAll[94]? = some (amR94, amC94) := rfl
theorem amTg_95 : amTgtP amR95 := ⟨amTB_of (i := 678) (by decide +kernel) (by decide +kernel), amIn_4, rfl, by decide +kernel, by decide +kernel, by decide +kernel⟩
theorem amAt_95 : amAll[95]? = some (amR95, amC95) := rfl
theorem amTg_96 : amTgtP amR96 := ⟨amTB_of (i := 710) (by decide +kernel) (by decide +kernel), amIn_4, rfl, by decide +kernel, by decide +kernel, by decide +kernel⟩
theorem amAt_96 : amAll[96]? = some (amR96, amC96) := rfl
theorem amTg_97 : amTgtP amR97 := ⟨amTB_of (i := 714) (by decide +kernel) (by decide +kernel), amIn_4, rfl, by decide +kernel, by decide +kernel, by decide +kernel⟩
theorem amAt_97 : amAll[97]? = some (amR97, amC97) := rfl
theorem amTg_98 : amTgtP amR98 := ⟨amTB_of (i := 718) (by decide +kernel) (by decide +kernel), amIn_4, rfl, by decide +kernel, by decide +kernel, by decide +kernel⟩
theorem amAt_98 : amAll[98]? = some (amR98, amC98) := rfl
theorem amTg_99 : amTgtP amR99 := ⟨amTB_of (i := 725) (by decide +kernel) (by decide +kernel), amIn_4, rfl, by decide +kernel, by decide +kernel, by decide +kernel⟩
theorem amAt_99 : amAll[99]? = some (amR99, amC99) := rfl
theorem amTg_100 : amTgtP amR100 := ⟨amTB_of (i := 729) (by decide +kernel) (by decide +kernel), amIn_4, rfl, by decide +kernel, by decide +kernel, by decide +kernel⟩
theorem amAt_100 : amAll[100]? = some (amR100, amC100) := rfl
theorem amTg_101 : amTgtP amR101 := ⟨amTB_of (i := 733) (by decide +kernel) (by decide +kernel), amIn_4, rfl, by decide +kernel, by decide +kernel, by decide +kernel⟩
theorem amAt_101 : amAll[101]? = some (amR101, amC101) := rfl
theorem amTg_102 : amTgtP amR102 := ⟨amTB_of (i := 738) (by decide +kernel) (by decide +kernel), amIn_4, rfl, by decide +kernel, by decide +kernel, by decide +kernel⟩
theorem amAt_102 : amAll[102]? = some (amR102, amC102) := rfl
theorem amTg_103 : amTgtP amR103 := ⟨amTB_of (i := 742) (by decide +kernel) (by decide +kernel), amIn_4, rfl, by decide +kernel, by decide +kernel, by decide +kernel⟩
theorem amAt_103 : amAll[103]? = some (amR103, amC103) := rfl
theorem amTg_104 : amTgtP amR104 := ⟨amTB_of (i := 746) (by decide +kernel) (by decide +kernel), amIn_4, rfl, by decide +kernel, by decide +kernel, by decide +kernel⟩
theorem amAt_104 : amAll[104]? = some (amR104, amC104) := rfl
theorem amTg_105 : amTgtP amR105 := ⟨amTB_of (i := 750) (by decide +kernel) (by decide +kernel), amIn_4, rfl, by decide +kernel, by decide +kernel, by decide +kernel⟩
theorem amAt_105 : amAll[105]? = some (amR105, amC105) := rfl
theorem amTg_106 : amTgtP amR106 := ⟨amTB_of (i := 754) (by decide +kernel) (by decide +kernel), amIn_4, rfl, by decide +kernel, by decide +kernel, by decide +kernel⟩
theorem amAt_106 : amAll[106]? = some (amR106, amC106) := rfl
theorem amTg_107 : amTgtP amR107 := ⟨amTB_of (i := 758) (by decide +kernel) (by decide +kernel), amIn_4, rfl, by decide +kernel, by decide +kernel, by decide +kernel⟩
theorem amAt_107 : amAll[107]? = some (amR107, amC107) := rfl
theorem amTg_108 : amTgtP amR108 := ⟨amTB_of (i := 762) (by decide +kernel) (by decide +kernel), amIn_4, rfl, by decide +kernel, by decide +kernel, by decide +kernel⟩
theorem amAt_108 : amAll[108]? = some (amR108, amC108) := rfl
theorem amTg_109 : amTgtP amR109 := ⟨amTB_of (i := 766) (by decide +kernel) (by decide +kernel), amIn_4, rfl, by decide +kernel, by decide +kernel, by decide +kernel⟩
theorem amAt_109 : amAll[109]? = some (amR109, amC109) := rfl
theorem amTg_110 : amTgtP amR110 := ⟨amTB_of (i := 770) (by decide +kernel) (by decide +kernel), amIn_4, rfl, by decide +kernel, by decide +kernel, by decide +kernel⟩
theorem amAt_110 : amAll[110]? = some (amR110, amC110) := rfl
theorem amTg_111 : amTgtP amR111 := ⟨amTB_of (i := 774) (by decide +kernel) (by decide +kernel), amIn_4, rfl, by decide +kernel, by decide +kernel, by decide +kernel⟩
theorem amAt_111 : amAll[111]? = some (amR111, amC111) := rfl
theorem amTg_112 : amTgtP amR112 := ⟨amTB_of (i := 778) (by decide +kernel) (by decide +kernel), amIn_4, rfl, by decide +kernel, by decide +kernel, by decide +kernel⟩
theorem amAt_112 : amAll[112]? = some (amR112, amC112) := rfl
theorem amTg_113 : amTgtP amR113 := ⟨amTB_of (i := 782) (by decide +kernel) (by decide +kernel), amIn_4, rfl, by decide +kernel, by decide +kernel, by decide +kernel⟩
theorem amAt_113 : amAll[113]? = some (amR113, amC113) := rfl
theorem amTg_114 : amTgtP amR114 := ⟨amTB_of (i := 790) (by decide +kernel) (by decide +kernel), amIn_4, rfl, by decide +kernel, by decide +kernel, by decide +kernel⟩
theorem amAt_114 : amAll[114]? = some (amR114, amC114) := rfl
theorem amTg_115 : amTgtP amR115 := ⟨amTB_of (i := 786) (by decide +kernel) (by decide +kernel), amIn_4, rfl, by decide +kernel, by decide +kernel, by decide +kernel⟩
theorem amAt_115 : amAll[115]? = some (amR115, amC115) := rfl
theorem amTg_116 : amTgtP amR116 := ⟨amTB_of (i := 806) (by decide +kernel) (by decide +kernel), amIn_4, rfl, by decide +kernel, by decide +kernel, by decide +kernel⟩
theorem amAt_116 : amAll[116]? = some (amR116, amC116) := rfl
theorem amTg_117 : amTgtP amR117 := ⟨amTB_of (i := 810) (by decide +kernel) (by decide +kernel), amIn_4, rfl, by decide +kernel, by decide +kernel, by decide +kernel⟩
theorem amAt_117 : amAll[117]? = some (amR117, amC117) := rfl
theorem amTg_118 : amTgtP amR118 := ⟨amTB_of (i := 818) (by decide +kernel) (by decide +kernel), amIn_4, rfl, by decide +kernel, by decide +kernel, by decide +kernel⟩
theorem amAt_118 : amAll[118]? = some (amR118, amC118) := rfl
theorem amTg_119 : amTgtP amR119 := ⟨amTB_of (i := 822) (by decide +kernel) (by decide +kernel), amIn_4, rfl, by decide +kernel, by decide +kernel, by decide +kernel⟩
theorem amAt_119 : amAll[119]? = some (amR119, amC119) := rfl
theorem amTg_120 : amTgtP amR120 := ⟨amTB_of (i := 826) (by decide +kernel) (by decide +kernel), amIn_4, rfl, by decide +kernel, by decide +kernel, by decide +kernel⟩
theorem amAt_120 : amAll[120]? = some (amR120, amC120) := rfl
theorem amTg_121 : amTgtP amR121 := ⟨amTB_of (i := 834) (by decide +kernel) (by decide +kernel), amIn_4, rfl, by decide +kernel, by decide +kernel, by decide +kernel⟩
theorem amAt_121 : amAll[121]? = some (amR121, amC121) := rfl
theorem amTg_122 : amTgtP amR122 := ⟨amTB_of (i := 838) (by decide +kernel) (by decide +kernel), amIn_4, rfl, by decide +kernel, by decide +kernel, by decide +kernel⟩
theorem amAt_122 : amAll[122]? = some (amR122, amC122) := rfl
theorem amTg_123 : amTgtP amR123 := ⟨amTB_of (i := 842) (by decide +kernel) (by decide +kernel), amIn_4, rfl, by decide +kernel, by decide +kernel, by decide +kernel⟩
theorem amAt_123 : amAll[123]? = some (amR123, amC123) := rfl
theorem amTg_124 : amTgtP amR124 := ⟨amTB_of (i := 846) (by decide +kernel) (by decide +kernel), amIn_4, rfl, by decide +kernel, by decide +kernel, by decide +kernel⟩
theorem amAt_124 : amAll[124]? = some (amR124, amC124) := rfl
theorem amTg_125 : amTgtP amR125 := ⟨amTB_of (i := 131) (by decide +kernel) (by decide +kernel), amIn_5, rfl, by decide +kernel, by decide +kernel, by decide +kernel⟩
theorem amAt_125 : amAll[125]? = some (amR125, amC125) := rfl
theorem amTg_126 : amTgtP amR126 := ⟨amTB_of (i := 333) (by decide +kernel) (by decide +kernel), amIn_5, rfl, by decide +kernel, by decide +kernel, by decide +kernel⟩
theorem amAt_126 : amAll[126]? = some (amR126, amC126) := rfl
theorem amTg_127 : amTgtP amR127 := ⟨amTB_of (i := 349) (by decide +kernel) (by decide +kernel), amIn_5, rfl, by decide +kernel, by decide +kernel, by decide +kernel⟩
theorem amAt_127 : amAll[127]? = some (amR127, amC127) := rfl
theorem amTg_128 : amTgtP amR128 := ⟨amTB_of (i := 356) (by decide +kernel) (by decide +kernel), amIn_5, rfl, by decide +kernel, by decide +kernel, by decide +kernel⟩
theorem amAt_128 : amAll[128]? = some (amR128, amC128) := rfl
theorem amTg_129 : amTgtP amR129 := ⟨amTB_of (i := 387) (by decide +kernel) (by decide +kernel), amIn_5, rfl, by decide +kernel, by decide +kernel, by decide +kernel⟩
theorem amAt_129 : amAll[129]? = some (amR129, amC129) := rfl
theorem amTg_130 : amTgtP amR130 := ⟨amTB_of (i := 394) (by decide +kernel) (by decide +kernel), amIn_5, rfl, by decide +kernel, by decide +kernel, by decide +kernel⟩
theorem amAt_130 : amAll[130]? = some (amR130, amC130) := rfl
theorem amTg_131 : amTgtP amR131 := ⟨amTB_of (i := 401) (by decide +kernel) (by decide +kernel), amIn_5, rfl, by decide +kernel, by decide +kernel, by decide +kernel⟩
theorem amAt_131 : amAll[131]? = some (amR131, amC131) := rfl
theorem amTg_132 : amTgtP amR132 := ⟨amTB_of (i := 429) (by decide +kernel) (by decide +kernel), amIn_5, rfl, by decide +kernel, by decide +kernel, by decide +kernel⟩
theorem amAt_132 : amAll[132]? = some (amR132, amC132) := rfl
theorem amTg_133 : amTgtP amR133 := ⟨amTB_of (i := 440) (by decide +kernel) (by decide +kernel), amIn_5, rfl, by decide +kernel, by decide +kernel, by decide +kernel⟩
theorem amAt_133 : amAll[133]? = some (amR133, amC133) := rfl
theorem amTg_134 : amTgtP amR134 := ⟨amTB_of (i := 448) (by decide +kernel) (by decide +kernel), amIn_5, rfl, by decide +kernel, by decide +kernel, by decide +kernel⟩
theorem amAt_134 : amAll[134]? = some (amR134, amC134) := rfl
theorem amTg_135 : amTgtP amR135 := ⟨amTB_of (i := 461) (by decide +kernel) (by decide +kernel), amIn_5, rfl, by decide +kernel, by decide +kernel, by decide +kernel⟩
theorem amAt_135 : amAll[135]? = some (amR135, amC135) := rfl
theorem amTg_136 : amTgtP amR136 := ⟨amTB_of (i := 469) (by decide +kernel) (by decide +kernel), amIn_5, rfl, by decide +kernel, by decide +kernel, by decide +kernel⟩
theorem amAt_136 : amAll[136]? = some (amR136, amC136) := rfl
theorem amTg_137 : amTgtP amR137 := ⟨amTB_of (i := 480) (by decide +kernel) (by decide +kernel), amIn_5, rfl, by decide +kernel, by decide +kernel, by decide +kernel⟩
theorem amAt_137 : amAll[137]? = some (amR137, amC137) := rfl
theorem amTg_138 : amTgtP amR138 := ⟨amTB_of (i := 496) (by decide +kernel) (by decide +kernel), amIn_5, rfl, by decide +kernel, by decide +kernel, by decide +kernel⟩
theorem amAt_138 : amAll[138]? = some (amR138, amC138) := rfl
theorem amTg_139 : amTgtP amR139 := ⟨amTB_of (i := 507) (by decide +kernel) (by decide +kernel), amIn_5, rfl, by decide +kernel, by decide +kernel, by decide +kernel⟩
theorem amAt_139 : amAll[139]? = some (amR139, amC139) := rfl
theorem amTg_140 : amTgtP amR140 := ⟨amTB_of (i := 514) (by decide +kernel) (by decide +kernel), amIn_5, rfl, by decide +kernel, by decide +kernel, by decide +kernel⟩
theorem amAt_140 : amAll[140]? = some (amR140, amC140) := rfl
theorem amTg_141 : amTgtP amR141 := ⟨amTB_of (i := 521) (by decide +kernel) (by decide +kernel), amIn_5, rfl, by decide +kernel, by decide +kernel, by decide +kernel⟩
theorem amAt_141 : amAll[141]? = some (amR141, amC141) := rfl
theorem amTg_142 : amTgtP amR142 := ⟨amTB_of (i := 528) (by decide +kernel) (by decide +kernel), amIn_5, rfl, by decide +kernel, by decide +kernel, by decide +kernel⟩
theorem amAt_142 : amAll[142]? = some (amR142, amC142) := rfl
theorem amTg_143 : amTgtP amR143 := ⟨amTB_of (i := 539) (by decide +kernel) (by decide +kernel), amIn_5, rfl, by decide +kernel, by decide +kernel, by decide +kernel⟩
theorem amAt_143 : amAll[143]? = some (amR143, amC143) := rfl
theorem amTg_144 : amTgtP amR144 := ⟨amTB_of (i := 547) (by decide +kernel) (by decide +kernel), amIn_5, rfl, by decide +kernel, by decide +kernel, by decide +kernel⟩
theorem amAt_144 : amAll[144]? = some (amR144, amC144) := rfl
theorem amTg_145 : amTgtP amR145 := ⟨amTB_of (i := 559) (by decide +kernel) (by decide +kernel), amIn_5, rfl, by decide +kernel, by decide +kernel, by decide +kernel⟩
theorem amAt_145 : amAll[145]? = some (amR145, amC145) := rfl
theorem amTg_146 : amTgtP amR146 := ⟨amTB_of (i := 566) (by decide +kernel) (by decide +kernel), amIn_5, rfl, by decide +kernel, by decide +kernel, by decide +kernel⟩
theorem amAt_146 : amAll[146]? = some (amR146, amC146) := rfl
theorem amTg_147 : amTgtP amR147 := ⟨amTB_of (i := 577) (by decide +kernel) (by decide +kernel), amIn_5, rfl, by decide +kernel, by decide +kernel, by decide +kernel⟩
theorem amAt_147 : amAll[147]? = some (amR147, amC147) := rfl
theorem amTg_148 : amTgtP amR148 := ⟨amTB_of (i := 584) (by decide +kernel) (by decide +kernel), amIn_5, rfl, by decide +kernel, by decide +kernel, by decide +kernel⟩
theorem amAt_148 : amAll[148]? = some (amR148, amC148) := rfl
theorem amTg_149 : amTgtP amR149 := ⟨amTB_of (i := 591) (by decide +kernel) (by decide +kernel), amIn_5, rfl, by decide +kernel, by decide +kernel, by decide +kernel⟩
theorem amAt_149 : amAll[149]? = some (amR149, amC149) := rfl
theorem amTg_150 : amTgtP amR150 := ⟨amTB_of (i := 598) (by decide +kernel) (by decide +kernel), amIn_5, rfl, by decide +kernel, by decide +kernel, by decide +kernel⟩
theorem amAt_150 : amAll[150]? = some (amR150, amC150) := rfl
theorem amTg_151 : amTgtP amR151 := ⟨amTB_of (i := 606) (by decide +kernel) (by decide +kernel), amIn_5, rfl, by decide +kernel, by decide +kernel, by decide +kernel⟩
theorem amAt_151 : amAll[151]? = some (amR151, amC151) := rfl
theorem amTg_152 : amTgtP amR152 := ⟨amTB_of (i := 614) (by decide +kernel) (by decide +kernel), amIn_5, rfl, by decide +kernel, by decide +kernel, by decide +kernel⟩
theorem amAt_152 : amAll[152]? = some (amR152, amC152) := rfl
theorem amTg_153 : amTgtP amR153 := ⟨amTB_of (i := 622) (by decide +kernel) (by decide +kernel), amIn_5, rfl, by decide +kernel, by decide +kernel, by decide +kernel⟩
theorem amAt_153 : amAll[153]? = some (amR153, amC153) := rfl
theorem amL_0_22 : amLnkP (0, 22, 0, 1, 0) amR1 := ⟨by decide +kernel, amTg_1, amTB_of (i := 265) (by decide +kernel) (by decide +kernel), amTB_of (i := 220) (by decide +kernel) (by decide +kernel), amTB_of (i := 221) (by decide +kernel) (by decide +kernel), by decide +kernel, rfl⟩
theorem amL_0_25 : amLnkP (0, 25, 0, 2, 2) amR2 := ⟨by decide +kernel, amTg_2, amTB_of (i := 266) (by decide +kernel) (by decide +kernel), amTB_of (i := 256) (by decide +kernel) (by decide +kernel), amTB_of (i := 257) (by decide +kernel) (by decide +kernel), by decide +kernel, rfl⟩
theorem amL_0_29 : amLnkP (0, 29, 0, 6, 2) amR6 := ⟨by decide +kernel, amTg_6, amTB_of (i := 489) (by decide +kernel) (by decide +kernel), amTB_of (i := 490) (by decide +kernel) (by decide +kernel), amTB_of (i := 491) (by decide +kernel) (by decide +kernel), by decide +kernel, rfl⟩
theorem amL_0_38 : amLnkP (0, 38, 2, 73, 1) amR73 := ⟨by decide +kernel, amTg_73, by decide +kernel, amTB_of (i := 275) (by decide +kernel) (by decide +kernel), rfl⟩
theorem amL_1_18 : amLnkP (1, 18, 0, 22, 0) amR22 := ⟨by decide +kernel, amTg_22, amTB_of (i := 410) (by decide +kernel) (by decide +kernel), amTB_of (i := 411) (by decide +kernel) (by decide +kernel), amTB_of (i := 412) (by decide +kernel) (by decide +kernel), by decide +kernel, rfl⟩
theorem amL_1_24 : amLnkP (1, 24, 0, 14, 0) amR14 := ⟨by decide +kernel, amTg_14, amTB_of (i := 414) (by decide +kernel) (by decide +kernel), amTB_of (i := 224) (by decide +kernel) (by decide +kernel), amTB_of (i := 225) (by decide +kernel) (by decide +kernel), by decide +kernel, rfl⟩
theorem amL_1_27 : amLnkP (1, 27, 0, 16, 1) amR16 := ⟨by decide +kernel, amTg_16, amTB_of (i := 415) (by decide +kernel) (by decide +kernel), amTB_of (i := 232) (by decide +kernel) (by decide +kernel), amTB_of (i := 233) (by decide +kernel) (by decide +kernel), by decide +kernel, rfl⟩
theorem amL_1_31 : amLnkP (1, 31, 0, 15, 1) amR15 := ⟨by decide +kernel, amTg_15, amTB_of (i := 416) (by decide +kernel) (by decide +kernel), amTB_of (i := 248) (by decide +kernel) (by decide +kernel), amTB_of (i := 249) (by decide +kernel) (by decide +kernel), by decide +kernel, rfl⟩
theorem amL_1_35 : amLnkP (1, 35, 1, 11, 3) amR11 := ⟨by decide +kernel, amTg_11, amTB_of (i := 417) (by decide +kernel) (by decide +kernel), amTB_of (i := 418) (by decide +kernel) (by decide +kernel)⟩
theorem amL_1_46 : amLnkP (1, 46, 0, 23, 1) amR23 := ⟨by decide +kernel, amTg_23, amTB_of (i := 420) (by decide +kernel) (by decide +kernel), amTB_of (i := 228) (by decide +kernel) (by decide +kernel), amTB_of (i := 229) (by decide +kernel) (by decide +kernel), by decide +kernel, rfl⟩
theorem amL_1_49 : amLnkP (1, 49, 0, 18, 1) amR18 := ⟨by decide +kernel, amTg_18, amTB_of (i := 425) (by decide +kernel) (by decide +kernel), amTB_of (i := 321) (by decide +kernel) (by decide +kernel), amTB_of (i := 322) (by decide +kernel) (by decide +kernel), by decide +kernel, rfl⟩
theorem amL_1_52 : amLnkP (1, 52, 0, 17, 1) amR17 := ⟨by decide +kernel, amTg_17, amTB_of (i := 426) (by decide +kernel) (by decide +kernel), amTB_of (i := 309) (by decide +kernel) (by decide +kernel), amTB_of (i := 310) (by decide +kernel) (by decide +kernel), by decide +kernel, rfl⟩
theorem amL_2_32 : amLnkP (2, 32, 0, 14, 0) amR14 := ⟨by decide +kernel, amTg_14, amTB_of (i := 223) (by decide +kernel) (by decide +kernel), amTB_of (i := 224) (by decide +kernel) (by decide +kernel), amTB_of (i := 225) (by decide +kernel) (by decide +kernel), by decide +kernel, rfl⟩
theorem amL_2_36 : amLnkP (2, 36, 0, 15, 1) amR15 := ⟨by decide +kernel, amTg_15, amTB_of (i := 247) (by decide +kernel) (by decide +kernel), amTB_of (i := 248) (by decide +kernel) (by decide +kernel), amTB_of (i := 249) (by decide +kernel) (by decide +kernel), by decide +kernel, rfl⟩
theorem amL_2_40 : amLnkP (2, 40, 0, 16, 1) amR16 := ⟨by decide +kernel, amTg_16, amTB_of (i := 231) (by decide +kernel) (by decide +kernel), amTB_of (i := 232) (by decide +kernel) (by decide +kernel), amTB_of (i := 233) (by decide +kernel) (by decide +kernel), by decide +kernel, rfl⟩
theorem amL_2_44 : amLnkP (2, 44, 0, 24, 1) amR24 := ⟨by decide +kernel, amTg_24, amTB_of (i := 239) (by decide +kernel) (by decide +kernel), amTB_of (i := 240) (by decide +kernel) (by decide +kernel), amTB_of (i := 241) (by decide +kernel) (by decide +kernel), by decide +kernel, rfl⟩
theorem amL_2_47 : amLnkP (2, 47, 0, 26, 1) amR26 := ⟨by decide +kernel, amTg_26, amTB_of (i := 243) (by decide +kernel) (by decide +kernel), amTB_of (i := 244) (by decide +kernel) (by decide +kernel), amTB_of (i := 245) (by decide +kernel) (by decide +kernel), by decide +kernel, rfl⟩
theorem amL_2_50 : amLnkP (2, 50, 0, 23, 1) amR23 := ⟨by decide +kernel, amTg_23, amTB_of (i := 227) (by decide +kernel) (by decide +kernel), amTB_of (i := 228) (by decide +kernel) (by decide +kernel), amTB_of (i := 229) (by decide +kernel) (by decide +kernel), by decide +kernel, rfl⟩
theorem amL_2_53 : amLnkP (2, 53, 0, 17, 1) amR17 := ⟨by decide +kernel, amTg_17, amTB_of (i := 308) (by decide +kernel) (by decide +kernel), amTB_of (i := 309) (by decide +kernel) (by decide +kernel), amTB_of (i := 310) (by decide +kernel) (by decide +kernel), by decide +kernel, rfl⟩
theorem amL_2_56 : amLnkP (2, 56, 0, 25, 1) amR25 := ⟨by decide +kernel, amTg_25, amTB_of (i := 235) (by decide +kernel) (by decide +kernel), amTB_of (i := 236) (by decide +kernel) (by decide +kernel), amTB_of (i := 237) (by decide +kernel) (by decide +kernel), by decide +kernel, rfl⟩
theorem amL_2_59 : amLnkP (2, 59, 0, 18, 1) amR18 := ⟨by decide +kernel, amTg_18, amTB_of (i := 320) (by decide +kernel) (by decide +kernel), amTB_of (i := 321) (by decide +kernel) (by decide +kernel), amTB_of (i := 322) (by decide +kernel) (by decide +kernel), by decide +kernel, rfl⟩
theorem amL_2_62 : amLnkP (2, 62, 0, 22, 0) amR22 := ⟨by decide +kernel, amTg_22, amTB_of (i := 631) (by decide +kernel) (by decide +kernel), amTB_of (i := 411) (by decide +kernel) (by decide +kernel), amTB_of (i := 412) (by decide +kernel) (by decide +kernel), by decide +kernel, rfl⟩
theorem amL_2_71 : amLnkP (2, 71, 0, 1, 0) amR1 := ⟨by decide +kernel, amTg_1, amTB_of (i := 219) (by decide +kernel) (by decide +kernel), amTB_of (i := 220) (by decide +kernel) (by decide +kernel), amTB_of (i := 221) (by decide +kernel) (by decide +kernel), by decide +kernel, rfl⟩
theorem amL_2_76 : amLnkP (2, 76, 0, 19, 2) amR19 := ⟨by decide +kernel, amTg_19, amTB_of (i := 251) (by decide +kernel) (by decide +kernel), amTB_of (i := 252) (by decide +kernel) (by decide +kernel), amTB_of (i := 253) (by decide +kernel) (by decide +kernel), by decide +kernel, rfl⟩
theorem amL_2_79 : amLnkP (2, 79, 0, 2, 2) amR2 := ⟨by decide +kernel, amTg_2, amTB_of (i := 255) (by decide +kernel) (by decide +kernel), amTB_of (i := 256) (by decide +kernel) (by decide +kernel), amTB_of (i := 257) (by decide +kernel) (by decide +kernel), by decide +kernel, rfl⟩
theorem amL_2_83 : amLnkP (2, 83, 0, 32, 0) amR32 := ⟨by decide +kernel, amTg_32, amTB_of (i := 300) (by decide +kernel) (by decide +kernel), amTB_of (i := 301) (by decide +kernel) (by decide +kernel), amTB_of (i := 302) (by decide +kernel) (by decide +kernel), by decide +kernel, rfl⟩
theorem amL_2_86 : amLnkP (2, 86, 0, 34, 1) amR34 := ⟨by decide +kernel, amTg_34, amTB_of (i := 304) (by decide +kernel) (by decide +kernel), amTB_of (i := 305) (by decide +kernel) (by decide +kernel), amTB_of (i := 306) (by decide +kernel) (by decide +kernel), by decide +kernel, rfl⟩
theorem amL_2_99 : amLnkP (2, 99, 0, 35, 3) amR35 := ⟨by decide +kernel, amTg_35, amTB_of (i := 316) (by decide +kernel) (by decide +kernel), amTB_of (i := 317) (by decide +kernel) (by decide +kernel), amTB_of (i := 318) (by decide +kernel) (by decide +kernel), by decide +kernel, rfl⟩
theorem amL_2_103 : amLnkP (2, 103, 2, 73, 1) amR73 := ⟨by decide +kernel, amTg_73, by decide +kernel, amTB_of (i := 275) (by decide +kernel) (by decide +kernel), rfl⟩
theorem amL_3_15 : amLnkP (3, 15, 3, 13, 0) amR13 := ⟨by decide +kernel, amTg_13, amTB_of (i := 39) (by decide +kernel) (by decide +kernel), amTB_of (i := 40) (by decide +kernel) (by decide +kernel), rfl, rfl, rfl, by decide +kernel⟩
theorem amL_3_18 : amLnkP (3, 18, 3, 0, 0) amR0 := ⟨by decide +kernel, amTg_0, amTB_of (i := 76) (by decide +kernel) (by decide +kernel), amTB_of (i := 77) (by decide +kernel) (by decide +kernel), rfl, rfl, rfl, by decide +kernel⟩
theorem amL_3_31 : amLnkP (3, 31, 3, 9, 0) amR9 := ⟨by decide +kernel, amTg_9, amTB_of (i := 97) (by decide +kernel) (by decide +kernel), amTB_of (i := 98) (by decide +kernel) (by decide +kernel), rfl, rfl, rfl, by decide +kernel⟩
theorem amL_3_37 : amLnkP (3, 37, 0, 67, 1) amR67 := ⟨by decide +kernel, amTg_67, amTB_of (i := 138) (by decide +kernel) (by decide +kernel), amTB_of (i := 140) (by decide +kernel) (by decide +kernel), amTB_of (i := 0) (by decide +kernel) (by decide +kernel), by decide +kernel, rfl⟩
theorem amL_3_41 : amLnkP (3, 41, 0, 37, 1) amR37 := ⟨by decide +kernel, amTg_37, amTB_of (i := 210) (by decide +kernel) (by decide +kernel), amTB_of (i := 125) (by decide +kernel) (by decide +kernel), amTB_of (i := 126) (by decide +kernel) (by decide +kernel), by decide +kernel, rfl⟩
theorem amL_3_45 : amLnkP (3, 45, 0, 74, 3) amR74 := ⟨by decide +kernel, amTg_74, amTB_of (i := 211) (by decide +kernel) (by decide +kernel), amTB_of (i := 213) (by decide +kernel) (by decide +kernel), amTB_of (i := 2) (by decide +kernel) (by decide +kernel), by decide +kernel, rfl⟩
theorem amL_3_49 : amLnkP (3, 49, 0, 75, 3) amR75 := ⟨by decide +kernel, amTg_75, amTB_of (i := 338) (by decide +kernel) (by decide +kernel), amTB_of (i := 340) (by decide +kernel) (by decide +kernel), amTB_of (i := 3) (by decide +kernel) (by decide +kernel), by decide +kernel, rfl⟩
theorem amL_3_52 : amLnkP (3, 52, 0, 28, 1) amR28 := ⟨by decide +kernel, amTg_28, amTB_of (i := 327) (by decide +kernel) (by decide +kernel), amTB_of (i := 328) (by decide +kernel) (by decide +kernel), amTB_of (i := 329) (by decide +kernel) (by decide +kernel), by decide +kernel, rfl⟩
theorem amL_3_55 : amLnkP (3, 55, 1, 69, 1) amR69 := ⟨by decide +kernel, amTg_69, amTB_of (i := 362) (by decide +kernel) (by decide +kernel), amTB_of (i := 363) (by decide +kernel) (by decide +kernel)⟩
theorem amL_3_59 : amLnkP (3, 59, 1, 70, 1) amR70 := ⟨by decide +kernel, amTg_70, amTB_of (i := 381) (by decide +kernel) (by decide +kernel), amTB_of (i := 382) (by decide +kernel) (by decide +kernel)⟩
theorem amL_3_62 : amLnkP (3, 62, 0, 10, 1) amR10 := ⟨by decide +kernel, amTg_10, amTB_of (i := 406) (by decide +kernel) (by decide +kernel), amTB_of (i := 407) (by decide +kernel) (by decide +kernel), amTB_of (i := 408) (by decide +kernel) (by decide +kernel), by decide +kernel, rfl⟩
theorem amL_3_66 : amLnkP (3, 66, 0, 12, 2) amR12 := ⟨by decide +kernel, amTg_12, amTB_of (i := 421) (by decide +kernel) (by decide +kernel), amTB_of (i := 422) (by decide +kernel) (by decide +kernel), amTB_of (i := 423) (by decide +kernel) (by decide +kernel), by decide +kernel, rfl⟩
theorem amL_3_70 : amLnkP (3, 70, 0, 29, 1) amR29 := ⟨by decide +kernel, amTg_29, amTB_of (i := 434) (by decide +kernel) (by decide +kernel), amTB_of (i := 435) (by decide +kernel) (by decide +kernel), amTB_of (i := 436) (by decide +kernel) (by decide +kernel), by decide +kernel, rfl⟩
theorem amL_3_73 : amLnkP (3, 73, 0, 32, 0) amR32 := ⟨by decide +kernel, amTg_32, amTB_of (i := 445) (by decide +kernel) (by decide +kernel), amTB_of (i := 301) (by decide +kernel) (by decide +kernel), amTB_of (i := 302) (by decide +kernel) (by decide +kernel), by decide +kernel, rfl⟩
theorem amL_3_87 : amLnkP (3, 87, 0, 76, 2) amR76 := ⟨by decide +kernel, amTg_76, amTB_of (i := 454) (by decide +kernel) (by decide +kernel), amTB_of (i := 456) (by decide +kernel) (by decide +kernel), amTB_of (i := 4) (by decide +kernel) (by decide +kernel), by decide +kernel, rfl⟩
theorem amL_3_92 : amLnkP (3, 92, 0, 31, 1) amR31 := ⟨by decide +kernel, amTg_31, amTB_of (i := 215) (by decide +kernel) (by decide +kernel), amTB_of (i := 216) (by decide +kernel) (by decide +kernel), amTB_of (i := 217) (by decide +kernel) (by decide +kernel), by decide +kernel, rfl⟩
theorem amL_3_96 : amLnkP (3, 96, 0, 3, 2) amR3 := ⟨by decide +kernel, amTg_3, amTB_of (i := 261) (by decide +kernel) (by decide +kernel), amTB_of (i := 262) (by decide +kernel) (by decide +kernel), amTB_of (i := 263) (by decide +kernel) (by decide +kernel), by decide +kernel, rfl⟩
theorem amL_3_100 : amLnkP (3, 100, 1, 71, 2) amR71 := ⟨by decide +kernel, amTg_71, amTB_of (i := 267) (by decide +kernel) (by decide +kernel), amTB_of (i := 268) (by decide +kernel) (by decide +kernel)⟩
theorem amL_3_104 : amLnkP (3, 104, 0, 33, 2) amR33 := ⟨by decide +kernel, amTg_33, amTB_of (i := 296) (by decide +kernel) (by decide +kernel), amTB_of (i := 297) (by decide +kernel) (by decide +kernel), amTB_of (i := 298) (by decide +kernel) (by decide +kernel), by decide +kernel, rfl⟩
theorem amL_3_108 : amLnkP (3, 108, 0, 20, 0) amR20 := ⟨by decide +kernel, amTg_20, amTB_of (i := 474) (by decide +kernel) (by decide +kernel), amTB_of (i := 475) (by decide +kernel) (by decide +kernel), amTB_of (i := 476) (by decide +kernel) (by decide +kernel), by decide +kernel, rfl⟩
theorem amL_3_112 : amLnkP (3, 112, 0, 4, 2) amR4 := ⟨by decide +kernel, amTg_4, amTB_of (i := 485) (by decide +kernel) (by decide +kernel), amTB_of (i := 486) (by decide +kernel) (by decide +kernel), amTB_of (i := 487) (by decide +kernel) (by decide +kernel), by decide +kernel, rfl⟩
theorem amL_3_115 : amLnkP (3, 115, 0, 7, 1) amR7 := ⟨by decide +kernel, amTg_7, amTB_of (i := 501) (by decide +kernel) (by decide +kernel), amTB_of (i := 502) (by decide +kernel) (by decide +kernel), amTB_of (i := 503) (by decide +kernel) (by decide +kernel), by decide +kernel, rfl⟩
theorem amL_3_119 : amLnkP (3, 119, 0, 14, 0) amR14 := ⟨by decide +kernel, amTg_14, amTB_of (i := 458) (by decide +kernel) (by decide +kernel), amTB_of (i := 224) (by decide +kernel) (by decide +kernel), amTB_of (i := 225) (by decide +kernel) (by decide +kernel), by decide +kernel, rfl⟩
theorem amL_3_125 : amLnkP (3, 125, 0, 21, 0) amR21 := ⟨by decide +kernel, amTg_21, amTB_of (i := 533) (by decide +kernel) (by decide +kernel), amTB_of (i := 534) (by decide +kernel) (by decide +kernel), amTB_of (i := 535) (by decide +kernel) (by decide +kernel), by decide +kernel, rfl⟩
theorem amL_3_137 : amLnkP (3, 137, 1, 68, 2) amR68 := ⟨by decide +kernel, amTg_68, amTB_of (i := 552) (by decide +kernel) (by decide +kernel), amTB_of (i := 553) (by decide +kernel) (by decide +kernel)⟩
theorem amL_3_141 : amLnkP (3, 141, 0, 15, 1) amR15 := ⟨by decide +kernel, amTg_15, amTB_of (i := 556) (by decide +kernel) (by decide +kernel), amTB_of (i := 248) (by decide +kernel) (by decide +kernel), amTB_of (i := 249) (by decide +kernel) (by decide +kernel), by decide +kernel, rfl⟩
theorem amL_3_151 : amLnkP (3, 151, 0, 27, 1) amR27 := ⟨by decide +kernel, amTg_27, amTB_of (i := 571) (by decide +kernel) (by decide +kernel), amTB_of (i := 572) (by decide +kernel) (by decide +kernel), amTB_of (i := 573) (by decide +kernel) (by decide +kernel), by decide +kernel, rfl⟩
theorem amL_3_164 : amLnkP (3, 164, 0, 25, 1) amR25 := ⟨by decide +kernel, amTg_25, amTB_of (i := 603) (by decide +kernel) (by decide +kernel), amTB_of (i := 236) (by decide +kernel) (by decide +kernel), amTB_of (i := 237) (by decide +kernel) (by decide +kernel), by decide +kernel, rfl⟩
theorem amL_3_167 : amLnkP (3, 167, 0, 26, 1) amR26 := ⟨by decide +kernel, amTg_26, amTB_of (i := 611) (by decide +kernel) (by decide +kernel), amTB_of (i := 244) (by decide +kernel) (by decide +kernel), amTB_of (i := 245) (by decide +kernel) (by decide +kernel), by decide +kernel, rfl⟩
theorem amL_3_170 : amLnkP (3, 170, 0, 24, 1) amR24 := ⟨by decide +kernel, amTg_24, amTB_of (i := 619) (by decide +kernel) (by decide +kernel), amTB_of (i := 240) (by decide +kernel) (by decide +kernel), amTB_of (i := 241) (by decide +kernel) (by decide +kernel), by decide +kernel, rfl⟩
theorem amL_3_173 : amLnkP (3, 173, 0, 30, 0) amR30 := ⟨by decide +kernel, amTg_30, amTB_of (i := 627) (by decide +kernel) (by decide +kernel), amTB_of (i := 628) (by decide +kernel) (by decide +kernel), amTB_of (i := 629) (by decide +kernel) (by decide +kernel), by decide +kernel, rfl⟩
theorem amL_3_187 : amLnkP (3, 187, 0, 8, 0) amR8 := ⟨by decide +kernel, amTg_8, amTB_of (i := 270) (by decide +kernel) (by decide +kernel), amTB_of (i := 271) (by decide +kernel) (by decide +kernel), amTB_of (i := 272) (by decide +kernel) (by decide +kernel), by decide +kernel, rfl⟩
theorem amL_3_190 : amLnkP (3, 190, 1, 72, 1) amR72 := ⟨by decide +kernel, amTg_72, amTB_of (i := 277) (by decide +kernel) (by decide +kernel), amTB_of (i := 278) (by decide +kernel) (by decide +kernel)⟩
theorem amL_3_195 : amLnkP (3, 195, 0, 1, 0) amR1 := ⟨by decide +kernel, amTg_1, amTB_of (i := 259) (by decide +kernel) (by decide +kernel), amTB_of (i := 220) (by decide +kernel) (by decide +kernel), amTB_of (i := 221) (by decide +kernel) (by decide +kernel), by decide +kernel, rfl⟩
theorem amL_3_198 : amLnkP (3, 198, 0, 2, 2) amR2 := ⟨by decide +kernel, amTg_2, amTB_of (i := 260) (by decide +kernel) (by decide +kernel), amTB_of (i := 256) (by decide +kernel) (by decide +kernel), amTB_of (i := 257) (by decide +kernel) (by decide +kernel), by decide +kernel, rfl⟩
theorem amL_3_208 : amLnkP (3, 208, 0, 5, 3) amR5 := ⟨by decide +kernel, amTg_5, amTB_of (i := 343) (by decide +kernel) (by decide +kernel), amTB_of (i := 344) (by decide +kernel) (by decide +kernel), amTB_of (i := 345) (by decide +kernel) (by decide +kernel), by decide +kernel, rfl⟩
theorem amL_4_35 : amLnkP (4, 35, 1, 79, 3) amR79 := ⟨by decide +kernel, amTg_79, amTB_of (i := 682) (by decide +kernel) (by decide +kernel), amTB_of (i := 683) (by decide +kernel) (by decide +kernel)⟩
theorem amL_4_39 : amLnkP (4, 39, 1, 84, 1) amR84 := ⟨by decide +kernel, amTg_84, amTB_of (i := 697) (by decide +kernel) (by decide +kernel), amTB_of (i := 698) (by decide +kernel) (by decide +kernel)⟩
theorem amL_4_44 : amLnkP (4, 44, 0, 83, 1) amR83 := ⟨by decide +kernel, amTg_83, amTB_of (i := 700) (by decide +kernel) (by decide +kernel), amTB_of (i := 702) (by decide +kernel) (by decide +kernel), amTB_of (i := 8) (by decide +kernel) (by decide +kernel), by decide +kernel, rfl⟩
theorem amL_4_47 : amLnkP (4, 47, 0, 88, 1) amR88 := ⟨by decide +kernel, amTg_88, amTB_of (i := 795) (by decide +kernel) (by decide +kernel), amTB_of (i := 797) (by decide +kernel) (by decide +kernel), amTB_of (i := 11) (by decide +kernel) (by decide +kernel), by decide +kernel, rfl⟩
theorem amL_4_51 : amLnkP (4, 51, 0, 90, 1) amR90 := ⟨by decide +kernel, amTg_90, amTB_of (i := 799) (by decide +kernel) (by decide +kernel), amTB_of (i := 801) (by decide +kernel) (by decide +kernel), amTB_of (i := 12) (by decide +kernel) (by decide +kernel), by decide +kernel, rfl⟩
theorem amL_4_55 : amLnkP (4, 55, 0, 91, 2) amR91 := ⟨by decide +kernel, amTg_91, amTB_of (i := 811) (by decide +kernel) (by decide +kernel), amTB_of (i := 813) (by decide +kernel) (by decide +kernel), amTB_of (i := 13) (by decide +kernel) (by decide +kernel), by decide +kernel, rfl⟩
theorem amL_4_59 : amLnkP (4, 59, 1, 87, 1) amR87 := ⟨by decide +kernel, amTg_87, amTB_of (i := 671) (by decide +kernel) (by decide +kernel), amTB_of (i := 672) (by decide +kernel) (by decide +kernel)⟩
theorem amL_4_62 : amLnkP (4, 62, 0, 85, 1) amR85 := ⟨by decide +kernel, amTg_85, amTB_of (i := 693) (by decide +kernel) (by decide +kernel), amTB_of (i := 695) (by decide +kernel) (by decide +kernel), amTB_of (i := 7) (by decide +kernel) (by decide +kernel), by decide +kernel, rfl⟩
theorem amL_4_65 : amLnkP (4, 65, 1, 86, 2) amR86 := ⟨by decide +kernel, amTg_86, amTB_of (i := 704) (by decide +kernel) (by decide +kernel), amTB_of (i := 705) (by decide +kernel) (by decide +kernel)⟩
theorem amL_4_69 : amLnkP (4, 69, 1, 80, 1) amR80 := ⟨by decide +kernel, amTg_80, amTB_of (i := 679) (by decide +kernel) (by decide +kernel), amTB_of (i := 680) (by decide +kernel) (by decide +kernel)⟩
theorem amL_4_72 : amLnkP (4, 72, 0, 82, 2) amR82 := ⟨by decide +kernel, amTg_82, amTB_of (i := 685) (by decide +kernel) (by decide +kernel), amTB_of (i := 687) (by decide +kernel) (by decide +kernel), amTB_of (i := 5) (by decide +kernel) (by decide +kernel), by decide +kernel, rfl⟩
theorem amL_4_76 : amLnkP (4, 76, 0, 94, 3) amR94 := ⟨by decide +kernel, amTg_94, amTB_of (i := 689) (by decide +kernel) (by decide +kernel), amTB_of (i := 691) (by decide +kernel) (by decide +kernel), amTB_of (i := 6) (by decide +kernel) (by decide +kernel), by decide +kernel, rfl⟩
theorem amL_4_79 : amLnkP (4, 79, 1, 81, 1) amR81 := ⟨by decide +kernel, amTg_81, amTB_of (i := 719) (by decide +kernel) (by decide +kernel), amTB_of (i := 720) (by decide +kernel) (by decide +kernel)⟩
theorem amL_4_82 : amLnkP (4, 82, 0, 100, 2) amR100 := ⟨by decide +kernel, amTg_100, amTB_of (i := 734) (by decide +kernel) (by decide +kernel), amTB_of (i := 727) (by decide +kernel) (by decide +kernel), amTB_of (i := 728) (by decide +kernel) (by decide +kernel), by decide +kernel, rfl⟩
theorem amL_4_85 : amLnkP (4, 85, 0, 89, 1) amR89 := ⟨by decide +kernel, amTg_89, amTB_of (i := 791) (by decide +kernel) (by decide +kernel), amTB_of (i := 793) (by decide +kernel) (by decide +kernel), amTB_of (i := 10) (by decide +kernel) (by decide +kernel), by decide +kernel, rfl⟩
theorem amL_4_88 : amLnkP (4, 88, 0, 114, 2) amR114 := ⟨by decide +kernel, amTg_114, amTB_of (i := 787) (by decide +kernel) (by decide +kernel), amTB_of (i := 789) (by decide +kernel) (by decide +kernel), amTB_of (i := 9) (by decide +kernel) (by decide +kernel), by decide +kernel, rfl⟩
theorem amL_4_91 : amLnkP (4, 91, 0, 92, 2) amR92 := ⟨by decide +kernel, amTg_92, amTB_of (i := 827) (by decide +kernel) (by decide +kernel), amTB_of (i := 829) (by decide +kernel) (by decide +kernel), amTB_of (i := 14) (by decide +kernel) (by decide +kernel), by decide +kernel, rfl⟩
theorem amL_5_7 : amLnkP (5, 7, 0, 38, 2) amR38 := ⟨by decide +kernel, amTg_38, amTB_of (i := 134) (by decide +kernel) (by decide +kernel), amTB_of (i := 135) (by decide +kernel) (by decide +kernel), amTB_of (i := 136) (by decide +kernel) (by decide +kernel), by decide +kernel, rfl⟩
theorem amL_5_17 : amLnkP (5, 17, 0, 39, 2) amR39 := ⟨by decide +kernel, amTg_39, amTB_of (i := 334) (by decide +kernel) (by decide +kernel), amTB_of (i := 335) (by decide +kernel) (by decide +kernel), amTB_of (i := 336) (by decide +kernel) (by decide +kernel), by decide +kernel, rfl⟩
theorem amL_5_21 : amLnkP (5, 21, 0, 40, 2) amR40 := ⟨by decide +kernel, amTg_40, amTB_of (i := 350) (by decide +kernel) (by decide +kernel), amTB_of (i := 351) (by decide +kernel) (by decide +kernel), amTB_of (i := 352) (by decide +kernel) (by decide +kernel), by decide +kernel, rfl⟩
theorem amL_5_24 : amLnkP (5, 24, 0, 41, 3) amR41 := ⟨by decide +kernel, amTg_41, amTB_of (i := 358) (by decide +kernel) (by decide +kernel), amTB_of (i := 359) (by decide +kernel) (by decide +kernel), amTB_of (i := 360) (by decide +kernel) (by decide +kernel), by decide +kernel, rfl⟩
theorem amL_5_30 : amLnkP (5, 30, 0, 42, 3) amR42 := ⟨by decide +kernel, amTg_42, amTB_of (i := 388) (by decide +kernel) (by decide +kernel), amTB_of (i := 389) (by decide +kernel) (by decide +kernel), amTB_of (i := 390) (by decide +kernel) (by decide +kernel), by decide +kernel, rfl⟩
theorem amL_5_33 : amLnkP (5, 33, 0, 43, 2) amR43 := ⟨by decide +kernel, amTg_43, amTB_of (i := 395) (by decide +kernel) (by decide +kernel), amTB_of (i := 396) (by decide +kernel) (by decide +kernel), amTB_of (i := 397) (by decide +kernel) (by decide +kernel), by decide +kernel, rfl⟩
theorem amL_5_36 : amLnkP (5, 36, 0, 44, 2) amR44 := ⟨by decide +kernel, amTg_44, amTB_of (i := 402) (by decide +kernel) (by decide +kernel), amTB_of (i := 403) (by decide +kernel) (by decide +kernel), amTB_of (i := 404) (by decide +kernel) (by decide +kernel), by decide +kernel, rfl⟩
theorem amL_5_39 : amLnkP (5, 39, 0, 45, 2) amR45 := ⟨by decide +kernel, amTg_45, amTB_of (i := 430) (by decide +kernel) (by decide +kernel), amTB_of (i := 431) (by decide +kernel) (by decide +kernel), amTB_of (i := 432) (by decide +kernel) (by decide +kernel), by decide +kernel, rfl⟩
theorem amL_5_42 : amLnkP (5, 42, 0, 46, 1) amR46 := ⟨by decide +kernel, amTg_46, amTB_of (i := 441) (by decide +kernel) (by decide +kernel), amTB_of (i := 442) (by decide +kernel) (by decide +kernel), amTB_of (i := 443) (by decide +kernel) (by decide +kernel), by decide +kernel, rfl⟩
theorem amL_5_46 : amLnkP (5, 46, 0, 47, 1) amR47 := ⟨by decide +kernel, amTg_47, amTB_of (i := 449) (by decide +kernel) (by decide +kernel), amTB_of (i := 450) (by decide +kernel) (by decide +kernel), amTB_of (i := 451) (by decide +kernel) (by decide +kernel), by decide +kernel, rfl⟩
theorem amL_5_50 : amLnkP (5, 50, 0, 48, 1) amR48 := ⟨by decide +kernel, amTg_48, amTB_of (i := 462) (by decide +kernel) (by decide +kernel), amTB_of (i := 463) (by decide +kernel) (by decide +kernel), amTB_of (i := 464) (by decide +kernel) (by decide +kernel), by decide +kernel, rfl⟩
theorem amL_5_53 : amLnkP (5, 53, 0, 49, 2) amR49 := ⟨by decide +kernel, amTg_49, amTB_of (i := 470) (by decide +kernel) (by decide +kernel), amTB_of (i := 471) (by decide +kernel) (by decide +kernel), amTB_of (i := 472) (by decide +kernel) (by decide +kernel), by decide +kernel, rfl⟩
theorem amL_5_56 : amLnkP (5, 56, 0, 50, 2) amR50 := ⟨by decide +kernel, amTg_50, amTB_of (i := 481) (by decide +kernel) (by decide +kernel), amTB_of (i := 482) (by decide +kernel) (by decide +kernel), amTB_of (i := 483) (by decide +kernel) (by decide +kernel), by decide +kernel, rfl⟩
theorem amL_5_59 : amLnkP (5, 59, 0, 51, 2) amR51 := ⟨by decide +kernel, amTg_51, amTB_of (i := 497) (by decide +kernel) (by decide +kernel), amTB_of (i := 498) (by decide +kernel) (by decide +kernel), amTB_of (i := 499) (by decide +kernel) (by decide +kernel), by decide +kernel, rfl⟩
theorem amL_5_62 : amLnkP (5, 62, 0, 52, 1) amR52 := ⟨by decide +kernel, amTg_52, amTB_of (i := 508) (by decide +kernel) (by decide +kernel), amTB_of (i := 509) (by decide +kernel) (by decide +kernel), amTB_of (i := 510) (by decide +kernel) (by decide +kernel), by decide +kernel, rfl⟩
theorem amL_5_65 : amLnkP (5, 65, 0, 53, 1) amR53 := ⟨by decide +kernel, amTg_53, amTB_of (i := 515) (by decide +kernel) (by decide +kernel), amTB_of (i := 516) (by decide +kernel) (by decide +kernel), amTB_of (i := 517) (by decide +kernel) (by decide +kernel), by decide +kernel, rfl⟩
theorem amL_5_68 : amLnkP (5, 68, 0, 54, 1) amR54 := ⟨by decide +kernel, amTg_54, amTB_of (i := 522) (by decide +kernel) (by decide +kernel), amTB_of (i := 523) (by decide +kernel) (by decide +kernel), amTB_of (i := 524) (by decide +kernel) (by decide +kernel), by decide +kernel, rfl⟩
theorem amL_5_71 : amLnkP (5, 71, 0, 55, 1) amR55 := ⟨by decide +kernel, amTg_55, amTB_of (i := 529) (by decide +kernel) (by decide +kernel), amTB_of (i := 530) (by decide +kernel) (by decide +kernel), amTB_of (i := 531) (by decide +kernel) (by decide +kernel), by decide +kernel, rfl⟩
theorem amL_5_74 : amLnkP (5, 74, 0, 56, 2) amR56 := ⟨by decide +kernel, amTg_56, amTB_of (i := 540) (by decide +kernel) (by decide +kernel), amTB_of (i := 541) (by decide +kernel) (by decide +kernel), amTB_of (i := 542) (by decide +kernel) (by decide +kernel), by decide +kernel, rfl⟩
theorem amL_5_77 : amLnkP (5, 77, 0, 57, 2) amR57 := ⟨by decide +kernel, amTg_57, amTB_of (i := 548) (by decide +kernel) (by decide +kernel), amTB_of (i := 549) (by decide +kernel) (by decide +kernel), amTB_of (i := 550) (by decide +kernel) (by decide +kernel), by decide +kernel, rfl⟩
theorem amL_5_80 : amLnkP (5, 80, 0, 58, 2) amR58 := ⟨by decide +kernel, amTg_58, amTB_of (i := 560) (by decide +kernel) (by decide +kernel), amTB_of (i := 561) (by decide +kernel) (by decide +kernel), amTB_of (i := 562) (by decide +kernel) (by decide +kernel), by decide +kernel, rfl⟩
theorem amL_5_83 : amLnkP (5, 83, 0, 59, 2) amR59 := ⟨by decide +kernel, amTg_59, amTB_of (i := 567) (by decide +kernel) (by decide +kernel), amTB_of (i := 568) (by decide +kernel) (by decide +kernel), amTB_of (i := 569) (by decide +kernel) (by decide +kernel), by decide +kernel, rfl⟩
theorem amL_5_86 : amLnkP (5, 86, 0, 60, 2) amR60 := ⟨by decide +kernel, amTg_60, amTB_of (i := 578) (by decide +kernel) (by decide +kernel), amTB_of (i := 579) (by decide +kernel) (by decide +kernel), amTB_of (i := 580) (by decide +kernel) (by decide +kernel), by decide +kernel, rfl⟩
theorem amL_5_89 : amLnkP (5, 89, 0, 61, 2) amR61 := ⟨by decide +kernel, amTg_61, amTB_of (i := 585) (by decide +kernel) (by decide +kernel), amTB_of (i := 586) (by decide +kernel) (by decide +kernel), amTB_of (i := 587) (by decide +kernel) (by decide +kernel), by decide +kernel, rfl⟩
theorem amL_5_92 : amLnkP (5, 92, 0, 62, 2) amR62 := ⟨by decide +kernel, amTg_62, amTB_of (i := 592) (by decide +kernel) (by decide +kernel), amTB_of (i := 593) (by decide +kernel) (by decide +kernel), amTB_of (i := 594) (by decide +kernel) (by decide +kernel), by decide +kernel, rfl⟩
theorem amL_5_95 : amLnkP (5, 95, 0, 63, 2) amR63 := ⟨by decide +kernel, amTg_63, amTB_of (i := 599) (by decide +kernel) (by decide +kernel), amTB_of (i := 600) (by decide +kernel) (by decide +kernel), amTB_of (i := 601) (by decide +kernel) (by decide +kernel), by decide +kernel, rfl⟩
theorem amL_5_98 : amLnkP (5, 98, 0, 64, 2) amR64 := ⟨by decide +kernel, amTg_64, amTB_of (i := 607) (by decide +kernel) (by decide +kernel), amTB_of (i := 608) (by decide +kernel) (by decide +kernel), amTB_of (i := 609) (by decide +kernel) (by decide +kernel), by decide +kernel, rfl⟩
theorem amL_5_101 : amLnkP (5, 101, 0, 65, 2) amR65 := ⟨by decide +kernel, amTg_65, amTB_of (i := 615) (by decide +kernel) (by decide +kernel), amTB_of (i := 616) (by decide +kernel) (by decide +kernel), amTB_of (i := 617) (by decide +kernel) (by decide +kernel), by decide +kernel, rfl⟩
theorem amL_5_104 : amLnkP (5, 104, 0, 66, 1) amR66 := ⟨by decide +kernel, amTg_66, amTB_of (i := 623) (by decide +kernel) (by decide +kernel), amTB_of (i := 624) (by decide +kernel) (by decide +kernel), amTB_of (i := 625) (by decide +kernel) (by decide +kernel), by decide +kernel, rfl⟩
theorem amL_5_107 : amLnkP (5, 107, 3, 36, 0) amR36 := ⟨by decide +kernel, amTg_36, amTB_of (i := 30) (by decide +kernel) (by decide +kernel), amTB_of (i := 31) (by decide +kernel) (by decide +kernel), rfl, rfl, rfl, by decide +kernel⟩
theorem amL_5_110 : amLnkP (5, 110, 3, 77, 0) amR77 := ⟨by decide +kernel, amTg_77, amTB_of (i := 634) (by decide +kernel) (by decide +kernel), amTB_of (i := 635) (by decide +kernel) (by decide +kernel), rfl, rfl, rfl, by decide +kernel⟩
theorem amL_5_111 : amLnkP (5, 111, 0, 37, 1) amR37 := ⟨by decide +kernel, amTg_37, amTB_of (i := 124) (by decide +kernel) (by decide +kernel), amTB_of (i := 125) (by decide +kernel) (by decide +kernel), amTB_of (i := 126) (by decide +kernel) (by decide +kernel), by decide +kernel, rfl⟩
theorem amL_5_114 : amLnkP (5, 114, 0, 93, 1) amR93 := ⟨by decide +kernel, amTg_93, amTB_of (i := 667) (by decide +kernel) (by decide +kernel), amTB_of (i := 668) (by decide +kernel) (by decide +kernel), amTB_of (i := 669) (by decide +kernel) (by decide +kernel), by decide +kernel, rfl⟩
theorem amL_5_115 : amLnkP (5, 115, 1, 125, 4) amR125 := ⟨by decide +kernel, amTg_125, amTB_of (i := 129) (by decide +kernel) (by decide +kernel), amTB_of (i := 130) (by decide +kernel) (by decide +kernel)⟩
theorem amL_5_120 : amLnkP (5, 120, 0, 95, 2) amR95 := ⟨by decide +kernel, amTg_95, amTB_of (i := 675) (by decide +kernel) (by decide +kernel), amTB_of (i := 676) (by decide +kernel) (by decide +kernel), amTB_of (i := 677) (by decide +kernel) (by decide +kernel), by decide +kernel, rfl⟩
theorem amL_5_121 : amLnkP (5, 121, 0, 78, 0) amR78 := ⟨by decide +kernel, amTg_78, amTB_of (i := 663) (by decide +kernel) (by decide +kernel), amTB_of (i := 664) (by decide +kernel) (by decide +kernel), amTB_of (i := 665) (by decide +kernel) (by decide +kernel), by decide +kernel, rfl⟩
theorem amL_5_125 : amLnkP (5, 125, 1, 126, 4) amR126 := ⟨by decide +kernel, amTg_126, amTB_of (i := 331) (by decide +kernel) (by decide +kernel), amTB_of (i := 332) (by decide +kernel) (by decide +kernel)⟩
theorem amL_5_127 : amLnkP (5, 127, 0, 96, 2) amR96 := ⟨by decide +kernel, amTg_96, amTB_of (i := 707) (by decide +kernel) (by decide +kernel), amTB_of (i := 708) (by decide +kernel) (by decide +kernel), amTB_of (i := 709) (by decide +kernel) (by decide +kernel), by decide +kernel, rfl⟩
theorem amL_5_128 : amLnkP (5, 128, 1, 127, 4) amR127 := ⟨by decide +kernel, amTg_127, amTB_of (i := 347) (by decide +kernel) (by decide +kernel), amTB_of (i := 348) (by decide +kernel) (by decide +kernel)⟩
theorem amL_5_130 : amLnkP (5, 130, 0, 97, 2) amR97 := ⟨by decide +kernel, amTg_97, amTB_of (i := 711) (by decide +kernel) (by decide +kernel), amTB_of (i := 712) (by decide +kernel) (by decide +kernel), amTB_of (i := 713) (by decide +kernel) (by decide +kernel), by decide +kernel, rfl⟩
theorem amL_5_131 : amLnkP (5, 131, 1, 128, 5) amR128 := ⟨by decide +kernel, amTg_128, amTB_of (i := 354) (by decide +kernel) (by decide +kernel), amTB_of (i := 355) (by decide +kernel) (by decide +kernel)⟩
theorem amL_5_134 : amLnkP (5, 134, 0, 98, 3) amR98 := ⟨by decide +kernel, amTg_98, amTB_of (i := 715) (by decide +kernel) (by decide +kernel), amTB_of (i := 716) (by decide +kernel) (by decide +kernel), amTB_of (i := 717) (by decide +kernel) (by decide +kernel), by decide +kernel, rfl⟩
theorem amL_5_135 : amLnkP (5, 135, 1, 129, 5) amR129 := ⟨by decide +kernel, amTg_129, amTB_of (i := 385) (by decide +kernel) (by decide +kernel), amTB_of (i := 386) (by decide +kernel) (by decide +kernel)⟩
theorem amL_5_137 : amLnkP (5, 137, 0, 99, 3) amR99 := ⟨by decide +kernel, amTg_99, amTB_of (i := 722) (by decide +kernel) (by decide +kernel), amTB_of (i := 723) (by decide +kernel) (by decide +kernel), amTB_of (i := 724) (by decide +kernel) (by decide +kernel), by decide +kernel, rfl⟩
theorem amL_5_138 : amLnkP (5, 138, 1, 130, 4) amR130 := ⟨by decide +kernel, amTg_130, amTB_of (i := 392) (by decide +kernel) (by decide +kernel), amTB_of (i := 393) (by decide +kernel) (by decide +kernel)⟩
theorem amL_5_140 : amLnkP (5, 140, 0, 100, 2) amR100 := ⟨by decide +kernel, amTg_100, amTB_of (i := 726) (by decide +kernel) (by decide +kernel), amTB_of (i := 727) (by decide +kernel) (by decide +kernel), amTB_of (i := 728) (by decide +kernel) (by decide +kernel), by decide +kernel, rfl⟩
theorem amL_5_141 : amLnkP (5, 141, 1, 131, 4) amR131 := ⟨by decide +kernel, amTg_131, amTB_of (i := 399) (by decide +kernel) (by decide +kernel), amTB_of (i := 400) (by decide +kernel) (by decide +kernel)⟩
theorem amL_5_143 : amLnkP (5, 143, 0, 101, 2) amR101 := ⟨by decide +kernel, amTg_101, amTB_of (i := 730) (by decide +kernel) (by decide +kernel), amTB_of (i := 731) (by decide +kernel) (by decide +kernel), amTB_of (i := 732) (by decide +kernel) (by decide +kernel), by decide +kernel, rfl⟩
theorem amL_5_144 : amLnkP (5, 144, 1, 132, 4) amR132 := ⟨by decide +kernel, amTg_132, amTB_of (i := 427) (by decide +kernel) (by decide +kernel), amTB_of (i := 428) (by decide +kernel) (by decide +kernel)⟩
theorem amL_5_146 : amLnkP (5, 146, 0, 102, 2) amR102 := ⟨by decide +kernel, amTg_102, amTB_of (i := 735) (by decide +kernel) (by decide +kernel), amTB_of (i := 736) (by decide +kernel) (by decide +kernel), amTB_of (i := 737) (by decide +kernel) (by decide +kernel), by decide +kernel, rfl⟩
theorem amL_5_147 : amLnkP (5, 147, 1, 133, 2) amR133 := ⟨by decide +kernel, amTg_133, amTB_of (i := 438) (by decide +kernel) (by decide +kernel), amTB_of (i := 439) (by decide +kernel) (by decide +kernel)⟩
theorem amL_5_150 : amLnkP (5, 150, 0, 103, 1) amR103 := ⟨by decide +kernel, amTg_103, amTB_of (i := 739) (by decide +kernel) (by decide +kernel), amTB_of (i := 740) (by decide +kernel) (by decide +kernel), amTB_of (i := 741) (by decide +kernel) (by decide +kernel), by decide +kernel, rfl⟩
theorem amL_5_151 : amLnkP (5, 151, 1, 134, 3) amR134 := ⟨by decide +kernel, amTg_134, amTB_of (i := 446) (by decide +kernel) (by decide +kernel), amTB_of (i := 447) (by decide +kernel) (by decide +kernel)⟩
theorem amL_5_154 : amLnkP (5, 154, 0, 104, 1) amR104 := ⟨by decide +kernel, amTg_104, amTB_of (i := 743) (by decide +kernel) (by decide +kernel), amTB_of (i := 744) (by decide +kernel) (by decide +kernel), amTB_of (i := 745) (by decide +kernel) (by decide +kernel), by decide +kernel, rfl⟩
theorem amL_5_155 : amLnkP (5, 155, 1, 135, 3) amR135 := ⟨by decide +kernel, amTg_135, amTB_of (i := 459) (by decide +kernel) (by decide +kernel), amTB_of (i := 460) (by decide +kernel) (by decide +kernel)⟩
theorem amL_5_157 : amLnkP (5, 157, 0, 105, 1) amR105 := ⟨by decide +kernel, amTg_105, amTB_of (i := 747) (by decide +kernel) (by decide +kernel), amTB_of (i := 748) (by decide +kernel) (by decide +kernel), amTB_of (i := 749) (by decide +kernel) (by decide +kernel), by decide +kernel, rfl⟩
theorem amL_5_158 : amLnkP (5, 158, 1, 136, 4) amR136 := ⟨by decide +kernel, amTg_136, amTB_of (i := 467) (by decide +kernel) (by decide +kernel), amTB_of (i := 468) (by decide +kernel) (by decide +kernel)⟩
theorem amL_5_160 : amLnkP (5, 160, 0, 106, 2) amR106 := ⟨by decide +kernel, amTg_106, amTB_of (i := 751) (by decide +kernel) (by decide +kernel), amTB_of (i := 752) (by decide +kernel) (by decide +kernel), amTB_of (i := 753) (by decide +kernel) (by decide +kernel), by decide +kernel, rfl⟩
theorem amL_5_161 : amLnkP (5, 161, 1, 137, 4) amR137 := ⟨by decide +kernel, amTg_137, amTB_of (i := 478) (by decide +kernel) (by decide +kernel), amTB_of (i := 479) (by decide +kernel) (by decide +kernel)⟩
theorem amL_5_163 : amLnkP (5, 163, 0, 107, 2) amR107 := ⟨by decide +kernel, amTg_107, amTB_of (i := 755) (by decide +kernel) (by decide +kernel), amTB_of (i := 756) (by decide +kernel) (by decide +kernel), amTB_of (i := 757) (by decide +kernel) (by decide +kernel), by decide +kernel, rfl⟩
theorem amL_5_164 : amLnkP (5, 164, 1, 138, 4) amR138 := ⟨by decide +kernel, amTg_138, amTB_of (i := 494) (by decide +kernel) (by decide +kernel), amTB_of (i := 495) (by decide +kernel) (by decide +kernel)⟩
theorem amL_5_166 : amLnkP (5, 166, 0, 108, 2) amR108 := ⟨by decide +kernel, amTg_108, amTB_of (i := 759) (by decide +kernel) (by decide +kernel), amTB_of (i := 760) (by decide +kernel) (by decide +kernel), amTB_of (i := 761) (by decide +kernel) (by decide +kernel), by decide +kernel, rfl⟩
theorem amL_5_167 : amLnkP (5, 167, 1, 139, 3) amR139 := ⟨by decide +kernel, amTg_139, amTB_of (i := 505) (by decide +kernel) (by decide +kernel), amTB_of (i := 506) (by decide +kernel) (by decide +kernel)⟩
theorem amL_5_169 : amLnkP (5, 169, 0, 109, 1) amR109 := ⟨by decide +kernel, amTg_109, amTB_of (i := 763) (by decide +kernel) (by decide +kernel), amTB_of (i := 764) (by decide +kernel) (by decide +kernel), amTB_of (i := 765) (by decide +kernel) (by decide +kernel), by decide +kernel, rfl⟩
theorem amL_5_170 : amLnkP (5, 170, 1, 140, 3) amR140 := ⟨by decide +kernel, amTg_140, amTB_of (i := 512) (by decide +kernel) (by decide +kernel), amTB_of (i := 513) (by decide +kernel) (by decide +kernel)⟩
theorem amL_5_172 : amLnkP (5, 172, 0, 110, 1) amR110 := ⟨by decide +kernel, amTg_110, amTB_of (i := 767) (by decide +kernel) (by decide +kernel), amTB_of (i := 768) (by decide +kernel) (by decide +kernel), amTB_of (i := 769) (by decide +kernel) (by decide +kernel), by decide +kernel, rfl⟩
theorem amL_5_173 : amLnkP (5, 173, 1, 141, 3) amR141 := ⟨by decide +kernel, amTg_141, amTB_of (i := 519) (by decide +kernel) (by decide +kernel), amTB_of (i := 520) (by decide +kernel) (by decide +kernel)⟩
theorem amL_5_175 : amLnkP (5, 175, 0, 111, 1) amR111 := ⟨by decide +kernel, amTg_111, amTB_of (i := 771) (by decide +kernel) (by decide +kernel), amTB_of (i := 772) (by decide +kernel) (by decide +kernel), amTB_of (i := 773) (by decide +kernel) (by decide +kernel), by decide +kernel, rfl⟩
theorem amL_5_176 : amLnkP (5, 176, 1, 142, 3) amR142 := ⟨by decide +kernel, amTg_142, amTB_of (i := 526) (by decide +kernel) (by decide +kernel), amTB_of (i := 527) (by decide +kernel) (by decide +kernel)⟩
theorem amL_5_178 : amLnkP (5, 178, 0, 112, 1) amR112 := ⟨by decide +kernel, amTg_112, amTB_of (i := 775) (by decide +kernel) (by decide +kernel), amTB_of (i := 776) (by decide +kernel) (by decide +kernel), amTB_of (i := 777) (by decide +kernel) (by decide +kernel), by decide +kernel, rfl⟩
theorem amL_5_179 : amLnkP (5, 179, 1, 143, 4) amR143 := ⟨by decide +kernel, amTg_143, amTB_of (i := 537) (by decide +kernel) (by decide +kernel), amTB_of (i := 538) (by decide +kernel) (by decide +kernel)⟩
theorem amL_5_181 : amLnkP (5, 181, 0, 113, 2) amR113 := ⟨by decide +kernel, amTg_113, amTB_of (i := 779) (by decide +kernel) (by decide +kernel), amTB_of (i := 780) (by decide +kernel) (by decide +kernel), amTB_of (i := 781) (by decide +kernel) (by decide +kernel), by decide +kernel, rfl⟩
theorem amL_5_182 : amLnkP (5, 182, 1, 144, 4) amR144 := ⟨by decide +kernel, amTg_144, amTB_of (i := 545) (by decide +kernel) (by decide +kernel), amTB_of (i := 546) (by decide +kernel) (by decide +kernel)⟩
theorem amL_5_184 : amLnkP (5, 184, 0, 115, 2) amR115 := ⟨by decide +kernel, amTg_115, amTB_of (i := 783) (by decide +kernel) (by decide +kernel), amTB_of (i := 784) (by decide +kernel) (by decide +kernel), amTB_of (i := 785) (by decide +kernel) (by decide +kernel), by decide +kernel, rfl⟩
theorem amL_5_185 : amLnkP (5, 185, 1, 145, 4) amR145 := ⟨by decide +kernel, amTg_145, amTB_of (i := 557) (by decide +kernel) (by decide +kernel), amTB_of (i := 558) (by decide +kernel) (by decide +kernel)⟩
theorem amL_5_187 : amLnkP (5, 187, 0, 116, 2) amR116 := ⟨by decide +kernel, amTg_116, amTB_of (i := 803) (by decide +kernel) (by decide +kernel), amTB_of (i := 804) (by decide +kernel) (by decide +kernel), amTB_of (i := 805) (by decide +kernel) (by decide +kernel), by decide +kernel, rfl⟩
theorem amL_5_188 : amLnkP (5, 188, 1, 146, 4) amR146 := ⟨by decide +kernel, amTg_146, amTB_of (i := 564) (by decide +kernel) (by decide +kernel), amTB_of (i := 565) (by decide +kernel) (by decide +kernel)⟩
theorem amL_5_190 : amLnkP (5, 190, 0, 117, 2) amR117 := ⟨by decide +kernel, amTg_117, amTB_of (i := 807) (by decide +kernel) (by decide +kernel), amTB_of (i := 808) (by decide +kernel) (by decide +kernel), amTB_of (i := 809) (by decide +kernel) (by decide +kernel), by decide +kernel, rfl⟩
theorem amL_5_191 : amLnkP (5, 191, 1, 147, 4) amR147 := ⟨by decide +kernel, amTg_147, amTB_of (i := 575) (by decide +kernel) (by decide +kernel), amTB_of (i := 576) (by decide +kernel) (by decide +kernel)⟩
theorem amL_5_193 : amLnkP (5, 193, 0, 118, 2) amR118 := ⟨by decide +kernel, amTg_118, amTB_of (i := 815) (by decide +kernel) (by decide +kernel), amTB_of (i := 816) (by decide +kernel) (by decide +kernel), amTB_of (i := 817) (by decide +kernel) (by decide +kernel), by decide +kernel, rfl⟩
theorem amL_5_194 : amLnkP (5, 194, 1, 148, 4) amR148 := ⟨by decide +kernel, amTg_148, amTB_of (i := 582) (by decide +kernel) (by decide +kernel), amTB_of (i := 583) (by decide +kernel) (by decide +kernel)⟩
theorem amL_5_196 : amLnkP (5, 196, 0, 119, 2) amR119 := ⟨by decide +kernel, amTg_119, amTB_of (i := 819) (by decide +kernel) (by decide +kernel), amTB_of (i := 820) (by decide +kernel) (by decide +kernel), amTB_of (i := 821) (by decide +kernel) (by decide +kernel), by decide +kernel, rfl⟩
theorem amL_5_197 : amLnkP (5, 197, 1, 149, 4) amR149 := ⟨by decide +kernel, amTg_149, amTB_of (i := 589) (by decide +kernel) (by decide +kernel), amTB_of (i := 590) (by decide +kernel) (by decide +kernel)⟩
theorem amL_5_199 : amLnkP (5, 199, 0, 120, 2) amR120 := ⟨by decide +kernel, amTg_120, amTB_of (i := 823) (by decide +kernel) (by decide +kernel), amTB_of (i := 824) (by decide +kernel) (by decide +kernel), amTB_of (i := 825) (by decide +kernel) (by decide +kernel), by decide +kernel, rfl⟩
theorem amL_5_200 : amLnkP (5, 200, 1, 150, 4) amR150 := ⟨by decide +kernel, amTg_150, amTB_of (i := 596) (by decide +kernel) (by decide +kernel), amTB_of (i := 597) (by decide +kernel) (by decide +kernel)⟩
theorem amL_5_202 : amLnkP (5, 202, 0, 121, 2) amR121 := ⟨by decide +kernel, amTg_121, amTB_of (i := 831) (by decide +kernel) (by decide +kernel), amTB_of (i := 832) (by decide +kernel) (by decide +kernel), amTB_of (i := 833) (by decide +kernel) (by decide +kernel), by decide +kernel, rfl⟩
theorem amL_5_203 : amLnkP (5, 203, 1, 151, 4) amR151 := ⟨by decide +kernel, amTg_151, amTB_of (i := 604) (by decide +kernel) (by decide +kernel), amTB_of (i := 605) (by decide +kernel) (by decide +kernel)⟩
theorem amL_5_205 : amLnkP (5, 205, 0, 122, 2) amR122 := ⟨by decide +kernel, amTg_122, amTB_of (i := 835) (by decide +kernel) (by decide +kernel), amTB_of (i := 836) (by decide +kernel) (by decide +kernel), amTB_of (i := 837) (by decide +kernel) (by decide +kernel), by decide +kernel, rfl⟩
theorem amL_5_206 : amLnkP (5, 206, 1, 152, 4) amR152 := ⟨by decide +kernel, amTg_152, amTB_of (i := 612) (by decide +kernel) (by decide +kernel), amTB_of (i := 613) (by decide +kernel) (by decide +kernel)⟩
theorem amL_5_208 : amLnkP (5, 208, 0, 123, 2) amR123 := ⟨by decide +kernel, amTg_123, amTB_of (i := 839) (by decide +kernel) (by decide +kernel), amTB_of (i := 840) (by decide +kernel) (by decide +kernel), amTB_of (i := 841) (by decide +kernel) (by decide +kernel), by decide +kernel, rfl⟩
theorem amL_5_209 : amLnkP (5, 209, 1, 153, 3) amR153 := ⟨by decide +kernel, amTg_153, amTB_of (i := 620) (by decide +kernel) (by decide +kernel), amTB_of (i := 621) (by decide +kernel) (by decide +kernel)⟩
theorem amL_5_211 : amLnkP (5, 211, 0, 124, 1) amR124 := ⟨by decide +kernel, amTg_124, amTB_of (i := 843) (by decide +kernel) (by decide +kernel), amTB_of (i := 844) (by decide +kernel) (by decide +kernel), amTB_of (i := 845) (by decide +kernel) (by decide +kernel), by decide +kernel, rfl⟩
theorem am_at {tg : Nat} {P : amRow → Prop} {z : amRow × List (List amEnt)} (h1 : amAll[tg]? = some z) (h : P z.1) : ∀ r, amAll[tg]? = some r → P r.1 := fun r hr => by rw [h1] at hr; cases hr; exact h
set_option maxRecDepth 100000 in
theorem amLnkOk : ∀ q ∈ amLnkL, ∀ r, amAll[q.2.2.2.1]? = some r → amLnkP q r.1 := List.forall_mem_cons.mpr ⟨am_at (P := amLnkP (0, 22, 0, 1, 0)) amAt_1 amL_0_22, List.forall_mem_cons.mpr ⟨am_at (P := amLnkP (0, 25, 0, 2, 2)) amAt_2 amL_0_25, List.forall_mem_cons.mpr ⟨am_at (P := amLnkP (0, 29, 0, 6, 2)) amAt_6 amL_0_29, List.forall_mem_cons.mpr ⟨am_at (P := amLnkP (0, 38, 2, 73, 1)) amAt_73 amL_0_38, List.forall_mem_cons.mpr ⟨am_at (P := amLnkP (1, 18, 0, 22, 0)) amAt_22 amL_1_18, List.forall_mem_cons.mpr ⟨am_at (P := amLnkP (1, 24, 0, 14, 0)) amAt_14 amL_1_24, List.forall_mem_cons.mpr ⟨am_at (P := amLnkP (1, 27, 0, 16, 1)) amAt_16 amL_1_27, List.forall_mem_cons.mpr ⟨am_at (P := amLnkP (1, 31, 0, 15, 1)) amAt_15 amL_1_31, List.forall_mem_cons.mpr ⟨am_at (P := amLnkP (1, 35, 1, 11, 3)) amAt_11 amL_1_35, List.forall_mem_cons.mpr ⟨am_at (P := amLnkP (1, 46, 0, 23, 1)) amAt_23 amL_1_46, List.forall_mem_cons.mpr ⟨am_at (P := amLnkP (1, 49, 0, 18, 1)) amAt_18 amL_1_49, List.forall_mem_cons.mpr ⟨am_at (P := amLnkP (1, 52, 0, 17, 1)) amAt_17 amL_1_52, List.forall_mem_cons.mpr ⟨am_at (P := amLnkP (2, 32, 0, 14, 0)) amAt_14 amL_2_32, List.forall_mem_cons.mpr ⟨am_at (P := amLnkP (2, 36, 0, 15, 1)) amAt_15 amL_2_36, List.forall_mem_cons.mpr ⟨am_at (P := amLnkP (2, 40, 0, 16, 1)) amAt_16 amL_2_40, List.forall_mem_cons.mpr ⟨am_at (P := amLnkP (2, 44, 0, 24, 1)) amAt_24 amL_2_44, List.forall_mem_cons.mpr ⟨am_at (P := amLnkP (2, 47, 0, 26, 1)) amAt_26 amL_2_47, List.forall_mem_cons.mpr ⟨am_at (P := amLnkP (2, 50, 0, 23, 1)) amAt_23 amL_2_50, List.forall_mem_cons.mpr ⟨am_at (P := amLnkP (2, 53, 0, 17, 1)) amAt_17 amL_2_53, List.forall_mem_cons.mpr ⟨am_at (P := amLnkP (2, 56, 0, 25, 1)) amAt_25 amL_2_56, List.forall_mem_cons.mpr ⟨am_at (P := amLnkP (2, 59, 0, 18, 1)) amAt_18 amL_2_59, List.forall_mem_cons.mpr ⟨am_at (P := amLnkP (2, 62, 0, 22, 0)) amAt_22 amL_2_62, List.forall_mem_cons.mpr ⟨am_at (P := amLnkP (2, 71, 0, 1, 0)) amAt_1 amL_2_71, List.forall_mem_cons.mpr ⟨am_at (P := amLnkP (2, 76, 0, 19, 2)) amAt_19 amL_2_76, List.forall_mem_cons.mpr ⟨am_at (P := amLnkP (2, 79, 0, 2, 2)) amAt_2 amL_2_79, List.forall_mem_cons.mpr ⟨am_at (P := amLnkP (2, 83, 0, 32, 0)) amAt_32 amL_2_83, List.forall_mem_cons.mpr ⟨am_at (P := amLnkP (2, 86, 0, 34, 1)) amAt_34 amL_2_86, List.forall_mem_cons.mpr ⟨am_at (P := amLnkP (2, 99, 0, 35, 3)) amAt_35 amL_2_99, List.forall_mem_cons.mpr ⟨am_at (P := amLnkP (2, 103, 2, 73, 1)) amAt_73 amL_2_103, List.forall_mem_cons.mpr ⟨am_at (P := amLnkP (3, 15, 3, 13, 0)) amAt_13 amL_3_15, List.forall_mem_cons.mpr ⟨am_at (P := amLnkP (3, 18, 3, 0, 0)) amAt_0 amL_3_18, List.forall_mem_cons.mpr ⟨am_at (P := amLnkP (3, 31, 3, 9, 0)) amAt_9 amL_3_31, List.forall_mem_cons.mpr ⟨am_at (P := amLnkP (3, 37, 0, 67, 1)) amAt_67 amL_3_37, List.forall_mem_cons.mpr ⟨am_at (P := amLnkP (3, 41, 0, 37, 1)) amAt_37 amL_3_41, List.forall_mem_cons.mpr ⟨am_at (P := amLnkP (3, 45, 0, 74, 3)) amAt_74 amL_3_45, List.forall_mem_cons.mpr ⟨am_at (P := amLnkP (3, 49, 0, 75, 3)) amAt_75 amL_3_49, List.forall_mem_cons.mpr ⟨am_at (P := amLnkP (3, 52, 0, 28, 1)) amAt_28 amL_3_52, List.forall_mem_cons.mpr ⟨am_at (P := amLnkP (3, 55, 1, 69, 1)) amAt_69 amL_3_55, List.forall_mem_cons.mpr ⟨am_at (P := amLnkP (3, 59, 1, 70, 1)) amAt_70 amL_3_59, List.forall_mem_cons.mpr ⟨am_at (P := amLnkP (3, 62, 0, 10, 1)) amAt_10 amL_3_62, List.forall_mem_cons.mpr ⟨am_at (P := amLnkP (3, 66, 0, 12, 2)) amAt_12 amL_3_66, List.forall_mem_cons.mpr ⟨am_at (P := amLnkP (3, 70, 0, 29, 1)) amAt_29 amL_3_70, List.forall_mem_cons.mpr ⟨am_at (P := amLnkP (3, 73, 0, 32, 0)) amAt_32 amL_3_73, List.forall_mem_cons.mpr ⟨am_at (P := amLnkP (3, 87, 0, 76, 2)) amAt_76 amL_3_87, List.forall_mem_cons.mpr ⟨am_at (P := amLnkP (3, 92, 0, 31, 1)) amAt_31 amL_3_92, List.forall_mem_cons.mpr ⟨am_at (P := amLnkP (3, 96, 0, 3, 2)) amAt_3 amL_3_96, List.forall_mem_cons.mpr ⟨am_at (P := amLnkP (3, 100, 1, 71, 2)) amAt_71 amL_3_100, List.forall_mem_cons.mpr ⟨am_at (P := amLnkP (3, 104, 0, 33, 2)) amAt_33 amL_3_104, List.forall_mem_cons.mpr ⟨am_at (P := amLnkP (3, 108, 0, 20, 0)) amAt_20 amL_3_108, List.forall_mem_cons.mpr ⟨am_at (P := amLnkP (3, 112, 0, 4, 2)) amAt_4 amL_3_112, List.forall_mem_cons.mpr ⟨am_at (P := amLnkP (3, 115, 0, 7, 1)) amAt_7 amL_3_115, List.forall_mem_cons.mpr ⟨am_at (P := amLnkP (3, 119, 0, 14, 0)) amAt_14 amL_3_119, List.forall_mem_cons.mpr ⟨am_at (P := amLnkP (3, 125, 0, 21, 0)) amAt_21 amL_3_125, List.forall_mem_cons.mpr ⟨am_at (P := amLnkP (3, 137, 1, 68, 2)) amAt_68 amL_3_137, List.forall_mem_cons.mpr ⟨am_at (P := amLnkP (3, 141, 0, 15, 1)) amAt_15 amL_3_141, List.forall_mem_cons.mpr ⟨am_at (P := amLnkP (3, 151, 0, 27, 1)) amAt_27 amL_3_151, List.forall_mem_cons.mpr ⟨am_at (P := amLnkP (3, 164, 0, 25, 1)) amAt_25 amL_3_164, List.forall_mem_cons.mpr ⟨am_at (P := amLnkP (3, 167, 0, 26, 1)) amAt_26 amL_3_167, List.forall_mem_cons.mpr ⟨am_at (P := amLnkP (3, 170, 0, 24, 1)) amAt_24 amL_3_170, List.forall_mem_cons.mpr ⟨am_at (P := amLnkP (3, 173, 0, 30, 0)) amAt_30 amL_3_173, List.forall_mem_cons.mpr ⟨am_at (P := amLnkP (3, 187, 0, 8, 0)) amAt_8 amL_3_187, List.forall_mem_cons.mpr ⟨am_at (P := amLnkP (3, 190, 1, 72, 1)) amAt_72 amL_3_190, List.forall_mem_cons.mpr ⟨am_at (P := amLnkP (3, 195, 0, 1, 0)) amAt_1 amL_3_195, List.forall_mem_cons.mpr ⟨am_at (P := amLnkP (3, 198, 0, 2, 2)) amAt_2 amL_3_198, List.forall_mem_cons.mpr ⟨am_at (P := amLnkP (3, 208, 0, 5, 3)) amAt_5 amL_3_208, List.forall_mem_cons.mpr ⟨am_at (P := amLnkP (4, 35, 1, 79, 3)) amAt_79 amL_4_35, List.forall_mem_cons.mpr ⟨am_at (P := amLnkP (4, 39, 1, 84, 1)) amAt_84 amL_4_39, List.forall_mem_cons.mpr ⟨am_at (P := amLnkP (4, 44, 0, 83, 1)) amAt_83 amL_4_44, List.forall_mem_cons.mpr ⟨am_at (P := amLnkP (4, 47, 0, 88, 1)) amAt_88 amL_4_47, List.forall_mem_cons.mpr ⟨am_at (P := amLnkP (4, 51, 0, 90, 1)) amAt_90 amL_4_51, List.forall_mem_cons.mpr ⟨am_at (P := amLnkP (4, 55, 0, 91, 2)) amAt_91 amL_4_55, List.forall_mem_cons.mpr ⟨am_at (P := amLnkP (4, 59, 1, 87, 1)) amAt_87 amL_4_59, List.forall_mem_cons.mpr ⟨am_at (P := amLnkP (4, 62, 0, 85, 1)) amAt_85 amL_4_62, List.forall_mem_cons.mpr ⟨am_at (P := amLnkP (4, 65, 1, 86, 2)) amAt_86 amL_4_65, List.forall_mem_cons.mpr ⟨am_at (P := amLnkP (4, 69, 1, 80, 1)) amAt_80 amL_4_69, List.forall_mem_cons.mpr ⟨am_at (P := amLnkP (4, 72, 0, 82, 2)) amAt_82 amL_4_72, List.forall_mem_cons.mpr ⟨am_at (P := amLnkP (4, 76, 0, 94, 3)) amAt_94 amL_4_76, List.forall_mem_cons.mpr ⟨am_at (P := amLnkP (4, 79, 1, 81, 1)) amAt_81 amL_4_79, List.forall_mem_cons.mpr ⟨am_at (P := amLnkP (4, 82, 0, 100, 2)) amAt_100 amL_4_82, List.forall_mem_cons.mpr ⟨am_at (P := amLnkP (4, 85, 0, 89, 1)) amAt_89 amL_4_85, List.forall_mem_cons.mpr ⟨am_at (P := amLnkP (4, 88, 0, 114, 2)) amAt_114 amL_4_88, List.forall_mem_cons.mpr ⟨am_at (P := amLnkP (4, 91, 0, 92, 2)) amAt_92 amL_4_91, List.forall_mem_cons.mpr ⟨am_at (P := amLnkP (5, 7, 0, 38, 2)) amAt_38 amL_5_7, List.forall_mem_cons.mpr ⟨am_at (P := amLnkP (5, 17, 0, 39, 2)) amAt_39 amL_5_17, List.forall_mem_cons.mpr ⟨am_at (P := amLnkP (5, 21, 0, 40, 2)) amAt_40 amL_5_21, List.forall_mem_cons.mpr ⟨am_at (P := amLnkP (5, 24, 0, 41, 3)) amAt_41 amL_5_24, List.forall_mem_cons.mpr ⟨am_at (P := amLnkP (5, 30, 0, 42, 3)) amAt_42 amL_5_30, List.forall_mem_cons.mpr ⟨am_at (P := amLnkP (5, 33, 0, 43, 2)) amAt_43 amL_5_33, List.forall_mem_cons.mpr ⟨am_at (P := amLnkP (5, 36, 0, 44, 2)) amAt_44 amL_5_36, List.forall_mem_cons.mpr ⟨am_at (P := amLnkP (5, 39, 0, 45, 2)) amAt_45 amL_5_39, List.forall_mem_cons.mpr ⟨am_at (P := amLnkP (5, 42, 0, 46, 1)) amAt_46 amL_5_42, List.forall_mem_cons.mpr ⟨am_at (P := amLnkP (5, 46, 0, 47, 1)) amAt_47 amL_5_46, List.forall_mem_cons.mpr ⟨am_at (P := amLnkP (5, 50, 0, 48, 1)) amAt_48 amL_5_50, List.forall_mem_cons.mpr ⟨am_at (P := amLnkP (5, 53, 0, 49, 2)) amAt_49 amL_5_53, List.forall_mem_cons.mpr ⟨am_at (P := amLnkP (5, 56, 0, 50, 2)) amAt_50 amL_5_56, List.forall_mem_cons.mpr ⟨am_at (P := amLnkP (5, 59, 0, 51, 2)) amAt_51 amL_5_59, List.forall_mem_cons.mpr ⟨am_at (P := amLnkP (5, 62, 0, 52, 1)) amAt_52 amL_5_62, List.forall_mem_cons.mpr ⟨am_at (P := amLnkP (5, 65, 0, 53, 1)) amAt_53 amL_5_65, List.forall_mem_cons.mpr ⟨am_at (P := amLnkP (5, 68, 0, 54, 1)) amAt_54 amL_5_68, List.forall_mem_cons.mpr ⟨am_at (P := amLnkP (5, 71, 0, 55, 1)) amAt_55 amL_5_71, List.forall_mem_cons.mpr ⟨am_at (P := amLnkP (5, 74, 0, 56, 2)) amAt_56 amL_5_74, List.forall_mem_cons.mpr ⟨am_at (P := amLnkP (5, 77, 0, 57, 2)) amAt_57 amL_5_77, List.forall_mem_cons.mpr ⟨am_at (P := amLnkP (5, 80, 0, 58, 2)) amAt_58 amL_5_80, List.forall_mem_cons.mpr ⟨am_at (P := amLnkP (5, 83, 0, 59, 2)) amAt_59 amL_5_83, List.forall_mem_cons.mpr ⟨am_at (P := amLnkP (5, 86, 0, 60, 2)) amAt_60 amL_5_86, List.forall_mem_cons.mpr ⟨am_at (P := amLnkP (5, 89, 0, 61, 2)) amAt_61 amL_5_89, List.forall_mem_cons.mpr ⟨am_at (P := amLnkP (5, 92, 0, 62, 2)) amAt_62 amL_5_92, List.forall_mem_cons.mpr ⟨am_at (P := amLnkP (5, 95, 0, 63, 2)) amAt_63 amL_5_95, List.forall_mem_cons.mpr ⟨am_at (P := amLnkP (5, 98, 0, 64, 2)) amAt_64 amL_5_98, List.forall_mem_cons.mpr ⟨am_at (P := amLnkP (5, 101, 0, 65, 2)) amAt_65 amL_5_101, List.forall_mem_cons.mpr ⟨am_at (P := amLnkP (5, 104, 0, 66, 1)) amAt_66 amL_5_104, List.forall_mem_cons.mpr ⟨am_at (P := amLnkP (5, 107, 3, 36, 0)) amAt_36 amL_5_107, List.forall_mem_cons.mpr ⟨am_at (P := amLnkP (5, 110, 3, 77, 0)) amAt_77 amL_5_110, List.forall_mem_cons.mpr ⟨am_at (P := amLnkP (5, 111, 0, 37, 1)) amAt_37 amL_5_111, List.forall_mem_cons.mpr ⟨am_at (P := amLnkP (5, 114, 0, 93, 1)) amAt_93 amL_5_114, List.forall_mem_cons.mpr ⟨am_at (P := amLnkP (5, 115, 1, 125, 4)) amAt_125 amL_5_115, List.forall_mem_cons.mpr ⟨am_at (P := amLnkP (5, 120, 0, 95, 2)) amAt_95 amL_5_120, List.forall_mem_cons.mpr ⟨am_at (P := amLnkP (5, 121, 0, 78, 0)) amAt_78 amL_5_121, List.forall_mem_cons.mpr ⟨am_at (P := amLnkP (5, 125, 1, 126, 4)) amAt_126 amL_5_125, List.forall_mem_cons.mpr ⟨am_at (P := amLnkP (5, 127, 0, 96, 2)) amAt_96 amL_5_127, List.forall_mem_cons.mpr ⟨am_at (P := amLnkP (5, 128, 1, 127, 4)) amAt_127 amL_5_128, List.forall_mem_cons.mpr ⟨am_at (P := amLnkP (5, 130, 0, 97, 2)) amAt_97 amL_5_130, List.forall_mem_cons.mpr ⟨am_at (P := amLnkP (5, 131, 1, 128, 5)) amAt_128 amL_5_131, List.forall_mem_cons.mpr ⟨am_at (P := amLnkP (5, 134, 0, 98, 3)) amAt_98 amL_5_134, List.forall_mem_cons.mpr ⟨am_at (P := amLnkP (5, 135, 1, 129, 5)) amAt_129 amL_5_135, List.forall_mem_cons.mpr ⟨am_at (P := amLnkP (5, 137, 0, 99, 3)) amAt_99 amL_5_137, List.forall_mem_cons.mpr ⟨am_at (P := amLnkP (5, 138, 1, 130, 4)) amAt_130 amL_5_138, List.forall_mem_cons.mpr ⟨am_at (P := amLnkP (5, 140, 0, 100, 2)) amAt_100 amL_5_140, List.forall_mem_cons.mpr ⟨am_at (P := amLnkP (5, 141, 1, 131, 4)) amAt_131 amL_5_141, List.forall_mem_cons.mpr ⟨am_at (P := amLnkP (5, 143, 0, 101, 2)) amAt_101 amL_5_143, List.forall_mem_cons.mpr ⟨am_at (P := amLnkP (5, 144, 1, 132, 4)) amAt_132 amL_5_144, List.forall_mem_cons.mpr ⟨am_at (P := amLnkP (5, 146, 0, 102, 2)) amAt_102 amL_5_146, List.forall_mem_cons.mpr ⟨am_at (P := amLnkP (5, 147, 1, 133, 2)) amAt_133 amL_5_147, List.forall_mem_cons.mpr ⟨am_at (P := amLnkP (5, 150, 0, 103, 1)) amAt_103 amL_5_150, List.forall_mem_cons.mpr ⟨am_at (P := amLnkP (5, 151, 1, 134, 3)) amAt_134 amL_5_151, List.forall_mem_cons.mpr ⟨am_at (P := amLnkP (5, 154, 0, 104, 1)) amAt_104 amL_5_154, List.forall_mem_cons.mpr ⟨am_at (P := amLnkP (5, 155, 1, 135, 3)) amAt_135 amL_5_155, List.forall_mem_cons.mpr ⟨am_at (P := amLnkP (5, 157, 0, 105, 1)) amAt_105 amL_5_157, List.forall_mem_cons.mpr ⟨am_at (P := amLnkP (5, 158, 1, 136, 4)) amAt_136 amL_5_158, List.forall_mem_cons.mpr ⟨am_at (P := amLnkP (5, 160, 0, 106, 2)) amAt_106 amL_5_160, List.forall_mem_cons.mpr ⟨am_at (P := amLnkP (5, 161, 1, 137, 4)) amAt_137 amL_5_161, List.forall_mem_cons.mpr ⟨am_at (P := amLnkP (5, 163, 0, 107, 2)) amAt_107 amL_5_163, List.forall_mem_cons.mpr ⟨am_at (P := amLnkP (5, 164, 1, 138, 4)) amAt_138 amL_5_164, List.forall_mem_cons.mpr ⟨am_at (P := amLnkP (5, 166, 0, 108, 2)) amAt_108 amL_5_166, List.forall_mem_cons.mpr ⟨am_at (P := amLnkP (5, 167, 1, 139, 3)) amAt_139 amL_5_167, List.forall_mem_cons.mpr ⟨am_at (P := amLnkP (5, 169, 0, 109, 1)) amAt_109 amL_5_169, List.forall_mem_cons.mpr ⟨am_at (P := amLnkP (5, 170, 1, 140, 3)) amAt_140 amL_5_170, List.forall_mem_cons.mpr ⟨am_at (P := amLnkP (5, 172, 0, 110, 1)) amAt_110 amL_5_172, List.forall_mem_cons.mpr ⟨am_at (P := amLnkP (5, 173, 1, 141, 3)) amAt_141 amL_5_173, List.forall_mem_cons.mpr ⟨am_at (P := amLnkP (5, 175, 0, 111, 1)) amAt_111 amL_5_175, List.forall_mem_cons.mpr ⟨am_at (P := amLnkP (5, 176, 1, 142, 3)) amAt_142 amL_5_176, List.forall_mem_cons.mpr ⟨am_at (P := amLnkP (5, 178, 0, 112, 1)) amAt_112 amL_5_178, List.forall_mem_cons.mpr ⟨am_at (P := amLnkP (5, 179, 1, 143, 4)) amAt_143 amL_5_179, List.forall_mem_cons.mpr ⟨am_at (P := amLnkP (5, 181, 0, 113, 2)) amAt_113 amL_5_181, List.forall_mem_cons.mpr ⟨am_at (P := amLnkP (5, 182, 1, 144, 4)) amAt_144 amL_5_182, List.forall_mem_cons.mpr ⟨am_at (P := amLnkP (5, 184, 0, 115, 2)) amAt_115 amL_5_184, List.forall_mem_cons.mpr ⟨am_at (P := amLnkP (5, 185, 1, 145, 4)) amAt_145 amL_5_185, List.forall_mem_cons.mpr ⟨am_at (P := amLnkP (5, 187, 0, 116, 2)) amAt_116 amL_5_187, List.forall_mem_cons.mpr ⟨am_at (P := amLnkP (5, 188, 1, 146, 4)) amAt_146 amL_5_188, List.forall_mem_cons.mpr ⟨am_at (P := amLnkP (5, 190, 0, 117, 2)) amAt_117 amL_5_190, List.forall_mem_cons.mpr ⟨am_at (P := amLnkP (5, 191, 1, 147, 4)) amAt_147 amL_5_191, List.forall_mem_cons.mpr ⟨am_at (P := amLnkP (5, 193, 0, 118, 2)) amAt_118 amL_5_193, List.forall_mem_cons.mpr ⟨am_at (P := amLnkP (5, 194, 1, 148, 4)) amAt_148 amL_5_194, List.forall_mem_cons.mpr ⟨am_at (P := amLnkP (5, 196, 0, 119, 2)) amAt_119 amL_5_196, List.forall_mem_cons.mpr ⟨am_at (P := amLnkP (5, 197, 1, 149, 4)) amAt_149 amL_5_197, List.forall_mem_cons.mpr ⟨am_at (P := amLnkP (5, 199, 0, 120, 2)) amAt_120 amL_5_199, List.forall_mem_cons.mpr ⟨am_at (P := amLnkP (5, 200, 1, 150, 4)) amAt_150 amL_5_200, List.forall_mem_cons.mpr ⟨am_at (P := amLnkP (5, 202, 0, 121, 2)) amAt_121 amL_5_202, List.forall_mem_cons.mpr ⟨am_at (P := amLnkP (5, 203, 1, 151, 4)) amAt_151 amL_5_203, List.forall_mem_cons.mpr ⟨am_at (P := amLnkP (5, 205, 0, 122, 2)) amAt_122 amL_5_205, List.forall_mem_cons.mpr ⟨am_at (P := amLnkP (5, 206, 1, 152, 4)) amAt_152 amL_5_206, List.forall_mem_cons.mpr ⟨am_at (P := amLnkP (5, 208, 0, 123, 2)) amAt_123 amL_5_208, List.forall_mem_cons.mpr ⟨am_at (P := amLnkP (5, 209, 1, 153, 3)) amAt_153 amL_5_209, List.forall_mem_cons.mpr ⟨am_at (P := amLnkP (5, 211, 0, 124, 1)) amAt_124 amL_5_211, fun _ h => absurd h List.not_mem_nil⟩⟩⟩⟩⟩⟩⟩⟩⟩⟩⟩⟩⟩⟩⟩⟩⟩⟩⟩⟩⟩⟩⟩⟩⟩⟩⟩⟩⟩⟩⟩⟩⟩⟩⟩⟩⟩⟩⟩⟩⟩⟩⟩⟩⟩⟩⟩⟩⟩⟩⟩⟩⟩⟩⟩⟩⟩⟩⟩⟩⟩⟩⟩⟩⟩⟩⟩⟩⟩⟩⟩⟩⟩⟩⟩⟩⟩⟩⟩⟩⟩⟩⟩⟩⟩⟩⟩⟩⟩⟩⟩⟩⟩⟩⟩⟩⟩⟩⟩⟩⟩⟩⟩⟩⟩⟩⟩⟩⟩⟩⟩⟩⟩⟩⟩⟩⟩⟩⟩⟩⟩⟩⟩⟩⟩⟩⟩⟩⟩⟩⟩⟩⟩⟩⟩⟩⟩⟩⟩⟩⟩⟩⟩⟩⟩⟩⟩⟩⟩⟩⟩⟩⟩⟩⟩⟩⟩⟩⟩⟩⟩⟩⟩⟩⟩⟩⟩⟩⟩⟩⟩⟩⟩⟩
theorem amObjOk : ∀ q ∈ amObjL, amObjP q := List.forall_mem_cons.mpr ⟨amTB_of (i := 79) (by decide +kernel) (by decide +kernel), List.forall_mem_cons.mpr ⟨amTB_of (i := 100) (by decide +kernel) (by decide +kernel), List.forall_mem_cons.mpr ⟨amTB_of (i := 42) (by decide +kernel) (by decide +kernel), List.forall_mem_cons.mpr ⟨amTB_of (i := 33) (by decide +kernel) (by decide +kernel), List.forall_mem_cons.mpr ⟨amTB_of (i := 637) (by decide +kernel) (by decide +kernel), fun _ h => absurd h List.not_mem_nil⟩⟩⟩⟩⟩
theorem amMthOk : ∀ q ∈ amMthL, amMthP q := List.forall_mem_cons.mpr ⟨amTB_of (i := 493) (by decide +kernel) (by decide +kernel), List.forall_mem_cons.mpr ⟨amTB_of (i := 312) (by decide +kernel) (by decide +kernel), List.forall_mem_cons.mpr ⟨amTB_of (i := 324) (by decide +kernel) (by decide +kernel), List.forall_mem_cons.mpr ⟨amTB_of (i := 342) (by decide +kernel) (by decide +kernel), fun _ h => absurd h List.not_mem_nil⟩⟩⟩⟩
theorem amObj_i : Cond.instanceMethod objectInit ∈ amTB := amTB_of (i := 34) (by decide +kernel) (by decide +kernel)
theorem amObj_c : Cond.code objectInit ⟨#[0xb1]⟩ 1 none ∈ amTB := amTB_of (i := 35) (by decide +kernel) (by decide +kernel)
theorem amMmax_s : Cond.static Lib.Math.max.name ∈ amTB := amTB_of (i := 313) (by decide +kernel) (by decide +kernel)
theorem amMmax_c : Cond.code Lib.Math.max.name Lib.Math.max.code 2 (some .int) ∈ amTB := amTB_of (i := 314) (by decide +kernel) (by decide +kernel)
theorem amMmin_s : Cond.static Lib.Math.min.name ∈ amTB := amTB_of (i := 325) (by decide +kernel) (by decide +kernel)
theorem amMmin_c : Cond.code Lib.Math.min.name Lib.Math.min.code 2 (some .int) ∈ amTB := amTB_of (i := 326) (by decide +kernel) (by decide +kernel)
theorem amM_i : Cond.initialized "java/lang/Math" ∈ amTB := amTB_of (i := 26) (by decide +kernel) (by decide +kernel)
theorem amArr_int : Cond.arrayClass .int ∈ amTB := amTB_of (i := 72) (by decide +kernel) (by decide +kernel)
theorem amArr_boolean : Cond.arrayClass .boolean ∈ amTB := amTB_of (i := 73) (by decide +kernel) (by decide +kernel)
theorem amArr_long : Cond.arrayClass .long ∈ amTB := amTB_of (i := 847) (by decide +kernel) (by decide +kernel)
theorem amLd_3 : Cond.constant (amN 3) 36 (-1640531527) ∈ amTB := amTB_of (i := 128) (by decide +kernel) (by decide +kernel)
theorem amLd_4 : Cond.constant (amN 4) 43 (-1640531527) ∈ amTB := amTB_of (i := 674) (by decide +kernel) (by decide +kernel)
theorem amU_all (ci : Nat) (h : ci < 5) : ∀ w ∈ u_ws (amN ci) (amTT ci) (amNF ci), w ∈ amTB := by
  match ci, h with
  | 0, _ => exact amU_0
  | 1, _ => exact amU_1
  | 2, _ => exact amU_2
  | 3, _ => exact amU_3
  | 4, _ => exact amU_4
theorem amCl_at (ci : Nat) (h : ci < 5) : vwCl[ci]? = some (amN ci, amTT ci, amNF ci) := by
  match ci, h with
  | 0, _ => rfl
  | 1, _ => rfl
  | 2, _ => rfl
  | 3, _ => rfl
  | 4, _ => rfl
theorem amTy_ok (ci : Nat) (h : ci < 5) : ∀ k, k < amNF ci → parseFieldDescriptor (amTT ci k).2.2.1 = some (amTy ci k) := by
  match ci, h with
  | 0, _ => exact tyX0_ok
  | 1, _ => exact tyX1_ok
  | 2, _ => exact tyX2_ok
  | 3, _ => exact tyX3_ok
  | 4, _ => exact tyX4_ok
theorem amNm_ok (ci : Nat) (h : ci < 5) : ∀ a, a < amNF ci → ∀ b, b < amNF ci → a ≠ b → (amTT ci a).2.1 ≠ (amTT ci b).2.1 := by
  match ci, h with
  | 0, _ => exact nmX0
  | 1, _ => exact nmX1
  | 2, _ => exact nmX2
  | 3, _ => exact nmX3
  | 4, _ => exact nmX4
theorem amOwn_ok (ci : Nat) (h : ci < 5) : ∀ k, k < amNF ci → (amTT ci k).1 = amN ci := by
  match ci, h with
  | 0, _ => decide +kernel
  | 1, _ => decide +kernel
  | 2, _ => decide +kernel
  | 3, _ => decide +kernel
  | 4, _ => decide +kernel
theorem amDef_ok (ci : Nat) (h : ci < 5) : ∀ j, j < amNF ci → defaultValue (amTy ci j) = vp_V (amDef ci) j := by
  match ci, h with
  | 0, _ => decide +kernel
  | 1, _ => decide +kernel
  | 2, _ => decide +kernel
  | 3, _ => decide +kernel
  | 4, _ => decide +kernel
theorem amDef_len (ci : Nat) (h : ci < 5) : (amDef ci).length = amNF ci := by
  match ci, h with
  | 0, _ => rfl
  | 1, _ => rfl
  | 2, _ => rfl
  | 3, _ => rfl
  | 4, _ => rfl
def amStrs : List (String × Nat × String) := [(RX3, 176, "no such filter"), (RX3, 193, "more than seven eighths of the slots would hold entries"), (RX3, 182, "a fingerprint is 0 to 4095"), (RX3, 185, "times is 1 to 100"), (RX3, 82, "the filter has the most slots already"), (RX3, 90, "the filter has the fewest slots already"), (RX3, 130, "the filter has no such place"), (RX3, 178, "no such slot or quotient")]
def amX : Nat → String := fun k => match k with
  | 1 => "java/lang/IndexOutOfBoundsException"
  | 2 => "java/lang/IllegalStateException"
  | _ => "java/lang/IllegalArgumentException"
end
section
/-! one instruction of the abstract machine, on the machine; by hand -/
theorem amIn_in {i : Int32} {n : Nat} (h : amIn i n = true) : vp_in i n := by
  simp only [amIn, Bool.and_eq_true, decide_eq_true_eq] at h
  intro q
  rcases q with q | q
  · exact h.1 q
  · omega
theorem amK1 {D : va_G} {cl : List vw_C} {s : State} (hK : va_K D cl [] s) {cA : ClassId} {ty : FieldType} (h1 : ArrOfT s cA ty) (h2 : va_RA s cA ty) : va_K D cl [(cA, ty)] s := by
  refine ⟨hK.1, fun k q hk => ?_⟩
  have hz : k < 1 := (List.getElem?_eq_some_iff.mp hk).1
  rw [show k = 0 by omega] at hk
  cases hk
  exact ⟨h1, h2⟩
theorem amFits_ok {σ : List Nat} {ty : FieldType} {v w : Value} (h : amFits ty v = true) (hv : amVR σ v w) : narrow ty w = w ∧ fits ty w = true := by
  cases ty <;> cases v <;> simp [amFits] at h
  · rw [amVR_int hv]; exact ⟨rfl, rfl⟩
  · obtain ⟨a, -, rfl⟩ := amVR_ref hv; exact ⟨rfl, rfl⟩
  · obtain ⟨a, -, rfl⟩ := amVR_ref hv; exact ⟨rfl, rfl⟩
def amNcs : List (String × String) := [(amX 1, amX 2), (amX 1, amX 3), (amX 2, amX 1), (amX 2, amX 3), (amX 3, amX 1), (amX 3, amX 2)]
def amBad : List Cond := [.castable (amX 1) (amX 1), .castable (amX 2) (amX 2), .castable (amX 3) (amX 3), .declares (Bundle.initS "java/lang/RuntimeException"), .declares (Bundle.initS "java/lang/Exception"), .declares (Bundle.initS Bundle.tN)]
def amAmb (A : Nat → Prop) (s : State) : Prop := vx_Zq Bundle.tN "UNASSIGNED_STACK" Bundle.steD A s s.heap ∧ vx_Zq Bundle.tN "SUPPRESSED_SENTINEL" Bundle.listD A s s.heap ∧ (∀ q ∈ amStrs, ∃ sa, vk_R q.1 q.2.1 q.2.2 sa s) ∧ (∀ q ∈ amNcs, va_Nc q.1 q.2 s) ∧ (∀ w ∈ amNests, va_Nw w s) ∧ va_AO RX2 s ∧ (∀ w ∈ amBad, va_Nw w s)
def amFr (p : Program) (l : Launch) (s : State) (m : MethodId) (args : Array Value) (meth : Method) (cd : Code) (r : amRow) (D : va_G) (A : Nat → Prop) (b L : Nat) (xs : Nat → Int32) : Prop :=
  p.tables.exec = Jvm.exec ∧ cd.code = r.2.2.1 ∧ cd.maxLocals = r.2.2.2.1 ∧ s.vm.findClass (amN r.1) = some m.cls ∧ (∀ w ∈ amTB, w.before args s = true) ∧ meth.sig.returnType = r.2.2.2.2.1 ∧ meth.locks = false ∧ cd.exceptionTable.toList = tableOf r.2.2.2.2.2.1 ∧ (r.2.1.name = "<init>" → meth.name = "<init>") ∧ va_K D vwCl [] s ∧ va_X b L xs s s.heap ∧ b < s.heap.size ∧ ¬ A b ∧ (∀ q, s.heap.size ≤ q → A q) ∧ amAmb A s ∧ l.stackTraces = false
def amDy (s : State) (D : va_G) (A : Nat → Prop) (σ : List Nat) (hs : amH) (ws : va_W) (H : Heap) (locs : List Loc) (b L : Nat) (xs : Nat → Int32) : Prop :=
  va_P D vwCl ws H ∧ va_D A ws ∧ va_S A s.heap H locs ∧ amWR s σ hs ws ∧ hs[0]? = some (.inl (.int, L, .inl xs)) ∧ σ[0]? = some b
theorem amFetch_chk_gen (all : List (amRow × List (List amEnt))) (hall : ∀ r ∈ all, ∀ l ∈ r.2, amChkK r.1 l) {M pc : Nat} {r : amRow × List (List amEnt)} {v : Instr × Nat × amRes} (hr : all[M]? = some r) (h : ((all[M]?).bind fun r => (r.2[pc / 64]?).bind fun q => q.lookup pc) = some v) : amChk r.1 (pc, v) = true := by
  obtain ⟨l, hl, hm⟩ := amFetch_gen all hr h
  have h1 := hall r (List.mem_of_getElem? hr) l hl
  unfold amChkK at h1
  exact List.all_eq_true.mp h1 _ hm
theorem amFetch_chk {M pc : Nat} {r : amRow × List (List amEnt)} {v : Instr × Nat × amRes} (hr : amAll[M]? = some r) (h : amFetch M pc = some v) : amChk r.1 (pc, v) = true := amFetch_chk_gen amAll amChkAll hr h
theorem am_tgt {pc : Nat} {off : Int} (h : 0 ≤ (pc : Int) + off) : (pc : Int) + off = (amTgt pc off : Int) := by unfold amTgt; omega
section AMR
variable {p : Program} {l : Launch} {e : Env} {R : Room} {s : State} {m : MethodId} {args : Array Value} {below : List Frame} {meth : Method} {c : Code} {H : Heap} {locs : List Loc} {cells slots : Nat} {Q : State → Prop}
variable {cc : ByteArray} {pc : Nat} {ls : Array Slot} {rest : List Value}
theorem aw_istore (hexec : p.tables.exec = Jvm.exec) (hb : c.code = cc) {i : Nat} {x : Int32} {ls' : Array Slot} (hdg : decode cc pc = .ok (.istore i, 2)) (e' : storeLocals ls i (.int x) = some ls') (kk : W p l e R s m args below meth c H locs cells slots Q (F0 m (pc + 2) ls' rest)) : W p l e R s m args below meth c H locs cells slots Q (F0 m pc ls (.int x :: rest)) := by
  intro T hT X
  obtain ⟨t, a, b⟩ := kk T hT X
  refine ⟨t, ?_, b⟩
  jvm_step X.here [X.here.top, ↓top_set X.here.top, hexec, hb, hdg, e']
  exact a
theorem aw_istore_n (hexec : p.tables.exec = Jvm.exec) (hb : c.code = cc) {i : Fin 4} {x : Int32} {ls' : Array Slot} (hdg : decode cc pc = .ok (.istore_n i, 1)) (e' : storeLocals ls (i : Nat) (.int x) = some ls') (kk : W p l e R s m args below meth c H locs cells slots Q (F0 m (pc + 1) ls' rest)) : W p l e R s m args below meth c H locs cells slots Q (F0 m pc ls (.int x :: rest)) := by
  intro T hT X
  obtain ⟨t, a, b⟩ := kk T hT X
  refine ⟨t, ?_, b⟩
  jvm_step X.here [X.here.top, ↓top_set X.here.top, hexec, hb, hdg, e']
  exact a
theorem aw_astore (hexec : p.tables.exec = Jvm.exec) (hb : c.code = cc) {i : Nat} {x : Nat} {ls' : Array Slot} (hdg : decode cc pc = .ok (.astore i, 2)) (e' : storeLocals ls i (.ref x) = some ls') (kk : W p l e R s m args below meth c H locs cells slots Q (F0 m (pc + 2) ls' rest)) : W p l e R s m args below meth c H locs cells slots Q (F0 m pc ls (.ref x :: rest)) := by
  intro T hT X
  obtain ⟨t, a, b⟩ := kk T hT X
  refine ⟨t, ?_, b⟩
  jvm_step X.here [X.here.top, ↓top_set X.here.top, hexec, hb, hdg, e', Value.isRef]
  exact a
theorem aw_astore_n (hexec : p.tables.exec = Jvm.exec) (hb : c.code = cc) {i : Fin 4} {x : Nat} {ls' : Array Slot} (hdg : decode cc pc = .ok (.astore_n i, 1)) (e' : storeLocals ls (i : Nat) (.ref x) = some ls') (kk : W p l e R s m args below meth c H locs cells slots Q (F0 m (pc + 1) ls' rest)) : W p l e R s m args below meth c H locs cells slots Q (F0 m pc ls (.ref x :: rest)) := by
  intro T hT X
  obtain ⟨t, a, b⟩ := kk T hT X
  refine ⟨t, ?_, b⟩
  jvm_step X.here [X.here.top, ↓top_set X.here.top, hexec, hb, hdg, e', Value.isRef]
  exact a
theorem aw_iinc (hexec : p.tables.exec = Jvm.exec) (hb : c.code = cc) {i : Nat} {n : Int} {x : Int32} {ls' : Array Slot} (hdg : decode cc pc = .ok (.iinc i n, 3)) (hg : ls[i]? = some (.val (.int x))) (e' : storeLocals ls i (.int (x + Int32.ofInt n)) = some ls') (kk : W p l e R s m args below meth c H locs cells slots Q (F0 m (pc + 3) ls' rest)) : W p l e R s m args below meth c H locs cells slots Q (F0 m pc ls rest) := by
  intro T hT X
  obtain ⟨t, a, b⟩ := kk T hT X
  refine ⟨t, ?_, b⟩
  jvm_step X.here [X.here.top, ↓top_set X.here.top, hexec, hb, hdg, hg, e']
  exact a
end AMR
theorem amDy_set {s : State} {D : va_G} {A : Nat → Prop} {σ : List Nat} {hs : amH} {ws : va_W} {H H1 : Heap} {locs locs1 : List Loc} {b L : Nat} {xs : Nat → Int32} (Y : amDy s D A σ hs ws H locs b L xs) {a k : Nat} {c : amC} {e e0 : va_E} (hk : k ≠ 0) (hw : ws[k - 1]? = some (a, e0)) (hc : amCR s σ c e) (hP : va_P D vwCl (ws.set (k - 1) (a, e)) H1) (hD : va_D A (ws.set (k - 1) (a, e))) (hS : va_S A s.heap H1 locs1) : amDy s D A σ (hs.set k c) (ws.set (k - 1) (a, e)) H1 locs1 b L xs := by
  obtain ⟨y1, y2, y3, y4, y5, y6⟩ := Y
  have h := amWR_set y4 hw hc
  rw [show k - 1 + 1 = k by omega] at h
  exact ⟨hP, hD, hS, h, by rw [List.getElem?_set_ne hk]; exact y5, y6⟩
set_option maxHeartbeats 4000000 in
set_option maxRecDepth 100000 in
theorem amStep_ok {p : Program} {l : Launch} {e : Env} {R : Room} {s : State} {m : MethodId} {args : Array Value} {below : List Frame} {meth : Method} {cd : Code} {H : Heap} {locs : List Loc} {cells slots : Nat} {Q : State → Prop} {D : va_G} {A : Nat → Prop} {b L : Nat} {xs : Nat → Int32} {M : Nat} {r : amRow × List (List amEnt)} {σ : List Nat} {ws : va_W} {cls : Array Slot} {cst : List Value} {i : Instr} {len : Nat} {x : amRes} {pc pc' : Nat} {ls ls' : amL} {st st' : List Value} {hs hs' : amH}
    (F : amFr p l s m args meth cd r.1 D A b L xs) (hr : amAll[M]? = some r) (hf : amFetch M pc = some (i, len, x)) (h : amStep i x pc ls st hs = some (pc', ls', st', hs')) (Y : amDy s D A σ hs ws H locs b L xs) (hl : amLR σ ls r.1.2.2.2.1 cls) (hst : amSR σ st cst) (hRf : r.1.2.2.2.2.2.2.1 ≤ R.frames) (hRl : r.1.2.2.2.2.2.2.2 ≤ R.locals) (hRc : cells ≤ R.cells) (hRs : slots ≤ R.slots)
    (kk : ∀ (ws' : va_W) (H' : Heap) (locs' : List Loc) (cls' : Array Slot) (cst' : List Value), amDy s D A σ hs' ws' H' locs' b L xs → amLR σ ls' r.1.2.2.2.1 cls' → amSR σ st' cst' → W p l e R s m args below meth cd H' locs' cells slots Q (F0 m pc' cls' cst')) : W p l e R s m args below meth cd H locs cells slots Q (F0 m pc cls cst) := by
  have hd := amFetch_dec hr hf
  have hc := amFetch_chk hr hf
  obtain ⟨hx, hb, hml, hown, hts, hret, hlocks, htab, hinit, hK, hX, hbl, hbA, hA, hamb, hfl⟩ := id F
  have Y0 := Y
  obtain ⟨hP, hD, hS, hWR, hs0, hσ0⟩ := Y
  obtain ⟨hl1, hl2, hl3, hl4⟩ := id hl
  cases i with
  | iconst n =>
    simp only [amStep] at h
    cases h
    simp only [amChk, decide_eq_true_eq] at hc
    subst hc
    exact lv_iconst hx hb hd rfl (kk _ _ _ _ _ Y0 hl (amSR_mk rfl hst))
  | bipush n =>
    simp only [amStep] at h
    cases h
    simp only [amChk, decide_eq_true_eq] at hc
    subst hc
    exact lv_bipush hx hb hd rfl (kk _ _ _ _ _ Y0 hl (amSR_mk rfl hst))
  | sipush n =>
    simp only [amStep] at h
    cases h
    simp only [amChk, decide_eq_true_eq] at hc
    subst hc
    exact lv_sipush hx hb hd rfl (kk _ _ _ _ _ Y0 hl (amSR_mk rfl hst))
  | lconst n =>
    simp only [amStep] at h
    cases h
    simp only [amChk, decide_eq_true_eq] at hc
    subst hc
    exact lv_lconst hx hb hd rfl (kk _ _ _ _ _ Y0 hl (amSR_mk rfl hst))
  | ldc k =>
    simp only [amStep] at h
    split at h
    · rename_i hx3
      cases h
      simp only [amChk, Bool.and_eq_true, Bool.or_eq_true, decide_eq_true_eq, hx3, ne_eq, not_true_eq_false, false_or] at hc
      obtain ⟨rfl, hc⟩ := hc
      have hcon : (Cond.constant (amN r.1.1) k (-1640531527)).before args s = true := by
        rcases hc with ⟨h1, rfl⟩ | ⟨h1, rfl⟩
        · rw [h1]; exact hts _ amLd_3
        · rw [h1]; exact hts _ amLd_4
      rw [hx3] at kk
      exact lv_ldc hx hb hown hcon hd (kk _ _ _ _ _ Y0 hl (amSR_mk rfl hst))
    · cases h
  | iload k =>
    simp only [amStep] at h
    split at h
    · rename_i v hk
      cases h
      simp only [amChk, decide_eq_true_eq] at hc
      subst hc
      obtain ⟨w, h1, -, h3⟩ := hl4 _ _ hk
      rw [amVR_int h1] at h3
      exact lv_iload hx hb hd h3 (kk _ _ _ _ _ Y0 hl (amSR_mk rfl hst))
    · cases h
  | iload_n k =>
    simp only [amStep] at h
    split at h
    · rename_i v hk
      cases h
      simp only [amChk, decide_eq_true_eq] at hc
      subst hc
      obtain ⟨w, h1, -, h3⟩ := hl4 _ _ hk
      rw [amVR_int h1] at h3
      exact lv_iload_n hx hb hd rfl h3 (kk _ _ _ _ _ Y0 hl (amSR_mk rfl hst))
    · cases h
  | aload k =>
    simp only [amStep] at h
    split at h
    · rename_i v hk
      cases h
      simp only [amChk, decide_eq_true_eq] at hc
      subst hc
      obtain ⟨w, h1, -, h3⟩ := hl4 _ _ hk
      obtain ⟨a, h4, rfl⟩ := amVR_ref h1
      exact lv_aload hx hb hd h3 (kk _ _ _ _ _ Y0 hl (amSR_mk h1 hst))
    · cases h
  | aload_n k =>
    simp only [amStep] at h
    split at h
    · rename_i v hk
      cases h
      simp only [amChk, decide_eq_true_eq] at hc
      subst hc
      obtain ⟨w, h1, -, h3⟩ := hl4 _ _ hk
      obtain ⟨a, h4, rfl⟩ := amVR_ref h1
      exact lv_aload_n hx hb hd rfl h3 (kk _ _ _ _ _ Y0 hl (amSR_mk h1 hst))
    · cases h
  | istore k =>
    simp only [amStep] at h
    split at h
    · cases h
      simp only [amChk, Bool.and_eq_true, decide_eq_true_eq] at hc
      obtain ⟨rfl, hc⟩ := hc
      obtain ⟨c2, rfl, hst2⟩ := amSR_int hst
      obtain ⟨l2, e2, hl9⟩ := amLR_set hl hc (v := .int _) rfl rfl
      exact aw_istore hx hb hd e2 (kk _ _ _ _ _ Y0 hl9 hst2)
    · cases h
  | istore_n k =>
    simp only [amStep] at h
    split at h
    · cases h
      simp only [amChk, Bool.and_eq_true, decide_eq_true_eq] at hc
      obtain ⟨rfl, hc⟩ := hc
      obtain ⟨c2, rfl, hst2⟩ := amSR_int hst
      obtain ⟨l2, e2, hl9⟩ := amLR_set hl hc (v := .int _) rfl rfl
      exact aw_istore_n hx hb hd e2 (kk _ _ _ _ _ Y0 hl9 hst2)
    · cases h
  | astore k =>
    simp only [amStep] at h
    split at h
    · cases h
      simp only [amChk, Bool.and_eq_true, decide_eq_true_eq] at hc
      obtain ⟨rfl, hc⟩ := hc
      obtain ⟨a, c2, rfl, ha, hst2⟩ := amSR_ref hst
      obtain ⟨l2, e2, hl9⟩ := amLR_set hl hc (v := .ref _) ⟨a, ha, rfl⟩ rfl
      exact aw_astore hx hb hd e2 (kk _ _ _ _ _ Y0 hl9 hst2)
    · cases h
  | astore_n k =>
    simp only [amStep] at h
    split at h
    · cases h
      simp only [amChk, Bool.and_eq_true, decide_eq_true_eq] at hc
      obtain ⟨rfl, hc⟩ := hc
      obtain ⟨a, c2, rfl, ha, hst2⟩ := amSR_ref hst
      obtain ⟨l2, e2, hl9⟩ := amLR_set hl hc (v := .ref _) ⟨a, ha, rfl⟩ rfl
      exact aw_astore_n hx hb hd e2 (kk _ _ _ _ _ Y0 hl9 hst2)
    · cases h
  | iinc k n =>
    simp only [amStep] at h
    split at h
    · rename_i v hk
      cases h
      simp only [amChk, Bool.and_eq_true, decide_eq_true_eq] at hc
      obtain ⟨rfl, hc⟩ := hc
      obtain ⟨w, h1, -, h3⟩ := hl4 _ _ hk
      rw [amVR_int h1] at h3
      obtain ⟨l2, e2, hl9⟩ := amLR_set hl hc (v := .int (v + Int32.ofInt n)) rfl rfl
      exact aw_iinc hx hb hd h3 e2 (kk _ _ _ _ _ Y0 hl9 hst)
    · cases h
  | iadd =>
    simp only [amStep] at h
    split at h
    · cases h
      simp only [amChk, decide_eq_true_eq] at hc
      subst hc
      obtain ⟨c2, rfl, hst2⟩ := amSR_int hst
      obtain ⟨c3, rfl, hst3⟩ := amSR_int hst2
      exact lv_iadd hx hb hd (kk _ _ _ _ _ Y0 hl (amSR_mk rfl hst3))
    · cases h
  | isub =>
    simp only [amStep] at h
    split at h
    · cases h
      simp only [amChk, decide_eq_true_eq] at hc
      subst hc
      obtain ⟨c2, rfl, hst2⟩ := amSR_int hst
      obtain ⟨c3, rfl, hst3⟩ := amSR_int hst2
      exact lv_isub hx hb hd (kk _ _ _ _ _ Y0 hl (amSR_mk rfl hst3))
    · cases h
  | imul =>
    simp only [amStep] at h
    split at h
    · cases h
      simp only [amChk, decide_eq_true_eq] at hc
      subst hc
      obtain ⟨c2, rfl, hst2⟩ := amSR_int hst
      obtain ⟨c3, rfl, hst3⟩ := amSR_int hst2
      exact lv_imul hx hb hd (kk _ _ _ _ _ Y0 hl (amSR_mk rfl hst3))
    · cases h
  | iand =>
    simp only [amStep] at h
    split at h
    · cases h
      simp only [amChk, decide_eq_true_eq] at hc
      subst hc
      obtain ⟨c2, rfl, hst2⟩ := amSR_int hst
      obtain ⟨c3, rfl, hst3⟩ := amSR_int hst2
      exact lv_iand hx hb hd (kk _ _ _ _ _ Y0 hl (amSR_mk rfl hst3))
    · cases h
  | ior =>
    simp only [amStep] at h
    split at h
    · cases h
      simp only [amChk, decide_eq_true_eq] at hc
      subst hc
      obtain ⟨c2, rfl, hst2⟩ := amSR_int hst
      obtain ⟨c3, rfl, hst3⟩ := amSR_int hst2
      exact lv_ior hx hb hd (kk _ _ _ _ _ Y0 hl (amSR_mk rfl hst3))
    · cases h
  | idiv =>
    simp only [amStep] at h
    split at h
    · split at h
      · cases h
      · rename_i hne
        cases h
        simp only [amChk, decide_eq_true_eq] at hc
        subst hc
        obtain ⟨c2, rfl, hst2⟩ := amSR_int hst
        obtain ⟨c3, rfl, hst3⟩ := amSR_int hst2
        exact lv_idiv hx hb hd hne (kk _ _ _ _ _ Y0 hl (amSR_mk rfl hst3))
    · cases h
  | irem =>
    simp only [amStep] at h
    split at h
    · split at h
      · cases h
      · rename_i hne
        cases h
        simp only [amChk, decide_eq_true_eq] at hc
        subst hc
        obtain ⟨c2, rfl, hst2⟩ := amSR_int hst
        obtain ⟨c3, rfl, hst3⟩ := amSR_int hst2
        exact lv_irem hx hb hd hne (kk _ _ _ _ _ Y0 hl (amSR_mk rfl hst3))
    · cases h
  | ishl =>
    simp only [amStep] at h
    split at h
    · cases h
      simp only [amChk, decide_eq_true_eq] at hc
      subst hc
      obtain ⟨c2, rfl, hst2⟩ := amSR_int hst
      obtain ⟨c3, rfl, hst3⟩ := amSR_int hst2
      exact lv_ishl hx hb hd (kk _ _ _ _ _ Y0 hl (amSR_mk rfl hst3))
    · cases h
  | ishr =>
    simp only [amStep] at h
    split at h
    · cases h
      simp only [amChk, decide_eq_true_eq] at hc
      subst hc
      obtain ⟨c2, rfl, hst2⟩ := amSR_int hst
      obtain ⟨c3, rfl, hst3⟩ := amSR_int hst2
      exact lv_ishr hx hb hd (kk _ _ _ _ _ Y0 hl (amSR_mk rfl hst3))
    · cases h
  | iushr =>
    simp only [amStep] at h
    split at h
    · cases h
      simp only [amChk, decide_eq_true_eq] at hc
      subst hc
      obtain ⟨c2, rfl, hst2⟩ := amSR_int hst
      obtain ⟨c3, rfl, hst3⟩ := amSR_int hst2
      exact lv_iushr hx hb hd rfl (kk _ _ _ _ _ Y0 hl (amSR_mk rfl hst3))
    · cases h
  | i2l =>
    simp only [amStep] at h
    split at h
    · cases h
      simp only [amChk, decide_eq_true_eq] at hc
      subst hc
      obtain ⟨c2, rfl, hst2⟩ := amSR_int hst
      exact lv_i2l hx hb hd rfl (kk _ _ _ _ _ Y0 hl (amSR_mk rfl hst2))
    · cases h
  | lcmp =>
    simp only [amStep] at h
    split at h
    · cases h
      simp only [amChk, decide_eq_true_eq] at hc
      subst hc
      obtain ⟨c2, rfl, hst2⟩ := amSR_long hst
      obtain ⟨c3, rfl, hst3⟩ := amSR_long hst2
      exact W.lcmp hx hb hd (kk _ _ _ _ _ Y0 hl (amSR_mk rfl hst3))
    · cases h
  | dup =>
    simp only [amStep] at h
    split at h
    · split at h
      · rename_i hcat
        cases h
        simp only [amChk, decide_eq_true_eq] at hc
        subst hc
        obtain ⟨w, c2, rfl, h1, hst2⟩ := amSR_cons hst
        exact lv_dup hx hb hd (by rw [amVR_cat h1]; exact hcat) (kk _ _ _ _ _ Y0 hl (amSR_mk h1 hst))
      · cases h
    · cases h
  | dup2 =>
    simp only [amStep] at h
    split at h
    · split at h
      · rename_i hcat
        cases h
        simp only [amChk, decide_eq_true_eq] at hc
        subst hc
        obtain ⟨w, c2, rfl, h1, hst2⟩ := amSR_cons hst
        obtain ⟨w2, c3, rfl, h2, hst3⟩ := amSR_cons hst2
        exact lv_dup2_11 hx hb hd (by rw [amVR_cat h1]; exact hcat.1) (by rw [amVR_cat h2]; exact hcat.2) (kk _ _ _ _ _ Y0 hl (amSR_mk h1 (amSR_mk h2 hst)))
      · cases h
    · cases h
  | ifCond cnd off =>
    simp only [amStep] at h
    split at h
    · cases h
      simp only [amChk, Bool.and_eq_true, decide_eq_true_eq] at hc
      obtain ⟨rfl, hc⟩ := hc
      obtain ⟨c2, rfl, hst2⟩ := amSR_int hst
      have k1 := kk _ _ _ _ _ Y0 hl hst2
      cases cnd
      · exact lv_if_eq hx hb hd (am_tgt hc) (fun q => by simpa only [amIf0, if_pos q] using k1) (fun q => by simpa only [amIf0, if_neg q] using k1)
      · exact lv_if_ne hx hb hd (am_tgt hc) (fun q => by simpa only [amIf0, if_pos q] using k1) (fun q => by simpa only [amIf0, if_neg (not_not_intro q)] using k1)
      · exact lv_if_lt hx hb hd (am_tgt hc) (fun q => by simpa only [amIf0, if_pos q] using k1) (fun q => by simpa only [amIf0, if_neg q] using k1)
      · exact lv_if_ge hx hb hd (am_tgt hc) (fun q => by simpa only [amIf0, if_pos q] using k1) (fun q => by simpa only [amIf0, if_neg q] using k1)
      · exact lv_if_gt hx hb hd (am_tgt hc) (fun q => by simpa only [amIf0, if_pos q] using k1) (fun q => by simpa only [amIf0, if_neg q] using k1)
      · exact lv_if_le hx hb hd (am_tgt hc) (fun q => by simpa only [amIf0, if_pos q] using k1) (fun q => by simpa only [amIf0, if_neg q] using k1)
    · cases h
  | if_icmp cnd off =>
    simp only [amStep] at h
    split at h
    · cases h
      simp only [amChk, Bool.and_eq_true, decide_eq_true_eq] at hc
      obtain ⟨rfl, hc⟩ := hc
      obtain ⟨c2, rfl, hst2⟩ := amSR_int hst
      obtain ⟨c3, rfl, hst3⟩ := amSR_int hst2
      have k1 := kk _ _ _ _ _ Y0 hl hst3
      cases cnd
      · exact lv_icmp_eq hx hb hd (am_tgt hc) (fun q => by simpa only [amIf2, if_pos q] using k1) (fun q => by simpa only [amIf2, if_neg q] using k1)
      · exact lv_icmp_ne hx hb hd (am_tgt hc) (fun q => by simpa only [amIf2, if_pos q] using k1) (fun q => by simpa only [amIf2, if_neg (not_not_intro q)] using k1)
      · exact lv_icmp_lt hx hb hd (am_tgt hc) (fun q => by simpa only [amIf2, if_pos q] using k1) (fun q => by simpa only [amIf2, if_neg q] using k1)
      · exact lv_icmp_ge hx hb hd (am_tgt hc) (fun q => by simpa only [amIf2, if_pos q] using k1) (fun q => by simpa only [amIf2, if_neg q] using k1)
      · exact lv_icmp_gt hx hb hd (am_tgt hc) (fun q => by simpa only [amIf2, if_pos q] using k1) (fun q => by simpa only [amIf2, if_neg q] using k1)
      · exact lv_icmp_le hx hb hd (am_tgt hc) (fun q => by simpa only [amIf2, if_pos q] using k1) (fun q => by simpa only [amIf2, if_neg q] using k1)
    · cases h
  | goto off =>
    simp only [amStep] at h
    cases h
    simp only [amChk, Bool.and_eq_true, decide_eq_true_eq] at hc
    obtain ⟨rfl, hc⟩ := hc
    exact lv_goto hx hb hd (am_tgt hc) (kk _ _ _ _ _ Y0 hl hst)
  | tableswitch dflt lo hi offs =>
    simp only [amStep] at h
    split at h
    · simp only [amChk, Bool.and_eq_true, decide_eq_true_eq, Array.all_eq_true] at hc
      obtain ⟨c2, rfl, hst2⟩ := amSR_int hst
      split at h
      · rename_i hq
        cases h
        exact lv_tableOut hx hb hd hq (am_tgt hc.1) (kk _ _ _ _ _ Y0 hl hst2)
      · rename_i hq
        split at h
        · rename_i off ho
          cases h
          have hin := Array.getElem?_eq_some_iff.mp ho
          obtain ⟨h1, h2⟩ := hin
          have h3 := hc.2 _ h1
          rw [h2] at h3
          exact lv_tableIn hx hb hd (fun z => hq (Or.inl z)) (fun z => hq (Or.inr z)) ho (am_tgt h3) (kk _ _ _ _ _ Y0 hl hst2)
        · cases h
    · cases h
  | getfield k =>
    simp only [amStep] at h
    split at h
    · rename_i a st2
      split at h
      · rename_i ci fs hcell
        split at h
        · rename_i hci
          split at h
          · rename_i v hv
            cases h
            simp only [amChk, Bool.and_eq_true, decide_eq_true_eq] at hc
            obtain ⟨rfl, hc⟩ := hc
            obtain ⟨f1, f2, f3⟩ := amFldOk _ hc
            obtain ⟨a1, c2, rfl, ha, hst2⟩ := amSR_ref hst
            have h0 : a ≠ 0 := fun z => by rw [z, hs0] at hcell; cases hcell
            obtain ⟨e1, hw, fs', rfl, hfs⟩ := amWR_get hWR hcell h0 ha
            obtain ⟨w, hw1, hw2⟩ := amSR_get hfs hv
            subst hci
            exact va_get hx hb hts (amU_all _ f3) hown hK hP (a - 1) hw (amCl_at _ f3) x.2.1 f2 (hts _ f1) (fun _ z => z) hw1 hd (kk _ _ _ _ _ Y0 hl (amSR_mk hw2 hst2))
          · cases h
        · cases h
      · cases h
    · cases h
  | putfield k =>
    simp only [amStep] at h
    split at h
    · rename_i v a st2
      split at h
      · rename_i ci fs hcell
        split at h
        · rename_i hq
          obtain ⟨hci, hfit, hlen⟩ := hq
          cases h
          simp only [amChk, Bool.and_eq_true, decide_eq_true_eq] at hc
          obtain ⟨⟨rfl, hc⟩, hfin⟩ := hc
          obtain ⟨f1, f2, f3⟩ := amFldOk _ hc
          obtain ⟨w, c1, rfl, hv, hst1⟩ := amSR_cons hst
          obtain ⟨a1, c2, rfl, ha, hst2⟩ := amSR_ref hst1
          have h0 : a ≠ 0 := fun z => by rw [z, hs0] at hcell; cases hcell
          obtain ⟨e1, hw, fs', rfl, hfs⟩ := amWR_get hWR hcell h0 ha
          subst hci
          obtain ⟨n1, n2⟩ := amFits_ok hfit hv
          have hlen2 : x.2.1 < fs'.length := by rw [amSR_len hfs]; exact hlen
          have kk2 : ∀ (H1 : Heap) (locs1 : List Loc), va_P D vwCl (ws.set (a - 1) (a1, .inr (x.1, fs'.set x.2.1 w))) H1 → va_D A (ws.set (a - 1) (a1, .inr (x.1, fs'.set x.2.1 w))) → va_S A s.heap H1 locs1 → W p l e R s m args below meth cd H1 locs1 cells slots Q (F0 m (pc + 3) cls c2) := fun H1 locs1 q1 q2 q3 =>
            kk _ _ _ _ _ (amDy_set Y0 h0 hw ⟨fs'.set x.2.1 w, rfl, amSR_set hfs hv⟩ q1 q2 q3) hl hst2
          cases hfn : amFinal x.1 x.2.1 with
          | false => exact va_put hx hb hts (amU_all _ f3) (amTy x.1) (amTy_ok _ f3) (amNm_ok _ f3) hown hK hP hD hS (a - 1) hw (amCl_at _ f3) x.2.1 f2 (hts _ f1) (fun _ z => z) hfn (amTy_ok _ f3 _ f2) n1 n2 hlen2 hd kk2
          | true =>
            rw [hfn] at hfin
            simp only [Bool.not_true, Bool.false_or, Bool.or_eq_true, Bool.false_eq_true, false_or, Bool.and_eq_true, decide_eq_true_eq] at hfin
            exact va_putF hx hb hts (amU_all _ f3) (amTy x.1) (amTy_ok _ f3) (amNm_ok _ f3) hown hK hP hD hS (a - 1) hw (amCl_at _ f3) x.2.1 f2 (hts _ f1) (fun _ z => z) hfn (hinit hfin.1) (by rw [hfin.2]; exact amOwn_ok _ f3 _ f2) (amTy_ok _ f3 _ f2) n1 n2 hlen2 hd kk2
        · cases h
      · cases h
    · cases h
  | arraylength =>
    simp only [amStep] at h
    split at h
    · rename_i a st2
      split at h
      · rename_i ty n f hcell
        cases h
        simp only [amChk, decide_eq_true_eq] at hc
        subst hc
        obtain ⟨a1, c2, rfl, ha, hst2⟩ := amSR_ref hst
        by_cases h0 : a = 0
        · subst h0
          rw [hσ0] at ha
          cases ha
          rw [hs0] at hcell
          cases hcell
          exact va_slen hx hb hX hbl hbA hS hd (kk _ _ _ _ _ Y0 hl (amSR_mk rfl hst2))
        · obtain ⟨e1, hw, hcr⟩ := amWR_get hWR hcell h0 ha
          have k1 := kk _ _ _ _ _ Y0 hl (amSR_mk (w := .int (Int32.ofNat n)) rfl hst2)
          rcases f with f | f | f
          · obtain ⟨-, cA, rfl, g1, g2⟩ := hcr
            exact va_alen hx hb (amK1 hK g1 g2) hP (a - 1) 0 hw rfl rfl hd k1
          · obtain ⟨-, cA, rfl, g1, g2⟩ := hcr
            exact va_alen hx hb (amK1 hK g1 g2) hP (a - 1) 0 hw rfl rfl hd k1
          · obtain ⟨C, cA, f', -, rfl, g1, g2, -⟩ := hcr
            exact va_alen hx hb (amK1 hK g1 g2) hP (a - 1) 0 hw rfl rfl hd k1
      · cases h
    · cases h
  | iaload =>
    simp only [amStep] at h
    split at h
    · rename_i j a st2
      split at h
      · rename_i n f hcell
        split at h
        · rename_i hin
          cases h
          simp only [amChk, decide_eq_true_eq] at hc
          subst hc
          obtain ⟨c1, rfl, hst1⟩ := amSR_int hst
          obtain ⟨a1, c2, rfl, ha, hst2⟩ := amSR_ref hst1
          by_cases h0 : a = 0
          · subst h0
            rw [hσ0] at ha
            cases ha
            rw [hs0] at hcell
            cases hcell
            exact va_sld hx hb hX hbl hbA hS (amIn_in hin) hd (kk _ _ _ _ _ Y0 hl (amSR_mk rfl hst2))
          · obtain ⟨e1, hw, -, cA, rfl, g1, g2⟩ := amWR_get hWR hcell h0 ha
            exact va_iald hx hb (amK1 hK g1 g2) hP (a - 1) 0 hw rfl (amIn_in hin) hd (kk _ _ _ _ _ Y0 hl (amSR_mk rfl hst2))
        · cases h
      · cases h
    · cases h
  | baload =>
    simp only [amStep] at h
    split at h
    · rename_i j a st2
      split at h
      · rename_i n f hcell
        split at h
        · rename_i hin
          cases h
          simp only [amChk, decide_eq_true_eq] at hc
          subst hc
          obtain ⟨c1, rfl, hst1⟩ := amSR_int hst
          obtain ⟨a1, c2, rfl, ha, hst2⟩ := amSR_ref hst1
          have h0 : a ≠ 0 := fun z => by rw [z, hs0] at hcell; cases hcell
          obtain ⟨e1, hw, -, cA, rfl, g1, g2⟩ := amWR_get hWR hcell h0 ha
          exact va_zald hx hb (amK1 hK g1 g2) hP (a - 1) 0 hw rfl (amIn_in hin) hd (kk _ _ _ _ _ Y0 hl (amSR_mk rfl hst2))
        · cases h
      · cases h
    · cases h
  | laload =>
    simp only [amStep] at h
    split at h
    · rename_i j a st2
      split at h
      · rename_i n f hcell
        split at h
        · rename_i hin
          cases h
          simp only [amChk, decide_eq_true_eq] at hc
          subst hc
          obtain ⟨c1, rfl, hst1⟩ := amSR_int hst
          obtain ⟨a1, c2, rfl, ha, hst2⟩ := amSR_ref hst1
          have h0 : a ≠ 0 := fun z => by rw [z, hs0] at hcell; cases hcell
          obtain ⟨e1, hw, -, cA, rfl, g1, g2⟩ := amWR_get hWR hcell h0 ha
          exact va_lald hx hb (amK1 hK g1 g2) hP (a - 1) 0 hw rfl (amIn_in hin) hd (kk _ _ _ _ _ Y0 hl (amSR_mk rfl hst2))
        · cases h
      · cases h
    · cases h
  | aaload =>
    simp only [amStep] at h
    split at h
    · rename_i j a st2
      split at h
      · rename_i C n f hcell
        split at h
        · rename_i hin
          split at h
          · rename_i k hk
            cases h
            simp only [amChk, decide_eq_true_eq] at hc
            subst hc
            obtain ⟨c1, rfl, hst1⟩ := amSR_int hst
            obtain ⟨a1, c2, rfl, ha, hst2⟩ := amSR_ref hst1
            have h0 : a ≠ 0 := fun z => by rw [z, hs0] at hcell; cases hcell
            obtain ⟨e1, hw, C2, cA, f', hC, rfl, g1, g2, g3⟩ := amWR_get hWR hcell h0 ha
            have hlt : j.toNatClampNeg < n := by
              simp only [amIn, Bool.and_eq_true, decide_eq_true_eq] at hin
              exact hin.2
            obtain ⟨a2, b1, b2⟩ := g3 _ hlt _ hk
            have k1 := kk _ _ _ _ _ Y0 hl (amSR_mk (w := .ref a2) ⟨a2, b1, rfl⟩ hst2)
            refine va_aldq hx hb (amK1 hK g1 g2) hP (a - 1) 0 hw rfl (amIn_in hin) hd ?_
            rw [b2]
            exact k1
          · cases h
        · cases h
      · cases h
    · cases h
  | iastore =>
    simp only [amStep] at h
    split at h
    · rename_i v j a st2
      split at h
      · rename_i n f hcell
        split at h
        · rename_i hin
          obtain ⟨hin, h0⟩ := hin
          cases h
          simp only [amChk, decide_eq_true_eq] at hc
          subst hc
          obtain ⟨c0, rfl, hst0⟩ := amSR_int hst
          obtain ⟨c1, rfl, hst1⟩ := amSR_int hst0
          obtain ⟨a1, c2, rfl, ha, hst2⟩ := amSR_ref hst1
          obtain ⟨e1, hw, hty, cA, rfl, g1, g2⟩ := amWR_get hWR hcell h0 ha
          exact va_iast hx hb (amK1 hK g1 g2) hP hD hS (a - 1) 0 hw rfl (amIn_in hin) hd (fun H1 locs1 q1 q2 q3 => kk _ _ _ _ _ (amDy_set Y0 h0 hw ⟨hty, cA, rfl, g1, g2⟩ q1 q2 q3) hl hst2)
        · cases h
      · cases h
    · cases h
  | bastore =>
    simp only [amStep] at h
    split at h
    · rename_i v j a st2
      split at h
      · rename_i n f hcell
        split at h
        · rename_i hin
          obtain ⟨hin, h0⟩ := hin
          cases h
          simp only [amChk, decide_eq_true_eq] at hc
          subst hc
          obtain ⟨c0, rfl, hst0⟩ := amSR_int hst
          obtain ⟨c1, rfl, hst1⟩ := amSR_int hst0
          obtain ⟨a1, c2, rfl, ha, hst2⟩ := amSR_ref hst1
          obtain ⟨e1, hw, hty, cA, rfl, g1, g2⟩ := amWR_get hWR hcell h0 ha
          exact va_zast hx hb (amK1 hK g1 g2) hP hD hS (a - 1) 0 hw rfl (amIn_in hin) hd (fun H1 locs1 q1 q2 q3 => kk _ _ _ _ _ (amDy_set Y0 h0 hw ⟨hty, cA, rfl, g1, g2⟩ q1 q2 q3) hl hst2)
        · cases h
      · cases h
    · cases h
  | lastore =>
    simp only [amStep] at h
    split at h
    · rename_i v j a st2
      split at h
      · rename_i n f hcell
        split at h
        · rename_i hin
          obtain ⟨hin, h0⟩ := hin
          cases h
          simp only [amChk, decide_eq_true_eq] at hc
          subst hc
          obtain ⟨c0, rfl, hst0⟩ := amSR_long hst
          obtain ⟨c1, rfl, hst1⟩ := amSR_int hst0
          obtain ⟨a1, c2, rfl, ha, hst2⟩ := amSR_ref hst1
          obtain ⟨e1, hw, hty, cA, rfl, g1, g2⟩ := amWR_get hWR hcell h0 ha
          exact va_last hx hb (amK1 hK g1 g2) hP hD hS (a - 1) 0 hw rfl (amIn_in hin) hd (fun H1 locs1 q1 q2 q3 => kk _ _ _ _ _ (amDy_set Y0 h0 hw ⟨hty, cA, rfl, g1, g2⟩ q1 q2 q3) hl hst2)
        · cases h
      · cases h
    · cases h
  | aastore =>
    simp only [amStep] at h
    split at h
    · rename_i v j a st2
      split at h
      · rename_i C n f ci fs hcell hcv
        split at h
        · rename_i hin
          obtain ⟨hin, h0, h5, hCn⟩ := hin
          cases h
          simp only [amChk, decide_eq_true_eq] at hc
          subst hc
          obtain ⟨av, c0, rfl, hav, hst0⟩ := amSR_ref hst
          obtain ⟨c1, rfl, hst1⟩ := amSR_int hst0
          obtain ⟨a1, c2, rfl, ha, hst2⟩ := amSR_ref hst1
          obtain ⟨e1, hw, C2, cA, f', hC, rfl, g1, g2, g3⟩ := amWR_get hWR hcell h0 ha
          have hv0 : v ≠ 0 := fun z => by rw [z, hs0] at hcv; cases hcv
          obtain ⟨e2, hw2, fs', rfl, -⟩ := amWR_get hWR hcv hv0 hav
          subst hCn
          have g5 := amCl_at ci h5
          refine va_astq (r := (amN ci, amTT ci, amNF ci)) hx hb (amK1 hK g1 g2) hP hD hS (a - 1) 0 (v - 1) ci hw rfl hw2 g5 (amIn_in hin) hd (fun H1 locs1 q1 q2 q3 => kk _ _ _ _ _ (amDy_set Y0 h0 hw ⟨C2, cA, _, hC, rfl, g1, g2, ?_⟩ q1 q2 q3) hl hst2)
          intro i2 hi2 k2 hk2
          unfold va_up at hk2 ⊢
          by_cases hij : i2 = j.toNatClampNeg
          · rw [if_pos hij] at hk2 ⊢
            cases hk2
            exact ⟨av, hav, rfl⟩
          · rw [if_neg hij] at hk2 ⊢
            exact g3 i2 hi2 k2 hk2
        · cases h
      · cases h
    · cases h
  | invokestatic k =>
    simp only [amStep] at h
    split at h
    · rename_i v w st2
      split at h
      · rename_i hsum
        obtain ⟨c1, rfl, hst1⟩ := amSR_int hst
        obtain ⟨c2, rfl, hst2⟩ := amSR_int hst1
        have hs8 := amSR_sum hst2
        have hsz : cd.maxLocals = cls.size := by rw [hml, hl1]
        simp only [amChk, Bool.and_eq_true, Bool.or_eq_true, decide_eq_true_eq] at hc
        obtain ⟨rfl, hc⟩ := hc
        split at h
        · rename_i h4
          cases h
          rcases hc with ⟨⟨⟨h9, -⟩, -⟩, -⟩ | ⟨⟨⟨-, h6⟩, h7⟩, h8⟩
          · omega
          · have g := amMthOk _ h6
            rw [h4] at g
            exact va_mmax hx hb hsz hown (hts _ g) (hts _ amMmax_s) (hts _ amM_i) (hts _ amMmax_c) (by omega) (by rw [hs8]; omega) hRc hRs hd (kk _ _ _ _ _ Y0 hl (amSR_mk rfl hst2))
        · split at h
          · rename_i h4 h5
            cases h
            rcases hc with ⟨⟨⟨h9, -⟩, -⟩, -⟩ | ⟨⟨⟨-, h6⟩, h7⟩, h8⟩
            · omega
            · have g := amMthOk _ h6
              rw [h5] at g
              exact va_mmin hx hb hsz hown (hts _ g) (hts _ amMmin_s) (hts _ amM_i) (hts _ amMmin_c) (by omega) (by rw [hs8]; omega) hRc hRs hd (kk _ _ _ _ _ Y0 hl (amSR_mk rfl hst2))
          · cases h
      · cases h
    · cases h
  | invokespecial k =>
    simp only [amStep] at h
    split at h
    · rename_i a st2
      split at h
      · rename_i hq
        obtain ⟨h6, hsum⟩ := hq
        cases h
        obtain ⟨a1, c2, rfl, ha, hst2⟩ := amSR_ref hst
        have hs8 := amSR_sum hst2
        simp only [amChk, Bool.and_eq_true, Bool.or_eq_true, decide_eq_true_eq] at hc
        obtain ⟨rfl, hc⟩ := hc
        rcases hc with (⟨⟨⟨h9, -⟩, -⟩, -⟩ | ⟨⟨⟨-, h5⟩, h7⟩, h8⟩) | h9
        · omega
        · refine W.objInit hx hb hown (hts _ (amObjOk _ h5)) (hts _ amObj_i) (hts _ amObj_c) rfl (by rw [hml]; exact hl1) rfl hd (by omega) (by show 2 * 0 + _ + 12 ≤ _; rw [hs8]; omega) ?_
          exact kk _ _ _ _ _ Y0 hl hst2
        · omega
      · cases h
    · cases h
  | _ => simp [amStep] at h
end
section
/-! what the throws and the handlers need of the tables; by wip/whole/gen09.py -/
def amNames : List String := ["java/lang/RuntimeException", "java/lang/Exception"]
def amThrS : List (Nat × Nat × Nat × Nat) := [(80, 2, 82, 84), (80, 2, 90, 84), (80, 2, 193, 84), (128, 1, 130, 132), (128, 1, 176, 132), (128, 1, 178, 132), (180, 3, 182, 184), (180, 3, 185, 184)]
def amAtS (E ic : Nat) : List Cond := vx_atS RX3 ic (amX E) amNames
def amThrP (q : Nat × Nat × Nat × Nat) : Prop := Cond.classLink RX3 q.1 (amX q.2.1) ∈ amTB ∧ Cond.initialized (amX q.2.1) ∈ amTB ∧ (∃ tx, (RX3, q.2.2.1, tx) ∈ amStrs) ∧ (∀ w ∈ (amAtS q.2.1 q.2.2.2).filter goodWord, w ∈ amTB) ∧ (∀ w ∈ (amAtS q.2.1 q.2.2.2).filter (fun w => !goodWord w), w ∈ amBad) ∧ (∀ w ∈ Cond.classLink RX3 q.1 (amX q.2.1) :: Cond.initialized (amX q.2.1) :: amAtS q.2.1 q.2.2.2, vx_ot w = true) ∧ Bundle.fit (amX q.2.1) = true ∧ (q.2.1 = 1 ∨ q.2.1 = 2 ∨ q.2.1 = 3)
theorem amNames_ok : ∀ n ∈ amNames, Bundle.fit n = true := by decide +kernel
theorem am_allmem {l t : List Cond} (h : l.all (fun w => decide (w ∈ t)) = true) : ∀ w ∈ l, w ∈ t := fun w hw => of_decide_eq_true (List.all_eq_true.mp h w hw)
theorem am_goodmem {l : List Cond} (h : l.all (fun w => decide (w ∈ lw_tbl)) = true) : ∀ w ∈ l.filter goodWord, w ∈ amTB := fun w hw => List.mem_filter.mpr ⟨am_allmem h w (List.mem_filter.mp hw).1, (List.mem_filter.mp hw).2⟩
theorem am_allot {l : List Cond} (h : l.all vx_ot = true) : ∀ w ∈ l, vx_ot w = true := fun w hw => List.all_eq_true.mp h w hw
theorem amAtG_1 : ∀ w ∈ (amAtS 1 132).filter goodWord, w ∈ amTB := am_goodmem (by decide +kernel)
theorem amAtB_1 : ∀ w ∈ (amAtS 1 132).filter (fun w => !goodWord w), w ∈ amBad := am_allmem (by decide +kernel)
theorem amIniX_1 : Cond.initialized (amX 1) ∈ amTB := amTB_of (i := 24) (by decide +kernel) (by decide +kernel)
theorem amFit_1 : Bundle.fit (amX 1) = true := by decide +kernel
theorem amAtG_2 : ∀ w ∈ (amAtS 2 84).filter goodWord, w ∈ amTB := am_goodmem (by decide +kernel)
theorem amAtB_2 : ∀ w ∈ (amAtS 2 84).filter (fun w => !goodWord w), w ∈ amBad := am_allmem (by decide +kernel)
theorem amIniX_2 : Cond.initialized (amX 2) ∈ amTB := amTB_of (i := 25) (by decide +kernel) (by decide +kernel)
theorem amFit_2 : Bundle.fit (amX 2) = true := by decide +kernel
theorem amAtG_3 : ∀ w ∈ (amAtS 3 184).filter goodWord, w ∈ amTB := am_goodmem (by decide +kernel)
theorem amAtB_3 : ∀ w ∈ (amAtS 3 184).filter (fun w => !goodWord w), w ∈ amBad := am_allmem (by decide +kernel)
theorem amIniX_3 : Cond.initialized (amX 3) ∈ amTB := amTB_of (i := 27) (by decide +kernel) (by decide +kernel)
theorem amFit_3 : Bundle.fit (amX 3) = true := by decide +kernel
theorem amThr_80_82 : amThrP (80, 2, 82, 84) := ⟨amTB_of (i := 280) (by decide +kernel) (by decide +kernel), amIniX_2, ⟨_, List.mem_of_getElem? (i := 4) rfl⟩, amAtG_2, amAtB_2, am_allot (by decide +kernel), amFit_2, by decide +kernel⟩
theorem amThr_80_90 : amThrP (80, 2, 90, 84) := ⟨amTB_of (i := 280) (by decide +kernel) (by decide +kernel), amIniX_2, ⟨_, List.mem_of_getElem? (i := 5) rfl⟩, amAtG_2, amAtB_2, am_allot (by decide +kernel), amFit_2, by decide +kernel⟩
theorem amThr_80_193 : amThrP (80, 2, 193, 84) := ⟨amTB_of (i := 280) (by decide +kernel) (by decide +kernel), amIniX_2, ⟨_, List.mem_of_getElem? (i := 1) rfl⟩, amAtG_2, amAtB_2, am_allot (by decide +kernel), amFit_2, by decide +kernel⟩
theorem amThr_128_130 : amThrP (128, 1, 130, 132) := ⟨amTB_of (i := 142) (by decide +kernel) (by decide +kernel), amIniX_1, ⟨_, List.mem_of_getElem? (i := 6) rfl⟩, amAtG_1, amAtB_1, am_allot (by decide +kernel), amFit_1, by decide +kernel⟩
theorem amThr_128_176 : amThrP (128, 1, 176, 132) := ⟨amTB_of (i := 142) (by decide +kernel) (by decide +kernel), amIniX_1, ⟨_, List.mem_of_getElem? (i := 0) rfl⟩, amAtG_1, amAtB_1, am_allot (by decide +kernel), amFit_1, by decide +kernel⟩
theorem amThr_128_178 : amThrP (128, 1, 178, 132) := ⟨amTB_of (i := 142) (by decide +kernel) (by decide +kernel), amIniX_1, ⟨_, List.mem_of_getElem? (i := 7) rfl⟩, amAtG_1, amAtB_1, am_allot (by decide +kernel), amFit_1, by decide +kernel⟩
theorem amThr_180_182 : amThrP (180, 3, 182, 184) := ⟨amTB_of (i := 365) (by decide +kernel) (by decide +kernel), amIniX_3, ⟨_, List.mem_of_getElem? (i := 2) rfl⟩, amAtG_3, amAtB_3, am_allot (by decide +kernel), amFit_3, by decide +kernel⟩
theorem amThr_180_185 : amThrP (180, 3, 185, 184) := ⟨amTB_of (i := 365) (by decide +kernel) (by decide +kernel), amIniX_3, ⟨_, List.mem_of_getElem? (i := 3) rfl⟩, amAtG_3, amAtB_3, am_allot (by decide +kernel), amFit_3, by decide +kernel⟩
theorem amThrOk : ∀ q ∈ amThrS, amThrP q := List.forall_mem_cons.mpr ⟨amThr_80_82, List.forall_mem_cons.mpr ⟨amThr_80_90, List.forall_mem_cons.mpr ⟨amThr_80_193, List.forall_mem_cons.mpr ⟨amThr_128_130, List.forall_mem_cons.mpr ⟨amThr_128_176, List.forall_mem_cons.mpr ⟨amThr_128_178, List.forall_mem_cons.mpr ⟨amThr_180_182, List.forall_mem_cons.mpr ⟨amThr_180_185, fun _ h => absurd h List.not_mem_nil⟩⟩⟩⟩⟩⟩⟩⟩
def amThrChk (r : amRow) (q : amEnt) : Bool := match q with
  | (pc, i, _, x) => match i with
    | .new k => !(decide (x.1 = 1)) || (decide (decode r.2.2.1 (pc + 3) = .ok (.dup, 1)) && decide (decode r.2.2.1 (pc + 4) = .ok (.ldc (x.2.2.toNat / 1000), 2)) && decide (decode r.2.2.1 (pc + 6) = .ok (.invokespecial (x.2.2.toNat % 1000), 3)) && decide (decode r.2.2.1 (pc + 9) = .ok (.athrow, 1)) && decide (r.1 = 3) && decide (r.2.2.2.2.2.1 = []) && decide ((k, x.2.1, x.2.2.toNat / 1000, x.2.2.toNat % 1000) ∈ amThrS) && decide (6 ≤ r.2.2.2.2.2.2.1) && decide (90 ≤ r.2.2.2.2.2.2.2))
    | _ => true
def amThrK (r : amRow) (l : List amEnt) : Prop := l.all (amThrChk r) = true
def amHndK (r : amRow) : Prop := r.2.2.2.2.2.1.all (fun z => decide (r.1 = 5) && decide (amCat z.2.2.2 ≠ 0)) = true
theorem amJ0 : ∀ l ∈ amC0, amThrK amR0 l := List.forall_mem_cons.mpr ⟨(by unfold amThrK; decide +kernel), fun _ h => absurd h List.not_mem_nil⟩
theorem amJ1 : ∀ l ∈ amC1, amThrK amR1 l := List.forall_mem_cons.mpr ⟨(by unfold amThrK; decide +kernel), fun _ h => absurd h List.not_mem_nil⟩
theorem amJ2 : ∀ l ∈ amC2, amThrK amR2 l := List.forall_mem_cons.mpr ⟨(by unfold amThrK; decide +kernel), List.forall_mem_cons.mpr ⟨(by unfold amThrK; decide +kernel), fun _ h => absurd h List.not_mem_nil⟩⟩
theorem amJ3 : ∀ l ∈ amC3, amThrK amR3 l := List.forall_mem_cons.mpr ⟨(by unfold amThrK; decide +kernel), List.forall_mem_cons.mpr ⟨(by unfold amThrK; decide +kernel), fun _ h => absurd h List.not_mem_nil⟩⟩
theorem amJ4 : ∀ l ∈ amC4, amThrK amR4 l := List.forall_mem_cons.mpr ⟨(by unfold amThrK; decide +kernel), List.forall_mem_cons.mpr ⟨(by unfold amThrK; decide +kernel), fun _ h => absurd h List.not_mem_nil⟩⟩
theorem amJ5 : ∀ l ∈ amC5, amThrK amR5 l := List.forall_mem_cons.mpr ⟨(by unfold amThrK; decide +kernel), fun _ h => absurd h List.not_mem_nil⟩
theorem amJ6 : ∀ l ∈ amC6, amThrK amR6 l := List.forall_mem_cons.mpr ⟨(by unfold amThrK; decide +kernel), fun _ h => absurd h List.not_mem_nil⟩
theorem amJ7 : ∀ l ∈ amC7, amThrK amR7 l := List.forall_mem_cons.mpr ⟨(by unfold amThrK; decide +kernel), fun _ h => absurd h List.not_mem_nil⟩
theorem amJ8 : ∀ l ∈ amC8, amThrK amR8 l := List.forall_mem_cons.mpr ⟨(by unfold amThrK; decide +kernel), fun _ h => absurd h List.not_mem_nil⟩
theorem amJ9 : ∀ l ∈ amC9, amThrK amR9 l := List.forall_mem_cons.mpr ⟨(by unfold amThrK; decide +kernel), fun _ h => absurd h List.not_mem_nil⟩
theorem amJ10 : ∀ l ∈ amC10, amThrK amR10 l := List.forall_mem_cons.mpr ⟨(by unfold amThrK; decide +kernel), List.forall_mem_cons.mpr ⟨(by unfold amThrK; decide +kernel), fun _ h => absurd h List.not_mem_nil⟩⟩
theorem amJ11 : ∀ l ∈ amC11, amThrK amR11 l := List.forall_mem_cons.mpr ⟨(by unfold amThrK; decide +kernel), fun _ h => absurd h List.not_mem_nil⟩
theorem amJ12 : ∀ l ∈ amC12, amThrK amR12 l := List.forall_mem_cons.mpr ⟨(by unfold amThrK; decide +kernel), List.forall_mem_cons.mpr ⟨(by unfold amThrK; decide +kernel), fun _ h => absurd h List.not_mem_nil⟩⟩
theorem amJ13 : ∀ l ∈ amC13, amThrK amR13 l := List.forall_mem_cons.mpr ⟨(by unfold amThrK; decide +kernel), fun _ h => absurd h List.not_mem_nil⟩
theorem amJ14 : ∀ l ∈ amC14, amThrK amR14 l := List.forall_mem_cons.mpr ⟨(by unfold amThrK; decide +kernel), fun _ h => absurd h List.not_mem_nil⟩
theorem amJ15 : ∀ l ∈ amC15, amThrK amR15 l := List.forall_mem_cons.mpr ⟨(by unfold amThrK; decide +kernel), fun _ h => absurd h List.not_mem_nil⟩
theorem amJ16 : ∀ l ∈ amC16, amThrK amR16 l := List.forall_mem_cons.mpr ⟨(by unfold amThrK; decide +kernel), fun _ h => absurd h List.not_mem_nil⟩
theorem amJ17 : ∀ l ∈ amC17, amThrK amR17 l := List.forall_mem_cons.mpr ⟨(by unfold amThrK; decide +kernel), fun _ h => absurd h List.not_mem_nil⟩
theorem amJ18 : ∀ l ∈ amC18, amThrK amR18 l := List.forall_mem_cons.mpr ⟨(by unfold amThrK; decide +kernel), fun _ h => absurd h List.not_mem_nil⟩
theorem amJ19 : ∀ l ∈ amC19, amThrK amR19 l := List.forall_mem_cons.mpr ⟨(by unfold amThrK; decide +kernel), fun _ h => absurd h List.not_mem_nil⟩
theorem amJ20 : ∀ l ∈ amC20, amThrK amR20 l := List.forall_mem_cons.mpr ⟨(by unfold amThrK; decide +kernel), fun _ h => absurd h List.not_mem_nil⟩
theorem amJ21 : ∀ l ∈ amC21, amThrK amR21 l := List.forall_mem_cons.mpr ⟨(by unfold amThrK; decide +kernel), fun _ h => absurd h List.not_mem_nil⟩
theorem amJ22 : ∀ l ∈ amC22, amThrK amR22 l := List.forall_mem_cons.mpr ⟨(by unfold amThrK; decide +kernel), fun _ h => absurd h List.not_mem_nil⟩
theorem amJ23 : ∀ l ∈ amC23, amThrK amR23 l := List.forall_mem_cons.mpr ⟨(by unfold amThrK; decide +kernel), fun _ h => absurd h List.not_mem_nil⟩
theorem amJ24 : ∀ l ∈ amC24, amThrK amR24 l := List.forall_mem_cons.mpr ⟨(by unfold amThrK; decide +kernel), fun _ h => absurd h List.not_mem_nil⟩
theorem amJ25 : ∀ l ∈ amC25, amThrK amR25 l := List.forall_mem_cons.mpr ⟨(by unfold amThrK; decide +kernel), fun _ h => absurd h List.not_mem_nil⟩
theorem amJ26 : ∀ l ∈ amC26, amThrK amR26 l := List.forall_mem_cons.mpr ⟨(by unfold amThrK; decide +kernel), fun _ h => absurd h List.not_mem_nil⟩
theorem amJ27 : ∀ l ∈ amC27, amThrK amR27 l := List.forall_mem_cons.mpr ⟨(by unfold amThrK; decide +kernel), fun _ h => absurd h List.not_mem_nil⟩
theorem amJ28 : ∀ l ∈ amC28, amThrK amR28 l := List.forall_mem_cons.mpr ⟨(by unfold amThrK; decide +kernel), List.forall_mem_cons.mpr ⟨(by unfold amThrK; decide +kernel), fun _ h => absurd h List.not_mem_nil⟩⟩
theorem amJ29 : ∀ l ∈ amC29, amThrK amR29 l := List.forall_mem_cons.mpr ⟨(by unfold amThrK; decide +kernel), List.forall_mem_cons.mpr ⟨(by unfold amThrK; decide +kernel), fun _ h => absurd h List.not_mem_nil⟩⟩
theorem amJ30 : ∀ l ∈ amC30, amThrK amR30 l := List.forall_mem_cons.mpr ⟨(by unfold amThrK; decide +kernel), List.forall_mem_cons.mpr ⟨(by unfold amThrK; decide +kernel), fun _ h => absurd h List.not_mem_nil⟩⟩
theorem amJ31 : ∀ l ∈ amC31, amThrK amR31 l := List.forall_mem_cons.mpr ⟨(by unfold amThrK; decide +kernel), List.forall_mem_cons.mpr ⟨(by unfold amThrK; decide +kernel), fun _ h => absurd h List.not_mem_nil⟩⟩
theorem amJ32 : ∀ l ∈ amC32, amThrK amR32 l := List.forall_mem_cons.mpr ⟨(by unfold amThrK; decide +kernel), fun _ h => absurd h List.not_mem_nil⟩
theorem amJ33 : ∀ l ∈ amC33, amThrK amR33 l := List.forall_mem_cons.mpr ⟨(by unfold amThrK; decide +kernel), List.forall_mem_cons.mpr ⟨(by unfold amThrK; decide +kernel), fun _ h => absurd h List.not_mem_nil⟩⟩
theorem amJ34 : ∀ l ∈ amC34, amThrK amR34 l := List.forall_mem_cons.mpr ⟨(by unfold amThrK; decide +kernel), fun _ h => absurd h List.not_mem_nil⟩
theorem amJ35 : ∀ l ∈ amC35, amThrK amR35 l := List.forall_mem_cons.mpr ⟨(by unfold amThrK; decide +kernel), List.forall_mem_cons.mpr ⟨(by unfold amThrK; decide +kernel), fun _ h => absurd h List.not_mem_nil⟩⟩
theorem amJ36 : ∀ l ∈ amC36, amThrK amR36 l := List.forall_mem_cons.mpr ⟨(by unfold amThrK; decide +kernel), List.forall_mem_cons.mpr ⟨(by unfold amThrK; decide +kernel), fun _ h => absurd h List.not_mem_nil⟩⟩
theorem amJ37 : ∀ l ∈ amC37, amThrK amR37 l := List.forall_mem_cons.mpr ⟨(by unfold amThrK; decide +kernel), fun _ h => absurd h List.not_mem_nil⟩
theorem amJ38 : ∀ l ∈ amC38, amThrK amR38 l := List.forall_mem_cons.mpr ⟨(by unfold amThrK; decide +kernel), fun _ h => absurd h List.not_mem_nil⟩
theorem amJ39 : ∀ l ∈ amC39, amThrK amR39 l := List.forall_mem_cons.mpr ⟨(by unfold amThrK; decide +kernel), fun _ h => absurd h List.not_mem_nil⟩
theorem amJ40 : ∀ l ∈ amC40, amThrK amR40 l := List.forall_mem_cons.mpr ⟨(by unfold amThrK; decide +kernel), fun _ h => absurd h List.not_mem_nil⟩
theorem amJ41 : ∀ l ∈ amC41, amThrK amR41 l := List.forall_mem_cons.mpr ⟨(by unfold amThrK; decide +kernel), fun _ h => absurd h List.not_mem_nil⟩
theorem amJ42 : ∀ l ∈ amC42, amThrK amR42 l := List.forall_mem_cons.mpr ⟨(by unfold amThrK; decide +kernel), fun _ h => absurd h List.not_mem_nil⟩
theorem amJ43 : ∀ l ∈ amC43, amThrK amR43 l := List.forall_mem_cons.mpr ⟨(by unfold amThrK; decide +kernel), fun _ h => absurd h List.not_mem_nil⟩
theorem amJ44 : ∀ l ∈ amC44, amThrK amR44 l := List.forall_mem_cons.mpr ⟨(by unfold amThrK; decide +kernel), fun _ h => absurd h List.not_mem_nil⟩
theorem amJ45 : ∀ l ∈ amC45, amThrK amR45 l := List.forall_mem_cons.mpr ⟨(by unfold amThrK; decide +kernel), fun _ h => absurd h List.not_mem_nil⟩
theorem amJ46 : ∀ l ∈ amC46, amThrK amR46 l := List.forall_mem_cons.mpr ⟨(by unfold amThrK; decide +kernel), fun _ h => absurd h List.not_mem_nil⟩
theorem amJ47 : ∀ l ∈ amC47, amThrK amR47 l := List.forall_mem_cons.mpr ⟨(by unfold amThrK; decide +kernel), fun _ h => absurd h List.not_mem_nil⟩
theorem amJ48 : ∀ l ∈ amC48, amThrK amR48 l := List.forall_mem_cons.mpr ⟨(by unfold amThrK; decide +kernel), fun _ h => absurd h List.not_mem_nil⟩
theorem amJ49 : ∀ l ∈ amC49, amThrK amR49 l := List.forall_mem_cons.mpr ⟨(by unfold amThrK; decide +kernel), List.forall_mem_cons.mpr ⟨(by unfold amThrK; decide +kernel), fun _ h => absurd h List.not_mem_nil⟩⟩
theorem amJ50 : ∀ l ∈ amC50, amThrK amR50 l := List.forall_mem_cons.mpr ⟨(by unfold amThrK; decide +kernel), fun _ h => absurd h List.not_mem_nil⟩
theorem amJ51 : ∀ l ∈ amC51, amThrK amR51 l := List.forall_mem_cons.mpr ⟨(by unfold amThrK; decide +kernel), fun _ h => absurd h List.not_mem_nil⟩
theorem amJ52 : ∀ l ∈ amC52, amThrK amR52 l := List.forall_mem_cons.mpr ⟨(by unfold amThrK; decide +kernel), fun _ h => absurd h List.not_mem_nil⟩
theorem amJ53 : ∀ l ∈ amC53, amThrK amR53 l := List.forall_mem_cons.mpr ⟨(by unfold amThrK; decide +kernel), fun _ h => absurd h List.not_mem_nil⟩
theorem amJ54 : ∀ l ∈ amC54, amThrK amR54 l := List.forall_mem_cons.mpr ⟨(by unfold amThrK; decide +kernel), fun _ h => absurd h List.not_mem_nil⟩
theorem amJ55 : ∀ l ∈ amC55, amThrK amR55 l := List.forall_mem_cons.mpr ⟨(by unfold amThrK; decide +kernel), fun _ h => absurd h List.not_mem_nil⟩
theorem amJ56 : ∀ l ∈ amC56, amThrK amR56 l := List.forall_mem_cons.mpr ⟨(by unfold amThrK; decide +kernel), fun _ h => absurd h List.not_mem_nil⟩
theorem amJ57 : ∀ l ∈ amC57, amThrK amR57 l := List.forall_mem_cons.mpr ⟨(by unfold amThrK; decide +kernel), fun _ h => absurd h List.not_mem_nil⟩
theorem amJ58 : ∀ l ∈ amC58, amThrK amR58 l := List.forall_mem_cons.mpr ⟨(by unfold amThrK; decide +kernel), fun _ h => absurd h List.not_mem_nil⟩
theorem amJ59 : ∀ l ∈ amC59, amThrK amR59 l := List.forall_mem_cons.mpr ⟨(by unfold amThrK; decide +kernel), fun _ h => absurd h List.not_mem_nil⟩
theorem amJ60 : ∀ l ∈ amC60, amThrK amR60 l := List.forall_mem_cons.mpr ⟨(by unfold amThrK; decide +kernel), fun _ h => absurd h List.not_mem_nil⟩
theorem amJ61 : ∀ l ∈ amC61, amThrK amR61 l := List.forall_mem_cons.mpr ⟨(by unfold amThrK; decide +kernel), fun _ h => absurd h List.not_mem_nil⟩
theorem amJ62 : ∀ l ∈ amC62, amThrK amR62 l := List.forall_mem_cons.mpr ⟨(by unfold amThrK; decide +kernel), fun _ h => absurd h List.not_mem_nil⟩
theorem amJ63 : ∀ l ∈ amC63, amThrK amR63 l := List.forall_mem_cons.mpr ⟨(by unfold amThrK; decide +kernel), fun _ h => absurd h List.not_mem_nil⟩
theorem amJ64 : ∀ l ∈ amC64, amThrK amR64 l := List.forall_mem_cons.mpr ⟨(by unfold amThrK; decide +kernel), fun _ h => absurd h List.not_mem_nil⟩
theorem amJ65 : ∀ l ∈ amC65, amThrK amR65 l := List.forall_mem_cons.mpr ⟨(by unfold amThrK; decide +kernel), fun _ h => absurd h List.not_mem_nil⟩
theorem amJ66 : ∀ l ∈ amC66, amThrK amR66 l := List.forall_mem_cons.mpr ⟨(by unfold amThrK; decide +kernel), fun _ h => absurd h List.not_mem_nil⟩
theorem amJ67 : ∀ l ∈ amC67, amThrK amR67 l := List.forall_mem_cons.mpr ⟨(by unfold amThrK; decide +kernel), fun _ h => absurd h List.not_mem_nil⟩
theorem amJ68 : ∀ l ∈ amC68, amThrK amR68 l := List.forall_mem_cons.mpr ⟨(by unfold amThrK; decide +kernel), fun _ h => absurd h List.not_mem_nil⟩
theorem amJ69 : ∀ l ∈ amC69, amThrK amR69 l := List.forall_mem_cons.mpr ⟨(by unfold amThrK; decide +kernel), fun _ h => absurd h List.not_mem_nil⟩
theorem amJ70 : ∀ l ∈ amC70, amThrK amR70 l := List.forall_mem_cons.mpr ⟨(by unfold amThrK; decide +kernel), fun _ h => absurd h List.not_mem_nil⟩
theorem amJ71 : ∀ l ∈ amC71, amThrK amR71 l := List.forall_mem_cons.mpr ⟨(by unfold amThrK; decide +kernel), fun _ h => absurd h List.not_mem_nil⟩
theorem amJ72 : ∀ l ∈ amC72, amThrK amR72 l := List.forall_mem_cons.mpr ⟨(by unfold amThrK; decide +kernel), fun _ h => absurd h List.not_mem_nil⟩
theorem amJ73 : ∀ l ∈ amC73, amThrK amR73 l := List.forall_mem_cons.mpr ⟨(by unfold amThrK; decide +kernel), fun _ h => absurd h List.not_mem_nil⟩
theorem amJ74 : ∀ l ∈ amC74, amThrK amR74 l := List.forall_mem_cons.mpr ⟨(by unfold amThrK; decide +kernel), List.forall_mem_cons.mpr ⟨(by unfold amThrK; decide +kernel), fun _ h => absurd h List.not_mem_nil⟩⟩
theorem amJ75 : ∀ l ∈ amC75, amThrK amR75 l := List.forall_mem_cons.mpr ⟨(by unfold amThrK; decide +kernel), fun _ h => absurd h List.not_mem_nil⟩
theorem amJ76 : ∀ l ∈ amC76, amThrK amR76 l := List.forall_mem_cons.mpr ⟨(by unfold amThrK; decide +kernel), fun _ h => absurd h List.not_mem_nil⟩
theorem amJ77 : ∀ l ∈ amC77, amThrK amR77 l := List.forall_mem_cons.mpr ⟨(by unfold amThrK; decide +kernel), List.forall_mem_cons.mpr ⟨(by unfold amThrK; decide +kernel), fun _ h => absurd h List.not_mem_nil⟩⟩
theorem amJ78 : ∀ l ∈ amC78, amThrK amR78 l := List.forall_mem_cons.mpr ⟨(by unfold amThrK; decide +kernel), fun _ h => absurd h List.not_mem_nil⟩
theorem amJ79 : ∀ l ∈ amC79, amThrK amR79 l := List.forall_mem_cons.mpr ⟨(by unfold amThrK; decide +kernel), fun _ h => absurd h List.not_mem_nil⟩
theorem amJ80 : ∀ l ∈ amC80, amThrK amR80 l := List.forall_mem_cons.mpr ⟨(by unfold amThrK; decide +kernel), fun _ h => absurd h List.not_mem_nil⟩
theorem amJ81 : ∀ l ∈ amC81, amThrK amR81 l := List.forall_mem_cons.mpr ⟨(by unfold amThrK; decide +kernel), fun _ h => absurd h List.not_mem_nil⟩
theorem amJ82 : ∀ l ∈ amC82, amThrK amR82 l := List.forall_mem_cons.mpr ⟨(by unfold amThrK; decide +kernel), fun _ h => absurd h List.not_mem_nil⟩
theorem amJ83 : ∀ l ∈ amC83, amThrK amR83 l := List.forall_mem_cons.mpr ⟨(by unfold amThrK; decide +kernel), fun _ h => absurd h List.not_mem_nil⟩
theorem amJ84 : ∀ l ∈ amC84, amThrK amR84 l := List.forall_mem_cons.mpr ⟨(by unfold amThrK; decide +kernel), fun _ h => absurd h List.not_mem_nil⟩
theorem amJ85 : ∀ l ∈ amC85, amThrK amR85 l := List.forall_mem_cons.mpr ⟨(by unfold amThrK; decide +kernel), fun _ h => absurd h List.not_mem_nil⟩
theorem amJ86 : ∀ l ∈ amC86, amThrK amR86 l := List.forall_mem_cons.mpr ⟨(by unfold amThrK; decide +kernel), fun _ h => absurd h List.not_mem_nil⟩
theorem amJ87 : ∀ l ∈ amC87, amThrK amR87 l := List.forall_mem_cons.mpr ⟨(by unfold amThrK; decide +kernel), fun _ h => absurd h List.not_mem_nil⟩
theorem amJ88 : ∀ l ∈ amC88, amThrK amR88 l := List.forall_mem_cons.mpr ⟨(by unfold amThrK; decide +kernel), List.forall_mem_cons.mpr ⟨(by unfold amThrK; decide +kernel), fun _ h => absurd h List.not_mem_nil⟩⟩
theorem amJ89 : ∀ l ∈ amC89, amThrK amR89 l := List.forall_mem_cons.mpr ⟨(by unfold amThrK; decide +kernel), List.forall_mem_cons.mpr ⟨(by unfold amThrK; decide +kernel), List.forall_mem_cons.mpr ⟨(by unfold amThrK; decide +kernel), List.forall_mem_cons.mpr ⟨(by unfold amThrK; decide +kernel), fun _ h => absurd h List.not_mem_nil⟩⟩⟩⟩
theorem amJ90 : ∀ l ∈ amC90, amThrK amR90 l := List.forall_mem_cons.mpr ⟨(by unfold amThrK; decide +kernel), fun _ h => absurd h List.not_mem_nil⟩
theorem amJ91 : ∀ l ∈ amC91, amThrK amR91 l := List.forall_mem_cons.mpr ⟨(by unfold amThrK; decide +kernel), fun _ h => absurd h List.not_mem_nil⟩
theorem amJ92 : ∀ l ∈ amC92, amThrK amR92 l := List.forall_mem_cons.mpr ⟨(by unfold amThrK; decide +kernel), fun _ h => absurd h List.not_mem_nil⟩
theorem amJ93 : ∀ l ∈ amC93, amThrK amR93 l := List.forall_mem_cons.mpr ⟨(by unfold amThrK; decide +kernel), fun _ h => absurd h List.not_mem_nil⟩
theorem amJ94 : ∀ l ∈ amC94, amThrK amR94 l := List.forall_mem_cons.mpr ⟨(by unfold amThrK; decide +kernel), List.forall_mem_cons.mpr ⟨(by unfold amThrK; decide +kernel), fun _ h => absurd h List.not_mem_nil⟩⟩
theorem amJ95 : ∀ l ∈ amC95, amThrK amR95 l := List.forall_mem_cons.mpr ⟨(by unfold amThrK; decide +kernel), List.forall_mem_cons.mpr ⟨(by unfold amThrK; decide +kernel), fun _ h => absurd h List.not_mem_nil⟩⟩
theorem amJ96 : ∀ l ∈ amC96, amThrK amR96 l := List.forall_mem_cons.mpr ⟨(by unfold amThrK; decide +kernel), fun _ h => absurd h List.not_mem_nil⟩
theorem amJ97 : ∀ l ∈ amC97, amThrK amR97 l := List.forall_mem_cons.mpr ⟨(by unfold amThrK; decide +kernel), fun _ h => absurd h List.not_mem_nil⟩
theorem amJ98 : ∀ l ∈ amC98, amThrK amR98 l := List.forall_mem_cons.mpr ⟨(by unfold amThrK; decide +kernel), List.forall_mem_cons.mpr ⟨(by unfold amThrK; decide +kernel), fun _ h => absurd h List.not_mem_nil⟩⟩
theorem amJ99 : ∀ l ∈ amC99, amThrK amR99 l := List.forall_mem_cons.mpr ⟨(by unfold amThrK; decide +kernel), List.forall_mem_cons.mpr ⟨(by unfold amThrK; decide +kernel), fun _ h => absurd h List.not_mem_nil⟩⟩
theorem amJ100 : ∀ l ∈ amC100, amThrK amR100 l := List.forall_mem_cons.mpr ⟨(by unfold amThrK; decide +kernel), fun _ h => absurd h List.not_mem_nil⟩
theorem amJ101 : ∀ l ∈ amC101, amThrK amR101 l := List.forall_mem_cons.mpr ⟨(by unfold amThrK; decide +kernel), fun _ h => absurd h List.not_mem_nil⟩
theorem amJ102 : ∀ l ∈ amC102, amThrK amR102 l := List.forall_mem_cons.mpr ⟨(by unfold amThrK; decide +kernel), List.forall_mem_cons.mpr ⟨(by unfold amThrK; decide +kernel), List.forall_mem_cons.mpr ⟨(by unfold amThrK; decide +kernel), fun _ h => absurd h List.not_mem_nil⟩⟩⟩
theorem amJ103 : ∀ l ∈ amC103, amThrK amR103 l := List.forall_mem_cons.mpr ⟨(by unfold amThrK; decide +kernel), fun _ h => absurd h List.not_mem_nil⟩
theorem amJ104 : ∀ l ∈ amC104, amThrK amR104 l := List.forall_mem_cons.mpr ⟨(by unfold amThrK; decide +kernel), fun _ h => absurd h List.not_mem_nil⟩
theorem amJ105 : ∀ l ∈ amC105, amThrK amR105 l := List.forall_mem_cons.mpr ⟨(by unfold amThrK; decide +kernel), List.forall_mem_cons.mpr ⟨(by unfold amThrK; decide +kernel), fun _ h => absurd h List.not_mem_nil⟩⟩
theorem amJ106 : ∀ l ∈ amC106, amThrK amR106 l := List.forall_mem_cons.mpr ⟨(by unfold amThrK; decide +kernel), List.forall_mem_cons.mpr ⟨(by unfold amThrK; decide +kernel), List.forall_mem_cons.mpr ⟨(by unfold amThrK; decide +kernel), fun _ h => absurd h List.not_mem_nil⟩⟩⟩
theorem amJ107 : ∀ l ∈ amC107, amThrK amR107 l := List.forall_mem_cons.mpr ⟨(by unfold amThrK; decide +kernel), List.forall_mem_cons.mpr ⟨(by unfold amThrK; decide +kernel), fun _ h => absurd h List.not_mem_nil⟩⟩
theorem amJ108 : ∀ l ∈ amC108, amThrK amR108 l := List.forall_mem_cons.mpr ⟨(by unfold amThrK; decide +kernel), List.forall_mem_cons.mpr ⟨(by unfold amThrK; decide +kernel), fun _ h => absurd h List.not_mem_nil⟩⟩
theorem amJ109 : ∀ l ∈ amC109, amThrK amR109 l := List.forall_mem_cons.mpr ⟨(by unfold amThrK; decide +kernel), fun _ h => absurd h List.not_mem_nil⟩
theorem amJ110 : ∀ l ∈ amC110, amThrK amR110 l := List.forall_mem_cons.mpr ⟨(by unfold amThrK; decide +kernel), fun _ h => absurd h List.not_mem_nil⟩
theorem amJ111 : ∀ l ∈ amC111, amThrK amR111 l := List.forall_mem_cons.mpr ⟨(by unfold amThrK; decide +kernel), fun _ h => absurd h List.not_mem_nil⟩
theorem amJ112 : ∀ l ∈ amC112, amThrK amR112 l := List.forall_mem_cons.mpr ⟨(by unfold amThrK; decide +kernel), fun _ h => absurd h List.not_mem_nil⟩
theorem amJ113 : ∀ l ∈ amC113, amThrK amR113 l := List.forall_mem_cons.mpr ⟨(by unfold amThrK; decide +kernel), List.forall_mem_cons.mpr ⟨(by unfold amThrK; decide +kernel), fun _ h => absurd h List.not_mem_nil⟩⟩
theorem amJ114 : ∀ l ∈ amC114, amThrK amR114 l := List.forall_mem_cons.mpr ⟨(by unfold amThrK; decide +kernel), fun _ h => absurd h List.not_mem_nil⟩
theorem amJ115 : ∀ l ∈ amC115, amThrK amR115 l := List.forall_mem_cons.mpr ⟨(by unfold amThrK; decide +kernel), fun _ h => absurd h List.not_mem_nil⟩
theorem amJ116 : ∀ l ∈ amC116, amThrK amR116 l := List.forall_mem_cons.mpr ⟨(by unfold amThrK; decide +kernel), fun _ h => absurd h List.not_mem_nil⟩
theorem amJ117 : ∀ l ∈ amC117, amThrK amR117 l := List.forall_mem_cons.mpr ⟨(by unfold amThrK; decide +kernel), fun _ h => absurd h List.not_mem_nil⟩
theorem amJ118 : ∀ l ∈ amC118, amThrK amR118 l := List.forall_mem_cons.mpr ⟨(by unfold amThrK; decide +kernel), fun _ h => absurd h List.not_mem_nil⟩
theorem amJ119 : ∀ l ∈ amC119, amThrK amR119 l := List.forall_mem_cons.mpr ⟨(by unfold amThrK; decide +kernel), fun _ h => absurd h List.not_mem_nil⟩
theorem amJ120 : ∀ l ∈ amC120, amThrK amR120 l := List.forall_mem_cons.mpr ⟨(by unfold amThrK; decide +kernel), fun _ h => absurd h List.not_mem_nil⟩
theorem amJ121 : ∀ l ∈ amC121, amThrK amR121 l := List.forall_mem_cons.mpr ⟨(by unfold amThrK; decide +kernel), fun _ h => absurd h List.not_mem_nil⟩
theorem amJ122 : ∀ l ∈ amC122, amThrK amR122 l := List.forall_mem_cons.mpr ⟨(by unfold amThrK; decide +kernel), fun _ h => absurd h List.not_mem_nil⟩
theorem amJ123 : ∀ l ∈ amC123, amThrK amR123 l := List.forall_mem_cons.mpr ⟨(by unfold amThrK; decide +kernel), fun _ h => absurd h List.not_mem_nil⟩
theorem amJ124 : ∀ l ∈ amC124, amThrK amR124 l := List.forall_mem_cons.mpr ⟨(by unfold amThrK; decide +kernel), List.forall_mem_cons.mpr ⟨(by unfold amThrK; decide +kernel), fun _ h => absurd h List.not_mem_nil⟩⟩
theorem amJ125 : ∀ l ∈ amC125, amThrK amR125 l := List.forall_mem_cons.mpr ⟨(by unfold amThrK; decide +kernel), fun _ h => absurd h List.not_mem_nil⟩
theorem amJ126 : ∀ l ∈ amC126, amThrK amR126 l := List.forall_mem_cons.mpr ⟨(by unfold amThrK; decide +kernel), fun _ h => absurd h List.not_mem_nil⟩
theorem amJ127 : ∀ l ∈ amC127, amThrK amR127 l := List.forall_mem_cons.mpr ⟨(by unfold amThrK; decide +kernel), fun _ h => absurd h List.not_mem_nil⟩
theorem amJ128 : ∀ l ∈ amC128, amThrK amR128 l := List.forall_mem_cons.mpr ⟨(by unfold amThrK; decide +kernel), fun _ h => absurd h List.not_mem_nil⟩
theorem amJ129 : ∀ l ∈ amC129, amThrK amR129 l := List.forall_mem_cons.mpr ⟨(by unfold amThrK; decide +kernel), fun _ h => absurd h List.not_mem_nil⟩
theorem amJ130 : ∀ l ∈ amC130, amThrK amR130 l := List.forall_mem_cons.mpr ⟨(by unfold amThrK; decide +kernel), fun _ h => absurd h List.not_mem_nil⟩
theorem amJ131 : ∀ l ∈ amC131, amThrK amR131 l := List.forall_mem_cons.mpr ⟨(by unfold amThrK; decide +kernel), fun _ h => absurd h List.not_mem_nil⟩
theorem amJ132 : ∀ l ∈ amC132, amThrK amR132 l := List.forall_mem_cons.mpr ⟨(by unfold amThrK; decide +kernel), fun _ h => absurd h List.not_mem_nil⟩
theorem amJ133 : ∀ l ∈ amC133, amThrK amR133 l := List.forall_mem_cons.mpr ⟨(by unfold amThrK; decide +kernel), fun _ h => absurd h List.not_mem_nil⟩
theorem amJ134 : ∀ l ∈ amC134, amThrK amR134 l := List.forall_mem_cons.mpr ⟨(by unfold amThrK; decide +kernel), fun _ h => absurd h List.not_mem_nil⟩
theorem amJ135 : ∀ l ∈ amC135, amThrK amR135 l := List.forall_mem_cons.mpr ⟨(by unfold amThrK; decide +kernel), fun _ h => absurd h List.not_mem_nil⟩
theorem amJ136 : ∀ l ∈ amC136, amThrK amR136 l := List.forall_mem_cons.mpr ⟨(by unfold amThrK; decide +kernel), fun _ h => absurd h List.not_mem_nil⟩
theorem amJ137 : ∀ l ∈ amC137, amThrK amR137 l := List.forall_mem_cons.mpr ⟨(by unfold amThrK; decide +kernel), fun _ h => absurd h List.not_mem_nil⟩
theorem amJ138 : ∀ l ∈ amC138, amThrK amR138 l := List.forall_mem_cons.mpr ⟨(by unfold amThrK; decide +kernel), fun _ h => absurd h List.not_mem_nil⟩
theorem amJ139 : ∀ l ∈ amC139, amThrK amR139 l := List.forall_mem_cons.mpr ⟨(by unfold amThrK; decide +kernel), fun _ h => absurd h List.not_mem_nil⟩
theorem amJ140 : ∀ l ∈ amC140, amThrK amR140 l := List.forall_mem_cons.mpr ⟨(by unfold amThrK; decide +kernel), fun _ h => absurd h List.not_mem_nil⟩
theorem amJ141 : ∀ l ∈ amC141, amThrK amR141 l := List.forall_mem_cons.mpr ⟨(by unfold amThrK; decide +kernel), fun _ h => absurd h List.not_mem_nil⟩
theorem amJ142 : ∀ l ∈ amC142, amThrK amR142 l := List.forall_mem_cons.mpr ⟨(by unfold amThrK; decide +kernel), fun _ h => absurd h List.not_mem_nil⟩
theorem amJ143 : ∀ l ∈ amC143, amThrK amR143 l := List.forall_mem_cons.mpr ⟨(by unfold amThrK; decide +kernel), fun _ h => absurd h List.not_mem_nil⟩
theorem amJ144 : ∀ l ∈ amC144, amThrK amR144 l := List.forall_mem_cons.mpr ⟨(by unfold amThrK; decide +kernel), fun _ h => absurd h List.not_mem_nil⟩
theorem amJ145 : ∀ l ∈ amC145, amThrK amR145 l := List.forall_mem_cons.mpr ⟨(by unfold amThrK; decide +kernel), fun _ h => absurd h List.not_mem_nil⟩
theorem amJ146 : ∀ l ∈ amC146, amThrK amR146 l := List.forall_mem_cons.mpr ⟨(by unfold amThrK; decide +kernel), fun _ h => absurd h List.not_mem_nil⟩
theorem amJ147 : ∀ l ∈ amC147, amThrK amR147 l := List.forall_mem_cons.mpr ⟨(by unfold amThrK; decide +kernel), fun _ h => absurd h List.not_mem_nil⟩
theorem amJ148 : ∀ l ∈ amC148, amThrK amR148 l := List.forall_mem_cons.mpr ⟨(by unfold amThrK; decide +kernel), fun _ h => absurd h List.not_mem_nil⟩
theorem amJ149 : ∀ l ∈ amC149, amThrK amR149 l := List.forall_mem_cons.mpr ⟨(by unfold amThrK; decide +kernel), fun _ h => absurd h List.not_mem_nil⟩
theorem amJ150 : ∀ l ∈ amC150, amThrK amR150 l := List.forall_mem_cons.mpr ⟨(by unfold amThrK; decide +kernel), fun _ h => absurd h List.not_mem_nil⟩
theorem amJ151 : ∀ l ∈ amC151, amThrK amR151 l := List.forall_mem_cons.mpr ⟨(by unfold amThrK; decide +kernel), fun _ h => absurd h List.not_mem_nil⟩
theorem amJ152 : ∀ l ∈ amC152, amThrK amR152 l := List.forall_mem_cons.mpr ⟨(by unfold amThrK; decide +kernel), fun _ h => absurd h List.not_mem_nil⟩
theorem amJ153 : ∀ l ∈ amC153, amThrK amR153 l := List.forall_mem_cons.mpr ⟨(by unfold amThrK; decide +kernel), fun _ h => absurd h List.not_mem_nil⟩
theorem amJ154 : ∀ l ∈ amC154, amThrK amR154 l := List.forall_mem_cons.mpr ⟨(by unfold amThrK; decide +kernel), List.forall_mem_cons.mpr ⟨(by unfold amThrK; decide +kernel), List.forall_mem_cons.mpr ⟨(by unfold amThrK; decide +kernel), List.forall_mem_cons.mpr ⟨(by unfold amThrK; decide +kernel), List.forall_mem_cons.mpr ⟨(by unfold amThrK; decide +kernel), List.forall_mem_cons.mpr ⟨(by unfold amThrK; decide +kernel), List.forall_mem_cons.mpr ⟨(by unfold amThrK; decide +kernel), List.forall_mem_cons.mpr ⟨(by unfold amThrK; decide +kernel), List.forall_mem_cons.mpr ⟨(by unfold amThrK; decide +kernel), List.forall_mem_cons.mpr ⟨(by unfold amThrK; decide +kernel), List.forall_mem_cons.mpr ⟨(by unfold amThrK; decide +kernel), List.forall_mem_cons.mpr ⟨(by unfold amThrK; decide +kernel), List.forall_mem_cons.mpr ⟨(by unfold amThrK; decide +kernel), List.forall_mem_cons.mpr ⟨(by unfold amThrK; decide +kernel), List.forall_mem_cons.mpr ⟨(by unfold amThrK; decide +kernel), List.forall_mem_cons.mpr ⟨(by unfold amThrK; decide +kernel), List.forall_mem_cons.mpr ⟨(by unfold amThrK; decide +kernel), List.forall_mem_cons.mpr ⟨(by unfold amThrK; decide +kernel), List.forall_mem_cons.mpr ⟨(by unfold amThrK; decide +kernel), List.forall_mem_cons.mpr ⟨(by unfold amThrK; decide +kernel), List.forall_mem_cons.mpr ⟨(by unfold amThrK; decide +kernel), List.forall_mem_cons.mpr ⟨(by unfold amThrK; decide +kernel), List.forall_mem_cons.mpr ⟨(by unfold amThrK; decide +kernel), List.forall_mem_cons.mpr ⟨(by unfold amThrK; decide +kernel), List.forall_mem_cons.mpr ⟨(by unfold amThrK; decide +kernel), List.forall_mem_cons.mpr ⟨(by unfold amThrK; decide +kernel), List.forall_mem_cons.mpr ⟨(by unfold amThrK; decide +kernel), List.forall_mem_cons.mpr ⟨(by unfold amThrK; decide +kernel), List.forall_mem_cons.mpr ⟨(by unfold amThrK; decide +kernel), List.forall_mem_cons.mpr ⟨(by unfold amThrK; decide +kernel), List.forall_mem_cons.mpr ⟨(by unfold amThrK; decide +kernel), List.forall_mem_cons.mpr ⟨(by unfold amThrK; decide +kernel), List.forall_mem_cons.mpr ⟨(by unfold amThrK; decide +kernel), List.forall_mem_cons.mpr ⟨(by unfold amThrK; decide +kernel), fun _ h => absurd h List.not_mem_nil⟩⟩⟩⟩⟩⟩⟩⟩⟩⟩⟩⟩⟩⟩⟩⟩⟩⟩⟩⟩⟩⟩⟩⟩⟩⟩⟩⟩⟩⟩⟩⟩⟩⟩
theorem amThrAll : ∀ r ∈ amAll, ∀ l ∈ r.2, amThrK r.1 l := List.forall_mem_cons.mpr ⟨amJ0, List.forall_mem_cons.mpr ⟨amJ1, List.forall_mem_cons.mpr ⟨amJ2, List.forall_mem_cons.mpr ⟨amJ3, List.forall_mem_cons.mpr ⟨amJ4, List.forall_mem_cons.mpr ⟨amJ5, List.forall_mem_cons.mpr ⟨amJ6, List.forall_mem_cons.mpr ⟨amJ7, List.forall_mem_cons.mpr ⟨amJ8, List.forall_mem_cons.mpr ⟨amJ9, List.forall_mem_cons.mpr ⟨amJ10, List.forall_mem_cons.mpr ⟨amJ11, List.forall_mem_cons.mpr ⟨amJ12, List.forall_mem_cons.mpr ⟨amJ13, List.forall_mem_cons.mpr ⟨amJ14, List.forall_mem_cons.mpr ⟨amJ15, List.forall_mem_cons.mpr ⟨amJ16, List.forall_mem_cons.mpr ⟨amJ17, List.forall_mem_cons.mpr ⟨amJ18, List.forall_mem_cons.mpr ⟨amJ19, List.forall_mem_cons.mpr ⟨amJ20, List.forall_mem_cons.mpr ⟨amJ21, List.forall_mem_cons.mpr ⟨amJ22, List.forall_mem_cons.mpr ⟨amJ23, List.forall_mem_cons.mpr ⟨amJ24, List.forall_mem_cons.mpr ⟨amJ25, List.forall_mem_cons.mpr ⟨amJ26, List.forall_mem_cons.mpr ⟨amJ27, List.forall_mem_cons.mpr ⟨amJ28, List.forall_mem_cons.mpr ⟨amJ29, List.forall_mem_cons.mpr ⟨amJ30, List.forall_mem_cons.mpr ⟨amJ31, List.forall_mem_cons.mpr ⟨amJ32, List.forall_mem_cons.mpr ⟨amJ33, List.forall_mem_cons.mpr ⟨amJ34, List.forall_mem_cons.mpr ⟨amJ35, List.forall_mem_cons.mpr ⟨amJ36, List.forall_mem_cons.mpr ⟨amJ37, List.forall_mem_cons.mpr ⟨amJ38, List.forall_mem_cons.mpr ⟨amJ39, List.forall_mem_cons.mpr ⟨amJ40, List.forall_mem_cons.mpr ⟨amJ41, List.forall_mem_cons.mpr ⟨amJ42, List.forall_mem_cons.mpr ⟨amJ43, List.forall_mem_cons.mpr ⟨amJ44, List.forall_mem_cons.mpr ⟨amJ45, List.forall_mem_cons.mpr ⟨amJ46, List.forall_mem_cons.mpr ⟨amJ47, List.forall_mem_cons.mpr ⟨amJ48, List.forall_mem_cons.mpr ⟨amJ49, List.forall_mem_cons.mpr ⟨amJ50, List.forall_mem_cons.mpr ⟨amJ51, List.forall_mem_cons.mpr ⟨amJ52, List.forall_mem_cons.mpr ⟨amJ53, List.forall_mem_cons.mpr ⟨amJ54, List.forall_mem_cons.mpr ⟨amJ55, List.forall_mem_cons.mpr ⟨amJ56, List.forall_mem_cons.mpr ⟨amJ57, List.forall_mem_cons.mpr ⟨amJ58, List.forall_mem_cons.mpr ⟨amJ59, List.forall_mem_cons.mpr ⟨amJ60, List.forall_mem_cons.mpr ⟨amJ61, List.forall_mem_cons.mpr ⟨amJ62, List.forall_mem_cons.mpr ⟨amJ63, List.forall_mem_cons.mpr ⟨amJ64, List.forall_mem_cons.mpr ⟨amJ65, List.forall_mem_cons.mpr ⟨amJ66, List.forall_mem_cons.mpr ⟨amJ67, List.forall_mem_cons.mpr ⟨amJ68, List.forall_mem_cons.mpr ⟨amJ69, List.forall_mem_cons.mpr ⟨amJ70, List.forall_mem_cons.mpr ⟨amJ71, List.forall_mem_cons.mpr ⟨amJ72, List.forall_mem_cons.mpr ⟨amJ73, List.forall_mem_cons.mpr ⟨amJ74, List.forall_mem_cons.mpr ⟨amJ75, List.forall_mem_cons.mpr ⟨amJ76, List.forall_mem_cons.mpr ⟨amJ77, List.forall_mem_cons.mpr ⟨amJ78, List.forall_mem_cons.mpr ⟨amJ79, List.forall_mem_cons.mpr ⟨amJ80, List.forall_mem_cons.mpr ⟨amJ81, List.forall_mem_cons.mpr ⟨amJ82, List.forall_mem_cons.mpr ⟨amJ83, List.forall_mem_cons.mpr ⟨amJ84, List.forall_mem_cons.mpr ⟨amJ85, List.forall_mem_cons.mpr ⟨amJ86, List.forall_mem_cons.mpr ⟨amJ87, List.forall_mem_cons.mpr ⟨amJ88, List.forall_mem_cons.mpr ⟨amJ89, List.forall_mem_cons.mpr ⟨amJ90, List.forall_mem_cons.mpr ⟨amJ91, List.forall_mem_cons.mpr ⟨amJ92, List.forall_mem_cons.mpr ⟨amJ93, List.forall_mem_cons.mpr ⟨amJ94, List.forall_mem_cons.mpr ⟨amJ95, List.forall_mem_cons.mpr ⟨amJ96, List.forall_mem_cons.mpr ⟨amJ97, List.forall_mem_cons.mpr ⟨amJ98, List.forall_mem_cons.mpr ⟨amJ99, List.forall_mem_cons.mpr ⟨amJ100, List.forall_mem_cons.mpr ⟨amJ101, List.forall_mem_cons.mpr ⟨amJ102, List.forall_mem_cons.mpr ⟨amJ103, List.forall_mem_cons.mpr ⟨amJ104, List.forall_mem_cons.mpr ⟨amJ105, List.forall_mem_cons.mpr ⟨amJ106, List.forall_mem_cons.mpr ⟨amJ107, List.forall_mem_cons.mpr ⟨amJ108, List.forall_mem_cons.mpr ⟨amJ109, List.forall_mem_cons.mpr ⟨amJ110, List.forall_mem_cons.mpr ⟨amJ111, List.forall_mem_cons.mpr ⟨amJ112, List.forall_mem_cons.mpr ⟨amJ113, List.forall_mem_cons.mpr ⟨amJ114, List.forall_mem_cons.mpr ⟨amJ115, List.forall_mem_cons.mpr ⟨amJ116, List.forall_mem_cons.mpr ⟨amJ117, List.forall_mem_cons.mpr ⟨amJ118, List.forall_mem_cons.mpr ⟨amJ119, List.forall_mem_cons.mpr ⟨amJ120, List.forall_mem_cons.mpr ⟨amJ121, List.forall_mem_cons.mpr ⟨amJ122, List.forall_mem_cons.mpr ⟨amJ123, List.forall_mem_cons.mpr ⟨amJ124, List.forall_mem_cons.mpr ⟨amJ125, List.forall_mem_cons.mpr ⟨amJ126, List.forall_mem_cons.mpr ⟨amJ127, List.forall_mem_cons.mpr ⟨amJ128, List.forall_mem_cons.mpr ⟨amJ129, List.forall_mem_cons.mpr ⟨amJ130, List.forall_mem_cons.mpr ⟨amJ131, List.forall_mem_cons.mpr ⟨amJ132, List.forall_mem_cons.mpr ⟨amJ133, List.forall_mem_cons.mpr ⟨amJ134, List.forall_mem_cons.mpr ⟨amJ135, List.forall_mem_cons.mpr ⟨amJ136, List.forall_mem_cons.mpr ⟨amJ137, List.forall_mem_cons.mpr ⟨amJ138, List.forall_mem_cons.mpr ⟨amJ139, List.forall_mem_cons.mpr ⟨amJ140, List.forall_mem_cons.mpr ⟨amJ141, List.forall_mem_cons.mpr ⟨amJ142, List.forall_mem_cons.mpr ⟨amJ143, List.forall_mem_cons.mpr ⟨amJ144, List.forall_mem_cons.mpr ⟨amJ145, List.forall_mem_cons.mpr ⟨amJ146, List.forall_mem_cons.mpr ⟨amJ147, List.forall_mem_cons.mpr ⟨amJ148, List.forall_mem_cons.mpr ⟨amJ149, List.forall_mem_cons.mpr ⟨amJ150, List.forall_mem_cons.mpr ⟨amJ151, List.forall_mem_cons.mpr ⟨amJ152, List.forall_mem_cons.mpr ⟨amJ153, List.forall_mem_cons.mpr ⟨amJ154, fun _ h => absurd h List.not_mem_nil⟩⟩⟩⟩⟩⟩⟩⟩⟩⟩⟩⟩⟩⟩⟩⟩⟩⟩⟩⟩⟩⟩⟩⟩⟩⟩⟩⟩⟩⟩⟩⟩⟩⟩⟩⟩⟩⟩⟩⟩⟩⟩⟩⟩⟩⟩⟩⟩⟩⟩⟩⟩⟩⟩⟩⟩⟩⟩⟩⟩⟩⟩⟩⟩⟩⟩⟩⟩⟩⟩⟩⟩⟩⟩⟩⟩⟩⟩⟩⟩⟩⟩⟩⟩⟩⟩⟩⟩⟩⟩⟩⟩⟩⟩⟩⟩⟩⟩⟩⟩⟩⟩⟩⟩⟩⟩⟩⟩⟩⟩⟩⟩⟩⟩⟩⟩⟩⟩⟩⟩⟩⟩⟩⟩⟩⟩⟩⟩⟩⟩⟩⟩⟩⟩⟩⟩⟩⟩⟩⟩⟩⟩⟩⟩⟩⟩⟩⟩⟩⟩⟩⟩⟩⟩⟩
theorem amHndAll : ∀ r ∈ amAll, amHndK r.1 := List.forall_mem_cons.mpr ⟨(by unfold amHndK; decide +kernel), List.forall_mem_cons.mpr ⟨(by unfold amHndK; decide +kernel), List.forall_mem_cons.mpr ⟨(by unfold amHndK; decide +kernel), List.forall_mem_cons.mpr ⟨(by unfold amHndK; decide +kernel), List.forall_mem_cons.mpr ⟨(by unfold amHndK; decide +kernel), List.forall_mem_cons.mpr ⟨(by unfold amHndK; decide +kernel), List.forall_mem_cons.mpr ⟨(by unfold amHndK; decide +kernel), List.forall_mem_cons.mpr ⟨(by unfold amHndK; decide +kernel), List.forall_mem_cons.mpr ⟨(by unfold amHndK; decide +kernel), List.forall_mem_cons.mpr ⟨(by unfold amHndK; decide +kernel), List.forall_mem_cons.mpr ⟨(by unfold amHndK; decide +kernel), List.forall_mem_cons.mpr ⟨(by unfold amHndK; decide +kernel), List.forall_mem_cons.mpr ⟨(by unfold amHndK; decide +kernel), List.forall_mem_cons.mpr ⟨(by unfold amHndK; decide +kernel), List.forall_mem_cons.mpr ⟨(by unfold amHndK; decide +kernel), List.forall_mem_cons.mpr ⟨(by unfold amHndK; decide +kernel), List.forall_mem_cons.mpr ⟨(by unfold amHndK; decide +kernel), List.forall_mem_cons.mpr ⟨(by unfold amHndK; decide +kernel), List.forall_mem_cons.mpr ⟨(by unfold amHndK; decide +kernel), List.forall_mem_cons.mpr ⟨(by unfold amHndK; decide +kernel), List.forall_mem_cons.mpr ⟨(by unfold amHndK; decide +kernel), List.forall_mem_cons.mpr ⟨(by unfold amHndK; decide +kernel), List.forall_mem_cons.mpr ⟨(by unfold amHndK; decide +kernel), List.forall_mem_cons.mpr ⟨(by unfold amHndK; decide +kernel), List.forall_mem_cons.mpr ⟨(by unfold amHndK; decide +kernel), List.forall_mem_cons.mpr ⟨(by unfold amHndK; decide +kernel), List.forall_mem_cons.mpr ⟨(by unfold amHndK; decide +kernel), List.forall_mem_cons.mpr ⟨(by unfold amHndK; decide +kernel), List.forall_mem_cons.mpr ⟨(by unfold amHndK; decide +kernel), List.forall_mem_cons.mpr ⟨(by unfold amHndK; decide +kernel), List.forall_mem_cons.mpr ⟨(by unfold amHndK; decide +kernel), List.forall_mem_cons.mpr ⟨(by unfold amHndK; decide +kernel), List.forall_mem_cons.mpr ⟨(by unfold amHndK; decide +kernel), List.forall_mem_cons.mpr ⟨(by unfold amHndK; decide +kernel), List.forall_mem_cons.mpr ⟨(by unfold amHndK; decide +kernel), List.forall_mem_cons.mpr ⟨(by unfold amHndK; decide +kernel), List.forall_mem_cons.mpr ⟨(by unfold amHndK; decide +kernel), List.forall_mem_cons.mpr ⟨(by unfold amHndK; decide +kernel), List.forall_mem_cons.mpr ⟨(by unfold amHndK; decide +kernel), List.forall_mem_cons.mpr ⟨(by unfold amHndK; decide +kernel), List.forall_mem_cons.mpr ⟨(by unfold amHndK; decide +kernel), List.forall_mem_cons.mpr ⟨(by unfold amHndK; decide +kernel), List.forall_mem_cons.mpr ⟨(by unfold amHndK; decide +kernel), List.forall_mem_cons.mpr ⟨(by unfold amHndK; decide +kernel), List.forall_mem_cons.mpr ⟨(by unfold amHndK; decide +kernel), List.forall_mem_cons.mpr ⟨(by unfold amHndK; decide +kernel), List.forall_mem_cons.mpr ⟨(by unfold amHndK; decide +kernel), List.forall_mem_cons.mpr ⟨(by unfold amHndK; decide +kernel), List.forall_mem_cons.mpr ⟨(by unfold amHndK; decide +kernel), List.forall_mem_cons.mpr ⟨(by unfold amHndK; decide +kernel), List.forall_mem_cons.mpr ⟨(by unfold amHndK; decide +kernel), List.forall_mem_cons.mpr ⟨(by unfold amHndK; decide +kernel), List.forall_mem_cons.mpr ⟨(by unfold amHndK; decide +kernel), List.forall_mem_cons.mpr ⟨(by unfold amHndK; decide +kernel), List.forall_mem_cons.mpr ⟨(by unfold amHndK; decide +kernel), List.forall_mem_cons.mpr ⟨(by unfold amHndK; decide +kernel), List.forall_mem_cons.mpr ⟨(by unfold amHndK; decide +kernel), List.forall_mem_cons.mpr ⟨(by unfold amHndK; decide +kernel), List.forall_mem_cons.mpr ⟨(by unfold amHndK; decide +kernel), List.forall_mem_cons.mpr ⟨(by unfold amHndK; decide +kernel), List.forall_mem_cons.mpr ⟨(by unfold amHndK; decide +kernel), List.forall_mem_cons.mpr ⟨(by unfold amHndK; decide +kernel), List.forall_mem_cons.mpr ⟨(by unfold amHndK; decide +kernel), List.forall_mem_cons.mpr ⟨(by unfold amHndK; decide +kernel), List.forall_mem_cons.mpr ⟨(by unfold amHndK; decide +kernel), List.forall_mem_cons.mpr ⟨(by unfold amHndK; decide +kernel), List.forall_mem_cons.mpr ⟨(by unfold amHndK; decide +kernel), List.forall_mem_cons.mpr ⟨(by unfold amHndK; decide +kernel), List.forall_mem_cons.mpr ⟨(by unfold amHndK; decide +kernel), List.forall_mem_cons.mpr ⟨(by unfold amHndK; decide +kernel), List.forall_mem_cons.mpr ⟨(by unfold amHndK; decide +kernel), List.forall_mem_cons.mpr ⟨(by unfold amHndK; decide +kernel), List.forall_mem_cons.mpr ⟨(by unfold amHndK; decide +kernel), List.forall_mem_cons.mpr ⟨(by unfold amHndK; decide +kernel), List.forall_mem_cons.mpr ⟨(by unfold amHndK; decide +kernel), List.forall_mem_cons.mpr ⟨(by unfold amHndK; decide +kernel), List.forall_mem_cons.mpr ⟨(by unfold amHndK; decide +kernel), List.forall_mem_cons.mpr ⟨(by unfold amHndK; decide +kernel), List.forall_mem_cons.mpr ⟨(by unfold amHndK; decide +kernel), List.forall_mem_cons.mpr ⟨(by unfold amHndK; decide +kernel), List.forall_mem_cons.mpr ⟨(by unfold amHndK; decide +kernel), List.forall_mem_cons.mpr ⟨(by unfold amHndK; decide +kernel), List.forall_mem_cons.mpr ⟨(by unfold amHndK; decide +kernel), List.forall_mem_cons.mpr ⟨(by unfold amHndK; decide +kernel), List.forall_mem_cons.mpr ⟨(by unfold amHndK; decide +kernel), List.forall_mem_cons.mpr ⟨(by unfold amHndK; decide +kernel), List.forall_mem_cons.mpr ⟨(by unfold amHndK; decide +kernel), List.forall_mem_cons.mpr ⟨(by unfold amHndK; decide +kernel), List.forall_mem_cons.mpr ⟨(by unfold amHndK; decide +kernel), List.forall_mem_cons.mpr ⟨(by unfold amHndK; decide +kernel), List.forall_mem_cons.mpr ⟨(by unfold amHndK; decide +kernel), List.forall_mem_cons.mpr ⟨(by unfold amHndK; decide +kernel), List.forall_mem_cons.mpr ⟨(by unfold amHndK; decide +kernel), List.forall_mem_cons.mpr ⟨(by unfold amHndK; decide +kernel), List.forall_mem_cons.mpr ⟨(by unfold amHndK; decide +kernel), List.forall_mem_cons.mpr ⟨(by unfold amHndK; decide +kernel), List.forall_mem_cons.mpr ⟨(by unfold amHndK; decide +kernel), List.forall_mem_cons.mpr ⟨(by unfold amHndK; decide +kernel), List.forall_mem_cons.mpr ⟨(by unfold amHndK; decide +kernel), List.forall_mem_cons.mpr ⟨(by unfold amHndK; decide +kernel), List.forall_mem_cons.mpr ⟨(by unfold amHndK; decide +kernel), List.forall_mem_cons.mpr ⟨(by unfold amHndK; decide +kernel), List.forall_mem_cons.mpr ⟨(by unfold amHndK; decide +kernel), List.forall_mem_cons.mpr ⟨(by unfold amHndK; decide +kernel), List.forall_mem_cons.mpr ⟨(by unfold amHndK; decide +kernel), List.forall_mem_cons.mpr ⟨(by unfold amHndK; decide +kernel), List.forall_mem_cons.mpr ⟨(by unfold amHndK; decide +kernel), List.forall_mem_cons.mpr ⟨(by unfold amHndK; decide +kernel), List.forall_mem_cons.mpr ⟨(by unfold amHndK; decide +kernel), List.forall_mem_cons.mpr ⟨(by unfold amHndK; decide +kernel), List.forall_mem_cons.mpr ⟨(by unfold amHndK; decide +kernel), List.forall_mem_cons.mpr ⟨(by unfold amHndK; decide +kernel), List.forall_mem_cons.mpr ⟨(by unfold amHndK; decide +kernel), List.forall_mem_cons.mpr ⟨(by unfold amHndK; decide +kernel), List.forall_mem_cons.mpr ⟨(by unfold amHndK; decide +kernel), List.forall_mem_cons.mpr ⟨(by unfold amHndK; decide +kernel), List.forall_mem_cons.mpr ⟨(by unfold amHndK; decide +kernel), List.forall_mem_cons.mpr ⟨(by unfold amHndK; decide +kernel), List.forall_mem_cons.mpr ⟨(by unfold amHndK; decide +kernel), List.forall_mem_cons.mpr ⟨(by unfold amHndK; decide +kernel), List.forall_mem_cons.mpr ⟨(by unfold amHndK; decide +kernel), List.forall_mem_cons.mpr ⟨(by unfold amHndK; decide +kernel), List.forall_mem_cons.mpr ⟨(by unfold amHndK; decide +kernel), List.forall_mem_cons.mpr ⟨(by unfold amHndK; decide +kernel), List.forall_mem_cons.mpr ⟨(by unfold amHndK; decide +kernel), List.forall_mem_cons.mpr ⟨(by unfold amHndK; decide +kernel), List.forall_mem_cons.mpr ⟨(by unfold amHndK; decide +kernel), List.forall_mem_cons.mpr ⟨(by unfold amHndK; decide +kernel), List.forall_mem_cons.mpr ⟨(by unfold amHndK; decide +kernel), List.forall_mem_cons.mpr ⟨(by unfold amHndK; decide +kernel), List.forall_mem_cons.mpr ⟨(by unfold amHndK; decide +kernel), List.forall_mem_cons.mpr ⟨(by unfold amHndK; decide +kernel), List.forall_mem_cons.mpr ⟨(by unfold amHndK; decide +kernel), List.forall_mem_cons.mpr ⟨(by unfold amHndK; decide +kernel), List.forall_mem_cons.mpr ⟨(by unfold amHndK; decide +kernel), List.forall_mem_cons.mpr ⟨(by unfold amHndK; decide +kernel), List.forall_mem_cons.mpr ⟨(by unfold amHndK; decide +kernel), List.forall_mem_cons.mpr ⟨(by unfold amHndK; decide +kernel), List.forall_mem_cons.mpr ⟨(by unfold amHndK; decide +kernel), List.forall_mem_cons.mpr ⟨(by unfold amHndK; decide +kernel), List.forall_mem_cons.mpr ⟨(by unfold amHndK; decide +kernel), List.forall_mem_cons.mpr ⟨(by unfold amHndK; decide +kernel), List.forall_mem_cons.mpr ⟨(by unfold amHndK; decide +kernel), List.forall_mem_cons.mpr ⟨(by unfold amHndK; decide +kernel), List.forall_mem_cons.mpr ⟨(by unfold amHndK; decide +kernel), List.forall_mem_cons.mpr ⟨(by unfold amHndK; decide +kernel), List.forall_mem_cons.mpr ⟨(by unfold amHndK; decide +kernel), List.forall_mem_cons.mpr ⟨(by unfold amHndK; decide +kernel), List.forall_mem_cons.mpr ⟨(by unfold amHndK; decide +kernel), List.forall_mem_cons.mpr ⟨(by unfold amHndK; decide +kernel), List.forall_mem_cons.mpr ⟨(by unfold amHndK; decide +kernel), List.forall_mem_cons.mpr ⟨(by unfold amHndK; decide +kernel), List.forall_mem_cons.mpr ⟨(by unfold amHndK; decide +kernel), List.forall_mem_cons.mpr ⟨(by unfold amHndK; decide +kernel), List.forall_mem_cons.mpr ⟨(by unfold amHndK; decide +kernel), fun _ h => absurd h List.not_mem_nil⟩⟩⟩⟩⟩⟩⟩⟩⟩⟩⟩⟩⟩⟩⟩⟩⟩⟩⟩⟩⟩⟩⟩⟩⟩⟩⟩⟩⟩⟩⟩⟩⟩⟩⟩⟩⟩⟩⟩⟩⟩⟩⟩⟩⟩⟩⟩⟩⟩⟩⟩⟩⟩⟩⟩⟩⟩⟩⟩⟩⟩⟩⟩⟩⟩⟩⟩⟩⟩⟩⟩⟩⟩⟩⟩⟩⟩⟩⟩⟩⟩⟩⟩⟩⟩⟩⟩⟩⟩⟩⟩⟩⟩⟩⟩⟩⟩⟩⟩⟩⟩⟩⟩⟩⟩⟩⟩⟩⟩⟩⟩⟩⟩⟩⟩⟩⟩⟩⟩⟩⟩⟩⟩⟩⟩⟩⟩⟩⟩⟩⟩⟩⟩⟩⟩⟩⟩⟩⟩⟩⟩⟩⟩⟩⟩⟩⟩⟩⟩⟩⟩⟩⟩⟩⟩
theorem amRmAll : ∀ M, M < 155 → ∀ r, amAll[M]? = some r → amRm[M]? = some (r.1.2.2.2.1, r.1.2.2.2.2.2.2.1, r.1.2.2.2.2.2.2.2) := by
  have h : amAll.map (fun r => (r.1.2.2.2.1, r.1.2.2.2.2.2.2.1, r.1.2.2.2.2.2.2.2)) = amRm := by decide +kernel
  intro M _ r hr
  rw [← h, List.getElem?_map, hr]
  rfl
theorem amHl_1 : Cond.classLink RL 13 (amX 1) ∈ amTB := amTB_of (i := 132) (by decide +kernel) (by decide +kernel)
theorem amHl_2 : Cond.classLink RL 15 (amX 2) ∈ amTB := amTB_of (i := 133) (by decide +kernel) (by decide +kernel)
theorem amHl_3 : Cond.classLink RL 28 (amX 3) ∈ amTB := amTB_of (i := 357) (by decide +kernel) (by decide +kernel)
theorem amHl (k : Nat) (h : amCat k ≠ 0) : Cond.classLink RL k (amX (amCat k)) ∈ amTB ∧ k ≠ 0 := by
  unfold amCat at h ⊢
  split
  · exact ⟨amHl_1, by decide⟩
  · exact ⟨amHl_2, by decide⟩
  · exact ⟨amHl_3, by decide⟩
  · simp at h
theorem amThr_gen (all : List (amRow × List (List amEnt))) (hall : ∀ r ∈ all, ∀ l ∈ r.2, amThrK r.1 l) {M pc : Nat} {r : amRow × List (List amEnt)} {v : Instr × Nat × amRes} (hr : all[M]? = some r) (h : ((all[M]?).bind fun r => (r.2[pc / 64]?).bind fun q => q.lookup pc) = some v) : amThrChk r.1 (pc, v) = true := by
  obtain ⟨l, hl, hm⟩ := amFetch_gen all hr h
  have h1 := hall r (List.mem_of_getElem? hr) l hl
  unfold amThrK at h1
  exact List.all_eq_true.mp h1 _ hm
theorem amFetch_thr {M pc : Nat} {r : amRow × List (List amEnt)} {v : Instr × Nat × amRes} (hr : amAll[M]? = some r) (h : amFetch M pc = some v) : amThrChk r.1 (pc, v) = true := amThr_gen amAll amThrAll hr h
end
section
/-! the abstract machine's runs, on the machine; by hand -/
theorem amBack_mono {rec : amRec} (ih : ∀ M pc ls st hs c s o, rec M pc ls st hs c s = some o → c ≤ o.2.2.1 ∧ s ≤ o.2.2.2) {M : Nat} {x : amRes} {pc : Nat} {ls : amL} {rest : List Value} {c s : Nat} {q : Option amOut} {o : amOut} (h : amBack rec M x pc ls rest c s q = some o) : c ≤ o.2.2.1 ∧ s ≤ o.2.2.2 := by
  unfold amBack at h
  split at h
  · cases h
  · have h1 := ih _ _ _ _ _ _ _ _ h
    omega
  · split at h
    · cases h
    · split at h
      · cases h
        dsimp only
        omega
      · split at h
        · have h1 := ih _ _ _ _ _ _ _ _ h
          omega
        · have h1 := ih _ _ _ _ _ _ _ _ h
          omega
        · cases h
theorem amCall_mono {rec : amRec} (ih : ∀ M pc ls st hs c s o, rec M pc ls st hs c s = some o → c ≤ o.2.2.1 ∧ s ≤ o.2.2.2) {M : Nat} {x : amRes} {pc : Nat} {ls : amL} {st : List Value} {hs : amH} {c s : Nat} {o : amOut} (h : amCall rec M x pc ls st hs c s = some o) : c ≤ o.2.2.1 ∧ s ≤ o.2.2.2 := by
  unfold amCall at h
  split at h
  · cases h
  · split at h
    · cases h
    · split at h
      · exact amBack_mono ih h
      · cases h
theorem amMore_mono {rec : amRec} (ih : ∀ M pc ls st hs c s o, rec M pc ls st hs c s = some o → c ≤ o.2.2.1 ∧ s ≤ o.2.2.2) {M : Nat} {i : Instr} {x : amRes} {pc : Nat} {ls : amL} {st : List Value} {hs : amH} {c s : Nat} {o : amOut} (h : amMore rec M i x pc ls st hs c s = some o) : c ≤ o.2.2.1 ∧ s ≤ o.2.2.2 := by
  unfold amMore at h
  split at h
  · split at h
    · split at h
      · cases h; exact ⟨Nat.le_refl _, Nat.le_refl _⟩
      · cases h
    · cases h
  · split at h
    · cases h; exact ⟨Nat.le_refl _, Nat.le_refl _⟩
    · cases h
  · split at h
    · cases h; exact ⟨Nat.le_refl _, Nat.le_refl _⟩
    · cases h
  · split at h
    · split at h
      · cases h; dsimp only; omega
      · cases h
    · have h1 := ih _ _ _ _ _ _ _ _ h
      omega
  · split at h
    · split at h
      · split at h
        · have h1 := ih _ _ _ _ _ _ _ _ h
          omega
        · have h1 := ih _ _ _ _ _ _ _ _ h
          omega
        · have h1 := ih _ _ _ _ _ _ _ _ h
          omega
        · cases h
      · cases h
    · cases h
  · split at h
    · split at h
      · have h1 := ih _ _ _ _ _ _ _ _ h
        omega
      · cases h
    · cases h
  · split at h
    · exact amCall_mono ih h
    · cases h
  · split at h
    · exact amCall_mono ih h
    · cases h
  · split at h
    · exact amCall_mono ih h
    · cases h
  · cases h
theorem amRun_mono : ∀ (n : Nat) (M pc : Nat) (ls : amL) (st : List Value) (hs : amH) (c s : Nat) (o : amOut), amRun n M pc ls st hs c s = some o → c ≤ o.2.2.1 ∧ s ≤ o.2.2.2
  | 0, _, _, _, _, _, _, _, _, h => by simp [amRun] at h
  | n + 1, M, pc, ls, st, hs, c, s, o, h => by
    simp only [amRun] at h
    split at h
    · cases h
    · split at h
      · exact amRun_mono n _ _ _ _ _ _ _ _ h
      · exact amMore_mono (amRun_mono n) h
theorem amGood {l : List Cond} (h : ∀ w ∈ l, w ∈ amTB) : GoodIn amTB l := fun w hw => ⟨h w hw, good_of_word (List.mem_filter.mp (h w hw)).2⟩
theorem amNw_warm {s U : State} (hW : s.WarmedH U.vm) (h : ∀ w ∈ amNests, va_Nw w s) : ∀ w ∈ amNests, va_Nw w U := by
  unfold amNests at h ⊢
  intro w hw
  rcases List.mem_cons.mp hw with rfl | hw
  · exact va_Nw.warmM hW (h _ List.mem_cons_self)
  · rw [List.mem_singleton.mp hw]
    exact va_Nw.warmM hW (h _ (List.mem_cons_of_mem _ List.mem_cons_self))
theorem amBad_warm {s U : State} (hW : s.WarmedH U.vm) (h : ∀ w ∈ amBad, va_Nw w s) : ∀ w ∈ amBad, va_Nw w U := by
  unfold amBad at h ⊢
  simp only [List.forall_mem_cons] at h ⊢
  obtain ⟨h1, h2, h3, h4, h5, h6, h7⟩ := h
  exact ⟨va_Nw.warmC hW h1, va_Nw.warmC hW h2, va_Nw.warmC hW h3, va_Nw.warmD hW h4, va_Nw.warmD hW h5, va_Nw.warmD hW h6, fun w hw => absurd hw List.not_mem_nil⟩
theorem amAmb_use {A B : Nat → Prop} {s U : State} {H : Heap} {locs : List Loc} (h : amAmb A s) (hS : va_S A s.heap H locs) (hB : ∀ q, B q → A q) (hU : U.heap = H) (hW : s.WarmedH U.vm) : amAmb B U := by
  obtain ⟨h1, h2, h3, h4, h5, h6, h7⟩ := h
  refine ⟨?_, ?_, fun q hq => ?_, fun q hq => va_Nc.moved hW.alike (h4 q hq), amNw_warm hW h5, va_AO.moved hW.alike h6, amBad_warm hW h7⟩
  · rw [hU]; exact vx_Zq.moved hW.alike ((h1.kept hS.2.1).narrow hB)
  · rw [hU]; exact vx_Zq.moved hW.alike ((h2.kept hS.2.1).narrow hB)
  · obtain ⟨sa, hsa⟩ := h3 q hq
    exact ⟨sa, vk_R.warm hW hsa⟩
def amIn0 (D : va_G) (ws : va_W) (σ : List Nat) (hs : amH) (b L : Nat) (xs : Nat → Int32) (sz : Nat) (U : State) : Prop := U.heap.size = sz ∧ va_P D vwCl ws U.heap ∧ va_K D vwCl [] U ∧ va_D (fun _ => True) ws ∧ amWR U σ hs ws ∧ hs[0]? = some (.inl (.int, L, .inl xs)) ∧ σ[0]? = some b ∧ va_X b L xs U U.heap ∧ b < U.heap.size ∧ ¬ va_A ws sz b ∧ amAmb (va_A ws sz) U
def amEnd (D : va_G) (ws : va_W) (sz : Nat) (σ σ' : List Nat) (ws' : va_W) (hs' : amH) (b L : Nat) (xs : Nat → Int32) (t : State) : Prop := amExt σ σ' ∧ va_P D vwCl ws' t.heap ∧ va_D (va_A ws sz) ws' ∧ amWR t σ' hs' ws' ∧ hs'[0]? = some (.inl (.int, L, .inl xs)) ∧ σ'[0]? = some b
def amQc (D : va_G) (ws : va_W) (sz : Nat) (σ : List Nat) (o : amOut) (b L : Nat) (xs : Nat → Int32) : Array Value → State → Outcome → State → Prop := fun _ st oc t =>
  (∃ v cv σ' ws', o.1 = .inl v ∧ oc = .returned cv ∧ amSR σ' v.toList cv.toList ∧ amEnd D ws sz σ σ' ws' o.2.1 b L xs t) ∧ va_F (va_A ws sz) st t
def amXC (D : va_G) (ws : va_W) (sz : Nat) (σ : List Nat) (o : amOut) (b L : Nat) (xs : Nat → Int32) : String → State → State → Prop := fun E' st t =>
  (∃ E σ' ws', o.1 = .inr E ∧ E' = amX E ∧ (E = 1 ∨ E = 2 ∨ E = 3) ∧ amEnd D ws sz σ σ' ws' o.2.1 b L xs t) ∧ va_F (va_A ws sz) st t
def amMet (l : Launch) (r : amRow) (o : amOut) (D : va_G) (ws : va_W) (sz : Nat) (σ : List Nat) (hs : amH) (b L : Nat) (xs : Nat → Int32) (cas : List Value) : Prop :=
  vx_Met l r.2.1 (amCW r :: amTB) { frames := r.2.2.2.2.2.2.1, cells := o.2.2.1, slots := o.2.2.2, locals := r.2.2.2.2.2.2.2 } (va_Pc cas (amIn0 D ws σ hs b L xs sz)) (amQc D ws sz σ o b L xs) (amXC D ws sz σ o b L xs) o.2.2.1 o.2.2.2 (va_A ws sz)
/-- the instruction by which a method gives this answer -/
def amRetI (M pc : Nat) (v : Option Value) : Prop := ∃ i len x, amFetch M pc = some (i, len, x) ∧ match v with
  | none => i = .return_
  | some (.int k) => i = .ireturn ∧ amRetOk M k = true
  | some (.ref _) => i = .areturn
  | _ => False
def amK (p : Program) (l : Launch) (e : Env) (R : Room) (s : State) (m : MethodId) (args : Array Value) (below : List Frame) (meth : Method) (cd : Code) (Q : State → Prop) (D : va_G) (A : Nat → Prop) (b L : Nat) (xs : Nat → Int32) (M nL : Nat) (σ : List Nat) (o : amOut) : Prop :=
  (∀ v, o.1 = .inl v → ∀ pc' σ' ws' H' locs' cls' cst', amExt σ σ' → amDy s D A σ' o.2.1 ws' H' locs' b L xs → amSR σ' v.toList cst' → cls'.size = nL → amRetI M pc' v → W p l e R s m args below meth cd H' locs' o.2.2.1 o.2.2.2 Q (F0 m pc' cls' cst')) ∧
  (∀ E, o.1 = .inr E → ∀ pc' σ' ws' H' locs' cls' cst' c' sl' k len x, amExt σ σ' → amDy s D A σ' o.2.1 ws' H' locs' b L xs → amFetch M pc' = some (.new k, len, x) → x.1 = 1 → x.2.1 = E → (cst'.map fun v : Value => v.category).sum ≤ 8 → cls'.size = nL → c' + 1 = o.2.2.1 → sl' + 6 = o.2.2.2 → W p l e R s m args below meth cd H' locs' c' sl' Q (F0 m pc' cls' cst')) ∧
  (∀ E, o.1 = .inr E → (E = 1 ∨ E = 2 ∨ E = 3) → ∀ pc' σ' ws' H' locs' cls' cst' q ce, amExt σ σ' → amDy s D A σ' o.2.1 ws' H' locs' b L xs → amHand M pc' E = none → H'[q]? = some ce → ce.vm = .none → s.vm.findClass (amX E) = some ce.cls → vx_W p l e R s m args below meth cd H' locs' o.2.2.1 o.2.2.2 Q (F0 m pc' cls' cst') q)
theorem amK_mono {p : Program} {l : Launch} {e : Env} {R : Room} {s : State} {m : MethodId} {args : Array Value} {below : List Frame} {meth : Method} {cd : Code} {Q : State → Prop} {D : va_G} {A : Nat → Prop} {b L : Nat} {xs : Nat → Int32} {M nL : Nat} {σ σ1 : List Nat} {o : amOut} (he : amExt σ σ1) (h : amK p l e R s m args below meth cd Q D A b L xs M nL σ o) : amK p l e R s m args below meth cd Q D A b L xs M nL σ1 o :=
  ⟨fun v hv pc' σ' ws' H' locs' cls' cst' h1 => h.1 v hv pc' σ' ws' H' locs' cls' cst' (amExt_tr he h1),
   fun E hv pc' σ' ws' H' locs' cls' cst' c' sl' k len x h1 => h.2.1 E hv pc' σ' ws' H' locs' cls' cst' c' sl' k len x (amExt_tr he h1),
   fun E hv h9 pc' σ' ws' H' locs' cls' cst' q ce h1 => h.2.2 E hv h9 pc' σ' ws' H' locs' cls' cst' q ce (amExt_tr he h1)⟩
def amSnd (n : Nat) : Prop := ∀ (p : Program) (l : Launch) (e : Env) (R : Room) (s : State) (m : MethodId) (args : Array Value) (below : List Frame) (meth : Method) (cd : Code) (Q : State → Prop) (D : va_G) (A : Nat → Prop) (b L : Nat) (xs : Nat → Int32) (M : Nat) (r : amRow × List (List amEnt)),
  amFr p l s m args meth cd r.1 D A b L xs → amAll[M]? = some r → r.1.2.2.2.2.2.2.1 ≤ R.frames → r.1.2.2.2.2.2.2.2 ≤ R.locals → ∀ (pc : Nat) (ls : amL) (st : List Value) (hs : amH) (c sl : Nat) (o : amOut), amRun n M pc ls st hs c sl = some o → ∀ (σ : List Nat) (ws : va_W) (H : Heap) (locs : List Loc) (cls : Array Slot) (cst : List Value), amDy s D A σ hs ws H locs b L xs → amLR σ ls r.1.2.2.2.1 cls → amSR σ st cst → o.2.2.1 ≤ R.cells → o.2.2.2 ≤ R.slots → amK p l e R s m args below meth cd Q D A b L xs M r.1.2.2.2.1 σ o → W p l e R s m args below meth cd H locs c sl Q (F0 m pc cls cst)
theorem am_own {tg ow mL : Nat} (h : amOwnL tg = some (ow, mL)) : ∃ rt, amAll[tg]? = some rt ∧ ow = rt.1.1 ∧ mL = rt.1.2.2.2.1 := by
  unfold amOwnL amRowOf at h
  cases hq : amAll[tg]? with
  | none => rw [hq] at h; simp at h
  | some rt =>
    rw [hq] at h
    simp only [Option.map_some, Option.some.injEq, Prod.mk.injEq] at h
    exact ⟨rt, rfl, h.1.symm, h.2.symm⟩
theorem am_rowOf {M : Nat} {r : amRow × List (List amEnt)} (hr : amAll[M]? = some r) : amRowOf M = some r.1 := by
  unfold amRowOf
  rw [hr]
  rfl
theorem am_this {hs : amH} {v : Value} {ow : Nat} (h : amThis hs v ow = true) : ∃ a fs, v = .ref a ∧ hs[a]? = some (.inr (ow, fs)) := by
  unfold amThis at h
  split at h
  · rename_i a
    split at h
    · rename_i c2 fs hq
      have h1 : c2 = ow := of_decide_eq_true h
      subst h1
      exact ⟨a, fs, rfl, hq⟩
    · cases h
  · cases h
theorem am_args {x : amRes} {st as rest : List Value} {hs : amH} {ow : Nat} (h : amArgs x st hs ow = some (as, rest)) : st = as.reverse ++ rest ∧ as.length = (if x.1 = 0 ∨ x.1 = 3 then x.2.2.toNat + 1 else x.2.2.toNat) ∧ (∀ v ∈ as, v.category = 1) ∧ amSum rest ≤ 8 ∧ ((x.1 = 0 ∨ x.1 = 3) → ∃ a fs as2, as = .ref a :: as2 ∧ hs[a]? = some (.inr (ow, fs))) := by
  unfold amArgs at h
  generalize (if x.1 = 0 ∨ x.1 = 3 then x.2.2.toNat + 1 else x.2.2.toNat) = k at h ⊢
  dsimp only at h
  rw [Option.ite_none_right_eq_some] at h
  obtain ⟨hq, h⟩ := h
  obtain ⟨h1, h2, h3, h4⟩ := hq
  cases h
  refine ⟨?_, h1, fun v hv => ?_, h3, fun h9 => ?_⟩
  · rw [List.reverse_reverse, List.take_append_drop]
  · have h5 := List.all_eq_true.mp h2 v hv
    exact of_decide_eq_true h5
  · have h5 := h4 h9
    generalize (List.take k st).reverse = zs at h5 ⊢
    cases zs with
    | nil => cases h5
    | cons v as2 =>
      obtain ⟨a, fs, rfl, h6⟩ := am_this h5
      exact ⟨a, fs, as2, rfl, h6⟩
theorem am_sl {cas : List Value} (h : ∀ v ∈ cas, v.category = 1) : lg_sl cas = cas.map Slot.val := by
  induction cas with
  | nil => rfl
  | cons v l ih =>
    have h1 := h v List.mem_cons_self
    have h2 := ih fun w hw => h w (List.mem_cons_of_mem _ hw)
    unfold lg_sl at h2 ⊢
    rw [List.flatMap_cons, h2, if_neg (by omega)]
    rfl
theorem am_cats {σ : List Nat} : ∀ {as cas : List Value}, amSR σ as cas → (∀ v ∈ as, v.category = 1) → ∀ w ∈ cas, w.category = 1
  | [], [], _, _ => fun w hw => absurd hw List.not_mem_nil
  | v :: as, w :: cas, h, h1 => fun u hu => by
    rcases List.mem_cons.mp hu with rfl | hu
    · rw [amVR_cat h.1]; exact h1 v List.mem_cons_self
    · exact am_cats h.2 (fun z hz => h1 z (List.mem_cons_of_mem _ hz)) u hu
  | [], _ :: _, h, _ => absurd h id
  | _ :: _, [], h, _ => absurd h id
theorem am_entry {σ : List Nat} {as cas : List Value} {n : Nat} (h : amSR σ as cas) (hc : ∀ v ∈ as, v.category = 1) (hn : as.length ≤ n) : amLR σ (amEntry as n) n ((lg_sl cas ++ List.replicate (n - (lg_sl cas).length) Slot.unset).toArray) := by
  have hcc := am_cats h hc
  have hsl := am_sl hcc
  have hlen := amSR_len h
  have hll : (lg_sl cas).length = as.length := by rw [hsl, List.length_map, hlen]
  obtain ⟨e1, e2, -⟩ := lv_entry cas (n := n) (by rw [hll]; exact hn)
  refine ⟨e1, ?_, e2, fun i v hv => ?_⟩
  · unfold amEntry
    rw [List.length_append, List.length_map, List.length_replicate]
    omega
  · unfold amEntry at hv
    by_cases hi : i < as.length
    · rw [List.getElem?_append_left (by rw [List.length_map]; exact hi), List.getElem?_map] at hv
      cases hg : as[i]? with
      | none => rw [hg] at hv; cases hv
      | some u =>
        rw [hg] at hv
        simp only [Option.map_some, Option.some.injEq] at hv
        subst hv
        obtain ⟨w, h1, h2⟩ := amSR_get h hg
        refine ⟨w, h2, hcc w (List.mem_of_getElem? h1), ?_⟩
        rw [List.getElem?_toArray, List.getElem?_append_left (by rw [hll]; exact hi), hsl, List.getElem?_map, h1]
        rfl
    · rw [List.getElem?_append_right (by rw [List.length_map]; omega), List.getElem?_replicate] at hv
      split at hv
      · cases hv
      · cases hv
end
section
/-! a contract out of a run of the abstract machine; by hand -/
theorem amBad_use {s : State} {args : Array Value} (h : ∀ w ∈ amBad, va_Nw w s) : ∀ w ∈ amBad, w.before args s = true := by
  unfold amBad at h ⊢
  simp only [List.forall_mem_cons] at h ⊢
  obtain ⟨h1, h2, h3, h4, h5, h6, h7⟩ := h
  exact ⟨va_Nw.use rfl h1, va_Nw.use rfl h2, va_Nw.use rfl h3, va_Nw.use rfl h4, va_Nw.use rfl h5, va_Nw.use rfl h6, fun w hw => absurd hw List.not_mem_nil⟩
theorem am_nc {s : State} (h : ∀ q ∈ amNcs, va_Nc q.1 q.2 s) {E E' : Nat} (h1 : E = 1 ∨ E = 2 ∨ E = 3) (h2 : E' = 1 ∨ E' = 2 ∨ E' = 3) (hne : E' ≠ E) : va_Nc (amX E) (amX E') s := by
  unfold amNcs at h
  simp only [List.forall_mem_cons] at h
  obtain ⟨a1, a2, a3, a4, a5, a6, -⟩ := h
  rcases h1 with rfl | rfl | rfl <;> rcases h2 with rfl | rfl | rfl
  · exact absurd rfl hne
  · exact a1
  · exact a2
  · exact a3
  · exact absurd rfl hne
  · exact a4
  · exact a5
  · exact a6
  · exact absurd rfl hne
theorem am_cat {k : Nat} (h : amCat k ≠ 0) : amCat k = 1 ∨ amCat k = 2 ∨ amCat k = 3 := by
  unfold amCat at h ⊢
  split <;> simp at h ⊢
theorem am_hand {M pc E : Nat} {r : amRow × List (List amEnt)} (hr : amAll[M]? = some r) : amHand M pc E = (r.1.2.2.2.2.2.1.find? fun z => decide (z.1 ≤ pc) && decide (pc < z.2.1) && decide (amCat z.2.2.2 = E)).map fun z => z.2.2.1 := by
  unfold amHand
  rw [am_rowOf hr]
  rfl
theorem am_hnd {M : Nat} {r : amRow × List (List amEnt)} (hr : amAll[M]? = some r) : ∀ z ∈ r.1.2.2.2.2.2.1, r.1.1 = 5 ∧ amCat z.2.2.2 ≠ 0 := by
  have h := amHndAll r (List.mem_of_getElem? hr)
  unfold amHndK at h
  intro z hz
  have h1 := List.all_eq_true.mp h z hz
  simp only [Bool.and_eq_true, decide_eq_true_eq] at h1
  exact h1
/-- a row of the table that doesn't take the thrown class -/
theorem am_pass {M pc E : Nat} {r : amRow × List (List amEnt)} {s : State} {args : Array Value} (hr : amAll[M]? = some r) (hts : ∀ w ∈ amTB, w.before args s = true) (hnc : ∀ q ∈ amNcs, va_Nc q.1 q.2 s) (hE : E = 1 ∨ E = 2 ∨ E = 3) {z : Nat × Nat × Nat × Nat} (hz : z ∈ r.1.2.2.2.2.2.1) (hn : ¬ (decide (z.1 ≤ pc) && decide (pc < z.2.1) && decide (amCat z.2.2.2 = E)) = true) : covers ⟨z.1, z.2.1, z.2.2.1, z.2.2.2⟩ pc = false ∨ (z.2.2.2 ≠ 0 ∧ ∃ nm : String, (Cond.classLink (amN r.1.1) z.2.2.2 nm).before args s = true ∧ va_Nc (amX E) nm s) := by
  obtain ⟨h5, hc⟩ := am_hnd hr z hz
  obtain ⟨g1, g2⟩ := amHl _ hc
  by_cases hcat : amCat z.2.2.2 = E
  · refine Or.inl ?_
    rw [hcat] at hn
    simpa [covers] using hn
  · refine Or.inr ⟨g2, amX (amCat z.2.2.2), ?_, am_nc hnc hE (am_cat hc) hcat⟩
    rw [h5]
    exact hts _ g1
theorem am_F {A : Nat → Prop} {s t : State} {H : Heap} {locs : List Loc} (hS : va_S A s.heap H locs) (h1 : H.size ≤ t.heap.size) (h2 : ∀ q : Nat, q < H.size → t.heap[q]? = H[q]?) : va_F A s t :=
  ⟨Nat.le_trans hS.1 h1, fun q hq hn => (h2 q (Nat.lt_of_lt_of_le hq hS.1)).trans (hS.2.1 q hq hn)⟩
set_option maxHeartbeats 4000000 in
set_option maxRecDepth 100000 in
theorem amMet_body {n : Nat} {l : Launch} (hfl : l.stackTraces = false) (IH : amSnd n) {M : Nat} {r : amRow × List (List amEnt)} (hr : amAll[M]? = some r) (htg : amTgtP r.1) {as cas : List Value} {hs : amH} {o : amOut} {σ : List Nat} {D : va_G} {ws : va_W} {sz b L : Nat} {xs : Nat → Int32} (h : amRun n M 0 (amEntry as r.1.2.2.2.1) [] hs 0 0 = some o) (hsr : amSR σ as cas) (hc : ∀ v ∈ as, v.category = 1) (hn : as.length ≤ r.1.2.2.2.1)
    {p : Program} {e : Env} {s : State} {m : MethodId} {args : Array Value} {below : List Frame} {meth : Method} {c : Code} {s₁ : State} {rm : Room} (hrm : rm = { frames := r.1.2.2.2.2.2.2.1, cells := o.2.2.1, slots := o.2.2.2, locals := r.1.2.2.2.2.2.2.2 }) (B : BodyLoose p l r.1.2.1 (headSpec (amCW r.1 :: amTB) rm) r.1.2.2.1 r.1.2.2.2.1 r.1.2.2.2.2.1 e s m args below meth c s₁) (hml : c.maxLocals = r.1.2.2.2.1) (htab : c.exceptionTable.toList = tableOf r.1.2.2.2.2.2.1) (hv : va_Pc cas (amIn0 D ws σ hs b L xs sz) args s) :
    W p l e rm s m args below meth c s.heap [] 0 0 (vx_MQ below (amQc D ws sz σ o b L xs) (amXC D ws sz σ o b L xs) args s o.2.2.1 o.2.2.2 (va_A ws sz)) (entryFrame m args r.1.2.2.2.1) := by
  obtain ⟨t1, t2, t3, t4, t5, t6⟩ := htg
  obtain ⟨rfl, hsz, hP, hK, hD, hWR, hs0, hσ0, hX, hbl, hbA, hamb⟩ := hv
  have hts0 := atoms_spec (ws := amCW r.1 :: amTB) B.pre
  have hts : ∀ w ∈ amTB, w.before cas.toArray s = true := fun w hw => hts0 w (List.mem_cons_of_mem _ hw)
  have hown : s.vm.findClass (amN r.1.1) = some m.cls := by rw [← t3]; exact findClass_of_methodNamed B.named
  subst hsz
  rw [lg_entry_eq]
  have F : amFr p l s m cas.toArray meth c r.1 D (va_A ws s.heap.size) b L xs := ⟨B.exec, B.bytes, hml, hown, hts, B.returns, B.notSynchronized, htab, fun q => (name_of_methodNamed B.named B.method).1.trans q, hK, hX, hbl, hbA, fun q h => Or.inr h, hamb, hfl⟩
  have hlocks := B.notSynchronized
  have hx := B.exec
  have hb := B.bytes
  have hret := B.returns
  subst hrm
  obtain ⟨z1, z2, z3, z4, z5, z6, z7⟩ := id hamb
  refine IH p l e _ s m _ below meth c _ D (va_A ws s.heap.size) b L xs M r F hr (Nat.le_refl _) (Nat.le_refl _) 0 _ [] hs 0 0 o h σ ws s.heap [] _ [] ⟨hP, hD.self, va_S.rf, hWR, hs0, hσ0⟩ (am_entry hsr hc hn) trivial (Nat.le_refl _) (Nat.le_refl _) ⟨?_, ?_, ?_⟩
  · intro v hv pc' σ' ws' H' locs' cls' cst' he Y hst hsz hri
    obtain ⟨y1, y2, y3, y4, y5, y6⟩ := id Y
    obtain ⟨i, len, x, hf, hm⟩ := hri
    have hd := amFetch_dec hr hf
    have hck := amFetch_chk hr hf
    have hq : ∀ cv : Option Value, amSR σ' v.toList cv.toList → ∀ t : State, t.heap = H' → s.WarmedH t.vm → amQc D ws s.heap.size σ o b L xs cas.toArray s (.returned cv) t := fun cv hcv t ht hW => ⟨⟨v, cv, σ', ws', hv, rfl, hcv, he, by rw [ht]; exact y1, y2, amWR_moved hW.alike y4, y5, y6⟩, y3.F ht⟩
    cases v with
    | none =>
      have hc0 := amSR_nil hst
      subst hc0
      have hm2 : i = .return_ := hm
      subst hm2
      simp only [amChk, Bool.and_eq_true, decide_eq_true_eq] at hck
      obtain ⟨rfl, hck⟩ := hck
      have hrn : meth.sig.returnType = none := by
        rw [hret]
        split at hck
        · assumption
        · cases hck
      exact vx_ret (W.vret hx hb hrn (hq none trivial) y3.2.2 hd hlocks)
    | some v =>
      cases v with
      | int k =>
        obtain ⟨rfl, hok⟩ : i = .ireturn ∧ amRetOk M k = true := hm
        simp only [amChk, decide_eq_true_eq] at hck
        subst hck
        obtain ⟨c2, rfl, h2⟩ := amSR_int (x := k) (st := []) hst
        have h3 := amSR_nil h2
        subst h3
        unfold amRetOk at hok
        rw [am_rowOf hr] at hok
        simp only [Option.bind_some] at hok
        split at hok
        · rename_i ty hty
          exact vx_ret (W.zret hx hb (by rw [hret]; exact hty) (of_decide_eq_true hok) (hq (some (.int k)) ⟨rfl, trivial⟩) y3.2.2 hd hlocks)
        · cases hok
      | ref k =>
        have hm2 : i = .areturn := hm
        subst hm2
        simp only [amChk, Bool.and_eq_true, decide_eq_true_eq] at hck
        obtain ⟨rfl, hck⟩ := hck
        obtain ⟨a, c2, rfl, ha, h2⟩ := amSR_ref (k := k) (st := []) hst
        have h3 := amSR_nil h2
        subst h3
        split at hck
        · rename_i nm hty
          exact vx_ret (W.aret (rt := .object nm) hx hb (by rw [hret]; exact hty) (Or.inl ⟨_, rfl⟩) (Or.inr ⟨a, rfl⟩) (hq (some (.ref a)) ⟨⟨a, ha, rfl⟩, trivial⟩) y3.2.2 hd hlocks)
        · cases hck
      | _ => exact absurd hm id
  · intro E hE pc' σ' ws' H' locs' cls' cst' c' sl' k len x he Y hf hx1 hxE hsum hsz hc' hsl'
    obtain ⟨y1, y2, y3, y4, y5, y6⟩ := id Y
    have hd := amFetch_dec hr hf
    have hck := amFetch_chk hr hf
    have hth := amFetch_thr hr hf
    simp only [amChk, Bool.and_eq_true, decide_eq_true_eq] at hck
    obtain ⟨rfl, -⟩ := hck
    simp only [amThrChk, hx1, decide_true, Bool.not_true, Bool.false_or, Bool.and_eq_true, decide_eq_true_eq] at hth
    obtain ⟨⟨⟨⟨⟨⟨⟨⟨d3, d4⟩, d6⟩, d9⟩, h3⟩, hh⟩, hmem⟩, hrf⟩, hrl⟩ := hth
    rw [hxE] at hmem
    obtain ⟨g1, g2, ⟨tx, g3⟩, g4, g5, g6, g7, g8⟩ := amThrOk _ hmem
    obtain ⟨sa, hsa⟩ := z3 _ g3
    have hown3 : s.vm.findClass RX3 = some m.cls := by
      have h9 := hown
      rw [h3] at h9
      exact h9
    refine vx_throwS hx hb hfl (names := amNames) (A := va_A ws s.heap.size) hown3 g7 amNames_ok (hts _ g1) (hts _ g2) hsa (vx_hat (B := amBad) (fun w hw => hts w (g4 w hw)) g5 (amBad_use z7)) g6 z1 z2 y3 (by rw [hml]; exact hsz) hd (by rw [← hb] at d3; rw [← hb]; exact d3) (by rw [← hb] at d4; rw [← hb]; exact d4) (by rw [← hb] at d6; rw [← hb]; exact d6) (by rw [← hb] at d9; rw [← hb]; exact d9) (by rw [htab, hh]; intro q hq; cases hq) ?_ ?_ ?_ ?_ hlocks ?_ y3.2.2 (by omega) (by omega)
    · show 2 + 3 < r.1.2.2.2.2.2.2.1
      omega
    · show _ + (13 * (2 + 1) + 43) ≤ r.1.2.2.2.2.2.2.2
      omega
    · show c' + 1 ≤ o.2.2.1
      omega
    · show sl' + 6 ≤ o.2.2.2
      omega
    · intro t hal hs1 hs2
      exact ⟨⟨E, σ', ws', hE, rfl, g8, he, y1.kept (fun k2 q2 hq2 => hs2 _ (y1 k2 q2 hq2).lt), y2, amWR_moved hal y4, y5, y6⟩, am_F y3 hs1 hs2⟩
  · intro E hE hE3 pc' σ' ws' H' locs' cls' cst' q ce he Y hh hq hvm hcl
    obtain ⟨y1, y2, y3, y4, y5, y6⟩ := id Y
    rw [am_hand hr, Option.map_eq_none_iff, List.find?_eq_none] at hh
    refine vx_outP hown hlocks ?_ hq hvm hcl ?_ y3.2.2 (Nat.le_refl _) (Nat.le_refl _)
    · rw [htab]
      intro z hz
      obtain ⟨z0, hz0, rfl⟩ := List.mem_map.mp hz
      exact am_pass hr hts z4 hE3 hz0 (hh z0 hz0)
    · intro t ht hal
      exact ⟨⟨E, σ', ws', hE, rfl, hE3, he, by rw [ht]; exact y1, y2, amWR_moved hal y4, y5, y6⟩, y3.F ht⟩
theorem amMet_mk {n : Nat} {l : Launch} (hfl : l.stackTraces = false) (IH : amSnd n) {M : Nat} {r : amRow × List (List amEnt)} (hr : amAll[M]? = some r) (htg : amTgtP r.1) {as cas : List Value} {hs : amH} {o : amOut} {σ : List Nat} {D : va_G} {ws : va_W} {sz b L : Nat} {xs : Nat → Int32} (h : amRun n M 0 (amEntry as r.1.2.2.2.1) [] hs 0 0 = some o) (hsr : amSR σ as cas) (hc : ∀ v ∈ as, v.category = 1) (hn : as.length ≤ r.1.2.2.2.1) : amMet l r.1 o D ws sz σ hs b L xs cas := by
  unfold amMet
  cases hh : r.1.2.2.2.2.2.1 with
  | nil =>
    refine vx_ofW (cc := r.1.2.2.1) (maxL := r.1.2.2.2.1) (ret := r.1.2.2.2.2.1) htg.2.2.2.1 (ws' := amTB) (by unfold amCW; rw [hh]) ?_
    intro p e s m args below meth c s₁ B hml ht hv
    exact amMet_body hfl IH hr htg h hsr hc hn rfl B hml (by rw [hh]; exact List.eq_nil_iff_forall_not_mem.mpr ht) hv
  | cons z zs =>
    have hcw : amCW r.1 = Cond.codeWith r.1.2.1 r.1.2.2.1 r.1.2.2.2.1 r.1.2.2.2.2.1 (z :: zs) := by unfold amCW; rw [hh]
    refine vx_ofWH (cc := r.1.2.2.1) (maxL := r.1.2.2.2.1) (ret := r.1.2.2.2.2.1) (hh := z :: zs) htg.2.2.2.1 (ws' := amTB) (by rw [hcw]) ?_
    intro p e s m args below meth c s₁ B hml hv
    have h9 : (amCW r.1).before args s = true := atoms_spec (ws := amCW r.1 :: amTB) B.pre _ List.mem_cons_self
    rw [hcw] at h9
    exact amMet_body hfl IH hr htg h hsr hc hn rfl B hml (by rw [hh]; exact vx_table (x := r.1.2.1) B h9) hv
end
section
/-! runs with calls; by hand -/
theorem amSR_append {σ : List Nat} : ∀ {a ca b cb : List Value}, amSR σ a ca → amSR σ b cb → amSR σ (a ++ b) (ca ++ cb)
  | [], [], _, _, _, h => h
  | v :: a, w :: ca, _, _, h, h2 => ⟨h.1, amSR_append h.2 h2⟩
  | [], _ :: _, _, _, h, _ => absurd h id
  | _ :: _, [], _, _, h, _ => absurd h id
theorem amBack_ge {n M : Nat} {x : amRes} {pc : Nat} {ls : amL} {rest : List Value} {c s : Nat} {o1 o : amOut} (h : amBack (amRun n) M x pc ls rest c s (some o1) = some o) : c + o1.2.2.1 ≤ o.2.2.1 ∧ s + o1.2.2.2 ≤ o.2.2.2 := by
  obtain ⟨res, hs1, dc, ds⟩ := o1
  cases res with
  | inl v =>
    simp only [amBack] at h
    exact amRun_mono _ _ _ _ _ _ _ _ _ h
  | inr E =>
    simp only [amBack] at h
    split at h
    · cases h
    · split at h
      · cases h; exact ⟨Nat.le_refl _, Nat.le_refl _⟩
      · split at h
        · exact amRun_mono _ _ _ _ _ _ _ _ _ h
        · exact amRun_mono _ _ _ _ _ _ _ _ _ h
        · cases h
theorem am_part {A : Nat → Prop} {ws : va_W} {s : State} {H : Heap} {locs : List Loc} (hD : va_D A ws) (hS : va_S A s.heap H locs) (hA : ∀ q, s.heap.size ≤ q → A q) : ∀ q, va_A ws H.size q → A q := by
  intro q h
  rcases h with ⟨k, e, h⟩ | h
  · exact hD.2 k (q, e) h
  · exact hA q (Nat.le_trans hS.1 h)
theorem amIn0_blind {D : va_G} {ws : va_W} {σ : List Nat} {hs : amH} {b L : Nat} {xs : Nat → Int32} {sz : Nat} {cas : List Value} : FrameBlind (va_Pc cas (amIn0 D ws σ hs b L xs sz)) := by
  intro a U g mk h
  obtain ⟨q0, q1, q2, q3, q4, q5, q6, q7, q8, q9, q10, q11⟩ := h
  exact ⟨q0, q1, q2, va_K.moved (u := U) (U := U.calling g mk a) (Vm.Alike.refl U.vm) q3, q4, amWR_moved (s := U) (U := U.calling g mk a) (Vm.Alike.refl U.vm) q5, q6, q7, va_X.moved (u := U) (U := U.calling g mk a) (Vm.Alike.refl U.vm) q8, q9, q10, amAmb_use (U := U.calling g mk a) q11 va_S.rf (fun _ h => h) rfl (State.WarmedH.refl U)⟩
theorem amIn0_at {p : Program} {l : Launch} {s : State} {m : MethodId} {args : Array Value} {meth : Method} {cd : Code} {r : amRow} {D : va_G} {A : Nat → Prop} {b L : Nat} {xs : Nat → Int32} {σ : List Nat} {hs : amH} {ws : va_W} {H : Heap} {locs : List Loc} (F : amFr p l s m args meth cd r D A b L xs) (Y : amDy s D A σ hs ws H locs b L xs) {U : State} (hU : U.heap = H) (hW : s.WarmedH U.vm) : amIn0 D ws σ hs b L xs H.size U := by
  obtain ⟨hx, hb, hml, hown, hts, hret, hlocks, htab, hinit, hK, hX, hbl, hbA, hA, hamb, hfl⟩ := F
  obtain ⟨hP, hD, hS, hWR, hs0, hσ0⟩ := Y
  have hAA := am_part hD hS hA
  refine ⟨by rw [hU], by rw [hU]; exact hP, va_K.moved hW.alike hK, hD.weaken (fun _ _ _ _ => trivial), amWR_moved hW.alike hWR, hs0, hσ0, ?_, ?_, fun h => hbA (hAA b h), amAmb_use hamb hS hAA hU hW⟩
  · rw [hU]; exact va_X.moved hW.alike (hX.kept (hS.2.1 b hbl hbA))
  · rw [hU]; exact Nat.lt_of_lt_of_le hbl hS.1
set_option maxHeartbeats 4000000 in
theorem am_after {n : Nat} (IH : amSnd n) {p : Program} {l : Launch} {e : Env} {R : Room} {s : State} {m : MethodId} {args : Array Value} {below : List Frame} {meth : Method} {cd : Code} {H : Heap} {locs : List Loc} {Q : State → Prop} {D : va_G} {A : Nat → Prop} {b L : Nat} {xs : Nat → Int32} {M : Nat} {r : amRow × List (List amEnt)} {σ : List Nat} {ws : va_W} {cls : Array Slot} {cst crest cas : List Value} {x : amRes} {pc c sl : Nat} {ls : amL} {rest : List Value} {hs : amH} {o o1 : amOut}
    (F : amFr p l s m args meth cd r.1 D A b L xs) (hr : amAll[M]? = some r) (hRf : r.1.2.2.2.2.2.2.1 ≤ R.frames) (hRl : r.1.2.2.2.2.2.2.2 ≤ R.locals) (Y : amDy s D A σ hs ws H locs b L xs) (hl : amLR σ ls r.1.2.2.2.1 cls) (hrest : amSR σ rest crest) (hRc : o.2.2.1 ≤ R.cells) (hRs : o.2.2.2 ≤ R.slots) (h : amBack (amRun n) M x pc ls rest c sl (some o1) = some o)
    (K : amK p l e R s m args below meth cd Q D A b L xs M r.1.2.2.2.1 σ o)
    (hrun : vx_Run p l e R s m args below meth cd H locs c sl o1.2.2.1 o1.2.2.2 (F0 m pc cls cst) crest (amQc D ws H.size σ o1 b L xs cas.toArray) (amXC D ws H.size σ o1 b L xs) (va_A ws H.size)) : W p l e R s m args below meth cd H locs c sl Q (F0 m pc cls cst) := by
  obtain ⟨hx, hb, hml, hown, hts, hret, hlocks, htab, hinit, hK, hX, hbl, hbA, hA, hamb, hfl⟩ := id F
  obtain ⟨hP, hD, hS, hWR, hs0, hσ0⟩ := id Y
  obtain ⟨z1, z2, z3, z4, z5, z6, z7⟩ := id hamb
  have hAA := am_part hD hS hA
  obtain ⟨res, hs1, dc, ds⟩ := o1
  intro T hT X
  rcases hrun T hT X with ⟨v, st₀, t, T', L9, h0, X', hL, e1, e2, ⟨⟨v1, cv, σ', ws', hv, hcv, hsr', hend⟩, hF⟩, st⟩ | ⟨q, st₀, t, T', L9, E', ce, h0, X', hL, e1, e2, ⟨⟨E, σ', ws', hE, rfl, hE3, hend⟩, hF⟩, hce, hvm, hcl, st⟩
  · cases hcv
    have hv2 : res = .inl v1 := hv
    subst hv2
    simp only [amBack] at h
    obtain ⟨he, P1, D1, W1, s1, σ1⟩ := hend
    obtain ⟨k1, k2, k3⟩ := vx_keep h0 e1 hS (fun q _ z => hAA q z) hAA hL hF
    have hal : s.vm.Alike t.vm := by rw [← e2]; exact X'.warmed.alike
    have Y' : amDy s D A σ' hs1 ws' T'.heap (locs ++ L9) b L xs := ⟨by rw [e1]; exact P1, D1.weaken (fun _ q _ z => hAA q.1 z), k3, amWR_moved hal.symm W1, s1, σ1⟩
    have W2 := IH p l e R s m args below meth cd Q D A b L xs M r F hr hRf hRl _ _ _ _ _ _ _ h σ' ws' T'.heap (locs ++ L9) cls (v.toList ++ crest) Y' (amLR_mono he hl) (amSR_append hsr' (amSR_mono he hrest)) hRc hRs (amK_mono he K)
    obtain ⟨t2, a1, b1⟩ := W2 T' rfl X'
    exact ⟨t2, st t2 a1, b1⟩
  · have hv2 : res = .inr E := hE
    subst hv2
    obtain ⟨he, P1, D1, W1, s1, σ1⟩ := hend
    obtain ⟨k1, k2, k3⟩ := vx_keep h0 e1 hS (fun q _ z => hAA q z) hAA hL hF
    have hal : s.vm.Alike t.vm := by rw [← e2]; exact X'.warmed.alike
    have Y' : amDy s D A σ' hs1 ws' T'.heap (locs ++ L9) b L xs := ⟨by rw [e1]; exact P1, D1.weaken (fun _ q _ z => hAA q.1 z), k3, amWR_moved hal.symm W1, s1, σ1⟩
    have hce' : T'.heap[q]? = some ce := by rw [e1]; exact hce
    have W2 : vx_W p l e R s m args below meth cd T'.heap (locs ++ L9) (c + dc) (sl + ds) Q (F0 m pc cls crest) q := by
      simp only [amBack] at h
      split at h
      · cases h
      · cases hh : amHand M pc E with
        | none =>
          rw [hh] at h
          cases h
          exact K.2.2 E rfl hE3 pc σ' ws' T'.heap (locs ++ L9) cls crest q ce he Y' hh hce' hvm hcl
        | some hp =>
          rw [hh] at h
          rw [am_hand hr, Option.map_eq_some_iff] at hh
          obtain ⟨z, hz, rfl⟩ := hh
          obtain ⟨hpz, pre, suf, hspl, hpre⟩ := List.find?_eq_some_iff_append.mp hz
          simp only [Bool.and_eq_true, decide_eq_true_eq] at hpz
          obtain ⟨⟨c1, c2⟩, c3⟩ := hpz
          have hzm : z ∈ r.1.2.2.2.2.2.1 := by rw [hspl]; exact List.mem_append_right _ List.mem_cons_self
          obtain ⟨w5, w6⟩ := am_hnd hr z hzm
          obtain ⟨w7, w8⟩ := amHl _ w6
          rw [c3] at w7
          refine vx_catch (name := amX E) hown (pre.map fun q => (⟨q.1, q.2.1, q.2.2.1, q.2.2.2⟩ : ExceptionTableEntry)) ⟨z.1, z.2.1, z.2.2.1, z.2.2.2⟩ (suf.map fun q => (⟨q.1, q.2.1, q.2.2.1, q.2.2.2⟩ : ExceptionTableEntry)) ?_ ?_ (by simp [covers, c1, c2]) w8 (by rw [w5]; exact hts _ w7) ?_ hce' hvm hcl ?_
          · rw [htab, hspl]
            unfold tableOf
            rw [List.map_append, List.map_cons]
          · intro y hy
            obtain ⟨y0, hy0, rfl⟩ := List.mem_map.mp hy
            have hn := hpre y0 hy0
            refine am_pass hr hts z4 hE3 (by rw [hspl]; exact List.mem_append_left _ hy0) ?_
            intro hcon
            rw [hcon] at hn
            cases hn
          · rcases hE3 with rfl | rfl | rfl
            · exact amBad_use z7 _ (List.mem_cons_self)
            · exact amBad_use z7 _ (List.mem_cons_of_mem _ List.mem_cons_self)
            · exact amBad_use z7 _ (List.mem_cons_of_mem _ (List.mem_cons_of_mem _ List.mem_cons_self))
          · show W p l e R s m args below meth cd T'.heap (locs ++ L9) (c + dc) (sl + ds) Q (F0 m z.2.2.1 cls [.ref q])
            dsimp only at h
            split at h
            · rename_i k w hf
              obtain ⟨len, y⟩ := w
              have hd := amFetch_dec hr hf
              have hck := amFetch_chk hr hf
              simp only [amChk, Bool.and_eq_true, decide_eq_true_eq] at hck
              obtain ⟨rfl, hck⟩ := hck
              obtain ⟨ls2, f1, f2⟩ := amLR_none (w := .ref q) (amLR_mono he hl) hck rfl
              exact aw_astore hx hb hd f1 (IH p l e R s m args below meth cd Q D A b L xs M r F hr hRf hRl _ _ _ _ _ _ _ h σ' ws' T'.heap (locs ++ L9) ls2 [] Y' f2 trivial hRc hRs (amK_mono he K))
            · rename_i k w hf
              obtain ⟨len, y⟩ := w
              have hd := amFetch_dec hr hf
              have hck := amFetch_chk hr hf
              simp only [amChk, Bool.and_eq_true, decide_eq_true_eq] at hck
              obtain ⟨rfl, hck⟩ := hck
              obtain ⟨ls2, f1, f2⟩ := amLR_none (w := .ref q) (amLR_mono he hl) hck rfl
              exact aw_astore_n hx hb hd f1 (IH p l e R s m args below meth cd Q D A b L xs M r F hr hRf hRl _ _ _ _ _ _ _ h σ' ws' T'.heap (locs ++ L9) ls2 [] Y' f2 trivial hRc hRs (amK_mono he K))
            · cases h
    obtain ⟨t2, a1, b1⟩ := W2 T' rfl X'
    exact ⟨t2, st.trans a1, b1⟩
theorem am_runOf {p : Program} {l : Launch} {e : Env} {R : Room} {s : State} {m : MethodId} {args : Array Value} {below : List Frame} {meth : Method} {c : Code} {H : Heap} {locs : List Loc} {cells slots mc ms : Nat} {g : JFrame} {rest : List Value} {Qa : State → Outcome → State → Prop} {XC : String → State → State → Prop} {free : Addr → Prop} (h : va_Run p l e R s m args below meth c H locs cells slots mc ms g rest Qa free) : vx_Run p l e R s m args below meth c H locs cells slots mc ms g rest Qa XC free := fun T hT X => Or.inl (h T hT X)
theorem am_metRet {l : Launch} {y : MethodName} {wds : List Cond} {rm : Room} {Pc : Array Value → State → Prop} {mc ms : Nat} {free : Addr → Prop} {D : va_G} {ws : va_W} {sz : Nat} {σ : List Nat} {o : amOut} {b L : Nat} {xs : Nat → Int32} {v : Option Value} (hv : o.1 = .inl v) (h : vx_Met l y wds rm Pc (amQc D ws sz σ o b L xs) (amXC D ws sz σ o b L xs) mc ms free) : Met l y wds rm Pc (amQc D ws sz σ o b L xs) mc ms free := by
  intro p e ha hc hk s m args below hf happ hP hK
  obtain ⟨n, oc, h1, h2, h3, h4⟩ := h p e ha hc hk s m args below hf happ hP hK
  refine ⟨n, oc, h1, h2, h3, ?_⟩
  rcases h4 with h4 | ⟨q, -, E, ce, L9, ⟨⟨E', σ', ws', hE, -⟩, -⟩, -⟩
  · exact h4
  · rw [hv] at hE
    cases hE
theorem am_room {r : amRow} {tg : Nat} {rt : amRow × List (List amEnt)} (hrt : amAll[tg]? = some rt) (htl : tg < 155) (h : amRoomOk r tg = true) : rt.1.2.2.2.2.2.2.1 + 1 ≤ r.2.2.2.2.2.2.1 ∧ 8 + (rt.1.2.2.2.1 + 11) + rt.1.2.2.2.2.2.2.2 ≤ r.2.2.2.2.2.2.2 := by
  unfold amRoomOk at h
  rw [amRmAll tg htl rt hrt] at h
  simp only [Bool.and_eq_true, decide_eq_true_eq] at h
  exact h
theorem am_allLen : amAll.length = 155 := by decide +kernel
theorem am_lt {tg : Nat} {rt : amRow × List (List amEnt)} (h : amAll[tg]? = some rt) : tg < 155 := by
  have h1 := (List.getElem?_eq_some_iff.mp h).1
  rw [am_allLen] at h1
  exact h1
end
section
/-! THE ABSTRACT MACHINE IS SOUND: what it answers, the machine does; by hand -/
set_option maxHeartbeats 4000000 in
theorem amCall_ok {n : Nat} (IH : amSnd n) {p : Program} {l : Launch} {e : Env} {R : Room} {s : State} {m : MethodId} {args : Array Value} {below : List Frame} {meth : Method} {cd : Code} {H : Heap} {locs : List Loc} {Q : State → Prop} {D : va_G} {A : Nat → Prop} {b L : Nat} {xs : Nat → Int32} {M : Nat} {r : amRow × List (List amEnt)} {σ : List Nat} {ws : va_W} {cls : Array Slot} {cst : List Value} {x : amRes} {pc c sl : Nat} {ls : amL} {st : List Value} {hs : amH} {o : amOut} {k : Nat}
    (F : amFr p l s m args meth cd r.1 D A b L xs) (hr : amAll[M]? = some r) (hRf : r.1.2.2.2.2.2.2.1 ≤ R.frames) (hRl : r.1.2.2.2.2.2.2.2 ≤ R.locals) (Y : amDy s D A σ hs ws H locs b L xs) (hl : amLR σ ls r.1.2.2.2.1 cls) (hst : amSR σ st cst) (hRc : o.2.2.1 ≤ R.cells) (hRs : o.2.2.2 ≤ R.slots) (h : amCall (amRun n) M x pc ls st hs c sl = some o)
    (K : amK p l e R s m args below meth cd Q D A b L xs M r.1.2.2.2.1 σ o) (hx0 : 0 ≤ x.2.2) (hlk : (r.1.1, k, x.1, x.2.1, x.2.2.toNat) ∈ amLnkL) (hro : amRoomOk r.1 x.2.1 = true)
    (hins : (x.1 = 0 ∧ decode r.1.2.2.1 pc = .ok (.invokevirtual k, 3)) ∨ ((x.1 = 1 ∨ x.1 = 2) ∧ decode r.1.2.2.1 pc = .ok (.invokestatic k, 3)) ∨ (x.1 = 3 ∧ decode r.1.2.2.1 pc = .ok (.invokespecial k, 3))) : W p l e R s m args below meth cd H locs c sl Q (F0 m pc cls cst) := by
  obtain ⟨hx, hb, hml, hown, hts, hret, hlocks, htab, hinit, hK, hX, hbl, hbA, hA, hamb, hfl⟩ := id F
  obtain ⟨hP, hD, hS, hWR, hs0, hσ0⟩ := id Y
  obtain ⟨z1, z2, z3, z4, z5, z6, z7⟩ := id hamb
  unfold amCall at h
  split at h
  · cases h
  · rename_i ow mL how
    obtain ⟨rt, hrt, rfl, rfl⟩ := am_own how
    split at h
    · cases h
    · rename_i as rest has
      obtain ⟨rfl, hlen, hcat, hsum, hthis⟩ := am_args has
      split at h
      · rename_i hle
        cases hq : amRun n x.2.1 0 (amEntry as rt.1.2.2.2.1) [] hs 0 0 with
        | none => rw [hq] at h; simp [amBack] at h
        | some o1 =>
          rw [hq] at h
          obtain ⟨ca, crest, rfl, hca, hrest⟩ := amSR_app hst
          obtain ⟨cas, rfl⟩ : ∃ z, ca = z.reverse := ⟨ca.reverse, by rw [List.reverse_reverse]⟩
          have hcas : amSR σ as cas := by
            have h9 := amSR_rev hca
            rw [List.reverse_reverse, List.reverse_reverse] at h9
            exact h9
          obtain ⟨hpn, htg, hkd⟩ := amLnkOk _ hlk rt hrt
          obtain ⟨t1, t2, t3, t4, t5, t6⟩ := id htg
          have hM := amMet_mk (D := D) (ws := ws) (sz := H.size) (b := b) (L := L) (xs := xs) hfl IH hrt htg hq hcas hcat hle
          have hroom := am_room hrt (am_lt hrt) hro
          have hge := amBack_ge h
          have hfits : c + o1.2.2.1 ≤ R.cells ∧ sl + o1.2.2.2 ≤ R.slots := ⟨by omega, by omega⟩
          have hcs : (crest.map fun v => v.category).sum ≤ 8 := by rw [amSR_sum hrest]; exact hsum
          have hwd : ∀ w ∈ amCW rt.1 :: amTB, w ∈ amTB := fun w hw => (List.mem_cons.mp hw).elim (fun q => by rw [q]; exact t1) id
          have hclen := amSR_len hcas
          have SF : CallFix p m cd r.1.2.2.1 r.1.2.2.2.1 s args amTB (amN r.1.1) := ⟨hx, hb, hml, hown, hts⟩
          have hpre : ∀ U : State, U.heap = H → s.WarmedH U.vm → va_Pc cas (amIn0 D ws σ hs b L xs H.size) cas.toArray U := fun U hU hW => ⟨rfl, amIn0_at F Y hU hW⟩
          have hRR : rt.1.2.2.2.2.2.2.1 + 1 ≤ R.frames ∧ 8 + (rt.1.2.2.2.1 + 11) + rt.1.2.2.2.2.2.2.2 ≤ R.locals := ⟨by omega, by omega⟩
          have hcode : rt.1.2.2.2.2.2.1 = [] → amCW rt.1 = Cond.code rt.1.2.1 rt.1.2.2.1 rt.1.2.2.2.1 rt.1.2.2.2.2.1 := fun q => by unfold amCW; rw [q]
          refine am_after IH F hr hRf hRl Y hl hrest hRc hRs h K (cas := cas) ?_
          rcases hins with ⟨hk0, hd⟩ | ⟨hk12, hd⟩ | ⟨hk3, hd⟩
          · -- virtual
            obtain ⟨a, fs, as2, rfl, hcell⟩ := hthis (Or.inl hk0)
            obtain ⟨a1, cas2, rfl, ha, hcas2⟩ := amSR_ref hcas
            have h0 : a ≠ 0 := fun z => by rw [z, hs0] at hcell; cases hcell
            obtain ⟨e1, hw, fs', rfl, -⟩ := amWR_get hWR hcell h0 ha
            simp only [hk0] at hkd
            obtain ⟨w1, w2, w3, w4, w5⟩ := hkd
            have hn : as2.length = x.2.2.toNat := by
              rw [if_pos (Or.inl hk0)] at hlen
              simpa using hlen
            have hrecv := va_recv hK hP (amCl_at _ w4) hw
            refine vx_runV (As := cas2) (rest := crest) SF (ret := rt.1.2.2.2.2.1) hM (cwV x.2.2.toNat hts (amGood ?_) (by rw [hcode w5]) rfl rfl ⟨t3, t5.1, t5.2, hpn⟩ hRR) ⟨amIn0_blind, hrecv, hpre⟩ rfl ?_ hl.1 ?_ ?_ hd hfits
            · intro w hw
              unfold wsV at hw
              rcases List.mem_append.mp hw with hw | hw
              · simp only [List.mem_cons, List.not_mem_nil, or_false] at hw
                rcases hw with rfl | rfl | rfl | rfl
                · exact w1
                · exact w2
                · rw [t3] at w3; exact w3
                · rw [t3] at t2; exact t2
              · exact hwd w hw
            · rw [amSR_len hcas2]; exact hn
            · simp
            · show 2 * 0 + _ ≤ 8
              omega
          · -- static
            have hno : ¬ (x.1 = 0 ∨ x.1 = 3) := by omega
            rw [if_neg hno] at hlen
            have hn : cas.length = x.2.2.toNat := by rw [hclen]; exact hlen
            rcases hk12 with hk1 | hk2
            · simp only [hk1] at hkd
              obtain ⟨w1, w2⟩ := hkd
              cases hh : rt.1.2.2.2.2.2.1 with
              | nil =>
                refine vx_runS (As := cas) (rest := crest) SF (ret := rt.1.2.2.2.2.1) hM ⟨callB_of x.2.2.toNat hts (amGood hwd) (by rw [hcode hh]) rfl rfl (hts _ t2) (hts _ w1) ⟨t5.1, t5.2, hpn⟩ hRR, hts _ w2⟩ ⟨amIn0_blind, hpre⟩ rfl hn hl.1 rfl ?_ hd hfits
                show 2 * 0 + _ ≤ 8
                omega
              | cons z zs =>
                have hcw : amCW rt.1 = Cond.codeWith rt.1.2.1 rt.1.2.2.1 rt.1.2.2.2.1 rt.1.2.2.2.2.1 (z :: zs) := by unfold amCW; rw [hh]
                refine vx_runSX (As := cas) (rest := crest) SF hM (vx_cwSW x.2.2.toNat hts (amGood ?_) (by rw [hcw]) rfl rfl ⟨t5.1, t5.2, hpn⟩ hRR) ⟨amIn0_blind, hpre⟩ rfl hn hl.1 rfl ?_ hd hfits
                · intro w hw
                  unfold va_wsS at hw
                  rcases List.mem_append.mp hw with hw | hw
                  · simp only [List.mem_cons, List.not_mem_nil, or_false] at hw
                    rcases hw with rfl | rfl | rfl
                    · exact w1
                    · exact w2
                    · exact t2
                  · exact hwd w hw
                · show 2 * 0 + _ ≤ 8
                  omega
            · simp only [hk2] at hkd
              obtain ⟨w1, w2, w5⟩ := hkd
              obtain ⟨res, hs1, dc, ds⟩ := o1
              cases res with
              | inr E => simp [amBack, hk2] at h
              | inl v =>
                refine am_runOf (va_runSN (As := cas) (rest := crest) SF (ret := rt.1.2.2.2.2.1) (am_metRet rfl hM) ⟨va_cnB x.2.2.toNat hts (amGood hwd) (by rw [hcode w5]) rfl rfl (z5 _ w1) (hts _ t2) ⟨t5.1, t5.2, hpn⟩ hRR, hts _ w2, trivial⟩ ⟨amIn0_blind, hpre⟩ rfl hn hl.1 rfl ?_ hd hfits)
                show 2 * 0 + _ ≤ 8
                omega
          · -- constructor
            obtain ⟨a, fs, as2, rfl, hcell⟩ := hthis (Or.inr hk3)
            obtain ⟨a1, cas2, rfl, ha, hcas2⟩ := amSR_ref hcas
            simp only [hk3] at hkd
            obtain ⟨w1, w2, w3, w4, w5, w6⟩ := hkd
            have hn : as2.length = x.2.2.toNat := by
              rw [if_pos (Or.inr hk3)] at hlen
              simpa using hlen
            obtain ⟨res, hs1, dc, ds⟩ := o1
            cases res with
            | inr E => simp [amBack, hk3] at h
            | inl v =>
              refine am_runOf (va_runI (As := cas2) (rest := crest) SF (am_metRet rfl hM) (cwI (bytes := rt.1.2.2.1) (maxL := rt.1.2.2.2.1) x.2.2.toNat hts (amGood hwd) (by rw [hcode w5, w4]) rfl rfl (hts _ t2) (hts _ w1) (hts _ w2) w3 ⟨t5.1, t5.2, hpn⟩ hRR) ⟨amIn0_blind, hpre⟩ rfl ?_ hl.1 ?_ ?_ hd hfits)
              · rw [amSR_len hcas2]; exact hn
              · simp
              · show 2 * 0 + _ ≤ 8
                omega
      · cases h
theorem amSR_def {σ : List Nat} (ci : Nat) : amSR σ (amDef ci) (amDef ci) := by
  unfold amDef
  split <;> simp [amSR, amVR]
theorem amDy_push {s : State} {D : va_G} {A : Nat → Prop} {σ : List Nat} {hs : amH} {ws : va_W} {H H1 : Heap} {locs locs1 : List Loc} {b L : Nat} {xs : Nat → Int32} (Y : amDy s D A σ hs ws H locs b L xs) {a : Nat} {c : amC} {e : va_E} (hc : amCR s (σ ++ [a]) c e) (hP : va_P D vwCl (ws ++ [(a, e)]) H1) (hD : va_D A (ws ++ [(a, e)])) (hS : va_S A s.heap H1 locs1) : amDy s D A (σ ++ [a]) (hs ++ [c]) (ws ++ [(a, e)]) H1 locs1 b L xs := by
  obtain ⟨y1, y2, y3, y4, y5, y6⟩ := Y
  exact ⟨hP, hD, hS, amWR_push y4 hc, by rw [List.getElem?_append_left (List.getElem?_eq_some_iff.mp y5).1]; exact y5, amExt_push _ _ y6⟩
theorem am_top {s : State} {σ : List Nat} {hs : amH} {ws : va_W} (h : amWR s σ hs ws) (q : Nat) : amVR (σ ++ [q]) (.ref hs.length) (.ref q) := ⟨q, by rw [← h.1]; simp, rfl⟩
set_option maxHeartbeats 4000000 in
theorem amSnd_succ {n : Nat} (IH : amSnd n) : amSnd (n + 1) := by
  intro p l e R s m args below meth cd Q D A b L xs M r F hr hRf hRl pc ls st hs c sl o h σ ws H locs cls cst Y hl hst hRc hRs K
  simp only [amRun] at h
  split at h
  · cases h
  · rename_i i len x hf
    split at h
    · rename_i pc' ls' st' hs' hstep
      have hm := amRun_mono _ _ _ _ _ _ _ _ _ h
      exact amStep_ok F hr hf hstep Y hl hst hRf hRl (by omega) (by omega) (fun ws' H' locs' cls' cst' Y' hl' hst' => IH p l e R s m args below meth cd Q D A b L xs M r F hr hRf hRl _ _ _ _ _ _ _ h σ ws' H' locs' cls' cst' Y' hl' hst' hRc hRs K)
    · rename_i hnone
      clear hnone
      have hmm := amMore_mono (amRun_mono n) h
      have hd := amFetch_dec hr hf
      have hck := amFetch_chk hr hf
      obtain ⟨hx, hb, hml, hown, hts, hret, hlocks, htab, hinit, hK, hX, hbl, hbA, hA, hamb, hfl⟩ := id F
      obtain ⟨hP, hD, hS, hWR, hs0, hσ0⟩ := id Y
      obtain ⟨z1, z2, z3, z4, z5, z6, z7⟩ := id hamb
      unfold amMore at h
      split at h
      · split at h
        · rename_i v
          split at h
          · rename_i hok
            cases h
            exact K.1 (some (.int v)) rfl pc σ ws H locs cls cst amExt_rf Y hst hl.1 ⟨_, _, _, hf, rfl, hok⟩
          · cases h
        · cases h
      · split at h
        · rename_i v
          cases h
          exact K.1 (some (.ref v)) rfl pc σ ws H locs cls cst amExt_rf Y hst hl.1 ⟨_, _, _, hf, rfl⟩
        · cases h
      · split at h
        · cases h
          exact K.1 none rfl pc σ ws H locs cls cst amExt_rf Y hst hl.1 ⟨_, _, _, hf, rfl⟩
        · cases h
      · rename_i k
        split at h
        · rename_i hx1
          split at h
          · rename_i hsum
            cases h
            exact K.2.1 _ rfl pc σ ws H locs cls cst c sl k len x amExt_rf Y hf hx1 rfl (by rw [amSR_sum hst]; exact hsum) hl.1 rfl rfl
          · cases h
        · rename_i hx1
          have hm := amRun_mono _ _ _ _ _ _ _ _ _ h
          simp only [amChk, Bool.and_eq_true, Bool.or_eq_true, decide_eq_true_eq] at hck
          obtain ⟨rfl, hck⟩ := hck
          rcases hck with hck | hck
          · exact absurd hck hx1
          · obtain ⟨c1, c2, c3, c5⟩ := amClsOk _ hck
            refine va_new (ci := x.2.1) (fs := amDef x.2.1) hx hb hts (amU_all _ c5) (amTy _) (amTy_ok _ c5) hown (hts _ c1) (hts _ c2) (hts _ c3) hK hP hD hS hA (amCl_at _ c5) (amDef_ok _ c5) (by omega) (show sl + amNF x.2.1 ≤ R.slots by omega) hd (fun q H1 hP1 hD1 hS1 => ?_)
            exact IH p l e R s m args below meth cd Q D A b L xs M r F hr hRf hRl _ _ _ _ _ _ _ h (σ ++ [q]) _ H1 locs cls (.ref q :: cst) (amDy_push Y ⟨amDef x.2.1, rfl, amSR_def _⟩ hP1 hD1 hS1) (amLR_mono amExt_push hl) (amSR_mk (am_top hWR q) (amSR_mono amExt_push hst)) hRc hRs (amK_mono amExt_push K)
      · split at h
        · rename_i nn st2
          obtain ⟨c2, rfl, hst2⟩ := amSR_int hst
          simp only [amChk, decide_eq_true_eq] at hck
          subst hck
          split at h
          · rename_i hq
            obtain ⟨hq1, hq2⟩ := hq
            split at h
            · have hm := amRun_mono _ _ _ _ _ _ _ _ _ h
              refine va_newa (a0 := (nn.toNatClampNeg, .inl (fun _ => 0))) (atype := .int) hx hb (hts _ amArr_int) rfl hK hP hD hS hA (fun cA => rfl) hq1 rfl (by show nn.toNatClampNeg * 4 ≤ 536870912; omega) (by omega) (by omega) hd (fun q cA H1 hK1 hP1 hD1 hS1 => ?_)
              have g := hK1.2 0 (cA, .int) rfl
              exact IH p l e R s m args below meth cd Q D A b L xs M r F hr hRf hRl _ _ _ _ _ _ _ h (σ ++ [q]) _ H1 locs cls (.ref q :: c2) (amDy_push Y ⟨Or.inl rfl, cA, rfl, g.1, g.2⟩ hP1 hD1 hS1) (amLR_mono amExt_push hl) (amSR_mk (am_top hWR q) (amSR_mono amExt_push hst2)) hRc hRs (amK_mono amExt_push K)
            · have hm := amRun_mono _ _ _ _ _ _ _ _ _ h
              refine va_newa (a0 := (nn.toNatClampNeg, .inl (fun _ => 0))) (atype := .boolean) hx hb (hts _ amArr_boolean) rfl hK hP hD hS hA (fun cA => rfl) hq1 rfl (by show nn.toNatClampNeg * 1 ≤ 536870912; omega) (by omega) (by omega) hd (fun q cA H1 hK1 hP1 hD1 hS1 => ?_)
              have g := hK1.2 0 (cA, .boolean) rfl
              exact IH p l e R s m args below meth cd Q D A b L xs M r F hr hRf hRl _ _ _ _ _ _ _ h (σ ++ [q]) _ H1 locs cls (.ref q :: c2) (amDy_push Y ⟨Or.inr rfl, cA, rfl, g.1, g.2⟩ hP1 hD1 hS1) (amLR_mono amExt_push hl) (amSR_mk (am_top hWR q) (amSR_mono amExt_push hst2)) hRc hRs (amK_mono amExt_push K)
            · have hm := amRun_mono _ _ _ _ _ _ _ _ _ h
              refine va_newa (a0 := (nn.toNatClampNeg, .inr (.inl (fun _ => 0)))) (atype := .long) hx hb (hts _ amArr_long) rfl hK hP hD hS hA (fun cA => rfl) hq1 rfl (by show nn.toNatClampNeg * 8 ≤ 536870912; omega) (by omega) (by omega) hd (fun q cA H1 hK1 hP1 hD1 hS1 => ?_)
              have g := hK1.2 0 (cA, .long) rfl
              exact IH p l e R s m args below meth cd Q D A b L xs M r F hr hRf hRl _ _ _ _ _ _ _ h (σ ++ [q]) _ H1 locs cls (.ref q :: c2) (amDy_push Y ⟨rfl, cA, rfl, g.1, g.2⟩ hP1 hD1 hS1) (amLR_mono amExt_push hl) (amSR_mk (am_top hWR q) (amSR_mono amExt_push hst2)) hRc hRs (amK_mono amExt_push K)
            · cases h
          · cases h
        · cases h
      · split at h
        · rename_i k nn st2
          obtain ⟨c2, rfl, hst2⟩ := amSR_int hst
          split at h
          · rename_i hq
            obtain ⟨hq1, hq2, hq3⟩ := hq
            have hm := amRun_mono _ _ _ _ _ _ _ _ _ h
            simp only [amChk, Bool.and_eq_true, decide_eq_true_eq] at hck
            obtain ⟨rfl, hck⟩ := hck
            obtain ⟨g1, -, -, -⟩ := amClsOk _ hck
            rw [hq3] at g1 h
            refine va_newq (C := RX2) hx hb hown (hts _ g1) z6 hK hP hD hS hA hq1 rfl (by omega) (by omega) (by omega) hd (fun q cA H1 hK1 hP1 hD1 hS1 => ?_)
            have g := hK1.2 0 (cA, .object RX2) rfl
            exact IH p l e R s m args below meth cd Q D A b L xs M r F hr hRf hRl _ _ _ _ _ _ _ h (σ ++ [q]) _ H1 locs cls (.ref q :: c2) (amDy_push Y ⟨RX2, cA, (fun _ => none), rfl, rfl, g.1, g.2, fun i _ k2 hk2 => by cases hk2⟩ hP1 hD1 hS1) (amLR_mono amExt_push hl) (amSR_mk (am_top hWR q) (amSR_mono amExt_push hst2)) hRc hRs (amK_mono amExt_push K)
          · cases h
        · cases h
      · rename_i k
        split at h
        · rename_i hk
          simp only [amChk, Bool.and_eq_true, decide_eq_true_eq] at hck
          obtain ⟨⟨⟨⟨rfl, -⟩, h0⟩, hlk⟩, hro⟩ := hck
          exact amCall_ok IH F hr hRf hRl Y hl hst hRc hRs h K h0 hlk hro (Or.inl ⟨hk, hd⟩)
        · cases h
      · rename_i k
        split at h
        · rename_i hk
          simp only [amChk, Bool.and_eq_true, Bool.or_eq_true, decide_eq_true_eq] at hck
          obtain ⟨rfl, hck⟩ := hck
          rcases hck with ⟨⟨⟨-, h0⟩, hlk⟩, hro⟩ | ⟨⟨⟨h9, -⟩, -⟩, -⟩
          · exact amCall_ok IH F hr hRf hRl Y hl hst hRc hRs h K h0 hlk hro (Or.inr (Or.inl ⟨hk, hd⟩))
          · omega
        · cases h
      · rename_i k
        split at h
        · rename_i hk
          simp only [amChk, Bool.and_eq_true, Bool.or_eq_true, decide_eq_true_eq] at hck
          obtain ⟨rfl, hck⟩ := hck
          rcases hck with (⟨⟨⟨-, h0⟩, hlk⟩, hro⟩ | ⟨⟨⟨h9, -⟩, -⟩, -⟩) | h9
          · exact amCall_ok IH F hr hRf hRl Y hl hst hRc hRs h K h0 hlk hro (Or.inr (Or.inr ⟨hk, hd⟩))
          · omega
          · omega
        · cases h
      · cases h
theorem amSnd_all : ∀ n, amSnd n
  | 0 => by
    intro p l e R s m args below meth cd Q D A b L xs M r F hr hRf hRl pc ls st hs c sl o h
    simp [amRun] at h
  | n + 1 => amSnd_succ (amSnd_all n)
end
section
/-! fetch rows, by wip/whole/gen14.py -/
-- X0_init
theorem f0_0 : amFetch 0 0 = some (.aload_n 0, 1, 0, 0, 0) := rfl
theorem f0_1 : amFetch 0 1 = some (.invokespecial 3, 3, 6, 0, 0) := rfl
theorem f0_4 : amFetch 0 4 = some (.aload_n 0, 1, 0, 0, 0) := rfl
theorem f0_5 : amFetch 0 5 = some (.sipush 512, 3, 0, 0, 0) := rfl
theorem f0_8 : amFetch 0 8 = some (.newarray .int, 2, 0, 0, 0) := rfl
theorem f0_10 : amFetch 0 10 = some (.putfield 9, 3, 0, 0, 0) := rfl
theorem f0_13 : amFetch 0 13 = some (.aload_n 0, 1, 0, 0, 0) := rfl
theorem f0_14 : amFetch 0 14 = some (.sipush 512, 3, 0, 0, 0) := rfl
theorem f0_17 : amFetch 0 17 = some (.newarray .int, 2, 0, 0, 0) := rfl
theorem f0_19 : amFetch 0 19 = some (.putfield 15, 3, 0, 1, 0) := rfl
theorem f0_22 : amFetch 0 22 = some (.return_, 1, 0, 0, 0) := rfl
theorem ow0 : amOwnL 0 = some (0, 1) := rfl
-- X0_drop
theorem f1_0 : amFetch 1 0 = some (.aload_n 0, 1, 0, 0, 0) := rfl
theorem f1_1 : amFetch 1 1 = some (.iconst 0, 1, 0, 0, 0) := rfl
theorem f1_2 : amFetch 1 2 = some (.putfield 18, 3, 0, 2, 0) := rfl
theorem f1_5 : amFetch 1 5 = some (.return_, 1, 0, 0, 0) := rfl
theorem ow1 : amOwnL 1 = some (0, 1) := rfl
-- X0_append
theorem f2_0 : amFetch 2 0 = some (.aload_n 0, 1, 0, 0, 0) := rfl
theorem f2_1 : amFetch 2 1 = some (.getfield 18, 3, 0, 2, 0) := rfl
theorem f2_4 : amFetch 2 4 = some (.iconst 1, 1, 0, 0, 0) := rfl
theorem f2_5 : amFetch 2 5 = some (.isub, 1, 0, 0, 0) := rfl
theorem f2_6 : amFetch 2 6 = some (.istore_n 3, 1, 0, 0, 0) := rfl
theorem f2_7 : amFetch 2 7 = some (.iload_n 3, 1, 0, 0, 0) := rfl
theorem f2_8 : amFetch 2 8 = some (.ifCond .lt 26, 3, 0, 0, 0) := rfl
theorem f2_11 : amFetch 2 11 = some (.aload_n 0, 1, 0, 0, 0) := rfl
theorem f2_12 : amFetch 2 12 = some (.getfield 9, 3, 0, 0, 0) := rfl
theorem f2_15 : amFetch 2 15 = some (.iload_n 3, 1, 0, 0, 0) := rfl
theorem f2_16 : amFetch 2 16 = some (.iaload, 1, 0, 0, 0) := rfl
theorem f2_17 : amFetch 2 17 = some (.iload_n 1, 1, 0, 0, 0) := rfl
theorem f2_18 : amFetch 2 18 = some (.if_icmp .ne 16, 3, 0, 0, 0) := rfl
theorem f2_21 : amFetch 2 21 = some (.aload_n 0, 1, 0, 0, 0) := rfl
theorem f2_22 : amFetch 2 22 = some (.getfield 15, 3, 0, 1, 0) := rfl
theorem f2_25 : amFetch 2 25 = some (.iload_n 3, 1, 0, 0, 0) := rfl
theorem f2_26 : amFetch 2 26 = some (.dup2, 1, 0, 0, 0) := rfl
theorem f2_27 : amFetch 2 27 = some (.iaload, 1, 0, 0, 0) := rfl
theorem f2_28 : amFetch 2 28 = some (.iload_n 2, 1, 0, 0, 0) := rfl
theorem f2_29 : amFetch 2 29 = some (.iadd, 1, 0, 0, 0) := rfl
theorem f2_30 : amFetch 2 30 = some (.iastore, 1, 0, 0, 0) := rfl
theorem f2_31 : amFetch 2 31 = some (.goto 49, 3, 0, 0, 0) := rfl
theorem f2_34 : amFetch 2 34 = some (.iload_n 2, 1, 0, 0, 0) := rfl
theorem f2_35 : amFetch 2 35 = some (.ifCond .le 45, 3, 0, 0, 0) := rfl
theorem f2_38 : amFetch 2 38 = some (.aload_n 0, 1, 0, 0, 0) := rfl
theorem f2_39 : amFetch 2 39 = some (.getfield 18, 3, 0, 2, 0) := rfl
theorem f2_42 : amFetch 2 42 = some (.aload_n 0, 1, 0, 0, 0) := rfl
theorem f2_43 : amFetch 2 43 = some (.getfield 9, 3, 0, 0, 0) := rfl
theorem f2_46 : amFetch 2 46 = some (.arraylength, 1, 0, 0, 0) := rfl
theorem f2_47 : amFetch 2 47 = some (.if_icmp .ge 33, 3, 0, 0, 0) := rfl
theorem f2_50 : amFetch 2 50 = some (.aload_n 0, 1, 0, 0, 0) := rfl
theorem f2_51 : amFetch 2 51 = some (.getfield 9, 3, 0, 0, 0) := rfl
theorem f2_54 : amFetch 2 54 = some (.aload_n 0, 1, 0, 0, 0) := rfl
theorem f2_55 : amFetch 2 55 = some (.getfield 18, 3, 0, 2, 0) := rfl
theorem f2_58 : amFetch 2 58 = some (.iload_n 1, 1, 0, 0, 0) := rfl
theorem f2_59 : amFetch 2 59 = some (.iastore, 1, 0, 0, 0) := rfl
theorem f2_60 : amFetch 2 60 = some (.aload_n 0, 1, 0, 0, 0) := rfl
theorem f2_61 : amFetch 2 61 = some (.getfield 15, 3, 0, 1, 0) := rfl
theorem f2_64 : amFetch 2 64 = some (.aload_n 0, 1, 0, 0, 0) := rfl
theorem f2_65 : amFetch 2 65 = some (.getfield 18, 3, 0, 2, 0) := rfl
theorem f2_68 : amFetch 2 68 = some (.iload_n 2, 1, 0, 0, 0) := rfl
theorem f2_69 : amFetch 2 69 = some (.iastore, 1, 0, 0, 0) := rfl
theorem f2_70 : amFetch 2 70 = some (.aload_n 0, 1, 0, 0, 0) := rfl
theorem f2_71 : amFetch 2 71 = some (.dup, 1, 0, 0, 0) := rfl
theorem f2_72 : amFetch 2 72 = some (.getfield 18, 3, 0, 2, 0) := rfl
theorem f2_75 : amFetch 2 75 = some (.iconst 1, 1, 0, 0, 0) := rfl
theorem f2_76 : amFetch 2 76 = some (.iadd, 1, 0, 0, 0) := rfl
theorem f2_77 : amFetch 2 77 = some (.putfield 18, 3, 0, 2, 0) := rfl
theorem f2_80 : amFetch 2 80 = some (.return_, 1, 0, 0, 0) := rfl
theorem ow2 : amOwnL 2 = some (0, 4) := rfl
-- X0_becomeSum
theorem f3_0 : amFetch 3 0 = some (.aload_n 0, 1, 0, 0, 0) := rfl
theorem f3_1 : amFetch 3 1 = some (.invokevirtual 22, 3, 0, 1, 0) := rfl
theorem f3_4 : amFetch 3 4 = some (.iconst 0, 1, 0, 0, 0) := rfl
theorem f3_5 : amFetch 3 5 = some (.istore_n 3, 1, 0, 0, 0) := rfl
theorem f3_6 : amFetch 3 6 = some (.iconst 0, 1, 0, 0, 0) := rfl
theorem f3_7 : amFetch 3 7 = some (.istore 4, 2, 0, 0, 0) := rfl
theorem f3_9 : amFetch 3 9 = some (.aload_n 1, 1, 0, 0, 0) := rfl
theorem f3_10 : amFetch 3 10 = some (.getfield 18, 3, 0, 2, 0) := rfl
theorem f3_13 : amFetch 3 13 = some (.aload_n 2, 1, 0, 0, 0) := rfl
theorem f3_14 : amFetch 3 14 = some (.getfield 18, 3, 0, 2, 0) := rfl
theorem f3_17 : amFetch 3 17 = some (.iadd, 1, 0, 0, 0) := rfl
theorem f3_18 : amFetch 3 18 = some (.istore 5, 2, 0, 0, 0) := rfl
theorem f3_20 : amFetch 3 20 = some (.iload 5, 2, 0, 0, 0) := rfl
theorem f3_22 : amFetch 3 22 = some (.ifCond .le 85, 3, 0, 0, 0) := rfl
theorem f3_25 : amFetch 3 25 = some (.iload 4, 2, 0, 0, 0) := rfl
theorem f3_27 : amFetch 3 27 = some (.aload_n 2, 1, 0, 0, 0) := rfl
theorem f3_28 : amFetch 3 28 = some (.getfield 18, 3, 0, 2, 0) := rfl
theorem f3_31 : amFetch 3 31 = some (.if_icmp .ge 27, 3, 0, 0, 0) := rfl
theorem f3_34 : amFetch 3 34 = some (.iload_n 3, 1, 0, 0, 0) := rfl
theorem f3_35 : amFetch 3 35 = some (.aload_n 1, 1, 0, 0, 0) := rfl
theorem f3_36 : amFetch 3 36 = some (.getfield 18, 3, 0, 2, 0) := rfl
theorem f3_39 : amFetch 3 39 = some (.if_icmp .ge 41, 3, 0, 0, 0) := rfl
theorem f3_42 : amFetch 3 42 = some (.aload_n 1, 1, 0, 0, 0) := rfl
theorem f3_43 : amFetch 3 43 = some (.getfield 9, 3, 0, 0, 0) := rfl
theorem f3_46 : amFetch 3 46 = some (.iload_n 3, 1, 0, 0, 0) := rfl
theorem f3_47 : amFetch 3 47 = some (.iaload, 1, 0, 0, 0) := rfl
theorem f3_48 : amFetch 3 48 = some (.aload_n 2, 1, 0, 0, 0) := rfl
theorem f3_49 : amFetch 3 49 = some (.getfield 9, 3, 0, 0, 0) := rfl
theorem f3_52 : amFetch 3 52 = some (.iload 4, 2, 0, 0, 0) := rfl
theorem f3_54 : amFetch 3 54 = some (.iaload, 1, 0, 0, 0) := rfl
theorem f3_55 : amFetch 3 55 = some (.if_icmp .gt 25, 3, 0, 0, 0) := rfl
theorem f3_58 : amFetch 3 58 = some (.aload_n 0, 1, 0, 0, 0) := rfl
theorem f3_59 : amFetch 3 59 = some (.aload_n 1, 1, 0, 0, 0) := rfl
theorem f3_60 : amFetch 3 60 = some (.getfield 9, 3, 0, 0, 0) := rfl
theorem f3_63 : amFetch 3 63 = some (.iload_n 3, 1, 0, 0, 0) := rfl
theorem f3_64 : amFetch 3 64 = some (.iaload, 1, 0, 0, 0) := rfl
theorem f3_65 : amFetch 3 65 = some (.aload_n 1, 1, 0, 0, 0) := rfl
theorem f3_66 : amFetch 3 66 = some (.getfield 15, 3, 0, 1, 0) := rfl
theorem f3_69 : amFetch 3 69 = some (.iload_n 3, 1, 0, 0, 0) := rfl
theorem f3_70 : amFetch 3 70 = some (.iaload, 1, 0, 0, 0) := rfl
theorem f3_71 : amFetch 3 71 = some (.invokevirtual 25, 3, 0, 2, 2) := rfl
theorem f3_74 : amFetch 3 74 = some (.iinc 3 1, 3, 0, 0, 0) := rfl
theorem f3_77 : amFetch 3 77 = some (.goto 24, 3, 0, 0, 0) := rfl
theorem f3_80 : amFetch 3 80 = some (.aload_n 0, 1, 0, 0, 0) := rfl
theorem f3_81 : amFetch 3 81 = some (.aload_n 2, 1, 0, 0, 0) := rfl
theorem f3_82 : amFetch 3 82 = some (.getfield 9, 3, 0, 0, 0) := rfl
theorem f3_85 : amFetch 3 85 = some (.iload 4, 2, 0, 0, 0) := rfl
theorem f3_87 : amFetch 3 87 = some (.iaload, 1, 0, 0, 0) := rfl
theorem f3_88 : amFetch 3 88 = some (.aload_n 2, 1, 0, 0, 0) := rfl
theorem f3_89 : amFetch 3 89 = some (.getfield 15, 3, 0, 1, 0) := rfl
theorem f3_92 : amFetch 3 92 = some (.iload 4, 2, 0, 0, 0) := rfl
theorem f3_94 : amFetch 3 94 = some (.iaload, 1, 0, 0, 0) := rfl
theorem f3_95 : amFetch 3 95 = some (.invokevirtual 25, 3, 0, 2, 2) := rfl
theorem f3_98 : amFetch 3 98 = some (.iinc 4 1, 3, 0, 0, 0) := rfl
theorem f3_101 : amFetch 3 101 = some (.iinc 5 (-1), 3, 0, 0, 0) := rfl
theorem f3_104 : amFetch 3 104 = some (.goto (-84), 3, 0, 0, 0) := rfl
theorem f3_107 : amFetch 3 107 = some (.return_, 1, 0, 0, 0) := rfl
theorem ow3 : amOwnL 3 = some (0, 6) := rfl
-- X0_becomeLesser
theorem f4_0 : amFetch 4 0 = some (.aload_n 0, 1, 0, 0, 0) := rfl
theorem f4_1 : amFetch 4 1 = some (.invokevirtual 22, 3, 0, 1, 0) := rfl
theorem f4_4 : amFetch 4 4 = some (.iconst 0, 1, 0, 0, 0) := rfl
theorem f4_5 : amFetch 4 5 = some (.istore_n 3, 1, 0, 0, 0) := rfl
theorem f4_6 : amFetch 4 6 = some (.iconst 0, 1, 0, 0, 0) := rfl
theorem f4_7 : amFetch 4 7 = some (.istore 4, 2, 0, 0, 0) := rfl
theorem f4_9 : amFetch 4 9 = some (.iload 4, 2, 0, 0, 0) := rfl
theorem f4_11 : amFetch 4 11 = some (.aload_n 1, 1, 0, 0, 0) := rfl
theorem f4_12 : amFetch 4 12 = some (.getfield 18, 3, 0, 2, 0) := rfl
theorem f4_15 : amFetch 4 15 = some (.if_icmp .ge 67, 3, 0, 0, 0) := rfl
theorem f4_18 : amFetch 4 18 = some (.aload_n 1, 1, 0, 0, 0) := rfl
theorem f4_19 : amFetch 4 19 = some (.getfield 9, 3, 0, 0, 0) := rfl
theorem f4_22 : amFetch 4 22 = some (.iload 4, 2, 0, 0, 0) := rfl
theorem f4_24 : amFetch 4 24 = some (.iaload, 1, 0, 0, 0) := rfl
theorem f4_25 : amFetch 4 25 = some (.istore 5, 2, 0, 0, 0) := rfl
theorem f4_27 : amFetch 4 27 = some (.aload_n 2, 1, 0, 0, 0) := rfl
theorem f4_28 : amFetch 4 28 = some (.iload 5, 2, 0, 0, 0) := rfl
theorem f4_30 : amFetch 4 30 = some (.iload_n 3, 1, 0, 0, 0) := rfl
theorem f4_31 : amFetch 4 31 = some (.invokevirtual 29, 3, 0, 6, 2) := rfl
theorem f4_34 : amFetch 4 34 = some (.istore_n 3, 1, 0, 0, 0) := rfl
theorem f4_35 : amFetch 4 35 = some (.iload_n 3, 1, 0, 0, 0) := rfl
theorem f4_36 : amFetch 4 36 = some (.aload_n 2, 1, 0, 0, 0) := rfl
theorem f4_37 : amFetch 4 37 = some (.getfield 18, 3, 0, 2, 0) := rfl
theorem f4_40 : amFetch 4 40 = some (.if_icmp .ge 36, 3, 0, 0, 0) := rfl
theorem f4_43 : amFetch 4 43 = some (.aload_n 2, 1, 0, 0, 0) := rfl
theorem f4_44 : amFetch 4 44 = some (.getfield 9, 3, 0, 0, 0) := rfl
theorem f4_47 : amFetch 4 47 = some (.iload_n 3, 1, 0, 0, 0) := rfl
theorem f4_48 : amFetch 4 48 = some (.iaload, 1, 0, 0, 0) := rfl
theorem f4_49 : amFetch 4 49 = some (.iload 5, 2, 0, 0, 0) := rfl
theorem f4_51 : amFetch 4 51 = some (.if_icmp .ne 25, 3, 0, 0, 0) := rfl
theorem f4_54 : amFetch 4 54 = some (.aload_n 0, 1, 0, 0, 0) := rfl
theorem f4_55 : amFetch 4 55 = some (.iload 5, 2, 0, 0, 0) := rfl
theorem f4_57 : amFetch 4 57 = some (.aload_n 1, 1, 0, 0, 0) := rfl
theorem f4_58 : amFetch 4 58 = some (.getfield 15, 3, 0, 1, 0) := rfl
theorem f4_61 : amFetch 4 61 = some (.iload 4, 2, 0, 0, 0) := rfl
theorem f4_63 : amFetch 4 63 = some (.iaload, 1, 0, 0, 0) := rfl
theorem f4_64 : amFetch 4 64 = some (.aload_n 2, 1, 0, 0, 0) := rfl
theorem f4_65 : amFetch 4 65 = some (.getfield 15, 3, 0, 1, 0) := rfl
theorem f4_68 : amFetch 4 68 = some (.iload_n 3, 1, 0, 0, 0) := rfl
theorem f4_69 : amFetch 4 69 = some (.iaload, 1, 0, 0, 0) := rfl
theorem f4_70 : amFetch 4 70 = some (.invokestatic 33, 3, 5, 0, 2) := rfl
theorem f4_73 : amFetch 4 73 = some (.invokevirtual 25, 3, 0, 2, 2) := rfl
theorem f4_76 : amFetch 4 76 = some (.iinc 4 1, 3, 0, 0, 0) := rfl
theorem f4_79 : amFetch 4 79 = some (.goto (-70), 3, 0, 0, 0) := rfl
theorem f4_82 : amFetch 4 82 = some (.return_, 1, 0, 0, 0) := rfl
theorem ow4 : amOwnL 4 = some (0, 6) := rfl
-- X0_becomeRest
theorem f5_0 : amFetch 5 0 = some (.aload_n 0, 1, 0, 0, 0) := rfl
theorem f5_1 : amFetch 5 1 = some (.invokevirtual 22, 3, 0, 1, 0) := rfl
theorem f5_4 : amFetch 5 4 = some (.iconst 0, 1, 0, 0, 0) := rfl
theorem f5_5 : amFetch 5 5 = some (.istore 4, 2, 0, 0, 0) := rfl
theorem f5_7 : amFetch 5 7 = some (.iload 4, 2, 0, 0, 0) := rfl
theorem f5_9 : amFetch 5 9 = some (.aload_n 1, 1, 0, 0, 0) := rfl
theorem f5_10 : amFetch 5 10 = some (.getfield 18, 3, 0, 2, 0) := rfl
theorem f5_13 : amFetch 5 13 = some (.if_icmp .ge 48, 3, 0, 0, 0) := rfl
theorem f5_16 : amFetch 5 16 = some (.aload_n 1, 1, 0, 0, 0) := rfl
theorem f5_17 : amFetch 5 17 = some (.getfield 9, 3, 0, 0, 0) := rfl
theorem f5_20 : amFetch 5 20 = some (.iload 4, 2, 0, 0, 0) := rfl
theorem f5_22 : amFetch 5 22 = some (.iaload, 1, 0, 0, 0) := rfl
theorem f5_23 : amFetch 5 23 = some (.iload_n 2, 1, 0, 0, 0) := rfl
theorem f5_24 : amFetch 5 24 = some (.if_icmp .ne 7, 3, 0, 0, 0) := rfl
theorem f5_27 : amFetch 5 27 = some (.iload_n 3, 1, 0, 0, 0) := rfl
theorem f5_28 : amFetch 5 28 = some (.goto 4, 3, 0, 0, 0) := rfl
theorem f5_31 : amFetch 5 31 = some (.iconst 0, 1, 0, 0, 0) := rfl
theorem f5_32 : amFetch 5 32 = some (.istore 5, 2, 0, 0, 0) := rfl
theorem f5_34 : amFetch 5 34 = some (.aload_n 0, 1, 0, 0, 0) := rfl
theorem f5_35 : amFetch 5 35 = some (.aload_n 1, 1, 0, 0, 0) := rfl
theorem f5_36 : amFetch 5 36 = some (.getfield 9, 3, 0, 0, 0) := rfl
theorem f5_39 : amFetch 5 39 = some (.iload 4, 2, 0, 0, 0) := rfl
theorem f5_41 : amFetch 5 41 = some (.iaload, 1, 0, 0, 0) := rfl
theorem f5_42 : amFetch 5 42 = some (.aload_n 1, 1, 0, 0, 0) := rfl
theorem f5_43 : amFetch 5 43 = some (.getfield 15, 3, 0, 1, 0) := rfl
theorem f5_46 : amFetch 5 46 = some (.iload 4, 2, 0, 0, 0) := rfl
theorem f5_48 : amFetch 5 48 = some (.iaload, 1, 0, 0, 0) := rfl
theorem f5_49 : amFetch 5 49 = some (.iload 5, 2, 0, 0, 0) := rfl
theorem f5_51 : amFetch 5 51 = some (.isub, 1, 0, 0, 0) := rfl
theorem f5_52 : amFetch 5 52 = some (.invokevirtual 25, 3, 0, 2, 2) := rfl
theorem f5_55 : amFetch 5 55 = some (.iinc 4 1, 3, 0, 0, 0) := rfl
theorem f5_58 : amFetch 5 58 = some (.goto (-51), 3, 0, 0, 0) := rfl
theorem f5_61 : amFetch 5 61 = some (.return_, 1, 0, 0, 0) := rfl
theorem ow5 : amOwnL 5 = some (0, 6) := rfl
-- X0_placeNotBelow
theorem f6_0 : amFetch 6 0 = some (.iload_n 2, 1, 0, 0, 0) := rfl
theorem f6_1 : amFetch 6 1 = some (.istore_n 3, 1, 0, 0, 0) := rfl
theorem f6_2 : amFetch 6 2 = some (.iload_n 3, 1, 0, 0, 0) := rfl
theorem f6_3 : amFetch 6 3 = some (.aload_n 0, 1, 0, 0, 0) := rfl
theorem f6_4 : amFetch 6 4 = some (.getfield 18, 3, 0, 2, 0) := rfl
theorem f6_7 : amFetch 6 7 = some (.if_icmp .ge 19, 3, 0, 0, 0) := rfl
theorem f6_10 : amFetch 6 10 = some (.aload_n 0, 1, 0, 0, 0) := rfl
theorem f6_11 : amFetch 6 11 = some (.getfield 9, 3, 0, 0, 0) := rfl
theorem f6_14 : amFetch 6 14 = some (.iload_n 3, 1, 0, 0, 0) := rfl
theorem f6_15 : amFetch 6 15 = some (.iaload, 1, 0, 0, 0) := rfl
theorem f6_16 : amFetch 6 16 = some (.iload_n 1, 1, 0, 0, 0) := rfl
theorem f6_17 : amFetch 6 17 = some (.if_icmp .ge 9, 3, 0, 0, 0) := rfl
theorem f6_20 : amFetch 6 20 = some (.iinc 3 1, 3, 0, 0, 0) := rfl
theorem f6_23 : amFetch 6 23 = some (.goto (-21), 3, 0, 0, 0) := rfl
theorem f6_26 : amFetch 6 26 = some (.iload_n 3, 1, 0, 0, 0) := rfl
theorem f6_27 : amFetch 6 27 = some (.ireturn, 1, 0, 0, 0) := rfl
theorem ow6 : amOwnL 6 = some (0, 4) := rfl
-- X0_hasSameAs
theorem f7_0 : amFetch 7 0 = some (.aload_n 0, 1, 0, 0, 0) := rfl
theorem f7_1 : amFetch 7 1 = some (.getfield 18, 3, 0, 2, 0) := rfl
theorem f7_4 : amFetch 7 4 = some (.aload_n 1, 1, 0, 0, 0) := rfl
theorem f7_5 : amFetch 7 5 = some (.getfield 18, 3, 0, 2, 0) := rfl
theorem f7_8 : amFetch 7 8 = some (.if_icmp .eq 5, 3, 0, 0, 0) := rfl
theorem f7_11 : amFetch 7 11 = some (.iconst 0, 1, 0, 0, 0) := rfl
theorem f7_12 : amFetch 7 12 = some (.ireturn, 1, 0, 0, 0) := rfl
theorem f7_13 : amFetch 7 13 = some (.iconst 0, 1, 0, 0, 0) := rfl
theorem f7_14 : amFetch 7 14 = some (.istore_n 2, 1, 0, 0, 0) := rfl
theorem f7_15 : amFetch 7 15 = some (.iload_n 2, 1, 0, 0, 0) := rfl
theorem f7_16 : amFetch 7 16 = some (.aload_n 0, 1, 0, 0, 0) := rfl
theorem f7_17 : amFetch 7 17 = some (.getfield 18, 3, 0, 2, 0) := rfl
theorem f7_20 : amFetch 7 20 = some (.if_icmp .ge 41, 3, 0, 0, 0) := rfl
theorem f7_23 : amFetch 7 23 = some (.aload_n 0, 1, 0, 0, 0) := rfl
theorem f7_24 : amFetch 7 24 = some (.getfield 9, 3, 0, 0, 0) := rfl
theorem f7_27 : amFetch 7 27 = some (.iload_n 2, 1, 0, 0, 0) := rfl
theorem f7_28 : amFetch 7 28 = some (.iaload, 1, 0, 0, 0) := rfl
theorem f7_29 : amFetch 7 29 = some (.aload_n 1, 1, 0, 0, 0) := rfl
theorem f7_30 : amFetch 7 30 = some (.getfield 9, 3, 0, 0, 0) := rfl
theorem f7_33 : amFetch 7 33 = some (.iload_n 2, 1, 0, 0, 0) := rfl
theorem f7_34 : amFetch 7 34 = some (.iaload, 1, 0, 0, 0) := rfl
theorem f7_35 : amFetch 7 35 = some (.if_icmp .ne 18, 3, 0, 0, 0) := rfl
theorem f7_38 : amFetch 7 38 = some (.aload_n 0, 1, 0, 0, 0) := rfl
theorem f7_39 : amFetch 7 39 = some (.getfield 15, 3, 0, 1, 0) := rfl
theorem f7_42 : amFetch 7 42 = some (.iload_n 2, 1, 0, 0, 0) := rfl
theorem f7_43 : amFetch 7 43 = some (.iaload, 1, 0, 0, 0) := rfl
theorem f7_44 : amFetch 7 44 = some (.aload_n 1, 1, 0, 0, 0) := rfl
theorem f7_45 : amFetch 7 45 = some (.getfield 15, 3, 0, 1, 0) := rfl
theorem f7_48 : amFetch 7 48 = some (.iload_n 2, 1, 0, 0, 0) := rfl
theorem f7_49 : amFetch 7 49 = some (.iaload, 1, 0, 0, 0) := rfl
theorem f7_50 : amFetch 7 50 = some (.if_icmp .eq 5, 3, 0, 0, 0) := rfl
theorem f7_53 : amFetch 7 53 = some (.iconst 0, 1, 0, 0, 0) := rfl
theorem f7_54 : amFetch 7 54 = some (.ireturn, 1, 0, 0, 0) := rfl
theorem f7_55 : amFetch 7 55 = some (.iinc 2 1, 3, 0, 0, 0) := rfl
theorem f7_58 : amFetch 7 58 = some (.goto (-43), 3, 0, 0, 0) := rfl
theorem f7_61 : amFetch 7 61 = some (.iconst 1, 1, 0, 0, 0) := rfl
theorem f7_62 : amFetch 7 62 = some (.ireturn, 1, 0, 0, 0) := rfl
theorem ow7 : amOwnL 7 = some (0, 3) := rfl
-- X0_neededSlots
theorem f8_0 : amFetch 8 0 = some (.iconst 0, 1, 0, 0, 0) := rfl
theorem f8_1 : amFetch 8 1 = some (.istore_n 1, 1, 0, 0, 0) := rfl
theorem f8_2 : amFetch 8 2 = some (.iconst 0, 1, 0, 0, 0) := rfl
theorem f8_3 : amFetch 8 3 = some (.istore_n 2, 1, 0, 0, 0) := rfl
theorem f8_4 : amFetch 8 4 = some (.iload_n 2, 1, 0, 0, 0) := rfl
theorem f8_5 : amFetch 8 5 = some (.aload_n 0, 1, 0, 0, 0) := rfl
theorem f8_6 : amFetch 8 6 = some (.getfield 18, 3, 0, 2, 0) := rfl
theorem f8_9 : amFetch 8 9 = some (.if_icmp .ge 21, 3, 0, 0, 0) := rfl
theorem f8_12 : amFetch 8 12 = some (.iload_n 1, 1, 0, 0, 0) := rfl
theorem f8_13 : amFetch 8 13 = some (.aload_n 0, 1, 0, 0, 0) := rfl
theorem f8_14 : amFetch 8 14 = some (.getfield 15, 3, 0, 1, 0) := rfl
theorem f8_17 : amFetch 8 17 = some (.iload_n 2, 1, 0, 0, 0) := rfl
theorem f8_18 : amFetch 8 18 = some (.iaload, 1, 0, 0, 0) := rfl
theorem f8_19 : amFetch 8 19 = some (.invokestatic 38, 3, 2, 73, 1) := rfl
theorem f8_22 : amFetch 8 22 = some (.iadd, 1, 0, 0, 0) := rfl
theorem f8_23 : amFetch 8 23 = some (.istore_n 1, 1, 0, 0, 0) := rfl
theorem f8_24 : amFetch 8 24 = some (.iinc 2 1, 3, 0, 0, 0) := rfl
theorem f8_27 : amFetch 8 27 = some (.goto (-23), 3, 0, 0, 0) := rfl
theorem f8_30 : amFetch 8 30 = some (.iload_n 1, 1, 0, 0, 0) := rfl
theorem f8_31 : amFetch 8 31 = some (.ireturn, 1, 0, 0, 0) := rfl
theorem ow8 : amOwnL 8 = some (0, 3) := rfl
-- X1_init
theorem f9_0 : amFetch 9 0 = some (.aload_n 0, 1, 0, 0, 0) := rfl
theorem f9_1 : amFetch 9 1 = some (.invokespecial 3, 3, 6, 0, 0) := rfl
theorem f9_4 : amFetch 9 4 = some (.aload_n 0, 1, 0, 0, 0) := rfl
theorem f9_5 : amFetch 9 5 = some (.sipush 256, 3, 0, 0, 0) := rfl
theorem f9_8 : amFetch 9 8 = some (.newarray .int, 2, 0, 0, 0) := rfl
theorem f9_10 : amFetch 9 10 = some (.putfield 9, 3, 1, 0, 0) := rfl
theorem f9_13 : amFetch 9 13 = some (.aload_n 0, 1, 0, 0, 0) := rfl
theorem f9_14 : amFetch 9 14 = some (.sipush 256, 3, 0, 0, 0) := rfl
theorem f9_17 : amFetch 9 17 = some (.newarray .int, 2, 0, 0, 0) := rfl
theorem f9_19 : amFetch 9 19 = some (.putfield 15, 3, 1, 1, 0) := rfl
theorem f9_22 : amFetch 9 22 = some (.return_, 1, 0, 0, 0) := rfl
theorem ow9 : amOwnL 9 = some (1, 1) := rfl
-- X1_makeFrom
theorem f10_0 : amFetch 10 0 = some (.iconst 0, 1, 0, 0, 0) := rfl
theorem f10_1 : amFetch 10 1 = some (.istore_n 2, 1, 0, 0, 0) := rfl
theorem f10_2 : amFetch 10 2 = some (.iload_n 2, 1, 0, 0, 0) := rfl
theorem f10_3 : amFetch 10 3 = some (.sipush 256, 3, 0, 0, 0) := rfl
theorem f10_6 : amFetch 10 6 = some (.if_icmp .ge 16, 3, 0, 0, 0) := rfl
theorem f10_9 : amFetch 10 9 = some (.aload_n 0, 1, 0, 0, 0) := rfl
theorem f10_10 : amFetch 10 10 = some (.getfield 9, 3, 1, 0, 0) := rfl
theorem f10_13 : amFetch 10 13 = some (.iload_n 2, 1, 0, 0, 0) := rfl
theorem f10_14 : amFetch 10 14 = some (.iconst (-1), 1, 0, 0, 0) := rfl
theorem f10_15 : amFetch 10 15 = some (.iastore, 1, 0, 0, 0) := rfl
theorem f10_16 : amFetch 10 16 = some (.iinc 2 1, 3, 0, 0, 0) := rfl
theorem f10_19 : amFetch 10 19 = some (.goto (-17), 3, 0, 0, 0) := rfl
theorem f10_22 : amFetch 10 22 = some (.aload_n 1, 1, 0, 0, 0) := rfl
theorem f10_23 : amFetch 10 23 = some (.invokevirtual 18, 3, 0, 22, 0) := rfl
theorem f10_26 : amFetch 10 26 = some (.istore_n 2, 1, 0, 0, 0) := rfl
theorem f10_27 : amFetch 10 27 = some (.iload_n 2, 1, 0, 0, 0) := rfl
theorem f10_28 : amFetch 10 28 = some (.istore_n 3, 1, 0, 0, 0) := rfl
theorem f10_29 : amFetch 10 29 = some (.iconst 1, 1, 0, 0, 0) := rfl
theorem f10_30 : amFetch 10 30 = some (.istore 4, 2, 0, 0, 0) := rfl
theorem f10_32 : amFetch 10 32 = some (.iload 4, 2, 0, 0, 0) := rfl
theorem f10_34 : amFetch 10 34 = some (.aload_n 1, 1, 0, 0, 0) := rfl
theorem f10_35 : amFetch 10 35 = some (.invokevirtual 24, 3, 0, 14, 0) := rfl
theorem f10_38 : amFetch 10 38 = some (.if_icmp .ge 57, 3, 0, 0, 0) := rfl
theorem f10_41 : amFetch 10 41 = some (.aload_n 1, 1, 0, 0, 0) := rfl
theorem f10_42 : amFetch 10 42 = some (.iload_n 2, 1, 0, 0, 0) := rfl
theorem f10_43 : amFetch 10 43 = some (.iload 4, 2, 0, 0, 0) := rfl
theorem f10_45 : amFetch 10 45 = some (.iadd, 1, 0, 0, 0) := rfl
theorem f10_46 : amFetch 10 46 = some (.invokevirtual 27, 3, 0, 16, 1) := rfl
theorem f10_49 : amFetch 10 49 = some (.istore 5, 2, 0, 0, 0) := rfl
theorem f10_51 : amFetch 10 51 = some (.aload_n 1, 1, 0, 0, 0) := rfl
theorem f10_52 : amFetch 10 52 = some (.iload 5, 2, 0, 0, 0) := rfl
theorem f10_54 : amFetch 10 54 = some (.invokevirtual 31, 3, 0, 15, 1) := rfl
theorem f10_57 : amFetch 10 57 = some (.ifCond .ne 32, 3, 0, 0, 0) := rfl
theorem f10_60 : amFetch 10 60 = some (.aload_n 1, 1, 0, 0, 0) := rfl
theorem f10_61 : amFetch 10 61 = some (.iload 5, 2, 0, 0, 0) := rfl
theorem f10_63 : amFetch 10 63 = some (.iload_n 3, 1, 0, 0, 0) := rfl
theorem f10_64 : amFetch 10 64 = some (.invokestatic 35, 3, 1, 11, 3) := rfl
theorem f10_67 : amFetch 10 67 = some (.istore_n 3, 1, 0, 0, 0) := rfl
theorem f10_68 : amFetch 10 68 = some (.aload_n 0, 1, 0, 0, 0) := rfl
theorem f10_69 : amFetch 10 69 = some (.getfield 15, 3, 1, 1, 0) := rfl
theorem f10_72 : amFetch 10 72 = some (.iload 5, 2, 0, 0, 0) := rfl
theorem f10_74 : amFetch 10 74 = some (.aload_n 0, 1, 0, 0, 0) := rfl
theorem f10_75 : amFetch 10 75 = some (.getfield 9, 3, 1, 0, 0) := rfl
theorem f10_78 : amFetch 10 78 = some (.iload_n 3, 1, 0, 0, 0) := rfl
theorem f10_79 : amFetch 10 79 = some (.iaload, 1, 0, 0, 0) := rfl
theorem f10_80 : amFetch 10 80 = some (.iastore, 1, 0, 0, 0) := rfl
theorem f10_81 : amFetch 10 81 = some (.aload_n 0, 1, 0, 0, 0) := rfl
theorem f10_82 : amFetch 10 82 = some (.getfield 9, 3, 1, 0, 0) := rfl
theorem f10_85 : amFetch 10 85 = some (.iload_n 3, 1, 0, 0, 0) := rfl
theorem f10_86 : amFetch 10 86 = some (.iload 5, 2, 0, 0, 0) := rfl
theorem f10_88 : amFetch 10 88 = some (.iastore, 1, 0, 0, 0) := rfl
theorem f10_89 : amFetch 10 89 = some (.iinc 4 1, 3, 0, 0, 0) := rfl
theorem f10_92 : amFetch 10 92 = some (.goto (-60), 3, 0, 0, 0) := rfl
theorem f10_95 : amFetch 10 95 = some (.return_, 1, 0, 0, 0) := rfl
theorem ow10 : amOwnL 10 = some (1, 6) := rfl
-- X1_quotientHere
theorem f11_0 : amFetch 11 0 = some (.aload_n 0, 1, 0, 0, 0) := rfl
theorem f11_1 : amFetch 11 1 = some (.getfield 39, 3, 2, 4, 0) := rfl
theorem f11_4 : amFetch 11 4 = some (.iload_n 1, 1, 0, 0, 0) := rfl
theorem f11_5 : amFetch 11 5 = some (.baload, 1, 0, 0, 0) := rfl
theorem f11_6 : amFetch 11 6 = some (.ifCond .ne 5, 3, 0, 0, 0) := rfl
theorem f11_9 : amFetch 11 9 = some (.iload_n 1, 1, 0, 0, 0) := rfl
theorem f11_10 : amFetch 11 10 = some (.ireturn, 1, 0, 0, 0) := rfl
theorem f11_11 : amFetch 11 11 = some (.aload_n 0, 1, 0, 0, 0) := rfl
theorem f11_12 : amFetch 11 12 = some (.getfield 43, 3, 2, 3, 0) := rfl
theorem f11_15 : amFetch 11 15 = some (.iload_n 1, 1, 0, 0, 0) := rfl
theorem f11_16 : amFetch 11 16 = some (.baload, 1, 0, 0, 0) := rfl
theorem f11_17 : amFetch 11 17 = some (.ifCond .eq 7, 3, 0, 0, 0) := rfl
theorem f11_20 : amFetch 11 20 = some (.iload_n 2, 1, 0, 0, 0) := rfl
theorem f11_21 : amFetch 11 21 = some (.goto 8, 3, 0, 0, 0) := rfl
theorem f11_24 : amFetch 11 24 = some (.aload_n 0, 1, 0, 0, 0) := rfl
theorem f11_25 : amFetch 11 25 = some (.iload_n 2, 1, 0, 0, 0) := rfl
theorem f11_26 : amFetch 11 26 = some (.invokevirtual 46, 3, 0, 23, 1) := rfl
theorem f11_29 : amFetch 11 29 = some (.ireturn, 1, 0, 0, 0) := rfl
theorem ow11 : amOwnL 11 = some (1, 3) := rfl
-- X1_sumFor
theorem f12_0 : amFetch 12 0 = some (.aload_n 1, 1, 0, 0, 0) := rfl
theorem f12_1 : amFetch 12 1 = some (.iload_n 2, 1, 0, 0, 0) := rfl
theorem f12_2 : amFetch 12 2 = some (.invokevirtual 49, 3, 0, 18, 1) := rfl
theorem f12_5 : amFetch 12 5 = some (.istore_n 3, 1, 0, 0, 0) := rfl
theorem f12_6 : amFetch 12 6 = some (.aload_n 0, 1, 0, 0, 0) := rfl
theorem f12_7 : amFetch 12 7 = some (.getfield 9, 3, 1, 0, 0) := rfl
theorem f12_10 : amFetch 12 10 = some (.aload_n 1, 1, 0, 0, 0) := rfl
theorem f12_11 : amFetch 12 11 = some (.iload_n 2, 1, 0, 0, 0) := rfl
theorem f12_12 : amFetch 12 12 = some (.invokevirtual 52, 3, 0, 17, 1) := rfl
theorem f12_15 : amFetch 12 15 = some (.iaload, 1, 0, 0, 0) := rfl
theorem f12_16 : amFetch 12 16 = some (.istore 4, 2, 0, 0, 0) := rfl
theorem f12_18 : amFetch 12 18 = some (.iconst 0, 1, 0, 0, 0) := rfl
theorem f12_19 : amFetch 12 19 = some (.istore 5, 2, 0, 0, 0) := rfl
theorem f12_21 : amFetch 12 21 = some (.iconst 0, 1, 0, 0, 0) := rfl
theorem f12_22 : amFetch 12 22 = some (.istore 6, 2, 0, 0, 0) := rfl
theorem f12_24 : amFetch 12 24 = some (.iload 6, 2, 0, 0, 0) := rfl
theorem f12_26 : amFetch 12 26 = some (.sipush 256, 3, 0, 0, 0) := rfl
theorem f12_29 : amFetch 12 29 = some (.if_icmp .ge 51, 3, 0, 0, 0) := rfl
theorem f12_32 : amFetch 12 32 = some (.iload 4, 2, 0, 0, 0) := rfl
theorem f12_34 : amFetch 12 34 = some (.iconst (-1), 1, 0, 0, 0) := rfl
theorem f12_35 : amFetch 12 35 = some (.if_icmp .eq 45, 3, 0, 0, 0) := rfl
theorem f12_38 : amFetch 12 38 = some (.iload 5, 2, 0, 0, 0) := rfl
theorem f12_40 : amFetch 12 40 = some (.aload_n 1, 1, 0, 0, 0) := rfl
theorem f12_41 : amFetch 12 41 = some (.getfield 55, 3, 2, 0, 0) := rfl
theorem f12_44 : amFetch 12 44 = some (.iload 4, 2, 0, 0, 0) := rfl
theorem f12_46 : amFetch 12 46 = some (.iaload, 1, 0, 0, 0) := rfl
theorem f12_47 : amFetch 12 47 = some (.iload_n 3, 1, 0, 0, 0) := rfl
theorem f12_48 : amFetch 12 48 = some (.if_icmp .ne 13, 3, 0, 0, 0) := rfl
theorem f12_51 : amFetch 12 51 = some (.aload_n 1, 1, 0, 0, 0) := rfl
theorem f12_52 : amFetch 12 52 = some (.getfield 58, 3, 2, 1, 0) := rfl
theorem f12_55 : amFetch 12 55 = some (.iload 4, 2, 0, 0, 0) := rfl
theorem f12_57 : amFetch 12 57 = some (.iaload, 1, 0, 0, 0) := rfl
theorem f12_58 : amFetch 12 58 = some (.goto 4, 3, 0, 0, 0) := rfl
theorem f12_61 : amFetch 12 61 = some (.iconst 0, 1, 0, 0, 0) := rfl
theorem f12_62 : amFetch 12 62 = some (.iadd, 1, 0, 0, 0) := rfl
theorem f12_63 : amFetch 12 63 = some (.istore 5, 2, 0, 0, 0) := rfl
theorem f12_65 : amFetch 12 65 = some (.aload_n 0, 1, 0, 0, 0) := rfl
theorem f12_66 : amFetch 12 66 = some (.getfield 15, 3, 1, 1, 0) := rfl
theorem f12_69 : amFetch 12 69 = some (.iload 4, 2, 0, 0, 0) := rfl
theorem f12_71 : amFetch 12 71 = some (.iaload, 1, 0, 0, 0) := rfl
theorem f12_72 : amFetch 12 72 = some (.istore 4, 2, 0, 0, 0) := rfl
theorem f12_74 : amFetch 12 74 = some (.iinc 6 1, 3, 0, 0, 0) := rfl
theorem f12_77 : amFetch 12 77 = some (.goto (-53), 3, 0, 0, 0) := rfl
theorem f12_80 : amFetch 12 80 = some (.iload 5, 2, 0, 0, 0) := rfl
theorem f12_82 : amFetch 12 82 = some (.ireturn, 1, 0, 0, 0) := rfl
theorem ow12 : amOwnL 12 = some (1, 7) := rfl
-- X2_init
theorem f13_0 : amFetch 13 0 = some (.aload_n 0, 1, 0, 0, 0) := rfl
theorem f13_1 : amFetch 13 1 = some (.invokespecial 3, 3, 6, 0, 0) := rfl
theorem f13_4 : amFetch 13 4 = some (.aload_n 0, 1, 0, 0, 0) := rfl
theorem f13_5 : amFetch 13 5 = some (.sipush 256, 3, 0, 0, 0) := rfl
theorem f13_8 : amFetch 13 8 = some (.newarray .int, 2, 0, 0, 0) := rfl
theorem f13_10 : amFetch 13 10 = some (.putfield 9, 3, 2, 0, 0) := rfl
theorem f13_13 : amFetch 13 13 = some (.aload_n 0, 1, 0, 0, 0) := rfl
theorem f13_14 : amFetch 13 14 = some (.sipush 256, 3, 0, 0, 0) := rfl
theorem f13_17 : amFetch 13 17 = some (.newarray .int, 2, 0, 0, 0) := rfl
theorem f13_19 : amFetch 13 19 = some (.putfield 15, 3, 2, 1, 0) := rfl
theorem f13_22 : amFetch 13 22 = some (.aload_n 0, 1, 0, 0, 0) := rfl
theorem f13_23 : amFetch 13 23 = some (.sipush 256, 3, 0, 0, 0) := rfl
theorem f13_26 : amFetch 13 26 = some (.newarray .boolean, 2, 0, 0, 0) := rfl
theorem f13_28 : amFetch 13 28 = some (.putfield 18, 3, 2, 2, 0) := rfl
theorem f13_31 : amFetch 13 31 = some (.aload_n 0, 1, 0, 0, 0) := rfl
theorem f13_32 : amFetch 13 32 = some (.sipush 256, 3, 0, 0, 0) := rfl
theorem f13_35 : amFetch 13 35 = some (.newarray .boolean, 2, 0, 0, 0) := rfl
theorem f13_37 : amFetch 13 37 = some (.putfield 22, 3, 2, 3, 0) := rfl
theorem f13_40 : amFetch 13 40 = some (.aload_n 0, 1, 0, 0, 0) := rfl
theorem f13_41 : amFetch 13 41 = some (.sipush 256, 3, 0, 0, 0) := rfl
theorem f13_44 : amFetch 13 44 = some (.newarray .boolean, 2, 0, 0, 0) := rfl
theorem f13_46 : amFetch 13 46 = some (.putfield 25, 3, 2, 4, 0) := rfl
theorem f13_49 : amFetch 13 49 = some (.aload_n 0, 1, 0, 0, 0) := rfl
theorem f13_50 : amFetch 13 50 = some (.iconst 3, 1, 0, 0, 0) := rfl
theorem f13_51 : amFetch 13 51 = some (.putfield 28, 3, 2, 5, 0) := rfl
theorem f13_54 : amFetch 13 54 = some (.return_, 1, 0, 0, 0) := rfl
theorem ow13 : amOwnL 13 = some (2, 1) := rfl
-- X2_allSlots
theorem f14_0 : amFetch 14 0 = some (.iconst 1, 1, 0, 0, 0) := rfl
theorem f14_1 : amFetch 14 1 = some (.aload_n 0, 1, 0, 0, 0) := rfl
theorem f14_2 : amFetch 14 2 = some (.getfield 28, 3, 2, 5, 0) := rfl
theorem f14_5 : amFetch 14 5 = some (.ishl, 1, 0, 0, 0) := rfl
theorem f14_6 : amFetch 14 6 = some (.ireturn, 1, 0, 0, 0) := rfl
theorem ow14 : amOwnL 14 = some (2, 1) := rfl
-- X2_isEmpty
theorem f15_0 : amFetch 15 0 = some (.aload_n 0, 1, 0, 0, 0) := rfl
theorem f15_1 : amFetch 15 1 = some (.getfield 15, 3, 2, 1, 0) := rfl
theorem f15_4 : amFetch 15 4 = some (.iload_n 1, 1, 0, 0, 0) := rfl
theorem f15_5 : amFetch 15 5 = some (.iaload, 1, 0, 0, 0) := rfl
theorem f15_6 : amFetch 15 6 = some (.ifCond .ne 7, 3, 0, 0, 0) := rfl
theorem f15_9 : amFetch 15 9 = some (.iconst 1, 1, 0, 0, 0) := rfl
theorem f15_10 : amFetch 15 10 = some (.goto 4, 3, 0, 0, 0) := rfl
theorem f15_13 : amFetch 15 13 = some (.iconst 0, 1, 0, 0, 0) := rfl
theorem f15_14 : amFetch 15 14 = some (.ireturn, 1, 0, 0, 0) := rfl
theorem ow15 : amOwnL 15 = some (2, 2) := rfl
-- X2_wrap
theorem f16_0 : amFetch 16 0 = some (.iload_n 1, 1, 0, 0, 0) := rfl
theorem f16_1 : amFetch 16 1 = some (.aload_n 0, 1, 0, 0, 0) := rfl
theorem f16_2 : amFetch 16 2 = some (.invokevirtual 32, 3, 0, 14, 0) := rfl
theorem f16_5 : amFetch 16 5 = some (.iconst 1, 1, 0, 0, 0) := rfl
theorem f16_6 : amFetch 16 6 = some (.isub, 1, 0, 0, 0) := rfl
theorem f16_7 : amFetch 16 7 = some (.iand, 1, 0, 0, 0) := rfl
theorem f16_8 : amFetch 16 8 = some (.ireturn, 1, 0, 0, 0) := rfl
theorem ow16 : amOwnL 16 = some (2, 2) := rfl
-- X2_quotientOf
theorem f17_0 : amFetch 17 0 = some (.iload_n 1, 1, 0, 0, 0) := rfl
theorem f17_1 : amFetch 17 1 = some (.bipush 12, 2, 0, 0, 0) := rfl
theorem f17_3 : amFetch 17 3 = some (.aload_n 0, 1, 0, 0, 0) := rfl
theorem f17_4 : amFetch 17 4 = some (.getfield 28, 3, 2, 5, 0) := rfl
theorem f17_7 : amFetch 17 7 = some (.isub, 1, 0, 0, 0) := rfl
theorem f17_8 : amFetch 17 8 = some (.ishr, 1, 0, 0, 0) := rfl
theorem f17_9 : amFetch 17 9 = some (.ireturn, 1, 0, 0, 0) := rfl
theorem ow17 : amOwnL 17 = some (2, 2) := rfl
-- X2_remainderOf
theorem f18_0 : amFetch 18 0 = some (.iload_n 1, 1, 0, 0, 0) := rfl
theorem f18_1 : amFetch 18 1 = some (.iconst 1, 1, 0, 0, 0) := rfl
theorem f18_2 : amFetch 18 2 = some (.bipush 12, 2, 0, 0, 0) := rfl
theorem f18_4 : amFetch 18 4 = some (.aload_n 0, 1, 0, 0, 0) := rfl
theorem f18_5 : amFetch 18 5 = some (.getfield 28, 3, 2, 5, 0) := rfl
theorem f18_8 : amFetch 18 8 = some (.isub, 1, 0, 0, 0) := rfl
theorem f18_9 : amFetch 18 9 = some (.ishl, 1, 0, 0, 0) := rfl
theorem f18_10 : amFetch 18 10 = some (.iconst 1, 1, 0, 0, 0) := rfl
theorem f18_11 : amFetch 18 11 = some (.isub, 1, 0, 0, 0) := rfl
theorem f18_12 : amFetch 18 12 = some (.iand, 1, 0, 0, 0) := rfl
theorem f18_13 : amFetch 18 13 = some (.ireturn, 1, 0, 0, 0) := rfl
theorem ow18 : amOwnL 18 = some (2, 2) := rfl
-- X2_fingerprintOf
theorem f19_0 : amFetch 19 0 = some (.iload_n 1, 1, 0, 0, 0) := rfl
theorem f19_1 : amFetch 19 1 = some (.bipush 12, 2, 0, 0, 0) := rfl
theorem f19_3 : amFetch 19 3 = some (.aload_n 0, 1, 0, 0, 0) := rfl
theorem f19_4 : amFetch 19 4 = some (.getfield 28, 3, 2, 5, 0) := rfl
theorem f19_7 : amFetch 19 7 = some (.isub, 1, 0, 0, 0) := rfl
theorem f19_8 : amFetch 19 8 = some (.ishl, 1, 0, 0, 0) := rfl
theorem f19_9 : amFetch 19 9 = some (.iload_n 2, 1, 0, 0, 0) := rfl
theorem f19_10 : amFetch 19 10 = some (.ior, 1, 0, 0, 0) := rfl
theorem f19_11 : amFetch 19 11 = some (.ireturn, 1, 0, 0, 0) := rfl
theorem ow19 : amOwnL 19 = some (2, 3) := rfl
-- X2_usedSlots
theorem f20_0 : amFetch 20 0 = some (.iconst 0, 1, 0, 0, 0) := rfl
theorem f20_1 : amFetch 20 1 = some (.istore_n 1, 1, 0, 0, 0) := rfl
theorem f20_2 : amFetch 20 2 = some (.iconst 0, 1, 0, 0, 0) := rfl
theorem f20_3 : amFetch 20 3 = some (.istore_n 2, 1, 0, 0, 0) := rfl
theorem f20_4 : amFetch 20 4 = some (.iload_n 2, 1, 0, 0, 0) := rfl
theorem f20_5 : amFetch 20 5 = some (.aload_n 0, 1, 0, 0, 0) := rfl
theorem f20_6 : amFetch 20 6 = some (.invokevirtual 32, 3, 0, 14, 0) := rfl
theorem f20_9 : amFetch 20 9 = some (.if_icmp .ge 25, 3, 0, 0, 0) := rfl
theorem f20_12 : amFetch 20 12 = some (.iload_n 1, 1, 0, 0, 0) := rfl
theorem f20_13 : amFetch 20 13 = some (.aload_n 0, 1, 0, 0, 0) := rfl
theorem f20_14 : amFetch 20 14 = some (.iload_n 2, 1, 0, 0, 0) := rfl
theorem f20_15 : amFetch 20 15 = some (.invokevirtual 36, 3, 0, 15, 1) := rfl
theorem f20_18 : amFetch 20 18 = some (.ifCond .eq 7, 3, 0, 0, 0) := rfl
theorem f20_21 : amFetch 20 21 = some (.iconst 0, 1, 0, 0, 0) := rfl
theorem f20_22 : amFetch 20 22 = some (.goto 4, 3, 0, 0, 0) := rfl
theorem f20_25 : amFetch 20 25 = some (.iconst 1, 1, 0, 0, 0) := rfl
theorem f20_26 : amFetch 20 26 = some (.iadd, 1, 0, 0, 0) := rfl
theorem f20_27 : amFetch 20 27 = some (.istore_n 1, 1, 0, 0, 0) := rfl
theorem f20_28 : amFetch 20 28 = some (.iinc 2 1, 3, 0, 0, 0) := rfl
theorem f20_31 : amFetch 20 31 = some (.goto (-27), 3, 0, 0, 0) := rfl
theorem f20_34 : amFetch 20 34 = some (.iload_n 1, 1, 0, 0, 0) := rfl
theorem f20_35 : amFetch 20 35 = some (.ireturn, 1, 0, 0, 0) := rfl
theorem ow20 : amOwnL 20 = some (2, 3) := rfl
-- X2_sumOfCounters
theorem f21_0 : amFetch 21 0 = some (.iconst 0, 1, 0, 0, 0) := rfl
theorem f21_1 : amFetch 21 1 = some (.istore_n 1, 1, 0, 0, 0) := rfl
theorem f21_2 : amFetch 21 2 = some (.iconst 0, 1, 0, 0, 0) := rfl
theorem f21_3 : amFetch 21 3 = some (.istore_n 2, 1, 0, 0, 0) := rfl
theorem f21_4 : amFetch 21 4 = some (.iload_n 2, 1, 0, 0, 0) := rfl
theorem f21_5 : amFetch 21 5 = some (.aload_n 0, 1, 0, 0, 0) := rfl
theorem f21_6 : amFetch 21 6 = some (.invokevirtual 32, 3, 0, 14, 0) := rfl
theorem f21_9 : amFetch 21 9 = some (.if_icmp .ge 18, 3, 0, 0, 0) := rfl
theorem f21_12 : amFetch 21 12 = some (.iload_n 1, 1, 0, 0, 0) := rfl
theorem f21_13 : amFetch 21 13 = some (.aload_n 0, 1, 0, 0, 0) := rfl
theorem f21_14 : amFetch 21 14 = some (.getfield 15, 3, 2, 1, 0) := rfl
theorem f21_17 : amFetch 21 17 = some (.iload_n 2, 1, 0, 0, 0) := rfl
theorem f21_18 : amFetch 21 18 = some (.iaload, 1, 0, 0, 0) := rfl
theorem f21_19 : amFetch 21 19 = some (.iadd, 1, 0, 0, 0) := rfl
theorem f21_20 : amFetch 21 20 = some (.istore_n 1, 1, 0, 0, 0) := rfl
theorem f21_21 : amFetch 21 21 = some (.iinc 2 1, 3, 0, 0, 0) := rfl
theorem f21_24 : amFetch 21 24 = some (.goto (-20), 3, 0, 0, 0) := rfl
theorem f21_27 : amFetch 21 27 = some (.iload_n 1, 1, 0, 0, 0) := rfl
theorem f21_28 : amFetch 21 28 = some (.ireturn, 1, 0, 0, 0) := rfl
theorem ow21 : amOwnL 21 = some (2, 3) := rfl
-- X2_someEmptySlot
theorem f22_0 : amFetch 22 0 = some (.iconst 0, 1, 0, 0, 0) := rfl
theorem f22_1 : amFetch 22 1 = some (.istore_n 1, 1, 0, 0, 0) := rfl
theorem f22_2 : amFetch 22 2 = some (.iload_n 1, 1, 0, 0, 0) := rfl
theorem f22_3 : amFetch 22 3 = some (.aload_n 0, 1, 0, 0, 0) := rfl
theorem f22_4 : amFetch 22 4 = some (.invokevirtual 32, 3, 0, 14, 0) := rfl
theorem f22_7 : amFetch 22 7 = some (.iconst 1, 1, 0, 0, 0) := rfl
theorem f22_8 : amFetch 22 8 = some (.isub, 1, 0, 0, 0) := rfl
theorem f22_9 : amFetch 22 9 = some (.if_icmp .ge 17, 3, 0, 0, 0) := rfl
theorem f22_12 : amFetch 22 12 = some (.aload_n 0, 1, 0, 0, 0) := rfl
theorem f22_13 : amFetch 22 13 = some (.iload_n 1, 1, 0, 0, 0) := rfl
theorem f22_14 : amFetch 22 14 = some (.invokevirtual 36, 3, 0, 15, 1) := rfl
theorem f22_17 : amFetch 22 17 = some (.ifCond .ne 9, 3, 0, 0, 0) := rfl
theorem f22_20 : amFetch 22 20 = some (.iinc 1 1, 3, 0, 0, 0) := rfl
theorem f22_23 : amFetch 22 23 = some (.goto (-21), 3, 0, 0, 0) := rfl
theorem f22_26 : amFetch 22 26 = some (.iload_n 1, 1, 0, 0, 0) := rfl
theorem f22_27 : amFetch 22 27 = some (.ireturn, 1, 0, 0, 0) := rfl
theorem ow22 : amOwnL 22 = some (2, 2) := rfl
-- X2_occupiedAfter
theorem f23_0 : amFetch 23 0 = some (.iconst 1, 1, 0, 0, 0) := rfl
theorem f23_1 : amFetch 23 1 = some (.istore_n 2, 1, 0, 0, 0) := rfl
theorem f23_2 : amFetch 23 2 = some (.iload_n 2, 1, 0, 0, 0) := rfl
theorem f23_3 : amFetch 23 3 = some (.aload_n 0, 1, 0, 0, 0) := rfl
theorem f23_4 : amFetch 23 4 = some (.invokevirtual 32, 3, 0, 14, 0) := rfl
theorem f23_7 : amFetch 23 7 = some (.if_icmp .ge 28, 3, 0, 0, 0) := rfl
theorem f23_10 : amFetch 23 10 = some (.aload_n 0, 1, 0, 0, 0) := rfl
theorem f23_11 : amFetch 23 11 = some (.iload_n 1, 1, 0, 0, 0) := rfl
theorem f23_12 : amFetch 23 12 = some (.iload_n 2, 1, 0, 0, 0) := rfl
theorem f23_13 : amFetch 23 13 = some (.iadd, 1, 0, 0, 0) := rfl
theorem f23_14 : amFetch 23 14 = some (.invokevirtual 40, 3, 0, 16, 1) := rfl
theorem f23_17 : amFetch 23 17 = some (.istore_n 3, 1, 0, 0, 0) := rfl
theorem f23_18 : amFetch 23 18 = some (.aload_n 0, 1, 0, 0, 0) := rfl
theorem f23_19 : amFetch 23 19 = some (.getfield 18, 3, 2, 2, 0) := rfl
theorem f23_22 : amFetch 23 22 = some (.iload_n 3, 1, 0, 0, 0) := rfl
theorem f23_23 : amFetch 23 23 = some (.baload, 1, 0, 0, 0) := rfl
theorem f23_24 : amFetch 23 24 = some (.ifCond .eq 5, 3, 0, 0, 0) := rfl
theorem f23_27 : amFetch 23 27 = some (.iload_n 3, 1, 0, 0, 0) := rfl
theorem f23_28 : amFetch 23 28 = some (.ireturn, 1, 0, 0, 0) := rfl
theorem f23_29 : amFetch 23 29 = some (.iinc 2 1, 3, 0, 0, 0) := rfl
theorem f23_32 : amFetch 23 32 = some (.goto (-30), 3, 0, 0, 0) := rfl
theorem f23_35 : amFetch 23 35 = some (.iload_n 1, 1, 0, 0, 0) := rfl
theorem f23_36 : amFetch 23 36 = some (.ireturn, 1, 0, 0, 0) := rfl
theorem ow23 : amOwnL 23 = some (2, 4) := rfl
-- X2_firstOfCluster
theorem f24_0 : amFetch 24 0 = some (.iload_n 1, 1, 0, 0, 0) := rfl
theorem f24_1 : amFetch 24 1 = some (.istore_n 2, 1, 0, 0, 0) := rfl
theorem f24_2 : amFetch 24 2 = some (.iconst 0, 1, 0, 0, 0) := rfl
theorem f24_3 : amFetch 24 3 = some (.istore_n 3, 1, 0, 0, 0) := rfl
theorem f24_4 : amFetch 24 4 = some (.iload_n 3, 1, 0, 0, 0) := rfl
theorem f24_5 : amFetch 24 5 = some (.aload_n 0, 1, 0, 0, 0) := rfl
theorem f24_6 : amFetch 24 6 = some (.invokevirtual 32, 3, 0, 14, 0) := rfl
theorem f24_9 : amFetch 24 9 = some (.if_icmp .ge 26, 3, 0, 0, 0) := rfl
theorem f24_12 : amFetch 24 12 = some (.aload_n 0, 1, 0, 0, 0) := rfl
theorem f24_13 : amFetch 24 13 = some (.getfield 25, 3, 2, 4, 0) := rfl
theorem f24_16 : amFetch 24 16 = some (.iload_n 2, 1, 0, 0, 0) := rfl
theorem f24_17 : amFetch 24 17 = some (.baload, 1, 0, 0, 0) := rfl
theorem f24_18 : amFetch 24 18 = some (.ifCond .eq 17, 3, 0, 0, 0) := rfl
theorem f24_21 : amFetch 24 21 = some (.aload_n 0, 1, 0, 0, 0) := rfl
theorem f24_22 : amFetch 24 22 = some (.iload_n 2, 1, 0, 0, 0) := rfl
theorem f24_23 : amFetch 24 23 = some (.iconst 1, 1, 0, 0, 0) := rfl
theorem f24_24 : amFetch 24 24 = some (.isub, 1, 0, 0, 0) := rfl
theorem f24_25 : amFetch 24 25 = some (.invokevirtual 40, 3, 0, 16, 1) := rfl
theorem f24_28 : amFetch 24 28 = some (.istore_n 2, 1, 0, 0, 0) := rfl
theorem f24_29 : amFetch 24 29 = some (.iinc 3 1, 3, 0, 0, 0) := rfl
theorem f24_32 : amFetch 24 32 = some (.goto (-28), 3, 0, 0, 0) := rfl
theorem f24_35 : amFetch 24 35 = some (.iload_n 2, 1, 0, 0, 0) := rfl
theorem f24_36 : amFetch 24 36 = some (.ireturn, 1, 0, 0, 0) := rfl
theorem ow24 : amOwnL 24 = some (2, 4) := rfl
-- X2_firstOfRun
theorem f25_0 : amFetch 25 0 = some (.aload_n 0, 1, 0, 0, 0) := rfl
theorem f25_1 : amFetch 25 1 = some (.getfield 18, 3, 2, 2, 0) := rfl
theorem f25_4 : amFetch 25 4 = some (.iload_n 1, 1, 0, 0, 0) := rfl
theorem f25_5 : amFetch 25 5 = some (.baload, 1, 0, 0, 0) := rfl
theorem f25_6 : amFetch 25 6 = some (.ifCond .ne 5, 3, 0, 0, 0) := rfl
theorem f25_9 : amFetch 25 9 = some (.iconst (-1), 1, 0, 0, 0) := rfl
theorem f25_10 : amFetch 25 10 = some (.ireturn, 1, 0, 0, 0) := rfl
theorem f25_11 : amFetch 25 11 = some (.aload_n 0, 1, 0, 0, 0) := rfl
theorem f25_12 : amFetch 25 12 = some (.iload_n 1, 1, 0, 0, 0) := rfl
theorem f25_13 : amFetch 25 13 = some (.invokevirtual 44, 3, 0, 24, 1) := rfl
theorem f25_16 : amFetch 25 16 = some (.istore_n 2, 1, 0, 0, 0) := rfl
theorem f25_17 : amFetch 25 17 = some (.iload_n 2, 1, 0, 0, 0) := rfl
theorem f25_18 : amFetch 25 18 = some (.istore_n 3, 1, 0, 0, 0) := rfl
theorem f25_19 : amFetch 25 19 = some (.iconst 0, 1, 0, 0, 0) := rfl
theorem f25_20 : amFetch 25 20 = some (.istore 4, 2, 0, 0, 0) := rfl
theorem f25_22 : amFetch 25 22 = some (.iload 4, 2, 0, 0, 0) := rfl
theorem f25_24 : amFetch 25 24 = some (.aload_n 0, 1, 0, 0, 0) := rfl
theorem f25_25 : amFetch 25 25 = some (.invokevirtual 32, 3, 0, 14, 0) := rfl
theorem f25_28 : amFetch 25 28 = some (.if_icmp .ge 32, 3, 0, 0, 0) := rfl
theorem f25_31 : amFetch 25 31 = some (.iload_n 3, 1, 0, 0, 0) := rfl
theorem f25_32 : amFetch 25 32 = some (.iload_n 1, 1, 0, 0, 0) := rfl
theorem f25_33 : amFetch 25 33 = some (.if_icmp .eq 27, 3, 0, 0, 0) := rfl
theorem f25_36 : amFetch 25 36 = some (.aload_n 0, 1, 0, 0, 0) := rfl
theorem f25_37 : amFetch 25 37 = some (.iload_n 2, 1, 0, 0, 0) := rfl
theorem f25_38 : amFetch 25 38 = some (.aload_n 0, 1, 0, 0, 0) := rfl
theorem f25_39 : amFetch 25 39 = some (.iload_n 2, 1, 0, 0, 0) := rfl
theorem f25_40 : amFetch 25 40 = some (.invokevirtual 47, 3, 0, 26, 1) := rfl
theorem f25_43 : amFetch 25 43 = some (.iadd, 1, 0, 0, 0) := rfl
theorem f25_44 : amFetch 25 44 = some (.invokevirtual 40, 3, 0, 16, 1) := rfl
theorem f25_47 : amFetch 25 47 = some (.istore_n 2, 1, 0, 0, 0) := rfl
theorem f25_48 : amFetch 25 48 = some (.aload_n 0, 1, 0, 0, 0) := rfl
theorem f25_49 : amFetch 25 49 = some (.iload_n 3, 1, 0, 0, 0) := rfl
theorem f25_50 : amFetch 25 50 = some (.invokevirtual 50, 3, 0, 23, 1) := rfl
theorem f25_53 : amFetch 25 53 = some (.istore_n 3, 1, 0, 0, 0) := rfl
theorem f25_54 : amFetch 25 54 = some (.iinc 4 1, 3, 0, 0, 0) := rfl
theorem f25_57 : amFetch 25 57 = some (.goto (-35), 3, 0, 0, 0) := rfl
theorem f25_60 : amFetch 25 60 = some (.iload_n 2, 1, 0, 0, 0) := rfl
theorem f25_61 : amFetch 25 61 = some (.ireturn, 1, 0, 0, 0) := rfl
theorem ow25 : amOwnL 25 = some (2, 5) := rfl
-- X2_lengthOfRun
theorem f26_0 : amFetch 26 0 = some (.iconst 1, 1, 0, 0, 0) := rfl
theorem f26_1 : amFetch 26 1 = some (.istore_n 2, 1, 0, 0, 0) := rfl
theorem f26_2 : amFetch 26 2 = some (.iload_n 2, 1, 0, 0, 0) := rfl
theorem f26_3 : amFetch 26 3 = some (.aload_n 0, 1, 0, 0, 0) := rfl
theorem f26_4 : amFetch 26 4 = some (.invokevirtual 32, 3, 0, 14, 0) := rfl
theorem f26_7 : amFetch 26 7 = some (.if_icmp .ge 24, 3, 0, 0, 0) := rfl
theorem f26_10 : amFetch 26 10 = some (.aload_n 0, 1, 0, 0, 0) := rfl
theorem f26_11 : amFetch 26 11 = some (.getfield 22, 3, 2, 3, 0) := rfl
theorem f26_14 : amFetch 26 14 = some (.aload_n 0, 1, 0, 0, 0) := rfl
theorem f26_15 : amFetch 26 15 = some (.iload_n 1, 1, 0, 0, 0) := rfl
theorem f26_16 : amFetch 26 16 = some (.iload_n 2, 1, 0, 0, 0) := rfl
theorem f26_17 : amFetch 26 17 = some (.iadd, 1, 0, 0, 0) := rfl
theorem f26_18 : amFetch 26 18 = some (.invokevirtual 40, 3, 0, 16, 1) := rfl
theorem f26_21 : amFetch 26 21 = some (.baload, 1, 0, 0, 0) := rfl
theorem f26_22 : amFetch 26 22 = some (.ifCond .eq 9, 3, 0, 0, 0) := rfl
theorem f26_25 : amFetch 26 25 = some (.iinc 2 1, 3, 0, 0, 0) := rfl
theorem f26_28 : amFetch 26 28 = some (.goto (-26), 3, 0, 0, 0) := rfl
theorem f26_31 : amFetch 26 31 = some (.iload_n 2, 1, 0, 0, 0) := rfl
theorem f26_32 : amFetch 26 32 = some (.ireturn, 1, 0, 0, 0) := rfl
theorem ow26 : amOwnL 26 = some (2, 3) := rfl
-- X2_quotientOfEntry
theorem f27_0 : amFetch 27 0 = some (.aload_n 0, 1, 0, 0, 0) := rfl
theorem f27_1 : amFetch 27 1 = some (.iload_n 1, 1, 0, 0, 0) := rfl
theorem f27_2 : amFetch 27 2 = some (.invokevirtual 44, 3, 0, 24, 1) := rfl
theorem f27_5 : amFetch 27 5 = some (.istore_n 2, 1, 0, 0, 0) := rfl
theorem f27_6 : amFetch 27 6 = some (.iload_n 2, 1, 0, 0, 0) := rfl
theorem f27_7 : amFetch 27 7 = some (.istore_n 3, 1, 0, 0, 0) := rfl
theorem f27_8 : amFetch 27 8 = some (.iconst 0, 1, 0, 0, 0) := rfl
theorem f27_9 : amFetch 27 9 = some (.istore 4, 2, 0, 0, 0) := rfl
theorem f27_11 : amFetch 27 11 = some (.iload 4, 2, 0, 0, 0) := rfl
theorem f27_13 : amFetch 27 13 = some (.aload_n 0, 1, 0, 0, 0) := rfl
theorem f27_14 : amFetch 27 14 = some (.invokevirtual 32, 3, 0, 14, 0) := rfl
theorem f27_17 : amFetch 27 17 = some (.if_icmp .ge 37, 3, 0, 0, 0) := rfl
theorem f27_20 : amFetch 27 20 = some (.iload_n 2, 1, 0, 0, 0) := rfl
theorem f27_21 : amFetch 27 21 = some (.iload_n 1, 1, 0, 0, 0) := rfl
theorem f27_22 : amFetch 27 22 = some (.if_icmp .eq 32, 3, 0, 0, 0) := rfl
theorem f27_25 : amFetch 27 25 = some (.aload_n 0, 1, 0, 0, 0) := rfl
theorem f27_26 : amFetch 27 26 = some (.iload_n 2, 1, 0, 0, 0) := rfl
theorem f27_27 : amFetch 27 27 = some (.iconst 1, 1, 0, 0, 0) := rfl
theorem f27_28 : amFetch 27 28 = some (.iadd, 1, 0, 0, 0) := rfl
theorem f27_29 : amFetch 27 29 = some (.invokevirtual 40, 3, 0, 16, 1) := rfl
theorem f27_32 : amFetch 27 32 = some (.istore_n 2, 1, 0, 0, 0) := rfl
theorem f27_33 : amFetch 27 33 = some (.aload_n 0, 1, 0, 0, 0) := rfl
theorem f27_34 : amFetch 27 34 = some (.getfield 22, 3, 2, 3, 0) := rfl
theorem f27_37 : amFetch 27 37 = some (.iload_n 2, 1, 0, 0, 0) := rfl
theorem f27_38 : amFetch 27 38 = some (.baload, 1, 0, 0, 0) := rfl
theorem f27_39 : amFetch 27 39 = some (.ifCond .ne 9, 3, 0, 0, 0) := rfl
theorem f27_42 : amFetch 27 42 = some (.aload_n 0, 1, 0, 0, 0) := rfl
theorem f27_43 : amFetch 27 43 = some (.iload_n 3, 1, 0, 0, 0) := rfl
theorem f27_44 : amFetch 27 44 = some (.invokevirtual 50, 3, 0, 23, 1) := rfl
theorem f27_47 : amFetch 27 47 = some (.istore_n 3, 1, 0, 0, 0) := rfl
theorem f27_48 : amFetch 27 48 = some (.iinc 4 1, 3, 0, 0, 0) := rfl
theorem f27_51 : amFetch 27 51 = some (.goto (-40), 3, 0, 0, 0) := rfl
theorem f27_54 : amFetch 27 54 = some (.iload_n 3, 1, 0, 0, 0) := rfl
theorem f27_55 : amFetch 27 55 = some (.ireturn, 1, 0, 0, 0) := rfl
theorem ow27 : amOwnL 27 = some (2, 5) := rfl
-- X2_countInRun
theorem f28_0 : amFetch 28 0 = some (.aload_n 0, 1, 0, 0, 0) := rfl
theorem f28_1 : amFetch 28 1 = some (.aload_n 0, 1, 0, 0, 0) := rfl
theorem f28_2 : amFetch 28 2 = some (.iload_n 1, 1, 0, 0, 0) := rfl
theorem f28_3 : amFetch 28 3 = some (.invokevirtual 53, 3, 0, 17, 1) := rfl
theorem f28_6 : amFetch 28 6 = some (.invokevirtual 56, 3, 0, 25, 1) := rfl
theorem f28_9 : amFetch 28 9 = some (.istore_n 2, 1, 0, 0, 0) := rfl
theorem f28_10 : amFetch 28 10 = some (.iload_n 2, 1, 0, 0, 0) := rfl
theorem f28_11 : amFetch 28 11 = some (.iconst (-1), 1, 0, 0, 0) := rfl
theorem f28_12 : amFetch 28 12 = some (.if_icmp .ne 5, 3, 0, 0, 0) := rfl
theorem f28_15 : amFetch 28 15 = some (.iconst 0, 1, 0, 0, 0) := rfl
theorem f28_16 : amFetch 28 16 = some (.ireturn, 1, 0, 0, 0) := rfl
theorem f28_17 : amFetch 28 17 = some (.aload_n 0, 1, 0, 0, 0) := rfl
theorem f28_18 : amFetch 28 18 = some (.iload_n 1, 1, 0, 0, 0) := rfl
theorem f28_19 : amFetch 28 19 = some (.invokevirtual 59, 3, 0, 18, 1) := rfl
theorem f28_22 : amFetch 28 22 = some (.istore_n 3, 1, 0, 0, 0) := rfl
theorem f28_23 : amFetch 28 23 = some (.aload_n 0, 1, 0, 0, 0) := rfl
theorem f28_24 : amFetch 28 24 = some (.iload_n 2, 1, 0, 0, 0) := rfl
theorem f28_25 : amFetch 28 25 = some (.invokevirtual 47, 3, 0, 26, 1) := rfl
theorem f28_28 : amFetch 28 28 = some (.istore 4, 2, 0, 0, 0) := rfl
theorem f28_30 : amFetch 28 30 = some (.iconst 0, 1, 0, 0, 0) := rfl
theorem f28_31 : amFetch 28 31 = some (.istore 5, 2, 0, 0, 0) := rfl
theorem f28_33 : amFetch 28 33 = some (.iconst 0, 1, 0, 0, 0) := rfl
theorem f28_34 : amFetch 28 34 = some (.istore 6, 2, 0, 0, 0) := rfl
theorem f28_36 : amFetch 28 36 = some (.iload 6, 2, 0, 0, 0) := rfl
theorem f28_38 : amFetch 28 38 = some (.iload 4, 2, 0, 0, 0) := rfl
theorem f28_40 : amFetch 28 40 = some (.if_icmp .ge 46, 3, 0, 0, 0) := rfl
theorem f28_43 : amFetch 28 43 = some (.aload_n 0, 1, 0, 0, 0) := rfl
theorem f28_44 : amFetch 28 44 = some (.iload_n 2, 1, 0, 0, 0) := rfl
theorem f28_45 : amFetch 28 45 = some (.iload 6, 2, 0, 0, 0) := rfl
theorem f28_47 : amFetch 28 47 = some (.iadd, 1, 0, 0, 0) := rfl
theorem f28_48 : amFetch 28 48 = some (.invokevirtual 40, 3, 0, 16, 1) := rfl
theorem f28_51 : amFetch 28 51 = some (.istore 7, 2, 0, 0, 0) := rfl
theorem f28_53 : amFetch 28 53 = some (.iload 5, 2, 0, 0, 0) := rfl
theorem f28_55 : amFetch 28 55 = some (.aload_n 0, 1, 0, 0, 0) := rfl
theorem f28_56 : amFetch 28 56 = some (.getfield 9, 3, 2, 0, 0) := rfl
theorem f28_59 : amFetch 28 59 = some (.iload 7, 2, 0, 0, 0) := rfl
theorem f28_61 : amFetch 28 61 = some (.iaload, 1, 0, 0, 0) := rfl
theorem f28_62 : amFetch 28 62 = some (.iload_n 3, 1, 0, 0, 0) := rfl
theorem f28_63 : amFetch 28 63 = some (.if_icmp .ne 13, 3, 0, 0, 0) := rfl
theorem f28_66 : amFetch 28 66 = some (.aload_n 0, 1, 0, 0, 0) := rfl
theorem f28_67 : amFetch 28 67 = some (.getfield 15, 3, 2, 1, 0) := rfl
theorem f28_70 : amFetch 28 70 = some (.iload 7, 2, 0, 0, 0) := rfl
theorem f28_72 : amFetch 28 72 = some (.iaload, 1, 0, 0, 0) := rfl
theorem f28_73 : amFetch 28 73 = some (.goto 4, 3, 0, 0, 0) := rfl
theorem f28_76 : amFetch 28 76 = some (.iconst 0, 1, 0, 0, 0) := rfl
theorem f28_77 : amFetch 28 77 = some (.iadd, 1, 0, 0, 0) := rfl
theorem f28_78 : amFetch 28 78 = some (.istore 5, 2, 0, 0, 0) := rfl
theorem f28_80 : amFetch 28 80 = some (.iinc 6 1, 3, 0, 0, 0) := rfl
theorem f28_83 : amFetch 28 83 = some (.goto (-47), 3, 0, 0, 0) := rfl
theorem f28_86 : amFetch 28 86 = some (.iload 5, 2, 0, 0, 0) := rfl
theorem f28_88 : amFetch 28 88 = some (.ireturn, 1, 0, 0, 0) := rfl
theorem ow28 : amOwnL 28 = some (2, 8) := rfl
-- X2_looksFor
theorem f29_0 : amFetch 29 0 = some (.aload_n 0, 1, 0, 0, 0) := rfl
theorem f29_1 : amFetch 29 1 = some (.aload_n 0, 1, 0, 0, 0) := rfl
theorem f29_2 : amFetch 29 2 = some (.iload_n 1, 1, 0, 0, 0) := rfl
theorem f29_3 : amFetch 29 3 = some (.invokevirtual 53, 3, 0, 17, 1) := rfl
theorem f29_6 : amFetch 29 6 = some (.invokevirtual 56, 3, 0, 25, 1) := rfl
theorem f29_9 : amFetch 29 9 = some (.istore_n 2, 1, 0, 0, 0) := rfl
theorem f29_10 : amFetch 29 10 = some (.iload_n 2, 1, 0, 0, 0) := rfl
theorem f29_11 : amFetch 29 11 = some (.iconst (-1), 1, 0, 0, 0) := rfl
theorem f29_12 : amFetch 29 12 = some (.if_icmp .ne 5, 3, 0, 0, 0) := rfl
theorem f29_15 : amFetch 29 15 = some (.iconst 0, 1, 0, 0, 0) := rfl
theorem f29_16 : amFetch 29 16 = some (.ireturn, 1, 0, 0, 0) := rfl
theorem f29_17 : amFetch 29 17 = some (.aload_n 0, 1, 0, 0, 0) := rfl
theorem f29_18 : amFetch 29 18 = some (.iload_n 1, 1, 0, 0, 0) := rfl
theorem f29_19 : amFetch 29 19 = some (.invokevirtual 59, 3, 0, 18, 1) := rfl
theorem f29_22 : amFetch 29 22 = some (.istore_n 3, 1, 0, 0, 0) := rfl
theorem f29_23 : amFetch 29 23 = some (.aload_n 0, 1, 0, 0, 0) := rfl
theorem f29_24 : amFetch 29 24 = some (.iload_n 2, 1, 0, 0, 0) := rfl
theorem f29_25 : amFetch 29 25 = some (.invokevirtual 47, 3, 0, 26, 1) := rfl
theorem f29_28 : amFetch 29 28 = some (.istore 4, 2, 0, 0, 0) := rfl
theorem f29_30 : amFetch 29 30 = some (.iconst 0, 1, 0, 0, 0) := rfl
theorem f29_31 : amFetch 29 31 = some (.istore 5, 2, 0, 0, 0) := rfl
theorem f29_33 : amFetch 29 33 = some (.iload 5, 2, 0, 0, 0) := rfl
theorem f29_35 : amFetch 29 35 = some (.iload 4, 2, 0, 0, 0) := rfl
theorem f29_37 : amFetch 29 37 = some (.if_icmp .ge 31, 3, 0, 0, 0) := rfl
theorem f29_40 : amFetch 29 40 = some (.aload_n 0, 1, 0, 0, 0) := rfl
theorem f29_41 : amFetch 29 41 = some (.getfield 9, 3, 2, 0, 0) := rfl
theorem f29_44 : amFetch 29 44 = some (.aload_n 0, 1, 0, 0, 0) := rfl
theorem f29_45 : amFetch 29 45 = some (.iload_n 2, 1, 0, 0, 0) := rfl
theorem f29_46 : amFetch 29 46 = some (.iload 5, 2, 0, 0, 0) := rfl
theorem f29_48 : amFetch 29 48 = some (.iadd, 1, 0, 0, 0) := rfl
theorem f29_49 : amFetch 29 49 = some (.invokevirtual 40, 3, 0, 16, 1) := rfl
theorem f29_52 : amFetch 29 52 = some (.iaload, 1, 0, 0, 0) := rfl
theorem f29_53 : amFetch 29 53 = some (.iload_n 3, 1, 0, 0, 0) := rfl
theorem f29_54 : amFetch 29 54 = some (.if_icmp .lt 8, 3, 0, 0, 0) := rfl
theorem f29_57 : amFetch 29 57 = some (.iload 5, 2, 0, 0, 0) := rfl
theorem f29_59 : amFetch 29 59 = some (.iconst 1, 1, 0, 0, 0) := rfl
theorem f29_60 : amFetch 29 60 = some (.iadd, 1, 0, 0, 0) := rfl
theorem f29_61 : amFetch 29 61 = some (.ireturn, 1, 0, 0, 0) := rfl
theorem f29_62 : amFetch 29 62 = some (.iinc 5 1, 3, 0, 0, 0) := rfl
theorem f29_65 : amFetch 29 65 = some (.goto (-32), 3, 0, 0, 0) := rfl
theorem f29_68 : amFetch 29 68 = some (.iload 4, 2, 0, 0, 0) := rfl
theorem f29_70 : amFetch 29 70 = some (.ireturn, 1, 0, 0, 0) := rfl
theorem ow29 : amOwnL 29 = some (2, 6) := rfl
-- X2_lengthOfLongestCluster
theorem f30_0 : amFetch 30 0 = some (.aload_n 0, 1, 0, 0, 0) := rfl
theorem f30_1 : amFetch 30 1 = some (.invokevirtual 62, 3, 0, 22, 0) := rfl
theorem f30_4 : amFetch 30 4 = some (.istore_n 1, 1, 0, 0, 0) := rfl
theorem f30_5 : amFetch 30 5 = some (.iconst 0, 1, 0, 0, 0) := rfl
theorem f30_6 : amFetch 30 6 = some (.istore_n 2, 1, 0, 0, 0) := rfl
theorem f30_7 : amFetch 30 7 = some (.iconst 0, 1, 0, 0, 0) := rfl
theorem f30_8 : amFetch 30 8 = some (.istore_n 3, 1, 0, 0, 0) := rfl
theorem f30_9 : amFetch 30 9 = some (.iconst 0, 1, 0, 0, 0) := rfl
theorem f30_10 : amFetch 30 10 = some (.istore 4, 2, 0, 0, 0) := rfl
theorem f30_12 : amFetch 30 12 = some (.iload 4, 2, 0, 0, 0) := rfl
theorem f30_14 : amFetch 30 14 = some (.aload_n 0, 1, 0, 0, 0) := rfl
theorem f30_15 : amFetch 30 15 = some (.invokevirtual 32, 3, 0, 14, 0) := rfl
theorem f30_18 : amFetch 30 18 = some (.if_icmp .ge 52, 3, 0, 0, 0) := rfl
theorem f30_21 : amFetch 30 21 = some (.aload_n 0, 1, 0, 0, 0) := rfl
theorem f30_22 : amFetch 30 22 = some (.iload_n 1, 1, 0, 0, 0) := rfl
theorem f30_23 : amFetch 30 23 = some (.iload 4, 2, 0, 0, 0) := rfl
theorem f30_25 : amFetch 30 25 = some (.iadd, 1, 0, 0, 0) := rfl
theorem f30_26 : amFetch 30 26 = some (.invokevirtual 40, 3, 0, 16, 1) := rfl
theorem f30_29 : amFetch 30 29 = some (.istore 5, 2, 0, 0, 0) := rfl
theorem f30_31 : amFetch 30 31 = some (.aload_n 0, 1, 0, 0, 0) := rfl
theorem f30_32 : amFetch 30 32 = some (.iload 5, 2, 0, 0, 0) := rfl
theorem f30_34 : amFetch 30 34 = some (.invokevirtual 36, 3, 0, 15, 1) := rfl
theorem f30_37 : amFetch 30 37 = some (.ifCond .ne 27, 3, 0, 0, 0) := rfl
theorem f30_40 : amFetch 30 40 = some (.aload_n 0, 1, 0, 0, 0) := rfl
theorem f30_41 : amFetch 30 41 = some (.getfield 25, 3, 2, 4, 0) := rfl
theorem f30_44 : amFetch 30 44 = some (.iload 5, 2, 0, 0, 0) := rfl
theorem f30_46 : amFetch 30 46 = some (.baload, 1, 0, 0, 0) := rfl
theorem f30_47 : amFetch 30 47 = some (.ifCond .eq 9, 3, 0, 0, 0) := rfl
theorem f30_50 : amFetch 30 50 = some (.iload_n 3, 1, 0, 0, 0) := rfl
theorem f30_51 : amFetch 30 51 = some (.iconst 1, 1, 0, 0, 0) := rfl
theorem f30_52 : amFetch 30 52 = some (.iadd, 1, 0, 0, 0) := rfl
theorem f30_53 : amFetch 30 53 = some (.goto 4, 3, 0, 0, 0) := rfl
theorem f30_56 : amFetch 30 56 = some (.iconst 1, 1, 0, 0, 0) := rfl
theorem f30_57 : amFetch 30 57 = some (.istore_n 3, 1, 0, 0, 0) := rfl
theorem f30_58 : amFetch 30 58 = some (.iload_n 2, 1, 0, 0, 0) := rfl
theorem f30_59 : amFetch 30 59 = some (.iload_n 3, 1, 0, 0, 0) := rfl
theorem f30_60 : amFetch 30 60 = some (.invokestatic 65, 3, 4, 0, 2) := rfl
theorem f30_63 : amFetch 30 63 = some (.istore_n 2, 1, 0, 0, 0) := rfl
theorem f30_64 : amFetch 30 64 = some (.iinc 4 1, 3, 0, 0, 0) := rfl
theorem f30_67 : amFetch 30 67 = some (.goto (-55), 3, 0, 0, 0) := rfl
theorem f30_70 : amFetch 30 70 = some (.iload_n 2, 1, 0, 0, 0) := rfl
theorem f30_71 : amFetch 30 71 = some (.ireturn, 1, 0, 0, 0) := rfl
theorem ow30 : amOwnL 30 = some (2, 6) := rfl
-- X2_readInto
theorem f31_0 : amFetch 31 0 = some (.aload_n 1, 1, 0, 0, 0) := rfl
theorem f31_1 : amFetch 31 1 = some (.invokevirtual 71, 3, 0, 1, 0) := rfl
theorem f31_4 : amFetch 31 4 = some (.aload_n 0, 1, 0, 0, 0) := rfl
theorem f31_5 : amFetch 31 5 = some (.invokevirtual 32, 3, 0, 14, 0) := rfl
theorem f31_8 : amFetch 31 8 = some (.iconst 1, 1, 0, 0, 0) := rfl
theorem f31_9 : amFetch 31 9 = some (.isub, 1, 0, 0, 0) := rfl
theorem f31_10 : amFetch 31 10 = some (.istore_n 2, 1, 0, 0, 0) := rfl
theorem f31_11 : amFetch 31 11 = some (.aload_n 0, 1, 0, 0, 0) := rfl
theorem f31_12 : amFetch 31 12 = some (.aload_n 0, 1, 0, 0, 0) := rfl
theorem f31_13 : amFetch 31 13 = some (.iload_n 2, 1, 0, 0, 0) := rfl
theorem f31_14 : amFetch 31 14 = some (.invokevirtual 50, 3, 0, 23, 1) := rfl
theorem f31_17 : amFetch 31 17 = some (.invokevirtual 56, 3, 0, 25, 1) := rfl
theorem f31_20 : amFetch 31 20 = some (.istore_n 3, 1, 0, 0, 0) := rfl
theorem f31_21 : amFetch 31 21 = some (.iload_n 3, 1, 0, 0, 0) := rfl
theorem f31_22 : amFetch 31 22 = some (.iconst (-1), 1, 0, 0, 0) := rfl
theorem f31_23 : amFetch 31 23 = some (.if_icmp .ne 4, 3, 0, 0, 0) := rfl
theorem f31_26 : amFetch 31 26 = some (.return_, 1, 0, 0, 0) := rfl
theorem f31_27 : amFetch 31 27 = some (.iconst 0, 1, 0, 0, 0) := rfl
theorem f31_28 : amFetch 31 28 = some (.istore 4, 2, 0, 0, 0) := rfl
theorem f31_30 : amFetch 31 30 = some (.iload 4, 2, 0, 0, 0) := rfl
theorem f31_32 : amFetch 31 32 = some (.aload_n 0, 1, 0, 0, 0) := rfl
theorem f31_33 : amFetch 31 33 = some (.invokevirtual 32, 3, 0, 14, 0) := rfl
theorem f31_36 : amFetch 31 36 = some (.if_icmp .ge 71, 3, 0, 0, 0) := rfl
theorem f31_39 : amFetch 31 39 = some (.aload_n 0, 1, 0, 0, 0) := rfl
theorem f31_40 : amFetch 31 40 = some (.iload_n 3, 1, 0, 0, 0) := rfl
theorem f31_41 : amFetch 31 41 = some (.iload 4, 2, 0, 0, 0) := rfl
theorem f31_43 : amFetch 31 43 = some (.iadd, 1, 0, 0, 0) := rfl
theorem f31_44 : amFetch 31 44 = some (.invokevirtual 40, 3, 0, 16, 1) := rfl
theorem f31_47 : amFetch 31 47 = some (.istore 5, 2, 0, 0, 0) := rfl
theorem f31_49 : amFetch 31 49 = some (.aload_n 0, 1, 0, 0, 0) := rfl
theorem f31_50 : amFetch 31 50 = some (.iload 5, 2, 0, 0, 0) := rfl
theorem f31_52 : amFetch 31 52 = some (.invokevirtual 36, 3, 0, 15, 1) := rfl
theorem f31_55 : amFetch 31 55 = some (.ifCond .ne 46, 3, 0, 0, 0) := rfl
theorem f31_58 : amFetch 31 58 = some (.aload_n 0, 1, 0, 0, 0) := rfl
theorem f31_59 : amFetch 31 59 = some (.getfield 22, 3, 2, 3, 0) := rfl
theorem f31_62 : amFetch 31 62 = some (.iload 5, 2, 0, 0, 0) := rfl
theorem f31_64 : amFetch 31 64 = some (.baload, 1, 0, 0, 0) := rfl
theorem f31_65 : amFetch 31 65 = some (.ifCond .eq 7, 3, 0, 0, 0) := rfl
theorem f31_68 : amFetch 31 68 = some (.iload_n 2, 1, 0, 0, 0) := rfl
theorem f31_69 : amFetch 31 69 = some (.goto 8, 3, 0, 0, 0) := rfl
theorem f31_72 : amFetch 31 72 = some (.aload_n 0, 1, 0, 0, 0) := rfl
theorem f31_73 : amFetch 31 73 = some (.iload_n 2, 1, 0, 0, 0) := rfl
theorem f31_74 : amFetch 31 74 = some (.invokevirtual 50, 3, 0, 23, 1) := rfl
theorem f31_77 : amFetch 31 77 = some (.istore_n 2, 1, 0, 0, 0) := rfl
theorem f31_78 : amFetch 31 78 = some (.aload_n 1, 1, 0, 0, 0) := rfl
theorem f31_79 : amFetch 31 79 = some (.aload_n 0, 1, 0, 0, 0) := rfl
theorem f31_80 : amFetch 31 80 = some (.iload_n 2, 1, 0, 0, 0) := rfl
theorem f31_81 : amFetch 31 81 = some (.aload_n 0, 1, 0, 0, 0) := rfl
theorem f31_82 : amFetch 31 82 = some (.getfield 9, 3, 2, 0, 0) := rfl
theorem f31_85 : amFetch 31 85 = some (.iload 5, 2, 0, 0, 0) := rfl
theorem f31_87 : amFetch 31 87 = some (.iaload, 1, 0, 0, 0) := rfl
theorem f31_88 : amFetch 31 88 = some (.invokevirtual 76, 3, 0, 19, 2) := rfl
theorem f31_91 : amFetch 31 91 = some (.aload_n 0, 1, 0, 0, 0) := rfl
theorem f31_92 : amFetch 31 92 = some (.getfield 15, 3, 2, 1, 0) := rfl
theorem f31_95 : amFetch 31 95 = some (.iload 5, 2, 0, 0, 0) := rfl
theorem f31_97 : amFetch 31 97 = some (.iaload, 1, 0, 0, 0) := rfl
theorem f31_98 : amFetch 31 98 = some (.invokevirtual 79, 3, 0, 2, 2) := rfl
theorem f31_101 : amFetch 31 101 = some (.iinc 4 1, 3, 0, 0, 0) := rfl
theorem f31_104 : amFetch 31 104 = some (.goto (-74), 3, 0, 0, 0) := rfl
theorem f31_107 : amFetch 31 107 = some (.return_, 1, 0, 0, 0) := rfl
theorem ow31 : amOwnL 31 = some (2, 6) := rfl
-- X2_wipe
theorem f32_0 : amFetch 32 0 = some (.iconst 0, 1, 0, 0, 0) := rfl
theorem f32_1 : amFetch 32 1 = some (.istore_n 1, 1, 0, 0, 0) := rfl
theorem f32_2 : amFetch 32 2 = some (.iload_n 1, 1, 0, 0, 0) := rfl
theorem f32_3 : amFetch 32 3 = some (.sipush 256, 3, 0, 0, 0) := rfl
theorem f32_6 : amFetch 32 6 = some (.if_icmp .ge 44, 3, 0, 0, 0) := rfl
theorem f32_9 : amFetch 32 9 = some (.aload_n 0, 1, 0, 0, 0) := rfl
theorem f32_10 : amFetch 32 10 = some (.getfield 9, 3, 2, 0, 0) := rfl
theorem f32_13 : amFetch 32 13 = some (.iload_n 1, 1, 0, 0, 0) := rfl
theorem f32_14 : amFetch 32 14 = some (.iconst 0, 1, 0, 0, 0) := rfl
theorem f32_15 : amFetch 32 15 = some (.iastore, 1, 0, 0, 0) := rfl
theorem f32_16 : amFetch 32 16 = some (.aload_n 0, 1, 0, 0, 0) := rfl
theorem f32_17 : amFetch 32 17 = some (.getfield 15, 3, 2, 1, 0) := rfl
theorem f32_20 : amFetch 32 20 = some (.iload_n 1, 1, 0, 0, 0) := rfl
theorem f32_21 : amFetch 32 21 = some (.iconst 0, 1, 0, 0, 0) := rfl
theorem f32_22 : amFetch 32 22 = some (.iastore, 1, 0, 0, 0) := rfl
theorem f32_23 : amFetch 32 23 = some (.aload_n 0, 1, 0, 0, 0) := rfl
theorem f32_24 : amFetch 32 24 = some (.getfield 18, 3, 2, 2, 0) := rfl
theorem f32_27 : amFetch 32 27 = some (.iload_n 1, 1, 0, 0, 0) := rfl
theorem f32_28 : amFetch 32 28 = some (.iconst 0, 1, 0, 0, 0) := rfl
theorem f32_29 : amFetch 32 29 = some (.bastore, 1, 0, 0, 0) := rfl
theorem f32_30 : amFetch 32 30 = some (.aload_n 0, 1, 0, 0, 0) := rfl
theorem f32_31 : amFetch 32 31 = some (.getfield 22, 3, 2, 3, 0) := rfl
theorem f32_34 : amFetch 32 34 = some (.iload_n 1, 1, 0, 0, 0) := rfl
theorem f32_35 : amFetch 32 35 = some (.iconst 0, 1, 0, 0, 0) := rfl
theorem f32_36 : amFetch 32 36 = some (.bastore, 1, 0, 0, 0) := rfl
theorem f32_37 : amFetch 32 37 = some (.aload_n 0, 1, 0, 0, 0) := rfl
theorem f32_38 : amFetch 32 38 = some (.getfield 25, 3, 2, 4, 0) := rfl
theorem f32_41 : amFetch 32 41 = some (.iload_n 1, 1, 0, 0, 0) := rfl
theorem f32_42 : amFetch 32 42 = some (.iconst 0, 1, 0, 0, 0) := rfl
theorem f32_43 : amFetch 32 43 = some (.bastore, 1, 0, 0, 0) := rfl
theorem f32_44 : amFetch 32 44 = some (.iinc 1 1, 3, 0, 0, 0) := rfl
theorem f32_47 : amFetch 32 47 = some (.goto (-45), 3, 0, 0, 0) := rfl
theorem f32_50 : amFetch 32 50 = some (.return_, 1, 0, 0, 0) := rfl
theorem ow32 : amOwnL 32 = some (2, 2) := rfl
-- X2_fill
theorem f33_0 : amFetch 33 0 = some (.aload_n 0, 1, 0, 0, 0) := rfl
theorem f33_1 : amFetch 33 1 = some (.invokevirtual 83, 3, 0, 32, 0) := rfl
theorem f33_4 : amFetch 33 4 = some (.aload_n 0, 1, 0, 0, 0) := rfl
theorem f33_5 : amFetch 33 5 = some (.iload_n 1, 1, 0, 0, 0) := rfl
theorem f33_6 : amFetch 33 6 = some (.putfield 28, 3, 2, 5, 0) := rfl
theorem f33_9 : amFetch 33 9 = some (.iconst 0, 1, 0, 0, 0) := rfl
theorem f33_10 : amFetch 33 10 = some (.aload_n 0, 1, 0, 0, 0) := rfl
theorem f33_11 : amFetch 33 11 = some (.aload_n 2, 1, 0, 0, 0) := rfl
theorem f33_12 : amFetch 33 12 = some (.invokevirtual 86, 3, 0, 34, 1) := rfl
theorem f33_15 : amFetch 33 15 = some (.aload_n 0, 1, 0, 0, 0) := rfl
theorem f33_16 : amFetch 33 16 = some (.invokevirtual 32, 3, 0, 14, 0) := rfl
theorem f33_19 : amFetch 33 19 = some (.isub, 1, 0, 0, 0) := rfl
theorem f33_20 : amFetch 33 20 = some (.invokestatic 65, 3, 4, 0, 2) := rfl
theorem f33_23 : amFetch 33 23 = some (.istore_n 3, 1, 0, 0, 0) := rfl
theorem f33_24 : amFetch 33 24 = some (.iconst 0, 1, 0, 0, 0) := rfl
theorem f33_25 : amFetch 33 25 = some (.istore 4, 2, 0, 0, 0) := rfl
theorem f33_27 : amFetch 33 27 = some (.iload 4, 2, 0, 0, 0) := rfl
theorem f33_29 : amFetch 33 29 = some (.aload_n 2, 1, 0, 0, 0) := rfl
theorem f33_30 : amFetch 33 30 = some (.getfield 90, 3, 0, 2, 0) := rfl
theorem f33_33 : amFetch 33 33 = some (.if_icmp .ge 57, 3, 0, 0, 0) := rfl
theorem f33_36 : amFetch 33 36 = some (.iload_n 3, 1, 0, 0, 0) := rfl
theorem f33_37 : amFetch 33 37 = some (.aload_n 0, 1, 0, 0, 0) := rfl
theorem f33_38 : amFetch 33 38 = some (.aload_n 2, 1, 0, 0, 0) := rfl
theorem f33_39 : amFetch 33 39 = some (.getfield 93, 3, 0, 0, 0) := rfl
theorem f33_42 : amFetch 33 42 = some (.iload 4, 2, 0, 0, 0) := rfl
theorem f33_44 : amFetch 33 44 = some (.iaload, 1, 0, 0, 0) := rfl
theorem f33_45 : amFetch 33 45 = some (.invokevirtual 53, 3, 0, 17, 1) := rfl
theorem f33_48 : amFetch 33 48 = some (.invokestatic 65, 3, 4, 0, 2) := rfl
theorem f33_51 : amFetch 33 51 = some (.istore_n 3, 1, 0, 0, 0) := rfl
theorem f33_52 : amFetch 33 52 = some (.aload_n 0, 1, 0, 0, 0) := rfl
theorem f33_53 : amFetch 33 53 = some (.iload_n 3, 1, 0, 0, 0) := rfl
theorem f33_54 : amFetch 33 54 = some (.aload_n 2, 1, 0, 0, 0) := rfl
theorem f33_55 : amFetch 33 55 = some (.getfield 93, 3, 0, 0, 0) := rfl
theorem f33_58 : amFetch 33 58 = some (.iload 4, 2, 0, 0, 0) := rfl
theorem f33_60 : amFetch 33 60 = some (.iaload, 1, 0, 0, 0) := rfl
theorem f33_61 : amFetch 33 61 = some (.aload_n 2, 1, 0, 0, 0) := rfl
theorem f33_62 : amFetch 33 62 = some (.getfield 96, 3, 0, 1, 0) := rfl
theorem f33_65 : amFetch 33 65 = some (.iload 4, 2, 0, 0, 0) := rfl
theorem f33_67 : amFetch 33 67 = some (.iaload, 1, 0, 0, 0) := rfl
theorem f33_68 : amFetch 33 68 = some (.invokevirtual 99, 3, 0, 35, 3) := rfl
theorem f33_71 : amFetch 33 71 = some (.iload_n 3, 1, 0, 0, 0) := rfl
theorem f33_72 : amFetch 33 72 = some (.aload_n 2, 1, 0, 0, 0) := rfl
theorem f33_73 : amFetch 33 73 = some (.getfield 96, 3, 0, 1, 0) := rfl
theorem f33_76 : amFetch 33 76 = some (.iload 4, 2, 0, 0, 0) := rfl
theorem f33_78 : amFetch 33 78 = some (.iaload, 1, 0, 0, 0) := rfl
theorem f33_79 : amFetch 33 79 = some (.invokestatic 103, 3, 2, 73, 1) := rfl
theorem f33_82 : amFetch 33 82 = some (.iadd, 1, 0, 0, 0) := rfl
theorem f33_83 : amFetch 33 83 = some (.istore_n 3, 1, 0, 0, 0) := rfl
theorem f33_84 : amFetch 33 84 = some (.iinc 4 1, 3, 0, 0, 0) := rfl
theorem f33_87 : amFetch 33 87 = some (.goto (-60), 3, 0, 0, 0) := rfl
theorem f33_90 : amFetch 33 90 = some (.return_, 1, 0, 0, 0) := rfl
theorem ow33 : amOwnL 33 = some (2, 5) := rfl
-- X2_endInLine
theorem f34_0 : amFetch 34 0 = some (.iconst 0, 1, 0, 0, 0) := rfl
theorem f34_1 : amFetch 34 1 = some (.istore_n 2, 1, 0, 0, 0) := rfl
theorem f34_2 : amFetch 34 2 = some (.iconst 0, 1, 0, 0, 0) := rfl
theorem f34_3 : amFetch 34 3 = some (.istore_n 3, 1, 0, 0, 0) := rfl
theorem f34_4 : amFetch 34 4 = some (.iload_n 3, 1, 0, 0, 0) := rfl
theorem f34_5 : amFetch 34 5 = some (.aload_n 1, 1, 0, 0, 0) := rfl
theorem f34_6 : amFetch 34 6 = some (.getfield 90, 3, 0, 2, 0) := rfl
theorem f34_9 : amFetch 34 9 = some (.if_icmp .ge 34, 3, 0, 0, 0) := rfl
theorem f34_12 : amFetch 34 12 = some (.iload_n 2, 1, 0, 0, 0) := rfl
theorem f34_13 : amFetch 34 13 = some (.aload_n 0, 1, 0, 0, 0) := rfl
theorem f34_14 : amFetch 34 14 = some (.aload_n 1, 1, 0, 0, 0) := rfl
theorem f34_15 : amFetch 34 15 = some (.getfield 93, 3, 0, 0, 0) := rfl
theorem f34_18 : amFetch 34 18 = some (.iload_n 3, 1, 0, 0, 0) := rfl
theorem f34_19 : amFetch 34 19 = some (.iaload, 1, 0, 0, 0) := rfl
theorem f34_20 : amFetch 34 20 = some (.invokevirtual 53, 3, 0, 17, 1) := rfl
theorem f34_23 : amFetch 34 23 = some (.invokestatic 65, 3, 4, 0, 2) := rfl
theorem f34_26 : amFetch 34 26 = some (.aload_n 1, 1, 0, 0, 0) := rfl
theorem f34_27 : amFetch 34 27 = some (.getfield 96, 3, 0, 1, 0) := rfl
theorem f34_30 : amFetch 34 30 = some (.iload_n 3, 1, 0, 0, 0) := rfl
theorem f34_31 : amFetch 34 31 = some (.iaload, 1, 0, 0, 0) := rfl
theorem f34_32 : amFetch 34 32 = some (.invokestatic 103, 3, 2, 73, 1) := rfl
theorem f34_35 : amFetch 34 35 = some (.iadd, 1, 0, 0, 0) := rfl
theorem f34_36 : amFetch 34 36 = some (.istore_n 2, 1, 0, 0, 0) := rfl
theorem f34_37 : amFetch 34 37 = some (.iinc 3 1, 3, 0, 0, 0) := rfl
theorem f34_40 : amFetch 34 40 = some (.goto (-36), 3, 0, 0, 0) := rfl
theorem f34_43 : amFetch 34 43 = some (.iload_n 2, 1, 0, 0, 0) := rfl
theorem f34_44 : amFetch 34 44 = some (.ireturn, 1, 0, 0, 0) := rfl
theorem ow34 : amOwnL 34 = some (2, 4) := rfl
-- X2_writeEntries
theorem f35_0 : amFetch 35 0 = some (.aload_n 0, 1, 0, 0, 0) := rfl
theorem f35_1 : amFetch 35 1 = some (.iload_n 2, 1, 0, 0, 0) := rfl
theorem f35_2 : amFetch 35 2 = some (.invokevirtual 53, 3, 0, 17, 1) := rfl
theorem f35_5 : amFetch 35 5 = some (.istore 4, 2, 0, 0, 0) := rfl
theorem f35_7 : amFetch 35 7 = some (.iload_n 1, 1, 0, 0, 0) := rfl
theorem f35_8 : amFetch 35 8 = some (.istore 5, 2, 0, 0, 0) := rfl
theorem f35_10 : amFetch 35 10 = some (.iload_n 3, 1, 0, 0, 0) := rfl
theorem f35_11 : amFetch 35 11 = some (.istore 6, 2, 0, 0, 0) := rfl
theorem f35_13 : amFetch 35 13 = some (.iload 6, 2, 0, 0, 0) := rfl
theorem f35_15 : amFetch 35 15 = some (.ifCond .le 87, 3, 0, 0, 0) := rfl
theorem f35_18 : amFetch 35 18 = some (.aload_n 0, 1, 0, 0, 0) := rfl
theorem f35_19 : amFetch 35 19 = some (.iload 5, 2, 0, 0, 0) := rfl
theorem f35_21 : amFetch 35 21 = some (.invokevirtual 40, 3, 0, 16, 1) := rfl
theorem f35_24 : amFetch 35 24 = some (.istore 7, 2, 0, 0, 0) := rfl
theorem f35_26 : amFetch 35 26 = some (.aload_n 0, 1, 0, 0, 0) := rfl
theorem f35_27 : amFetch 35 27 = some (.getfield 9, 3, 2, 0, 0) := rfl
theorem f35_30 : amFetch 35 30 = some (.iload 7, 2, 0, 0, 0) := rfl
theorem f35_32 : amFetch 35 32 = some (.aload_n 0, 1, 0, 0, 0) := rfl
theorem f35_33 : amFetch 35 33 = some (.iload_n 2, 1, 0, 0, 0) := rfl
theorem f35_34 : amFetch 35 34 = some (.invokevirtual 59, 3, 0, 18, 1) := rfl
theorem f35_37 : amFetch 35 37 = some (.iastore, 1, 0, 0, 0) := rfl
theorem f35_38 : amFetch 35 38 = some (.aload_n 0, 1, 0, 0, 0) := rfl
theorem f35_39 : amFetch 35 39 = some (.getfield 15, 3, 2, 1, 0) := rfl
theorem f35_42 : amFetch 35 42 = some (.iload 7, 2, 0, 0, 0) := rfl
theorem f35_44 : amFetch 35 44 = some (.iload 6, 2, 0, 0, 0) := rfl
theorem f35_46 : amFetch 35 46 = some (.bipush 7, 2, 0, 0, 0) := rfl
theorem f35_48 : amFetch 35 48 = some (.invokestatic 106, 3, 5, 0, 2) := rfl
theorem f35_51 : amFetch 35 51 = some (.iastore, 1, 0, 0, 0) := rfl
theorem f35_52 : amFetch 35 52 = some (.aload_n 0, 1, 0, 0, 0) := rfl
theorem f35_53 : amFetch 35 53 = some (.getfield 22, 3, 2, 3, 0) := rfl
theorem f35_56 : amFetch 35 56 = some (.iload 7, 2, 0, 0, 0) := rfl
theorem f35_58 : amFetch 35 58 = some (.aload_n 0, 1, 0, 0, 0) := rfl
theorem f35_59 : amFetch 35 59 = some (.getfield 18, 3, 2, 2, 0) := rfl
theorem f35_62 : amFetch 35 62 = some (.iload 4, 2, 0, 0, 0) := rfl
theorem f35_64 : amFetch 35 64 = some (.baload, 1, 0, 0, 0) := rfl
theorem f35_65 : amFetch 35 65 = some (.bastore, 1, 0, 0, 0) := rfl
theorem f35_66 : amFetch 35 66 = some (.aload_n 0, 1, 0, 0, 0) := rfl
theorem f35_67 : amFetch 35 67 = some (.getfield 25, 3, 2, 4, 0) := rfl
theorem f35_70 : amFetch 35 70 = some (.iload 7, 2, 0, 0, 0) := rfl
theorem f35_72 : amFetch 35 72 = some (.iload 7, 2, 0, 0, 0) := rfl
theorem f35_74 : amFetch 35 74 = some (.iload 4, 2, 0, 0, 0) := rfl
theorem f35_76 : amFetch 35 76 = some (.if_icmp .eq 7, 3, 0, 0, 0) := rfl
theorem f35_79 : amFetch 35 79 = some (.iconst 1, 1, 0, 0, 0) := rfl
theorem f35_80 : amFetch 35 80 = some (.goto 4, 3, 0, 0, 0) := rfl
theorem f35_83 : amFetch 35 83 = some (.iconst 0, 1, 0, 0, 0) := rfl
theorem f35_84 : amFetch 35 84 = some (.bastore, 1, 0, 0, 0) := rfl
theorem f35_85 : amFetch 35 85 = some (.aload_n 0, 1, 0, 0, 0) := rfl
theorem f35_86 : amFetch 35 86 = some (.getfield 18, 3, 2, 2, 0) := rfl
theorem f35_89 : amFetch 35 89 = some (.iload 4, 2, 0, 0, 0) := rfl
theorem f35_91 : amFetch 35 91 = some (.iconst 1, 1, 0, 0, 0) := rfl
theorem f35_92 : amFetch 35 92 = some (.bastore, 1, 0, 0, 0) := rfl
theorem f35_93 : amFetch 35 93 = some (.iinc 5 1, 3, 0, 0, 0) := rfl
theorem f35_96 : amFetch 35 96 = some (.iinc 6 (-7), 3, 0, 0, 0) := rfl
theorem f35_99 : amFetch 35 99 = some (.goto (-86), 3, 0, 0, 0) := rfl
theorem f35_102 : amFetch 35 102 = some (.return_, 1, 0, 0, 0) := rfl
theorem ow35 : amOwnL 35 = some (2, 8) := rfl
-- X3_init
theorem f36_0 : amFetch 36 0 = some (.aload_n 0, 1, 0, 0, 0) := rfl
theorem f36_1 : amFetch 36 1 = some (.invokespecial 3, 3, 6, 0, 0) := rfl
theorem f36_4 : amFetch 36 4 = some (.aload_n 0, 1, 0, 0, 0) := rfl
theorem f36_5 : amFetch 36 5 = some (.iconst 4, 1, 0, 0, 0) := rfl
theorem f36_6 : amFetch 36 6 = some (.anewarray 9, 3, 0, 2, 0) := rfl
theorem f36_9 : amFetch 36 9 = some (.putfield 11, 3, 3, 0, 0) := rfl
theorem f36_12 : amFetch 36 12 = some (.iconst 0, 1, 0, 0, 0) := rfl
theorem f36_13 : amFetch 36 13 = some (.istore_n 1, 1, 0, 0, 0) := rfl
theorem f36_14 : amFetch 36 14 = some (.iload_n 1, 1, 0, 0, 0) := rfl
theorem f36_15 : amFetch 36 15 = some (.aload_n 0, 1, 0, 0, 0) := rfl
theorem f36_16 : amFetch 36 16 = some (.getfield 11, 3, 3, 0, 0) := rfl
theorem f36_19 : amFetch 36 19 = some (.arraylength, 1, 0, 0, 0) := rfl
theorem f36_20 : amFetch 36 20 = some (.if_icmp .ge 22, 3, 0, 0, 0) := rfl
theorem f36_23 : amFetch 36 23 = some (.aload_n 0, 1, 0, 0, 0) := rfl
theorem f36_24 : amFetch 36 24 = some (.getfield 11, 3, 3, 0, 0) := rfl
theorem f36_27 : amFetch 36 27 = some (.iload_n 1, 1, 0, 0, 0) := rfl
theorem f36_28 : amFetch 36 28 = some (.new 9, 3, 0, 2, 0) := rfl
theorem f36_31 : amFetch 36 31 = some (.dup, 1, 0, 0, 0) := rfl
theorem f36_32 : amFetch 36 32 = some (.invokespecial 15, 3, 3, 13, 0) := rfl
theorem f36_35 : amFetch 36 35 = some (.aastore, 1, 0, 0, 0) := rfl
theorem f36_36 : amFetch 36 36 = some (.iinc 1 1, 3, 0, 0, 0) := rfl
theorem f36_39 : amFetch 36 39 = some (.goto (-25), 3, 0, 0, 0) := rfl
theorem f36_42 : amFetch 36 42 = some (.aload_n 0, 1, 0, 0, 0) := rfl
theorem f36_43 : amFetch 36 43 = some (.new 16, 3, 0, 0, 0) := rfl
theorem f36_46 : amFetch 36 46 = some (.dup, 1, 0, 0, 0) := rfl
theorem f36_47 : amFetch 36 47 = some (.invokespecial 18, 3, 3, 0, 0) := rfl
theorem f36_50 : amFetch 36 50 = some (.putfield 19, 3, 3, 1, 0) := rfl
theorem f36_53 : amFetch 36 53 = some (.aload_n 0, 1, 0, 0, 0) := rfl
theorem f36_54 : amFetch 36 54 = some (.new 16, 3, 0, 0, 0) := rfl
theorem f36_57 : amFetch 36 57 = some (.dup, 1, 0, 0, 0) := rfl
theorem f36_58 : amFetch 36 58 = some (.invokespecial 18, 3, 3, 0, 0) := rfl
theorem f36_61 : amFetch 36 61 = some (.putfield 23, 3, 3, 2, 0) := rfl
theorem f36_64 : amFetch 36 64 = some (.aload_n 0, 1, 0, 0, 0) := rfl
theorem f36_65 : amFetch 36 65 = some (.new 16, 3, 0, 0, 0) := rfl
theorem f36_68 : amFetch 36 68 = some (.dup, 1, 0, 0, 0) := rfl
theorem f36_69 : amFetch 36 69 = some (.invokespecial 18, 3, 3, 0, 0) := rfl
theorem f36_72 : amFetch 36 72 = some (.putfield 26, 3, 3, 3, 0) := rfl
theorem f36_75 : amFetch 36 75 = some (.aload_n 0, 1, 0, 0, 0) := rfl
theorem f36_76 : amFetch 36 76 = some (.new 29, 3, 0, 1, 0) := rfl
theorem f36_79 : amFetch 36 79 = some (.dup, 1, 0, 0, 0) := rfl
theorem f36_80 : amFetch 36 80 = some (.invokespecial 31, 3, 3, 9, 0) := rfl
theorem f36_83 : amFetch 36 83 = some (.putfield 32, 3, 3, 4, 0) := rfl
theorem f36_86 : amFetch 36 86 = some (.return_, 1, 0, 0, 0) := rfl
theorem ow36 : amOwnL 36 = some (3, 2) := rfl
-- X3_fingerprint
theorem f37_0 : amFetch 37 0 = some (.iload_n 1, 1, 0, 0, 0) := rfl
theorem f37_1 : amFetch 37 1 = some (.ldc 36, 2, 0, 0, (-1640531527)) := rfl
theorem f37_3 : amFetch 37 3 = some (.imul, 1, 0, 0, 0) := rfl
theorem f37_4 : amFetch 37 4 = some (.bipush 20, 2, 0, 0, 0) := rfl
theorem f37_6 : amFetch 37 6 = some (.iushr, 1, 0, 0, 0) := rfl
theorem f37_7 : amFetch 37 7 = some (.ireturn, 1, 0, 0, 0) := rfl
theorem ow37 : amOwnL 37 = some (3, 2) := rfl
-- X3_insert
theorem f38_0 : amFetch 38 0 = some (.aload_n 0, 1, 0, 0, 0) := rfl
theorem f38_1 : amFetch 38 1 = some (.iload_n 1, 1, 0, 0, 0) := rfl
theorem f38_2 : amFetch 38 2 = some (.invokevirtual 37, 3, 0, 67, 1) := rfl
theorem f38_5 : amFetch 38 5 = some (.astore_n 3, 1, 0, 0, 0) := rfl
theorem f38_6 : amFetch 38 6 = some (.aload_n 0, 1, 0, 0, 0) := rfl
theorem f38_7 : amFetch 38 7 = some (.aload_n 3, 1, 0, 0, 0) := rfl
theorem f38_8 : amFetch 38 8 = some (.aload_n 0, 1, 0, 0, 0) := rfl
theorem f38_9 : amFetch 38 9 = some (.iload_n 2, 1, 0, 0, 0) := rfl
theorem f38_10 : amFetch 38 10 = some (.invokevirtual 41, 3, 0, 37, 1) := rfl
theorem f38_13 : amFetch 38 13 = some (.iconst 1, 1, 0, 0, 0) := rfl
theorem f38_14 : amFetch 38 14 = some (.invokevirtual 45, 3, 0, 74, 3) := rfl
theorem f38_17 : amFetch 38 17 = some (.ireturn, 1, 0, 0, 0) := rfl
theorem ow38 : amOwnL 38 = some (3, 4) := rfl
-- X3_remove
theorem f39_0 : amFetch 39 0 = some (.aload_n 0, 1, 0, 0, 0) := rfl
theorem f39_1 : amFetch 39 1 = some (.iload_n 1, 1, 0, 0, 0) := rfl
theorem f39_2 : amFetch 39 2 = some (.invokevirtual 37, 3, 0, 67, 1) := rfl
theorem f39_5 : amFetch 39 5 = some (.astore_n 3, 1, 0, 0, 0) := rfl
theorem f39_6 : amFetch 39 6 = some (.aload_n 0, 1, 0, 0, 0) := rfl
theorem f39_7 : amFetch 39 7 = some (.aload_n 3, 1, 0, 0, 0) := rfl
theorem f39_8 : amFetch 39 8 = some (.aload_n 0, 1, 0, 0, 0) := rfl
theorem f39_9 : amFetch 39 9 = some (.iload_n 2, 1, 0, 0, 0) := rfl
theorem f39_10 : amFetch 39 10 = some (.invokevirtual 41, 3, 0, 37, 1) := rfl
theorem f39_13 : amFetch 39 13 = some (.iconst 1, 1, 0, 0, 0) := rfl
theorem f39_14 : amFetch 39 14 = some (.invokevirtual 49, 3, 0, 75, 3) := rfl
theorem f39_17 : amFetch 39 17 = some (.iconst 1, 1, 0, 0, 0) := rfl
theorem f39_18 : amFetch 39 18 = some (.if_icmp .ne 7, 3, 0, 0, 0) := rfl
theorem f39_21 : amFetch 39 21 = some (.iconst 1, 1, 0, 0, 0) := rfl
theorem f39_22 : amFetch 39 22 = some (.goto 4, 3, 0, 0, 0) := rfl
theorem f39_25 : amFetch 39 25 = some (.iconst 0, 1, 0, 0, 0) := rfl
theorem f39_26 : amFetch 39 26 = some (.ireturn, 1, 0, 0, 0) := rfl
theorem ow39 : amOwnL 39 = some (3, 4) := rfl
-- X3_count
theorem f40_0 : amFetch 40 0 = some (.aload_n 0, 1, 0, 0, 0) := rfl
theorem f40_1 : amFetch 40 1 = some (.iload_n 1, 1, 0, 0, 0) := rfl
theorem f40_2 : amFetch 40 2 = some (.invokevirtual 37, 3, 0, 67, 1) := rfl
theorem f40_5 : amFetch 40 5 = some (.astore_n 3, 1, 0, 0, 0) := rfl
theorem f40_6 : amFetch 40 6 = some (.aload_n 3, 1, 0, 0, 0) := rfl
theorem f40_7 : amFetch 40 7 = some (.aload_n 0, 1, 0, 0, 0) := rfl
theorem f40_8 : amFetch 40 8 = some (.iload_n 2, 1, 0, 0, 0) := rfl
theorem f40_9 : amFetch 40 9 = some (.invokevirtual 41, 3, 0, 37, 1) := rfl
theorem f40_12 : amFetch 40 12 = some (.invokevirtual 52, 3, 0, 28, 1) := rfl
theorem f40_15 : amFetch 40 15 = some (.ireturn, 1, 0, 0, 0) := rfl
theorem ow40 : amOwnL 40 = some (3, 4) := rfl
-- X3_add
theorem f41_0 : amFetch 41 0 = some (.aload_n 0, 1, 0, 0, 0) := rfl
theorem f41_1 : amFetch 41 1 = some (.iload_n 1, 1, 0, 0, 0) := rfl
theorem f41_2 : amFetch 41 2 = some (.invokevirtual 37, 3, 0, 67, 1) := rfl
theorem f41_5 : amFetch 41 5 = some (.astore 4, 2, 0, 0, 0) := rfl
theorem f41_7 : amFetch 41 7 = some (.iload_n 2, 1, 0, 0, 0) := rfl
theorem f41_8 : amFetch 41 8 = some (.invokestatic 55, 3, 1, 69, 1) := rfl
theorem f41_11 : amFetch 41 11 = some (.iload_n 3, 1, 0, 0, 0) := rfl
theorem f41_12 : amFetch 41 12 = some (.invokestatic 59, 3, 1, 70, 1) := rfl
theorem f41_15 : amFetch 41 15 = some (.aload_n 0, 1, 0, 0, 0) := rfl
theorem f41_16 : amFetch 41 16 = some (.aload 4, 2, 0, 0, 0) := rfl
theorem f41_18 : amFetch 41 18 = some (.iload_n 2, 1, 0, 0, 0) := rfl
theorem f41_19 : amFetch 41 19 = some (.iload_n 3, 1, 0, 0, 0) := rfl
theorem f41_20 : amFetch 41 20 = some (.invokevirtual 45, 3, 0, 74, 3) := rfl
theorem f41_23 : amFetch 41 23 = some (.ireturn, 1, 0, 0, 0) := rfl
theorem ow41 : amOwnL 41 = some (3, 5) := rfl
-- X3_take
theorem f42_0 : amFetch 42 0 = some (.aload_n 0, 1, 0, 0, 0) := rfl
theorem f42_1 : amFetch 42 1 = some (.iload_n 1, 1, 0, 0, 0) := rfl
theorem f42_2 : amFetch 42 2 = some (.invokevirtual 37, 3, 0, 67, 1) := rfl
theorem f42_5 : amFetch 42 5 = some (.astore 4, 2, 0, 0, 0) := rfl
theorem f42_7 : amFetch 42 7 = some (.iload_n 2, 1, 0, 0, 0) := rfl
theorem f42_8 : amFetch 42 8 = some (.invokestatic 55, 3, 1, 69, 1) := rfl
theorem f42_11 : amFetch 42 11 = some (.iload_n 3, 1, 0, 0, 0) := rfl
theorem f42_12 : amFetch 42 12 = some (.invokestatic 59, 3, 1, 70, 1) := rfl
theorem f42_15 : amFetch 42 15 = some (.aload_n 0, 1, 0, 0, 0) := rfl
theorem f42_16 : amFetch 42 16 = some (.aload 4, 2, 0, 0, 0) := rfl
theorem f42_18 : amFetch 42 18 = some (.iload_n 2, 1, 0, 0, 0) := rfl
theorem f42_19 : amFetch 42 19 = some (.iload_n 3, 1, 0, 0, 0) := rfl
theorem f42_20 : amFetch 42 20 = some (.invokevirtual 49, 3, 0, 75, 3) := rfl
theorem f42_23 : amFetch 42 23 = some (.ireturn, 1, 0, 0, 0) := rfl
theorem ow42 : amOwnL 42 = some (3, 5) := rfl
-- X3_countOf
theorem f43_0 : amFetch 43 0 = some (.aload_n 0, 1, 0, 0, 0) := rfl
theorem f43_1 : amFetch 43 1 = some (.iload_n 1, 1, 0, 0, 0) := rfl
theorem f43_2 : amFetch 43 2 = some (.invokevirtual 37, 3, 0, 67, 1) := rfl
theorem f43_5 : amFetch 43 5 = some (.astore_n 3, 1, 0, 0, 0) := rfl
theorem f43_6 : amFetch 43 6 = some (.iload_n 2, 1, 0, 0, 0) := rfl
theorem f43_7 : amFetch 43 7 = some (.invokestatic 55, 3, 1, 69, 1) := rfl
theorem f43_10 : amFetch 43 10 = some (.aload_n 3, 1, 0, 0, 0) := rfl
theorem f43_11 : amFetch 43 11 = some (.iload_n 2, 1, 0, 0, 0) := rfl
theorem f43_12 : amFetch 43 12 = some (.invokevirtual 52, 3, 0, 28, 1) := rfl
theorem f43_15 : amFetch 43 15 = some (.ireturn, 1, 0, 0, 0) := rfl
theorem ow43 : amOwnL 43 = some (3, 4) := rfl
-- X3_countInLists
theorem f44_0 : amFetch 44 0 = some (.aload_n 0, 1, 0, 0, 0) := rfl
theorem f44_1 : amFetch 44 1 = some (.iload_n 1, 1, 0, 0, 0) := rfl
theorem f44_2 : amFetch 44 2 = some (.invokevirtual 37, 3, 0, 67, 1) := rfl
theorem f44_5 : amFetch 44 5 = some (.astore_n 3, 1, 0, 0, 0) := rfl
theorem f44_6 : amFetch 44 6 = some (.iload_n 2, 1, 0, 0, 0) := rfl
theorem f44_7 : amFetch 44 7 = some (.invokestatic 55, 3, 1, 69, 1) := rfl
theorem f44_10 : amFetch 44 10 = some (.aload_n 0, 1, 0, 0, 0) := rfl
theorem f44_11 : amFetch 44 11 = some (.getfield 32, 3, 3, 4, 0) := rfl
theorem f44_14 : amFetch 44 14 = some (.aload_n 3, 1, 0, 0, 0) := rfl
theorem f44_15 : amFetch 44 15 = some (.invokevirtual 62, 3, 0, 10, 1) := rfl
theorem f44_18 : amFetch 44 18 = some (.aload_n 0, 1, 0, 0, 0) := rfl
theorem f44_19 : amFetch 44 19 = some (.getfield 32, 3, 3, 4, 0) := rfl
theorem f44_22 : amFetch 44 22 = some (.aload_n 3, 1, 0, 0, 0) := rfl
theorem f44_23 : amFetch 44 23 = some (.iload_n 2, 1, 0, 0, 0) := rfl
theorem f44_24 : amFetch 44 24 = some (.invokevirtual 66, 3, 0, 12, 2) := rfl
theorem f44_27 : amFetch 44 27 = some (.ireturn, 1, 0, 0, 0) := rfl
theorem ow44 : amOwnL 44 = some (3, 4) := rfl
-- X3_lookedAt
theorem f45_0 : amFetch 45 0 = some (.aload_n 0, 1, 0, 0, 0) := rfl
theorem f45_1 : amFetch 45 1 = some (.iload_n 1, 1, 0, 0, 0) := rfl
theorem f45_2 : amFetch 45 2 = some (.invokevirtual 37, 3, 0, 67, 1) := rfl
theorem f45_5 : amFetch 45 5 = some (.astore_n 3, 1, 0, 0, 0) := rfl
theorem f45_6 : amFetch 45 6 = some (.iload_n 2, 1, 0, 0, 0) := rfl
theorem f45_7 : amFetch 45 7 = some (.invokestatic 55, 3, 1, 69, 1) := rfl
theorem f45_10 : amFetch 45 10 = some (.aload_n 3, 1, 0, 0, 0) := rfl
theorem f45_11 : amFetch 45 11 = some (.iload_n 2, 1, 0, 0, 0) := rfl
theorem f45_12 : amFetch 45 12 = some (.invokevirtual 70, 3, 0, 29, 1) := rfl
theorem f45_15 : amFetch 45 15 = some (.ireturn, 1, 0, 0, 0) := rfl
theorem ow45 : amOwnL 45 = some (3, 4) := rfl
-- X3_clear
theorem f46_0 : amFetch 46 0 = some (.aload_n 0, 1, 0, 0, 0) := rfl
theorem f46_1 : amFetch 46 1 = some (.iload_n 1, 1, 0, 0, 0) := rfl
theorem f46_2 : amFetch 46 2 = some (.invokevirtual 37, 3, 0, 67, 1) := rfl
theorem f46_5 : amFetch 46 5 = some (.invokevirtual 73, 3, 0, 32, 0) := rfl
theorem f46_8 : amFetch 46 8 = some (.return_, 1, 0, 0, 0) := rfl
theorem ow46 : amOwnL 46 = some (3, 2) := rfl
-- X3_grow
theorem f47_0 : amFetch 47 0 = some (.aload_n 0, 1, 0, 0, 0) := rfl
theorem f47_1 : amFetch 47 1 = some (.iload_n 1, 1, 0, 0, 0) := rfl
theorem f47_2 : amFetch 47 2 = some (.invokevirtual 37, 3, 0, 67, 1) := rfl
theorem f47_5 : amFetch 47 5 = some (.astore_n 2, 1, 0, 0, 0) := rfl
theorem f47_6 : amFetch 47 6 = some (.aload_n 2, 1, 0, 0, 0) := rfl
theorem f47_7 : amFetch 47 7 = some (.getfield 76, 3, 2, 5, 0) := rfl
theorem f47_10 : amFetch 47 10 = some (.bipush 8, 2, 0, 0, 0) := rfl
theorem f47_12 : amFetch 47 12 = some (.if_icmp .lt 13, 3, 0, 0, 0) := rfl
theorem f47_15 : amFetch 47 15 = some (.new 80, 3, 1, 2, 82084) := rfl
theorem f47_18 : amFetch 47 18 = some (.dup, 1, 0, 0, 0) := rfl
theorem f47_19 : amFetch 47 19 = some (.ldc 82, 2, 0, 0, 0) := rfl
theorem f47_21 : amFetch 47 21 = some (.invokespecial 84, 3, 9, 0, 1) := rfl
theorem f47_24 : amFetch 47 24 = some (.athrow, 1, 0, 0, 0) := rfl
theorem f47_25 : amFetch 47 25 = some (.aload_n 0, 1, 0, 0, 0) := rfl
theorem f47_26 : amFetch 47 26 = some (.aload_n 2, 1, 0, 0, 0) := rfl
theorem f47_27 : amFetch 47 27 = some (.aload_n 2, 1, 0, 0, 0) := rfl
theorem f47_28 : amFetch 47 28 = some (.getfield 76, 3, 2, 5, 0) := rfl
theorem f47_31 : amFetch 47 31 = some (.iconst 1, 1, 0, 0, 0) := rfl
theorem f47_32 : amFetch 47 32 = some (.iadd, 1, 0, 0, 0) := rfl
theorem f47_33 : amFetch 47 33 = some (.invokevirtual 87, 3, 0, 76, 2) := rfl
theorem f47_36 : amFetch 47 36 = some (.ireturn, 1, 0, 0, 0) := rfl
theorem ow47 : amOwnL 47 = some (3, 3) := rfl
-- X3_shrink
theorem f48_0 : amFetch 48 0 = some (.aload_n 0, 1, 0, 0, 0) := rfl
theorem f48_1 : amFetch 48 1 = some (.iload_n 1, 1, 0, 0, 0) := rfl
theorem f48_2 : amFetch 48 2 = some (.invokevirtual 37, 3, 0, 67, 1) := rfl
theorem f48_5 : amFetch 48 5 = some (.astore_n 2, 1, 0, 0, 0) := rfl
theorem f48_6 : amFetch 48 6 = some (.aload_n 2, 1, 0, 0, 0) := rfl
theorem f48_7 : amFetch 48 7 = some (.getfield 76, 3, 2, 5, 0) := rfl
theorem f48_10 : amFetch 48 10 = some (.iconst 3, 1, 0, 0, 0) := rfl
theorem f48_11 : amFetch 48 11 = some (.if_icmp .gt 13, 3, 0, 0, 0) := rfl
theorem f48_14 : amFetch 48 14 = some (.new 80, 3, 1, 2, 90084) := rfl
theorem f48_17 : amFetch 48 17 = some (.dup, 1, 0, 0, 0) := rfl
theorem f48_18 : amFetch 48 18 = some (.ldc 90, 2, 0, 0, 0) := rfl
theorem f48_20 : amFetch 48 20 = some (.invokespecial 84, 3, 9, 0, 1) := rfl
theorem f48_23 : amFetch 48 23 = some (.athrow, 1, 0, 0, 0) := rfl
theorem f48_24 : amFetch 48 24 = some (.aload_n 0, 1, 0, 0, 0) := rfl
theorem f48_25 : amFetch 48 25 = some (.aload_n 2, 1, 0, 0, 0) := rfl
theorem f48_26 : amFetch 48 26 = some (.aload_n 2, 1, 0, 0, 0) := rfl
theorem f48_27 : amFetch 48 27 = some (.getfield 76, 3, 2, 5, 0) := rfl
theorem f48_30 : amFetch 48 30 = some (.iconst 1, 1, 0, 0, 0) := rfl
theorem f48_31 : amFetch 48 31 = some (.isub, 1, 0, 0, 0) := rfl
theorem f48_32 : amFetch 48 32 = some (.invokevirtual 87, 3, 0, 76, 2) := rfl
theorem f48_35 : amFetch 48 35 = some (.ireturn, 1, 0, 0, 0) := rfl
theorem ow48 : amOwnL 48 = some (3, 3) := rfl
-- X3_merge
theorem f49_0 : amFetch 49 0 = some (.aload_n 0, 1, 0, 0, 0) := rfl
theorem f49_1 : amFetch 49 1 = some (.iload_n 1, 1, 0, 0, 0) := rfl
theorem f49_2 : amFetch 49 2 = some (.invokevirtual 37, 3, 0, 67, 1) := rfl
theorem f49_5 : amFetch 49 5 = some (.astore_n 3, 1, 0, 0, 0) := rfl
theorem f49_6 : amFetch 49 6 = some (.aload_n 0, 1, 0, 0, 0) := rfl
theorem f49_7 : amFetch 49 7 = some (.iload_n 2, 1, 0, 0, 0) := rfl
theorem f49_8 : amFetch 49 8 = some (.invokevirtual 37, 3, 0, 67, 1) := rfl
theorem f49_11 : amFetch 49 11 = some (.astore 4, 2, 0, 0, 0) := rfl
theorem f49_13 : amFetch 49 13 = some (.aload_n 3, 1, 0, 0, 0) := rfl
theorem f49_14 : amFetch 49 14 = some (.aload_n 0, 1, 0, 0, 0) := rfl
theorem f49_15 : amFetch 49 15 = some (.getfield 19, 3, 3, 1, 0) := rfl
theorem f49_18 : amFetch 49 18 = some (.invokevirtual 92, 3, 0, 31, 1) := rfl
theorem f49_21 : amFetch 49 21 = some (.aload 4, 2, 0, 0, 0) := rfl
theorem f49_23 : amFetch 49 23 = some (.aload_n 0, 1, 0, 0, 0) := rfl
theorem f49_24 : amFetch 49 24 = some (.getfield 23, 3, 3, 2, 0) := rfl
theorem f49_27 : amFetch 49 27 = some (.invokevirtual 92, 3, 0, 31, 1) := rfl
theorem f49_30 : amFetch 49 30 = some (.aload_n 0, 1, 0, 0, 0) := rfl
theorem f49_31 : amFetch 49 31 = some (.getfield 26, 3, 3, 3, 0) := rfl
theorem f49_34 : amFetch 49 34 = some (.aload_n 0, 1, 0, 0, 0) := rfl
theorem f49_35 : amFetch 49 35 = some (.getfield 19, 3, 3, 1, 0) := rfl
theorem f49_38 : amFetch 49 38 = some (.aload_n 0, 1, 0, 0, 0) := rfl
theorem f49_39 : amFetch 49 39 = some (.getfield 23, 3, 3, 2, 0) := rfl
theorem f49_42 : amFetch 49 42 = some (.invokevirtual 96, 3, 0, 3, 2) := rfl
theorem f49_45 : amFetch 49 45 = some (.aload_n 0, 1, 0, 0, 0) := rfl
theorem f49_46 : amFetch 49 46 = some (.getfield 26, 3, 3, 3, 0) := rfl
theorem f49_49 : amFetch 49 49 = some (.aload_n 3, 1, 0, 0, 0) := rfl
theorem f49_50 : amFetch 49 50 = some (.getfield 76, 3, 2, 5, 0) := rfl
theorem f49_53 : amFetch 49 53 = some (.invokestatic 100, 3, 1, 71, 2) := rfl
theorem f49_56 : amFetch 49 56 = some (.aload_n 3, 1, 0, 0, 0) := rfl
theorem f49_57 : amFetch 49 57 = some (.aload_n 3, 1, 0, 0, 0) := rfl
theorem f49_58 : amFetch 49 58 = some (.getfield 76, 3, 2, 5, 0) := rfl
theorem f49_61 : amFetch 49 61 = some (.aload_n 0, 1, 0, 0, 0) := rfl
theorem f49_62 : amFetch 49 62 = some (.getfield 26, 3, 3, 3, 0) := rfl
theorem f49_65 : amFetch 49 65 = some (.invokevirtual 104, 3, 0, 33, 2) := rfl
theorem f49_68 : amFetch 49 68 = some (.aload_n 3, 1, 0, 0, 0) := rfl
theorem f49_69 : amFetch 49 69 = some (.invokevirtual 108, 3, 0, 20, 0) := rfl
theorem f49_72 : amFetch 49 72 = some (.ireturn, 1, 0, 0, 0) := rfl
theorem ow49 : amOwnL 49 = some (3, 5) := rfl
-- X3_intersect
theorem f50_0 : amFetch 50 0 = some (.aload_n 0, 1, 0, 0, 0) := rfl
theorem f50_1 : amFetch 50 1 = some (.iload_n 1, 1, 0, 0, 0) := rfl
theorem f50_2 : amFetch 50 2 = some (.invokevirtual 37, 3, 0, 67, 1) := rfl
theorem f50_5 : amFetch 50 5 = some (.astore_n 3, 1, 0, 0, 0) := rfl
theorem f50_6 : amFetch 50 6 = some (.aload_n 0, 1, 0, 0, 0) := rfl
theorem f50_7 : amFetch 50 7 = some (.iload_n 2, 1, 0, 0, 0) := rfl
theorem f50_8 : amFetch 50 8 = some (.invokevirtual 37, 3, 0, 67, 1) := rfl
theorem f50_11 : amFetch 50 11 = some (.astore 4, 2, 0, 0, 0) := rfl
theorem f50_13 : amFetch 50 13 = some (.aload_n 3, 1, 0, 0, 0) := rfl
theorem f50_14 : amFetch 50 14 = some (.aload_n 0, 1, 0, 0, 0) := rfl
theorem f50_15 : amFetch 50 15 = some (.getfield 19, 3, 3, 1, 0) := rfl
theorem f50_18 : amFetch 50 18 = some (.invokevirtual 92, 3, 0, 31, 1) := rfl
theorem f50_21 : amFetch 50 21 = some (.aload 4, 2, 0, 0, 0) := rfl
theorem f50_23 : amFetch 50 23 = some (.aload_n 0, 1, 0, 0, 0) := rfl
theorem f50_24 : amFetch 50 24 = some (.getfield 23, 3, 3, 2, 0) := rfl
theorem f50_27 : amFetch 50 27 = some (.invokevirtual 92, 3, 0, 31, 1) := rfl
theorem f50_30 : amFetch 50 30 = some (.aload_n 0, 1, 0, 0, 0) := rfl
theorem f50_31 : amFetch 50 31 = some (.getfield 26, 3, 3, 3, 0) := rfl
theorem f50_34 : amFetch 50 34 = some (.aload_n 0, 1, 0, 0, 0) := rfl
theorem f50_35 : amFetch 50 35 = some (.getfield 19, 3, 3, 1, 0) := rfl
theorem f50_38 : amFetch 50 38 = some (.aload_n 0, 1, 0, 0, 0) := rfl
theorem f50_39 : amFetch 50 39 = some (.getfield 23, 3, 3, 2, 0) := rfl
theorem f50_42 : amFetch 50 42 = some (.invokevirtual 112, 3, 0, 4, 2) := rfl
theorem f50_45 : amFetch 50 45 = some (.aload_n 3, 1, 0, 0, 0) := rfl
theorem f50_46 : amFetch 50 46 = some (.aload_n 3, 1, 0, 0, 0) := rfl
theorem f50_47 : amFetch 50 47 = some (.getfield 76, 3, 2, 5, 0) := rfl
theorem f50_50 : amFetch 50 50 = some (.aload_n 0, 1, 0, 0, 0) := rfl
theorem f50_51 : amFetch 50 51 = some (.getfield 26, 3, 3, 3, 0) := rfl
theorem f50_54 : amFetch 50 54 = some (.invokevirtual 104, 3, 0, 33, 2) := rfl
theorem f50_57 : amFetch 50 57 = some (.aload_n 3, 1, 0, 0, 0) := rfl
theorem f50_58 : amFetch 50 58 = some (.invokevirtual 108, 3, 0, 20, 0) := rfl
theorem f50_61 : amFetch 50 61 = some (.ireturn, 1, 0, 0, 0) := rfl
theorem ow50 : amOwnL 50 = some (3, 5) := rfl
-- X3_isSame
theorem f51_0 : amFetch 51 0 = some (.aload_n 0, 1, 0, 0, 0) := rfl
theorem f51_1 : amFetch 51 1 = some (.iload_n 1, 1, 0, 0, 0) := rfl
theorem f51_2 : amFetch 51 2 = some (.invokevirtual 37, 3, 0, 67, 1) := rfl
theorem f51_5 : amFetch 51 5 = some (.astore_n 3, 1, 0, 0, 0) := rfl
theorem f51_6 : amFetch 51 6 = some (.aload_n 0, 1, 0, 0, 0) := rfl
theorem f51_7 : amFetch 51 7 = some (.iload_n 2, 1, 0, 0, 0) := rfl
theorem f51_8 : amFetch 51 8 = some (.invokevirtual 37, 3, 0, 67, 1) := rfl
theorem f51_11 : amFetch 51 11 = some (.astore 4, 2, 0, 0, 0) := rfl
theorem f51_13 : amFetch 51 13 = some (.aload_n 3, 1, 0, 0, 0) := rfl
theorem f51_14 : amFetch 51 14 = some (.aload_n 0, 1, 0, 0, 0) := rfl
theorem f51_15 : amFetch 51 15 = some (.getfield 19, 3, 3, 1, 0) := rfl
theorem f51_18 : amFetch 51 18 = some (.invokevirtual 92, 3, 0, 31, 1) := rfl
theorem f51_21 : amFetch 51 21 = some (.aload 4, 2, 0, 0, 0) := rfl
theorem f51_23 : amFetch 51 23 = some (.aload_n 0, 1, 0, 0, 0) := rfl
theorem f51_24 : amFetch 51 24 = some (.getfield 23, 3, 3, 2, 0) := rfl
theorem f51_27 : amFetch 51 27 = some (.invokevirtual 92, 3, 0, 31, 1) := rfl
theorem f51_30 : amFetch 51 30 = some (.aload_n 0, 1, 0, 0, 0) := rfl
theorem f51_31 : amFetch 51 31 = some (.getfield 19, 3, 3, 1, 0) := rfl
theorem f51_34 : amFetch 51 34 = some (.aload_n 0, 1, 0, 0, 0) := rfl
theorem f51_35 : amFetch 51 35 = some (.getfield 23, 3, 3, 2, 0) := rfl
theorem f51_38 : amFetch 51 38 = some (.invokevirtual 115, 3, 0, 7, 1) := rfl
theorem f51_41 : amFetch 51 41 = some (.ireturn, 1, 0, 0, 0) := rfl
theorem ow51 : amOwnL 51 = some (3, 5) := rfl
-- X3_slots
theorem f52_0 : amFetch 52 0 = some (.aload_n 0, 1, 0, 0, 0) := rfl
theorem f52_1 : amFetch 52 1 = some (.iload_n 1, 1, 0, 0, 0) := rfl
theorem f52_2 : amFetch 52 2 = some (.invokevirtual 37, 3, 0, 67, 1) := rfl
theorem f52_5 : amFetch 52 5 = some (.invokevirtual 119, 3, 0, 14, 0) := rfl
theorem f52_8 : amFetch 52 8 = some (.ireturn, 1, 0, 0, 0) := rfl
theorem ow52 : amOwnL 52 = some (3, 2) := rfl
-- X3_entries
theorem f53_0 : amFetch 53 0 = some (.aload_n 0, 1, 0, 0, 0) := rfl
theorem f53_1 : amFetch 53 1 = some (.iload_n 1, 1, 0, 0, 0) := rfl
theorem f53_2 : amFetch 53 2 = some (.invokevirtual 37, 3, 0, 67, 1) := rfl
theorem f53_5 : amFetch 53 5 = some (.invokevirtual 108, 3, 0, 20, 0) := rfl
theorem f53_8 : amFetch 53 8 = some (.ireturn, 1, 0, 0, 0) := rfl
theorem ow53 : amOwnL 53 = some (3, 2) := rfl
-- X3_distinct
theorem f54_0 : amFetch 54 0 = some (.aload_n 0, 1, 0, 0, 0) := rfl
theorem f54_1 : amFetch 54 1 = some (.iload_n 1, 1, 0, 0, 0) := rfl
theorem f54_2 : amFetch 54 2 = some (.invokevirtual 37, 3, 0, 67, 1) := rfl
theorem f54_5 : amFetch 54 5 = some (.aload_n 0, 1, 0, 0, 0) := rfl
theorem f54_6 : amFetch 54 6 = some (.getfield 19, 3, 3, 1, 0) := rfl
theorem f54_9 : amFetch 54 9 = some (.invokevirtual 92, 3, 0, 31, 1) := rfl
theorem f54_12 : amFetch 54 12 = some (.aload_n 0, 1, 0, 0, 0) := rfl
theorem f54_13 : amFetch 54 13 = some (.getfield 19, 3, 3, 1, 0) := rfl
theorem f54_16 : amFetch 54 16 = some (.getfield 122, 3, 0, 2, 0) := rfl
theorem f54_19 : amFetch 54 19 = some (.ireturn, 1, 0, 0, 0) := rfl
theorem ow54 : amOwnL 54 = some (3, 2) := rfl
-- X3_total
theorem f55_0 : amFetch 55 0 = some (.aload_n 0, 1, 0, 0, 0) := rfl
theorem f55_1 : amFetch 55 1 = some (.iload_n 1, 1, 0, 0, 0) := rfl
theorem f55_2 : amFetch 55 2 = some (.invokevirtual 37, 3, 0, 67, 1) := rfl
theorem f55_5 : amFetch 55 5 = some (.invokevirtual 125, 3, 0, 21, 0) := rfl
theorem f55_8 : amFetch 55 8 = some (.ireturn, 1, 0, 0, 0) := rfl
theorem ow55 : amOwnL 55 = some (3, 2) := rfl
-- X3_fingerprintAt
theorem f56_0 : amFetch 56 0 = some (.aload_n 0, 1, 0, 0, 0) := rfl
theorem f56_1 : amFetch 56 1 = some (.iload_n 1, 1, 0, 0, 0) := rfl
theorem f56_2 : amFetch 56 2 = some (.invokevirtual 37, 3, 0, 67, 1) := rfl
theorem f56_5 : amFetch 56 5 = some (.aload_n 0, 1, 0, 0, 0) := rfl
theorem f56_6 : amFetch 56 6 = some (.getfield 19, 3, 3, 1, 0) := rfl
theorem f56_9 : amFetch 56 9 = some (.invokevirtual 92, 3, 0, 31, 1) := rfl
theorem f56_12 : amFetch 56 12 = some (.iload_n 2, 1, 0, 0, 0) := rfl
theorem f56_13 : amFetch 56 13 = some (.ifCond .lt 14, 3, 0, 0, 0) := rfl
theorem f56_16 : amFetch 56 16 = some (.iload_n 2, 1, 0, 0, 0) := rfl
theorem f56_17 : amFetch 56 17 = some (.aload_n 0, 1, 0, 0, 0) := rfl
theorem f56_18 : amFetch 56 18 = some (.getfield 19, 3, 3, 1, 0) := rfl
theorem f56_21 : amFetch 56 21 = some (.getfield 122, 3, 0, 2, 0) := rfl
theorem f56_24 : amFetch 56 24 = some (.if_icmp .lt 13, 3, 0, 0, 0) := rfl
theorem f56_27 : amFetch 56 27 = some (.new 128, 3, 1, 1, 130132) := rfl
theorem f56_30 : amFetch 56 30 = some (.dup, 1, 0, 0, 0) := rfl
theorem f56_31 : amFetch 56 31 = some (.ldc 130, 2, 0, 0, 0) := rfl
theorem f56_33 : amFetch 56 33 = some (.invokespecial 132, 3, 9, 0, 1) := rfl
theorem f56_36 : amFetch 56 36 = some (.athrow, 1, 0, 0, 0) := rfl
theorem f56_37 : amFetch 56 37 = some (.aload_n 0, 1, 0, 0, 0) := rfl
theorem f56_38 : amFetch 56 38 = some (.getfield 19, 3, 3, 1, 0) := rfl
theorem f56_41 : amFetch 56 41 = some (.getfield 133, 3, 0, 0, 0) := rfl
theorem f56_44 : amFetch 56 44 = some (.iload_n 2, 1, 0, 0, 0) := rfl
theorem f56_45 : amFetch 56 45 = some (.iaload, 1, 0, 0, 0) := rfl
theorem f56_46 : amFetch 56 46 = some (.ireturn, 1, 0, 0, 0) := rfl
theorem ow56 : amOwnL 56 = some (3, 3) := rfl
-- X3_remainderAt
theorem f57_0 : amFetch 57 0 = some (.aload_n 0, 1, 0, 0, 0) := rfl
theorem f57_1 : amFetch 57 1 = some (.iload_n 1, 1, 0, 0, 0) := rfl
theorem f57_2 : amFetch 57 2 = some (.invokevirtual 37, 3, 0, 67, 1) := rfl
theorem f57_5 : amFetch 57 5 = some (.astore_n 3, 1, 0, 0, 0) := rfl
theorem f57_6 : amFetch 57 6 = some (.aload_n 3, 1, 0, 0, 0) := rfl
theorem f57_7 : amFetch 57 7 = some (.iload_n 2, 1, 0, 0, 0) := rfl
theorem f57_8 : amFetch 57 8 = some (.invokestatic 137, 3, 1, 68, 2) := rfl
theorem f57_11 : amFetch 57 11 = some (.aload_n 3, 1, 0, 0, 0) := rfl
theorem f57_12 : amFetch 57 12 = some (.iload_n 2, 1, 0, 0, 0) := rfl
theorem f57_13 : amFetch 57 13 = some (.invokevirtual 141, 3, 0, 15, 1) := rfl
theorem f57_16 : amFetch 57 16 = some (.ifCond .eq 7, 3, 0, 0, 0) := rfl
theorem f57_19 : amFetch 57 19 = some (.iconst (-1), 1, 0, 0, 0) := rfl
theorem f57_20 : amFetch 57 20 = some (.goto 9, 3, 0, 0, 0) := rfl
theorem f57_23 : amFetch 57 23 = some (.aload_n 3, 1, 0, 0, 0) := rfl
theorem f57_24 : amFetch 57 24 = some (.getfield 145, 3, 2, 0, 0) := rfl
theorem f57_27 : amFetch 57 27 = some (.iload_n 2, 1, 0, 0, 0) := rfl
theorem f57_28 : amFetch 57 28 = some (.iaload, 1, 0, 0, 0) := rfl
theorem f57_29 : amFetch 57 29 = some (.ireturn, 1, 0, 0, 0) := rfl
theorem ow57 : amOwnL 57 = some (3, 4) := rfl
-- X3_counterAt
theorem f58_0 : amFetch 58 0 = some (.aload_n 0, 1, 0, 0, 0) := rfl
theorem f58_1 : amFetch 58 1 = some (.iload_n 1, 1, 0, 0, 0) := rfl
theorem f58_2 : amFetch 58 2 = some (.invokevirtual 37, 3, 0, 67, 1) := rfl
theorem f58_5 : amFetch 58 5 = some (.astore_n 3, 1, 0, 0, 0) := rfl
theorem f58_6 : amFetch 58 6 = some (.aload_n 3, 1, 0, 0, 0) := rfl
theorem f58_7 : amFetch 58 7 = some (.iload_n 2, 1, 0, 0, 0) := rfl
theorem f58_8 : amFetch 58 8 = some (.invokestatic 137, 3, 1, 68, 2) := rfl
theorem f58_11 : amFetch 58 11 = some (.aload_n 3, 1, 0, 0, 0) := rfl
theorem f58_12 : amFetch 58 12 = some (.getfield 148, 3, 2, 1, 0) := rfl
theorem f58_15 : amFetch 58 15 = some (.iload_n 2, 1, 0, 0, 0) := rfl
theorem f58_16 : amFetch 58 16 = some (.iaload, 1, 0, 0, 0) := rfl
theorem f58_17 : amFetch 58 17 = some (.ireturn, 1, 0, 0, 0) := rfl
theorem ow58 : amOwnL 58 = some (3, 4) := rfl
-- X3_quotientAt
theorem f59_0 : amFetch 59 0 = some (.aload_n 0, 1, 0, 0, 0) := rfl
theorem f59_1 : amFetch 59 1 = some (.iload_n 1, 1, 0, 0, 0) := rfl
theorem f59_2 : amFetch 59 2 = some (.invokevirtual 37, 3, 0, 67, 1) := rfl
theorem f59_5 : amFetch 59 5 = some (.astore_n 3, 1, 0, 0, 0) := rfl
theorem f59_6 : amFetch 59 6 = some (.aload_n 3, 1, 0, 0, 0) := rfl
theorem f59_7 : amFetch 59 7 = some (.iload_n 2, 1, 0, 0, 0) := rfl
theorem f59_8 : amFetch 59 8 = some (.invokestatic 137, 3, 1, 68, 2) := rfl
theorem f59_11 : amFetch 59 11 = some (.aload_n 3, 1, 0, 0, 0) := rfl
theorem f59_12 : amFetch 59 12 = some (.iload_n 2, 1, 0, 0, 0) := rfl
theorem f59_13 : amFetch 59 13 = some (.invokevirtual 141, 3, 0, 15, 1) := rfl
theorem f59_16 : amFetch 59 16 = some (.ifCond .eq 7, 3, 0, 0, 0) := rfl
theorem f59_19 : amFetch 59 19 = some (.iconst (-1), 1, 0, 0, 0) := rfl
theorem f59_20 : amFetch 59 20 = some (.goto 8, 3, 0, 0, 0) := rfl
theorem f59_23 : amFetch 59 23 = some (.aload_n 3, 1, 0, 0, 0) := rfl
theorem f59_24 : amFetch 59 24 = some (.iload_n 2, 1, 0, 0, 0) := rfl
theorem f59_25 : amFetch 59 25 = some (.invokevirtual 151, 3, 0, 27, 1) := rfl
theorem f59_28 : amFetch 59 28 = some (.ireturn, 1, 0, 0, 0) := rfl
theorem ow59 : amOwnL 59 = some (3, 4) := rfl
-- X3_isOccupied
theorem f60_0 : amFetch 60 0 = some (.aload_n 0, 1, 0, 0, 0) := rfl
theorem f60_1 : amFetch 60 1 = some (.iload_n 1, 1, 0, 0, 0) := rfl
theorem f60_2 : amFetch 60 2 = some (.invokevirtual 37, 3, 0, 67, 1) := rfl
theorem f60_5 : amFetch 60 5 = some (.astore_n 3, 1, 0, 0, 0) := rfl
theorem f60_6 : amFetch 60 6 = some (.aload_n 3, 1, 0, 0, 0) := rfl
theorem f60_7 : amFetch 60 7 = some (.iload_n 2, 1, 0, 0, 0) := rfl
theorem f60_8 : amFetch 60 8 = some (.invokestatic 137, 3, 1, 68, 2) := rfl
theorem f60_11 : amFetch 60 11 = some (.aload_n 3, 1, 0, 0, 0) := rfl
theorem f60_12 : amFetch 60 12 = some (.getfield 154, 3, 2, 2, 0) := rfl
theorem f60_15 : amFetch 60 15 = some (.iload_n 2, 1, 0, 0, 0) := rfl
theorem f60_16 : amFetch 60 16 = some (.baload, 1, 0, 0, 0) := rfl
theorem f60_17 : amFetch 60 17 = some (.ireturn, 1, 0, 0, 0) := rfl
theorem ow60 : amOwnL 60 = some (3, 4) := rfl
-- X3_isContinuation
theorem f61_0 : amFetch 61 0 = some (.aload_n 0, 1, 0, 0, 0) := rfl
theorem f61_1 : amFetch 61 1 = some (.iload_n 1, 1, 0, 0, 0) := rfl
theorem f61_2 : amFetch 61 2 = some (.invokevirtual 37, 3, 0, 67, 1) := rfl
theorem f61_5 : amFetch 61 5 = some (.astore_n 3, 1, 0, 0, 0) := rfl
theorem f61_6 : amFetch 61 6 = some (.aload_n 3, 1, 0, 0, 0) := rfl
theorem f61_7 : amFetch 61 7 = some (.iload_n 2, 1, 0, 0, 0) := rfl
theorem f61_8 : amFetch 61 8 = some (.invokestatic 137, 3, 1, 68, 2) := rfl
theorem f61_11 : amFetch 61 11 = some (.aload_n 3, 1, 0, 0, 0) := rfl
theorem f61_12 : amFetch 61 12 = some (.getfield 158, 3, 2, 3, 0) := rfl
theorem f61_15 : amFetch 61 15 = some (.iload_n 2, 1, 0, 0, 0) := rfl
theorem f61_16 : amFetch 61 16 = some (.baload, 1, 0, 0, 0) := rfl
theorem f61_17 : amFetch 61 17 = some (.ireturn, 1, 0, 0, 0) := rfl
theorem ow61 : amOwnL 61 = some (3, 4) := rfl
-- X3_isShifted
theorem f62_0 : amFetch 62 0 = some (.aload_n 0, 1, 0, 0, 0) := rfl
theorem f62_1 : amFetch 62 1 = some (.iload_n 1, 1, 0, 0, 0) := rfl
theorem f62_2 : amFetch 62 2 = some (.invokevirtual 37, 3, 0, 67, 1) := rfl
theorem f62_5 : amFetch 62 5 = some (.astore_n 3, 1, 0, 0, 0) := rfl
theorem f62_6 : amFetch 62 6 = some (.aload_n 3, 1, 0, 0, 0) := rfl
theorem f62_7 : amFetch 62 7 = some (.iload_n 2, 1, 0, 0, 0) := rfl
theorem f62_8 : amFetch 62 8 = some (.invokestatic 137, 3, 1, 68, 2) := rfl
theorem f62_11 : amFetch 62 11 = some (.aload_n 3, 1, 0, 0, 0) := rfl
theorem f62_12 : amFetch 62 12 = some (.getfield 161, 3, 2, 4, 0) := rfl
theorem f62_15 : amFetch 62 15 = some (.iload_n 2, 1, 0, 0, 0) := rfl
theorem f62_16 : amFetch 62 16 = some (.baload, 1, 0, 0, 0) := rfl
theorem f62_17 : amFetch 62 17 = some (.ireturn, 1, 0, 0, 0) := rfl
theorem ow62 : amOwnL 62 = some (3, 4) := rfl
-- X3_runStart
theorem f63_0 : amFetch 63 0 = some (.aload_n 0, 1, 0, 0, 0) := rfl
theorem f63_1 : amFetch 63 1 = some (.iload_n 1, 1, 0, 0, 0) := rfl
theorem f63_2 : amFetch 63 2 = some (.invokevirtual 37, 3, 0, 67, 1) := rfl
theorem f63_5 : amFetch 63 5 = some (.astore_n 3, 1, 0, 0, 0) := rfl
theorem f63_6 : amFetch 63 6 = some (.aload_n 3, 1, 0, 0, 0) := rfl
theorem f63_7 : amFetch 63 7 = some (.iload_n 2, 1, 0, 0, 0) := rfl
theorem f63_8 : amFetch 63 8 = some (.invokestatic 137, 3, 1, 68, 2) := rfl
theorem f63_11 : amFetch 63 11 = some (.aload_n 3, 1, 0, 0, 0) := rfl
theorem f63_12 : amFetch 63 12 = some (.iload_n 2, 1, 0, 0, 0) := rfl
theorem f63_13 : amFetch 63 13 = some (.invokevirtual 164, 3, 0, 25, 1) := rfl
theorem f63_16 : amFetch 63 16 = some (.ireturn, 1, 0, 0, 0) := rfl
theorem ow63 : amOwnL 63 = some (3, 4) := rfl
-- X3_runLength
theorem f64_0 : amFetch 64 0 = some (.aload_n 0, 1, 0, 0, 0) := rfl
theorem f64_1 : amFetch 64 1 = some (.iload_n 1, 1, 0, 0, 0) := rfl
theorem f64_2 : amFetch 64 2 = some (.invokevirtual 37, 3, 0, 67, 1) := rfl
theorem f64_5 : amFetch 64 5 = some (.astore_n 3, 1, 0, 0, 0) := rfl
theorem f64_6 : amFetch 64 6 = some (.aload_n 3, 1, 0, 0, 0) := rfl
theorem f64_7 : amFetch 64 7 = some (.iload_n 2, 1, 0, 0, 0) := rfl
theorem f64_8 : amFetch 64 8 = some (.invokestatic 137, 3, 1, 68, 2) := rfl
theorem f64_11 : amFetch 64 11 = some (.aload_n 3, 1, 0, 0, 0) := rfl
theorem f64_12 : amFetch 64 12 = some (.iload_n 2, 1, 0, 0, 0) := rfl
theorem f64_13 : amFetch 64 13 = some (.invokevirtual 164, 3, 0, 25, 1) := rfl
theorem f64_16 : amFetch 64 16 = some (.istore 4, 2, 0, 0, 0) := rfl
theorem f64_18 : amFetch 64 18 = some (.iload 4, 2, 0, 0, 0) := rfl
theorem f64_20 : amFetch 64 20 = some (.iconst (-1), 1, 0, 0, 0) := rfl
theorem f64_21 : amFetch 64 21 = some (.if_icmp .ne 7, 3, 0, 0, 0) := rfl
theorem f64_24 : amFetch 64 24 = some (.iconst 0, 1, 0, 0, 0) := rfl
theorem f64_25 : amFetch 64 25 = some (.goto 9, 3, 0, 0, 0) := rfl
theorem f64_28 : amFetch 64 28 = some (.aload_n 3, 1, 0, 0, 0) := rfl
theorem f64_29 : amFetch 64 29 = some (.iload 4, 2, 0, 0, 0) := rfl
theorem f64_31 : amFetch 64 31 = some (.invokevirtual 167, 3, 0, 26, 1) := rfl
theorem f64_34 : amFetch 64 34 = some (.ireturn, 1, 0, 0, 0) := rfl
theorem ow64 : amOwnL 64 = some (3, 5) := rfl
-- X3_clusterStart
theorem f65_0 : amFetch 65 0 = some (.aload_n 0, 1, 0, 0, 0) := rfl
theorem f65_1 : amFetch 65 1 = some (.iload_n 1, 1, 0, 0, 0) := rfl
theorem f65_2 : amFetch 65 2 = some (.invokevirtual 37, 3, 0, 67, 1) := rfl
theorem f65_5 : amFetch 65 5 = some (.astore_n 3, 1, 0, 0, 0) := rfl
theorem f65_6 : amFetch 65 6 = some (.aload_n 3, 1, 0, 0, 0) := rfl
theorem f65_7 : amFetch 65 7 = some (.iload_n 2, 1, 0, 0, 0) := rfl
theorem f65_8 : amFetch 65 8 = some (.invokestatic 137, 3, 1, 68, 2) := rfl
theorem f65_11 : amFetch 65 11 = some (.aload_n 3, 1, 0, 0, 0) := rfl
theorem f65_12 : amFetch 65 12 = some (.iload_n 2, 1, 0, 0, 0) := rfl
theorem f65_13 : amFetch 65 13 = some (.invokevirtual 141, 3, 0, 15, 1) := rfl
theorem f65_16 : amFetch 65 16 = some (.ifCond .eq 7, 3, 0, 0, 0) := rfl
theorem f65_19 : amFetch 65 19 = some (.iconst (-1), 1, 0, 0, 0) := rfl
theorem f65_20 : amFetch 65 20 = some (.goto 8, 3, 0, 0, 0) := rfl
theorem f65_23 : amFetch 65 23 = some (.aload_n 3, 1, 0, 0, 0) := rfl
theorem f65_24 : amFetch 65 24 = some (.iload_n 2, 1, 0, 0, 0) := rfl
theorem f65_25 : amFetch 65 25 = some (.invokevirtual 170, 3, 0, 24, 1) := rfl
theorem f65_28 : amFetch 65 28 = some (.ireturn, 1, 0, 0, 0) := rfl
theorem ow65 : amOwnL 65 = some (3, 4) := rfl
-- X3_longestCluster
theorem f66_0 : amFetch 66 0 = some (.aload_n 0, 1, 0, 0, 0) := rfl
theorem f66_1 : amFetch 66 1 = some (.iload_n 1, 1, 0, 0, 0) := rfl
theorem f66_2 : amFetch 66 2 = some (.invokevirtual 37, 3, 0, 67, 1) := rfl
theorem f66_5 : amFetch 66 5 = some (.invokevirtual 173, 3, 0, 30, 0) := rfl
theorem f66_8 : amFetch 66 8 = some (.ireturn, 1, 0, 0, 0) := rfl
theorem ow66 : amOwnL 66 = some (3, 2) := rfl
-- X3_tableOf
theorem f67_0 : amFetch 67 0 = some (.iload_n 1, 1, 0, 0, 0) := rfl
theorem f67_1 : amFetch 67 1 = some (.ifCond .lt 12, 3, 0, 0, 0) := rfl
theorem f67_4 : amFetch 67 4 = some (.iload_n 1, 1, 0, 0, 0) := rfl
theorem f67_5 : amFetch 67 5 = some (.aload_n 0, 1, 0, 0, 0) := rfl
theorem f67_6 : amFetch 67 6 = some (.getfield 11, 3, 3, 0, 0) := rfl
theorem f67_9 : amFetch 67 9 = some (.arraylength, 1, 0, 0, 0) := rfl
theorem f67_10 : amFetch 67 10 = some (.if_icmp .lt 13, 3, 0, 0, 0) := rfl
theorem f67_13 : amFetch 67 13 = some (.new 128, 3, 1, 1, 176132) := rfl
theorem f67_16 : amFetch 67 16 = some (.dup, 1, 0, 0, 0) := rfl
theorem f67_17 : amFetch 67 17 = some (.ldc 176, 2, 0, 0, 0) := rfl
theorem f67_19 : amFetch 67 19 = some (.invokespecial 132, 3, 9, 0, 1) := rfl
theorem f67_22 : amFetch 67 22 = some (.athrow, 1, 0, 0, 0) := rfl
theorem f67_23 : amFetch 67 23 = some (.aload_n 0, 1, 0, 0, 0) := rfl
theorem f67_24 : amFetch 67 24 = some (.getfield 11, 3, 3, 0, 0) := rfl
theorem f67_27 : amFetch 67 27 = some (.iload_n 1, 1, 0, 0, 0) := rfl
theorem f67_28 : amFetch 67 28 = some (.aaload, 1, 0, 0, 0) := rfl
theorem f67_29 : amFetch 67 29 = some (.areturn, 1, 0, 0, 0) := rfl
theorem ow67 : amOwnL 67 = some (3, 2) := rfl
-- X3_checkSlot
theorem f68_0 : amFetch 68 0 = some (.iload_n 1, 1, 0, 0, 0) := rfl
theorem f68_1 : amFetch 68 1 = some (.ifCond .lt 11, 3, 0, 0, 0) := rfl
theorem f68_4 : amFetch 68 4 = some (.iload_n 1, 1, 0, 0, 0) := rfl
theorem f68_5 : amFetch 68 5 = some (.aload_n 0, 1, 0, 0, 0) := rfl
theorem f68_6 : amFetch 68 6 = some (.invokevirtual 119, 3, 0, 14, 0) := rfl
theorem f68_9 : amFetch 68 9 = some (.if_icmp .lt 13, 3, 0, 0, 0) := rfl
theorem f68_12 : amFetch 68 12 = some (.new 128, 3, 1, 1, 178132) := rfl
theorem f68_15 : amFetch 68 15 = some (.dup, 1, 0, 0, 0) := rfl
theorem f68_16 : amFetch 68 16 = some (.ldc 178, 2, 0, 0, 0) := rfl
theorem f68_18 : amFetch 68 18 = some (.invokespecial 132, 3, 9, 0, 1) := rfl
theorem f68_21 : amFetch 68 21 = some (.athrow, 1, 0, 0, 0) := rfl
theorem f68_22 : amFetch 68 22 = some (.return_, 1, 0, 0, 0) := rfl
theorem ow68 : amOwnL 68 = some (3, 2) := rfl
-- X3_checkFingerprint
theorem f69_0 : amFetch 69 0 = some (.iload_n 0, 1, 0, 0, 0) := rfl
theorem f69_1 : amFetch 69 1 = some (.ifCond .lt 10, 3, 0, 0, 0) := rfl
theorem f69_4 : amFetch 69 4 = some (.iload_n 0, 1, 0, 0, 0) := rfl
theorem f69_5 : amFetch 69 5 = some (.sipush 4096, 3, 0, 0, 0) := rfl
theorem f69_8 : amFetch 69 8 = some (.if_icmp .lt 13, 3, 0, 0, 0) := rfl
theorem f69_11 : amFetch 69 11 = some (.new 180, 3, 1, 3, 182184) := rfl
theorem f69_14 : amFetch 69 14 = some (.dup, 1, 0, 0, 0) := rfl
theorem f69_15 : amFetch 69 15 = some (.ldc 182, 2, 0, 0, 0) := rfl
theorem f69_17 : amFetch 69 17 = some (.invokespecial 184, 3, 9, 0, 1) := rfl
theorem f69_20 : amFetch 69 20 = some (.athrow, 1, 0, 0, 0) := rfl
theorem f69_21 : amFetch 69 21 = some (.return_, 1, 0, 0, 0) := rfl
theorem ow69 : amOwnL 69 = some (3, 1) := rfl
-- X3_checkTimes
theorem f70_0 : amFetch 70 0 = some (.iload_n 0, 1, 0, 0, 0) := rfl
theorem f70_1 : amFetch 70 1 = some (.iconst 1, 1, 0, 0, 0) := rfl
theorem f70_2 : amFetch 70 2 = some (.if_icmp .lt 9, 3, 0, 0, 0) := rfl
theorem f70_5 : amFetch 70 5 = some (.iload_n 0, 1, 0, 0, 0) := rfl
theorem f70_6 : amFetch 70 6 = some (.bipush 100, 2, 0, 0, 0) := rfl
theorem f70_8 : amFetch 70 8 = some (.if_icmp .le 13, 3, 0, 0, 0) := rfl
theorem f70_11 : amFetch 70 11 = some (.new 180, 3, 1, 3, 185184) := rfl
theorem f70_14 : amFetch 70 14 = some (.dup, 1, 0, 0, 0) := rfl
theorem f70_15 : amFetch 70 15 = some (.ldc 185, 2, 0, 0, 0) := rfl
theorem f70_17 : amFetch 70 17 = some (.invokespecial 184, 3, 9, 0, 1) := rfl
theorem f70_20 : amFetch 70 20 = some (.athrow, 1, 0, 0, 0) := rfl
theorem f70_21 : amFetch 70 21 = some (.return_, 1, 0, 0, 0) := rfl
theorem ow70 : amOwnL 70 = some (3, 1) := rfl
-- X3_checkFits
theorem f71_0 : amFetch 71 0 = some (.aload_n 0, 1, 0, 0, 0) := rfl
theorem f71_1 : amFetch 71 1 = some (.invokevirtual 187, 3, 0, 8, 0) := rfl
theorem f71_4 : amFetch 71 4 = some (.iload_n 1, 1, 0, 0, 0) := rfl
theorem f71_5 : amFetch 71 5 = some (.invokestatic 190, 3, 1, 72, 1) := rfl
theorem f71_8 : amFetch 71 8 = some (.if_icmp .le 13, 3, 0, 0, 0) := rfl
theorem f71_11 : amFetch 71 11 = some (.new 80, 3, 1, 2, 193084) := rfl
theorem f71_14 : amFetch 71 14 = some (.dup, 1, 0, 0, 0) := rfl
theorem f71_15 : amFetch 71 15 = some (.ldc 193, 2, 0, 0, 0) := rfl
theorem f71_17 : amFetch 71 17 = some (.invokespecial 84, 3, 9, 0, 1) := rfl
theorem f71_20 : amFetch 71 20 = some (.athrow, 1, 0, 0, 0) := rfl
theorem f71_21 : amFetch 71 21 = some (.return_, 1, 0, 0, 0) := rfl
theorem ow71 : amOwnL 71 = some (3, 2) := rfl
-- X3_mostEntries
theorem f72_0 : amFetch 72 0 = some (.bipush 7, 2, 0, 0, 0) := rfl
theorem f72_2 : amFetch 72 2 = some (.iload_n 0, 1, 0, 0, 0) := rfl
theorem f72_3 : amFetch 72 3 = some (.ishl, 1, 0, 0, 0) := rfl
theorem f72_4 : amFetch 72 4 = some (.iconst 3, 1, 0, 0, 0) := rfl
theorem f72_5 : amFetch 72 5 = some (.ishr, 1, 0, 0, 0) := rfl
theorem f72_6 : amFetch 72 6 = some (.ireturn, 1, 0, 0, 0) := rfl
theorem ow72 : amOwnL 72 = some (3, 1) := rfl
-- X3_entriesFor
theorem f73_0 : amFetch 73 0 = some (.iload_n 0, 1, 0, 0, 0) := rfl
theorem f73_1 : amFetch 73 1 = some (.bipush 7, 2, 0, 0, 0) := rfl
theorem f73_3 : amFetch 73 3 = some (.iadd, 1, 0, 0, 0) := rfl
theorem f73_4 : amFetch 73 4 = some (.iconst 1, 1, 0, 0, 0) := rfl
theorem f73_5 : amFetch 73 5 = some (.isub, 1, 0, 0, 0) := rfl
theorem f73_6 : amFetch 73 6 = some (.bipush 7, 2, 0, 0, 0) := rfl
theorem f73_8 : amFetch 73 8 = some (.idiv, 1, 0, 0, 0) := rfl
theorem f73_9 : amFetch 73 9 = some (.ireturn, 1, 0, 0, 0) := rfl
theorem ow73 : amOwnL 73 = some (3, 1) := rfl
-- X3_putIn
theorem f74_0 : amFetch 74 0 = some (.aload_n 1, 1, 0, 0, 0) := rfl
theorem f74_1 : amFetch 74 1 = some (.aload_n 0, 1, 0, 0, 0) := rfl
theorem f74_2 : amFetch 74 2 = some (.getfield 19, 3, 3, 1, 0) := rfl
theorem f74_5 : amFetch 74 5 = some (.invokevirtual 92, 3, 0, 31, 1) := rfl
theorem f74_8 : amFetch 74 8 = some (.aload_n 0, 1, 0, 0, 0) := rfl
theorem f74_9 : amFetch 74 9 = some (.getfield 23, 3, 3, 2, 0) := rfl
theorem f74_12 : amFetch 74 12 = some (.invokevirtual 195, 3, 0, 1, 0) := rfl
theorem f74_15 : amFetch 74 15 = some (.aload_n 0, 1, 0, 0, 0) := rfl
theorem f74_16 : amFetch 74 16 = some (.getfield 23, 3, 3, 2, 0) := rfl
theorem f74_19 : amFetch 74 19 = some (.iload_n 2, 1, 0, 0, 0) := rfl
theorem f74_20 : amFetch 74 20 = some (.iload_n 3, 1, 0, 0, 0) := rfl
theorem f74_21 : amFetch 74 21 = some (.invokevirtual 198, 3, 0, 2, 2) := rfl
theorem f74_24 : amFetch 74 24 = some (.aload_n 0, 1, 0, 0, 0) := rfl
theorem f74_25 : amFetch 74 25 = some (.getfield 26, 3, 3, 3, 0) := rfl
theorem f74_28 : amFetch 74 28 = some (.aload_n 0, 1, 0, 0, 0) := rfl
theorem f74_29 : amFetch 74 29 = some (.getfield 19, 3, 3, 1, 0) := rfl
theorem f74_32 : amFetch 74 32 = some (.aload_n 0, 1, 0, 0, 0) := rfl
theorem f74_33 : amFetch 74 33 = some (.getfield 23, 3, 3, 2, 0) := rfl
theorem f74_36 : amFetch 74 36 = some (.invokevirtual 96, 3, 0, 3, 2) := rfl
theorem f74_39 : amFetch 74 39 = some (.aload_n 0, 1, 0, 0, 0) := rfl
theorem f74_40 : amFetch 74 40 = some (.getfield 26, 3, 3, 3, 0) := rfl
theorem f74_43 : amFetch 74 43 = some (.aload_n 1, 1, 0, 0, 0) := rfl
theorem f74_44 : amFetch 74 44 = some (.getfield 76, 3, 2, 5, 0) := rfl
theorem f74_47 : amFetch 74 47 = some (.invokestatic 100, 3, 1, 71, 2) := rfl
theorem f74_50 : amFetch 74 50 = some (.aload_n 1, 1, 0, 0, 0) := rfl
theorem f74_51 : amFetch 74 51 = some (.aload_n 1, 1, 0, 0, 0) := rfl
theorem f74_52 : amFetch 74 52 = some (.getfield 76, 3, 2, 5, 0) := rfl
theorem f74_55 : amFetch 74 55 = some (.aload_n 0, 1, 0, 0, 0) := rfl
theorem f74_56 : amFetch 74 56 = some (.getfield 26, 3, 3, 3, 0) := rfl
theorem f74_59 : amFetch 74 59 = some (.invokevirtual 104, 3, 0, 33, 2) := rfl
theorem f74_62 : amFetch 74 62 = some (.aload_n 1, 1, 0, 0, 0) := rfl
theorem f74_63 : amFetch 74 63 = some (.iload_n 2, 1, 0, 0, 0) := rfl
theorem f74_64 : amFetch 74 64 = some (.invokevirtual 52, 3, 0, 28, 1) := rfl
theorem f74_67 : amFetch 74 67 = some (.ireturn, 1, 0, 0, 0) := rfl
theorem ow74 : amOwnL 74 = some (3, 4) := rfl
-- X3_takeOut
theorem f75_0 : amFetch 75 0 = some (.iload_n 3, 1, 0, 0, 0) := rfl
theorem f75_1 : amFetch 75 1 = some (.aload_n 1, 1, 0, 0, 0) := rfl
theorem f75_2 : amFetch 75 2 = some (.iload_n 2, 1, 0, 0, 0) := rfl
theorem f75_3 : amFetch 75 3 = some (.invokevirtual 52, 3, 0, 28, 1) := rfl
theorem f75_6 : amFetch 75 6 = some (.invokestatic 202, 3, 5, 0, 2) := rfl
theorem f75_9 : amFetch 75 9 = some (.istore 4, 2, 0, 0, 0) := rfl
theorem f75_11 : amFetch 75 11 = some (.iload 4, 2, 0, 0, 0) := rfl
theorem f75_13 : amFetch 75 13 = some (.ifCond .le 37, 3, 0, 0, 0) := rfl
theorem f75_16 : amFetch 75 16 = some (.aload_n 1, 1, 0, 0, 0) := rfl
theorem f75_17 : amFetch 75 17 = some (.aload_n 0, 1, 0, 0, 0) := rfl
theorem f75_18 : amFetch 75 18 = some (.getfield 19, 3, 3, 1, 0) := rfl
theorem f75_21 : amFetch 75 21 = some (.invokevirtual 92, 3, 0, 31, 1) := rfl
theorem f75_24 : amFetch 75 24 = some (.aload_n 0, 1, 0, 0, 0) := rfl
theorem f75_25 : amFetch 75 25 = some (.getfield 26, 3, 3, 3, 0) := rfl
theorem f75_28 : amFetch 75 28 = some (.aload_n 0, 1, 0, 0, 0) := rfl
theorem f75_29 : amFetch 75 29 = some (.getfield 19, 3, 3, 1, 0) := rfl
theorem f75_32 : amFetch 75 32 = some (.iload_n 2, 1, 0, 0, 0) := rfl
theorem f75_33 : amFetch 75 33 = some (.iload 4, 2, 0, 0, 0) := rfl
theorem f75_35 : amFetch 75 35 = some (.invokevirtual 208, 3, 0, 5, 3) := rfl
theorem f75_38 : amFetch 75 38 = some (.aload_n 1, 1, 0, 0, 0) := rfl
theorem f75_39 : amFetch 75 39 = some (.aload_n 1, 1, 0, 0, 0) := rfl
theorem f75_40 : amFetch 75 40 = some (.getfield 76, 3, 2, 5, 0) := rfl
theorem f75_43 : amFetch 75 43 = some (.aload_n 0, 1, 0, 0, 0) := rfl
theorem f75_44 : amFetch 75 44 = some (.getfield 26, 3, 3, 3, 0) := rfl
theorem f75_47 : amFetch 75 47 = some (.invokevirtual 104, 3, 0, 33, 2) := rfl
theorem f75_50 : amFetch 75 50 = some (.iload 4, 2, 0, 0, 0) := rfl
theorem f75_52 : amFetch 75 52 = some (.ireturn, 1, 0, 0, 0) := rfl
theorem ow75 : amOwnL 75 = some (3, 5) := rfl
-- X3_resize
theorem f76_0 : amFetch 76 0 = some (.aload_n 1, 1, 0, 0, 0) := rfl
theorem f76_1 : amFetch 76 1 = some (.aload_n 0, 1, 0, 0, 0) := rfl
theorem f76_2 : amFetch 76 2 = some (.getfield 19, 3, 3, 1, 0) := rfl
theorem f76_5 : amFetch 76 5 = some (.invokevirtual 92, 3, 0, 31, 1) := rfl
theorem f76_8 : amFetch 76 8 = some (.aload_n 0, 1, 0, 0, 0) := rfl
theorem f76_9 : amFetch 76 9 = some (.getfield 19, 3, 3, 1, 0) := rfl
theorem f76_12 : amFetch 76 12 = some (.iload_n 2, 1, 0, 0, 0) := rfl
theorem f76_13 : amFetch 76 13 = some (.invokestatic 100, 3, 1, 71, 2) := rfl
theorem f76_16 : amFetch 76 16 = some (.aload_n 1, 1, 0, 0, 0) := rfl
theorem f76_17 : amFetch 76 17 = some (.iload_n 2, 1, 0, 0, 0) := rfl
theorem f76_18 : amFetch 76 18 = some (.aload_n 0, 1, 0, 0, 0) := rfl
theorem f76_19 : amFetch 76 19 = some (.getfield 19, 3, 3, 1, 0) := rfl
theorem f76_22 : amFetch 76 22 = some (.invokevirtual 104, 3, 0, 33, 2) := rfl
theorem f76_25 : amFetch 76 25 = some (.aload_n 1, 1, 0, 0, 0) := rfl
theorem f76_26 : amFetch 76 26 = some (.invokevirtual 119, 3, 0, 14, 0) := rfl
theorem f76_29 : amFetch 76 29 = some (.ireturn, 1, 0, 0, 0) := rfl
theorem ow76 : amOwnL 76 = some (3, 3) := rfl
-- X4_init
theorem f77_0 : amFetch 77 0 = some (.aload_n 0, 1, 0, 0, 0) := rfl
theorem f77_1 : amFetch 77 1 = some (.invokespecial 1, 3, 6, 0, 0) := rfl
theorem f77_4 : amFetch 77 4 = some (.aload_n 0, 1, 0, 0, 0) := rfl
theorem f77_5 : amFetch 77 5 = some (.sipush 16384, 3, 0, 0, 0) := rfl
theorem f77_8 : amFetch 77 8 = some (.newarray .int, 2, 0, 0, 0) := rfl
theorem f77_10 : amFetch 77 10 = some (.putfield 7, 3, 4, 0, 0) := rfl
theorem f77_13 : amFetch 77 13 = some (.aload_n 0, 1, 0, 0, 0) := rfl
theorem f77_14 : amFetch 77 14 = some (.iconst 4, 1, 0, 0, 0) := rfl
theorem f77_15 : amFetch 77 15 = some (.newarray .int, 2, 0, 0, 0) := rfl
theorem f77_17 : amFetch 77 17 = some (.putfield 13, 3, 4, 1, 0) := rfl
theorem f77_20 : amFetch 77 20 = some (.aload_n 0, 1, 0, 0, 0) := rfl
theorem f77_21 : amFetch 77 21 = some (.sipush 256, 3, 0, 0, 0) := rfl
theorem f77_24 : amFetch 77 24 = some (.newarray .int, 2, 0, 0, 0) := rfl
theorem f77_26 : amFetch 77 26 = some (.putfield 16, 3, 4, 2, 0) := rfl
theorem f77_29 : amFetch 77 29 = some (.aload_n 0, 1, 0, 0, 0) := rfl
theorem f77_30 : amFetch 77 30 = some (.sipush 256, 3, 0, 0, 0) := rfl
theorem f77_33 : amFetch 77 33 = some (.newarray .int, 2, 0, 0, 0) := rfl
theorem f77_35 : amFetch 77 35 = some (.putfield 19, 3, 4, 3, 0) := rfl
theorem f77_38 : amFetch 77 38 = some (.aload_n 0, 1, 0, 0, 0) := rfl
theorem f77_39 : amFetch 77 39 = some (.sipush 256, 3, 0, 0, 0) := rfl
theorem f77_42 : amFetch 77 42 = some (.newarray .int, 2, 0, 0, 0) := rfl
theorem f77_44 : amFetch 77 44 = some (.putfield 22, 3, 4, 4, 0) := rfl
theorem f77_47 : amFetch 77 47 = some (.aload_n 0, 1, 0, 0, 0) := rfl
theorem f77_48 : amFetch 77 48 = some (.sipush 256, 3, 0, 0, 0) := rfl
theorem f77_51 : amFetch 77 51 = some (.newarray .int, 2, 0, 0, 0) := rfl
theorem f77_53 : amFetch 77 53 = some (.putfield 25, 3, 4, 5, 0) := rfl
theorem f77_56 : amFetch 77 56 = some (.aload_n 0, 1, 0, 0, 0) := rfl
theorem f77_57 : amFetch 77 57 = some (.sipush 256, 3, 0, 0, 0) := rfl
theorem f77_60 : amFetch 77 60 = some (.newarray .int, 2, 0, 0, 0) := rfl
theorem f77_62 : amFetch 77 62 = some (.putfield 28, 3, 4, 6, 0) := rfl
theorem f77_65 : amFetch 77 65 = some (.iconst 0, 1, 0, 0, 0) := rfl
theorem f77_66 : amFetch 77 66 = some (.istore_n 1, 1, 0, 0, 0) := rfl
theorem f77_67 : amFetch 77 67 = some (.iload_n 1, 1, 0, 0, 0) := rfl
theorem f77_68 : amFetch 77 68 = some (.iconst 4, 1, 0, 0, 0) := rfl
theorem f77_69 : amFetch 77 69 = some (.if_icmp .ge 16, 3, 0, 0, 0) := rfl
theorem f77_72 : amFetch 77 72 = some (.aload_n 0, 1, 0, 0, 0) := rfl
theorem f77_73 : amFetch 77 73 = some (.getfield 13, 3, 4, 1, 0) := rfl
theorem f77_76 : amFetch 77 76 = some (.iload_n 1, 1, 0, 0, 0) := rfl
theorem f77_77 : amFetch 77 77 = some (.iconst 3, 1, 0, 0, 0) := rfl
theorem f77_78 : amFetch 77 78 = some (.iastore, 1, 0, 0, 0) := rfl
theorem f77_79 : amFetch 77 79 = some (.iinc 1 1, 3, 0, 0, 0) := rfl
theorem f77_82 : amFetch 77 82 = some (.goto (-15), 3, 0, 0, 0) := rfl
theorem f77_85 : amFetch 77 85 = some (.return_, 1, 0, 0, 0) := rfl
theorem ow77 : amOwnL 77 = some (4, 2) := rfl
-- X4_thrown
theorem f78_0 : amFetch 78 0 = some (.aload_n 0, 1, 0, 0, 0) := rfl
theorem f78_1 : amFetch 78 1 = some (.getfield 31, 3, 4, 7, 0) := rfl
theorem f78_4 : amFetch 78 4 = some (.ireturn, 1, 0, 0, 0) := rfl
theorem ow78 : amOwnL 78 = some (4, 1) := rfl
-- X4_in
theorem f79_0 : amFetch 79 0 = some (.iload_n 0, 1, 0, 0, 0) := rfl
theorem f79_1 : amFetch 79 1 = some (.iload_n 1, 1, 0, 0, 0) := rfl
theorem f79_2 : amFetch 79 2 = some (.if_icmp .lt 12, 3, 0, 0, 0) := rfl
theorem f79_5 : amFetch 79 5 = some (.iload_n 0, 1, 0, 0, 0) := rfl
theorem f79_6 : amFetch 79 6 = some (.iload_n 2, 1, 0, 0, 0) := rfl
theorem f79_7 : amFetch 79 7 = some (.if_icmp .gt 7, 3, 0, 0, 0) := rfl
theorem f79_10 : amFetch 79 10 = some (.iconst 1, 1, 0, 0, 0) := rfl
theorem f79_11 : amFetch 79 11 = some (.goto 4, 3, 0, 0, 0) := rfl
theorem f79_14 : amFetch 79 14 = some (.iconst 0, 1, 0, 0, 0) := rfl
theorem f79_15 : amFetch 79 15 = some (.ireturn, 1, 0, 0, 0) := rfl
theorem ow79 : amOwnL 79 = some (4, 3) := rfl
-- X4_isFilter
theorem f80_0 : amFetch 80 0 = some (.iload_n 0, 1, 0, 0, 0) := rfl
theorem f80_1 : amFetch 80 1 = some (.iconst 0, 1, 0, 0, 0) := rfl
theorem f80_2 : amFetch 80 2 = some (.iconst 3, 1, 0, 0, 0) := rfl
theorem f80_3 : amFetch 80 3 = some (.invokestatic 35, 3, 1, 79, 3) := rfl
theorem f80_6 : amFetch 80 6 = some (.ireturn, 1, 0, 0, 0) := rfl
theorem ow80 : amOwnL 80 = some (4, 1) := rfl
-- X4_isPrint
theorem f81_0 : amFetch 81 0 = some (.iload_n 0, 1, 0, 0, 0) := rfl
theorem f81_1 : amFetch 81 1 = some (.iconst 0, 1, 0, 0, 0) := rfl
theorem f81_2 : amFetch 81 2 = some (.sipush 4095, 3, 0, 0, 0) := rfl
theorem f81_5 : amFetch 81 5 = some (.invokestatic 35, 3, 1, 79, 3) := rfl
theorem f81_8 : amFetch 81 8 = some (.ireturn, 1, 0, 0, 0) := rfl
theorem ow81 : amOwnL 81 = some (4, 1) := rfl
-- X4_goes
theorem f82_0 : amFetch 82 0 = some (.aload_n 0, 1, 0, 0, 0) := rfl
theorem f82_1 : amFetch 82 1 = some (.iload_n 1, 1, 0, 0, 0) := rfl
theorem f82_2 : amFetch 82 2 = some (.ifCond .ne 7, 3, 0, 0, 0) := rfl
theorem f82_5 : amFetch 82 5 = some (.iconst 1, 1, 0, 0, 0) := rfl
theorem f82_6 : amFetch 82 6 = some (.goto 12, 3, 0, 0, 0) := rfl
theorem f82_9 : amFetch 82 9 = some (.iload_n 2, 1, 0, 0, 0) := rfl
theorem f82_10 : amFetch 82 10 = some (.ifCond .eq 7, 3, 0, 0, 0) := rfl
theorem f82_13 : amFetch 82 13 = some (.iconst 0, 1, 0, 0, 0) := rfl
theorem f82_14 : amFetch 82 14 = some (.goto 4, 3, 0, 0, 0) := rfl
theorem f82_17 : amFetch 82 17 = some (.iconst 2, 1, 0, 0, 0) := rfl
theorem f82_18 : amFetch 82 18 = some (.putfield 31, 3, 4, 7, 0) := rfl
theorem f82_21 : amFetch 82 21 = some (.aload_n 0, 1, 0, 0, 0) := rfl
theorem f82_22 : amFetch 82 22 = some (.getfield 31, 3, 4, 7, 0) := rfl
theorem f82_25 : amFetch 82 25 = some (.ifCond .ne 7, 3, 0, 0, 0) := rfl
theorem f82_28 : amFetch 82 28 = some (.iconst 1, 1, 0, 0, 0) := rfl
theorem f82_29 : amFetch 82 29 = some (.goto 4, 3, 0, 0, 0) := rfl
theorem f82_32 : amFetch 82 32 = some (.iconst 0, 1, 0, 0, 0) := rfl
theorem f82_33 : amFetch 82 33 = some (.ireturn, 1, 0, 0, 0) := rfl
theorem ow82 : amOwnL 82 = some (4, 3) := rfl
-- X4_slotsOf
theorem f83_0 : amFetch 83 0 = some (.iconst 1, 1, 0, 0, 0) := rfl
theorem f83_1 : amFetch 83 1 = some (.aload_n 0, 1, 0, 0, 0) := rfl
theorem f83_2 : amFetch 83 2 = some (.getfield 13, 3, 4, 1, 0) := rfl
theorem f83_5 : amFetch 83 5 = some (.iload_n 1, 1, 0, 0, 0) := rfl
theorem f83_6 : amFetch 83 6 = some (.iaload, 1, 0, 0, 0) := rfl
theorem f83_7 : amFetch 83 7 = some (.ishl, 1, 0, 0, 0) := rfl
theorem f83_8 : amFetch 83 8 = some (.ireturn, 1, 0, 0, 0) := rfl
theorem ow83 : amOwnL 83 = some (4, 2) := rfl
-- X4_entriesOf
theorem f84_0 : amFetch 84 0 = some (.iload_n 0, 1, 0, 0, 0) := rfl
theorem f84_1 : amFetch 84 1 = some (.bipush 7, 2, 0, 0, 0) := rfl
theorem f84_3 : amFetch 84 3 = some (.iadd, 1, 0, 0, 0) := rfl
theorem f84_4 : amFetch 84 4 = some (.iconst 1, 1, 0, 0, 0) := rfl
theorem f84_5 : amFetch 84 5 = some (.isub, 1, 0, 0, 0) := rfl
theorem f84_6 : amFetch 84 6 = some (.bipush 7, 2, 0, 0, 0) := rfl
theorem f84_8 : amFetch 84 8 = some (.idiv, 1, 0, 0, 0) := rfl
theorem f84_9 : amFetch 84 9 = some (.ireturn, 1, 0, 0, 0) := rfl
theorem ow84 : amOwnL 84 = some (4, 1) := rfl
-- X4_countEntries
theorem f85_0 : amFetch 85 0 = some (.iconst 0, 1, 0, 0, 0) := rfl
theorem f85_1 : amFetch 85 1 = some (.istore_n 2, 1, 0, 0, 0) := rfl
theorem f85_2 : amFetch 85 2 = some (.iconst 0, 1, 0, 0, 0) := rfl
theorem f85_3 : amFetch 85 3 = some (.istore_n 3, 1, 0, 0, 0) := rfl
theorem f85_4 : amFetch 85 4 = some (.iload_n 3, 1, 0, 0, 0) := rfl
theorem f85_5 : amFetch 85 5 = some (.sipush 4096, 3, 0, 0, 0) := rfl
theorem f85_8 : amFetch 85 8 = some (.if_icmp .ge 27, 3, 0, 0, 0) := rfl
theorem f85_11 : amFetch 85 11 = some (.iload_n 2, 1, 0, 0, 0) := rfl
theorem f85_12 : amFetch 85 12 = some (.aload_n 0, 1, 0, 0, 0) := rfl
theorem f85_13 : amFetch 85 13 = some (.getfield 7, 3, 4, 0, 0) := rfl
theorem f85_16 : amFetch 85 16 = some (.sipush 4096, 3, 0, 0, 0) := rfl
theorem f85_19 : amFetch 85 19 = some (.iload_n 1, 1, 0, 0, 0) := rfl
theorem f85_20 : amFetch 85 20 = some (.imul, 1, 0, 0, 0) := rfl
theorem f85_21 : amFetch 85 21 = some (.iload_n 3, 1, 0, 0, 0) := rfl
theorem f85_22 : amFetch 85 22 = some (.iadd, 1, 0, 0, 0) := rfl
theorem f85_23 : amFetch 85 23 = some (.iaload, 1, 0, 0, 0) := rfl
theorem f85_24 : amFetch 85 24 = some (.invokestatic 39, 3, 1, 84, 1) := rfl
theorem f85_27 : amFetch 85 27 = some (.iadd, 1, 0, 0, 0) := rfl
theorem f85_28 : amFetch 85 28 = some (.istore_n 2, 1, 0, 0, 0) := rfl
theorem f85_29 : amFetch 85 29 = some (.iinc 3 1, 3, 0, 0, 0) := rfl
theorem f85_32 : amFetch 85 32 = some (.goto (-28), 3, 0, 0, 0) := rfl
theorem f85_35 : amFetch 85 35 = some (.iload_n 2, 1, 0, 0, 0) := rfl
theorem f85_36 : amFetch 85 36 = some (.ireturn, 1, 0, 0, 0) := rfl
theorem ow85 : amOwnL 85 = some (4, 4) := rfl
-- X4_hasRoom
theorem f86_0 : amFetch 86 0 = some (.iload_n 0, 1, 0, 0, 0) := rfl
theorem f86_1 : amFetch 86 1 = some (.iload_n 1, 1, 0, 0, 0) := rfl
theorem f86_2 : amFetch 86 2 = some (.bipush 8, 2, 0, 0, 0) := rfl
theorem f86_4 : amFetch 86 4 = some (.idiv, 1, 0, 0, 0) := rfl
theorem f86_5 : amFetch 86 5 = some (.bipush 7, 2, 0, 0, 0) := rfl
theorem f86_7 : amFetch 86 7 = some (.imul, 1, 0, 0, 0) := rfl
theorem f86_8 : amFetch 86 8 = some (.if_icmp .gt 7, 3, 0, 0, 0) := rfl
theorem f86_11 : amFetch 86 11 = some (.iconst 1, 1, 0, 0, 0) := rfl
theorem f86_12 : amFetch 86 12 = some (.goto 4, 3, 0, 0, 0) := rfl
theorem f86_15 : amFetch 86 15 = some (.iconst 0, 1, 0, 0, 0) := rfl
theorem f86_16 : amFetch 86 16 = some (.ireturn, 1, 0, 0, 0) := rfl
theorem ow86 : amOwnL 86 = some (4, 2) := rfl
-- X4_printOf
theorem f87_0 : amFetch 87 0 = some (.iload_n 0, 1, 0, 0, 0) := rfl
theorem f87_1 : amFetch 87 1 = some (.ldc 43, 2, 0, 0, (-1640531527)) := rfl
theorem f87_3 : amFetch 87 3 = some (.imul, 1, 0, 0, 0) := rfl
theorem f87_4 : amFetch 87 4 = some (.bipush 20, 2, 0, 0, 0) := rfl
theorem f87_6 : amFetch 87 6 = some (.iushr, 1, 0, 0, 0) := rfl
theorem f87_7 : amFetch 87 7 = some (.ireturn, 1, 0, 0, 0) := rfl
theorem ow87 : amOwnL 87 = some (4, 1) := rfl
-- X4_places
theorem f88_0 : amFetch 88 0 = some (.iconst 0, 1, 0, 0, 0) := rfl
theorem f88_1 : amFetch 88 1 = some (.istore_n 2, 1, 0, 0, 0) := rfl
theorem f88_2 : amFetch 88 2 = some (.iconst 0, 1, 0, 0, 0) := rfl
theorem f88_3 : amFetch 88 3 = some (.istore_n 3, 1, 0, 0, 0) := rfl
theorem f88_4 : amFetch 88 4 = some (.iload_n 3, 1, 0, 0, 0) := rfl
theorem f88_5 : amFetch 88 5 = some (.iconst 2, 1, 0, 0, 0) := rfl
theorem f88_6 : amFetch 88 6 = some (.if_icmp .ge 90, 3, 0, 0, 0) := rfl
theorem f88_9 : amFetch 88 9 = some (.iload_n 2, 1, 0, 0, 0) := rfl
theorem f88_10 : amFetch 88 10 = some (.istore 4, 2, 0, 0, 0) := rfl
theorem f88_12 : amFetch 88 12 = some (.iconst 0, 1, 0, 0, 0) := rfl
theorem f88_13 : amFetch 88 13 = some (.istore 5, 2, 0, 0, 0) := rfl
theorem f88_15 : amFetch 88 15 = some (.iload 5, 2, 0, 0, 0) := rfl
theorem f88_17 : amFetch 88 17 = some (.iload_n 1, 1, 0, 0, 0) := rfl
theorem f88_18 : amFetch 88 18 = some (.if_icmp .ge 57, 3, 0, 0, 0) := rfl
theorem f88_21 : amFetch 88 21 = some (.aload_n 0, 1, 0, 0, 0) := rfl
theorem f88_22 : amFetch 88 22 = some (.getfield 22, 3, 4, 4, 0) := rfl
theorem f88_25 : amFetch 88 25 = some (.iload 5, 2, 0, 0, 0) := rfl
theorem f88_27 : amFetch 88 27 = some (.iaload, 1, 0, 0, 0) := rfl
theorem f88_28 : amFetch 88 28 = some (.ifCond .le 41, 3, 0, 0, 0) := rfl
theorem f88_31 : amFetch 88 31 = some (.aload_n 0, 1, 0, 0, 0) := rfl
theorem f88_32 : amFetch 88 32 = some (.getfield 25, 3, 4, 5, 0) := rfl
theorem f88_35 : amFetch 88 35 = some (.iload 5, 2, 0, 0, 0) := rfl
theorem f88_37 : amFetch 88 37 = some (.iload 4, 2, 0, 0, 0) := rfl
theorem f88_39 : amFetch 88 39 = some (.iload 5, 2, 0, 0, 0) := rfl
theorem f88_41 : amFetch 88 41 = some (.if_icmp .le 8, 3, 0, 0, 0) := rfl
theorem f88_44 : amFetch 88 44 = some (.iload 4, 2, 0, 0, 0) := rfl
theorem f88_46 : amFetch 88 46 = some (.goto 5, 3, 0, 0, 0) := rfl
theorem f88_49 : amFetch 88 49 = some (.iload 5, 2, 0, 0, 0) := rfl
theorem f88_51 : amFetch 88 51 = some (.iastore, 1, 0, 0, 0) := rfl
theorem f88_52 : amFetch 88 52 = some (.aload_n 0, 1, 0, 0, 0) := rfl
theorem f88_53 : amFetch 88 53 = some (.getfield 25, 3, 4, 5, 0) := rfl
theorem f88_56 : amFetch 88 56 = some (.iload 5, 2, 0, 0, 0) := rfl
theorem f88_58 : amFetch 88 58 = some (.iaload, 1, 0, 0, 0) := rfl
theorem f88_59 : amFetch 88 59 = some (.aload_n 0, 1, 0, 0, 0) := rfl
theorem f88_60 : amFetch 88 60 = some (.getfield 22, 3, 4, 4, 0) := rfl
theorem f88_63 : amFetch 88 63 = some (.iload 5, 2, 0, 0, 0) := rfl
theorem f88_65 : amFetch 88 65 = some (.iaload, 1, 0, 0, 0) := rfl
theorem f88_66 : amFetch 88 66 = some (.iadd, 1, 0, 0, 0) := rfl
theorem f88_67 : amFetch 88 67 = some (.istore 4, 2, 0, 0, 0) := rfl
theorem f88_69 : amFetch 88 69 = some (.iinc 5 1, 3, 0, 0, 0) := rfl
theorem f88_72 : amFetch 88 72 = some (.goto (-57), 3, 0, 0, 0) := rfl
theorem f88_75 : amFetch 88 75 = some (.iload 4, 2, 0, 0, 0) := rfl
theorem f88_77 : amFetch 88 77 = some (.iload_n 1, 1, 0, 0, 0) := rfl
theorem f88_78 : amFetch 88 78 = some (.if_icmp .le 10, 3, 0, 0, 0) := rfl
theorem f88_81 : amFetch 88 81 = some (.iload 4, 2, 0, 0, 0) := rfl
theorem f88_83 : amFetch 88 83 = some (.iload_n 1, 1, 0, 0, 0) := rfl
theorem f88_84 : amFetch 88 84 = some (.isub, 1, 0, 0, 0) := rfl
theorem f88_85 : amFetch 88 85 = some (.goto 4, 3, 0, 0, 0) := rfl
theorem f88_88 : amFetch 88 88 = some (.iconst 0, 1, 0, 0, 0) := rfl
theorem f88_89 : amFetch 88 89 = some (.istore_n 2, 1, 0, 0, 0) := rfl
theorem f88_90 : amFetch 88 90 = some (.iinc 3 1, 3, 0, 0, 0) := rfl
theorem f88_93 : amFetch 88 93 = some (.goto (-89), 3, 0, 0, 0) := rfl
theorem f88_96 : amFetch 88 96 = some (.return_, 1, 0, 0, 0) := rfl
theorem ow88 : amOwnL 88 = some (4, 6) := rfl
-- X4_lays
theorem f89_0 : amFetch 89 0 = some (.aload_n 0, 1, 0, 0, 0) := rfl
theorem f89_1 : amFetch 89 1 = some (.iload_n 1, 1, 0, 0, 0) := rfl
theorem f89_2 : amFetch 89 2 = some (.invokevirtual 44, 3, 0, 83, 1) := rfl
theorem f89_5 : amFetch 89 5 = some (.istore_n 2, 1, 0, 0, 0) := rfl
theorem f89_6 : amFetch 89 6 = some (.bipush 12, 2, 0, 0, 0) := rfl
theorem f89_8 : amFetch 89 8 = some (.aload_n 0, 1, 0, 0, 0) := rfl
theorem f89_9 : amFetch 89 9 = some (.getfield 13, 3, 4, 1, 0) := rfl
theorem f89_12 : amFetch 89 12 = some (.iload_n 1, 1, 0, 0, 0) := rfl
theorem f89_13 : amFetch 89 13 = some (.iaload, 1, 0, 0, 0) := rfl
theorem f89_14 : amFetch 89 14 = some (.isub, 1, 0, 0, 0) := rfl
theorem f89_15 : amFetch 89 15 = some (.istore_n 3, 1, 0, 0, 0) := rfl
theorem f89_16 : amFetch 89 16 = some (.iconst 0, 1, 0, 0, 0) := rfl
theorem f89_17 : amFetch 89 17 = some (.istore 4, 2, 0, 0, 0) := rfl
theorem f89_19 : amFetch 89 19 = some (.iload 4, 2, 0, 0, 0) := rfl
theorem f89_21 : amFetch 89 21 = some (.iload_n 2, 1, 0, 0, 0) := rfl
theorem f89_22 : amFetch 89 22 = some (.if_icmp .ge 41, 3, 0, 0, 0) := rfl
theorem f89_25 : amFetch 89 25 = some (.aload_n 0, 1, 0, 0, 0) := rfl
theorem f89_26 : amFetch 89 26 = some (.getfield 22, 3, 4, 4, 0) := rfl
theorem f89_29 : amFetch 89 29 = some (.iload 4, 2, 0, 0, 0) := rfl
theorem f89_31 : amFetch 89 31 = some (.iconst 0, 1, 0, 0, 0) := rfl
theorem f89_32 : amFetch 89 32 = some (.iastore, 1, 0, 0, 0) := rfl
theorem f89_33 : amFetch 89 33 = some (.aload_n 0, 1, 0, 0, 0) := rfl
theorem f89_34 : amFetch 89 34 = some (.getfield 28, 3, 4, 6, 0) := rfl
theorem f89_37 : amFetch 89 37 = some (.iload 4, 2, 0, 0, 0) := rfl
theorem f89_39 : amFetch 89 39 = some (.iconst 0, 1, 0, 0, 0) := rfl
theorem f89_40 : amFetch 89 40 = some (.iastore, 1, 0, 0, 0) := rfl
theorem f89_41 : amFetch 89 41 = some (.aload_n 0, 1, 0, 0, 0) := rfl
theorem f89_42 : amFetch 89 42 = some (.getfield 16, 3, 4, 2, 0) := rfl
theorem f89_45 : amFetch 89 45 = some (.iload 4, 2, 0, 0, 0) := rfl
theorem f89_47 : amFetch 89 47 = some (.iconst 0, 1, 0, 0, 0) := rfl
theorem f89_48 : amFetch 89 48 = some (.iastore, 1, 0, 0, 0) := rfl
theorem f89_49 : amFetch 89 49 = some (.aload_n 0, 1, 0, 0, 0) := rfl
theorem f89_50 : amFetch 89 50 = some (.getfield 19, 3, 4, 3, 0) := rfl
theorem f89_53 : amFetch 89 53 = some (.iload 4, 2, 0, 0, 0) := rfl
theorem f89_55 : amFetch 89 55 = some (.iconst 0, 1, 0, 0, 0) := rfl
theorem f89_56 : amFetch 89 56 = some (.iastore, 1, 0, 0, 0) := rfl
theorem f89_57 : amFetch 89 57 = some (.iinc 4 1, 3, 0, 0, 0) := rfl
theorem f89_60 : amFetch 89 60 = some (.goto (-41), 3, 0, 0, 0) := rfl
theorem f89_63 : amFetch 89 63 = some (.iconst 0, 1, 0, 0, 0) := rfl
theorem f89_64 : amFetch 89 64 = some (.istore 4, 2, 0, 0, 0) := rfl
theorem f89_66 : amFetch 89 66 = some (.iload 4, 2, 0, 0, 0) := rfl
theorem f89_68 : amFetch 89 68 = some (.sipush 4096, 3, 0, 0, 0) := rfl
theorem f89_71 : amFetch 89 71 = some (.if_icmp .ge 37, 3, 0, 0, 0) := rfl
theorem f89_74 : amFetch 89 74 = some (.aload_n 0, 1, 0, 0, 0) := rfl
theorem f89_75 : amFetch 89 75 = some (.getfield 22, 3, 4, 4, 0) := rfl
theorem f89_78 : amFetch 89 78 = some (.iload 4, 2, 0, 0, 0) := rfl
theorem f89_80 : amFetch 89 80 = some (.iload_n 3, 1, 0, 0, 0) := rfl
theorem f89_81 : amFetch 89 81 = some (.ishr, 1, 0, 0, 0) := rfl
theorem f89_82 : amFetch 89 82 = some (.dup2, 1, 0, 0, 0) := rfl
theorem f89_83 : amFetch 89 83 = some (.iaload, 1, 0, 0, 0) := rfl
theorem f89_84 : amFetch 89 84 = some (.aload_n 0, 1, 0, 0, 0) := rfl
theorem f89_85 : amFetch 89 85 = some (.getfield 7, 3, 4, 0, 0) := rfl
theorem f89_88 : amFetch 89 88 = some (.sipush 4096, 3, 0, 0, 0) := rfl
theorem f89_91 : amFetch 89 91 = some (.iload_n 1, 1, 0, 0, 0) := rfl
theorem f89_92 : amFetch 89 92 = some (.imul, 1, 0, 0, 0) := rfl
theorem f89_93 : amFetch 89 93 = some (.iload 4, 2, 0, 0, 0) := rfl
theorem f89_95 : amFetch 89 95 = some (.iadd, 1, 0, 0, 0) := rfl
theorem f89_96 : amFetch 89 96 = some (.iaload, 1, 0, 0, 0) := rfl
theorem f89_97 : amFetch 89 97 = some (.invokestatic 39, 3, 1, 84, 1) := rfl
theorem f89_100 : amFetch 89 100 = some (.iadd, 1, 0, 0, 0) := rfl
theorem f89_101 : amFetch 89 101 = some (.iastore, 1, 0, 0, 0) := rfl
theorem f89_102 : amFetch 89 102 = some (.iinc 4 1, 3, 0, 0, 0) := rfl
theorem f89_105 : amFetch 89 105 = some (.goto (-39), 3, 0, 0, 0) := rfl
theorem f89_108 : amFetch 89 108 = some (.aload_n 0, 1, 0, 0, 0) := rfl
theorem f89_109 : amFetch 89 109 = some (.iload_n 2, 1, 0, 0, 0) := rfl
theorem f89_110 : amFetch 89 110 = some (.invokevirtual 47, 3, 0, 88, 1) := rfl
theorem f89_113 : amFetch 89 113 = some (.iconst 0, 1, 0, 0, 0) := rfl
theorem f89_114 : amFetch 89 114 = some (.istore 4, 2, 0, 0, 0) := rfl
theorem f89_116 : amFetch 89 116 = some (.iload 4, 2, 0, 0, 0) := rfl
theorem f89_118 : amFetch 89 118 = some (.sipush 4096, 3, 0, 0, 0) := rfl
theorem f89_121 : amFetch 89 121 = some (.if_icmp .ge 103, 3, 0, 0, 0) := rfl
theorem f89_124 : amFetch 89 124 = some (.iload 4, 2, 0, 0, 0) := rfl
theorem f89_126 : amFetch 89 126 = some (.iload_n 3, 1, 0, 0, 0) := rfl
theorem f89_127 : amFetch 89 127 = some (.ishr, 1, 0, 0, 0) := rfl
theorem f89_128 : amFetch 89 128 = some (.istore 5, 2, 0, 0, 0) := rfl
theorem f89_130 : amFetch 89 130 = some (.aload_n 0, 1, 0, 0, 0) := rfl
theorem f89_131 : amFetch 89 131 = some (.getfield 7, 3, 4, 0, 0) := rfl
theorem f89_134 : amFetch 89 134 = some (.sipush 4096, 3, 0, 0, 0) := rfl
theorem f89_137 : amFetch 89 137 = some (.iload_n 1, 1, 0, 0, 0) := rfl
theorem f89_138 : amFetch 89 138 = some (.imul, 1, 0, 0, 0) := rfl
theorem f89_139 : amFetch 89 139 = some (.iload 4, 2, 0, 0, 0) := rfl
theorem f89_141 : amFetch 89 141 = some (.iadd, 1, 0, 0, 0) := rfl
theorem f89_142 : amFetch 89 142 = some (.iaload, 1, 0, 0, 0) := rfl
theorem f89_143 : amFetch 89 143 = some (.istore 6, 2, 0, 0, 0) := rfl
theorem f89_145 : amFetch 89 145 = some (.iload 6, 2, 0, 0, 0) := rfl
theorem f89_147 : amFetch 89 147 = some (.ifCond .le 71, 3, 0, 0, 0) := rfl
theorem f89_150 : amFetch 89 150 = some (.aload_n 0, 1, 0, 0, 0) := rfl
theorem f89_151 : amFetch 89 151 = some (.getfield 25, 3, 4, 5, 0) := rfl
theorem f89_154 : amFetch 89 154 = some (.iload 5, 2, 0, 0, 0) := rfl
theorem f89_156 : amFetch 89 156 = some (.iaload, 1, 0, 0, 0) := rfl
theorem f89_157 : amFetch 89 157 = some (.aload_n 0, 1, 0, 0, 0) := rfl
theorem f89_158 : amFetch 89 158 = some (.getfield 28, 3, 4, 6, 0) := rfl
theorem f89_161 : amFetch 89 161 = some (.iload 5, 2, 0, 0, 0) := rfl
theorem f89_163 : amFetch 89 163 = some (.iaload, 1, 0, 0, 0) := rfl
theorem f89_164 : amFetch 89 164 = some (.iadd, 1, 0, 0, 0) := rfl
theorem f89_165 : amFetch 89 165 = some (.iload_n 2, 1, 0, 0, 0) := rfl
theorem f89_166 : amFetch 89 166 = some (.irem, 1, 0, 0, 0) := rfl
theorem f89_167 : amFetch 89 167 = some (.istore 7, 2, 0, 0, 0) := rfl
theorem f89_169 : amFetch 89 169 = some (.aload_n 0, 1, 0, 0, 0) := rfl
theorem f89_170 : amFetch 89 170 = some (.getfield 16, 3, 4, 2, 0) := rfl
theorem f89_173 : amFetch 89 173 = some (.iload 7, 2, 0, 0, 0) := rfl
theorem f89_175 : amFetch 89 175 = some (.iload 4, 2, 0, 0, 0) := rfl
theorem f89_177 : amFetch 89 177 = some (.iconst 1, 1, 0, 0, 0) := rfl
theorem f89_178 : amFetch 89 178 = some (.iadd, 1, 0, 0, 0) := rfl
theorem f89_179 : amFetch 89 179 = some (.iastore, 1, 0, 0, 0) := rfl
theorem f89_180 : amFetch 89 180 = some (.aload_n 0, 1, 0, 0, 0) := rfl
theorem f89_181 : amFetch 89 181 = some (.getfield 19, 3, 4, 3, 0) := rfl
theorem f89_184 : amFetch 89 184 = some (.iload 7, 2, 0, 0, 0) := rfl
theorem f89_186 : amFetch 89 186 = some (.iload 6, 2, 0, 0, 0) := rfl
theorem f89_188 : amFetch 89 188 = some (.bipush 7, 2, 0, 0, 0) := rfl
theorem f89_190 : amFetch 89 190 = some (.if_icmp .le 8, 3, 0, 0, 0) := rfl
theorem f89_193 : amFetch 89 193 = some (.bipush 7, 2, 0, 0, 0) := rfl
theorem f89_195 : amFetch 89 195 = some (.goto 5, 3, 0, 0, 0) := rfl
theorem f89_198 : amFetch 89 198 = some (.iload 6, 2, 0, 0, 0) := rfl
theorem f89_200 : amFetch 89 200 = some (.iastore, 1, 0, 0, 0) := rfl
theorem f89_201 : amFetch 89 201 = some (.aload_n 0, 1, 0, 0, 0) := rfl
theorem f89_202 : amFetch 89 202 = some (.getfield 28, 3, 4, 6, 0) := rfl
theorem f89_205 : amFetch 89 205 = some (.iload 5, 2, 0, 0, 0) := rfl
theorem f89_207 : amFetch 89 207 = some (.dup2, 1, 0, 0, 0) := rfl
theorem f89_208 : amFetch 89 208 = some (.iaload, 1, 0, 0, 0) := rfl
theorem f89_209 : amFetch 89 209 = some (.iconst 1, 1, 0, 0, 0) := rfl
theorem f89_210 : amFetch 89 210 = some (.iadd, 1, 0, 0, 0) := rfl
theorem f89_211 : amFetch 89 211 = some (.iastore, 1, 0, 0, 0) := rfl
theorem f89_212 : amFetch 89 212 = some (.iinc 6 (-7), 3, 0, 0, 0) := rfl
theorem f89_215 : amFetch 89 215 = some (.goto (-70), 3, 0, 0, 0) := rfl
theorem f89_218 : amFetch 89 218 = some (.iinc 4 1, 3, 0, 0, 0) := rfl
theorem f89_221 : amFetch 89 221 = some (.goto (-105), 3, 0, 0, 0) := rfl
theorem f89_224 : amFetch 89 224 = some (.return_, 1, 0, 0, 0) := rfl
theorem ow89 : amOwnL 89 = some (4, 8) := rfl
-- X4_isEntry
theorem f90_0 : amFetch 90 0 = some (.aload_n 0, 1, 0, 0, 0) := rfl
theorem f90_1 : amFetch 90 1 = some (.getfield 16, 3, 4, 2, 0) := rfl
theorem f90_4 : amFetch 90 4 = some (.iload_n 1, 1, 0, 0, 0) := rfl
theorem f90_5 : amFetch 90 5 = some (.iaload, 1, 0, 0, 0) := rfl
theorem f90_6 : amFetch 90 6 = some (.ifCond .le 7, 3, 0, 0, 0) := rfl
theorem f90_9 : amFetch 90 9 = some (.iconst 1, 1, 0, 0, 0) := rfl
theorem f90_10 : amFetch 90 10 = some (.goto 4, 3, 0, 0, 0) := rfl
theorem f90_13 : amFetch 90 13 = some (.iconst 0, 1, 0, 0, 0) := rfl
theorem f90_14 : amFetch 90 14 = some (.ireturn, 1, 0, 0, 0) := rfl
theorem ow90 : amOwnL 90 = some (4, 2) := rfl
-- X4_quotientIn
theorem f91_0 : amFetch 91 0 = some (.aload_n 0, 1, 0, 0, 0) := rfl
theorem f91_1 : amFetch 91 1 = some (.getfield 16, 3, 4, 2, 0) := rfl
theorem f91_4 : amFetch 91 4 = some (.iload_n 2, 1, 0, 0, 0) := rfl
theorem f91_5 : amFetch 91 5 = some (.iaload, 1, 0, 0, 0) := rfl
theorem f91_6 : amFetch 91 6 = some (.iconst 1, 1, 0, 0, 0) := rfl
theorem f91_7 : amFetch 91 7 = some (.isub, 1, 0, 0, 0) := rfl
theorem f91_8 : amFetch 91 8 = some (.bipush 12, 2, 0, 0, 0) := rfl
theorem f91_10 : amFetch 91 10 = some (.aload_n 0, 1, 0, 0, 0) := rfl
theorem f91_11 : amFetch 91 11 = some (.getfield 13, 3, 4, 1, 0) := rfl
theorem f91_14 : amFetch 91 14 = some (.iload_n 1, 1, 0, 0, 0) := rfl
theorem f91_15 : amFetch 91 15 = some (.iaload, 1, 0, 0, 0) := rfl
theorem f91_16 : amFetch 91 16 = some (.isub, 1, 0, 0, 0) := rfl
theorem f91_17 : amFetch 91 17 = some (.ishr, 1, 0, 0, 0) := rfl
theorem f91_18 : amFetch 91 18 = some (.ireturn, 1, 0, 0, 0) := rfl
theorem ow91 : amOwnL 91 = some (4, 3) := rfl
-- X4_isMoved
theorem f92_0 : amFetch 92 0 = some (.aload_n 0, 1, 0, 0, 0) := rfl
theorem f92_1 : amFetch 92 1 = some (.iload_n 2, 1, 0, 0, 0) := rfl
theorem f92_2 : amFetch 92 2 = some (.invokevirtual 51, 3, 0, 90, 1) := rfl
theorem f92_5 : amFetch 92 5 = some (.ifCond .eq 17, 3, 0, 0, 0) := rfl
theorem f92_8 : amFetch 92 8 = some (.aload_n 0, 1, 0, 0, 0) := rfl
theorem f92_9 : amFetch 92 9 = some (.iload_n 1, 1, 0, 0, 0) := rfl
theorem f92_10 : amFetch 92 10 = some (.iload_n 2, 1, 0, 0, 0) := rfl
theorem f92_11 : amFetch 92 11 = some (.invokevirtual 55, 3, 0, 91, 2) := rfl
theorem f92_14 : amFetch 92 14 = some (.iload_n 2, 1, 0, 0, 0) := rfl
theorem f92_15 : amFetch 92 15 = some (.if_icmp .eq 7, 3, 0, 0, 0) := rfl
theorem f92_18 : amFetch 92 18 = some (.iconst 1, 1, 0, 0, 0) := rfl
theorem f92_19 : amFetch 92 19 = some (.goto 4, 3, 0, 0, 0) := rfl
theorem f92_22 : amFetch 92 22 = some (.iconst 0, 1, 0, 0, 0) := rfl
theorem f92_23 : amFetch 92 23 = some (.ireturn, 1, 0, 0, 0) := rfl
theorem ow92 : amOwnL 92 = some (4, 3) := rfl
-- X4_fingerprint
theorem f93_0 : amFetch 93 0 = some (.aload_n 0, 1, 0, 0, 0) := rfl
theorem f93_1 : amFetch 93 1 = some (.iconst 0, 1, 0, 0, 0) := rfl
theorem f93_2 : amFetch 93 2 = some (.putfield 31, 3, 4, 7, 0) := rfl
theorem f93_5 : amFetch 93 5 = some (.iload_n 1, 1, 0, 0, 0) := rfl
theorem f93_6 : amFetch 93 6 = some (.invokestatic 59, 3, 1, 87, 1) := rfl
theorem f93_9 : amFetch 93 9 = some (.ireturn, 1, 0, 0, 0) := rfl
theorem ow93 : amOwnL 93 = some (4, 2) := rfl
-- X4_changes
theorem f94_0 : amFetch 94 0 = some (.aload_n 0, 1, 0, 0, 0) := rfl
theorem f94_1 : amFetch 94 1 = some (.getfield 7, 3, 4, 0, 0) := rfl
theorem f94_4 : amFetch 94 4 = some (.sipush 4096, 3, 0, 0, 0) := rfl
theorem f94_7 : amFetch 94 7 = some (.iload_n 1, 1, 0, 0, 0) := rfl
theorem f94_8 : amFetch 94 8 = some (.imul, 1, 0, 0, 0) := rfl
theorem f94_9 : amFetch 94 9 = some (.iload_n 2, 1, 0, 0, 0) := rfl
theorem f94_10 : amFetch 94 10 = some (.iadd, 1, 0, 0, 0) := rfl
theorem f94_11 : amFetch 94 11 = some (.iaload, 1, 0, 0, 0) := rfl
theorem f94_12 : amFetch 94 12 = some (.istore 4, 2, 0, 0, 0) := rfl
theorem f94_14 : amFetch 94 14 = some (.aload_n 0, 1, 0, 0, 0) := rfl
theorem f94_15 : amFetch 94 15 = some (.iload_n 1, 1, 0, 0, 0) := rfl
theorem f94_16 : amFetch 94 16 = some (.invokevirtual 62, 3, 0, 85, 1) := rfl
theorem f94_19 : amFetch 94 19 = some (.iload 4, 2, 0, 0, 0) := rfl
theorem f94_21 : amFetch 94 21 = some (.invokestatic 39, 3, 1, 84, 1) := rfl
theorem f94_24 : amFetch 94 24 = some (.isub, 1, 0, 0, 0) := rfl
theorem f94_25 : amFetch 94 25 = some (.iload_n 3, 1, 0, 0, 0) := rfl
theorem f94_26 : amFetch 94 26 = some (.invokestatic 39, 3, 1, 84, 1) := rfl
theorem f94_29 : amFetch 94 29 = some (.iadd, 1, 0, 0, 0) := rfl
theorem f94_30 : amFetch 94 30 = some (.istore 5, 2, 0, 0, 0) := rfl
theorem f94_32 : amFetch 94 32 = some (.iload 5, 2, 0, 0, 0) := rfl
theorem f94_34 : amFetch 94 34 = some (.aload_n 0, 1, 0, 0, 0) := rfl
theorem f94_35 : amFetch 94 35 = some (.iload_n 1, 1, 0, 0, 0) := rfl
theorem f94_36 : amFetch 94 36 = some (.invokevirtual 44, 3, 0, 83, 1) := rfl
theorem f94_39 : amFetch 94 39 = some (.invokestatic 65, 3, 1, 86, 2) := rfl
theorem f94_42 : amFetch 94 42 = some (.istore 6, 2, 0, 0, 0) := rfl
theorem f94_44 : amFetch 94 44 = some (.aload_n 0, 1, 0, 0, 0) := rfl
theorem f94_45 : amFetch 94 45 = some (.getfield 7, 3, 4, 0, 0) := rfl
theorem f94_48 : amFetch 94 48 = some (.sipush 4096, 3, 0, 0, 0) := rfl
theorem f94_51 : amFetch 94 51 = some (.iload_n 1, 1, 0, 0, 0) := rfl
theorem f94_52 : amFetch 94 52 = some (.imul, 1, 0, 0, 0) := rfl
theorem f94_53 : amFetch 94 53 = some (.iload_n 2, 1, 0, 0, 0) := rfl
theorem f94_54 : amFetch 94 54 = some (.iadd, 1, 0, 0, 0) := rfl
theorem f94_55 : amFetch 94 55 = some (.iload 6, 2, 0, 0, 0) := rfl
theorem f94_57 : amFetch 94 57 = some (.ifCond .eq 7, 3, 0, 0, 0) := rfl
theorem f94_60 : amFetch 94 60 = some (.iload_n 3, 1, 0, 0, 0) := rfl
theorem f94_61 : amFetch 94 61 = some (.goto 5, 3, 0, 0, 0) := rfl
theorem f94_64 : amFetch 94 64 = some (.iload 4, 2, 0, 0, 0) := rfl
theorem f94_66 : amFetch 94 66 = some (.iastore, 1, 0, 0, 0) := rfl
theorem f94_67 : amFetch 94 67 = some (.iload 6, 2, 0, 0, 0) := rfl
theorem f94_69 : amFetch 94 69 = some (.ireturn, 1, 0, 0, 0) := rfl
theorem ow94 : amOwnL 94 = some (4, 7) := rfl
-- X4_insert
theorem f95_0 : amFetch 95 0 = some (.aload_n 0, 1, 0, 0, 0) := rfl
theorem f95_1 : amFetch 95 1 = some (.iload_n 1, 1, 0, 0, 0) := rfl
theorem f95_2 : amFetch 95 2 = some (.invokestatic 69, 3, 1, 80, 1) := rfl
theorem f95_5 : amFetch 95 5 = some (.iconst 1, 1, 0, 0, 0) := rfl
theorem f95_6 : amFetch 95 6 = some (.invokevirtual 72, 3, 0, 82, 2) := rfl
theorem f95_9 : amFetch 95 9 = some (.ifCond .ne 5, 3, 0, 0, 0) := rfl
theorem f95_12 : amFetch 95 12 = some (.iconst 0, 1, 0, 0, 0) := rfl
theorem f95_13 : amFetch 95 13 = some (.ireturn, 1, 0, 0, 0) := rfl
theorem f95_14 : amFetch 95 14 = some (.sipush 4096, 3, 0, 0, 0) := rfl
theorem f95_17 : amFetch 95 17 = some (.iload_n 1, 1, 0, 0, 0) := rfl
theorem f95_18 : amFetch 95 18 = some (.imul, 1, 0, 0, 0) := rfl
theorem f95_19 : amFetch 95 19 = some (.iload_n 2, 1, 0, 0, 0) := rfl
theorem f95_20 : amFetch 95 20 = some (.invokestatic 59, 3, 1, 87, 1) := rfl
theorem f95_23 : amFetch 95 23 = some (.iadd, 1, 0, 0, 0) := rfl
theorem f95_24 : amFetch 95 24 = some (.istore_n 3, 1, 0, 0, 0) := rfl
theorem f95_25 : amFetch 95 25 = some (.aload_n 0, 1, 0, 0, 0) := rfl
theorem f95_26 : amFetch 95 26 = some (.aload_n 0, 1, 0, 0, 0) := rfl
theorem f95_27 : amFetch 95 27 = some (.iload_n 1, 1, 0, 0, 0) := rfl
theorem f95_28 : amFetch 95 28 = some (.iload_n 2, 1, 0, 0, 0) := rfl
theorem f95_29 : amFetch 95 29 = some (.invokestatic 59, 3, 1, 87, 1) := rfl
theorem f95_32 : amFetch 95 32 = some (.aload_n 0, 1, 0, 0, 0) := rfl
theorem f95_33 : amFetch 95 33 = some (.getfield 7, 3, 4, 0, 0) := rfl
theorem f95_36 : amFetch 95 36 = some (.iload_n 3, 1, 0, 0, 0) := rfl
theorem f95_37 : amFetch 95 37 = some (.iaload, 1, 0, 0, 0) := rfl
theorem f95_38 : amFetch 95 38 = some (.iconst 1, 1, 0, 0, 0) := rfl
theorem f95_39 : amFetch 95 39 = some (.iadd, 1, 0, 0, 0) := rfl
theorem f95_40 : amFetch 95 40 = some (.invokevirtual 76, 3, 0, 94, 3) := rfl
theorem f95_43 : amFetch 95 43 = some (.ifCond .eq 7, 3, 0, 0, 0) := rfl
theorem f95_46 : amFetch 95 46 = some (.iconst 0, 1, 0, 0, 0) := rfl
theorem f95_47 : amFetch 95 47 = some (.goto 4, 3, 0, 0, 0) := rfl
theorem f95_50 : amFetch 95 50 = some (.iconst 2, 1, 0, 0, 0) := rfl
theorem f95_51 : amFetch 95 51 = some (.putfield 31, 3, 4, 7, 0) := rfl
theorem f95_54 : amFetch 95 54 = some (.aload_n 0, 1, 0, 0, 0) := rfl
theorem f95_55 : amFetch 95 55 = some (.getfield 31, 3, 4, 7, 0) := rfl
theorem f95_58 : amFetch 95 58 = some (.ifCond .ne 12, 3, 0, 0, 0) := rfl
theorem f95_61 : amFetch 95 61 = some (.aload_n 0, 1, 0, 0, 0) := rfl
theorem f95_62 : amFetch 95 62 = some (.getfield 7, 3, 4, 0, 0) := rfl
theorem f95_65 : amFetch 95 65 = some (.iload_n 3, 1, 0, 0, 0) := rfl
theorem f95_66 : amFetch 95 66 = some (.iaload, 1, 0, 0, 0) := rfl
theorem f95_67 : amFetch 95 67 = some (.goto 4, 3, 0, 0, 0) := rfl
theorem f95_70 : amFetch 95 70 = some (.iconst 0, 1, 0, 0, 0) := rfl
theorem f95_71 : amFetch 95 71 = some (.ireturn, 1, 0, 0, 0) := rfl
theorem ow95 : amOwnL 95 = some (4, 4) := rfl
-- X4_remove
theorem f96_0 : amFetch 96 0 = some (.aload_n 0, 1, 0, 0, 0) := rfl
theorem f96_1 : amFetch 96 1 = some (.iload_n 1, 1, 0, 0, 0) := rfl
theorem f96_2 : amFetch 96 2 = some (.invokestatic 69, 3, 1, 80, 1) := rfl
theorem f96_5 : amFetch 96 5 = some (.iconst 1, 1, 0, 0, 0) := rfl
theorem f96_6 : amFetch 96 6 = some (.invokevirtual 72, 3, 0, 82, 2) := rfl
theorem f96_9 : amFetch 96 9 = some (.ifCond .ne 5, 3, 0, 0, 0) := rfl
theorem f96_12 : amFetch 96 12 = some (.iconst 0, 1, 0, 0, 0) := rfl
theorem f96_13 : amFetch 96 13 = some (.ireturn, 1, 0, 0, 0) := rfl
theorem f96_14 : amFetch 96 14 = some (.aload_n 0, 1, 0, 0, 0) := rfl
theorem f96_15 : amFetch 96 15 = some (.getfield 7, 3, 4, 0, 0) := rfl
theorem f96_18 : amFetch 96 18 = some (.sipush 4096, 3, 0, 0, 0) := rfl
theorem f96_21 : amFetch 96 21 = some (.iload_n 1, 1, 0, 0, 0) := rfl
theorem f96_22 : amFetch 96 22 = some (.imul, 1, 0, 0, 0) := rfl
theorem f96_23 : amFetch 96 23 = some (.iload_n 2, 1, 0, 0, 0) := rfl
theorem f96_24 : amFetch 96 24 = some (.invokestatic 59, 3, 1, 87, 1) := rfl
theorem f96_27 : amFetch 96 27 = some (.iadd, 1, 0, 0, 0) := rfl
theorem f96_28 : amFetch 96 28 = some (.iaload, 1, 0, 0, 0) := rfl
theorem f96_29 : amFetch 96 29 = some (.istore_n 3, 1, 0, 0, 0) := rfl
theorem f96_30 : amFetch 96 30 = some (.iload_n 3, 1, 0, 0, 0) := rfl
theorem f96_31 : amFetch 96 31 = some (.ifCond .le 22, 3, 0, 0, 0) := rfl
theorem f96_34 : amFetch 96 34 = some (.aload_n 0, 1, 0, 0, 0) := rfl
theorem f96_35 : amFetch 96 35 = some (.iload_n 1, 1, 0, 0, 0) := rfl
theorem f96_36 : amFetch 96 36 = some (.iload_n 2, 1, 0, 0, 0) := rfl
theorem f96_37 : amFetch 96 37 = some (.invokestatic 59, 3, 1, 87, 1) := rfl
theorem f96_40 : amFetch 96 40 = some (.iload_n 3, 1, 0, 0, 0) := rfl
theorem f96_41 : amFetch 96 41 = some (.iconst 1, 1, 0, 0, 0) := rfl
theorem f96_42 : amFetch 96 42 = some (.isub, 1, 0, 0, 0) := rfl
theorem f96_43 : amFetch 96 43 = some (.invokevirtual 76, 3, 0, 94, 3) := rfl
theorem f96_46 : amFetch 96 46 = some (.ifCond .eq 7, 3, 0, 0, 0) := rfl
theorem f96_49 : amFetch 96 49 = some (.iconst 1, 1, 0, 0, 0) := rfl
theorem f96_50 : amFetch 96 50 = some (.goto 4, 3, 0, 0, 0) := rfl
theorem f96_53 : amFetch 96 53 = some (.iconst 0, 1, 0, 0, 0) := rfl
theorem f96_54 : amFetch 96 54 = some (.ireturn, 1, 0, 0, 0) := rfl
theorem ow96 : amOwnL 96 = some (4, 4) := rfl
-- X4_count
theorem f97_0 : amFetch 97 0 = some (.aload_n 0, 1, 0, 0, 0) := rfl
theorem f97_1 : amFetch 97 1 = some (.iload_n 1, 1, 0, 0, 0) := rfl
theorem f97_2 : amFetch 97 2 = some (.invokestatic 69, 3, 1, 80, 1) := rfl
theorem f97_5 : amFetch 97 5 = some (.iconst 1, 1, 0, 0, 0) := rfl
theorem f97_6 : amFetch 97 6 = some (.invokevirtual 72, 3, 0, 82, 2) := rfl
theorem f97_9 : amFetch 97 9 = some (.ifCond .eq 21, 3, 0, 0, 0) := rfl
theorem f97_12 : amFetch 97 12 = some (.aload_n 0, 1, 0, 0, 0) := rfl
theorem f97_13 : amFetch 97 13 = some (.getfield 7, 3, 4, 0, 0) := rfl
theorem f97_16 : amFetch 97 16 = some (.sipush 4096, 3, 0, 0, 0) := rfl
theorem f97_19 : amFetch 97 19 = some (.iload_n 1, 1, 0, 0, 0) := rfl
theorem f97_20 : amFetch 97 20 = some (.imul, 1, 0, 0, 0) := rfl
theorem f97_21 : amFetch 97 21 = some (.iload_n 2, 1, 0, 0, 0) := rfl
theorem f97_22 : amFetch 97 22 = some (.invokestatic 59, 3, 1, 87, 1) := rfl
theorem f97_25 : amFetch 97 25 = some (.iadd, 1, 0, 0, 0) := rfl
theorem f97_26 : amFetch 97 26 = some (.iaload, 1, 0, 0, 0) := rfl
theorem f97_27 : amFetch 97 27 = some (.goto 4, 3, 0, 0, 0) := rfl
theorem f97_30 : amFetch 97 30 = some (.iconst 0, 1, 0, 0, 0) := rfl
theorem f97_31 : amFetch 97 31 = some (.ireturn, 1, 0, 0, 0) := rfl
theorem ow97 : amOwnL 97 = some (4, 3) := rfl
-- X4_add
theorem f98_0 : amFetch 98 0 = some (.aload_n 0, 1, 0, 0, 0) := rfl
theorem f98_1 : amFetch 98 1 = some (.iload_n 1, 1, 0, 0, 0) := rfl
theorem f98_2 : amFetch 98 2 = some (.invokestatic 69, 3, 1, 80, 1) := rfl
theorem f98_5 : amFetch 98 5 = some (.iload_n 2, 1, 0, 0, 0) := rfl
theorem f98_6 : amFetch 98 6 = some (.invokestatic 79, 3, 1, 81, 1) := rfl
theorem f98_9 : amFetch 98 9 = some (.ifCond .eq 17, 3, 0, 0, 0) := rfl
theorem f98_12 : amFetch 98 12 = some (.iload_n 3, 1, 0, 0, 0) := rfl
theorem f98_13 : amFetch 98 13 = some (.iconst 1, 1, 0, 0, 0) := rfl
theorem f98_14 : amFetch 98 14 = some (.bipush 100, 2, 0, 0, 0) := rfl
theorem f98_16 : amFetch 98 16 = some (.invokestatic 35, 3, 1, 79, 3) := rfl
theorem f98_19 : amFetch 98 19 = some (.ifCond .eq 7, 3, 0, 0, 0) := rfl
theorem f98_22 : amFetch 98 22 = some (.iconst 1, 1, 0, 0, 0) := rfl
theorem f98_23 : amFetch 98 23 = some (.goto 4, 3, 0, 0, 0) := rfl
theorem f98_26 : amFetch 98 26 = some (.iconst 0, 1, 0, 0, 0) := rfl
theorem f98_27 : amFetch 98 27 = some (.invokevirtual 72, 3, 0, 82, 2) := rfl
theorem f98_30 : amFetch 98 30 = some (.ifCond .ne 5, 3, 0, 0, 0) := rfl
theorem f98_33 : amFetch 98 33 = some (.iconst 0, 1, 0, 0, 0) := rfl
theorem f98_34 : amFetch 98 34 = some (.ireturn, 1, 0, 0, 0) := rfl
theorem f98_35 : amFetch 98 35 = some (.aload_n 0, 1, 0, 0, 0) := rfl
theorem f98_36 : amFetch 98 36 = some (.getfield 7, 3, 4, 0, 0) := rfl
theorem f98_39 : amFetch 98 39 = some (.sipush 4096, 3, 0, 0, 0) := rfl
theorem f98_42 : amFetch 98 42 = some (.iload_n 1, 1, 0, 0, 0) := rfl
theorem f98_43 : amFetch 98 43 = some (.imul, 1, 0, 0, 0) := rfl
theorem f98_44 : amFetch 98 44 = some (.iload_n 2, 1, 0, 0, 0) := rfl
theorem f98_45 : amFetch 98 45 = some (.iadd, 1, 0, 0, 0) := rfl
theorem f98_46 : amFetch 98 46 = some (.iaload, 1, 0, 0, 0) := rfl
theorem f98_47 : amFetch 98 47 = some (.iload_n 3, 1, 0, 0, 0) := rfl
theorem f98_48 : amFetch 98 48 = some (.iadd, 1, 0, 0, 0) := rfl
theorem f98_49 : amFetch 98 49 = some (.istore 4, 2, 0, 0, 0) := rfl
theorem f98_51 : amFetch 98 51 = some (.aload_n 0, 1, 0, 0, 0) := rfl
theorem f98_52 : amFetch 98 52 = some (.aload_n 0, 1, 0, 0, 0) := rfl
theorem f98_53 : amFetch 98 53 = some (.iload_n 1, 1, 0, 0, 0) := rfl
theorem f98_54 : amFetch 98 54 = some (.iload_n 2, 1, 0, 0, 0) := rfl
theorem f98_55 : amFetch 98 55 = some (.iload 4, 2, 0, 0, 0) := rfl
theorem f98_57 : amFetch 98 57 = some (.invokevirtual 76, 3, 0, 94, 3) := rfl
theorem f98_60 : amFetch 98 60 = some (.ifCond .eq 7, 3, 0, 0, 0) := rfl
theorem f98_63 : amFetch 98 63 = some (.iconst 0, 1, 0, 0, 0) := rfl
theorem f98_64 : amFetch 98 64 = some (.goto 4, 3, 0, 0, 0) := rfl
theorem f98_67 : amFetch 98 67 = some (.iconst 3, 1, 0, 0, 0) := rfl
theorem f98_68 : amFetch 98 68 = some (.putfield 31, 3, 4, 7, 0) := rfl
theorem f98_71 : amFetch 98 71 = some (.aload_n 0, 1, 0, 0, 0) := rfl
theorem f98_72 : amFetch 98 72 = some (.getfield 31, 3, 4, 7, 0) := rfl
theorem f98_75 : amFetch 98 75 = some (.ifCond .ne 8, 3, 0, 0, 0) := rfl
theorem f98_78 : amFetch 98 78 = some (.iload 4, 2, 0, 0, 0) := rfl
theorem f98_80 : amFetch 98 80 = some (.goto 4, 3, 0, 0, 0) := rfl
theorem f98_83 : amFetch 98 83 = some (.iconst 0, 1, 0, 0, 0) := rfl
theorem f98_84 : amFetch 98 84 = some (.ireturn, 1, 0, 0, 0) := rfl
theorem ow98 : amOwnL 98 = some (4, 5) := rfl
-- X4_take
theorem f99_0 : amFetch 99 0 = some (.aload_n 0, 1, 0, 0, 0) := rfl
theorem f99_1 : amFetch 99 1 = some (.iload_n 1, 1, 0, 0, 0) := rfl
theorem f99_2 : amFetch 99 2 = some (.invokestatic 69, 3, 1, 80, 1) := rfl
theorem f99_5 : amFetch 99 5 = some (.iload_n 2, 1, 0, 0, 0) := rfl
theorem f99_6 : amFetch 99 6 = some (.invokestatic 79, 3, 1, 81, 1) := rfl
theorem f99_9 : amFetch 99 9 = some (.ifCond .eq 17, 3, 0, 0, 0) := rfl
theorem f99_12 : amFetch 99 12 = some (.iload_n 3, 1, 0, 0, 0) := rfl
theorem f99_13 : amFetch 99 13 = some (.iconst 1, 1, 0, 0, 0) := rfl
theorem f99_14 : amFetch 99 14 = some (.bipush 100, 2, 0, 0, 0) := rfl
theorem f99_16 : amFetch 99 16 = some (.invokestatic 35, 3, 1, 79, 3) := rfl
theorem f99_19 : amFetch 99 19 = some (.ifCond .eq 7, 3, 0, 0, 0) := rfl
theorem f99_22 : amFetch 99 22 = some (.iconst 1, 1, 0, 0, 0) := rfl
theorem f99_23 : amFetch 99 23 = some (.goto 4, 3, 0, 0, 0) := rfl
theorem f99_26 : amFetch 99 26 = some (.iconst 0, 1, 0, 0, 0) := rfl
theorem f99_27 : amFetch 99 27 = some (.invokevirtual 72, 3, 0, 82, 2) := rfl
theorem f99_30 : amFetch 99 30 = some (.ifCond .ne 5, 3, 0, 0, 0) := rfl
theorem f99_33 : amFetch 99 33 = some (.iconst 0, 1, 0, 0, 0) := rfl
theorem f99_34 : amFetch 99 34 = some (.ireturn, 1, 0, 0, 0) := rfl
theorem f99_35 : amFetch 99 35 = some (.aload_n 0, 1, 0, 0, 0) := rfl
theorem f99_36 : amFetch 99 36 = some (.getfield 7, 3, 4, 0, 0) := rfl
theorem f99_39 : amFetch 99 39 = some (.sipush 4096, 3, 0, 0, 0) := rfl
theorem f99_42 : amFetch 99 42 = some (.iload_n 1, 1, 0, 0, 0) := rfl
theorem f99_43 : amFetch 99 43 = some (.imul, 1, 0, 0, 0) := rfl
theorem f99_44 : amFetch 99 44 = some (.iload_n 2, 1, 0, 0, 0) := rfl
theorem f99_45 : amFetch 99 45 = some (.iadd, 1, 0, 0, 0) := rfl
theorem f99_46 : amFetch 99 46 = some (.iaload, 1, 0, 0, 0) := rfl
theorem f99_47 : amFetch 99 47 = some (.istore 4, 2, 0, 0, 0) := rfl
theorem f99_49 : amFetch 99 49 = some (.iload_n 3, 1, 0, 0, 0) := rfl
theorem f99_50 : amFetch 99 50 = some (.iload 4, 2, 0, 0, 0) := rfl
theorem f99_52 : amFetch 99 52 = some (.if_icmp .le 8, 3, 0, 0, 0) := rfl
theorem f99_55 : amFetch 99 55 = some (.iload 4, 2, 0, 0, 0) := rfl
theorem f99_57 : amFetch 99 57 = some (.goto 4, 3, 0, 0, 0) := rfl
theorem f99_60 : amFetch 99 60 = some (.iload_n 3, 1, 0, 0, 0) := rfl
theorem f99_61 : amFetch 99 61 = some (.istore 5, 2, 0, 0, 0) := rfl
theorem f99_63 : amFetch 99 63 = some (.aload_n 0, 1, 0, 0, 0) := rfl
theorem f99_64 : amFetch 99 64 = some (.getfield 7, 3, 4, 0, 0) := rfl
theorem f99_67 : amFetch 99 67 = some (.sipush 4096, 3, 0, 0, 0) := rfl
theorem f99_70 : amFetch 99 70 = some (.iload_n 1, 1, 0, 0, 0) := rfl
theorem f99_71 : amFetch 99 71 = some (.imul, 1, 0, 0, 0) := rfl
theorem f99_72 : amFetch 99 72 = some (.iload_n 2, 1, 0, 0, 0) := rfl
theorem f99_73 : amFetch 99 73 = some (.iadd, 1, 0, 0, 0) := rfl
theorem f99_74 : amFetch 99 74 = some (.iload 4, 2, 0, 0, 0) := rfl
theorem f99_76 : amFetch 99 76 = some (.iload 5, 2, 0, 0, 0) := rfl
theorem f99_78 : amFetch 99 78 = some (.isub, 1, 0, 0, 0) := rfl
theorem f99_79 : amFetch 99 79 = some (.iastore, 1, 0, 0, 0) := rfl
theorem f99_80 : amFetch 99 80 = some (.iload 5, 2, 0, 0, 0) := rfl
theorem f99_82 : amFetch 99 82 = some (.ireturn, 1, 0, 0, 0) := rfl
theorem ow99 : amOwnL 99 = some (4, 6) := rfl
-- X4_countOf
theorem f100_0 : amFetch 100 0 = some (.aload_n 0, 1, 0, 0, 0) := rfl
theorem f100_1 : amFetch 100 1 = some (.iload_n 1, 1, 0, 0, 0) := rfl
theorem f100_2 : amFetch 100 2 = some (.invokestatic 69, 3, 1, 80, 1) := rfl
theorem f100_5 : amFetch 100 5 = some (.iload_n 2, 1, 0, 0, 0) := rfl
theorem f100_6 : amFetch 100 6 = some (.invokestatic 79, 3, 1, 81, 1) := rfl
theorem f100_9 : amFetch 100 9 = some (.invokevirtual 72, 3, 0, 82, 2) := rfl
theorem f100_12 : amFetch 100 12 = some (.ifCond .eq 18, 3, 0, 0, 0) := rfl
theorem f100_15 : amFetch 100 15 = some (.aload_n 0, 1, 0, 0, 0) := rfl
theorem f100_16 : amFetch 100 16 = some (.getfield 7, 3, 4, 0, 0) := rfl
theorem f100_19 : amFetch 100 19 = some (.sipush 4096, 3, 0, 0, 0) := rfl
theorem f100_22 : amFetch 100 22 = some (.iload_n 1, 1, 0, 0, 0) := rfl
theorem f100_23 : amFetch 100 23 = some (.imul, 1, 0, 0, 0) := rfl
theorem f100_24 : amFetch 100 24 = some (.iload_n 2, 1, 0, 0, 0) := rfl
theorem f100_25 : amFetch 100 25 = some (.iadd, 1, 0, 0, 0) := rfl
theorem f100_26 : amFetch 100 26 = some (.iaload, 1, 0, 0, 0) := rfl
theorem f100_27 : amFetch 100 27 = some (.goto 4, 3, 0, 0, 0) := rfl
theorem f100_30 : amFetch 100 30 = some (.iconst 0, 1, 0, 0, 0) := rfl
theorem f100_31 : amFetch 100 31 = some (.ireturn, 1, 0, 0, 0) := rfl
theorem ow100 : amOwnL 100 = some (4, 3) := rfl
-- X4_countInLists
theorem f101_0 : amFetch 101 0 = some (.aload_n 0, 1, 0, 0, 0) := rfl
theorem f101_1 : amFetch 101 1 = some (.iload_n 1, 1, 0, 0, 0) := rfl
theorem f101_2 : amFetch 101 2 = some (.iload_n 2, 1, 0, 0, 0) := rfl
theorem f101_3 : amFetch 101 3 = some (.invokevirtual 82, 3, 0, 100, 2) := rfl
theorem f101_6 : amFetch 101 6 = some (.ireturn, 1, 0, 0, 0) := rfl
theorem ow101 : amOwnL 101 = some (4, 3) := rfl
-- X4_lookedAt
theorem f102_0 : amFetch 102 0 = some (.aload_n 0, 1, 0, 0, 0) := rfl
theorem f102_1 : amFetch 102 1 = some (.iload_n 1, 1, 0, 0, 0) := rfl
theorem f102_2 : amFetch 102 2 = some (.invokestatic 69, 3, 1, 80, 1) := rfl
theorem f102_5 : amFetch 102 5 = some (.iload_n 2, 1, 0, 0, 0) := rfl
theorem f102_6 : amFetch 102 6 = some (.invokestatic 79, 3, 1, 81, 1) := rfl
theorem f102_9 : amFetch 102 9 = some (.invokevirtual 72, 3, 0, 82, 2) := rfl
theorem f102_12 : amFetch 102 12 = some (.ifCond .ne 5, 3, 0, 0, 0) := rfl
theorem f102_15 : amFetch 102 15 = some (.iconst 0, 1, 0, 0, 0) := rfl
theorem f102_16 : amFetch 102 16 = some (.ireturn, 1, 0, 0, 0) := rfl
theorem f102_17 : amFetch 102 17 = some (.bipush 12, 2, 0, 0, 0) := rfl
theorem f102_19 : amFetch 102 19 = some (.aload_n 0, 1, 0, 0, 0) := rfl
theorem f102_20 : amFetch 102 20 = some (.getfield 13, 3, 4, 1, 0) := rfl
theorem f102_23 : amFetch 102 23 = some (.iload_n 1, 1, 0, 0, 0) := rfl
theorem f102_24 : amFetch 102 24 = some (.iaload, 1, 0, 0, 0) := rfl
theorem f102_25 : amFetch 102 25 = some (.isub, 1, 0, 0, 0) := rfl
theorem f102_26 : amFetch 102 26 = some (.istore_n 3, 1, 0, 0, 0) := rfl
theorem f102_27 : amFetch 102 27 = some (.iload_n 2, 1, 0, 0, 0) := rfl
theorem f102_28 : amFetch 102 28 = some (.iload_n 3, 1, 0, 0, 0) := rfl
theorem f102_29 : amFetch 102 29 = some (.ishr, 1, 0, 0, 0) := rfl
theorem f102_30 : amFetch 102 30 = some (.iload_n 3, 1, 0, 0, 0) := rfl
theorem f102_31 : amFetch 102 31 = some (.ishl, 1, 0, 0, 0) := rfl
theorem f102_32 : amFetch 102 32 = some (.istore 4, 2, 0, 0, 0) := rfl
theorem f102_34 : amFetch 102 34 = some (.iconst 0, 1, 0, 0, 0) := rfl
theorem f102_35 : amFetch 102 35 = some (.istore 5, 2, 0, 0, 0) := rfl
theorem f102_37 : amFetch 102 37 = some (.iload 4, 2, 0, 0, 0) := rfl
theorem f102_39 : amFetch 102 39 = some (.istore 6, 2, 0, 0, 0) := rfl
theorem f102_41 : amFetch 102 41 = some (.iload 6, 2, 0, 0, 0) := rfl
theorem f102_43 : amFetch 102 43 = some (.iload_n 2, 1, 0, 0, 0) := rfl
theorem f102_44 : amFetch 102 44 = some (.if_icmp .ge 30, 3, 0, 0, 0) := rfl
theorem f102_47 : amFetch 102 47 = some (.iload 5, 2, 0, 0, 0) := rfl
theorem f102_49 : amFetch 102 49 = some (.aload_n 0, 1, 0, 0, 0) := rfl
theorem f102_50 : amFetch 102 50 = some (.getfield 7, 3, 4, 0, 0) := rfl
theorem f102_53 : amFetch 102 53 = some (.sipush 4096, 3, 0, 0, 0) := rfl
theorem f102_56 : amFetch 102 56 = some (.iload_n 1, 1, 0, 0, 0) := rfl
theorem f102_57 : amFetch 102 57 = some (.imul, 1, 0, 0, 0) := rfl
theorem f102_58 : amFetch 102 58 = some (.iload 6, 2, 0, 0, 0) := rfl
theorem f102_60 : amFetch 102 60 = some (.iadd, 1, 0, 0, 0) := rfl
theorem f102_61 : amFetch 102 61 = some (.iaload, 1, 0, 0, 0) := rfl
theorem f102_62 : amFetch 102 62 = some (.invokestatic 39, 3, 1, 84, 1) := rfl
theorem f102_65 : amFetch 102 65 = some (.iadd, 1, 0, 0, 0) := rfl
theorem f102_66 : amFetch 102 66 = some (.istore 5, 2, 0, 0, 0) := rfl
theorem f102_68 : amFetch 102 68 = some (.iinc 6 1, 3, 0, 0, 0) := rfl
theorem f102_71 : amFetch 102 71 = some (.goto (-30), 3, 0, 0, 0) := rfl
theorem f102_74 : amFetch 102 74 = some (.iconst 0, 1, 0, 0, 0) := rfl
theorem f102_75 : amFetch 102 75 = some (.istore 6, 2, 0, 0, 0) := rfl
theorem f102_77 : amFetch 102 77 = some (.iload_n 2, 1, 0, 0, 0) := rfl
theorem f102_78 : amFetch 102 78 = some (.istore 7, 2, 0, 0, 0) := rfl
theorem f102_80 : amFetch 102 80 = some (.iload 7, 2, 0, 0, 0) := rfl
theorem f102_82 : amFetch 102 82 = some (.iload 4, 2, 0, 0, 0) := rfl
theorem f102_84 : amFetch 102 84 = some (.iconst 1, 1, 0, 0, 0) := rfl
theorem f102_85 : amFetch 102 85 = some (.iload_n 3, 1, 0, 0, 0) := rfl
theorem f102_86 : amFetch 102 86 = some (.ishl, 1, 0, 0, 0) := rfl
theorem f102_87 : amFetch 102 87 = some (.iadd, 1, 0, 0, 0) := rfl
theorem f102_88 : amFetch 102 88 = some (.if_icmp .ge 37, 3, 0, 0, 0) := rfl
theorem f102_91 : amFetch 102 91 = some (.iload 6, 2, 0, 0, 0) := rfl
theorem f102_93 : amFetch 102 93 = some (.ifCond .ne 19, 3, 0, 0, 0) := rfl
theorem f102_96 : amFetch 102 96 = some (.aload_n 0, 1, 0, 0, 0) := rfl
theorem f102_97 : amFetch 102 97 = some (.getfield 7, 3, 4, 0, 0) := rfl
theorem f102_100 : amFetch 102 100 = some (.sipush 4096, 3, 0, 0, 0) := rfl
theorem f102_103 : amFetch 102 103 = some (.iload_n 1, 1, 0, 0, 0) := rfl
theorem f102_104 : amFetch 102 104 = some (.imul, 1, 0, 0, 0) := rfl
theorem f102_105 : amFetch 102 105 = some (.iload 7, 2, 0, 0, 0) := rfl
theorem f102_107 : amFetch 102 107 = some (.iadd, 1, 0, 0, 0) := rfl
theorem f102_108 : amFetch 102 108 = some (.iaload, 1, 0, 0, 0) := rfl
theorem f102_109 : amFetch 102 109 = some (.ifCond .le 7, 3, 0, 0, 0) := rfl
theorem f102_112 : amFetch 102 112 = some (.iconst 1, 1, 0, 0, 0) := rfl
theorem f102_113 : amFetch 102 113 = some (.goto 4, 3, 0, 0, 0) := rfl
theorem f102_116 : amFetch 102 116 = some (.iconst 0, 1, 0, 0, 0) := rfl
theorem f102_117 : amFetch 102 117 = some (.istore 6, 2, 0, 0, 0) := rfl
theorem f102_119 : amFetch 102 119 = some (.iinc 7 1, 3, 0, 0, 0) := rfl
theorem f102_122 : amFetch 102 122 = some (.goto (-42), 3, 0, 0, 0) := rfl
theorem f102_125 : amFetch 102 125 = some (.iload 6, 2, 0, 0, 0) := rfl
theorem f102_127 : amFetch 102 127 = some (.ifCond .eq 10, 3, 0, 0, 0) := rfl
theorem f102_130 : amFetch 102 130 = some (.iload 5, 2, 0, 0, 0) := rfl
theorem f102_132 : amFetch 102 132 = some (.iconst 1, 1, 0, 0, 0) := rfl
theorem f102_133 : amFetch 102 133 = some (.iadd, 1, 0, 0, 0) := rfl
theorem f102_134 : amFetch 102 134 = some (.goto 5, 3, 0, 0, 0) := rfl
theorem f102_137 : amFetch 102 137 = some (.iload 5, 2, 0, 0, 0) := rfl
theorem f102_139 : amFetch 102 139 = some (.ireturn, 1, 0, 0, 0) := rfl
theorem ow102 : amOwnL 102 = some (4, 8) := rfl
-- X4_clear
theorem f103_0 : amFetch 103 0 = some (.aload_n 0, 1, 0, 0, 0) := rfl
theorem f103_1 : amFetch 103 1 = some (.iload_n 1, 1, 0, 0, 0) := rfl
theorem f103_2 : amFetch 103 2 = some (.invokestatic 69, 3, 1, 80, 1) := rfl
theorem f103_5 : amFetch 103 5 = some (.iconst 1, 1, 0, 0, 0) := rfl
theorem f103_6 : amFetch 103 6 = some (.invokevirtual 72, 3, 0, 82, 2) := rfl
theorem f103_9 : amFetch 103 9 = some (.istore_n 2, 1, 0, 0, 0) := rfl
theorem f103_10 : amFetch 103 10 = some (.iconst 0, 1, 0, 0, 0) := rfl
theorem f103_11 : amFetch 103 11 = some (.istore_n 3, 1, 0, 0, 0) := rfl
theorem f103_12 : amFetch 103 12 = some (.iload_n 3, 1, 0, 0, 0) := rfl
theorem f103_13 : amFetch 103 13 = some (.sipush 4096, 3, 0, 0, 0) := rfl
theorem f103_16 : amFetch 103 16 = some (.if_icmp .ge 26, 3, 0, 0, 0) := rfl
theorem f103_19 : amFetch 103 19 = some (.iload_n 2, 1, 0, 0, 0) := rfl
theorem f103_20 : amFetch 103 20 = some (.ifCond .eq 22, 3, 0, 0, 0) := rfl
theorem f103_23 : amFetch 103 23 = some (.aload_n 0, 1, 0, 0, 0) := rfl
theorem f103_24 : amFetch 103 24 = some (.getfield 7, 3, 4, 0, 0) := rfl
theorem f103_27 : amFetch 103 27 = some (.sipush 4096, 3, 0, 0, 0) := rfl
theorem f103_30 : amFetch 103 30 = some (.iload_n 1, 1, 0, 0, 0) := rfl
theorem f103_31 : amFetch 103 31 = some (.imul, 1, 0, 0, 0) := rfl
theorem f103_32 : amFetch 103 32 = some (.iload_n 3, 1, 0, 0, 0) := rfl
theorem f103_33 : amFetch 103 33 = some (.iadd, 1, 0, 0, 0) := rfl
theorem f103_34 : amFetch 103 34 = some (.iconst 0, 1, 0, 0, 0) := rfl
theorem f103_35 : amFetch 103 35 = some (.iastore, 1, 0, 0, 0) := rfl
theorem f103_36 : amFetch 103 36 = some (.iinc 3 1, 3, 0, 0, 0) := rfl
theorem f103_39 : amFetch 103 39 = some (.goto (-27), 3, 0, 0, 0) := rfl
theorem f103_42 : amFetch 103 42 = some (.return_, 1, 0, 0, 0) := rfl
theorem ow103 : amOwnL 103 = some (4, 4) := rfl
-- X4_grow
theorem f104_0 : amFetch 104 0 = some (.iload_n 1, 1, 0, 0, 0) := rfl
theorem f104_1 : amFetch 104 1 = some (.invokestatic 69, 3, 1, 80, 1) := rfl
theorem f104_4 : amFetch 104 4 = some (.istore_n 2, 1, 0, 0, 0) := rfl
theorem f104_5 : amFetch 104 5 = some (.aload_n 0, 1, 0, 0, 0) := rfl
theorem f104_6 : amFetch 104 6 = some (.iload_n 2, 1, 0, 0, 0) := rfl
theorem f104_7 : amFetch 104 7 = some (.iload_n 2, 1, 0, 0, 0) := rfl
theorem f104_8 : amFetch 104 8 = some (.ifCond .eq 18, 3, 0, 0, 0) := rfl
theorem f104_11 : amFetch 104 11 = some (.aload_n 0, 1, 0, 0, 0) := rfl
theorem f104_12 : amFetch 104 12 = some (.getfield 13, 3, 4, 1, 0) := rfl
theorem f104_15 : amFetch 104 15 = some (.iload_n 1, 1, 0, 0, 0) := rfl
theorem f104_16 : amFetch 104 16 = some (.iaload, 1, 0, 0, 0) := rfl
theorem f104_17 : amFetch 104 17 = some (.bipush 8, 2, 0, 0, 0) := rfl
theorem f104_19 : amFetch 104 19 = some (.if_icmp .ge 7, 3, 0, 0, 0) := rfl
theorem f104_22 : amFetch 104 22 = some (.iconst 1, 1, 0, 0, 0) := rfl
theorem f104_23 : amFetch 104 23 = some (.goto 4, 3, 0, 0, 0) := rfl
theorem f104_26 : amFetch 104 26 = some (.iconst 0, 1, 0, 0, 0) := rfl
theorem f104_27 : amFetch 104 27 = some (.invokevirtual 72, 3, 0, 82, 2) := rfl
theorem f104_30 : amFetch 104 30 = some (.ifCond .ne 5, 3, 0, 0, 0) := rfl
theorem f104_33 : amFetch 104 33 = some (.iconst 0, 1, 0, 0, 0) := rfl
theorem f104_34 : amFetch 104 34 = some (.ireturn, 1, 0, 0, 0) := rfl
theorem f104_35 : amFetch 104 35 = some (.aload_n 0, 1, 0, 0, 0) := rfl
theorem f104_36 : amFetch 104 36 = some (.getfield 13, 3, 4, 1, 0) := rfl
theorem f104_39 : amFetch 104 39 = some (.iload_n 1, 1, 0, 0, 0) := rfl
theorem f104_40 : amFetch 104 40 = some (.dup2, 1, 0, 0, 0) := rfl
theorem f104_41 : amFetch 104 41 = some (.iaload, 1, 0, 0, 0) := rfl
theorem f104_42 : amFetch 104 42 = some (.iconst 1, 1, 0, 0, 0) := rfl
theorem f104_43 : amFetch 104 43 = some (.iadd, 1, 0, 0, 0) := rfl
theorem f104_44 : amFetch 104 44 = some (.iastore, 1, 0, 0, 0) := rfl
theorem f104_45 : amFetch 104 45 = some (.aload_n 0, 1, 0, 0, 0) := rfl
theorem f104_46 : amFetch 104 46 = some (.iload_n 1, 1, 0, 0, 0) := rfl
theorem f104_47 : amFetch 104 47 = some (.invokevirtual 44, 3, 0, 83, 1) := rfl
theorem f104_50 : amFetch 104 50 = some (.ireturn, 1, 0, 0, 0) := rfl
theorem ow104 : amOwnL 104 = some (4, 3) := rfl
-- X4_shrink
theorem f105_0 : amFetch 105 0 = some (.iload_n 1, 1, 0, 0, 0) := rfl
theorem f105_1 : amFetch 105 1 = some (.invokestatic 69, 3, 1, 80, 1) := rfl
theorem f105_4 : amFetch 105 4 = some (.istore_n 2, 1, 0, 0, 0) := rfl
theorem f105_5 : amFetch 105 5 = some (.aload_n 0, 1, 0, 0, 0) := rfl
theorem f105_6 : amFetch 105 6 = some (.iload_n 2, 1, 0, 0, 0) := rfl
theorem f105_7 : amFetch 105 7 = some (.iload_n 2, 1, 0, 0, 0) := rfl
theorem f105_8 : amFetch 105 8 = some (.ifCond .eq 35, 3, 0, 0, 0) := rfl
theorem f105_11 : amFetch 105 11 = some (.aload_n 0, 1, 0, 0, 0) := rfl
theorem f105_12 : amFetch 105 12 = some (.getfield 13, 3, 4, 1, 0) := rfl
theorem f105_15 : amFetch 105 15 = some (.iload_n 1, 1, 0, 0, 0) := rfl
theorem f105_16 : amFetch 105 16 = some (.iaload, 1, 0, 0, 0) := rfl
theorem f105_17 : amFetch 105 17 = some (.iconst 3, 1, 0, 0, 0) := rfl
theorem f105_18 : amFetch 105 18 = some (.if_icmp .le 25, 3, 0, 0, 0) := rfl
theorem f105_21 : amFetch 105 21 = some (.aload_n 0, 1, 0, 0, 0) := rfl
theorem f105_22 : amFetch 105 22 = some (.iload_n 1, 1, 0, 0, 0) := rfl
theorem f105_23 : amFetch 105 23 = some (.invokevirtual 62, 3, 0, 85, 1) := rfl
theorem f105_26 : amFetch 105 26 = some (.aload_n 0, 1, 0, 0, 0) := rfl
theorem f105_27 : amFetch 105 27 = some (.iload_n 1, 1, 0, 0, 0) := rfl
theorem f105_28 : amFetch 105 28 = some (.invokevirtual 44, 3, 0, 83, 1) := rfl
theorem f105_31 : amFetch 105 31 = some (.iconst 2, 1, 0, 0, 0) := rfl
theorem f105_32 : amFetch 105 32 = some (.idiv, 1, 0, 0, 0) := rfl
theorem f105_33 : amFetch 105 33 = some (.invokestatic 65, 3, 1, 86, 2) := rfl
theorem f105_36 : amFetch 105 36 = some (.ifCond .eq 7, 3, 0, 0, 0) := rfl
theorem f105_39 : amFetch 105 39 = some (.iconst 1, 1, 0, 0, 0) := rfl
theorem f105_40 : amFetch 105 40 = some (.goto 4, 3, 0, 0, 0) := rfl
theorem f105_43 : amFetch 105 43 = some (.iconst 0, 1, 0, 0, 0) := rfl
theorem f105_44 : amFetch 105 44 = some (.invokevirtual 72, 3, 0, 82, 2) := rfl
theorem f105_47 : amFetch 105 47 = some (.ifCond .ne 5, 3, 0, 0, 0) := rfl
theorem f105_50 : amFetch 105 50 = some (.iconst 0, 1, 0, 0, 0) := rfl
theorem f105_51 : amFetch 105 51 = some (.ireturn, 1, 0, 0, 0) := rfl
theorem f105_52 : amFetch 105 52 = some (.aload_n 0, 1, 0, 0, 0) := rfl
theorem f105_53 : amFetch 105 53 = some (.getfield 13, 3, 4, 1, 0) := rfl
theorem f105_56 : amFetch 105 56 = some (.iload_n 1, 1, 0, 0, 0) := rfl
theorem f105_57 : amFetch 105 57 = some (.dup2, 1, 0, 0, 0) := rfl
theorem f105_58 : amFetch 105 58 = some (.iaload, 1, 0, 0, 0) := rfl
theorem f105_59 : amFetch 105 59 = some (.iconst 1, 1, 0, 0, 0) := rfl
theorem f105_60 : amFetch 105 60 = some (.isub, 1, 0, 0, 0) := rfl
theorem f105_61 : amFetch 105 61 = some (.iastore, 1, 0, 0, 0) := rfl
theorem f105_62 : amFetch 105 62 = some (.aload_n 0, 1, 0, 0, 0) := rfl
theorem f105_63 : amFetch 105 63 = some (.iload_n 1, 1, 0, 0, 0) := rfl
theorem f105_64 : amFetch 105 64 = some (.invokevirtual 44, 3, 0, 83, 1) := rfl
theorem f105_67 : amFetch 105 67 = some (.ireturn, 1, 0, 0, 0) := rfl
theorem ow105 : amOwnL 105 = some (4, 3) := rfl
-- X4_merge
theorem f106_0 : amFetch 106 0 = some (.aload_n 0, 1, 0, 0, 0) := rfl
theorem f106_1 : amFetch 106 1 = some (.iload_n 1, 1, 0, 0, 0) := rfl
theorem f106_2 : amFetch 106 2 = some (.invokestatic 69, 3, 1, 80, 1) := rfl
theorem f106_5 : amFetch 106 5 = some (.ifCond .eq 14, 3, 0, 0, 0) := rfl
theorem f106_8 : amFetch 106 8 = some (.iload_n 2, 1, 0, 0, 0) := rfl
theorem f106_9 : amFetch 106 9 = some (.invokestatic 69, 3, 1, 80, 1) := rfl
theorem f106_12 : amFetch 106 12 = some (.ifCond .eq 7, 3, 0, 0, 0) := rfl
theorem f106_15 : amFetch 106 15 = some (.iconst 1, 1, 0, 0, 0) := rfl
theorem f106_16 : amFetch 106 16 = some (.goto 4, 3, 0, 0, 0) := rfl
theorem f106_19 : amFetch 106 19 = some (.iconst 0, 1, 0, 0, 0) := rfl
theorem f106_20 : amFetch 106 20 = some (.iconst 1, 1, 0, 0, 0) := rfl
theorem f106_21 : amFetch 106 21 = some (.invokevirtual 72, 3, 0, 82, 2) := rfl
theorem f106_24 : amFetch 106 24 = some (.ifCond .ne 5, 3, 0, 0, 0) := rfl
theorem f106_27 : amFetch 106 27 = some (.iconst 0, 1, 0, 0, 0) := rfl
theorem f106_28 : amFetch 106 28 = some (.ireturn, 1, 0, 0, 0) := rfl
theorem f106_29 : amFetch 106 29 = some (.iconst 0, 1, 0, 0, 0) := rfl
theorem f106_30 : amFetch 106 30 = some (.istore_n 3, 1, 0, 0, 0) := rfl
theorem f106_31 : amFetch 106 31 = some (.iconst 0, 1, 0, 0, 0) := rfl
theorem f106_32 : amFetch 106 32 = some (.istore 4, 2, 0, 0, 0) := rfl
theorem f106_34 : amFetch 106 34 = some (.iload 4, 2, 0, 0, 0) := rfl
theorem f106_36 : amFetch 106 36 = some (.sipush 4096, 3, 0, 0, 0) := rfl
theorem f106_39 : amFetch 106 39 = some (.if_icmp .ge 42, 3, 0, 0, 0) := rfl
theorem f106_42 : amFetch 106 42 = some (.iload_n 3, 1, 0, 0, 0) := rfl
theorem f106_43 : amFetch 106 43 = some (.aload_n 0, 1, 0, 0, 0) := rfl
theorem f106_44 : amFetch 106 44 = some (.getfield 7, 3, 4, 0, 0) := rfl
theorem f106_47 : amFetch 106 47 = some (.sipush 4096, 3, 0, 0, 0) := rfl
theorem f106_50 : amFetch 106 50 = some (.iload_n 1, 1, 0, 0, 0) := rfl
theorem f106_51 : amFetch 106 51 = some (.imul, 1, 0, 0, 0) := rfl
theorem f106_52 : amFetch 106 52 = some (.iload 4, 2, 0, 0, 0) := rfl
theorem f106_54 : amFetch 106 54 = some (.iadd, 1, 0, 0, 0) := rfl
theorem f106_55 : amFetch 106 55 = some (.iaload, 1, 0, 0, 0) := rfl
theorem f106_56 : amFetch 106 56 = some (.aload_n 0, 1, 0, 0, 0) := rfl
theorem f106_57 : amFetch 106 57 = some (.getfield 7, 3, 4, 0, 0) := rfl
theorem f106_60 : amFetch 106 60 = some (.sipush 4096, 3, 0, 0, 0) := rfl
theorem f106_63 : amFetch 106 63 = some (.iload_n 2, 1, 0, 0, 0) := rfl
theorem f106_64 : amFetch 106 64 = some (.imul, 1, 0, 0, 0) := rfl
theorem f106_65 : amFetch 106 65 = some (.iload 4, 2, 0, 0, 0) := rfl
theorem f106_67 : amFetch 106 67 = some (.iadd, 1, 0, 0, 0) := rfl
theorem f106_68 : amFetch 106 68 = some (.iaload, 1, 0, 0, 0) := rfl
theorem f106_69 : amFetch 106 69 = some (.iadd, 1, 0, 0, 0) := rfl
theorem f106_70 : amFetch 106 70 = some (.invokestatic 39, 3, 1, 84, 1) := rfl
theorem f106_73 : amFetch 106 73 = some (.iadd, 1, 0, 0, 0) := rfl
theorem f106_74 : amFetch 106 74 = some (.istore_n 3, 1, 0, 0, 0) := rfl
theorem f106_75 : amFetch 106 75 = some (.iinc 4 1, 3, 0, 0, 0) := rfl
theorem f106_78 : amFetch 106 78 = some (.goto (-44), 3, 0, 0, 0) := rfl
theorem f106_81 : amFetch 106 81 = some (.aload_n 0, 1, 0, 0, 0) := rfl
theorem f106_82 : amFetch 106 82 = some (.iload_n 3, 1, 0, 0, 0) := rfl
theorem f106_83 : amFetch 106 83 = some (.aload_n 0, 1, 0, 0, 0) := rfl
theorem f106_84 : amFetch 106 84 = some (.iload_n 1, 1, 0, 0, 0) := rfl
theorem f106_85 : amFetch 106 85 = some (.invokevirtual 44, 3, 0, 83, 1) := rfl
theorem f106_88 : amFetch 106 88 = some (.invokestatic 65, 3, 1, 86, 2) := rfl
theorem f106_91 : amFetch 106 91 = some (.ifCond .eq 7, 3, 0, 0, 0) := rfl
theorem f106_94 : amFetch 106 94 = some (.iconst 0, 1, 0, 0, 0) := rfl
theorem f106_95 : amFetch 106 95 = some (.goto 4, 3, 0, 0, 0) := rfl
theorem f106_98 : amFetch 106 98 = some (.iconst 2, 1, 0, 0, 0) := rfl
theorem f106_99 : amFetch 106 99 = some (.putfield 31, 3, 4, 7, 0) := rfl
theorem f106_102 : amFetch 106 102 = some (.iconst 0, 1, 0, 0, 0) := rfl
theorem f106_103 : amFetch 106 103 = some (.istore 4, 2, 0, 0, 0) := rfl
theorem f106_105 : amFetch 106 105 = some (.iload 4, 2, 0, 0, 0) := rfl
theorem f106_107 : amFetch 106 107 = some (.sipush 4096, 3, 0, 0, 0) := rfl
theorem f106_110 : amFetch 106 110 = some (.if_icmp .ge 45, 3, 0, 0, 0) := rfl
theorem f106_113 : amFetch 106 113 = some (.aload_n 0, 1, 0, 0, 0) := rfl
theorem f106_114 : amFetch 106 114 = some (.getfield 31, 3, 4, 7, 0) := rfl
theorem f106_117 : amFetch 106 117 = some (.ifCond .ne 38, 3, 0, 0, 0) := rfl
theorem f106_120 : amFetch 106 120 = some (.aload_n 0, 1, 0, 0, 0) := rfl
theorem f106_121 : amFetch 106 121 = some (.getfield 7, 3, 4, 0, 0) := rfl
theorem f106_124 : amFetch 106 124 = some (.sipush 4096, 3, 0, 0, 0) := rfl
theorem f106_127 : amFetch 106 127 = some (.iload_n 1, 1, 0, 0, 0) := rfl
theorem f106_128 : amFetch 106 128 = some (.imul, 1, 0, 0, 0) := rfl
theorem f106_129 : amFetch 106 129 = some (.iload 4, 2, 0, 0, 0) := rfl
theorem f106_131 : amFetch 106 131 = some (.iadd, 1, 0, 0, 0) := rfl
theorem f106_132 : amFetch 106 132 = some (.dup2, 1, 0, 0, 0) := rfl
theorem f106_133 : amFetch 106 133 = some (.iaload, 1, 0, 0, 0) := rfl
theorem f106_134 : amFetch 106 134 = some (.aload_n 0, 1, 0, 0, 0) := rfl
theorem f106_135 : amFetch 106 135 = some (.getfield 7, 3, 4, 0, 0) := rfl
theorem f106_138 : amFetch 106 138 = some (.sipush 4096, 3, 0, 0, 0) := rfl
theorem f106_141 : amFetch 106 141 = some (.iload_n 2, 1, 0, 0, 0) := rfl
theorem f106_142 : amFetch 106 142 = some (.imul, 1, 0, 0, 0) := rfl
theorem f106_143 : amFetch 106 143 = some (.iload 4, 2, 0, 0, 0) := rfl
theorem f106_145 : amFetch 106 145 = some (.iadd, 1, 0, 0, 0) := rfl
theorem f106_146 : amFetch 106 146 = some (.iaload, 1, 0, 0, 0) := rfl
theorem f106_147 : amFetch 106 147 = some (.iadd, 1, 0, 0, 0) := rfl
theorem f106_148 : amFetch 106 148 = some (.iastore, 1, 0, 0, 0) := rfl
theorem f106_149 : amFetch 106 149 = some (.iinc 4 1, 3, 0, 0, 0) := rfl
theorem f106_152 : amFetch 106 152 = some (.goto (-47), 3, 0, 0, 0) := rfl
theorem f106_155 : amFetch 106 155 = some (.aload_n 0, 1, 0, 0, 0) := rfl
theorem f106_156 : amFetch 106 156 = some (.getfield 31, 3, 4, 7, 0) := rfl
theorem f106_159 : amFetch 106 159 = some (.ifCond .ne 7, 3, 0, 0, 0) := rfl
theorem f106_162 : amFetch 106 162 = some (.iload_n 3, 1, 0, 0, 0) := rfl
theorem f106_163 : amFetch 106 163 = some (.goto 4, 3, 0, 0, 0) := rfl
theorem f106_166 : amFetch 106 166 = some (.iconst 0, 1, 0, 0, 0) := rfl
theorem f106_167 : amFetch 106 167 = some (.ireturn, 1, 0, 0, 0) := rfl
theorem ow106 : amOwnL 106 = some (4, 5) := rfl
-- X4_intersect
theorem f107_0 : amFetch 107 0 = some (.aload_n 0, 1, 0, 0, 0) := rfl
theorem f107_1 : amFetch 107 1 = some (.iload_n 1, 1, 0, 0, 0) := rfl
theorem f107_2 : amFetch 107 2 = some (.invokestatic 69, 3, 1, 80, 1) := rfl
theorem f107_5 : amFetch 107 5 = some (.ifCond .eq 14, 3, 0, 0, 0) := rfl
theorem f107_8 : amFetch 107 8 = some (.iload_n 2, 1, 0, 0, 0) := rfl
theorem f107_9 : amFetch 107 9 = some (.invokestatic 69, 3, 1, 80, 1) := rfl
theorem f107_12 : amFetch 107 12 = some (.ifCond .eq 7, 3, 0, 0, 0) := rfl
theorem f107_15 : amFetch 107 15 = some (.iconst 1, 1, 0, 0, 0) := rfl
theorem f107_16 : amFetch 107 16 = some (.goto 4, 3, 0, 0, 0) := rfl
theorem f107_19 : amFetch 107 19 = some (.iconst 0, 1, 0, 0, 0) := rfl
theorem f107_20 : amFetch 107 20 = some (.iconst 1, 1, 0, 0, 0) := rfl
theorem f107_21 : amFetch 107 21 = some (.invokevirtual 72, 3, 0, 82, 2) := rfl
theorem f107_24 : amFetch 107 24 = some (.ifCond .ne 5, 3, 0, 0, 0) := rfl
theorem f107_27 : amFetch 107 27 = some (.iconst 0, 1, 0, 0, 0) := rfl
theorem f107_28 : amFetch 107 28 = some (.ireturn, 1, 0, 0, 0) := rfl
theorem f107_29 : amFetch 107 29 = some (.iconst 0, 1, 0, 0, 0) := rfl
theorem f107_30 : amFetch 107 30 = some (.istore_n 3, 1, 0, 0, 0) := rfl
theorem f107_31 : amFetch 107 31 = some (.iload_n 3, 1, 0, 0, 0) := rfl
theorem f107_32 : amFetch 107 32 = some (.sipush 4096, 3, 0, 0, 0) := rfl
theorem f107_35 : amFetch 107 35 = some (.if_icmp .ge 69, 3, 0, 0, 0) := rfl
theorem f107_38 : amFetch 107 38 = some (.aload_n 0, 1, 0, 0, 0) := rfl
theorem f107_39 : amFetch 107 39 = some (.getfield 7, 3, 4, 0, 0) := rfl
theorem f107_42 : amFetch 107 42 = some (.sipush 4096, 3, 0, 0, 0) := rfl
theorem f107_45 : amFetch 107 45 = some (.iload_n 2, 1, 0, 0, 0) := rfl
theorem f107_46 : amFetch 107 46 = some (.imul, 1, 0, 0, 0) := rfl
theorem f107_47 : amFetch 107 47 = some (.iload_n 3, 1, 0, 0, 0) := rfl
theorem f107_48 : amFetch 107 48 = some (.iadd, 1, 0, 0, 0) := rfl
theorem f107_49 : amFetch 107 49 = some (.iaload, 1, 0, 0, 0) := rfl
theorem f107_50 : amFetch 107 50 = some (.istore 4, 2, 0, 0, 0) := rfl
theorem f107_52 : amFetch 107 52 = some (.aload_n 0, 1, 0, 0, 0) := rfl
theorem f107_53 : amFetch 107 53 = some (.getfield 7, 3, 4, 0, 0) := rfl
theorem f107_56 : amFetch 107 56 = some (.sipush 4096, 3, 0, 0, 0) := rfl
theorem f107_59 : amFetch 107 59 = some (.iload_n 1, 1, 0, 0, 0) := rfl
theorem f107_60 : amFetch 107 60 = some (.imul, 1, 0, 0, 0) := rfl
theorem f107_61 : amFetch 107 61 = some (.iload_n 3, 1, 0, 0, 0) := rfl
theorem f107_62 : amFetch 107 62 = some (.iadd, 1, 0, 0, 0) := rfl
theorem f107_63 : amFetch 107 63 = some (.iload 4, 2, 0, 0, 0) := rfl
theorem f107_65 : amFetch 107 65 = some (.aload_n 0, 1, 0, 0, 0) := rfl
theorem f107_66 : amFetch 107 66 = some (.getfield 7, 3, 4, 0, 0) := rfl
theorem f107_69 : amFetch 107 69 = some (.sipush 4096, 3, 0, 0, 0) := rfl
theorem f107_72 : amFetch 107 72 = some (.iload_n 1, 1, 0, 0, 0) := rfl
theorem f107_73 : amFetch 107 73 = some (.imul, 1, 0, 0, 0) := rfl
theorem f107_74 : amFetch 107 74 = some (.iload_n 3, 1, 0, 0, 0) := rfl
theorem f107_75 : amFetch 107 75 = some (.iadd, 1, 0, 0, 0) := rfl
theorem f107_76 : amFetch 107 76 = some (.iaload, 1, 0, 0, 0) := rfl
theorem f107_77 : amFetch 107 77 = some (.if_icmp .ge 8, 3, 0, 0, 0) := rfl
theorem f107_80 : amFetch 107 80 = some (.iload 4, 2, 0, 0, 0) := rfl
theorem f107_82 : amFetch 107 82 = some (.goto 15, 3, 0, 0, 0) := rfl
theorem f107_85 : amFetch 107 85 = some (.aload_n 0, 1, 0, 0, 0) := rfl
theorem f107_86 : amFetch 107 86 = some (.getfield 7, 3, 4, 0, 0) := rfl
theorem f107_89 : amFetch 107 89 = some (.sipush 4096, 3, 0, 0, 0) := rfl
theorem f107_92 : amFetch 107 92 = some (.iload_n 1, 1, 0, 0, 0) := rfl
theorem f107_93 : amFetch 107 93 = some (.imul, 1, 0, 0, 0) := rfl
theorem f107_94 : amFetch 107 94 = some (.iload_n 3, 1, 0, 0, 0) := rfl
theorem f107_95 : amFetch 107 95 = some (.iadd, 1, 0, 0, 0) := rfl
theorem f107_96 : amFetch 107 96 = some (.iaload, 1, 0, 0, 0) := rfl
theorem f107_97 : amFetch 107 97 = some (.iastore, 1, 0, 0, 0) := rfl
theorem f107_98 : amFetch 107 98 = some (.iinc 3 1, 3, 0, 0, 0) := rfl
theorem f107_101 : amFetch 107 101 = some (.goto (-70), 3, 0, 0, 0) := rfl
theorem f107_104 : amFetch 107 104 = some (.aload_n 0, 1, 0, 0, 0) := rfl
theorem f107_105 : amFetch 107 105 = some (.iload_n 1, 1, 0, 0, 0) := rfl
theorem f107_106 : amFetch 107 106 = some (.invokevirtual 62, 3, 0, 85, 1) := rfl
theorem f107_109 : amFetch 107 109 = some (.ireturn, 1, 0, 0, 0) := rfl
theorem ow107 : amOwnL 107 = some (4, 5) := rfl
-- X4_isSame
theorem f108_0 : amFetch 108 0 = some (.aload_n 0, 1, 0, 0, 0) := rfl
theorem f108_1 : amFetch 108 1 = some (.iload_n 1, 1, 0, 0, 0) := rfl
theorem f108_2 : amFetch 108 2 = some (.invokestatic 69, 3, 1, 80, 1) := rfl
theorem f108_5 : amFetch 108 5 = some (.ifCond .eq 14, 3, 0, 0, 0) := rfl
theorem f108_8 : amFetch 108 8 = some (.iload_n 2, 1, 0, 0, 0) := rfl
theorem f108_9 : amFetch 108 9 = some (.invokestatic 69, 3, 1, 80, 1) := rfl
theorem f108_12 : amFetch 108 12 = some (.ifCond .eq 7, 3, 0, 0, 0) := rfl
theorem f108_15 : amFetch 108 15 = some (.iconst 1, 1, 0, 0, 0) := rfl
theorem f108_16 : amFetch 108 16 = some (.goto 4, 3, 0, 0, 0) := rfl
theorem f108_19 : amFetch 108 19 = some (.iconst 0, 1, 0, 0, 0) := rfl
theorem f108_20 : amFetch 108 20 = some (.iconst 1, 1, 0, 0, 0) := rfl
theorem f108_21 : amFetch 108 21 = some (.invokevirtual 72, 3, 0, 82, 2) := rfl
theorem f108_24 : amFetch 108 24 = some (.istore_n 3, 1, 0, 0, 0) := rfl
theorem f108_25 : amFetch 108 25 = some (.iconst 0, 1, 0, 0, 0) := rfl
theorem f108_26 : amFetch 108 26 = some (.istore 4, 2, 0, 0, 0) := rfl
theorem f108_28 : amFetch 108 28 = some (.iload 4, 2, 0, 0, 0) := rfl
theorem f108_30 : amFetch 108 30 = some (.sipush 4096, 3, 0, 0, 0) := rfl
theorem f108_33 : amFetch 108 33 = some (.if_icmp .ge 48, 3, 0, 0, 0) := rfl
theorem f108_36 : amFetch 108 36 = some (.iload_n 3, 1, 0, 0, 0) := rfl
theorem f108_37 : amFetch 108 37 = some (.ifCond .eq 44, 3, 0, 0, 0) := rfl
theorem f108_40 : amFetch 108 40 = some (.aload_n 0, 1, 0, 0, 0) := rfl
theorem f108_41 : amFetch 108 41 = some (.getfield 7, 3, 4, 0, 0) := rfl
theorem f108_44 : amFetch 108 44 = some (.sipush 4096, 3, 0, 0, 0) := rfl
theorem f108_47 : amFetch 108 47 = some (.iload_n 1, 1, 0, 0, 0) := rfl
theorem f108_48 : amFetch 108 48 = some (.imul, 1, 0, 0, 0) := rfl
theorem f108_49 : amFetch 108 49 = some (.iload 4, 2, 0, 0, 0) := rfl
theorem f108_51 : amFetch 108 51 = some (.iadd, 1, 0, 0, 0) := rfl
theorem f108_52 : amFetch 108 52 = some (.iaload, 1, 0, 0, 0) := rfl
theorem f108_53 : amFetch 108 53 = some (.aload_n 0, 1, 0, 0, 0) := rfl
theorem f108_54 : amFetch 108 54 = some (.getfield 7, 3, 4, 0, 0) := rfl
theorem f108_57 : amFetch 108 57 = some (.sipush 4096, 3, 0, 0, 0) := rfl
theorem f108_60 : amFetch 108 60 = some (.iload_n 2, 1, 0, 0, 0) := rfl
theorem f108_61 : amFetch 108 61 = some (.imul, 1, 0, 0, 0) := rfl
theorem f108_62 : amFetch 108 62 = some (.iload 4, 2, 0, 0, 0) := rfl
theorem f108_64 : amFetch 108 64 = some (.iadd, 1, 0, 0, 0) := rfl
theorem f108_65 : amFetch 108 65 = some (.iaload, 1, 0, 0, 0) := rfl
theorem f108_66 : amFetch 108 66 = some (.if_icmp .ne 7, 3, 0, 0, 0) := rfl
theorem f108_69 : amFetch 108 69 = some (.iconst 1, 1, 0, 0, 0) := rfl
theorem f108_70 : amFetch 108 70 = some (.goto 4, 3, 0, 0, 0) := rfl
theorem f108_73 : amFetch 108 73 = some (.iconst 0, 1, 0, 0, 0) := rfl
theorem f108_74 : amFetch 108 74 = some (.istore_n 3, 1, 0, 0, 0) := rfl
theorem f108_75 : amFetch 108 75 = some (.iinc 4 1, 3, 0, 0, 0) := rfl
theorem f108_78 : amFetch 108 78 = some (.goto (-50), 3, 0, 0, 0) := rfl
theorem f108_81 : amFetch 108 81 = some (.iload_n 3, 1, 0, 0, 0) := rfl
theorem f108_82 : amFetch 108 82 = some (.ireturn, 1, 0, 0, 0) := rfl
theorem ow108 : amOwnL 108 = some (4, 5) := rfl
-- X4_slots
theorem f109_0 : amFetch 109 0 = some (.aload_n 0, 1, 0, 0, 0) := rfl
theorem f109_1 : amFetch 109 1 = some (.iload_n 1, 1, 0, 0, 0) := rfl
theorem f109_2 : amFetch 109 2 = some (.invokestatic 69, 3, 1, 80, 1) := rfl
theorem f109_5 : amFetch 109 5 = some (.iconst 1, 1, 0, 0, 0) := rfl
theorem f109_6 : amFetch 109 6 = some (.invokevirtual 72, 3, 0, 82, 2) := rfl
theorem f109_9 : amFetch 109 9 = some (.ifCond .eq 11, 3, 0, 0, 0) := rfl
theorem f109_12 : amFetch 109 12 = some (.aload_n 0, 1, 0, 0, 0) := rfl
theorem f109_13 : amFetch 109 13 = some (.iload_n 1, 1, 0, 0, 0) := rfl
theorem f109_14 : amFetch 109 14 = some (.invokevirtual 44, 3, 0, 83, 1) := rfl
theorem f109_17 : amFetch 109 17 = some (.goto 4, 3, 0, 0, 0) := rfl
theorem f109_20 : amFetch 109 20 = some (.iconst 0, 1, 0, 0, 0) := rfl
theorem f109_21 : amFetch 109 21 = some (.ireturn, 1, 0, 0, 0) := rfl
theorem ow109 : amOwnL 109 = some (4, 2) := rfl
-- X4_entries
theorem f110_0 : amFetch 110 0 = some (.aload_n 0, 1, 0, 0, 0) := rfl
theorem f110_1 : amFetch 110 1 = some (.iload_n 1, 1, 0, 0, 0) := rfl
theorem f110_2 : amFetch 110 2 = some (.invokestatic 69, 3, 1, 80, 1) := rfl
theorem f110_5 : amFetch 110 5 = some (.iconst 1, 1, 0, 0, 0) := rfl
theorem f110_6 : amFetch 110 6 = some (.invokevirtual 72, 3, 0, 82, 2) := rfl
theorem f110_9 : amFetch 110 9 = some (.ifCond .eq 11, 3, 0, 0, 0) := rfl
theorem f110_12 : amFetch 110 12 = some (.aload_n 0, 1, 0, 0, 0) := rfl
theorem f110_13 : amFetch 110 13 = some (.iload_n 1, 1, 0, 0, 0) := rfl
theorem f110_14 : amFetch 110 14 = some (.invokevirtual 62, 3, 0, 85, 1) := rfl
theorem f110_17 : amFetch 110 17 = some (.goto 4, 3, 0, 0, 0) := rfl
theorem f110_20 : amFetch 110 20 = some (.iconst 0, 1, 0, 0, 0) := rfl
theorem f110_21 : amFetch 110 21 = some (.ireturn, 1, 0, 0, 0) := rfl
theorem ow110 : amOwnL 110 = some (4, 2) := rfl
-- X4_distinct
theorem f111_0 : amFetch 111 0 = some (.iconst 0, 1, 0, 0, 0) := rfl
theorem f111_1 : amFetch 111 1 = some (.istore_n 2, 1, 0, 0, 0) := rfl
theorem f111_2 : amFetch 111 2 = some (.aload_n 0, 1, 0, 0, 0) := rfl
theorem f111_3 : amFetch 111 3 = some (.iload_n 1, 1, 0, 0, 0) := rfl
theorem f111_4 : amFetch 111 4 = some (.invokestatic 69, 3, 1, 80, 1) := rfl
theorem f111_7 : amFetch 111 7 = some (.iconst 1, 1, 0, 0, 0) := rfl
theorem f111_8 : amFetch 111 8 = some (.invokevirtual 72, 3, 0, 82, 2) := rfl
theorem f111_11 : amFetch 111 11 = some (.istore_n 3, 1, 0, 0, 0) := rfl
theorem f111_12 : amFetch 111 12 = some (.iconst 0, 1, 0, 0, 0) := rfl
theorem f111_13 : amFetch 111 13 = some (.istore 4, 2, 0, 0, 0) := rfl
theorem f111_15 : amFetch 111 15 = some (.iload 4, 2, 0, 0, 0) := rfl
theorem f111_17 : amFetch 111 17 = some (.sipush 4096, 3, 0, 0, 0) := rfl
theorem f111_20 : amFetch 111 20 = some (.if_icmp .ge 37, 3, 0, 0, 0) := rfl
theorem f111_23 : amFetch 111 23 = some (.iload_n 3, 1, 0, 0, 0) := rfl
theorem f111_24 : amFetch 111 24 = some (.ifCond .eq 33, 3, 0, 0, 0) := rfl
theorem f111_27 : amFetch 111 27 = some (.iload_n 2, 1, 0, 0, 0) := rfl
theorem f111_28 : amFetch 111 28 = some (.aload_n 0, 1, 0, 0, 0) := rfl
theorem f111_29 : amFetch 111 29 = some (.getfield 7, 3, 4, 0, 0) := rfl
theorem f111_32 : amFetch 111 32 = some (.sipush 4096, 3, 0, 0, 0) := rfl
theorem f111_35 : amFetch 111 35 = some (.iload_n 1, 1, 0, 0, 0) := rfl
theorem f111_36 : amFetch 111 36 = some (.imul, 1, 0, 0, 0) := rfl
theorem f111_37 : amFetch 111 37 = some (.iload 4, 2, 0, 0, 0) := rfl
theorem f111_39 : amFetch 111 39 = some (.iadd, 1, 0, 0, 0) := rfl
theorem f111_40 : amFetch 111 40 = some (.iaload, 1, 0, 0, 0) := rfl
theorem f111_41 : amFetch 111 41 = some (.ifCond .le 7, 3, 0, 0, 0) := rfl
theorem f111_44 : amFetch 111 44 = some (.iconst 1, 1, 0, 0, 0) := rfl
theorem f111_45 : amFetch 111 45 = some (.goto 4, 3, 0, 0, 0) := rfl
theorem f111_48 : amFetch 111 48 = some (.iconst 0, 1, 0, 0, 0) := rfl
theorem f111_49 : amFetch 111 49 = some (.iadd, 1, 0, 0, 0) := rfl
theorem f111_50 : amFetch 111 50 = some (.istore_n 2, 1, 0, 0, 0) := rfl
theorem f111_51 : amFetch 111 51 = some (.iinc 4 1, 3, 0, 0, 0) := rfl
theorem f111_54 : amFetch 111 54 = some (.goto (-39), 3, 0, 0, 0) := rfl
theorem f111_57 : amFetch 111 57 = some (.iload_n 2, 1, 0, 0, 0) := rfl
theorem f111_58 : amFetch 111 58 = some (.ireturn, 1, 0, 0, 0) := rfl
theorem ow111 : amOwnL 111 = some (4, 5) := rfl
-- X4_total
theorem f112_0 : amFetch 112 0 = some (.iconst 0, 1, 0, 0, 0) := rfl
theorem f112_1 : amFetch 112 1 = some (.istore_n 2, 1, 0, 0, 0) := rfl
theorem f112_2 : amFetch 112 2 = some (.aload_n 0, 1, 0, 0, 0) := rfl
theorem f112_3 : amFetch 112 3 = some (.iload_n 1, 1, 0, 0, 0) := rfl
theorem f112_4 : amFetch 112 4 = some (.invokestatic 69, 3, 1, 80, 1) := rfl
theorem f112_7 : amFetch 112 7 = some (.iconst 1, 1, 0, 0, 0) := rfl
theorem f112_8 : amFetch 112 8 = some (.invokevirtual 72, 3, 0, 82, 2) := rfl
theorem f112_11 : amFetch 112 11 = some (.istore_n 3, 1, 0, 0, 0) := rfl
theorem f112_12 : amFetch 112 12 = some (.iconst 0, 1, 0, 0, 0) := rfl
theorem f112_13 : amFetch 112 13 = some (.istore 4, 2, 0, 0, 0) := rfl
theorem f112_15 : amFetch 112 15 = some (.iload 4, 2, 0, 0, 0) := rfl
theorem f112_17 : amFetch 112 17 = some (.sipush 4096, 3, 0, 0, 0) := rfl
theorem f112_20 : amFetch 112 20 = some (.if_icmp .ge 29, 3, 0, 0, 0) := rfl
theorem f112_23 : amFetch 112 23 = some (.iload_n 3, 1, 0, 0, 0) := rfl
theorem f112_24 : amFetch 112 24 = some (.ifCond .eq 25, 3, 0, 0, 0) := rfl
theorem f112_27 : amFetch 112 27 = some (.iload_n 2, 1, 0, 0, 0) := rfl
theorem f112_28 : amFetch 112 28 = some (.aload_n 0, 1, 0, 0, 0) := rfl
theorem f112_29 : amFetch 112 29 = some (.getfield 7, 3, 4, 0, 0) := rfl
theorem f112_32 : amFetch 112 32 = some (.sipush 4096, 3, 0, 0, 0) := rfl
theorem f112_35 : amFetch 112 35 = some (.iload_n 1, 1, 0, 0, 0) := rfl
theorem f112_36 : amFetch 112 36 = some (.imul, 1, 0, 0, 0) := rfl
theorem f112_37 : amFetch 112 37 = some (.iload 4, 2, 0, 0, 0) := rfl
theorem f112_39 : amFetch 112 39 = some (.iadd, 1, 0, 0, 0) := rfl
theorem f112_40 : amFetch 112 40 = some (.iaload, 1, 0, 0, 0) := rfl
theorem f112_41 : amFetch 112 41 = some (.iadd, 1, 0, 0, 0) := rfl
theorem f112_42 : amFetch 112 42 = some (.istore_n 2, 1, 0, 0, 0) := rfl
theorem f112_43 : amFetch 112 43 = some (.iinc 4 1, 3, 0, 0, 0) := rfl
theorem f112_46 : amFetch 112 46 = some (.goto (-31), 3, 0, 0, 0) := rfl
theorem f112_49 : amFetch 112 49 = some (.iload_n 2, 1, 0, 0, 0) := rfl
theorem f112_50 : amFetch 112 50 = some (.ireturn, 1, 0, 0, 0) := rfl
theorem ow112 : amOwnL 112 = some (4, 5) := rfl
-- X4_fingerprintAt
theorem f113_0 : amFetch 113 0 = some (.iload_n 2, 1, 0, 0, 0) := rfl
theorem f113_1 : amFetch 113 1 = some (.istore_n 3, 1, 0, 0, 0) := rfl
theorem f113_2 : amFetch 113 2 = some (.aload_n 0, 1, 0, 0, 0) := rfl
theorem f113_3 : amFetch 113 3 = some (.iload_n 1, 1, 0, 0, 0) := rfl
theorem f113_4 : amFetch 113 4 = some (.invokestatic 69, 3, 1, 80, 1) := rfl
theorem f113_7 : amFetch 113 7 = some (.iconst 1, 1, 0, 0, 0) := rfl
theorem f113_8 : amFetch 113 8 = some (.invokevirtual 72, 3, 0, 82, 2) := rfl
theorem f113_11 : amFetch 113 11 = some (.ifCond .eq 11, 3, 0, 0, 0) := rfl
theorem f113_14 : amFetch 113 14 = some (.iload_n 2, 1, 0, 0, 0) := rfl
theorem f113_15 : amFetch 113 15 = some (.ifCond .lt 7, 3, 0, 0, 0) := rfl
theorem f113_18 : amFetch 113 18 = some (.iconst 1, 1, 0, 0, 0) := rfl
theorem f113_19 : amFetch 113 19 = some (.goto 4, 3, 0, 0, 0) := rfl
theorem f113_22 : amFetch 113 22 = some (.iconst 0, 1, 0, 0, 0) := rfl
theorem f113_23 : amFetch 113 23 = some (.istore 4, 2, 0, 0, 0) := rfl
theorem f113_25 : amFetch 113 25 = some (.iconst 0, 1, 0, 0, 0) := rfl
theorem f113_26 : amFetch 113 26 = some (.istore 5, 2, 0, 0, 0) := rfl
theorem f113_28 : amFetch 113 28 = some (.iload 5, 2, 0, 0, 0) := rfl
theorem f113_30 : amFetch 113 30 = some (.sipush 4096, 3, 0, 0, 0) := rfl
theorem f113_33 : amFetch 113 33 = some (.if_icmp .ge 62, 3, 0, 0, 0) := rfl
theorem f113_36 : amFetch 113 36 = some (.iload 4, 2, 0, 0, 0) := rfl
theorem f113_38 : amFetch 113 38 = some (.ifCond .eq 57, 3, 0, 0, 0) := rfl
theorem f113_41 : amFetch 113 41 = some (.aload_n 0, 1, 0, 0, 0) := rfl
theorem f113_42 : amFetch 113 42 = some (.getfield 7, 3, 4, 0, 0) := rfl
theorem f113_45 : amFetch 113 45 = some (.sipush 4096, 3, 0, 0, 0) := rfl
theorem f113_48 : amFetch 113 48 = some (.iload_n 1, 1, 0, 0, 0) := rfl
theorem f113_49 : amFetch 113 49 = some (.imul, 1, 0, 0, 0) := rfl
theorem f113_50 : amFetch 113 50 = some (.iload 5, 2, 0, 0, 0) := rfl
theorem f113_52 : amFetch 113 52 = some (.iadd, 1, 0, 0, 0) := rfl
theorem f113_53 : amFetch 113 53 = some (.iaload, 1, 0, 0, 0) := rfl
theorem f113_54 : amFetch 113 54 = some (.ifCond .le 7, 3, 0, 0, 0) := rfl
theorem f113_57 : amFetch 113 57 = some (.iconst 1, 1, 0, 0, 0) := rfl
theorem f113_58 : amFetch 113 58 = some (.goto 4, 3, 0, 0, 0) := rfl
theorem f113_61 : amFetch 113 61 = some (.iconst 0, 1, 0, 0, 0) := rfl
theorem f113_62 : amFetch 113 62 = some (.istore 6, 2, 0, 0, 0) := rfl
theorem f113_64 : amFetch 113 64 = some (.iload 6, 2, 0, 0, 0) := rfl
theorem f113_66 : amFetch 113 66 = some (.ifCond .eq 10, 3, 0, 0, 0) := rfl
theorem f113_69 : amFetch 113 69 = some (.iload_n 3, 1, 0, 0, 0) := rfl
theorem f113_70 : amFetch 113 70 = some (.ifCond .ne 6, 3, 0, 0, 0) := rfl
theorem f113_73 : amFetch 113 73 = some (.iload 5, 2, 0, 0, 0) := rfl
theorem f113_75 : amFetch 113 75 = some (.ireturn, 1, 0, 0, 0) := rfl
theorem f113_76 : amFetch 113 76 = some (.iload_n 3, 1, 0, 0, 0) := rfl
theorem f113_77 : amFetch 113 77 = some (.iload 6, 2, 0, 0, 0) := rfl
theorem f113_79 : amFetch 113 79 = some (.ifCond .eq 7, 3, 0, 0, 0) := rfl
theorem f113_82 : amFetch 113 82 = some (.iconst 1, 1, 0, 0, 0) := rfl
theorem f113_83 : amFetch 113 83 = some (.goto 4, 3, 0, 0, 0) := rfl
theorem f113_86 : amFetch 113 86 = some (.iconst 0, 1, 0, 0, 0) := rfl
theorem f113_87 : amFetch 113 87 = some (.isub, 1, 0, 0, 0) := rfl
theorem f113_88 : amFetch 113 88 = some (.istore_n 3, 1, 0, 0, 0) := rfl
theorem f113_89 : amFetch 113 89 = some (.iinc 5 1, 3, 0, 0, 0) := rfl
theorem f113_92 : amFetch 113 92 = some (.goto (-64), 3, 0, 0, 0) := rfl
theorem f113_95 : amFetch 113 95 = some (.aload_n 0, 1, 0, 0, 0) := rfl
theorem f113_96 : amFetch 113 96 = some (.iconst 1, 1, 0, 0, 0) := rfl
theorem f113_97 : amFetch 113 97 = some (.putfield 31, 3, 4, 7, 0) := rfl
theorem f113_100 : amFetch 113 100 = some (.iconst 0, 1, 0, 0, 0) := rfl
theorem f113_101 : amFetch 113 101 = some (.ireturn, 1, 0, 0, 0) := rfl
theorem ow113 : amOwnL 113 = some (4, 7) := rfl
-- X4_isLaid
theorem f114_0 : amFetch 114 0 = some (.aload_n 0, 1, 0, 0, 0) := rfl
theorem f114_1 : amFetch 114 1 = some (.iload_n 1, 1, 0, 0, 0) := rfl
theorem f114_2 : amFetch 114 2 = some (.invokestatic 69, 3, 1, 80, 1) := rfl
theorem f114_5 : amFetch 114 5 = some (.ifCond .eq 22, 3, 0, 0, 0) := rfl
theorem f114_8 : amFetch 114 8 = some (.iload_n 2, 1, 0, 0, 0) := rfl
theorem f114_9 : amFetch 114 9 = some (.iconst 0, 1, 0, 0, 0) := rfl
theorem f114_10 : amFetch 114 10 = some (.aload_n 0, 1, 0, 0, 0) := rfl
theorem f114_11 : amFetch 114 11 = some (.iload_n 1, 1, 0, 0, 0) := rfl
theorem f114_12 : amFetch 114 12 = some (.invokevirtual 44, 3, 0, 83, 1) := rfl
theorem f114_15 : amFetch 114 15 = some (.iconst 1, 1, 0, 0, 0) := rfl
theorem f114_16 : amFetch 114 16 = some (.isub, 1, 0, 0, 0) := rfl
theorem f114_17 : amFetch 114 17 = some (.invokestatic 35, 3, 1, 79, 3) := rfl
theorem f114_20 : amFetch 114 20 = some (.ifCond .eq 7, 3, 0, 0, 0) := rfl
theorem f114_23 : amFetch 114 23 = some (.iconst 1, 1, 0, 0, 0) := rfl
theorem f114_24 : amFetch 114 24 = some (.goto 4, 3, 0, 0, 0) := rfl
theorem f114_27 : amFetch 114 27 = some (.iconst 0, 1, 0, 0, 0) := rfl
theorem f114_28 : amFetch 114 28 = some (.iconst 1, 1, 0, 0, 0) := rfl
theorem f114_29 : amFetch 114 29 = some (.invokevirtual 72, 3, 0, 82, 2) := rfl
theorem f114_32 : amFetch 114 32 = some (.ifCond .ne 5, 3, 0, 0, 0) := rfl
theorem f114_35 : amFetch 114 35 = some (.iconst 0, 1, 0, 0, 0) := rfl
theorem f114_36 : amFetch 114 36 = some (.ireturn, 1, 0, 0, 0) := rfl
theorem f114_37 : amFetch 114 37 = some (.aload_n 0, 1, 0, 0, 0) := rfl
theorem f114_38 : amFetch 114 38 = some (.iload_n 1, 1, 0, 0, 0) := rfl
theorem f114_39 : amFetch 114 39 = some (.invokevirtual 85, 3, 0, 89, 1) := rfl
theorem f114_42 : amFetch 114 42 = some (.iconst 1, 1, 0, 0, 0) := rfl
theorem f114_43 : amFetch 114 43 = some (.ireturn, 1, 0, 0, 0) := rfl
theorem ow114 : amOwnL 114 = some (4, 3) := rfl
-- X4_remainderAt
theorem f115_0 : amFetch 115 0 = some (.aload_n 0, 1, 0, 0, 0) := rfl
theorem f115_1 : amFetch 115 1 = some (.iload_n 1, 1, 0, 0, 0) := rfl
theorem f115_2 : amFetch 115 2 = some (.iload_n 2, 1, 0, 0, 0) := rfl
theorem f115_3 : amFetch 115 3 = some (.invokevirtual 88, 3, 0, 114, 2) := rfl
theorem f115_6 : amFetch 115 6 = some (.ifCond .ne 5, 3, 0, 0, 0) := rfl
theorem f115_9 : amFetch 115 9 = some (.iconst 0, 1, 0, 0, 0) := rfl
theorem f115_10 : amFetch 115 10 = some (.ireturn, 1, 0, 0, 0) := rfl
theorem f115_11 : amFetch 115 11 = some (.aload_n 0, 1, 0, 0, 0) := rfl
theorem f115_12 : amFetch 115 12 = some (.iload_n 2, 1, 0, 0, 0) := rfl
theorem f115_13 : amFetch 115 13 = some (.invokevirtual 51, 3, 0, 90, 1) := rfl
theorem f115_16 : amFetch 115 16 = some (.ifCond .eq 28, 3, 0, 0, 0) := rfl
theorem f115_19 : amFetch 115 19 = some (.aload_n 0, 1, 0, 0, 0) := rfl
theorem f115_20 : amFetch 115 20 = some (.getfield 16, 3, 4, 2, 0) := rfl
theorem f115_23 : amFetch 115 23 = some (.iload_n 2, 1, 0, 0, 0) := rfl
theorem f115_24 : amFetch 115 24 = some (.iaload, 1, 0, 0, 0) := rfl
theorem f115_25 : amFetch 115 25 = some (.iconst 1, 1, 0, 0, 0) := rfl
theorem f115_26 : amFetch 115 26 = some (.isub, 1, 0, 0, 0) := rfl
theorem f115_27 : amFetch 115 27 = some (.iconst 1, 1, 0, 0, 0) := rfl
theorem f115_28 : amFetch 115 28 = some (.bipush 12, 2, 0, 0, 0) := rfl
theorem f115_30 : amFetch 115 30 = some (.aload_n 0, 1, 0, 0, 0) := rfl
theorem f115_31 : amFetch 115 31 = some (.getfield 13, 3, 4, 1, 0) := rfl
theorem f115_34 : amFetch 115 34 = some (.iload_n 1, 1, 0, 0, 0) := rfl
theorem f115_35 : amFetch 115 35 = some (.iaload, 1, 0, 0, 0) := rfl
theorem f115_36 : amFetch 115 36 = some (.isub, 1, 0, 0, 0) := rfl
theorem f115_37 : amFetch 115 37 = some (.ishl, 1, 0, 0, 0) := rfl
theorem f115_38 : amFetch 115 38 = some (.iconst 1, 1, 0, 0, 0) := rfl
theorem f115_39 : amFetch 115 39 = some (.isub, 1, 0, 0, 0) := rfl
theorem f115_40 : amFetch 115 40 = some (.iand, 1, 0, 0, 0) := rfl
theorem f115_41 : amFetch 115 41 = some (.goto 4, 3, 0, 0, 0) := rfl
theorem f115_44 : amFetch 115 44 = some (.iconst (-1), 1, 0, 0, 0) := rfl
theorem f115_45 : amFetch 115 45 = some (.ireturn, 1, 0, 0, 0) := rfl
theorem ow115 : amOwnL 115 = some (4, 3) := rfl
-- X4_counterAt
theorem f116_0 : amFetch 116 0 = some (.aload_n 0, 1, 0, 0, 0) := rfl
theorem f116_1 : amFetch 116 1 = some (.iload_n 1, 1, 0, 0, 0) := rfl
theorem f116_2 : amFetch 116 2 = some (.iload_n 2, 1, 0, 0, 0) := rfl
theorem f116_3 : amFetch 116 3 = some (.invokevirtual 88, 3, 0, 114, 2) := rfl
theorem f116_6 : amFetch 116 6 = some (.ifCond .eq 12, 3, 0, 0, 0) := rfl
theorem f116_9 : amFetch 116 9 = some (.aload_n 0, 1, 0, 0, 0) := rfl
theorem f116_10 : amFetch 116 10 = some (.getfield 19, 3, 4, 3, 0) := rfl
theorem f116_13 : amFetch 116 13 = some (.iload_n 2, 1, 0, 0, 0) := rfl
theorem f116_14 : amFetch 116 14 = some (.iaload, 1, 0, 0, 0) := rfl
theorem f116_15 : amFetch 116 15 = some (.goto 4, 3, 0, 0, 0) := rfl
theorem f116_18 : amFetch 116 18 = some (.iconst 0, 1, 0, 0, 0) := rfl
theorem f116_19 : amFetch 116 19 = some (.ireturn, 1, 0, 0, 0) := rfl
theorem ow116 : amOwnL 116 = some (4, 3) := rfl
-- X4_quotientAt
theorem f117_0 : amFetch 117 0 = some (.aload_n 0, 1, 0, 0, 0) := rfl
theorem f117_1 : amFetch 117 1 = some (.iload_n 1, 1, 0, 0, 0) := rfl
theorem f117_2 : amFetch 117 2 = some (.iload_n 2, 1, 0, 0, 0) := rfl
theorem f117_3 : amFetch 117 3 = some (.invokevirtual 88, 3, 0, 114, 2) := rfl
theorem f117_6 : amFetch 117 6 = some (.ifCond .ne 5, 3, 0, 0, 0) := rfl
theorem f117_9 : amFetch 117 9 = some (.iconst 0, 1, 0, 0, 0) := rfl
theorem f117_10 : amFetch 117 10 = some (.ireturn, 1, 0, 0, 0) := rfl
theorem f117_11 : amFetch 117 11 = some (.aload_n 0, 1, 0, 0, 0) := rfl
theorem f117_12 : amFetch 117 12 = some (.iload_n 2, 1, 0, 0, 0) := rfl
theorem f117_13 : amFetch 117 13 = some (.invokevirtual 51, 3, 0, 90, 1) := rfl
theorem f117_16 : amFetch 117 16 = some (.ifCond .eq 12, 3, 0, 0, 0) := rfl
theorem f117_19 : amFetch 117 19 = some (.aload_n 0, 1, 0, 0, 0) := rfl
theorem f117_20 : amFetch 117 20 = some (.iload_n 1, 1, 0, 0, 0) := rfl
theorem f117_21 : amFetch 117 21 = some (.iload_n 2, 1, 0, 0, 0) := rfl
theorem f117_22 : amFetch 117 22 = some (.invokevirtual 55, 3, 0, 91, 2) := rfl
theorem f117_25 : amFetch 117 25 = some (.goto 4, 3, 0, 0, 0) := rfl
theorem f117_28 : amFetch 117 28 = some (.iconst (-1), 1, 0, 0, 0) := rfl
theorem f117_29 : amFetch 117 29 = some (.ireturn, 1, 0, 0, 0) := rfl
theorem ow117 : amOwnL 117 = some (4, 3) := rfl
-- X4_isOccupied
theorem f118_0 : amFetch 118 0 = some (.aload_n 0, 1, 0, 0, 0) := rfl
theorem f118_1 : amFetch 118 1 = some (.iload_n 1, 1, 0, 0, 0) := rfl
theorem f118_2 : amFetch 118 2 = some (.iload_n 2, 1, 0, 0, 0) := rfl
theorem f118_3 : amFetch 118 3 = some (.invokevirtual 88, 3, 0, 114, 2) := rfl
theorem f118_6 : amFetch 118 6 = some (.ifCond .eq 16, 3, 0, 0, 0) := rfl
theorem f118_9 : amFetch 118 9 = some (.aload_n 0, 1, 0, 0, 0) := rfl
theorem f118_10 : amFetch 118 10 = some (.getfield 22, 3, 4, 4, 0) := rfl
theorem f118_13 : amFetch 118 13 = some (.iload_n 2, 1, 0, 0, 0) := rfl
theorem f118_14 : amFetch 118 14 = some (.iaload, 1, 0, 0, 0) := rfl
theorem f118_15 : amFetch 118 15 = some (.ifCond .le 7, 3, 0, 0, 0) := rfl
theorem f118_18 : amFetch 118 18 = some (.iconst 1, 1, 0, 0, 0) := rfl
theorem f118_19 : amFetch 118 19 = some (.goto 4, 3, 0, 0, 0) := rfl
theorem f118_22 : amFetch 118 22 = some (.iconst 0, 1, 0, 0, 0) := rfl
theorem f118_23 : amFetch 118 23 = some (.ireturn, 1, 0, 0, 0) := rfl
theorem ow118 : amOwnL 118 = some (4, 3) := rfl
-- X4_isContinuation
theorem f119_0 : amFetch 119 0 = some (.aload_n 0, 1, 0, 0, 0) := rfl
theorem f119_1 : amFetch 119 1 = some (.iload_n 1, 1, 0, 0, 0) := rfl
theorem f119_2 : amFetch 119 2 = some (.iload_n 2, 1, 0, 0, 0) := rfl
theorem f119_3 : amFetch 119 3 = some (.invokevirtual 88, 3, 0, 114, 2) := rfl
theorem f119_6 : amFetch 119 6 = some (.ifCond .eq 36, 3, 0, 0, 0) := rfl
theorem f119_9 : amFetch 119 9 = some (.aload_n 0, 1, 0, 0, 0) := rfl
theorem f119_10 : amFetch 119 10 = some (.iload_n 2, 1, 0, 0, 0) := rfl
theorem f119_11 : amFetch 119 11 = some (.invokevirtual 51, 3, 0, 90, 1) := rfl
theorem f119_14 : amFetch 119 14 = some (.ifCond .eq 28, 3, 0, 0, 0) := rfl
theorem f119_17 : amFetch 119 17 = some (.aload_n 0, 1, 0, 0, 0) := rfl
theorem f119_18 : amFetch 119 18 = some (.getfield 25, 3, 4, 5, 0) := rfl
theorem f119_21 : amFetch 119 21 = some (.aload_n 0, 1, 0, 0, 0) := rfl
theorem f119_22 : amFetch 119 22 = some (.iload_n 1, 1, 0, 0, 0) := rfl
theorem f119_23 : amFetch 119 23 = some (.iload_n 2, 1, 0, 0, 0) := rfl
theorem f119_24 : amFetch 119 24 = some (.invokevirtual 55, 3, 0, 91, 2) := rfl
theorem f119_27 : amFetch 119 27 = some (.iaload, 1, 0, 0, 0) := rfl
theorem f119_28 : amFetch 119 28 = some (.aload_n 0, 1, 0, 0, 0) := rfl
theorem f119_29 : amFetch 119 29 = some (.iload_n 1, 1, 0, 0, 0) := rfl
theorem f119_30 : amFetch 119 30 = some (.invokevirtual 44, 3, 0, 83, 1) := rfl
theorem f119_33 : amFetch 119 33 = some (.irem, 1, 0, 0, 0) := rfl
theorem f119_34 : amFetch 119 34 = some (.iload_n 2, 1, 0, 0, 0) := rfl
theorem f119_35 : amFetch 119 35 = some (.if_icmp .eq 7, 3, 0, 0, 0) := rfl
theorem f119_38 : amFetch 119 38 = some (.iconst 1, 1, 0, 0, 0) := rfl
theorem f119_39 : amFetch 119 39 = some (.goto 4, 3, 0, 0, 0) := rfl
theorem f119_42 : amFetch 119 42 = some (.iconst 0, 1, 0, 0, 0) := rfl
theorem f119_43 : amFetch 119 43 = some (.ireturn, 1, 0, 0, 0) := rfl
theorem ow119 : amOwnL 119 = some (4, 3) := rfl
-- X4_isShifted
theorem f120_0 : amFetch 120 0 = some (.aload_n 0, 1, 0, 0, 0) := rfl
theorem f120_1 : amFetch 120 1 = some (.iload_n 1, 1, 0, 0, 0) := rfl
theorem f120_2 : amFetch 120 2 = some (.iload_n 2, 1, 0, 0, 0) := rfl
theorem f120_3 : amFetch 120 3 = some (.invokevirtual 88, 3, 0, 114, 2) := rfl
theorem f120_6 : amFetch 120 6 = some (.ifCond .eq 16, 3, 0, 0, 0) := rfl
theorem f120_9 : amFetch 120 9 = some (.aload_n 0, 1, 0, 0, 0) := rfl
theorem f120_10 : amFetch 120 10 = some (.iload_n 1, 1, 0, 0, 0) := rfl
theorem f120_11 : amFetch 120 11 = some (.iload_n 2, 1, 0, 0, 0) := rfl
theorem f120_12 : amFetch 120 12 = some (.invokevirtual 91, 3, 0, 92, 2) := rfl
theorem f120_15 : amFetch 120 15 = some (.ifCond .eq 7, 3, 0, 0, 0) := rfl
theorem f120_18 : amFetch 120 18 = some (.iconst 1, 1, 0, 0, 0) := rfl
theorem f120_19 : amFetch 120 19 = some (.goto 4, 3, 0, 0, 0) := rfl
theorem f120_22 : amFetch 120 22 = some (.iconst 0, 1, 0, 0, 0) := rfl
theorem f120_23 : amFetch 120 23 = some (.ireturn, 1, 0, 0, 0) := rfl
theorem ow120 : amOwnL 120 = some (4, 3) := rfl
-- X4_runStart
theorem f121_0 : amFetch 121 0 = some (.aload_n 0, 1, 0, 0, 0) := rfl
theorem f121_1 : amFetch 121 1 = some (.iload_n 1, 1, 0, 0, 0) := rfl
theorem f121_2 : amFetch 121 2 = some (.iload_n 2, 1, 0, 0, 0) := rfl
theorem f121_3 : amFetch 121 3 = some (.invokevirtual 88, 3, 0, 114, 2) := rfl
theorem f121_6 : amFetch 121 6 = some (.ifCond .ne 5, 3, 0, 0, 0) := rfl
theorem f121_9 : amFetch 121 9 = some (.iconst 0, 1, 0, 0, 0) := rfl
theorem f121_10 : amFetch 121 10 = some (.ireturn, 1, 0, 0, 0) := rfl
theorem f121_11 : amFetch 121 11 = some (.aload_n 0, 1, 0, 0, 0) := rfl
theorem f121_12 : amFetch 121 12 = some (.getfield 22, 3, 4, 4, 0) := rfl
theorem f121_15 : amFetch 121 15 = some (.iload_n 2, 1, 0, 0, 0) := rfl
theorem f121_16 : amFetch 121 16 = some (.iaload, 1, 0, 0, 0) := rfl
theorem f121_17 : amFetch 121 17 = some (.ifCond .le 18, 3, 0, 0, 0) := rfl
theorem f121_20 : amFetch 121 20 = some (.aload_n 0, 1, 0, 0, 0) := rfl
theorem f121_21 : amFetch 121 21 = some (.getfield 25, 3, 4, 5, 0) := rfl
theorem f121_24 : amFetch 121 24 = some (.iload_n 2, 1, 0, 0, 0) := rfl
theorem f121_25 : amFetch 121 25 = some (.iaload, 1, 0, 0, 0) := rfl
theorem f121_26 : amFetch 121 26 = some (.aload_n 0, 1, 0, 0, 0) := rfl
theorem f121_27 : amFetch 121 27 = some (.iload_n 1, 1, 0, 0, 0) := rfl
theorem f121_28 : amFetch 121 28 = some (.invokevirtual 44, 3, 0, 83, 1) := rfl
theorem f121_31 : amFetch 121 31 = some (.irem, 1, 0, 0, 0) := rfl
theorem f121_32 : amFetch 121 32 = some (.goto 4, 3, 0, 0, 0) := rfl
theorem f121_35 : amFetch 121 35 = some (.iconst (-1), 1, 0, 0, 0) := rfl
theorem f121_36 : amFetch 121 36 = some (.ireturn, 1, 0, 0, 0) := rfl
theorem ow121 : amOwnL 121 = some (4, 3) := rfl
-- X4_runLength
theorem f122_0 : amFetch 122 0 = some (.aload_n 0, 1, 0, 0, 0) := rfl
theorem f122_1 : amFetch 122 1 = some (.iload_n 1, 1, 0, 0, 0) := rfl
theorem f122_2 : amFetch 122 2 = some (.iload_n 2, 1, 0, 0, 0) := rfl
theorem f122_3 : amFetch 122 3 = some (.invokevirtual 88, 3, 0, 114, 2) := rfl
theorem f122_6 : amFetch 122 6 = some (.ifCond .eq 12, 3, 0, 0, 0) := rfl
theorem f122_9 : amFetch 122 9 = some (.aload_n 0, 1, 0, 0, 0) := rfl
theorem f122_10 : amFetch 122 10 = some (.getfield 22, 3, 4, 4, 0) := rfl
theorem f122_13 : amFetch 122 13 = some (.iload_n 2, 1, 0, 0, 0) := rfl
theorem f122_14 : amFetch 122 14 = some (.iaload, 1, 0, 0, 0) := rfl
theorem f122_15 : amFetch 122 15 = some (.goto 4, 3, 0, 0, 0) := rfl
theorem f122_18 : amFetch 122 18 = some (.iconst 0, 1, 0, 0, 0) := rfl
theorem f122_19 : amFetch 122 19 = some (.ireturn, 1, 0, 0, 0) := rfl
theorem ow122 : amOwnL 122 = some (4, 3) := rfl
-- X4_clusterStart
theorem f123_0 : amFetch 123 0 = some (.aload_n 0, 1, 0, 0, 0) := rfl
theorem f123_1 : amFetch 123 1 = some (.iload_n 1, 1, 0, 0, 0) := rfl
theorem f123_2 : amFetch 123 2 = some (.iload_n 2, 1, 0, 0, 0) := rfl
theorem f123_3 : amFetch 123 3 = some (.invokevirtual 88, 3, 0, 114, 2) := rfl
theorem f123_6 : amFetch 123 6 = some (.ifCond .ne 5, 3, 0, 0, 0) := rfl
theorem f123_9 : amFetch 123 9 = some (.iconst 0, 1, 0, 0, 0) := rfl
theorem f123_10 : amFetch 123 10 = some (.ireturn, 1, 0, 0, 0) := rfl
theorem f123_11 : amFetch 123 11 = some (.iload_n 2, 1, 0, 0, 0) := rfl
theorem f123_12 : amFetch 123 12 = some (.istore_n 3, 1, 0, 0, 0) := rfl
theorem f123_13 : amFetch 123 13 = some (.aload_n 0, 1, 0, 0, 0) := rfl
theorem f123_14 : amFetch 123 14 = some (.iload_n 1, 1, 0, 0, 0) := rfl
theorem f123_15 : amFetch 123 15 = some (.iload_n 3, 1, 0, 0, 0) := rfl
theorem f123_16 : amFetch 123 16 = some (.invokevirtual 91, 3, 0, 92, 2) := rfl
theorem f123_19 : amFetch 123 19 = some (.ifCond .eq 24, 3, 0, 0, 0) := rfl
theorem f123_22 : amFetch 123 22 = some (.iload_n 3, 1, 0, 0, 0) := rfl
theorem f123_23 : amFetch 123 23 = some (.ifCond .ne 13, 3, 0, 0, 0) := rfl
theorem f123_26 : amFetch 123 26 = some (.aload_n 0, 1, 0, 0, 0) := rfl
theorem f123_27 : amFetch 123 27 = some (.iload_n 1, 1, 0, 0, 0) := rfl
theorem f123_28 : amFetch 123 28 = some (.invokevirtual 44, 3, 0, 83, 1) := rfl
theorem f123_31 : amFetch 123 31 = some (.iconst 1, 1, 0, 0, 0) := rfl
theorem f123_32 : amFetch 123 32 = some (.isub, 1, 0, 0, 0) := rfl
theorem f123_33 : amFetch 123 33 = some (.goto 6, 3, 0, 0, 0) := rfl
theorem f123_36 : amFetch 123 36 = some (.iload_n 3, 1, 0, 0, 0) := rfl
theorem f123_37 : amFetch 123 37 = some (.iconst 1, 1, 0, 0, 0) := rfl
theorem f123_38 : amFetch 123 38 = some (.isub, 1, 0, 0, 0) := rfl
theorem f123_39 : amFetch 123 39 = some (.istore_n 3, 1, 0, 0, 0) := rfl
theorem f123_40 : amFetch 123 40 = some (.goto (-27), 3, 0, 0, 0) := rfl
theorem f123_43 : amFetch 123 43 = some (.aload_n 0, 1, 0, 0, 0) := rfl
theorem f123_44 : amFetch 123 44 = some (.iload_n 2, 1, 0, 0, 0) := rfl
theorem f123_45 : amFetch 123 45 = some (.invokevirtual 51, 3, 0, 90, 1) := rfl
theorem f123_48 : amFetch 123 48 = some (.ifCond .eq 7, 3, 0, 0, 0) := rfl
theorem f123_51 : amFetch 123 51 = some (.iload_n 3, 1, 0, 0, 0) := rfl
theorem f123_52 : amFetch 123 52 = some (.goto 4, 3, 0, 0, 0) := rfl
theorem f123_55 : amFetch 123 55 = some (.iconst (-1), 1, 0, 0, 0) := rfl
theorem f123_56 : amFetch 123 56 = some (.ireturn, 1, 0, 0, 0) := rfl
theorem ow123 : amOwnL 123 = some (4, 4) := rfl
-- X4_longestCluster
theorem f124_0 : amFetch 124 0 = some (.iconst 0, 1, 0, 0, 0) := rfl
theorem f124_1 : amFetch 124 1 = some (.istore_n 2, 1, 0, 0, 0) := rfl
theorem f124_2 : amFetch 124 2 = some (.aload_n 0, 1, 0, 0, 0) := rfl
theorem f124_3 : amFetch 124 3 = some (.iload_n 1, 1, 0, 0, 0) := rfl
theorem f124_4 : amFetch 124 4 = some (.iconst 0, 1, 0, 0, 0) := rfl
theorem f124_5 : amFetch 124 5 = some (.invokevirtual 88, 3, 0, 114, 2) := rfl
theorem f124_8 : amFetch 124 8 = some (.ifCond .eq 89, 3, 0, 0, 0) := rfl
theorem f124_11 : amFetch 124 11 = some (.aload_n 0, 1, 0, 0, 0) := rfl
theorem f124_12 : amFetch 124 12 = some (.iload_n 1, 1, 0, 0, 0) := rfl
theorem f124_13 : amFetch 124 13 = some (.invokevirtual 44, 3, 0, 83, 1) := rfl
theorem f124_16 : amFetch 124 16 = some (.istore_n 3, 1, 0, 0, 0) := rfl
theorem f124_17 : amFetch 124 17 = some (.iconst 0, 1, 0, 0, 0) := rfl
theorem f124_18 : amFetch 124 18 = some (.istore 4, 2, 0, 0, 0) := rfl
theorem f124_20 : amFetch 124 20 = some (.iload 4, 2, 0, 0, 0) := rfl
theorem f124_22 : amFetch 124 22 = some (.iload_n 3, 1, 0, 0, 0) := rfl
theorem f124_23 : amFetch 124 23 = some (.if_icmp .ge 74, 3, 0, 0, 0) := rfl
theorem f124_26 : amFetch 124 26 = some (.aload_n 0, 1, 0, 0, 0) := rfl
theorem f124_27 : amFetch 124 27 = some (.iload 4, 2, 0, 0, 0) := rfl
theorem f124_29 : amFetch 124 29 = some (.invokevirtual 51, 3, 0, 90, 1) := rfl
theorem f124_32 : amFetch 124 32 = some (.ifCond .eq 17, 3, 0, 0, 0) := rfl
theorem f124_35 : amFetch 124 35 = some (.aload_n 0, 1, 0, 0, 0) := rfl
theorem f124_36 : amFetch 124 36 = some (.iload_n 1, 1, 0, 0, 0) := rfl
theorem f124_37 : amFetch 124 37 = some (.iload 4, 2, 0, 0, 0) := rfl
theorem f124_39 : amFetch 124 39 = some (.invokevirtual 91, 3, 0, 92, 2) := rfl
theorem f124_42 : amFetch 124 42 = some (.ifCond .ne 7, 3, 0, 0, 0) := rfl
theorem f124_45 : amFetch 124 45 = some (.iconst 1, 1, 0, 0, 0) := rfl
theorem f124_46 : amFetch 124 46 = some (.goto 4, 3, 0, 0, 0) := rfl
theorem f124_49 : amFetch 124 49 = some (.iconst 0, 1, 0, 0, 0) := rfl
theorem f124_50 : amFetch 124 50 = some (.istore 5, 2, 0, 0, 0) := rfl
theorem f124_52 : amFetch 124 52 = some (.iload 5, 2, 0, 0, 0) := rfl
theorem f124_54 : amFetch 124 54 = some (.ifCond .le 24, 3, 0, 0, 0) := rfl
theorem f124_57 : amFetch 124 57 = some (.aload_n 0, 1, 0, 0, 0) := rfl
theorem f124_58 : amFetch 124 58 = some (.iload_n 1, 1, 0, 0, 0) := rfl
theorem f124_59 : amFetch 124 59 = some (.iload 4, 2, 0, 0, 0) := rfl
theorem f124_61 : amFetch 124 61 = some (.iload 5, 2, 0, 0, 0) := rfl
theorem f124_63 : amFetch 124 63 = some (.iadd, 1, 0, 0, 0) := rfl
theorem f124_64 : amFetch 124 64 = some (.iload_n 3, 1, 0, 0, 0) := rfl
theorem f124_65 : amFetch 124 65 = some (.irem, 1, 0, 0, 0) := rfl
theorem f124_66 : amFetch 124 66 = some (.invokevirtual 91, 3, 0, 92, 2) := rfl
theorem f124_69 : amFetch 124 69 = some (.ifCond .eq 9, 3, 0, 0, 0) := rfl
theorem f124_72 : amFetch 124 72 = some (.iinc 5 1, 3, 0, 0, 0) := rfl
theorem f124_75 : amFetch 124 75 = some (.goto (-23), 3, 0, 0, 0) := rfl
theorem f124_78 : amFetch 124 78 = some (.iload 5, 2, 0, 0, 0) := rfl
theorem f124_80 : amFetch 124 80 = some (.iload_n 2, 1, 0, 0, 0) := rfl
theorem f124_81 : amFetch 124 81 = some (.if_icmp .le 8, 3, 0, 0, 0) := rfl
theorem f124_84 : amFetch 124 84 = some (.iload 5, 2, 0, 0, 0) := rfl
theorem f124_86 : amFetch 124 86 = some (.goto 4, 3, 0, 0, 0) := rfl
theorem f124_89 : amFetch 124 89 = some (.iload_n 2, 1, 0, 0, 0) := rfl
theorem f124_90 : amFetch 124 90 = some (.istore_n 2, 1, 0, 0, 0) := rfl
theorem f124_91 : amFetch 124 91 = some (.iinc 4 1, 3, 0, 0, 0) := rfl
theorem f124_94 : amFetch 124 94 = some (.goto (-74), 3, 0, 0, 0) := rfl
theorem f124_97 : amFetch 124 97 = some (.iload_n 2, 1, 0, 0, 0) := rfl
theorem f124_98 : amFetch 124 98 = some (.ireturn, 1, 0, 0, 0) := rfl
theorem ow124 : amOwnL 124 = some (4, 6) := rfl
-- L_insert
theorem f125_0 : amFetch 125 0 = some (.aload_n 3, 1, 0, 0, 0) := rfl
theorem f125_1 : amFetch 125 1 = some (.iconst 0, 1, 0, 0, 0) := rfl
theorem f125_2 : amFetch 125 2 = some (.aload_n 0, 1, 0, 0, 0) := rfl
theorem f125_3 : amFetch 125 3 = some (.iload_n 1, 1, 0, 0, 0) := rfl
theorem f125_4 : amFetch 125 4 = some (.iload_n 2, 1, 0, 0, 0) := rfl
theorem f125_5 : amFetch 125 5 = some (.invokevirtual 7, 3, 0, 38, 2) := rfl
theorem f125_8 : amFetch 125 8 = some (.i2l, 1, 0, 0, 0) := rfl
theorem f125_9 : amFetch 125 9 = some (.lastore, 1, 0, 0, 0) := rfl
theorem f125_10 : amFetch 125 10 = some (.goto 11, 3, 0, 0, 0) := rfl
theorem f125_13 : amFetch 125 13 = some (.astore 4, 2, 0, 0, 0) := rfl
theorem f125_15 : amFetch 125 15 = some (.iconst 1, 1, 0, 0, 0) := rfl
theorem f125_16 : amFetch 125 16 = some (.ireturn, 1, 0, 0, 0) := rfl
theorem f125_17 : amFetch 125 17 = some (.astore 4, 2, 0, 0, 0) := rfl
theorem f125_19 : amFetch 125 19 = some (.iconst 2, 1, 0, 0, 0) := rfl
theorem f125_20 : amFetch 125 20 = some (.ireturn, 1, 0, 0, 0) := rfl
theorem f125_21 : amFetch 125 21 = some (.iconst 0, 1, 0, 0, 0) := rfl
theorem f125_22 : amFetch 125 22 = some (.ireturn, 1, 0, 0, 0) := rfl
theorem ow125 : amOwnL 125 = some (5, 5) := rfl
-- L_remove
theorem f126_0 : amFetch 126 0 = some (.aload_n 3, 1, 0, 0, 0) := rfl
theorem f126_1 : amFetch 126 1 = some (.iconst 0, 1, 0, 0, 0) := rfl
theorem f126_2 : amFetch 126 2 = some (.aload_n 0, 1, 0, 0, 0) := rfl
theorem f126_3 : amFetch 126 3 = some (.iload_n 1, 1, 0, 0, 0) := rfl
theorem f126_4 : amFetch 126 4 = some (.iload_n 2, 1, 0, 0, 0) := rfl
theorem f126_5 : amFetch 126 5 = some (.invokevirtual 17, 3, 0, 39, 2) := rfl
theorem f126_8 : amFetch 126 8 = some (.ifCond .eq 7, 3, 0, 0, 0) := rfl
theorem f126_11 : amFetch 126 11 = some (.lconst 1, 1, 0, 0, 0) := rfl
theorem f126_12 : amFetch 126 12 = some (.goto 4, 3, 0, 0, 0) := rfl
theorem f126_15 : amFetch 126 15 = some (.lconst 0, 1, 0, 0, 0) := rfl
theorem f126_16 : amFetch 126 16 = some (.lastore, 1, 0, 0, 0) := rfl
theorem f126_17 : amFetch 126 17 = some (.goto 7, 3, 0, 0, 0) := rfl
theorem f126_20 : amFetch 126 20 = some (.astore 4, 2, 0, 0, 0) := rfl
theorem f126_22 : amFetch 126 22 = some (.iconst 1, 1, 0, 0, 0) := rfl
theorem f126_23 : amFetch 126 23 = some (.ireturn, 1, 0, 0, 0) := rfl
theorem f126_24 : amFetch 126 24 = some (.iconst 0, 1, 0, 0, 0) := rfl
theorem f126_25 : amFetch 126 25 = some (.ireturn, 1, 0, 0, 0) := rfl
theorem ow126 : amOwnL 126 = some (5, 5) := rfl
-- L_count
theorem f127_0 : amFetch 127 0 = some (.aload_n 3, 1, 0, 0, 0) := rfl
theorem f127_1 : amFetch 127 1 = some (.iconst 0, 1, 0, 0, 0) := rfl
theorem f127_2 : amFetch 127 2 = some (.aload_n 0, 1, 0, 0, 0) := rfl
theorem f127_3 : amFetch 127 3 = some (.iload_n 1, 1, 0, 0, 0) := rfl
theorem f127_4 : amFetch 127 4 = some (.iload_n 2, 1, 0, 0, 0) := rfl
theorem f127_5 : amFetch 127 5 = some (.invokevirtual 21, 3, 0, 40, 2) := rfl
theorem f127_8 : amFetch 127 8 = some (.i2l, 1, 0, 0, 0) := rfl
theorem f127_9 : amFetch 127 9 = some (.lastore, 1, 0, 0, 0) := rfl
theorem f127_10 : amFetch 127 10 = some (.goto 7, 3, 0, 0, 0) := rfl
theorem f127_13 : amFetch 127 13 = some (.astore 4, 2, 0, 0, 0) := rfl
theorem f127_15 : amFetch 127 15 = some (.iconst 1, 1, 0, 0, 0) := rfl
theorem f127_16 : amFetch 127 16 = some (.ireturn, 1, 0, 0, 0) := rfl
theorem f127_17 : amFetch 127 17 = some (.iconst 0, 1, 0, 0, 0) := rfl
theorem f127_18 : amFetch 127 18 = some (.ireturn, 1, 0, 0, 0) := rfl
theorem ow127 : amOwnL 127 = some (5, 5) := rfl
-- L_add
theorem f128_0 : amFetch 128 0 = some (.aload 4, 2, 0, 0, 0) := rfl
theorem f128_2 : amFetch 128 2 = some (.iconst 0, 1, 0, 0, 0) := rfl
theorem f128_3 : amFetch 128 3 = some (.aload_n 0, 1, 0, 0, 0) := rfl
theorem f128_4 : amFetch 128 4 = some (.iload_n 1, 1, 0, 0, 0) := rfl
theorem f128_5 : amFetch 128 5 = some (.iload_n 2, 1, 0, 0, 0) := rfl
theorem f128_6 : amFetch 128 6 = some (.iload_n 3, 1, 0, 0, 0) := rfl
theorem f128_7 : amFetch 128 7 = some (.invokevirtual 24, 3, 0, 41, 3) := rfl
theorem f128_10 : amFetch 128 10 = some (.i2l, 1, 0, 0, 0) := rfl
theorem f128_11 : amFetch 128 11 = some (.lastore, 1, 0, 0, 0) := rfl
theorem f128_12 : amFetch 128 12 = some (.goto 15, 3, 0, 0, 0) := rfl
theorem f128_15 : amFetch 128 15 = some (.astore 5, 2, 0, 0, 0) := rfl
theorem f128_17 : amFetch 128 17 = some (.iconst 1, 1, 0, 0, 0) := rfl
theorem f128_18 : amFetch 128 18 = some (.ireturn, 1, 0, 0, 0) := rfl
theorem f128_19 : amFetch 128 19 = some (.astore 5, 2, 0, 0, 0) := rfl
theorem f128_21 : amFetch 128 21 = some (.iconst 2, 1, 0, 0, 0) := rfl
theorem f128_22 : amFetch 128 22 = some (.ireturn, 1, 0, 0, 0) := rfl
theorem f128_23 : amFetch 128 23 = some (.astore 5, 2, 0, 0, 0) := rfl
theorem f128_25 : amFetch 128 25 = some (.iconst 3, 1, 0, 0, 0) := rfl
theorem f128_26 : amFetch 128 26 = some (.ireturn, 1, 0, 0, 0) := rfl
theorem f128_27 : amFetch 128 27 = some (.iconst 0, 1, 0, 0, 0) := rfl
theorem f128_28 : amFetch 128 28 = some (.ireturn, 1, 0, 0, 0) := rfl
theorem ow128 : amOwnL 128 = some (5, 6) := rfl
-- L_take
theorem f129_0 : amFetch 129 0 = some (.aload 4, 2, 0, 0, 0) := rfl
theorem f129_2 : amFetch 129 2 = some (.iconst 0, 1, 0, 0, 0) := rfl
theorem f129_3 : amFetch 129 3 = some (.aload_n 0, 1, 0, 0, 0) := rfl
theorem f129_4 : amFetch 129 4 = some (.iload_n 1, 1, 0, 0, 0) := rfl
theorem f129_5 : amFetch 129 5 = some (.iload_n 2, 1, 0, 0, 0) := rfl
theorem f129_6 : amFetch 129 6 = some (.iload_n 3, 1, 0, 0, 0) := rfl
theorem f129_7 : amFetch 129 7 = some (.invokevirtual 30, 3, 0, 42, 3) := rfl
theorem f129_10 : amFetch 129 10 = some (.i2l, 1, 0, 0, 0) := rfl
theorem f129_11 : amFetch 129 11 = some (.lastore, 1, 0, 0, 0) := rfl
theorem f129_12 : amFetch 129 12 = some (.goto 11, 3, 0, 0, 0) := rfl
theorem f129_15 : amFetch 129 15 = some (.astore 5, 2, 0, 0, 0) := rfl
theorem f129_17 : amFetch 129 17 = some (.iconst 1, 1, 0, 0, 0) := rfl
theorem f129_18 : amFetch 129 18 = some (.ireturn, 1, 0, 0, 0) := rfl
theorem f129_19 : amFetch 129 19 = some (.astore 5, 2, 0, 0, 0) := rfl
theorem f129_21 : amFetch 129 21 = some (.iconst 2, 1, 0, 0, 0) := rfl
theorem f129_22 : amFetch 129 22 = some (.ireturn, 1, 0, 0, 0) := rfl
theorem f129_23 : amFetch 129 23 = some (.iconst 0, 1, 0, 0, 0) := rfl
theorem f129_24 : amFetch 129 24 = some (.ireturn, 1, 0, 0, 0) := rfl
theorem ow129 : amOwnL 129 = some (5, 6) := rfl
-- L_countOf
theorem f130_0 : amFetch 130 0 = some (.aload_n 3, 1, 0, 0, 0) := rfl
theorem f130_1 : amFetch 130 1 = some (.iconst 0, 1, 0, 0, 0) := rfl
theorem f130_2 : amFetch 130 2 = some (.aload_n 0, 1, 0, 0, 0) := rfl
theorem f130_3 : amFetch 130 3 = some (.iload_n 1, 1, 0, 0, 0) := rfl
theorem f130_4 : amFetch 130 4 = some (.iload_n 2, 1, 0, 0, 0) := rfl
theorem f130_5 : amFetch 130 5 = some (.invokevirtual 33, 3, 0, 43, 2) := rfl
theorem f130_8 : amFetch 130 8 = some (.i2l, 1, 0, 0, 0) := rfl
theorem f130_9 : amFetch 130 9 = some (.lastore, 1, 0, 0, 0) := rfl
theorem f130_10 : amFetch 130 10 = some (.goto 11, 3, 0, 0, 0) := rfl
theorem f130_13 : amFetch 130 13 = some (.astore 4, 2, 0, 0, 0) := rfl
theorem f130_15 : amFetch 130 15 = some (.iconst 1, 1, 0, 0, 0) := rfl
theorem f130_16 : amFetch 130 16 = some (.ireturn, 1, 0, 0, 0) := rfl
theorem f130_17 : amFetch 130 17 = some (.astore 4, 2, 0, 0, 0) := rfl
theorem f130_19 : amFetch 130 19 = some (.iconst 2, 1, 0, 0, 0) := rfl
theorem f130_20 : amFetch 130 20 = some (.ireturn, 1, 0, 0, 0) := rfl
theorem f130_21 : amFetch 130 21 = some (.iconst 0, 1, 0, 0, 0) := rfl
theorem f130_22 : amFetch 130 22 = some (.ireturn, 1, 0, 0, 0) := rfl
theorem ow130 : amOwnL 130 = some (5, 5) := rfl
-- L_countInLists
theorem f131_0 : amFetch 131 0 = some (.aload_n 3, 1, 0, 0, 0) := rfl
theorem f131_1 : amFetch 131 1 = some (.iconst 0, 1, 0, 0, 0) := rfl
theorem f131_2 : amFetch 131 2 = some (.aload_n 0, 1, 0, 0, 0) := rfl
theorem f131_3 : amFetch 131 3 = some (.iload_n 1, 1, 0, 0, 0) := rfl
theorem f131_4 : amFetch 131 4 = some (.iload_n 2, 1, 0, 0, 0) := rfl
theorem f131_5 : amFetch 131 5 = some (.invokevirtual 36, 3, 0, 44, 2) := rfl
theorem f131_8 : amFetch 131 8 = some (.i2l, 1, 0, 0, 0) := rfl
theorem f131_9 : amFetch 131 9 = some (.lastore, 1, 0, 0, 0) := rfl
theorem f131_10 : amFetch 131 10 = some (.goto 11, 3, 0, 0, 0) := rfl
theorem f131_13 : amFetch 131 13 = some (.astore 4, 2, 0, 0, 0) := rfl
theorem f131_15 : amFetch 131 15 = some (.iconst 1, 1, 0, 0, 0) := rfl
theorem f131_16 : amFetch 131 16 = some (.ireturn, 1, 0, 0, 0) := rfl
theorem f131_17 : amFetch 131 17 = some (.astore 4, 2, 0, 0, 0) := rfl
theorem f131_19 : amFetch 131 19 = some (.iconst 2, 1, 0, 0, 0) := rfl
theorem f131_20 : amFetch 131 20 = some (.ireturn, 1, 0, 0, 0) := rfl
theorem f131_21 : amFetch 131 21 = some (.iconst 0, 1, 0, 0, 0) := rfl
theorem f131_22 : amFetch 131 22 = some (.ireturn, 1, 0, 0, 0) := rfl
theorem ow131 : amOwnL 131 = some (5, 5) := rfl
-- L_lookedAt
theorem f132_0 : amFetch 132 0 = some (.aload_n 3, 1, 0, 0, 0) := rfl
theorem f132_1 : amFetch 132 1 = some (.iconst 0, 1, 0, 0, 0) := rfl
theorem f132_2 : amFetch 132 2 = some (.aload_n 0, 1, 0, 0, 0) := rfl
theorem f132_3 : amFetch 132 3 = some (.iload_n 1, 1, 0, 0, 0) := rfl
theorem f132_4 : amFetch 132 4 = some (.iload_n 2, 1, 0, 0, 0) := rfl
theorem f132_5 : amFetch 132 5 = some (.invokevirtual 39, 3, 0, 45, 2) := rfl
theorem f132_8 : amFetch 132 8 = some (.i2l, 1, 0, 0, 0) := rfl
theorem f132_9 : amFetch 132 9 = some (.lastore, 1, 0, 0, 0) := rfl
theorem f132_10 : amFetch 132 10 = some (.goto 11, 3, 0, 0, 0) := rfl
theorem f132_13 : amFetch 132 13 = some (.astore 4, 2, 0, 0, 0) := rfl
theorem f132_15 : amFetch 132 15 = some (.iconst 1, 1, 0, 0, 0) := rfl
theorem f132_16 : amFetch 132 16 = some (.ireturn, 1, 0, 0, 0) := rfl
theorem f132_17 : amFetch 132 17 = some (.astore 4, 2, 0, 0, 0) := rfl
theorem f132_19 : amFetch 132 19 = some (.iconst 2, 1, 0, 0, 0) := rfl
theorem f132_20 : amFetch 132 20 = some (.ireturn, 1, 0, 0, 0) := rfl
theorem f132_21 : amFetch 132 21 = some (.iconst 0, 1, 0, 0, 0) := rfl
theorem f132_22 : amFetch 132 22 = some (.ireturn, 1, 0, 0, 0) := rfl
theorem ow132 : amOwnL 132 = some (5, 5) := rfl
-- L_clear
theorem f133_0 : amFetch 133 0 = some (.aload_n 0, 1, 0, 0, 0) := rfl
theorem f133_1 : amFetch 133 1 = some (.iload_n 1, 1, 0, 0, 0) := rfl
theorem f133_2 : amFetch 133 2 = some (.invokevirtual 42, 3, 0, 46, 1) := rfl
theorem f133_5 : amFetch 133 5 = some (.goto 6, 3, 0, 0, 0) := rfl
theorem f133_8 : amFetch 133 8 = some (.astore_n 2, 1, 0, 0, 0) := rfl
theorem f133_9 : amFetch 133 9 = some (.iconst 1, 1, 0, 0, 0) := rfl
theorem f133_10 : amFetch 133 10 = some (.ireturn, 1, 0, 0, 0) := rfl
theorem f133_11 : amFetch 133 11 = some (.iconst 0, 1, 0, 0, 0) := rfl
theorem f133_12 : amFetch 133 12 = some (.ireturn, 1, 0, 0, 0) := rfl
theorem ow133 : amOwnL 133 = some (5, 3) := rfl
-- L_grow
theorem f134_0 : amFetch 134 0 = some (.aload_n 2, 1, 0, 0, 0) := rfl
theorem f134_1 : amFetch 134 1 = some (.iconst 0, 1, 0, 0, 0) := rfl
theorem f134_2 : amFetch 134 2 = some (.aload_n 0, 1, 0, 0, 0) := rfl
theorem f134_3 : amFetch 134 3 = some (.iload_n 1, 1, 0, 0, 0) := rfl
theorem f134_4 : amFetch 134 4 = some (.invokevirtual 46, 3, 0, 47, 1) := rfl
theorem f134_7 : amFetch 134 7 = some (.i2l, 1, 0, 0, 0) := rfl
theorem f134_8 : amFetch 134 8 = some (.lastore, 1, 0, 0, 0) := rfl
theorem f134_9 : amFetch 134 9 = some (.goto 9, 3, 0, 0, 0) := rfl
theorem f134_12 : amFetch 134 12 = some (.astore_n 3, 1, 0, 0, 0) := rfl
theorem f134_13 : amFetch 134 13 = some (.iconst 1, 1, 0, 0, 0) := rfl
theorem f134_14 : amFetch 134 14 = some (.ireturn, 1, 0, 0, 0) := rfl
theorem f134_15 : amFetch 134 15 = some (.astore_n 3, 1, 0, 0, 0) := rfl
theorem f134_16 : amFetch 134 16 = some (.iconst 2, 1, 0, 0, 0) := rfl
theorem f134_17 : amFetch 134 17 = some (.ireturn, 1, 0, 0, 0) := rfl
theorem f134_18 : amFetch 134 18 = some (.iconst 0, 1, 0, 0, 0) := rfl
theorem f134_19 : amFetch 134 19 = some (.ireturn, 1, 0, 0, 0) := rfl
theorem ow134 : amOwnL 134 = some (5, 4) := rfl
-- L_shrink
theorem f135_0 : amFetch 135 0 = some (.aload_n 2, 1, 0, 0, 0) := rfl
theorem f135_1 : amFetch 135 1 = some (.iconst 0, 1, 0, 0, 0) := rfl
theorem f135_2 : amFetch 135 2 = some (.aload_n 0, 1, 0, 0, 0) := rfl
theorem f135_3 : amFetch 135 3 = some (.iload_n 1, 1, 0, 0, 0) := rfl
theorem f135_4 : amFetch 135 4 = some (.invokevirtual 50, 3, 0, 48, 1) := rfl
theorem f135_7 : amFetch 135 7 = some (.i2l, 1, 0, 0, 0) := rfl
theorem f135_8 : amFetch 135 8 = some (.lastore, 1, 0, 0, 0) := rfl
theorem f135_9 : amFetch 135 9 = some (.goto 9, 3, 0, 0, 0) := rfl
theorem f135_12 : amFetch 135 12 = some (.astore_n 3, 1, 0, 0, 0) := rfl
theorem f135_13 : amFetch 135 13 = some (.iconst 1, 1, 0, 0, 0) := rfl
theorem f135_14 : amFetch 135 14 = some (.ireturn, 1, 0, 0, 0) := rfl
theorem f135_15 : amFetch 135 15 = some (.astore_n 3, 1, 0, 0, 0) := rfl
theorem f135_16 : amFetch 135 16 = some (.iconst 2, 1, 0, 0, 0) := rfl
theorem f135_17 : amFetch 135 17 = some (.ireturn, 1, 0, 0, 0) := rfl
theorem f135_18 : amFetch 135 18 = some (.iconst 0, 1, 0, 0, 0) := rfl
theorem f135_19 : amFetch 135 19 = some (.ireturn, 1, 0, 0, 0) := rfl
theorem ow135 : amOwnL 135 = some (5, 4) := rfl
-- L_merge
theorem f136_0 : amFetch 136 0 = some (.aload_n 3, 1, 0, 0, 0) := rfl
theorem f136_1 : amFetch 136 1 = some (.iconst 0, 1, 0, 0, 0) := rfl
theorem f136_2 : amFetch 136 2 = some (.aload_n 0, 1, 0, 0, 0) := rfl
theorem f136_3 : amFetch 136 3 = some (.iload_n 1, 1, 0, 0, 0) := rfl
theorem f136_4 : amFetch 136 4 = some (.iload_n 2, 1, 0, 0, 0) := rfl
theorem f136_5 : amFetch 136 5 = some (.invokevirtual 53, 3, 0, 49, 2) := rfl
theorem f136_8 : amFetch 136 8 = some (.i2l, 1, 0, 0, 0) := rfl
theorem f136_9 : amFetch 136 9 = some (.lastore, 1, 0, 0, 0) := rfl
theorem f136_10 : amFetch 136 10 = some (.goto 11, 3, 0, 0, 0) := rfl
theorem f136_13 : amFetch 136 13 = some (.astore 4, 2, 0, 0, 0) := rfl
theorem f136_15 : amFetch 136 15 = some (.iconst 1, 1, 0, 0, 0) := rfl
theorem f136_16 : amFetch 136 16 = some (.ireturn, 1, 0, 0, 0) := rfl
theorem f136_17 : amFetch 136 17 = some (.astore 4, 2, 0, 0, 0) := rfl
theorem f136_19 : amFetch 136 19 = some (.iconst 2, 1, 0, 0, 0) := rfl
theorem f136_20 : amFetch 136 20 = some (.ireturn, 1, 0, 0, 0) := rfl
theorem f136_21 : amFetch 136 21 = some (.iconst 0, 1, 0, 0, 0) := rfl
theorem f136_22 : amFetch 136 22 = some (.ireturn, 1, 0, 0, 0) := rfl
theorem ow136 : amOwnL 136 = some (5, 5) := rfl
-- L_intersect
theorem f137_0 : amFetch 137 0 = some (.aload_n 3, 1, 0, 0, 0) := rfl
theorem f137_1 : amFetch 137 1 = some (.iconst 0, 1, 0, 0, 0) := rfl
theorem f137_2 : amFetch 137 2 = some (.aload_n 0, 1, 0, 0, 0) := rfl
theorem f137_3 : amFetch 137 3 = some (.iload_n 1, 1, 0, 0, 0) := rfl
theorem f137_4 : amFetch 137 4 = some (.iload_n 2, 1, 0, 0, 0) := rfl
theorem f137_5 : amFetch 137 5 = some (.invokevirtual 56, 3, 0, 50, 2) := rfl
theorem f137_8 : amFetch 137 8 = some (.i2l, 1, 0, 0, 0) := rfl
theorem f137_9 : amFetch 137 9 = some (.lastore, 1, 0, 0, 0) := rfl
theorem f137_10 : amFetch 137 10 = some (.goto 7, 3, 0, 0, 0) := rfl
theorem f137_13 : amFetch 137 13 = some (.astore 4, 2, 0, 0, 0) := rfl
theorem f137_15 : amFetch 137 15 = some (.iconst 1, 1, 0, 0, 0) := rfl
theorem f137_16 : amFetch 137 16 = some (.ireturn, 1, 0, 0, 0) := rfl
theorem f137_17 : amFetch 137 17 = some (.iconst 0, 1, 0, 0, 0) := rfl
theorem f137_18 : amFetch 137 18 = some (.ireturn, 1, 0, 0, 0) := rfl
theorem ow137 : amOwnL 137 = some (5, 5) := rfl
-- L_isSame
theorem f138_0 : amFetch 138 0 = some (.aload_n 3, 1, 0, 0, 0) := rfl
theorem f138_1 : amFetch 138 1 = some (.iconst 0, 1, 0, 0, 0) := rfl
theorem f138_2 : amFetch 138 2 = some (.aload_n 0, 1, 0, 0, 0) := rfl
theorem f138_3 : amFetch 138 3 = some (.iload_n 1, 1, 0, 0, 0) := rfl
theorem f138_4 : amFetch 138 4 = some (.iload_n 2, 1, 0, 0, 0) := rfl
theorem f138_5 : amFetch 138 5 = some (.invokevirtual 59, 3, 0, 51, 2) := rfl
theorem f138_8 : amFetch 138 8 = some (.ifCond .eq 7, 3, 0, 0, 0) := rfl
theorem f138_11 : amFetch 138 11 = some (.lconst 1, 1, 0, 0, 0) := rfl
theorem f138_12 : amFetch 138 12 = some (.goto 4, 3, 0, 0, 0) := rfl
theorem f138_15 : amFetch 138 15 = some (.lconst 0, 1, 0, 0, 0) := rfl
theorem f138_16 : amFetch 138 16 = some (.lastore, 1, 0, 0, 0) := rfl
theorem f138_17 : amFetch 138 17 = some (.goto 7, 3, 0, 0, 0) := rfl
theorem f138_20 : amFetch 138 20 = some (.astore 4, 2, 0, 0, 0) := rfl
theorem f138_22 : amFetch 138 22 = some (.iconst 1, 1, 0, 0, 0) := rfl
theorem f138_23 : amFetch 138 23 = some (.ireturn, 1, 0, 0, 0) := rfl
theorem f138_24 : amFetch 138 24 = some (.iconst 0, 1, 0, 0, 0) := rfl
theorem f138_25 : amFetch 138 25 = some (.ireturn, 1, 0, 0, 0) := rfl
theorem ow138 : amOwnL 138 = some (5, 5) := rfl
-- L_slots
theorem f139_0 : amFetch 139 0 = some (.aload_n 2, 1, 0, 0, 0) := rfl
theorem f139_1 : amFetch 139 1 = some (.iconst 0, 1, 0, 0, 0) := rfl
theorem f139_2 : amFetch 139 2 = some (.aload_n 0, 1, 0, 0, 0) := rfl
theorem f139_3 : amFetch 139 3 = some (.iload_n 1, 1, 0, 0, 0) := rfl
theorem f139_4 : amFetch 139 4 = some (.invokevirtual 62, 3, 0, 52, 1) := rfl
theorem f139_7 : amFetch 139 7 = some (.i2l, 1, 0, 0, 0) := rfl
theorem f139_8 : amFetch 139 8 = some (.lastore, 1, 0, 0, 0) := rfl
theorem f139_9 : amFetch 139 9 = some (.goto 6, 3, 0, 0, 0) := rfl
theorem f139_12 : amFetch 139 12 = some (.astore_n 3, 1, 0, 0, 0) := rfl
theorem f139_13 : amFetch 139 13 = some (.iconst 1, 1, 0, 0, 0) := rfl
theorem f139_14 : amFetch 139 14 = some (.ireturn, 1, 0, 0, 0) := rfl
theorem f139_15 : amFetch 139 15 = some (.iconst 0, 1, 0, 0, 0) := rfl
theorem f139_16 : amFetch 139 16 = some (.ireturn, 1, 0, 0, 0) := rfl
theorem ow139 : amOwnL 139 = some (5, 4) := rfl
-- L_entries
theorem f140_0 : amFetch 140 0 = some (.aload_n 2, 1, 0, 0, 0) := rfl
theorem f140_1 : amFetch 140 1 = some (.iconst 0, 1, 0, 0, 0) := rfl
theorem f140_2 : amFetch 140 2 = some (.aload_n 0, 1, 0, 0, 0) := rfl
theorem f140_3 : amFetch 140 3 = some (.iload_n 1, 1, 0, 0, 0) := rfl
theorem f140_4 : amFetch 140 4 = some (.invokevirtual 65, 3, 0, 53, 1) := rfl
theorem f140_7 : amFetch 140 7 = some (.i2l, 1, 0, 0, 0) := rfl
theorem f140_8 : amFetch 140 8 = some (.lastore, 1, 0, 0, 0) := rfl
theorem f140_9 : amFetch 140 9 = some (.goto 6, 3, 0, 0, 0) := rfl
theorem f140_12 : amFetch 140 12 = some (.astore_n 3, 1, 0, 0, 0) := rfl
theorem f140_13 : amFetch 140 13 = some (.iconst 1, 1, 0, 0, 0) := rfl
theorem f140_14 : amFetch 140 14 = some (.ireturn, 1, 0, 0, 0) := rfl
theorem f140_15 : amFetch 140 15 = some (.iconst 0, 1, 0, 0, 0) := rfl
theorem f140_16 : amFetch 140 16 = some (.ireturn, 1, 0, 0, 0) := rfl
theorem ow140 : amOwnL 140 = some (5, 4) := rfl
-- L_distinct
theorem f141_0 : amFetch 141 0 = some (.aload_n 2, 1, 0, 0, 0) := rfl
theorem f141_1 : amFetch 141 1 = some (.iconst 0, 1, 0, 0, 0) := rfl
theorem f141_2 : amFetch 141 2 = some (.aload_n 0, 1, 0, 0, 0) := rfl
theorem f141_3 : amFetch 141 3 = some (.iload_n 1, 1, 0, 0, 0) := rfl
theorem f141_4 : amFetch 141 4 = some (.invokevirtual 68, 3, 0, 54, 1) := rfl
theorem f141_7 : amFetch 141 7 = some (.i2l, 1, 0, 0, 0) := rfl
theorem f141_8 : amFetch 141 8 = some (.lastore, 1, 0, 0, 0) := rfl
theorem f141_9 : amFetch 141 9 = some (.goto 6, 3, 0, 0, 0) := rfl
theorem f141_12 : amFetch 141 12 = some (.astore_n 3, 1, 0, 0, 0) := rfl
theorem f141_13 : amFetch 141 13 = some (.iconst 1, 1, 0, 0, 0) := rfl
theorem f141_14 : amFetch 141 14 = some (.ireturn, 1, 0, 0, 0) := rfl
theorem f141_15 : amFetch 141 15 = some (.iconst 0, 1, 0, 0, 0) := rfl
theorem f141_16 : amFetch 141 16 = some (.ireturn, 1, 0, 0, 0) := rfl
theorem ow141 : amOwnL 141 = some (5, 4) := rfl
-- L_total
theorem f142_0 : amFetch 142 0 = some (.aload_n 2, 1, 0, 0, 0) := rfl
theorem f142_1 : amFetch 142 1 = some (.iconst 0, 1, 0, 0, 0) := rfl
theorem f142_2 : amFetch 142 2 = some (.aload_n 0, 1, 0, 0, 0) := rfl
theorem f142_3 : amFetch 142 3 = some (.iload_n 1, 1, 0, 0, 0) := rfl
theorem f142_4 : amFetch 142 4 = some (.invokevirtual 71, 3, 0, 55, 1) := rfl
theorem f142_7 : amFetch 142 7 = some (.i2l, 1, 0, 0, 0) := rfl
theorem f142_8 : amFetch 142 8 = some (.lastore, 1, 0, 0, 0) := rfl
theorem f142_9 : amFetch 142 9 = some (.goto 6, 3, 0, 0, 0) := rfl
theorem f142_12 : amFetch 142 12 = some (.astore_n 3, 1, 0, 0, 0) := rfl
theorem f142_13 : amFetch 142 13 = some (.iconst 1, 1, 0, 0, 0) := rfl
theorem f142_14 : amFetch 142 14 = some (.ireturn, 1, 0, 0, 0) := rfl
theorem f142_15 : amFetch 142 15 = some (.iconst 0, 1, 0, 0, 0) := rfl
theorem f142_16 : amFetch 142 16 = some (.ireturn, 1, 0, 0, 0) := rfl
theorem ow142 : amOwnL 142 = some (5, 4) := rfl
-- L_fingerprintAt
theorem f143_0 : amFetch 143 0 = some (.aload_n 3, 1, 0, 0, 0) := rfl
theorem f143_1 : amFetch 143 1 = some (.iconst 0, 1, 0, 0, 0) := rfl
theorem f143_2 : amFetch 143 2 = some (.aload_n 0, 1, 0, 0, 0) := rfl
theorem f143_3 : amFetch 143 3 = some (.iload_n 1, 1, 0, 0, 0) := rfl
theorem f143_4 : amFetch 143 4 = some (.iload_n 2, 1, 0, 0, 0) := rfl
theorem f143_5 : amFetch 143 5 = some (.invokevirtual 74, 3, 0, 56, 2) := rfl
theorem f143_8 : amFetch 143 8 = some (.i2l, 1, 0, 0, 0) := rfl
theorem f143_9 : amFetch 143 9 = some (.lastore, 1, 0, 0, 0) := rfl
theorem f143_10 : amFetch 143 10 = some (.goto 7, 3, 0, 0, 0) := rfl
theorem f143_13 : amFetch 143 13 = some (.astore 4, 2, 0, 0, 0) := rfl
theorem f143_15 : amFetch 143 15 = some (.iconst 1, 1, 0, 0, 0) := rfl
theorem f143_16 : amFetch 143 16 = some (.ireturn, 1, 0, 0, 0) := rfl
theorem f143_17 : amFetch 143 17 = some (.iconst 0, 1, 0, 0, 0) := rfl
theorem f143_18 : amFetch 143 18 = some (.ireturn, 1, 0, 0, 0) := rfl
theorem ow143 : amOwnL 143 = some (5, 5) := rfl
-- L_remainderAt
theorem f144_0 : amFetch 144 0 = some (.aload_n 3, 1, 0, 0, 0) := rfl
theorem f144_1 : amFetch 144 1 = some (.iconst 0, 1, 0, 0, 0) := rfl
theorem f144_2 : amFetch 144 2 = some (.aload_n 0, 1, 0, 0, 0) := rfl
theorem f144_3 : amFetch 144 3 = some (.iload_n 1, 1, 0, 0, 0) := rfl
theorem f144_4 : amFetch 144 4 = some (.iload_n 2, 1, 0, 0, 0) := rfl
theorem f144_5 : amFetch 144 5 = some (.invokevirtual 77, 3, 0, 57, 2) := rfl
theorem f144_8 : amFetch 144 8 = some (.i2l, 1, 0, 0, 0) := rfl
theorem f144_9 : amFetch 144 9 = some (.lastore, 1, 0, 0, 0) := rfl
theorem f144_10 : amFetch 144 10 = some (.goto 7, 3, 0, 0, 0) := rfl
theorem f144_13 : amFetch 144 13 = some (.astore 4, 2, 0, 0, 0) := rfl
theorem f144_15 : amFetch 144 15 = some (.iconst 1, 1, 0, 0, 0) := rfl
theorem f144_16 : amFetch 144 16 = some (.ireturn, 1, 0, 0, 0) := rfl
theorem f144_17 : amFetch 144 17 = some (.iconst 0, 1, 0, 0, 0) := rfl
theorem f144_18 : amFetch 144 18 = some (.ireturn, 1, 0, 0, 0) := rfl
theorem ow144 : amOwnL 144 = some (5, 5) := rfl
-- L_counterAt
theorem f145_0 : amFetch 145 0 = some (.aload_n 3, 1, 0, 0, 0) := rfl
theorem f145_1 : amFetch 145 1 = some (.iconst 0, 1, 0, 0, 0) := rfl
theorem f145_2 : amFetch 145 2 = some (.aload_n 0, 1, 0, 0, 0) := rfl
theorem f145_3 : amFetch 145 3 = some (.iload_n 1, 1, 0, 0, 0) := rfl
theorem f145_4 : amFetch 145 4 = some (.iload_n 2, 1, 0, 0, 0) := rfl
theorem f145_5 : amFetch 145 5 = some (.invokevirtual 80, 3, 0, 58, 2) := rfl
theorem f145_8 : amFetch 145 8 = some (.i2l, 1, 0, 0, 0) := rfl
theorem f145_9 : amFetch 145 9 = some (.lastore, 1, 0, 0, 0) := rfl
theorem f145_10 : amFetch 145 10 = some (.goto 7, 3, 0, 0, 0) := rfl
theorem f145_13 : amFetch 145 13 = some (.astore 4, 2, 0, 0, 0) := rfl
theorem f145_15 : amFetch 145 15 = some (.iconst 1, 1, 0, 0, 0) := rfl
theorem f145_16 : amFetch 145 16 = some (.ireturn, 1, 0, 0, 0) := rfl
theorem f145_17 : amFetch 145 17 = some (.iconst 0, 1, 0, 0, 0) := rfl
theorem f145_18 : amFetch 145 18 = some (.ireturn, 1, 0, 0, 0) := rfl
theorem ow145 : amOwnL 145 = some (5, 5) := rfl
-- L_quotientAt
theorem f146_0 : amFetch 146 0 = some (.aload_n 3, 1, 0, 0, 0) := rfl
theorem f146_1 : amFetch 146 1 = some (.iconst 0, 1, 0, 0, 0) := rfl
theorem f146_2 : amFetch 146 2 = some (.aload_n 0, 1, 0, 0, 0) := rfl
theorem f146_3 : amFetch 146 3 = some (.iload_n 1, 1, 0, 0, 0) := rfl
theorem f146_4 : amFetch 146 4 = some (.iload_n 2, 1, 0, 0, 0) := rfl
theorem f146_5 : amFetch 146 5 = some (.invokevirtual 83, 3, 0, 59, 2) := rfl
theorem f146_8 : amFetch 146 8 = some (.i2l, 1, 0, 0, 0) := rfl
theorem f146_9 : amFetch 146 9 = some (.lastore, 1, 0, 0, 0) := rfl
theorem f146_10 : amFetch 146 10 = some (.goto 7, 3, 0, 0, 0) := rfl
theorem f146_13 : amFetch 146 13 = some (.astore 4, 2, 0, 0, 0) := rfl
theorem f146_15 : amFetch 146 15 = some (.iconst 1, 1, 0, 0, 0) := rfl
theorem f146_16 : amFetch 146 16 = some (.ireturn, 1, 0, 0, 0) := rfl
theorem f146_17 : amFetch 146 17 = some (.iconst 0, 1, 0, 0, 0) := rfl
theorem f146_18 : amFetch 146 18 = some (.ireturn, 1, 0, 0, 0) := rfl
theorem ow146 : amOwnL 146 = some (5, 5) := rfl
-- L_isOccupied
theorem f147_0 : amFetch 147 0 = some (.aload_n 3, 1, 0, 0, 0) := rfl
theorem f147_1 : amFetch 147 1 = some (.iconst 0, 1, 0, 0, 0) := rfl
theorem f147_2 : amFetch 147 2 = some (.aload_n 0, 1, 0, 0, 0) := rfl
theorem f147_3 : amFetch 147 3 = some (.iload_n 1, 1, 0, 0, 0) := rfl
theorem f147_4 : amFetch 147 4 = some (.iload_n 2, 1, 0, 0, 0) := rfl
theorem f147_5 : amFetch 147 5 = some (.invokevirtual 86, 3, 0, 60, 2) := rfl
theorem f147_8 : amFetch 147 8 = some (.ifCond .eq 7, 3, 0, 0, 0) := rfl
theorem f147_11 : amFetch 147 11 = some (.lconst 1, 1, 0, 0, 0) := rfl
theorem f147_12 : amFetch 147 12 = some (.goto 4, 3, 0, 0, 0) := rfl
theorem f147_15 : amFetch 147 15 = some (.lconst 0, 1, 0, 0, 0) := rfl
theorem f147_16 : amFetch 147 16 = some (.lastore, 1, 0, 0, 0) := rfl
theorem f147_17 : amFetch 147 17 = some (.goto 7, 3, 0, 0, 0) := rfl
theorem f147_20 : amFetch 147 20 = some (.astore 4, 2, 0, 0, 0) := rfl
theorem f147_22 : amFetch 147 22 = some (.iconst 1, 1, 0, 0, 0) := rfl
theorem f147_23 : amFetch 147 23 = some (.ireturn, 1, 0, 0, 0) := rfl
theorem f147_24 : amFetch 147 24 = some (.iconst 0, 1, 0, 0, 0) := rfl
theorem f147_25 : amFetch 147 25 = some (.ireturn, 1, 0, 0, 0) := rfl
theorem ow147 : amOwnL 147 = some (5, 5) := rfl
-- L_isContinuation
theorem f148_0 : amFetch 148 0 = some (.aload_n 3, 1, 0, 0, 0) := rfl
theorem f148_1 : amFetch 148 1 = some (.iconst 0, 1, 0, 0, 0) := rfl
theorem f148_2 : amFetch 148 2 = some (.aload_n 0, 1, 0, 0, 0) := rfl
theorem f148_3 : amFetch 148 3 = some (.iload_n 1, 1, 0, 0, 0) := rfl
theorem f148_4 : amFetch 148 4 = some (.iload_n 2, 1, 0, 0, 0) := rfl
theorem f148_5 : amFetch 148 5 = some (.invokevirtual 89, 3, 0, 61, 2) := rfl
theorem f148_8 : amFetch 148 8 = some (.ifCond .eq 7, 3, 0, 0, 0) := rfl
theorem f148_11 : amFetch 148 11 = some (.lconst 1, 1, 0, 0, 0) := rfl
theorem f148_12 : amFetch 148 12 = some (.goto 4, 3, 0, 0, 0) := rfl
theorem f148_15 : amFetch 148 15 = some (.lconst 0, 1, 0, 0, 0) := rfl
theorem f148_16 : amFetch 148 16 = some (.lastore, 1, 0, 0, 0) := rfl
theorem f148_17 : amFetch 148 17 = some (.goto 7, 3, 0, 0, 0) := rfl
theorem f148_20 : amFetch 148 20 = some (.astore 4, 2, 0, 0, 0) := rfl
theorem f148_22 : amFetch 148 22 = some (.iconst 1, 1, 0, 0, 0) := rfl
theorem f148_23 : amFetch 148 23 = some (.ireturn, 1, 0, 0, 0) := rfl
theorem f148_24 : amFetch 148 24 = some (.iconst 0, 1, 0, 0, 0) := rfl
theorem f148_25 : amFetch 148 25 = some (.ireturn, 1, 0, 0, 0) := rfl
theorem ow148 : amOwnL 148 = some (5, 5) := rfl
-- L_isShifted
theorem f149_0 : amFetch 149 0 = some (.aload_n 3, 1, 0, 0, 0) := rfl
theorem f149_1 : amFetch 149 1 = some (.iconst 0, 1, 0, 0, 0) := rfl
theorem f149_2 : amFetch 149 2 = some (.aload_n 0, 1, 0, 0, 0) := rfl
theorem f149_3 : amFetch 149 3 = some (.iload_n 1, 1, 0, 0, 0) := rfl
theorem f149_4 : amFetch 149 4 = some (.iload_n 2, 1, 0, 0, 0) := rfl
theorem f149_5 : amFetch 149 5 = some (.invokevirtual 92, 3, 0, 62, 2) := rfl
theorem f149_8 : amFetch 149 8 = some (.ifCond .eq 7, 3, 0, 0, 0) := rfl
theorem f149_11 : amFetch 149 11 = some (.lconst 1, 1, 0, 0, 0) := rfl
theorem f149_12 : amFetch 149 12 = some (.goto 4, 3, 0, 0, 0) := rfl
theorem f149_15 : amFetch 149 15 = some (.lconst 0, 1, 0, 0, 0) := rfl
theorem f149_16 : amFetch 149 16 = some (.lastore, 1, 0, 0, 0) := rfl
theorem f149_17 : amFetch 149 17 = some (.goto 7, 3, 0, 0, 0) := rfl
theorem f149_20 : amFetch 149 20 = some (.astore 4, 2, 0, 0, 0) := rfl
theorem f149_22 : amFetch 149 22 = some (.iconst 1, 1, 0, 0, 0) := rfl
theorem f149_23 : amFetch 149 23 = some (.ireturn, 1, 0, 0, 0) := rfl
theorem f149_24 : amFetch 149 24 = some (.iconst 0, 1, 0, 0, 0) := rfl
theorem f149_25 : amFetch 149 25 = some (.ireturn, 1, 0, 0, 0) := rfl
theorem ow149 : amOwnL 149 = some (5, 5) := rfl
-- L_runStart
theorem f150_0 : amFetch 150 0 = some (.aload_n 3, 1, 0, 0, 0) := rfl
theorem f150_1 : amFetch 150 1 = some (.iconst 0, 1, 0, 0, 0) := rfl
theorem f150_2 : amFetch 150 2 = some (.aload_n 0, 1, 0, 0, 0) := rfl
theorem f150_3 : amFetch 150 3 = some (.iload_n 1, 1, 0, 0, 0) := rfl
theorem f150_4 : amFetch 150 4 = some (.iload_n 2, 1, 0, 0, 0) := rfl
theorem f150_5 : amFetch 150 5 = some (.invokevirtual 95, 3, 0, 63, 2) := rfl
theorem f150_8 : amFetch 150 8 = some (.i2l, 1, 0, 0, 0) := rfl
theorem f150_9 : amFetch 150 9 = some (.lastore, 1, 0, 0, 0) := rfl
theorem f150_10 : amFetch 150 10 = some (.goto 7, 3, 0, 0, 0) := rfl
theorem f150_13 : amFetch 150 13 = some (.astore 4, 2, 0, 0, 0) := rfl
theorem f150_15 : amFetch 150 15 = some (.iconst 1, 1, 0, 0, 0) := rfl
theorem f150_16 : amFetch 150 16 = some (.ireturn, 1, 0, 0, 0) := rfl
theorem f150_17 : amFetch 150 17 = some (.iconst 0, 1, 0, 0, 0) := rfl
theorem f150_18 : amFetch 150 18 = some (.ireturn, 1, 0, 0, 0) := rfl
theorem ow150 : amOwnL 150 = some (5, 5) := rfl
-- L_runLength
theorem f151_0 : amFetch 151 0 = some (.aload_n 3, 1, 0, 0, 0) := rfl
theorem f151_1 : amFetch 151 1 = some (.iconst 0, 1, 0, 0, 0) := rfl
theorem f151_2 : amFetch 151 2 = some (.aload_n 0, 1, 0, 0, 0) := rfl
theorem f151_3 : amFetch 151 3 = some (.iload_n 1, 1, 0, 0, 0) := rfl
theorem f151_4 : amFetch 151 4 = some (.iload_n 2, 1, 0, 0, 0) := rfl
theorem f151_5 : amFetch 151 5 = some (.invokevirtual 98, 3, 0, 64, 2) := rfl
theorem f151_8 : amFetch 151 8 = some (.i2l, 1, 0, 0, 0) := rfl
theorem f151_9 : amFetch 151 9 = some (.lastore, 1, 0, 0, 0) := rfl
theorem f151_10 : amFetch 151 10 = some (.goto 7, 3, 0, 0, 0) := rfl
theorem f151_13 : amFetch 151 13 = some (.astore 4, 2, 0, 0, 0) := rfl
theorem f151_15 : amFetch 151 15 = some (.iconst 1, 1, 0, 0, 0) := rfl
theorem f151_16 : amFetch 151 16 = some (.ireturn, 1, 0, 0, 0) := rfl
theorem f151_17 : amFetch 151 17 = some (.iconst 0, 1, 0, 0, 0) := rfl
theorem f151_18 : amFetch 151 18 = some (.ireturn, 1, 0, 0, 0) := rfl
theorem ow151 : amOwnL 151 = some (5, 5) := rfl
-- L_clusterStart
theorem f152_0 : amFetch 152 0 = some (.aload_n 3, 1, 0, 0, 0) := rfl
theorem f152_1 : amFetch 152 1 = some (.iconst 0, 1, 0, 0, 0) := rfl
theorem f152_2 : amFetch 152 2 = some (.aload_n 0, 1, 0, 0, 0) := rfl
theorem f152_3 : amFetch 152 3 = some (.iload_n 1, 1, 0, 0, 0) := rfl
theorem f152_4 : amFetch 152 4 = some (.iload_n 2, 1, 0, 0, 0) := rfl
theorem f152_5 : amFetch 152 5 = some (.invokevirtual 101, 3, 0, 65, 2) := rfl
theorem f152_8 : amFetch 152 8 = some (.i2l, 1, 0, 0, 0) := rfl
theorem f152_9 : amFetch 152 9 = some (.lastore, 1, 0, 0, 0) := rfl
theorem f152_10 : amFetch 152 10 = some (.goto 7, 3, 0, 0, 0) := rfl
theorem f152_13 : amFetch 152 13 = some (.astore 4, 2, 0, 0, 0) := rfl
theorem f152_15 : amFetch 152 15 = some (.iconst 1, 1, 0, 0, 0) := rfl
theorem f152_16 : amFetch 152 16 = some (.ireturn, 1, 0, 0, 0) := rfl
theorem f152_17 : amFetch 152 17 = some (.iconst 0, 1, 0, 0, 0) := rfl
theorem f152_18 : amFetch 152 18 = some (.ireturn, 1, 0, 0, 0) := rfl
theorem ow152 : amOwnL 152 = some (5, 5) := rfl
-- L_longestCluster
theorem f153_0 : amFetch 153 0 = some (.aload_n 2, 1, 0, 0, 0) := rfl
theorem f153_1 : amFetch 153 1 = some (.iconst 0, 1, 0, 0, 0) := rfl
theorem f153_2 : amFetch 153 2 = some (.aload_n 0, 1, 0, 0, 0) := rfl
theorem f153_3 : amFetch 153 3 = some (.iload_n 1, 1, 0, 0, 0) := rfl
theorem f153_4 : amFetch 153 4 = some (.invokevirtual 104, 3, 0, 66, 1) := rfl
theorem f153_7 : amFetch 153 7 = some (.i2l, 1, 0, 0, 0) := rfl
theorem f153_8 : amFetch 153 8 = some (.lastore, 1, 0, 0, 0) := rfl
theorem f153_9 : amFetch 153 9 = some (.goto 6, 3, 0, 0, 0) := rfl
theorem f153_12 : amFetch 153 12 = some (.astore_n 3, 1, 0, 0, 0) := rfl
theorem f153_13 : amFetch 153 13 = some (.iconst 1, 1, 0, 0, 0) := rfl
theorem f153_14 : amFetch 153 14 = some (.ireturn, 1, 0, 0, 0) := rfl
theorem f153_15 : amFetch 153 15 = some (.iconst 0, 1, 0, 0, 0) := rfl
theorem f153_16 : amFetch 153 16 = some (.ireturn, 1, 0, 0, 0) := rfl
theorem ow153 : amOwnL 153 = some (5, 4) := rfl
end
section
/-! runs of the abstract machine, backwards: a rule an instruction; by hand -/
theorem amBack_more {rec rec' : amRec} (ih : ∀ M pc ls st hs c s o, rec M pc ls st hs c s = some o → rec' M pc ls st hs c s = some o) {M : Nat} {x : amRes} {pc : Nat} {ls : amL} {rest : List Value} {c s : Nat} {q : Option amOut} {o : amOut} (h : amBack rec M x pc ls rest c s q = some o) : amBack rec' M x pc ls rest c s q = some o := by
  cases q with
  | none => simp [amBack] at h
  | some o1 =>
    obtain ⟨res, hs1, dc, ds⟩ := o1
    cases res with
    | inl v =>
      simp only [amBack] at h ⊢
      exact ih _ _ _ _ _ _ _ _ h
    | inr E =>
      simp only [amBack] at h ⊢
      by_cases hk : x.1 = 2 ∨ x.1 = 3
      · rw [if_pos hk] at h; cases h
      · rw [if_neg hk] at h ⊢
        cases hh : amHand M pc E with
        | none =>
          rw [hh] at h
          exact h
        | some hp =>
          rw [hh] at h
          dsimp only at h ⊢
          cases hf : amFetch M hp with
          | none => rw [hf] at h; cases h
          | some w =>
            rw [hf] at h
            obtain ⟨i, len, y⟩ := w
            cases i <;> first | (exact ih _ _ _ _ _ _ _ _ h) | (cases h)
theorem amCall_more {rec rec' : amRec} (ih : ∀ M pc ls st hs c s o, rec M pc ls st hs c s = some o → rec' M pc ls st hs c s = some o) {M : Nat} {x : amRes} {pc : Nat} {ls : amL} {st : List Value} {hs : amH} {c s : Nat} {o : amOut} (h : amCall rec M x pc ls st hs c s = some o) : amCall rec' M x pc ls st hs c s = some o := by
  unfold amCall at h ⊢
  cases ho : amOwnL x.2.1 with
  | none => rw [ho] at h; cases h
  | some w =>
    obtain ⟨own, mL⟩ := w
    rw [ho] at h
    dsimp only at h ⊢
    cases ha : amArgs x st hs own with
    | none => rw [ha] at h; cases h
    | some w =>
      obtain ⟨as, rest⟩ := w
      rw [ha] at h
      dsimp only at h ⊢
      by_cases hle : as.length ≤ mL
      · rw [if_pos hle] at h ⊢
        cases hq : rec x.2.1 0 (amEntry as mL) [] hs 0 0 with
        | none => rw [hq] at h; simp [amBack] at h
        | some o1 =>
          rw [hq] at h
          rw [ih _ _ _ _ _ _ _ _ hq]
          exact amBack_more ih h
      · rw [if_neg hle] at h
        cases h
theorem amMore_more {rec rec' : amRec} (ih : ∀ M pc ls st hs c s o, rec M pc ls st hs c s = some o → rec' M pc ls st hs c s = some o) {M : Nat} {i : Instr} {x : amRes} {pc : Nat} {ls : amL} {st : List Value} {hs : amH} {c s : Nat} {o : amOut} (h : amMore rec M i x pc ls st hs c s = some o) : amMore rec' M i x pc ls st hs c s = some o := by
  unfold amMore at h ⊢
  split at h
  · exact h
  · exact h
  · exact h
  · try dsimp only
    split at h
    · rename_i hk
      rw [if_pos hk]
      exact h
    · rename_i hk
      rw [if_neg hk]
      exact ih _ _ _ _ _ _ _ _ h
  · try dsimp only
    split at h
    · split at h
      · rename_i hk
        try dsimp only
        rw [if_pos hk]
        split at h
        · exact ih _ _ _ _ _ _ _ _ h
        · exact ih _ _ _ _ _ _ _ _ h
        · exact ih _ _ _ _ _ _ _ _ h
        · cases h
      · cases h
    · cases h
  · try dsimp only
    split at h
    · split at h
      · rename_i hk
        try dsimp only
        rw [if_pos hk]
        exact ih _ _ _ _ _ _ _ _ h
      · cases h
    · cases h
  · try dsimp only
    split at h
    · rename_i hk
      rw [if_pos hk]
      exact amCall_more ih h
    · cases h
  · try dsimp only
    split at h
    · rename_i hk
      rw [if_pos hk]
      exact amCall_more ih h
    · cases h
  · try dsimp only
    split at h
    · rename_i hk
      rw [if_pos hk]
      exact amCall_more ih h
    · cases h
  · cases h
theorem amRun_succ : ∀ (n : Nat) (M pc : Nat) (ls : amL) (st : List Value) (hs : amH) (c s : Nat) (o : amOut), amRun n M pc ls st hs c s = some o → amRun (n + 1) M pc ls st hs c s = some o
  | 0, _, _, _, _, _, _, _, _, h => by simp [amRun] at h
  | n + 1, M, pc, ls, st, hs, c, s, o, h => by
    simp only [amRun] at h ⊢
    cases hf : amFetch M pc with
    | none => rw [hf] at h; cases h
    | some w =>
      obtain ⟨i, len, x⟩ := w
      rw [hf] at h
      dsimp only at h ⊢
      cases hs2 : amStep i x pc ls st hs with
      | none =>
        rw [hs2] at h
        exact amMore_more (amRun_succ n) h
      | some q =>
        obtain ⟨pc', ls', st', hs'⟩ := q
        rw [hs2] at h
        exact amRun_succ n _ _ _ _ _ _ _ _ h
theorem amRun_le {n m : Nat} (hnm : n ≤ m) {M pc : Nat} {ls : amL} {st : List Value} {hs : amH} {c s : Nat} {o : amOut} (h : amRun n M pc ls st hs c s = some o) : amRun m M pc ls st hs c s = some o := by
  induction hnm with
  | refl => exact h
  | step _ ih => exact amRun_succ _ _ _ _ _ _ _ _ _ ih
def Ev (M pc : Nat) (ls : amL) (st : List Value) (hs : amH) (c s : Nat) (o : amOut) : Prop := ∃ n, amRun n M pc ls st hs c s = some o
def Ca (M : Nat) (as : List Value) (hs : amH) (o : amOut) : Prop := ∃ own mL, amOwnL M = some (own, mL) ∧ as.length ≤ mL ∧ Ev M 0 (amEntry as mL) [] hs 0 0 o
/-- a call that returns and makes nothing -/
def Cr (M : Nat) (as : List Value) (hs : amH) (v : Option Value) (hs' : amH) : Prop := Ca M as hs (.inl v, hs', 0, 0)
theorem ca_mk {M own mL : Nat} {as : List Value} {hs : amH} {o : amOut} (ho : amOwnL M = some (own, mL)) (hl : as.length ≤ mL) (h : Ev M 0 (amEntry as mL) [] hs 0 0 o) : Ca M as hs o := ⟨own, mL, ho, hl, h⟩
section EV
variable {M pc len : Nat} {ls : amL} {st : List Value} {hs : amH} {c s : Nat} {o : amOut} {x : amRes}
theorem ev_s {i : Instr} {pc' : Nat} {ls' : amL} {st' : List Value} {hs' : amH} (hf : amFetch M pc = some (i, len, x)) (h : amStep i x pc ls st hs = some (pc', ls', st', hs')) (k : Ev M pc' ls' st' hs' c s o) : Ev M pc ls st hs c s o := by
  obtain ⟨n, hn⟩ := k
  refine ⟨n + 1, ?_⟩
  simp only [amRun, hf, h]
  exact hn
theorem ev_m {i : Instr} (hf : amFetch M pc = some (i, len, x)) (h0 : amStep i x pc ls st hs = none) (h : ∃ n, amMore (amRun n) M i x pc ls st hs c s = some o) : Ev M pc ls st hs c s o := by
  obtain ⟨n, hn⟩ := h
  refine ⟨n + 1, ?_⟩
  simp only [amRun, hf, h0]
  exact hn
theorem ev_iconst {n : Int} (hf : amFetch M pc = some (.iconst n, len, x)) (k : Ev M (pc + 1) ls (.int (Int32.ofInt n) :: st) hs c s o) : Ev M pc ls st hs c s o := ev_s hf rfl k
theorem ev_iconstN {n : Nat} (hf : amFetch M pc = some (.iconst (Int.ofNat n), len, x)) (k : Ev M (pc + 1) ls (.int (nI n) :: st) hs c s o) : Ev M pc ls st hs c s o := ev_s hf rfl k
theorem ev_bipushN {n : Nat} (hn : n < 128) (hf : amFetch M pc = some (.bipush (Int.ofNat n), len, x)) (k : Ev M (pc + 2) ls (.int (nI n) :: st) hs c s o) : Ev M pc ls st hs c s o := by
  refine ev_s hf (by simp only [amStep]; rfl) ?_
  have e : (Int8.ofInt (Int.ofNat n)).toInt32 = nI n := by
    have : ∀ m, m < 128 → (Int8.ofInt (Int.ofNat m)).toInt32 = nI m := by decide +kernel
    exact this n hn
  rw [e]
  exact k
theorem ev_sipushN {n : Nat} {i : Int} (he : (Int16.ofInt i).toInt32 = nI n) (hf : amFetch M pc = some (.sipush i, len, x)) (k : Ev M (pc + 3) ls (.int (nI n) :: st) hs c s o) : Ev M pc ls st hs c s o := by
  refine ev_s hf (by simp only [amStep]; rfl) ?_
  rw [he]
  exact k
theorem ev_lconst {n : Fin 2} (hf : amFetch M pc = some (.lconst n, len, x)) (k : Ev M (pc + 1) ls (.long (Int64.ofNat (n : Nat)) :: st) hs c s o) : Ev M pc ls st hs c s o := ev_s hf rfl k
theorem ev_ldc {n : Nat} (hx : x.2.2 = -1640531527) (hf : amFetch M pc = some (.ldc n, len, x)) (k : Ev M (pc + 2) ls (.int (-1640531527) :: st) hs c s o) : Ev M pc ls st hs c s o := by
  refine ev_s hf (by simp only [amStep]; rw [if_pos hx, hx]) ?_
  exact k
theorem ev_iload {n : Nat} {v : Int32} (hf : amFetch M pc = some (.iload n, len, x)) (hl : ls[n]? = some (some (.int v))) (k : Ev M (pc + 2) ls (.int v :: st) hs c s o) : Ev M pc ls st hs c s o := ev_s hf (by simp only [amStep]; rw [hl]) k
theorem ev_iload_n {n : Fin 4} {v : Int32} (hf : amFetch M pc = some (.iload_n n, len, x)) (hl : ls[(n : Nat)]? = some (some (.int v))) (k : Ev M (pc + 1) ls (.int v :: st) hs c s o) : Ev M pc ls st hs c s o := ev_s hf (by simp only [amStep]; rw [hl]) k
theorem ev_aload {n : Nat} {v : Nat} (hf : amFetch M pc = some (.aload n, len, x)) (hl : ls[n]? = some (some (.ref v))) (k : Ev M (pc + 2) ls (.ref v :: st) hs c s o) : Ev M pc ls st hs c s o := ev_s hf (by simp only [amStep]; rw [hl]) k
theorem ev_aload_n {n : Fin 4} {v : Nat} (hf : amFetch M pc = some (.aload_n n, len, x)) (hl : ls[(n : Nat)]? = some (some (.ref v))) (k : Ev M (pc + 1) ls (.ref v :: st) hs c s o) : Ev M pc ls st hs c s o := ev_s hf (by simp only [amStep]; rw [hl]) k
theorem ev_istore {n : Nat} {v : Int32} (hf : amFetch M pc = some (.istore n, len, x)) (k : Ev M (pc + 2) (ls.set n (some (.int v))) st hs c s o) : Ev M pc ls (.int v :: st) hs c s o := ev_s hf rfl k
theorem ev_istore_n {n : Fin 4} {v : Int32} (hf : amFetch M pc = some (.istore_n n, len, x)) (k : Ev M (pc + 1) (ls.set (n : Nat) (some (.int v))) st hs c s o) : Ev M pc ls (.int v :: st) hs c s o := ev_s hf rfl k
theorem ev_astore {n : Nat} {v : Nat} (hf : amFetch M pc = some (.astore n, len, x)) (k : Ev M (pc + 2) (ls.set n (some (.ref v))) st hs c s o) : Ev M pc ls (.ref v :: st) hs c s o := ev_s hf rfl k
theorem ev_astore_n {n : Fin 4} {v : Nat} (hf : amFetch M pc = some (.astore_n n, len, x)) (k : Ev M (pc + 1) (ls.set (n : Nat) (some (.ref v))) st hs c s o) : Ev M pc ls (.ref v :: st) hs c s o := ev_s hf rfl k
theorem ev_iinc {n : Nat} {d : Int} {v : Int32} (hf : amFetch M pc = some (.iinc n d, len, x)) (hl : ls[n]? = some (some (.int v))) (k : Ev M (pc + 3) (ls.set n (some (.int (v + Int32.ofInt d)))) st hs c s o) : Ev M pc ls st hs c s o := ev_s hf (by simp only [amStep]; rw [hl]) k
theorem ev_iincN {n d v : Nat} (hf : amFetch M pc = some (.iinc n (Int.ofNat d), len, x)) (hl : ls[n]? = some (some (.int (nI v)))) (k : Ev M (pc + 3) (ls.set n (some (.int (nI (v + d))))) st hs c s o) : Ev M pc ls st hs c s o := by
  refine ev_iinc hf hl ?_
  rw [show nI v + Int32.ofInt (Int.ofNat d) = nI (v + d) from nI_add v d]
  exact k
theorem ev_iadd {a b : Int32} (hf : amFetch M pc = some (.iadd, len, x)) (k : Ev M (pc + 1) ls (.int (a + b) :: st) hs c s o) : Ev M pc ls (.int b :: .int a :: st) hs c s o := ev_s hf rfl k
theorem ev_iaddN {a b : Nat} (hf : amFetch M pc = some (.iadd, len, x)) (k : Ev M (pc + 1) ls (.int (nI (a + b)) :: st) hs c s o) : Ev M pc ls (.int (nI b) :: .int (nI a) :: st) hs c s o := ev_iadd hf (by rw [nI_add]; exact k)
theorem ev_isub {a b : Int32} (hf : amFetch M pc = some (.isub, len, x)) (k : Ev M (pc + 1) ls (.int (a - b) :: st) hs c s o) : Ev M pc ls (.int b :: .int a :: st) hs c s o := ev_s hf rfl k
theorem ev_isubN {a b : Nat} (h : b ≤ a) (hf : amFetch M pc = some (.isub, len, x)) (k : Ev M (pc + 1) ls (.int (nI (a - b)) :: st) hs c s o) : Ev M pc ls (.int (nI b) :: .int (nI a) :: st) hs c s o := ev_isub hf (by rw [pk_sub h]; exact k)
theorem ev_imul {a b : Int32} (hf : amFetch M pc = some (.imul, len, x)) (k : Ev M (pc + 1) ls (.int (a * b) :: st) hs c s o) : Ev M pc ls (.int b :: .int a :: st) hs c s o := ev_s hf rfl k
theorem ev_imulN {a b : Nat} (hf : amFetch M pc = some (.imul, len, x)) (k : Ev M (pc + 1) ls (.int (nI (a * b)) :: st) hs c s o) : Ev M pc ls (.int (nI b) :: .int (nI a) :: st) hs c s o := ev_imul hf (by rw [pk_mul]; exact k)
theorem ev_iand {a b : Int32} (hf : amFetch M pc = some (.iand, len, x)) (k : Ev M (pc + 1) ls (.int (a &&& b) :: st) hs c s o) : Ev M pc ls (.int b :: .int a :: st) hs c s o := ev_s hf rfl k
theorem ev_ior {a b : Int32} (hf : amFetch M pc = some (.ior, len, x)) (k : Ev M (pc + 1) ls (.int (a ||| b) :: st) hs c s o) : Ev M pc ls (.int b :: .int a :: st) hs c s o := ev_s hf rfl k
theorem ev_idivN {a b : Nat} (ha : a < 2 ^ 31) (h0 : 0 < b) (hb : b < 2 ^ 31) (hf : amFetch M pc = some (.idiv, len, x)) (k : Ev M (pc + 1) ls (.int (nI (a / b)) :: st) hs c s o) : Ev M pc ls (.int (nI b) :: .int (nI a) :: st) hs c s o := by
  refine ev_s hf (by simp only [amStep]; rw [if_neg (nI_ne0 h0 hb)]) ?_
  rw [pk_div ha h0 hb]
  exact k
theorem ev_iremN {a b : Nat} (ha : a < 2 ^ 31) (h0 : 0 < b) (hb : b < 2 ^ 31) (hf : amFetch M pc = some (.irem, len, x)) (k : Ev M (pc + 1) ls (.int (nI (a % b)) :: st) hs c s o) : Ev M pc ls (.int (nI b) :: .int (nI a) :: st) hs c s o := by
  refine ev_s hf (by simp only [amStep]; rw [if_neg (nI_ne0 h0 hb)]) ?_
  rw [pk_rem ha h0 hb]
  exact k
theorem ev_ishl {a b : Int32} (hf : amFetch M pc = some (.ishl, len, x)) (k : Ev M (pc + 1) ls (.int (a <<< (b &&& 31)) :: st) hs c s o) : Ev M pc ls (.int b :: .int a :: st) hs c s o := ev_s hf rfl k
theorem ev_ishr {a b : Int32} (hf : amFetch M pc = some (.ishr, len, x)) (k : Ev M (pc + 1) ls (.int (a >>> (b &&& 31)) :: st) hs c s o) : Ev M pc ls (.int b :: .int a :: st) hs c s o := ev_s hf rfl k
theorem ev_iushr {a b : Int32} (hf : amFetch M pc = some (.iushr, len, x)) (k : Ev M (pc + 1) ls (.int (a.toUInt32 >>> (b.toUInt32 &&& Int32.toUInt32 31)).toInt32 :: st) hs c s o) : Ev M pc ls (.int b :: .int a :: st) hs c s o := ev_s hf rfl k
theorem ev_i2l {a : Int32} (hf : amFetch M pc = some (.i2l, len, x)) (k : Ev M (pc + 1) ls (.long a.toInt64 :: st) hs c s o) : Ev M pc ls (.int a :: st) hs c s o := ev_s hf rfl k
theorem ev_lcmp {a b : Int64} (hf : amFetch M pc = some (.lcmp, len, x)) (k : Ev M (pc + 1) ls (.int (lg_cmp a b) :: st) hs c s o) : Ev M pc ls (.long b :: .long a :: st) hs c s o := ev_s hf rfl k
theorem ev_dup {v : Value} (hf : amFetch M pc = some (.dup, len, x)) (hv : v.category = 1) (k : Ev M (pc + 1) ls (v :: v :: st) hs c s o) : Ev M pc ls (v :: st) hs c s o := ev_s hf (by simp only [amStep]; rw [if_pos hv]) k
theorem ev_dup2 {v w : Value} (hf : amFetch M pc = some (.dup2, len, x)) (hv : v.category = 1) (hw : w.category = 1) (k : Ev M (pc + 1) ls (v :: w :: v :: w :: st) hs c s o) : Ev M pc ls (v :: w :: st) hs c s o := ev_s hf (by simp only [amStep]; rw [if_pos ⟨hv, hw⟩]) k
theorem ev_goto {off : Int} {tgt : Nat} (hf : amFetch M pc = some (.goto off, len, x)) (ht : amTgt pc off = tgt) (k : Ev M tgt ls st hs c s o) : Ev M pc ls st hs c s o := ev_s hf rfl (by rw [ht]; exact k)
def ak0 (cd : ClassFile.Cond) (v : Int32) : Prop := match cd with
  | .eq => v = 0
  | .ne => ¬ v = 0
  | .lt => v < 0
  | .ge => 0 ≤ v
  | .gt => 0 < v
  | .le => v ≤ 0
def ak2 (cd : ClassFile.Cond) (a b : Int32) : Prop := match cd with
  | .eq => a = b
  | .ne => ¬ a = b
  | .lt => a < b
  | .ge => b ≤ a
  | .gt => b < a
  | .le => a ≤ b
theorem ev_if {cd : ClassFile.Cond} {off : Int} {tgt : Nat} {v : Int32} (hf : amFetch M pc = some (.ifCond cd off, len, x)) (ht : amTgt pc off = tgt) (kt : ak0 cd v → Ev M tgt ls st hs c s o) (kf : ¬ ak0 cd v → Ev M (pc + 3) ls st hs c s o) : Ev M pc ls (.int v :: st) hs c s o := by
  refine ev_s hf rfl ?_
  rw [ht]
  cases cd <;> simp only [amIf0, ak0] at * <;> split <;> simp_all
theorem ev_ic {cd : ClassFile.Cond} {off : Int} {tgt : Nat} {a b : Int32} (hf : amFetch M pc = some (.if_icmp cd off, len, x)) (ht : amTgt pc off = tgt) (kt : ak2 cd a b → Ev M tgt ls st hs c s o) (kf : ¬ ak2 cd a b → Ev M (pc + 3) ls st hs c s o) : Ev M pc ls (.int b :: .int a :: st) hs c s o := by
  refine ev_s hf rfl ?_
  rw [ht]
  cases cd <;> simp only [amIf2, ak2] at * <;> split <;> simp_all
theorem ev_getf {k a ci f : Nat} {z : Int} {fs : List Value} {v : Value} (hf : amFetch M pc = some (.getfield k, len, (ci, f, z))) (hc : hs[a]? = some (.inr (ci, fs))) (hv : fs[f]? = some v) (kk : Ev M (pc + 3) ls (v :: st) hs c s o) : Ev M pc ls (.ref a :: st) hs c s o := ev_s hf (by simp only [amStep, hc, hv, if_true]) kk
theorem ev_putf {k a ci f : Nat} {z : Int} {fs : List Value} {v : Value} (hf : amFetch M pc = some (.putfield k, len, (ci, f, z))) (hc : hs[a]? = some (.inr (ci, fs))) (hfit : amFits (amTy ci f) v = true) (hl : f < fs.length) (kk : Ev M (pc + 3) ls st (hs.set a (.inr (ci, fs.set f v))) c s o) : Ev M pc ls (v :: .ref a :: st) hs c s o := ev_s hf (by simp only [amStep, hc]; rw [if_pos ⟨trivial, hfit, hl⟩]) kk
theorem ev_alen {a n : Nat} {ty : FieldType} {f : (Nat → Int32) ⊕ (Nat → Int64) ⊕ (Nat → Option Nat)} (hf : amFetch M pc = some (.arraylength, len, x)) (hc : hs[a]? = some (.inl (ty, n, f))) (kk : Ev M (pc + 1) ls (.int (nI n) :: st) hs c s o) : Ev M pc ls (.ref a :: st) hs c s o := ev_s hf (by simp only [amStep, hc]; rfl) kk
theorem am_inN {j n : Nat} (h : j < n) (hn : n < 2 ^ 31) : amIn (nI j) n = true := by
  unfold amIn
  rw [nI_clamp (by omega)]
  simp [nI_pos (n := j) (by omega), h]
theorem ev_iald {a n j : Nat} {f : Nat → Int32} (hf : amFetch M pc = some (.iaload, len, x)) (hc : hs[a]? = some (.inl (.int, n, .inl f))) (hj : j < n) (hn : n < 2 ^ 31) (kk : Ev M (pc + 1) ls (.int (f j) :: st) hs c s o) : Ev M pc ls (.int (nI j) :: .ref a :: st) hs c s o := by
  refine ev_s hf (by simp only [amStep, hc]; rw [if_pos (am_inN hj hn)]) ?_
  rw [nI_clamp (by omega)]
  exact kk
theorem ev_bald {a n j : Nat} {f : Nat → Int32} (hf : amFetch M pc = some (.baload, len, x)) (hc : hs[a]? = some (.inl (.boolean, n, .inl f))) (hj : j < n) (hn : n < 2 ^ 31) (kk : Ev M (pc + 1) ls (.int (f j) :: st) hs c s o) : Ev M pc ls (.int (nI j) :: .ref a :: st) hs c s o := by
  refine ev_s hf (by simp only [amStep, hc]; rw [if_pos (am_inN hj hn)]) ?_
  rw [nI_clamp (by omega)]
  exact kk
theorem ev_lald {a n j : Nat} {f : Nat → Int64} (hf : amFetch M pc = some (.laload, len, x)) (hc : hs[a]? = some (.inl (.long, n, .inr (.inl f)))) (hj : j < n) (hn : n < 2 ^ 31) (kk : Ev M (pc + 1) ls (.long (f j) :: st) hs c s o) : Ev M pc ls (.int (nI j) :: .ref a :: st) hs c s o := by
  refine ev_s hf (by simp only [amStep, hc]; rw [if_pos (am_inN hj hn)]) ?_
  rw [nI_clamp (by omega)]
  exact kk
theorem ev_aald {a n j q : Nat} {C : String} {f : Nat → Option Nat} (hf : amFetch M pc = some (.aaload, len, x)) (hc : hs[a]? = some (.inl (.object C, n, .inr (.inr f)))) (hj : j < n) (hn : n < 2 ^ 31) (hq : f j = some q) (kk : Ev M (pc + 1) ls (.ref q :: st) hs c s o) : Ev M pc ls (.int (nI j) :: .ref a :: st) hs c s o := by
  refine ev_s hf (by simp only [amStep, hc]; rw [if_pos (am_inN hj hn), nI_clamp (by omega), hq]) ?_
  exact kk
theorem ev_iast {a n j : Nat} {f : Nat → Int32} {v : Int32} (hf : amFetch M pc = some (.iastore, len, x)) (hc : hs[a]? = some (.inl (.int, n, .inl f))) (hj : j < n) (hn : n < 2 ^ 31) (h0 : ¬ a = 0) (kk : Ev M (pc + 1) ls st (hs.set a (.inl (.int, n, .inl (upd f j v)))) c s o) : Ev M pc ls (.int v :: .int (nI j) :: .ref a :: st) hs c s o := by
  refine ev_s hf (by simp only [amStep, hc]; rw [if_pos ⟨am_inN hj hn, h0⟩]) ?_
  rw [nI_clamp (by omega)]
  exact kk
theorem ev_bast {a n j : Nat} {f : Nat → Int32} {v : Int32} (hf : amFetch M pc = some (.bastore, len, x)) (hc : hs[a]? = some (.inl (.boolean, n, .inl f))) (hj : j < n) (hn : n < 2 ^ 31) (h0 : ¬ a = 0) (kk : Ev M (pc + 1) ls st (hs.set a (.inl (.boolean, n, .inl (upd f j (vp_nar .boolean v))))) c s o) : Ev M pc ls (.int v :: .int (nI j) :: .ref a :: st) hs c s o := by
  refine ev_s hf (by simp only [amStep, hc]; rw [if_pos ⟨am_inN hj hn, h0⟩]) ?_
  rw [nI_clamp (by omega)]
  exact kk
theorem ev_last {a n j : Nat} {f : Nat → Int64} {v : Int64} (hf : amFetch M pc = some (.lastore, len, x)) (hc : hs[a]? = some (.inl (.long, n, .inr (.inl f)))) (hj : j < n) (hn : n < 2 ^ 31) (h0 : ¬ a = 0) (kk : Ev M (pc + 1) ls st (hs.set a (.inl (.long, n, .inr (.inl (vp_updL f j v))))) c s o) : Ev M pc ls (.long v :: .int (nI j) :: .ref a :: st) hs c s o := by
  refine ev_s hf (by simp only [amStep, hc]; rw [if_pos ⟨am_inN hj hn, h0⟩]) ?_
  rw [nI_clamp (by omega)]
  exact kk
theorem ev_max {k f : Nat} {z : Int} {a b : Int32} (hf : amFetch M pc = some (.invokestatic k, len, (4, f, z))) (hsum : amSum st ≤ 8) (kk : Ev M (pc + 3) ls (.int (if a < b then b else a) :: st) hs c s o) : Ev M pc ls (.int b :: .int a :: st) hs c s o := ev_s hf (by simp only [amStep]; rw [if_pos hsum, if_pos trivial]) kk
theorem ev_min {k f : Nat} {z : Int} {a b : Int32} (hf : amFetch M pc = some (.invokestatic k, len, (5, f, z))) (hsum : amSum st ≤ 8) (kk : Ev M (pc + 3) ls (.int (if b < a then b else a) :: st) hs c s o) : Ev M pc ls (.int b :: .int a :: st) hs c s o := ev_s hf (by simp only [amStep]; rw [if_pos hsum, if_neg (by decide), if_pos trivial]) kk
theorem ev_maxN {k f : Nat} {z : Int} {a b : Nat} (ha : a < 2 ^ 31) (hb : b < 2 ^ 31) (hf : amFetch M pc = some (.invokestatic k, len, (4, f, z))) (hsum : amSum st ≤ 8) (kk : Ev M (pc + 3) ls (.int (nI (max a b)) :: st) hs c s o) : Ev M pc ls (.int (nI b) :: .int (nI a) :: st) hs c s o := by
  refine ev_max hf hsum ?_
  by_cases h : a < b
  · rw [if_pos ((nI_ltI ha hb).mpr h)]; rw [show max a b = b by omega] at kk; exact kk
  · rw [if_neg (fun q => h ((nI_ltI ha hb).mp q))]; rw [show max a b = a by omega] at kk; exact kk
theorem ev_minN {k f : Nat} {z : Int} {a b : Nat} (ha : a < 2 ^ 31) (hb : b < 2 ^ 31) (hf : amFetch M pc = some (.invokestatic k, len, (5, f, z))) (hsum : amSum st ≤ 8) (kk : Ev M (pc + 3) ls (.int (nI (min a b)) :: st) hs c s o) : Ev M pc ls (.int (nI b) :: .int (nI a) :: st) hs c s o := by
  refine ev_min hf hsum ?_
  by_cases h : b < a
  · rw [if_pos ((nI_ltI hb ha).mpr h)]; rw [show min a b = b by omega] at kk; exact kk
  · rw [if_neg (fun q => h ((nI_ltI hb ha).mp q))]; rw [show min a b = a by omega] at kk; exact kk
theorem ev_iret {v : Int32} (hf : amFetch M pc = some (.ireturn, len, x)) (hr : amRetOk M v = true) (ho : o = (.inl (some (.int v)), hs, c, s)) : Ev M pc ls [.int v] hs c s o := ev_m hf rfl ⟨0, by subst ho; simp only [amMore]; rw [if_pos hr]⟩
theorem ev_aret {v : Nat} (hf : amFetch M pc = some (.areturn, len, x)) (ho : o = (.inl (some (.ref v)), hs, c, s)) : Ev M pc ls [.ref v] hs c s o := ev_m hf rfl ⟨0, by subst ho; rfl⟩
theorem ev_vret (hf : amFetch M pc = some (.return_, len, x)) (ho : o = (.inl none, hs, c, s)) : Ev M pc ls [] hs c s o := ev_m hf rfl ⟨0, by subst ho; rfl⟩
theorem ev_throw {k E : Nat} {z : Int} (hf : amFetch M pc = some (.new k, len, (1, E, z))) (hsum : amSum st ≤ 8) (ho : o = (.inr E, hs, c + 1, s + 6)) : Ev M pc ls st hs c s o := ev_m hf rfl ⟨0, by subst ho; simp only [amMore]; rw [if_pos trivial, if_pos hsum]⟩
/-- a call, in general -/
theorem ev_call {i : Instr} {tg own mL : Nat} {as rest : List Value} {o1 : amOut} (hf : amFetch M pc = some (i, len, x)) (h0 : amStep i x pc ls st hs = none) (hm : ∀ n, amMore (amRun n) M i x pc ls st hs c s = amCall (amRun n) M x pc ls st hs c s) (htg : x.2.1 = tg) (ho : amOwnL tg = some (own, mL)) (ha : amArgs x st hs own = some (as, rest)) (hc : Ca tg as hs o1) (hk : ∃ n, amBack (amRun n) M x pc ls rest c s (some o1) = some o) : Ev M pc ls st hs c s o := by
  subst htg
  obtain ⟨own2, mL2, h1, hlen, n1, hn1⟩ := hc
  rw [ho] at h1
  cases h1
  obtain ⟨n2, hn2⟩ := hk
  refine ev_m hf h0 ⟨max n1 n2, ?_⟩
  rw [hm]
  unfold amCall
  rw [ho]
  dsimp only
  rw [ha]
  dsimp only
  rw [if_pos hlen, amRun_le (Nat.le_max_left n1 n2) hn1]
  exact amBack_more (fun _ _ _ _ _ _ _ _ h => amRun_le (Nat.le_max_right n1 n2) h) hn2
theorem am_argsV {x : amRes} {st as2 rest : List Value} {hs : amH} {a own : Nat} {fs : List Value} (hx : x.1 = 0 ∨ x.1 = 3) (hst : st = as2.reverse ++ .ref a :: rest) (hn : x.2.2.toNat = as2.length) (hc : hs[a]? = some (.inr (own, fs))) (hcat : ∀ v ∈ as2, v.category = 1) (hsum : amSum rest ≤ 8) : amArgs x st hs own = some (.ref a :: as2, rest) := by
  unfold amArgs
  dsimp only
  rw [if_pos hx, hn]
  have e1 : st.take (as2.length + 1) = as2.reverse ++ [.ref a] := by
    rw [hst, show as2.reverse ++ Value.ref a :: rest = (as2.reverse ++ [.ref a]) ++ rest by simp, List.take_left' (by simp)]
  have e2 : st.drop (as2.length + 1) = rest := by
    rw [hst, show as2.reverse ++ Value.ref a :: rest = (as2.reverse ++ [.ref a]) ++ rest by simp, List.drop_left' (by simp)]
  have e3 : (as2.reverse ++ [Value.ref a]).reverse = .ref a :: as2 := by simp
  rw [e1, e2, e3, if_pos]
  refine ⟨rfl, ?_, hsum, fun _ => ?_⟩
  · rw [List.all_eq_true]
    intro v hv
    rcases List.mem_cons.mp hv with rfl | hv
    · rfl
    · exact decide_eq_true (hcat v hv)
  · simp [amThis, hc]
theorem am_argsS {x : amRes} {st as rest : List Value} {hs : amH} {own : Nat} (hx : ¬ (x.1 = 0 ∨ x.1 = 3)) (hst : st = as.reverse ++ rest) (hn : x.2.2.toNat = as.length) (hcat : ∀ v ∈ as, v.category = 1) (hsum : amSum rest ≤ 8) : amArgs x st hs own = some (as, rest) := by
  unfold amArgs
  dsimp only
  rw [if_neg hx, hn]
  have e1 : st.take as.length = as.reverse := by
    rw [hst, List.take_left' (by simp)]
  have e2 : st.drop as.length = rest := by
    rw [hst, List.drop_left' (by simp)]
  rw [e1, e2, List.reverse_reverse, if_pos]
  refine ⟨rfl, ?_, hsum, fun h => absurd h hx⟩
  rw [List.all_eq_true]
  intro v hv
  exact decide_eq_true (hcat v hv)
/-- a virtual call that returns -/
theorem ev_vc (as2 : List Value) {k tg own mL a dc ds : Nat} {na : Int} {rest fs : List Value} {v : Option Value} {hs' : amH} (hf : amFetch M pc = some (.invokevirtual k, len, (0, tg, na))) (ho : amOwnL tg = some (own, mL)) (hst : st = as2.reverse ++ .ref a :: rest) (hn : na.toNat = as2.length) (hcell : hs[a]? = some (.inr (own, fs))) (hcat : ∀ v ∈ as2, v.category = 1) (hsum : amSum rest ≤ 8) (hc : Ca tg (.ref a :: as2) hs (.inl v, hs', dc, ds)) (kk : Ev M (pc + 3) ls (v.toList ++ rest) hs' (c + dc) (s + ds) o) : Ev M pc ls st hs c s o := by
  obtain ⟨n, hn2⟩ := kk
  exact ev_call (x := (0, tg, na)) hf rfl (fun n => by simp only [amMore, if_true]) rfl ho (am_argsV (Or.inl rfl) hst hn hcell hcat hsum) hc ⟨n, by simp only [amBack]; exact hn2⟩
/-- a constructor's call -/
theorem ev_ci {k tg own mL a dc ds : Nat} {rest fs : List Value} {hs' : amH} (hf : amFetch M pc = some (.invokespecial k, len, (3, tg, 0))) (ho : amOwnL tg = some (own, mL)) (hst : st = .ref a :: rest) (hcell : hs[a]? = some (.inr (own, fs))) (hsum : amSum rest ≤ 8) (hc : Ca tg [.ref a] hs (.inl none, hs', dc, ds)) (kk : Ev M (pc + 3) ls rest hs' (c + dc) (s + ds) o) : Ev M pc ls st hs c s o := by
  obtain ⟨n, hn2⟩ := kk
  subst hst
  exact ev_call (x := (3, tg, 0)) hf (by simp [amStep]) (fun n => by simp only [amMore, if_true]) rfl ho (am_argsV (as2 := []) (Or.inr rfl) rfl rfl hcell (fun v hv => absurd hv List.not_mem_nil) hsum) hc ⟨n, by simp only [amBack]; exact hn2⟩
/-- a static call that returns -/
theorem ev_sc (as : List Value) {k kd tg own mL dc ds : Nat} {na : Int} {rest : List Value} {v : Option Value} {hs' : amH} (hf : amFetch M pc = some (.invokestatic k, len, (kd, tg, na))) (hkd : kd = 1 ∨ kd = 2) (ho : amOwnL tg = some (own, mL)) (hst : st = as.reverse ++ rest) (hn : na.toNat = as.length) (hcat : ∀ v ∈ as, v.category = 1) (hsum : amSum rest ≤ 8) (hc : Ca tg as hs (.inl v, hs', dc, ds)) (kk : Ev M (pc + 3) ls (v.toList ++ rest) hs' (c + dc) (s + ds) o) : Ev M pc ls st hs c s o := by
  obtain ⟨n, hn2⟩ := kk
  refine ev_call (x := (kd, tg, na)) hf ?_ (fun n => by simp only [amMore]; rw [if_pos hkd]) rfl ho (am_argsS (x := (kd, tg, na)) (by show ¬ (kd = 0 ∨ kd = 3); omega) hst hn hcat hsum) hc ⟨n, by simp only [amBack]; exact hn2⟩
  have h4 : ¬ kd = 4 := by omega
  have h5 : ¬ kd = 5 := by omega
  simp only [amStep, if_neg h4, if_neg h5]
  split <;> (try split) <;> rfl
/-- a virtual call that throws, not caught here -/
theorem ev_vt (as2 : List Value) {k tg own mL a dc ds E : Nat} {na : Int} {rest fs : List Value} {hs' : amH} (hf : amFetch M pc = some (.invokevirtual k, len, (0, tg, na))) (ho : amOwnL tg = some (own, mL)) (hst : st = as2.reverse ++ .ref a :: rest) (hn : na.toNat = as2.length) (hcell : hs[a]? = some (.inr (own, fs))) (hcat : ∀ v ∈ as2, v.category = 1) (hsum : amSum rest ≤ 8) (hc : Ca tg (.ref a :: as2) hs (.inr E, hs', dc, ds)) (hh : amHand M pc E = none) (he : o = (.inr E, hs', c + dc, s + ds)) : Ev M pc ls st hs c s o := by
  exact ev_call (x := (0, tg, na)) hf rfl (fun n => by simp only [amMore, if_true]) rfl ho (am_argsV (Or.inl rfl) hst hn hcell hcat hsum) hc ⟨0, by subst he; simp [amBack, hh]⟩
/-- a static call that throws, not caught here -/
theorem ev_st (as : List Value) {k tg own mL dc ds E : Nat} {na : Int} {rest : List Value} {hs' : amH} (hf : amFetch M pc = some (.invokestatic k, len, (1, tg, na))) (ho : amOwnL tg = some (own, mL)) (hst : st = as.reverse ++ rest) (hn : na.toNat = as.length) (hcat : ∀ v ∈ as, v.category = 1) (hsum : amSum rest ≤ 8) (hc : Ca tg as hs (.inr E, hs', dc, ds)) (hh : amHand M pc E = none) (he : o = (.inr E, hs', c + dc, s + ds)) : Ev M pc ls st hs c s o := by
  refine ev_call (x := (1, tg, na)) hf ?_ (fun n => by simp [amMore]) rfl ho (am_argsS (x := (1, tg, na)) (by show ¬ (1 = 0 ∨ 1 = 3); omega) hst hn hcat hsum) hc ⟨0, by subst he; simp [amBack, hh]⟩
  simp only [amStep]
  split
  · split <;> simp
  · rfl
/-- a virtual call that throws, caught: the handler puts the exception away -/
theorem ev_vh (as2 : List Value) {k tg own mL a dc ds E hp len2 : Nat} {j : Fin 4} {na : Int} {x2 : amRes} {rest fs : List Value} {hs' : amH} (hf : amFetch M pc = some (.invokevirtual k, len, (0, tg, na))) (ho : amOwnL tg = some (own, mL)) (hst : st = as2.reverse ++ .ref a :: rest) (hn : na.toNat = as2.length) (hcell : hs[a]? = some (.inr (own, fs))) (hcat : ∀ v ∈ as2, v.category = 1) (hsum : amSum rest ≤ 8) (hc : Ca tg (.ref a :: as2) hs (.inr E, hs', dc, ds)) (hh : amHand M pc E = some hp) (hfh : amFetch M hp = some (.astore_n j, len2, x2)) (kk : Ev M (hp + 1) (ls.set (j : Nat) none) [] hs' (c + dc) (s + ds) o) : Ev M pc ls st hs c s o := by
  obtain ⟨n, hn2⟩ := kk
  exact ev_call (x := (0, tg, na)) hf rfl (fun n => by simp only [amMore, if_true]) rfl ho (am_argsV (Or.inl rfl) hst hn hcell hcat hsum) hc ⟨n, by simp [amBack, hh, hfh, hn2]⟩
theorem ev_vhw (as2 : List Value) {k tg own mL a dc ds E hp len2 : Nat} {j : Nat} {na : Int} {x2 : amRes} {rest fs : List Value} {hs' : amH} (hf : amFetch M pc = some (.invokevirtual k, len, (0, tg, na))) (ho : amOwnL tg = some (own, mL)) (hst : st = as2.reverse ++ .ref a :: rest) (hn : na.toNat = as2.length) (hcell : hs[a]? = some (.inr (own, fs))) (hcat : ∀ v ∈ as2, v.category = 1) (hsum : amSum rest ≤ 8) (hc : Ca tg (.ref a :: as2) hs (.inr E, hs', dc, ds)) (hh : amHand M pc E = some hp) (hfh : amFetch M hp = some (.astore j, len2, x2)) (kk : Ev M (hp + 2) (ls.set j none) [] hs' (c + dc) (s + ds) o) : Ev M pc ls st hs c s o := by
  obtain ⟨n, hn2⟩ := kk
  exact ev_call (x := (0, tg, na)) hf rfl (fun n => by simp only [amMore, if_true]) rfl ho (am_argsV (Or.inl rfl) hst hn hcell hcat hsum) hc ⟨n, by simp [amBack, hh, hfh, hn2]⟩
end EV
end
section
/-! rules with numbers, calls by the number of arguments; by hand -/
def akN (cd : ClassFile.Cond) (a b : Nat) : Prop := match cd with
  | .eq => a = b
  | .ne => ¬ a = b
  | .lt => a < b
  | .ge => b ≤ a
  | .gt => b < a
  | .le => a ≤ b
theorem ak2_N {cd : ClassFile.Cond} {a b : Nat} (ha : a < 2 ^ 31) (hb : b < 2 ^ 31) : ak2 cd (nI a) (nI b) ↔ akN cd a b := by
  cases cd <;> simp only [ak2, akN]
  · exact nI_eq ha hb
  · exact not_congr (nI_eq ha hb)
  · exact nI_ltI ha hb
  · exact nI_leI hb ha
  · exact nI_ltI hb ha
  · exact nI_leI ha hb
theorem ak0_2 {cd : ClassFile.Cond} {v : Int32} : ak0 cd v ↔ ak2 cd v 0 := by cases cd <;> simp only [ak0, ak2]
theorem ak0_N {cd : ClassFile.Cond} {a : Nat} (ha : a < 2 ^ 31) : ak0 cd (nI a) ↔ akN cd a 0 := ak0_2.trans (ak2_N (b := 0) ha (by omega))
theorem rI {M : Nat} (h : ((amRowOf M).bind fun r => r.2.2.2.2.1) = some .int) (v : Int32) : amRetOk M v = true := by
  unfold amRetOk
  rw [h]
  exact decide_eq_true rfl
theorem rZ {M : Nat} (h : ((amRowOf M).bind fun r => r.2.2.2.2.1) = some .boolean) (b : Bool) : amRetOk M (nI b.toNat) = true := by
  unfold amRetOk
  rw [h]
  cases b <;> decide
def updN (f : Nat → Nat) (k v : Nat) : Nat → Nat := fun j => if j = k then v else f j
def updB (f : Nat → Bool) (k : Nat) (v : Bool) : Nat → Bool := fun j => if j = k then v else f j
theorem upd_N (f : Nat → Nat) (k v : Nat) : upd (fun j => nI (f j)) k (nI v) = fun j => nI (updN f k v j) := by
  funext j
  unfold upd updN
  split <;> rfl
theorem upd_B (f : Nat → Bool) (k : Nat) (b : Bool) : upd (fun j => nI (f j).toNat) k (vp_nar .boolean (nI b.toNat)) = fun j => nI (updB f k b j).toNat := by
  funext j
  have e : vp_nar .boolean (nI b.toNat) = nI b.toNat := by cases b <;> decide
  rw [e]
  unfold upd updB
  split <;> rfl
theorem bN_lt (b : Bool) : b.toNat < 2 ^ 31 := by cases b <;> decide
section ER
variable {M pc len : Nat} {ls : amL} {st : List Value} {hs : amH} {c s : Nat} {o : amOut} {x : amRes}
theorem ev_icN {cd : ClassFile.Cond} {off : Int} {tgt a b : Nat} (ha : a < 2 ^ 31) (hb : b < 2 ^ 31) (hf : amFetch M pc = some (.if_icmp cd off, len, x)) (ht : amTgt pc off = tgt) (kt : akN cd a b → Ev M tgt ls st hs c s o) (kf : ¬ akN cd a b → Ev M (pc + 3) ls st hs c s o) : Ev M pc ls (.int (nI b) :: .int (nI a) :: st) hs c s o :=
  ev_ic hf ht (fun h => kt ((ak2_N ha hb).mp h)) (fun h => kf (fun q => h ((ak2_N ha hb).mpr q)))
theorem ev_ifN {cd : ClassFile.Cond} {off : Int} {tgt a : Nat} (ha : a < 2 ^ 31) (hf : amFetch M pc = some (.ifCond cd off, len, x)) (ht : amTgt pc off = tgt) (kt : akN cd a 0 → Ev M tgt ls st hs c s o) (kf : ¬ akN cd a 0 → Ev M (pc + 3) ls st hs c s o) : Ev M pc ls (.int (nI a) :: st) hs c s o :=
  ev_if hf ht (fun h => kt ((ak0_N ha).mp h)) (fun h => kf (fun q => h ((ak0_N ha).mpr q)))
/-- a boolean on the stack -/
theorem ev_ifeqB {off : Int} {tgt : Nat} {b : Bool} (hf : amFetch M pc = some (.ifCond .eq off, len, x)) (ht : amTgt pc off = tgt) (kt : b = false → Ev M tgt ls st hs c s o) (kf : b = true → Ev M (pc + 3) ls st hs c s o) : Ev M pc ls (.int (nI b.toNat) :: st) hs c s o := by
  refine ev_ifN (bN_lt b) hf ht (fun h => kt ?_) (fun h => kf ?_)
  · cases b
    · rfl
    · simp [akN] at h
  · cases b
    · simp [akN] at h
    · rfl
theorem ev_ifneB {off : Int} {tgt : Nat} {b : Bool} (hf : amFetch M pc = some (.ifCond .ne off, len, x)) (ht : amTgt pc off = tgt) (kt : b = true → Ev M tgt ls st hs c s o) (kf : b = false → Ev M (pc + 3) ls st hs c s o) : Ev M pc ls (.int (nI b.toNat) :: st) hs c s o := by
  refine ev_ifN (bN_lt b) hf ht (fun h => kt ?_) (fun h => kf ?_)
  · cases b
    · simp [akN] at h
    · rfl
  · cases b
    · rfl
    · simp [akN] at h
theorem ev_v0 {k tg own mL a : Nat} {rest fs : List Value} {v : Option Value} {hs' : amH} (hf : amFetch M pc = some (.invokevirtual k, len, (0, tg, 0))) (ho : amOwnL tg = some (own, mL)) (hcell : hs[a]? = some (.inr (own, fs))) (hsum : amSum rest ≤ 8) (hc : Cr tg [.ref a] hs v hs') (kk : Ev M (pc + 3) ls (v.toList ++ rest) hs' c s o) : Ev M pc ls (.ref a :: rest) hs c s o :=
  ev_vc [] hf ho rfl rfl hcell (fun v hv => absurd hv List.not_mem_nil) hsum hc kk
theorem ev_v1 {k tg own mL a : Nat} {v1 : Value} {rest fs : List Value} {v : Option Value} {hs' : amH} (hf : amFetch M pc = some (.invokevirtual k, len, (0, tg, 1))) (ho : amOwnL tg = some (own, mL)) (hcell : hs[a]? = some (.inr (own, fs))) (h1 : v1.category = 1) (hsum : amSum rest ≤ 8) (hc : Cr tg [.ref a, v1] hs v hs') (kk : Ev M (pc + 3) ls (v.toList ++ rest) hs' c s o) : Ev M pc ls (v1 :: .ref a :: rest) hs c s o :=
  ev_vc [v1] hf ho rfl rfl hcell (List.forall_mem_cons.mpr ⟨h1, fun v hv => absurd hv List.not_mem_nil⟩) hsum hc kk
theorem ev_v2 {k tg own mL a : Nat} {v1 v2 : Value} {rest fs : List Value} {v : Option Value} {hs' : amH} (hf : amFetch M pc = some (.invokevirtual k, len, (0, tg, 2))) (ho : amOwnL tg = some (own, mL)) (hcell : hs[a]? = some (.inr (own, fs))) (h1 : v1.category = 1) (h2 : v2.category = 1) (hsum : amSum rest ≤ 8) (hc : Cr tg [.ref a, v1, v2] hs v hs') (kk : Ev M (pc + 3) ls (v.toList ++ rest) hs' c s o) : Ev M pc ls (v2 :: v1 :: .ref a :: rest) hs c s o :=
  ev_vc [v1, v2] hf ho rfl rfl hcell (List.forall_mem_cons.mpr ⟨h1, List.forall_mem_cons.mpr ⟨h2, fun v hv => absurd hv List.not_mem_nil⟩⟩) hsum hc kk
theorem ev_v3 {k tg own mL a : Nat} {v1 v2 v3 : Value} {rest fs : List Value} {v : Option Value} {hs' : amH} (hf : amFetch M pc = some (.invokevirtual k, len, (0, tg, 3))) (ho : amOwnL tg = some (own, mL)) (hcell : hs[a]? = some (.inr (own, fs))) (h1 : v1.category = 1) (h2 : v2.category = 1) (h3 : v3.category = 1) (hsum : amSum rest ≤ 8) (hc : Cr tg [.ref a, v1, v2, v3] hs v hs') (kk : Ev M (pc + 3) ls (v.toList ++ rest) hs' c s o) : Ev M pc ls (v3 :: v2 :: v1 :: .ref a :: rest) hs c s o :=
  ev_vc [v1, v2, v3] hf ho rfl rfl hcell (List.forall_mem_cons.mpr ⟨h1, List.forall_mem_cons.mpr ⟨h2, List.forall_mem_cons.mpr ⟨h3, fun v hv => absurd hv List.not_mem_nil⟩⟩⟩) hsum hc kk
theorem ev_s1 {k kd tg own mL : Nat} {v1 : Value} {rest : List Value} {v : Option Value} {hs' : amH} (hf : amFetch M pc = some (.invokestatic k, len, (kd, tg, 1))) (hkd : kd = 1 ∨ kd = 2) (ho : amOwnL tg = some (own, mL)) (h1 : v1.category = 1) (hsum : amSum rest ≤ 8) (hc : Cr tg [v1] hs v hs') (kk : Ev M (pc + 3) ls (v.toList ++ rest) hs' c s o) : Ev M pc ls (v1 :: rest) hs c s o :=
  ev_sc [v1] hf hkd ho rfl rfl (List.forall_mem_cons.mpr ⟨h1, fun v hv => absurd hv List.not_mem_nil⟩) hsum hc kk
theorem ev_s2 {k kd tg own mL : Nat} {v1 v2 : Value} {rest : List Value} {v : Option Value} {hs' : amH} (hf : amFetch M pc = some (.invokestatic k, len, (kd, tg, 2))) (hkd : kd = 1 ∨ kd = 2) (ho : amOwnL tg = some (own, mL)) (h1 : v1.category = 1) (h2 : v2.category = 1) (hsum : amSum rest ≤ 8) (hc : Cr tg [v1, v2] hs v hs') (kk : Ev M (pc + 3) ls (v.toList ++ rest) hs' c s o) : Ev M pc ls (v2 :: v1 :: rest) hs c s o :=
  ev_sc [v1, v2] hf hkd ho rfl rfl (List.forall_mem_cons.mpr ⟨h1, List.forall_mem_cons.mpr ⟨h2, fun v hv => absurd hv List.not_mem_nil⟩⟩) hsum hc kk
theorem ev_s3 {k kd tg own mL : Nat} {v1 v2 v3 : Value} {rest : List Value} {v : Option Value} {hs' : amH} (hf : amFetch M pc = some (.invokestatic k, len, (kd, tg, 3))) (hkd : kd = 1 ∨ kd = 2) (ho : amOwnL tg = some (own, mL)) (h1 : v1.category = 1) (h2 : v2.category = 1) (h3 : v3.category = 1) (hsum : amSum rest ≤ 8) (hc : Cr tg [v1, v2, v3] hs v hs') (kk : Ev M (pc + 3) ls (v.toList ++ rest) hs' c s o) : Ev M pc ls (v3 :: v2 :: v1 :: rest) hs c s o :=
  ev_sc [v1, v2, v3] hf hkd ho rfl rfl (List.forall_mem_cons.mpr ⟨h1, List.forall_mem_cons.mpr ⟨h2, List.forall_mem_cons.mpr ⟨h3, fun v hv => absurd hv List.not_mem_nil⟩⟩⟩) hsum hc kk
end ER
theorem cr_mk {M own mL : Nat} {as : List Value} {hs hs' : amH} {v : Option Value} (ho : amOwnL M = some (own, mL)) (hl : as.length ≤ mL) (h : Ev M 0 (amEntry as mL) [] hs 0 0 (.inl v, hs', 0, 0)) : Cr M as hs v hs' := ⟨own, mL, ho, hl, h⟩
/-! a table of the class, at p: the object, and its five rows behind it -/
abbrev amTab : Type := (Nat → Nat) × (Nat → Nat) × (Nat → Bool) × (Nat → Bool) × (Nat → Bool)
def tabC (p q : Nat) (T : amTab) : List amC := [.inr (2, [.ref (p + 1), .ref (p + 2), .ref (p + 3), .ref (p + 4), .ref (p + 5), .int (nI q)]), .inl (.int, 256, .inl (fun j => nI (T.1 j))), .inl (.int, 256, .inl (fun j => nI (T.2.1 j))), .inl (.boolean, 256, .inl (fun j => nI (T.2.2.1 j).toNat)), .inl (.boolean, 256, .inl (fun j => nI (T.2.2.2.1 j).toNat)), .inl (.boolean, 256, .inl (fun j => nI (T.2.2.2.2 j).toNat))]
def TabAt (hs : amH) (p q : Nat) (T : amTab) : Prop := 0 < p ∧ 3 ≤ q ∧ q ≤ 8 ∧ hs[p]? = some (.inr (2, [.ref (p + 1), .ref (p + 2), .ref (p + 3), .ref (p + 4), .ref (p + 5), .int (nI q)])) ∧ hs[p + 1]? = some (.inl (.int, 256, .inl (fun j => nI (T.1 j)))) ∧ hs[p + 2]? = some (.inl (.int, 256, .inl (fun j => nI (T.2.1 j)))) ∧ hs[p + 3]? = some (.inl (.boolean, 256, .inl (fun j => nI (T.2.2.1 j).toNat))) ∧ hs[p + 4]? = some (.inl (.boolean, 256, .inl (fun j => nI (T.2.2.2.1 j).toNat))) ∧ hs[p + 5]? = some (.inl (.boolean, 256, .inl (fun j => nI (T.2.2.2.2 j).toNat))) ∧ (∀ j, T.1 j < 4096) ∧ (∀ j, T.2.1 j ≤ 7)
theorem am_shl1 {q : Nat} (hq : q ≤ 30) : nI 1 <<< (nI q &&& 31) = nI (2 ^ q) := by
  have h : ∀ n, n ≤ 30 → nI 1 <<< (nI n &&& 31) = nI (2 ^ n) := by decide +kernel
  exact h q hq
theorem am_pow {q : Nat} (h1 : 3 ≤ q) (h2 : q ≤ 8) : 8 ≤ 2 ^ q ∧ 2 ^ q ≤ 256 := by
  have h : ∀ n, n ≤ 8 → 3 ≤ n → 8 ≤ 2 ^ n ∧ 2 ^ n ≤ 256 := by decide
  exact h q h2 h1
end
section
/-! the table's small methods; rows laid by wip/whole/walk.py -/
theorem am_sh : ∀ n, n < 32 → ((nI n &&& 31).toBitVec.smod 32).toNat = n := by decide +kernel
theorem am_orI (a b : Nat) : nI a ||| nI b = nI (a ||| b) := by
  apply Int32.toBitVec_inj.mp
  show BitVec.ofNat 32 a ||| BitVec.ofNat 32 b = BitVec.ofNat 32 (a ||| b)
  rw [BitVec.ofNat_or]
theorem am_orSum {a k : Nat} (b : Nat) (h : a < 2 ^ k) : nI (b * 2 ^ k) ||| nI a = nI (b * 2 ^ k + a) := by
  rw [am_orI, Nat.mul_comm, ← Nat.two_pow_add_eq_or_of_lt h]
theorem am_mask {x k : Nat} (h : x < 2 ^ 31) (hk : k ≤ 12) : nI x &&& nI (2 ^ k - 1) = nI (x % 2 ^ k) := by
  have h1 : ∀ k, k ≤ 12 → (nI (2 ^ k - 1)).toBitVec.toNat = 2 ^ k - 1 := by decide +kernel
  exact pk_andN (by omega) k (h1 k hk)
theorem am_maskM {k : Nat} (hk : k ≤ 12) : (nI 0 - nI 1) &&& nI (2 ^ k - 1) = nI (2 ^ k - 1) := by
  have h1 : ∀ k, k ≤ 12 → (nI 0 - nI 1) &&& nI (2 ^ k - 1) = nI (2 ^ k - 1) := by decide +kernel
  exact h1 k hk
theorem c14 {hs : amH} {p q : Nat} {T : amTab} (h : TabAt hs p q T) : Cr 14 [.ref p] hs (some (.int (nI (2 ^ q)))) hs := by
  obtain ⟨h0, h3, h8, a0, a1, a2, a3, a4, a5, b1, b2⟩ := h
  refine cr_mk ow14 (Nat.le_of_ble_eq_true rfl) ?_
  refine ev_iconstN (n := 1) f14_0 ?_
  refine ev_aload_n f14_1 rfl ?_
  refine ev_getf f14_2 (by assumption) rfl ?_
  refine ev_ishl f14_5 ?_
  rw [am_shl1 (by omega)]
  exact ev_iret f14_6 (rI rfl _) rfl
theorem c15 {hs : amH} {p q : Nat} {T : amTab} (h : TabAt hs p q T) {j : Nat} (hj : j < 256) : Cr 15 [.ref p, .int (nI j)] hs (some (.int (nI (decide (T.2.1 j = 0)).toNat))) hs := by
  obtain ⟨h0, h3, h8, a0, a1, a2, a3, a4, a5, b1, b2⟩ := h
  refine cr_mk ow15 (Nat.le_of_ble_eq_true rfl) ?_
  have hb := b2 j
  refine ev_aload_n f15_0 rfl ?_
  refine ev_getf f15_1 (by assumption) rfl ?_
  refine ev_iload_n f15_4 rfl ?_
  refine ev_iald f15_5 (by assumption) (by omega) (by omega) ?_
  refine ev_ifN (by omega) (tgt := 13) f15_6 rfl (fun hc => ?_) (fun hc => ?_)
  · have e : decide (T.2.1 j = 0) = false := decide_eq_false hc
    rw [e]
    refine ev_iconstN (n := 0) f15_13 ?_
    first | exact ev_iret f15_14 (rZ rfl true) rfl | exact ev_iret f15_14 (rZ rfl false) rfl | exact ev_iret f15_14 (rZ rfl _) rfl
  · have e : decide (T.2.1 j = 0) = true := decide_eq_true (by simp only [akN] at hc; omega)
    rw [e]
    refine ev_iconstN (n := 1) f15_9 ?_
    refine ev_goto (tgt := 14) f15_10 rfl ?_
    first | exact ev_iret f15_14 (rZ rfl true) rfl | exact ev_iret f15_14 (rZ rfl false) rfl | exact ev_iret f15_14 (rZ rfl _) rfl
theorem c16 {hs : amH} {p q : Nat} {T : amTab} (h : TabAt hs p q T) {j : Nat} (hj : j < 2 ^ 31) : Cr 16 [.ref p, .int (nI j)] hs (some (.int (nI (j % 2 ^ q)))) hs := by
  have h9 := h
  obtain ⟨h0, h3, h8, a0, a1, a2, a3, a4, a5, b1, b2⟩ := h
  obtain ⟨p1, p2⟩ := am_pow h3 h8
  refine cr_mk ow16 (Nat.le_of_ble_eq_true rfl) ?_
  refine ev_iload_n f16_0 rfl ?_
  refine ev_aload_n f16_1 rfl ?_
  refine ev_v0 f16_2 ow14 (by assumption) (Nat.le_of_ble_eq_true rfl) (c14 h9) ?_
  refine ev_iconstN (n := 1) f16_5 ?_
  refine ev_isubN (by omega) f16_6 ?_
  refine ev_iand f16_7 ?_
  rw [am_mask hj (by omega)]
  exact ev_iret f16_8 (rI rfl _) rfl
theorem c16m {hs : amH} {p q : Nat} {T : amTab} (h : TabAt hs p q T) {j : Nat} (hj : j < 2 ^ q) : Cr 16 [.ref p, .int (nI j - nI 1)] hs (some (.int (nI ((j + (2 ^ q - 1)) % 2 ^ q)))) hs := by
  have h9 := h
  obtain ⟨h0, h3, h8, a0, a1, a2, a3, a4, a5, b1, b2⟩ := h
  obtain ⟨p1, p2⟩ := am_pow h3 h8
  by_cases hz : j = 0
  · subst hz
    rw [show (0 + (2 ^ q - 1)) % 2 ^ q = 2 ^ q - 1 from by rw [Nat.zero_add]; exact Nat.mod_eq_of_lt (by omega)]
    refine cr_mk ow16 (Nat.le_of_ble_eq_true rfl) ?_
    refine ev_iload_n f16_0 rfl ?_
    refine ev_aload_n f16_1 rfl ?_
    refine ev_v0 f16_2 ow14 (by assumption) (Nat.le_of_ble_eq_true rfl) (c14 h9) ?_
    refine ev_iconstN (n := 1) f16_5 ?_
    refine ev_isubN (by omega) f16_6 ?_
    refine ev_iand f16_7 ?_
    rw [am_maskM (by omega)]
    exact ev_iret f16_8 (rI rfl _) rfl
  · rw [pk_sub (by omega), show (j + (2 ^ q - 1)) % 2 ^ q = (j - 1) % 2 ^ q from by rw [show j + (2 ^ q - 1) = (j - 1) + 2 ^ q by omega, Nat.add_mod_right]]
    exact c16 h9 (by omega)
theorem c17 {hs : amH} {p q : Nat} {T : amTab} (h : TabAt hs p q T) {k : Nat} (hk : k < 4096) : Cr 17 [.ref p, .int (nI k)] hs (some (.int (nI (k / 2 ^ (12 - q))))) hs := by
  obtain ⟨h0, h3, h8, a0, a1, a2, a3, a4, a5, b1, b2⟩ := h
  refine cr_mk ow17 (Nat.le_of_ble_eq_true rfl) ?_
  refine ev_iload_n f17_0 rfl ?_
  refine ev_bipushN (n := 12) (by omega) f17_1 ?_
  refine ev_aload_n f17_3 rfl ?_
  refine ev_getf f17_4 (by assumption) rfl ?_
  refine ev_isubN (by omega) f17_7 ?_
  refine ev_ishr f17_8 ?_
  rw [pk_shrN (by omega) _ (12 - q) (am_sh _ (by omega))]
  exact ev_iret f17_9 (rI rfl _) rfl
theorem c18 {hs : amH} {p q : Nat} {T : amTab} (h : TabAt hs p q T) {k : Nat} (hk : k < 4096) : Cr 18 [.ref p, .int (nI k)] hs (some (.int (nI (k % 2 ^ (12 - q))))) hs := by
  obtain ⟨h0, h3, h8, a0, a1, a2, a3, a4, a5, b1, b2⟩ := h
  refine cr_mk ow18 (Nat.le_of_ble_eq_true rfl) ?_
  have hp : 1 ≤ 2 ^ (12 - q) := Nat.one_le_two_pow
  refine ev_iload_n f18_0 rfl ?_
  refine ev_iconstN (n := 1) f18_1 ?_
  refine ev_bipushN (n := 12) (by omega) f18_2 ?_
  refine ev_aload_n f18_4 rfl ?_
  refine ev_getf f18_5 (by assumption) rfl ?_
  refine ev_isubN (by omega) f18_8 ?_
  refine ev_ishl f18_9 ?_
  rw [am_shl1 (by omega)]
  refine ev_iconstN (n := 1) f18_10 ?_
  refine ev_isubN (by omega) f18_11 ?_
  refine ev_iand f18_12 ?_
  rw [am_mask (by omega) (by omega)]
  exact ev_iret f18_13 (rI rfl _) rfl
theorem c19 {hs : amH} {p q : Nat} {T : amTab} (h : TabAt hs p q T) {a b : Nat} (ha : a < 2 ^ q) (hb : b < 2 ^ (12 - q)) : Cr 19 [.ref p, .int (nI a), .int (nI b)] hs (some (.int (nI (a * 2 ^ (12 - q) + b)))) hs := by
  obtain ⟨h0, h3, h8, a0, a1, a2, a3, a4, a5, b1, b2⟩ := h
  obtain ⟨p1, p2⟩ := am_pow h3 h8
  have hm : a * 2 ^ (12 - q) < 2 ^ 32 := by
    have h1 : 2 ^ (12 - q) ≤ 2 ^ 12 := Nat.pow_le_pow_right (by omega) (by omega)
    have h2 : a * 2 ^ (12 - q) ≤ 256 * 2 ^ 12 := Nat.mul_le_mul (by omega) h1
    omega
  refine cr_mk ow19 (Nat.le_of_ble_eq_true rfl) ?_
  refine ev_iload_n f19_0 rfl ?_
  refine ev_bipushN (n := 12) (by omega) f19_1 ?_
  refine ev_aload_n f19_3 rfl ?_
  refine ev_getf f19_4 (by assumption) rfl ?_
  refine ev_isubN (by omega) f19_7 ?_
  refine ev_ishl f19_8 ?_
  rw [pk_shlN _ (12 - q) (am_sh _ (by omega)) hm]
  refine ev_iload_n f19_9 rfl ?_
  refine ev_ior f19_10 ?_
  rw [am_orSum a hb]
  exact ev_iret f19_11 (rI rfl _) rfl
/-- how many of the first n places are not 0 -/
def nzN (f : Nat → Nat) : Nat → Nat
  | 0 => 0
  | n + 1 => nzN f n + if f n = 0 then 0 else 1
def smN (f : Nat → Nat) : Nat → Nat
  | 0 => 0
  | n + 1 => smN f n + f n
theorem nzN_le (f : Nat → Nat) : ∀ n, nzN f n ≤ n
  | 0 => Nat.le_refl 0
  | n + 1 => by
    have h := nzN_le f n
    unfold nzN
    split <;> omega
theorem smN_le {f : Nat → Nat} {b : Nat} (h : ∀ j, f j ≤ b) : ∀ n, smN f n ≤ n * b
  | 0 => Nat.zero_le _
  | n + 1 => by
    have h1 := smN_le h n
    have h2 := h n
    unfold smN
    rw [Nat.succ_mul]
    omega
theorem l20 {hs : amH} {p q : Nat} {T : amTab} (h : TabAt hs p q T) : ∀ (d k : Nat), k + d = 2 ^ q → Ev 20 4 [some (.ref p), some (.int (nI (nzN T.2.1 k))), some (.int (nI k))] [] hs 0 0 (.inl (some (.int (nI (nzN T.2.1 (2 ^ q))))), hs, 0, 0) := by
  have h9 := h
  obtain ⟨h0, h3, h8, a0, a1, a2, a3, a4, a5, b1, b2⟩ := h
  obtain ⟨p1, p2⟩ := am_pow h3 h8
  intro d
  induction d with
  | zero =>
    intro k hk
    have hk2 : k = 2 ^ q := by omega
    subst hk2
    refine ev_iload_n f20_4 rfl ?_
    refine ev_aload_n f20_5 rfl ?_
    refine ev_v0 f20_6 ow14 (by assumption) (Nat.le_of_ble_eq_true rfl) (c14 h9) ?_
    refine ev_icN (by omega) (by omega) (tgt := 34) f20_9 rfl (fun _ => ?_) (fun h9 => absurd (by simp only [akN] at *; omega) h9)
    refine ev_iload_n f20_34 rfl ?_
    exact ev_iret f20_35 (rI rfl _) rfl
  | succ d ih =>
    intro k hk
    have hi := ih (k + 1) (by omega)
    refine ev_iload_n f20_4 rfl ?_
    refine ev_aload_n f20_5 rfl ?_
    refine ev_v0 f20_6 ow14 (by assumption) (Nat.le_of_ble_eq_true rfl) (c14 h9) ?_
    refine ev_icN (by omega) (by omega) (tgt := 34) f20_9 rfl (fun h9 => absurd h9 (by simp only [akN] at *; omega)) (fun _ => ?_)
    refine ev_iload_n f20_12 rfl ?_
    refine ev_aload_n f20_13 rfl ?_
    refine ev_iload_n f20_14 rfl ?_
    refine ev_v1 f20_15 ow15 (by assumption) rfl (Nat.le_of_ble_eq_true rfl) (c15 h9 (by omega)) ?_
    refine ev_ifeqB (tgt := 25) f20_18 rfl (fun hc => ?_) (fun hc => ?_)
    · have e : nzN T.2.1 (k + 1) = nzN T.2.1 k + 1 := by
        have h1 := of_decide_eq_false hc
        simp only [nzN, if_neg h1]
      rw [e] at hi
      refine ev_iconstN (n := 1) f20_25 ?_
      first | refine ev_iaddN f20_26 ?_ | refine ev_iadd f20_26 ?_
      refine ev_istore_n f20_27 ?_
      refine ev_iincN f20_28 rfl ?_
      refine ev_goto (tgt := 4) f20_31 rfl ?_
      exact hi
    · have e : nzN T.2.1 (k + 1) = nzN T.2.1 k + 0 := by
        have h1 := of_decide_eq_true hc
        simp only [nzN, if_pos h1]
      rw [e] at hi
      refine ev_iconstN (n := 0) f20_21 ?_
      refine ev_goto (tgt := 26) f20_22 rfl ?_
      first | refine ev_iaddN f20_26 ?_ | refine ev_iadd f20_26 ?_
      refine ev_istore_n f20_27 ?_
      refine ev_iincN f20_28 rfl ?_
      refine ev_goto (tgt := 4) f20_31 rfl ?_
      exact hi
theorem c20 {hs : amH} {p q : Nat} {T : amTab} (h : TabAt hs p q T) : Cr 20 [.ref p] hs (some (.int (nI (nzN T.2.1 (2 ^ q))))) hs := by
  refine cr_mk ow20 (Nat.le_of_ble_eq_true rfl) ?_
  refine ev_iconstN (n := 0) f20_0 ?_
  refine ev_istore_n f20_1 ?_
  refine ev_iconstN (n := 0) f20_2 ?_
  refine ev_istore_n f20_3 ?_
  exact l20 h (2 ^ q) 0 (by omega)
end
