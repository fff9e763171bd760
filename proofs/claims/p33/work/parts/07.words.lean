/-! words of the tables behind every resolved place, by wip/whole/gen07.py -/
def amCW (r : amRow) : Cond := match r.2.2.2.2.2.1 with
  | [] => .code r.2.1 r.2.2.1 r.2.2.2.1 r.2.2.2.2.1
  | hh => .codeWith r.2.1 r.2.2.1 r.2.2.2.1 r.2.2.2.2.1 hh
def amFldP (q : Nat × Nat × Nat × Nat) : Prop := Cond.fieldLink (amN q.1) q.2.1 (amTT q.2.2.1 q.2.2.2).1 (amTT q.2.2.1 q.2.2.2).2.1 (amTT q.2.2.1 q.2.2.2).2.2.1 ∈ amTB ∧ q.2.2.2 < amNF q.2.2.1 ∧ q.2.2.1 < 4
def amClsP (q : Nat × Nat × Nat) : Prop := Cond.classLink (amN q.1) q.2.1 (amN q.2.2) ∈ amTB ∧ Cond.instantiable (amN q.2.2) (amNF q.2.2) ∈ amTB ∧ Cond.initialized (amN q.2.2) ∈ amTB ∧ q.2.2 < 4
def amNests : List Cond := [.methodLinkNest RX0 42 yX3_entriesFor RX3, .methodLinkNest RX2 103 yX3_entriesFor RX3]
def amTgtP (r : amRow) : Prop := amCW r ∈ amTB ∧ Cond.initialized r.2.1.cls ∈ amTB ∧ r.2.1.cls = amN r.1 ∧ plainName r.2.1.cls = true ∧ (r.2.1.cls ≠ "java/lang/invoke/MethodHandle" ∧ r.2.1.cls ≠ "java/lang/invoke/VarHandle") ∧ r.1 < 6
def amLnkP (q : Nat × Nat × Nat × Nat × Nat) (r : amRow) : Prop := (parseMethodDescriptor r.2.1.desc).map (fun d => d.parameters.length) = some q.2.2.2.2 ∧ amTgtP r ∧ match q.2.2.1 with
  | 0 => Cond.methodLink (amN q.1) q.2.1 r.2.1 ∈ amTB ∧ Cond.instanceMethod r.2.1 ∈ amTB ∧ Cond.selects r.2.1.cls r.2.1 r.2.1 ∈ amTB ∧ r.1 < 4 ∧ r.2.2.2.2.2.1 = []
  | 1 => Cond.methodLink (amN q.1) q.2.1 r.2.1 ∈ amTB ∧ Cond.static r.2.1 ∈ amTB
  | 2 => Cond.methodLinkNest (amN q.1) q.2.1 r.2.1 RX3 ∈ amNests ∧ Cond.static r.2.1 ∈ amTB ∧ r.2.2.2.2.2.1 = []
  | _ => Cond.methodLink (amN q.1) q.2.1 r.2.1 ∈ amTB ∧ Cond.instanceMethod r.2.1 ∈ amTB ∧ r.2.1.name = "<init>" ∧ r.2.2.2.2.1 = none ∧ r.2.2.2.2.2.1 = [] ∧ r.1 < 4
def amMthP (q : Nat × Nat × Nat) : Prop := match q.2.2 with
  | 4 => Cond.methodLink (amN q.1) q.2.1 Lib.Math.max.name ∈ amTB
  | _ => Cond.methodLink (amN q.1) q.2.1 Lib.Math.min.name ∈ amTB
def amObjP (q : Nat × Nat) : Prop := Cond.methodLink (amN q.1) q.2 objectInit ∈ amTB
theorem amF_0_9 : amFldP (0, 9, 0, 0) := ⟨amTB_of (i := 78) (by decide +kernel) (by decide +kernel), by decide +kernel, by decide +kernel⟩
theorem amF_0_15 : amFldP (0, 15, 0, 1) := ⟨amTB_of (i := 81) (by decide +kernel) (by decide +kernel), by decide +kernel, by decide +kernel⟩
theorem amF_0_18 : amFldP (0, 18, 0, 2) := ⟨amTB_of (i := 83) (by decide +kernel) (by decide +kernel), by decide +kernel, by decide +kernel⟩
theorem amF_1_9 : amFldP (1, 9, 1, 0) := ⟨amTB_of (i := 99) (by decide +kernel) (by decide +kernel), by decide +kernel, by decide +kernel⟩
theorem amF_1_15 : amFldP (1, 15, 1, 1) := ⟨amTB_of (i := 100) (by decide +kernel) (by decide +kernel), by decide +kernel, by decide +kernel⟩
theorem amF_1_39 : amFldP (1, 39, 2, 4) := ⟨amTB_of (i := 53) (by decide +kernel) (by decide +kernel), by decide +kernel, by decide +kernel⟩
theorem amF_1_43 : amFldP (1, 43, 2, 3) := ⟨amTB_of (i := 50) (by decide +kernel) (by decide +kernel), by decide +kernel, by decide +kernel⟩
theorem amF_1_55 : amFldP (1, 55, 2, 0) := ⟨amTB_of (i := 42) (by decide +kernel) (by decide +kernel), by decide +kernel, by decide +kernel⟩
theorem amF_1_58 : amFldP (1, 58, 2, 1) := ⟨amTB_of (i := 45) (by decide +kernel) (by decide +kernel), by decide +kernel, by decide +kernel⟩
theorem amF_2_9 : amFldP (2, 9, 2, 0) := ⟨amTB_of (i := 41) (by decide +kernel) (by decide +kernel), by decide +kernel, by decide +kernel⟩
theorem amF_2_15 : amFldP (2, 15, 2, 1) := ⟨amTB_of (i := 44) (by decide +kernel) (by decide +kernel), by decide +kernel, by decide +kernel⟩
theorem amF_2_18 : amFldP (2, 18, 2, 2) := ⟨amTB_of (i := 47) (by decide +kernel) (by decide +kernel), by decide +kernel, by decide +kernel⟩
theorem amF_2_22 : amFldP (2, 22, 2, 3) := ⟨amTB_of (i := 49) (by decide +kernel) (by decide +kernel), by decide +kernel, by decide +kernel⟩
theorem amF_2_25 : amFldP (2, 25, 2, 4) := ⟨amTB_of (i := 52) (by decide +kernel) (by decide +kernel), by decide +kernel, by decide +kernel⟩
theorem amF_2_28 : amFldP (2, 28, 2, 5) := ⟨amTB_of (i := 55) (by decide +kernel) (by decide +kernel), by decide +kernel, by decide +kernel⟩
theorem amF_2_90 : amFldP (2, 90, 0, 2) := ⟨amTB_of (i := 85) (by decide +kernel) (by decide +kernel), by decide +kernel, by decide +kernel⟩
theorem amF_2_93 : amFldP (2, 93, 0, 0) := ⟨amTB_of (i := 79) (by decide +kernel) (by decide +kernel), by decide +kernel, by decide +kernel⟩
theorem amF_2_96 : amFldP (2, 96, 0, 1) := ⟨amTB_of (i := 82) (by decide +kernel) (by decide +kernel), by decide +kernel, by decide +kernel⟩
theorem amF_3_11 : amFldP (3, 11, 3, 0) := ⟨amTB_of (i := 106) (by decide +kernel) (by decide +kernel), by decide +kernel, by decide +kernel⟩
theorem amF_3_19 : amFldP (3, 19, 3, 1) := ⟨amTB_of (i := 107) (by decide +kernel) (by decide +kernel), by decide +kernel, by decide +kernel⟩
theorem amF_3_23 : amFldP (3, 23, 3, 2) := ⟨amTB_of (i := 108) (by decide +kernel) (by decide +kernel), by decide +kernel, by decide +kernel⟩
theorem amF_3_26 : amFldP (3, 26, 3, 3) := ⟨amTB_of (i := 109) (by decide +kernel) (by decide +kernel), by decide +kernel, by decide +kernel⟩
theorem amF_3_32 : amFldP (3, 32, 3, 4) := ⟨amTB_of (i := 110) (by decide +kernel) (by decide +kernel), by decide +kernel, by decide +kernel⟩
theorem amF_3_76 : amFldP (3, 76, 2, 5) := ⟨amTB_of (i := 56) (by decide +kernel) (by decide +kernel), by decide +kernel, by decide +kernel⟩
theorem amF_3_122 : amFldP (3, 122, 0, 2) := ⟨amTB_of (i := 84) (by decide +kernel) (by decide +kernel), by decide +kernel, by decide +kernel⟩
theorem amF_3_133 : amFldP (3, 133, 0, 0) := ⟨amTB_of (i := 80) (by decide +kernel) (by decide +kernel), by decide +kernel, by decide +kernel⟩
theorem amF_3_145 : amFldP (3, 145, 2, 0) := ⟨amTB_of (i := 43) (by decide +kernel) (by decide +kernel), by decide +kernel, by decide +kernel⟩
theorem amF_3_148 : amFldP (3, 148, 2, 1) := ⟨amTB_of (i := 46) (by decide +kernel) (by decide +kernel), by decide +kernel, by decide +kernel⟩
theorem amF_3_154 : amFldP (3, 154, 2, 2) := ⟨amTB_of (i := 48) (by decide +kernel) (by decide +kernel), by decide +kernel, by decide +kernel⟩
theorem amF_3_158 : amFldP (3, 158, 2, 3) := ⟨amTB_of (i := 51) (by decide +kernel) (by decide +kernel), by decide +kernel, by decide +kernel⟩
theorem amF_3_161 : amFldP (3, 161, 2, 4) := ⟨amTB_of (i := 54) (by decide +kernel) (by decide +kernel), by decide +kernel, by decide +kernel⟩
theorem amFldOk : ∀ q ∈ amFldL, amFldP q := List.forall_mem_cons.mpr ⟨amF_0_9, List.forall_mem_cons.mpr ⟨amF_0_15, List.forall_mem_cons.mpr ⟨amF_0_18, List.forall_mem_cons.mpr ⟨amF_1_9, List.forall_mem_cons.mpr ⟨amF_1_15, List.forall_mem_cons.mpr ⟨amF_1_39, List.forall_mem_cons.mpr ⟨amF_1_43, List.forall_mem_cons.mpr ⟨amF_1_55, List.forall_mem_cons.mpr ⟨amF_1_58, List.forall_mem_cons.mpr ⟨amF_2_9, List.forall_mem_cons.mpr ⟨amF_2_15, List.forall_mem_cons.mpr ⟨amF_2_18, List.forall_mem_cons.mpr ⟨amF_2_22, List.forall_mem_cons.mpr ⟨amF_2_25, List.forall_mem_cons.mpr ⟨amF_2_28, List.forall_mem_cons.mpr ⟨amF_2_90, List.forall_mem_cons.mpr ⟨amF_2_93, List.forall_mem_cons.mpr ⟨amF_2_96, List.forall_mem_cons.mpr ⟨amF_3_11, List.forall_mem_cons.mpr ⟨amF_3_19, List.forall_mem_cons.mpr ⟨amF_3_23, List.forall_mem_cons.mpr ⟨amF_3_26, List.forall_mem_cons.mpr ⟨amF_3_32, List.forall_mem_cons.mpr ⟨amF_3_76, List.forall_mem_cons.mpr ⟨amF_3_122, List.forall_mem_cons.mpr ⟨amF_3_133, List.forall_mem_cons.mpr ⟨amF_3_145, List.forall_mem_cons.mpr ⟨amF_3_148, List.forall_mem_cons.mpr ⟨amF_3_154, List.forall_mem_cons.mpr ⟨amF_3_158, List.forall_mem_cons.mpr ⟨amF_3_161, fun _ h => absurd h List.not_mem_nil⟩⟩⟩⟩⟩⟩⟩⟩⟩⟩⟩⟩⟩⟩⟩⟩⟩⟩⟩⟩⟩⟩⟩⟩⟩⟩⟩⟩⟩⟩⟩
theorem amIn_0 : Cond.initialized (amN 0) ∈ amTB := amTB_of (i := 8) (by decide +kernel) (by decide +kernel)
theorem amIs_0 : Cond.instantiable (amN 0) (amNF 0) ∈ amTB := amTB_of (i := 73) (by decide +kernel) (by decide +kernel)
theorem amU_0 : ∀ w ∈ u_ws (amN 0) (amTT 0) (amNF 0), w ∈ amTB := List.forall_mem_cons.mpr ⟨amTB_of (i := 86) (by decide +kernel) (by decide +kernel), List.forall_mem_cons.mpr ⟨amTB_of (i := 88) (by decide +kernel) (by decide +kernel), List.forall_mem_cons.mpr ⟨amTB_of (i := 90) (by decide +kernel) (by decide +kernel), fun _ h => absurd h List.not_mem_nil⟩⟩⟩
theorem amIn_1 : Cond.initialized (amN 1) ∈ amTB := amTB_of (i := 9) (by decide +kernel) (by decide +kernel)
theorem amIs_1 : Cond.instantiable (amN 1) (amNF 1) ∈ amTB := amTB_of (i := 94) (by decide +kernel) (by decide +kernel)
theorem amU_1 : ∀ w ∈ u_ws (amN 1) (amTT 1) (amNF 1), w ∈ amTB := List.forall_mem_cons.mpr ⟨amTB_of (i := 101) (by decide +kernel) (by decide +kernel), List.forall_mem_cons.mpr ⟨amTB_of (i := 103) (by decide +kernel) (by decide +kernel), fun _ h => absurd h List.not_mem_nil⟩⟩
theorem amIn_2 : Cond.initialized (amN 2) ∈ amTB := amTB_of (i := 7) (by decide +kernel) (by decide +kernel)
theorem amIs_2 : Cond.instantiable (amN 2) (amNF 2) ∈ amTB := amTB_of (i := 36) (by decide +kernel) (by decide +kernel)
theorem amU_2 : ∀ w ∈ u_ws (amN 2) (amTT 2) (amNF 2), w ∈ amTB := List.forall_mem_cons.mpr ⟨amTB_of (i := 57) (by decide +kernel) (by decide +kernel), List.forall_mem_cons.mpr ⟨amTB_of (i := 59) (by decide +kernel) (by decide +kernel), List.forall_mem_cons.mpr ⟨amTB_of (i := 61) (by decide +kernel) (by decide +kernel), List.forall_mem_cons.mpr ⟨amTB_of (i := 63) (by decide +kernel) (by decide +kernel), List.forall_mem_cons.mpr ⟨amTB_of (i := 65) (by decide +kernel) (by decide +kernel), List.forall_mem_cons.mpr ⟨amTB_of (i := 67) (by decide +kernel) (by decide +kernel), fun _ h => absurd h List.not_mem_nil⟩⟩⟩⟩⟩⟩
theorem amIn_3 : Cond.initialized (amN 3) ∈ amTB := amTB_of (i := 6) (by decide +kernel) (by decide +kernel)
theorem amIs_3 : Cond.instantiable (amN 3) (amNF 3) ∈ amTB := amTB_of (i := 27) (by decide +kernel) (by decide +kernel)
theorem amU_3 : ∀ w ∈ u_ws (amN 3) (amTT 3) (amNF 3), w ∈ amTB := List.forall_mem_cons.mpr ⟨amTB_of (i := 111) (by decide +kernel) (by decide +kernel), List.forall_mem_cons.mpr ⟨amTB_of (i := 113) (by decide +kernel) (by decide +kernel), List.forall_mem_cons.mpr ⟨amTB_of (i := 115) (by decide +kernel) (by decide +kernel), List.forall_mem_cons.mpr ⟨amTB_of (i := 117) (by decide +kernel) (by decide +kernel), List.forall_mem_cons.mpr ⟨amTB_of (i := 119) (by decide +kernel) (by decide +kernel), fun _ h => absurd h List.not_mem_nil⟩⟩⟩⟩⟩
theorem amIn_5 : Cond.initialized (amN 5) ∈ amTB := amTB_of (i := 5) (by decide +kernel) (by decide +kernel)
theorem amCl_3_9 : amClsP (3, 9, 2) := ⟨amTB_of (i := 34) (by decide +kernel) (by decide +kernel), amIs_2, amIn_2, by decide +kernel⟩
theorem amCl_3_16 : amClsP (3, 16, 0) := ⟨amTB_of (i := 72) (by decide +kernel) (by decide +kernel), amIs_0, amIn_0, by decide +kernel⟩
theorem amCl_3_29 : amClsP (3, 29, 1) := ⟨amTB_of (i := 93) (by decide +kernel) (by decide +kernel), amIs_1, amIn_1, by decide +kernel⟩
theorem amCl_5_24 : amClsP (5, 24, 3) := ⟨amTB_of (i := 26) (by decide +kernel) (by decide +kernel), amIs_3, amIn_3, by decide +kernel⟩
theorem amClsOk : ∀ q ∈ amClsL, amClsP q := List.forall_mem_cons.mpr ⟨amCl_3_9, List.forall_mem_cons.mpr ⟨amCl_3_16, List.forall_mem_cons.mpr ⟨amCl_3_29, List.forall_mem_cons.mpr ⟨amCl_5_24, fun _ h => absurd h List.not_mem_nil⟩⟩⟩⟩
theorem amTg_0 : amTgtP amR0 := ⟨amTB_of (i := 76) (by decide +kernel) (by decide +kernel), amIn_0, rfl, by decide +kernel, by decide +kernel, by decide +kernel⟩
theorem amAt_0 : amAll[0]? = some (amR0, amC0) := rfl
theorem amTg_1 : amTgtP amR1 := ⟨amTB_of (i := 257) (by decide +kernel) (by decide +kernel), amIn_0, rfl, by decide +kernel, by decide +kernel, by decide +kernel⟩
theorem amAt_1 : amAll[1]? = some (amR1, amC1) := rfl
theorem amTg_2 : amTgtP amR2 := ⟨amTB_of (i := 293) (by decide +kernel) (by decide +kernel), amIn_0, rfl, by decide +kernel, by decide +kernel, by decide +kernel⟩
theorem amAt_2 : amAll[2]? = some (amR2, amC2) := rfl
theorem amTg_3 : amTgtP amR3 := ⟨amTB_of (i := 364) (by decide +kernel) (by decide +kernel), amIn_0, rfl, by decide +kernel, by decide +kernel, by decide +kernel⟩
theorem amAt_3 : amAll[3]? = some (amR3, amC3) := rfl
theorem amTg_4 : amTgtP amR4 := ⟨amTB_of (i := 386) (by decide +kernel) (by decide +kernel), amIn_0, rfl, by decide +kernel, by decide +kernel, by decide +kernel⟩
theorem amAt_4 : amAll[4]? = some (amR4, amC4) := rfl
theorem amTg_5 : amTgtP amR5 := ⟨amTB_of (i := 451) (by decide +kernel) (by decide +kernel), amIn_0, rfl, by decide +kernel, by decide +kernel, by decide +kernel⟩
theorem amAt_5 : amAll[5]? = some (amR5, amC5) := rfl
theorem amTg_6 : amTgtP amR6 := ⟨amTB_of (i := 369) (by decide +kernel) (by decide +kernel), amIn_0, rfl, by decide +kernel, by decide +kernel, by decide +kernel⟩
theorem amAt_6 : amAll[6]? = some (amR6, amC6) := rfl
theorem amTg_7 : amTgtP amR7 := ⟨amTB_of (i := 607) (by decide +kernel) (by decide +kernel), amIn_0, rfl, by decide +kernel, by decide +kernel, by decide +kernel⟩
theorem amAt_7 : amAll[7]? = some (amR7, amC7) := rfl
theorem amTg_8 : amTgtP amR8 := ⟨amTB_of (i := 300) (by decide +kernel) (by decide +kernel), amIn_0, rfl, by decide +kernel, by decide +kernel, by decide +kernel⟩
theorem amAt_8 : amAll[8]? = some (amR8, amC8) := rfl
theorem amTg_9 : amTgtP amR9 := ⟨amTB_of (i := 97) (by decide +kernel) (by decide +kernel), amIn_1, rfl, by decide +kernel, by decide +kernel, by decide +kernel⟩
theorem amAt_9 : amAll[9]? = some (amR9, amC9) := rfl
theorem amTg_10 : amTgtP amR10 := ⟨amTB_of (i := 473) (by decide +kernel) (by decide +kernel), amIn_1, rfl, by decide +kernel, by decide +kernel, by decide +kernel⟩
theorem amAt_10 : amAll[10]? = some (amR10, amC10) := rfl
theorem amTg_11 : amTgtP amR11 := ⟨amTB_of (i := 483) (by decide +kernel) (by decide +kernel), amIn_1, rfl, by decide +kernel, by decide +kernel, by decide +kernel⟩
theorem amAt_11 : amAll[11]? = some (amR11, amC11) := rfl
theorem amTg_12 : amTgtP amR12 := ⟨amTB_of (i := 488) (by decide +kernel) (by decide +kernel), amIn_1, rfl, by decide +kernel, by decide +kernel, by decide +kernel⟩
theorem amAt_12 : amAll[12]? = some (amR12, amC12) := rfl
theorem amTg_13 : amTgtP amR13 := ⟨amTB_of (i := 39) (by decide +kernel) (by decide +kernel), amIn_2, rfl, by decide +kernel, by decide +kernel, by decide +kernel⟩
theorem amAt_13 : amAll[13]? = some (amR13, amC13) := rfl
theorem amTg_14 : amTgtP amR14 := ⟨amTB_of (i := 261) (by decide +kernel) (by decide +kernel), amIn_2, rfl, by decide +kernel, by decide +kernel, by decide +kernel⟩
theorem amAt_14 : amAll[14]? = some (amR14, amC14) := rfl
theorem amTg_15 : amTgtP amR15 := ⟨amTB_of (i := 285) (by decide +kernel) (by decide +kernel), amIn_2, rfl, by decide +kernel, by decide +kernel, by decide +kernel⟩
theorem amAt_15 : amAll[15]? = some (amR15, amC15) := rfl
theorem amTg_16 : amTgtP amR16 := ⟨amTB_of (i := 269) (by decide +kernel) (by decide +kernel), amIn_2, rfl, by decide +kernel, by decide +kernel, by decide +kernel⟩
theorem amAt_16 : amAll[16]? = some (amR16, amC16) := rfl
theorem amTg_17 : amTgtP amR17 := ⟨amTB_of (i := 320) (by decide +kernel) (by decide +kernel), amIn_2, rfl, by decide +kernel, by decide +kernel, by decide +kernel⟩
theorem amAt_17 : amAll[17]? = some (amR17, amC17) := rfl
theorem amTg_18 : amTgtP amR18 := ⟨amTB_of (i := 332) (by decide +kernel) (by decide +kernel), amIn_2, rfl, by decide +kernel, by decide +kernel, by decide +kernel⟩
theorem amAt_18 : amAll[18]? = some (amR18, amC18) := rfl
theorem amTg_19 : amTgtP amR19 := ⟨amTB_of (i := 289) (by decide +kernel) (by decide +kernel), amIn_2, rfl, by decide +kernel, by decide +kernel, by decide +kernel⟩
theorem amAt_19 : amAll[19]? = some (amR19, amC19) := rfl
theorem amTg_20 : amTgtP amR20 := ⟨amTB_of (i := 378) (by decide +kernel) (by decide +kernel), amIn_2, rfl, by decide +kernel, by decide +kernel, by decide +kernel⟩
theorem amAt_20 : amAll[20]? = some (amR20, amC20) := rfl
theorem amTg_21 : amTgtP amR21 := ⟨amTB_of (i := 527) (by decide +kernel) (by decide +kernel), amIn_2, rfl, by decide +kernel, by decide +kernel, by decide +kernel⟩
theorem amAt_21 : amAll[21]? = some (amR21, amC21) := rfl
theorem amTg_22 : amTgtP amR22 := ⟨amTB_of (i := 477) (by decide +kernel) (by decide +kernel), amIn_2, rfl, by decide +kernel, by decide +kernel, by decide +kernel⟩
theorem amAt_22 : amAll[22]? = some (amR22, amC22) := rfl
theorem amTg_23 : amTgtP amR23 := ⟨amTB_of (i := 265) (by decide +kernel) (by decide +kernel), amIn_2, rfl, by decide +kernel, by decide +kernel, by decide +kernel⟩
theorem amAt_23 : amAll[23]? = some (amR23, amC23) := rfl
theorem amTg_24 : amTgtP amR24 := ⟨amTB_of (i := 277) (by decide +kernel) (by decide +kernel), amIn_2, rfl, by decide +kernel, by decide +kernel, by decide +kernel⟩
theorem amAt_24 : amAll[24]? = some (amR24, amC24) := rfl
theorem amTg_25 : amTgtP amR25 := ⟨amTB_of (i := 273) (by decide +kernel) (by decide +kernel), amIn_2, rfl, by decide +kernel, by decide +kernel, by decide +kernel⟩
theorem amAt_25 : amAll[25]? = some (amR25, amC25) := rfl
theorem amTg_26 : amTgtP amR26 := ⟨amTB_of (i := 281) (by decide +kernel) (by decide +kernel), amIn_2, rfl, by decide +kernel, by decide +kernel, by decide +kernel⟩
theorem amAt_26 : amAll[26]? = some (amR26, amC26) := rfl
theorem amTg_27 : amTgtP amR27 := ⟨amTB_of (i := 560) (by decide +kernel) (by decide +kernel), amIn_2, rfl, by decide +kernel, by decide +kernel, by decide +kernel⟩
theorem amAt_27 : amAll[27]? = some (amR27, amC27) := rfl
theorem amTg_28 : amTgtP amR28 := ⟨amTB_of (i := 408) (by decide +kernel) (by decide +kernel), amIn_2, rfl, by decide +kernel, by decide +kernel, by decide +kernel⟩
theorem amAt_28 : amAll[28]? = some (amR28, amC28) := rfl
theorem amTg_29 : amTgtP amR29 := ⟨amTB_of (i := 502) (by decide +kernel) (by decide +kernel), amIn_2, rfl, by decide +kernel, by decide +kernel, by decide +kernel⟩
theorem amAt_29 : amAll[29]? = some (amR29, amC29) := rfl
theorem amTg_30 : amTgtP amR30 := ⟨amTB_of (i := 595) (by decide +kernel) (by decide +kernel), amIn_2, rfl, by decide +kernel, by decide +kernel, by decide +kernel⟩
theorem amAt_30 : amAll[30]? = some (amR30, amC30) := rfl
theorem amTg_31 : amTgtP amR31 := ⟨amTB_of (i := 253) (by decide +kernel) (by decide +kernel), amIn_2, rfl, by decide +kernel, by decide +kernel, by decide +kernel⟩
theorem amAt_31 : amAll[31]? = some (amR31, amC31) := rfl
theorem amTg_32 : amTgtP amR32 := ⟨amTB_of (i := 219) (by decide +kernel) (by decide +kernel), amIn_2, rfl, by decide +kernel, by decide +kernel, by decide +kernel⟩
theorem amAt_32 : amAll[32]? = some (amR32, amC32) := rfl
theorem amTg_33 : amTgtP amR33 := ⟨amTB_of (i := 311) (by decide +kernel) (by decide +kernel), amIn_2, rfl, by decide +kernel, by decide +kernel, by decide +kernel⟩
theorem amAt_33 : amAll[33]? = some (amR33, amC33) := rfl
theorem amTg_34 : amTgtP amR34 := ⟨amTB_of (i := 316) (by decide +kernel) (by decide +kernel), amIn_2, rfl, by decide +kernel, by decide +kernel, by decide +kernel⟩
theorem amAt_34 : amAll[34]? = some (amR34, amC34) := rfl
theorem amTg_35 : amTgtP amR35 := ⟨amTB_of (i := 328) (by decide +kernel) (by decide +kernel), amIn_2, rfl, by decide +kernel, by decide +kernel, by decide +kernel⟩
theorem amAt_35 : amAll[35]? = some (amR35, amC35) := rfl
theorem amTg_36 : amTgtP amR36 := ⟨amTB_of (i := 30) (by decide +kernel) (by decide +kernel), amIn_3, rfl, by decide +kernel, by decide +kernel, by decide +kernel⟩
theorem amAt_36 : amAll[36]? = some (amR36, amC36) := rfl
theorem amTg_37 : amTgtP amR37 := ⟨amTB_of (i := 135) (by decide +kernel) (by decide +kernel), amIn_3, rfl, by decide +kernel, by decide +kernel, by decide +kernel⟩
theorem amAt_37 : amAll[37]? = some (amR37, amC37) := rfl
theorem amTg_38 : amTgtP amR38 := ⟨amTB_of (i := 397) (by decide +kernel) (by decide +kernel), amIn_3, rfl, by decide +kernel, by decide +kernel, by decide +kernel⟩
theorem amAt_38 : amAll[38]? = some (amR38, amC38) := rfl
theorem amTg_39 : amTgtP amR39 := ⟨amTB_of (i := 442) (by decide +kernel) (by decide +kernel), amIn_3, rfl, by decide +kernel, by decide +kernel, by decide +kernel⟩
theorem amAt_39 : amAll[39]? = some (amR39, amC39) := rfl
theorem amTg_40 : amTgtP amR40 := ⟨amTB_of (i := 494) (by decide +kernel) (by decide +kernel), amIn_3, rfl, by decide +kernel, by decide +kernel, by decide +kernel⟩
theorem amAt_40 : amAll[40]? = some (amR40, amC40) := rfl
theorem amTg_41 : amTgtP amR41 := ⟨amTB_of (i := 415) (by decide +kernel) (by decide +kernel), amIn_3, rfl, by decide +kernel, by decide +kernel, by decide +kernel⟩
theorem amAt_41 : amAll[41]? = some (amR41, amC41) := rfl
theorem amTg_42 : amTgtP amR42 := ⟨amTB_of (i := 455) (by decide +kernel) (by decide +kernel), amIn_3, rfl, by decide +kernel, by decide +kernel, by decide +kernel⟩
theorem amAt_42 : amAll[42]? = some (amR42, amC42) := rfl
theorem amTg_43 : amTgtP amR43 := ⟨amTB_of (i := 465) (by decide +kernel) (by decide +kernel), amIn_3, rfl, by decide +kernel, by decide +kernel, by decide +kernel⟩
theorem amAt_43 : amAll[43]? = some (amR43, amC43) := rfl
theorem amTg_44 : amTgtP amR44 := ⟨amTB_of (i := 469) (by decide +kernel) (by decide +kernel), amIn_3, rfl, by decide +kernel, by decide +kernel, by decide +kernel⟩
theorem amAt_44 : amAll[44]? = some (amR44, amC44) := rfl
theorem amTg_45 : amTgtP amR45 := ⟨amTB_of (i := 498) (by decide +kernel) (by decide +kernel), amIn_3, rfl, by decide +kernel, by decide +kernel, by decide +kernel⟩
theorem amAt_45 : amAll[45]? = some (amR45, amC45) := rfl
theorem amTg_46 : amTgtP amR46 := ⟨amTB_of (i := 143) (by decide +kernel) (by decide +kernel), amIn_3, rfl, by decide +kernel, by decide +kernel, by decide +kernel⟩
theorem amAt_46 : amAll[46]? = some (amR46, amC46) := rfl
theorem amTg_47 : amTgtP amR47 := ⟨amTB_of (i := 229) (by decide +kernel) (by decide +kernel), amIn_3, rfl, by decide +kernel, by decide +kernel, by decide +kernel⟩
theorem amAt_47 : amAll[47]? = some (amR47, amC47) := rfl
theorem amTg_48 : amTgtP amR48 := ⟨amTB_of (i := 352) (by decide +kernel) (by decide +kernel), amIn_3, rfl, by decide +kernel, by decide +kernel, by decide +kernel⟩
theorem amAt_48 : amAll[48]? = some (amR48, amC48) := rfl
theorem amTg_49 : amTgtP amR49 := ⟨amTB_of (i := 360) (by decide +kernel) (by decide +kernel), amIn_3, rfl, by decide +kernel, by decide +kernel, by decide +kernel⟩
theorem amAt_49 : amAll[49]? = some (amR49, amC49) := rfl
theorem amTg_50 : amTgtP amR50 := ⟨amTB_of (i := 382) (by decide +kernel) (by decide +kernel), amIn_3, rfl, by decide +kernel, by decide +kernel, by decide +kernel⟩
theorem amAt_50 : amAll[50]? = some (amR50, amC50) := rfl
theorem amTg_51 : amTgtP amR51 := ⟨amTB_of (i := 603) (by decide +kernel) (by decide +kernel), amIn_3, rfl, by decide +kernel, by decide +kernel, by decide +kernel⟩
theorem amAt_51 : amAll[51]? = some (amR51, amC51) := rfl
theorem amTg_52 : amTgtP amR52 := ⟨amTB_of (i := 511) (by decide +kernel) (by decide +kernel), amIn_3, rfl, by decide +kernel, by decide +kernel, by decide +kernel⟩
theorem amAt_52 : amAll[52]? = some (amR52, amC52) := rfl
theorem amTg_53 : amTgtP amR53 := ⟨amTB_of (i := 515) (by decide +kernel) (by decide +kernel), amIn_3, rfl, by decide +kernel, by decide +kernel, by decide +kernel⟩
theorem amAt_53 : amAll[53]? = some (amR53, amC53) := rfl
theorem amTg_54 : amTgtP amR54 := ⟨amTB_of (i := 519) (by decide +kernel) (by decide +kernel), amIn_3, rfl, by decide +kernel, by decide +kernel, by decide +kernel⟩
theorem amAt_54 : amAll[54]? = some (amR54, amC54) := rfl
theorem amTg_55 : amTgtP amR55 := ⟨amTB_of (i := 523) (by decide +kernel) (by decide +kernel), amIn_3, rfl, by decide +kernel, by decide +kernel, by decide +kernel⟩
theorem amAt_55 : amAll[55]? = some (amR55, amC55) := rfl
theorem amTg_56 : amTgtP amR56 := ⟨amTB_of (i := 506) (by decide +kernel) (by decide +kernel), amIn_3, rfl, by decide +kernel, by decide +kernel, by decide +kernel⟩
theorem amAt_56 : amAll[56]? = some (amR56, amC56) := rfl
theorem amTg_57 : amTgtP amR57 := ⟨amTB_of (i := 543) (by decide +kernel) (by decide +kernel), amIn_3, rfl, by decide +kernel, by decide +kernel, by decide +kernel⟩
theorem amAt_57 : amAll[57]? = some (amR57, amC57) := rfl
theorem amTg_58 : amTgtP amR58 := ⟨amTB_of (i := 552) (by decide +kernel) (by decide +kernel), amIn_3, rfl, by decide +kernel, by decide +kernel, by decide +kernel⟩
theorem amAt_58 : amAll[58]? = some (amR58, amC58) := rfl
theorem amTg_59 : amTgtP amR59 := ⟨amTB_of (i := 556) (by decide +kernel) (by decide +kernel), amIn_3, rfl, by decide +kernel, by decide +kernel, by decide +kernel⟩
theorem amAt_59 : amAll[59]? = some (amR59, amC59) := rfl
theorem amTg_60 : amTgtP amR60 := ⟨amTB_of (i := 587) (by decide +kernel) (by decide +kernel), amIn_3, rfl, by decide +kernel, by decide +kernel, by decide +kernel⟩
theorem amAt_60 : amAll[60]? = some (amR60, amC60) := rfl
theorem amTg_61 : amTgtP amR61 := ⟨amTB_of (i := 564) (by decide +kernel) (by decide +kernel), amIn_3, rfl, by decide +kernel, by decide +kernel, by decide +kernel⟩
theorem amAt_61 : amAll[61]? = some (amR61, amC61) := rfl
theorem amTg_62 : amTgtP amR62 := ⟨amTB_of (i := 568) (by decide +kernel) (by decide +kernel), amIn_3, rfl, by decide +kernel, by decide +kernel, by decide +kernel⟩
theorem amAt_62 : amAll[62]? = some (amR62, amC62) := rfl
theorem amTg_63 : amTgtP amR63 := ⟨amTB_of (i := 577) (by decide +kernel) (by decide +kernel), amIn_3, rfl, by decide +kernel, by decide +kernel, by decide +kernel⟩
theorem amAt_63 : amAll[63]? = some (amR63, amC63) := rfl
theorem amTg_64 : amTgtP amR64 := ⟨amTB_of (i := 582) (by decide +kernel) (by decide +kernel), amIn_3, rfl, by decide +kernel, by decide +kernel, by decide +kernel⟩
theorem amAt_64 : amAll[64]? = some (amR64, amC64) := rfl
theorem amTg_65 : amTgtP amR65 := ⟨amTB_of (i := 572) (by decide +kernel) (by decide +kernel), amIn_3, rfl, by decide +kernel, by decide +kernel, by decide +kernel⟩
theorem amAt_65 : amAll[65]? = some (amR65, amC65) := rfl
theorem amTg_66 : amTgtP amR66 := ⟨amTB_of (i := 591) (by decide +kernel) (by decide +kernel), amIn_3, rfl, by decide +kernel, by decide +kernel, by decide +kernel⟩
theorem amAt_66 : amAll[66]? = some (amR66, amC66) := rfl
theorem amTg_67 : amTgtP amR67 := ⟨amTB_of (i := 147) (by decide +kernel) (by decide +kernel), amIn_3, rfl, by decide +kernel, by decide +kernel, by decide +kernel⟩
theorem amAt_67 : amAll[67]? = some (amR67, amC67) := rfl
theorem amTg_68 : amTgtP amR68 := ⟨amTB_of (i := 546) (by decide +kernel) (by decide +kernel), amIn_3, rfl, by decide +kernel, by decide +kernel, by decide +kernel⟩
theorem amAt_68 : amAll[68]? = some (amR68, amC68) := rfl
theorem amTg_69 : amTgtP amR69 := ⟨amTB_of (i := 418) (by decide +kernel) (by decide +kernel), amIn_3, rfl, by decide +kernel, by decide +kernel, by decide +kernel⟩
theorem amAt_69 : amAll[69]? = some (amR69, amC69) := rfl
theorem amTg_70 : amTgtP amR70 := ⟨amTB_of (i := 437) (by decide +kernel) (by decide +kernel), amIn_3, rfl, by decide +kernel, by decide +kernel, by decide +kernel⟩
theorem amAt_70 : amAll[70]? = some (amR70, amC70) := rfl
theorem amTg_71 : amTgtP amR71 := ⟨amTB_of (i := 296) (by decide +kernel) (by decide +kernel), amIn_3, rfl, by decide +kernel, by decide +kernel, by decide +kernel⟩
theorem amAt_71 : amAll[71]? = some (amR71, amC71) := rfl
theorem amTg_72 : amTgtP amR72 := ⟨amTB_of (i := 306) (by decide +kernel) (by decide +kernel), amIn_3, rfl, by decide +kernel, by decide +kernel, by decide +kernel⟩
theorem amAt_72 : amAll[72]? = some (amR72, amC72) := rfl
theorem amTg_73 : amTgtP amR73 := ⟨amTB_of (i := 303) (by decide +kernel) (by decide +kernel), amIn_3, rfl, by decide +kernel, by decide +kernel, by decide +kernel⟩
theorem amAt_73 : amAll[73]? = some (amR73, amC73) := rfl
theorem amTg_74 : amTgtP amR74 := ⟨amTB_of (i := 402) (by decide +kernel) (by decide +kernel), amIn_3, rfl, by decide +kernel, by decide +kernel, by decide +kernel⟩
theorem amAt_74 : amAll[74]? = some (amR74, amC74) := rfl
theorem amTg_75 : amTgtP amR75 := ⟨amTB_of (i := 446) (by decide +kernel) (by decide +kernel), amIn_3, rfl, by decide +kernel, by decide +kernel, by decide +kernel⟩
theorem amAt_75 : amAll[75]? = some (amR75, amC75) := rfl
theorem amTg_76 : amTgtP amR76 := ⟨amTB_of (i := 249) (by decide +kernel) (by decide +kernel), amIn_3, rfl, by decide +kernel, by decide +kernel, by decide +kernel⟩
theorem amAt_76 : amAll[76]? = some (amR76, amC76) := rfl
theorem amTg_77 : amTgtP amR77 := ⟨amTB_of (i := 124) (by decide +kernel) (by decide +kernel), amIn_5, rfl, by decide +kernel, by decide +kernel, by decide +kernel⟩
theorem amAt_77 : amAll[77]? = some (amR77, amC77) := rfl
theorem amTg_78 : amTgtP amR78 := ⟨amTB_of (i := 342) (by decide +kernel) (by decide +kernel), amIn_5, rfl, by decide +kernel, by decide +kernel, by decide +kernel⟩
theorem amAt_78 : amAll[78]? = some (amR78, amC78) := rfl
theorem amTg_79 : amTgtP amR79 := ⟨amTB_of (i := 339) (by decide +kernel) (by decide +kernel), amIn_5, rfl, by decide +kernel, by decide +kernel, by decide +kernel⟩
theorem amAt_79 : amAll[79]? = some (amR79, amC79) := rfl
theorem amTg_80 : amTgtP amR80 := ⟨amTB_of (i := 461) (by decide +kernel) (by decide +kernel), amIn_5, rfl, by decide +kernel, by decide +kernel, by decide +kernel⟩
theorem amAt_80 : amAll[80]? = some (amR80, amC80) := rfl
theorem amTg_81 : amTgtP amR81 := ⟨amTB_of (i := 536) (by decide +kernel) (by decide +kernel), amIn_5, rfl, by decide +kernel, by decide +kernel, by decide +kernel⟩
theorem amAt_81 : amAll[81]? = some (amR81, amC81) := rfl
theorem amTg_82 : amTgtP amR82 := ⟨amTB_of (i := 533) (by decide +kernel) (by decide +kernel), amIn_5, rfl, by decide +kernel, by decide +kernel, by decide +kernel⟩
theorem amAt_82 : amAll[82]? = some (amR82, amC82) := rfl
theorem amTg_83 : amTgtP amR83 := ⟨amTB_of (i := 539) (by decide +kernel) (by decide +kernel), amIn_5, rfl, by decide +kernel, by decide +kernel, by decide +kernel⟩
theorem amAt_83 : amAll[83]? = some (amR83, amC83) := rfl
theorem amTg_84 : amTgtP amR84 := ⟨amTB_of (i := 530) (by decide +kernel) (by decide +kernel), amIn_5, rfl, by decide +kernel, by decide +kernel, by decide +kernel⟩
theorem amAt_84 : amAll[84]? = some (amR84, amC84) := rfl
theorem amTg_85 : amTgtP amR85 := ⟨amTB_of (i := 458) (by decide +kernel) (by decide +kernel), amIn_5, rfl, by decide +kernel, by decide +kernel, by decide +kernel⟩
theorem amAt_85 : amAll[85]? = some (amR85, amC85) := rfl
theorem amTg_86 : amTgtP amR86 := ⟨amTB_of (i := 599) (by decide +kernel) (by decide +kernel), amIn_5, rfl, by decide +kernel, by decide +kernel, by decide +kernel⟩
theorem amAt_86 : amAll[86]? = some (amR86, amC86) := rfl
theorem amTg_87 : amTgtP amR87 := ⟨amTB_of (i := 129) (by decide +kernel) (by decide +kernel), amIn_5, rfl, by decide +kernel, by decide +kernel, by decide +kernel⟩
theorem amAt_87 : amAll[87]? = some (amR87, amC87) := rfl
theorem amTg_88 : amTgtP amR88 := ⟨amTB_of (i := 393) (by decide +kernel) (by decide +kernel), amIn_5, rfl, by decide +kernel, by decide +kernel, by decide +kernel⟩
theorem amAt_88 : amAll[88]? = some (amR88, amC88) := rfl
theorem amTg_89 : amTgtP amR89 := ⟨amTB_of (i := 411) (by decide +kernel) (by decide +kernel), amIn_5, rfl, by decide +kernel, by decide +kernel, by decide +kernel⟩
theorem amAt_89 : amAll[89]? = some (amR89, amC89) := rfl
theorem amTg_90 : amTgtP amR90 := ⟨amTB_of (i := 225) (by decide +kernel) (by decide +kernel), amIn_5, rfl, by decide +kernel, by decide +kernel, by decide +kernel⟩
theorem amAt_90 : amAll[90]? = some (amR90, amC90) := rfl
theorem amTg_91 : amTgtP amR91 := ⟨amTB_of (i := 348) (by decide +kernel) (by decide +kernel), amIn_5, rfl, by decide +kernel, by decide +kernel, by decide +kernel⟩
theorem amAt_91 : amAll[91]? = some (amR91, amC91) := rfl
theorem amTg_92 : amTgtP amR92 := ⟨amTB_of (i := 356) (by decide +kernel) (by decide +kernel), amIn_5, rfl, by decide +kernel, by decide +kernel, by decide +kernel⟩
theorem amAt_92 : amAll[92]? = some (amR92, amC92) := rfl
theorem amTg_93 : amTgtP amR93 := ⟨amTB_of (i := 345) (by decide +kernel) (by decide +kernel), amIn_5, rfl, by decide +kernel, by decide +kernel, by decide +kernel⟩
theorem amAt_93 : amAll[93]? = some (amR93, amC93) := rfl
theorem amTg_94 : amTgtP amR94 := ⟨amTB_of (i := 390) (by decide +kernel) (by decide +kernel), amIn_5, rfl, by decide +kernel, by decide +kernel, by decide +kernel⟩
theorem amAt_94 : amAll[94]? = some (amR94, amC94) := rfl
theorem amTg_95 : amTgtP amR95 := ⟨amTB_of (i := 222) (by decide +kernel) (by decide +kernel), amIn_5, rfl, by decide +kernel, by decide +kernel, by decide +kernel⟩
theorem amAt_95 : amAll[95]? = some (amR95, amC95) := rfl
theorem amTg_96 : amTgtP amR96 := ⟨amTB_of (i := 25) (by decide +kernel) (by decide +kernel), amIn_5, rfl, by decide +kernel, by decide +kernel, by decide +kernel⟩
theorem amAt_96 : amAll[96]? = some (amR96, amC96) := rfl
theorem amTg_97 : amTgtP amR97 := ⟨amTB_of (i := 19) (by decide +kernel) (by decide +kernel), amIn_5, rfl, by decide +kernel, by decide +kernel, by decide +kernel⟩
theorem amAt_97 : amAll[97]? = some (amR97, amC97) := rfl
theorem amTg_99 : amTgtP amR99 := ⟨amTB_of (i := 373) (by decide +kernel) (by decide +kernel), amIn_0, rfl, by decide +kernel, by decide +kernel, by decide +kernel⟩
theorem amAt_99 : amAll[99]? = some (amR99, amC99) := rfl
theorem amL_0_22 : amLnkP (0, 22, 0, 1, 0) amR1 := ⟨by decide +kernel, amTg_1, amTB_of (i := 365) (by decide +kernel) (by decide +kernel), amTB_of (i := 255) (by decide +kernel) (by decide +kernel), amTB_of (i := 256) (by decide +kernel) (by decide +kernel), by decide +kernel, rfl⟩
theorem amL_0_25 : amLnkP (0, 25, 0, 6, 2) amR6 := ⟨by decide +kernel, amTg_6, amTB_of (i := 366) (by decide +kernel) (by decide +kernel), amTB_of (i := 367) (by decide +kernel) (by decide +kernel), amTB_of (i := 368) (by decide +kernel) (by decide +kernel), by decide +kernel, rfl⟩
theorem amL_0_29 : amLnkP (0, 29, 0, 99, 3) amR99 := ⟨by decide +kernel, amTg_99, amTB_of (i := 370) (by decide +kernel) (by decide +kernel), amTB_of (i := 371) (by decide +kernel) (by decide +kernel), amTB_of (i := 372) (by decide +kernel) (by decide +kernel), by decide +kernel, rfl⟩
theorem amL_0_33 : amLnkP (0, 33, 0, 2, 2) amR2 := ⟨by decide +kernel, amTg_2, amTB_of (i := 374) (by decide +kernel) (by decide +kernel), amTB_of (i := 291) (by decide +kernel) (by decide +kernel), amTB_of (i := 292) (by decide +kernel) (by decide +kernel), by decide +kernel, rfl⟩
theorem amL_0_42 : amLnkP (0, 42, 2, 73, 1) amR73 := ⟨by decide +kernel, amTg_73, by decide +kernel, amTB_of (i := 302) (by decide +kernel) (by decide +kernel), rfl⟩
theorem amL_1_18 : amLnkP (1, 18, 0, 22, 0) amR22 := ⟨by decide +kernel, amTg_22, amTB_of (i := 474) (by decide +kernel) (by decide +kernel), amTB_of (i := 475) (by decide +kernel) (by decide +kernel), amTB_of (i := 476) (by decide +kernel) (by decide +kernel), by decide +kernel, rfl⟩
theorem amL_1_24 : amLnkP (1, 24, 0, 14, 0) amR14 := ⟨by decide +kernel, amTg_14, amTB_of (i := 478) (by decide +kernel) (by decide +kernel), amTB_of (i := 259) (by decide +kernel) (by decide +kernel), amTB_of (i := 260) (by decide +kernel) (by decide +kernel), by decide +kernel, rfl⟩
theorem amL_1_27 : amLnkP (1, 27, 0, 16, 1) amR16 := ⟨by decide +kernel, amTg_16, amTB_of (i := 479) (by decide +kernel) (by decide +kernel), amTB_of (i := 267) (by decide +kernel) (by decide +kernel), amTB_of (i := 268) (by decide +kernel) (by decide +kernel), by decide +kernel, rfl⟩
theorem amL_1_31 : amLnkP (1, 31, 0, 15, 1) amR15 := ⟨by decide +kernel, amTg_15, amTB_of (i := 480) (by decide +kernel) (by decide +kernel), amTB_of (i := 283) (by decide +kernel) (by decide +kernel), amTB_of (i := 284) (by decide +kernel) (by decide +kernel), by decide +kernel, rfl⟩
theorem amL_1_35 : amLnkP (1, 35, 1, 11, 3) amR11 := ⟨by decide +kernel, amTg_11, amTB_of (i := 481) (by decide +kernel) (by decide +kernel), amTB_of (i := 482) (by decide +kernel) (by decide +kernel)⟩
theorem amL_1_46 : amLnkP (1, 46, 0, 23, 1) amR23 := ⟨by decide +kernel, amTg_23, amTB_of (i := 484) (by decide +kernel) (by decide +kernel), amTB_of (i := 263) (by decide +kernel) (by decide +kernel), amTB_of (i := 264) (by decide +kernel) (by decide +kernel), by decide +kernel, rfl⟩
theorem amL_1_49 : amLnkP (1, 49, 0, 18, 1) amR18 := ⟨by decide +kernel, amTg_18, amTB_of (i := 489) (by decide +kernel) (by decide +kernel), amTB_of (i := 330) (by decide +kernel) (by decide +kernel), amTB_of (i := 331) (by decide +kernel) (by decide +kernel), by decide +kernel, rfl⟩
theorem amL_1_52 : amLnkP (1, 52, 0, 17, 1) amR17 := ⟨by decide +kernel, amTg_17, amTB_of (i := 490) (by decide +kernel) (by decide +kernel), amTB_of (i := 318) (by decide +kernel) (by decide +kernel), amTB_of (i := 319) (by decide +kernel) (by decide +kernel), by decide +kernel, rfl⟩
theorem amL_2_32 : amLnkP (2, 32, 0, 14, 0) amR14 := ⟨by decide +kernel, amTg_14, amTB_of (i := 258) (by decide +kernel) (by decide +kernel), amTB_of (i := 259) (by decide +kernel) (by decide +kernel), amTB_of (i := 260) (by decide +kernel) (by decide +kernel), by decide +kernel, rfl⟩
theorem amL_2_36 : amLnkP (2, 36, 0, 15, 1) amR15 := ⟨by decide +kernel, amTg_15, amTB_of (i := 282) (by decide +kernel) (by decide +kernel), amTB_of (i := 283) (by decide +kernel) (by decide +kernel), amTB_of (i := 284) (by decide +kernel) (by decide +kernel), by decide +kernel, rfl⟩
theorem amL_2_40 : amLnkP (2, 40, 0, 16, 1) amR16 := ⟨by decide +kernel, amTg_16, amTB_of (i := 266) (by decide +kernel) (by decide +kernel), amTB_of (i := 267) (by decide +kernel) (by decide +kernel), amTB_of (i := 268) (by decide +kernel) (by decide +kernel), by decide +kernel, rfl⟩
theorem amL_2_44 : amLnkP (2, 44, 0, 24, 1) amR24 := ⟨by decide +kernel, amTg_24, amTB_of (i := 274) (by decide +kernel) (by decide +kernel), amTB_of (i := 275) (by decide +kernel) (by decide +kernel), amTB_of (i := 276) (by decide +kernel) (by decide +kernel), by decide +kernel, rfl⟩
theorem amL_2_47 : amLnkP (2, 47, 0, 26, 1) amR26 := ⟨by decide +kernel, amTg_26, amTB_of (i := 278) (by decide +kernel) (by decide +kernel), amTB_of (i := 279) (by decide +kernel) (by decide +kernel), amTB_of (i := 280) (by decide +kernel) (by decide +kernel), by decide +kernel, rfl⟩
theorem amL_2_50 : amLnkP (2, 50, 0, 23, 1) amR23 := ⟨by decide +kernel, amTg_23, amTB_of (i := 262) (by decide +kernel) (by decide +kernel), amTB_of (i := 263) (by decide +kernel) (by decide +kernel), amTB_of (i := 264) (by decide +kernel) (by decide +kernel), by decide +kernel, rfl⟩
theorem amL_2_53 : amLnkP (2, 53, 0, 17, 1) amR17 := ⟨by decide +kernel, amTg_17, amTB_of (i := 317) (by decide +kernel) (by decide +kernel), amTB_of (i := 318) (by decide +kernel) (by decide +kernel), amTB_of (i := 319) (by decide +kernel) (by decide +kernel), by decide +kernel, rfl⟩
theorem amL_2_56 : amLnkP (2, 56, 0, 25, 1) amR25 := ⟨by decide +kernel, amTg_25, amTB_of (i := 270) (by decide +kernel) (by decide +kernel), amTB_of (i := 271) (by decide +kernel) (by decide +kernel), amTB_of (i := 272) (by decide +kernel) (by decide +kernel), by decide +kernel, rfl⟩
theorem amL_2_59 : amLnkP (2, 59, 0, 18, 1) amR18 := ⟨by decide +kernel, amTg_18, amTB_of (i := 329) (by decide +kernel) (by decide +kernel), amTB_of (i := 330) (by decide +kernel) (by decide +kernel), amTB_of (i := 331) (by decide +kernel) (by decide +kernel), by decide +kernel, rfl⟩
theorem amL_2_62 : amLnkP (2, 62, 0, 22, 0) amR22 := ⟨by decide +kernel, amTg_22, amTB_of (i := 596) (by decide +kernel) (by decide +kernel), amTB_of (i := 475) (by decide +kernel) (by decide +kernel), amTB_of (i := 476) (by decide +kernel) (by decide +kernel), by decide +kernel, rfl⟩
theorem amL_2_71 : amLnkP (2, 71, 0, 1, 0) amR1 := ⟨by decide +kernel, amTg_1, amTB_of (i := 254) (by decide +kernel) (by decide +kernel), amTB_of (i := 255) (by decide +kernel) (by decide +kernel), amTB_of (i := 256) (by decide +kernel) (by decide +kernel), by decide +kernel, rfl⟩
theorem amL_2_76 : amLnkP (2, 76, 0, 19, 2) amR19 := ⟨by decide +kernel, amTg_19, amTB_of (i := 286) (by decide +kernel) (by decide +kernel), amTB_of (i := 287) (by decide +kernel) (by decide +kernel), amTB_of (i := 288) (by decide +kernel) (by decide +kernel), by decide +kernel, rfl⟩
theorem amL_2_79 : amLnkP (2, 79, 0, 2, 2) amR2 := ⟨by decide +kernel, amTg_2, amTB_of (i := 290) (by decide +kernel) (by decide +kernel), amTB_of (i := 291) (by decide +kernel) (by decide +kernel), amTB_of (i := 292) (by decide +kernel) (by decide +kernel), by decide +kernel, rfl⟩
theorem amL_2_83 : amLnkP (2, 83, 0, 32, 0) amR32 := ⟨by decide +kernel, amTg_32, amTB_of (i := 312) (by decide +kernel) (by decide +kernel), amTB_of (i := 217) (by decide +kernel) (by decide +kernel), amTB_of (i := 218) (by decide +kernel) (by decide +kernel), by decide +kernel, rfl⟩
theorem amL_2_86 : amLnkP (2, 86, 0, 34, 1) amR34 := ⟨by decide +kernel, amTg_34, amTB_of (i := 313) (by decide +kernel) (by decide +kernel), amTB_of (i := 314) (by decide +kernel) (by decide +kernel), amTB_of (i := 315) (by decide +kernel) (by decide +kernel), by decide +kernel, rfl⟩
theorem amL_2_99 : amLnkP (2, 99, 0, 35, 3) amR35 := ⟨by decide +kernel, amTg_35, amTB_of (i := 325) (by decide +kernel) (by decide +kernel), amTB_of (i := 326) (by decide +kernel) (by decide +kernel), amTB_of (i := 327) (by decide +kernel) (by decide +kernel), by decide +kernel, rfl⟩
theorem amL_2_103 : amLnkP (2, 103, 2, 73, 1) amR73 := ⟨by decide +kernel, amTg_73, by decide +kernel, amTB_of (i := 302) (by decide +kernel) (by decide +kernel), rfl⟩
theorem amL_3_15 : amLnkP (3, 15, 3, 13, 0) amR13 := ⟨by decide +kernel, amTg_13, amTB_of (i := 37) (by decide +kernel) (by decide +kernel), amTB_of (i := 38) (by decide +kernel) (by decide +kernel), rfl, rfl, rfl, by decide +kernel⟩
theorem amL_3_18 : amLnkP (3, 18, 3, 0, 0) amR0 := ⟨by decide +kernel, amTg_0, amTB_of (i := 74) (by decide +kernel) (by decide +kernel), amTB_of (i := 75) (by decide +kernel) (by decide +kernel), rfl, rfl, rfl, by decide +kernel⟩
theorem amL_3_31 : amLnkP (3, 31, 3, 9, 0) amR9 := ⟨by decide +kernel, amTg_9, amTB_of (i := 95) (by decide +kernel) (by decide +kernel), amTB_of (i := 96) (by decide +kernel) (by decide +kernel), rfl, rfl, rfl, by decide +kernel⟩
theorem amL_3_37 : amLnkP (3, 37, 0, 67, 1) amR67 := ⟨by decide +kernel, amTg_67, amTB_of (i := 144) (by decide +kernel) (by decide +kernel), amTB_of (i := 146) (by decide +kernel) (by decide +kernel), amTB_of (i := 0) (by decide +kernel) (by decide +kernel), by decide +kernel, rfl⟩
theorem amL_3_41 : amLnkP (3, 41, 0, 37, 1) amR37 := ⟨by decide +kernel, amTg_37, amTB_of (i := 398) (by decide +kernel) (by decide +kernel), amTB_of (i := 133) (by decide +kernel) (by decide +kernel), amTB_of (i := 134) (by decide +kernel) (by decide +kernel), by decide +kernel, rfl⟩
theorem amL_3_45 : amLnkP (3, 45, 0, 74, 3) amR74 := ⟨by decide +kernel, amTg_74, amTB_of (i := 399) (by decide +kernel) (by decide +kernel), amTB_of (i := 401) (by decide +kernel) (by decide +kernel), amTB_of (i := 3) (by decide +kernel) (by decide +kernel), by decide +kernel, rfl⟩
theorem amL_3_49 : amLnkP (3, 49, 0, 75, 3) amR75 := ⟨by decide +kernel, amTg_75, amTB_of (i := 443) (by decide +kernel) (by decide +kernel), amTB_of (i := 445) (by decide +kernel) (by decide +kernel), amTB_of (i := 4) (by decide +kernel) (by decide +kernel), by decide +kernel, rfl⟩
theorem amL_3_52 : amLnkP (3, 52, 0, 28, 1) amR28 := ⟨by decide +kernel, amTg_28, amTB_of (i := 405) (by decide +kernel) (by decide +kernel), amTB_of (i := 406) (by decide +kernel) (by decide +kernel), amTB_of (i := 407) (by decide +kernel) (by decide +kernel), by decide +kernel, rfl⟩
theorem amL_3_55 : amLnkP (3, 55, 1, 69, 1) amR69 := ⟨by decide +kernel, amTg_69, amTB_of (i := 416) (by decide +kernel) (by decide +kernel), amTB_of (i := 417) (by decide +kernel) (by decide +kernel)⟩
theorem amL_3_59 : amLnkP (3, 59, 1, 70, 1) amR70 := ⟨by decide +kernel, amTg_70, amTB_of (i := 435) (by decide +kernel) (by decide +kernel), amTB_of (i := 436) (by decide +kernel) (by decide +kernel)⟩
theorem amL_3_62 : amLnkP (3, 62, 0, 10, 1) amR10 := ⟨by decide +kernel, amTg_10, amTB_of (i := 470) (by decide +kernel) (by decide +kernel), amTB_of (i := 471) (by decide +kernel) (by decide +kernel), amTB_of (i := 472) (by decide +kernel) (by decide +kernel), by decide +kernel, rfl⟩
theorem amL_3_66 : amLnkP (3, 66, 0, 12, 2) amR12 := ⟨by decide +kernel, amTg_12, amTB_of (i := 485) (by decide +kernel) (by decide +kernel), amTB_of (i := 486) (by decide +kernel) (by decide +kernel), amTB_of (i := 487) (by decide +kernel) (by decide +kernel), by decide +kernel, rfl⟩
theorem amL_3_70 : amLnkP (3, 70, 0, 29, 1) amR29 := ⟨by decide +kernel, amTg_29, amTB_of (i := 499) (by decide +kernel) (by decide +kernel), amTB_of (i := 500) (by decide +kernel) (by decide +kernel), amTB_of (i := 501) (by decide +kernel) (by decide +kernel), by decide +kernel, rfl⟩
theorem amL_3_73 : amLnkP (3, 73, 0, 32, 0) amR32 := ⟨by decide +kernel, amTg_32, amTB_of (i := 216) (by decide +kernel) (by decide +kernel), amTB_of (i := 217) (by decide +kernel) (by decide +kernel), amTB_of (i := 218) (by decide +kernel) (by decide +kernel), by decide +kernel, rfl⟩
theorem amL_3_87 : amLnkP (3, 87, 0, 76, 2) amR76 := ⟨by decide +kernel, amTg_76, amTB_of (i := 246) (by decide +kernel) (by decide +kernel), amTB_of (i := 248) (by decide +kernel) (by decide +kernel), amTB_of (i := 2) (by decide +kernel) (by decide +kernel), by decide +kernel, rfl⟩
theorem amL_3_92 : amLnkP (3, 92, 0, 31, 1) amR31 := ⟨by decide +kernel, amTg_31, amTB_of (i := 250) (by decide +kernel) (by decide +kernel), amTB_of (i := 251) (by decide +kernel) (by decide +kernel), amTB_of (i := 252) (by decide +kernel) (by decide +kernel), by decide +kernel, rfl⟩
theorem amL_3_96 : amLnkP (3, 96, 0, 3, 2) amR3 := ⟨by decide +kernel, amTg_3, amTB_of (i := 361) (by decide +kernel) (by decide +kernel), amTB_of (i := 362) (by decide +kernel) (by decide +kernel), amTB_of (i := 363) (by decide +kernel) (by decide +kernel), by decide +kernel, rfl⟩
theorem amL_3_100 : amLnkP (3, 100, 1, 71, 2) amR71 := ⟨by decide +kernel, amTg_71, amTB_of (i := 294) (by decide +kernel) (by decide +kernel), amTB_of (i := 295) (by decide +kernel) (by decide +kernel)⟩
theorem amL_3_104 : amLnkP (3, 104, 0, 33, 2) amR33 := ⟨by decide +kernel, amTg_33, amTB_of (i := 308) (by decide +kernel) (by decide +kernel), amTB_of (i := 309) (by decide +kernel) (by decide +kernel), amTB_of (i := 310) (by decide +kernel) (by decide +kernel), by decide +kernel, rfl⟩
theorem amL_3_108 : amLnkP (3, 108, 0, 20, 0) amR20 := ⟨by decide +kernel, amTg_20, amTB_of (i := 375) (by decide +kernel) (by decide +kernel), amTB_of (i := 376) (by decide +kernel) (by decide +kernel), amTB_of (i := 377) (by decide +kernel) (by decide +kernel), by decide +kernel, rfl⟩
theorem amL_3_112 : amLnkP (3, 112, 0, 4, 2) amR4 := ⟨by decide +kernel, amTg_4, amTB_of (i := 383) (by decide +kernel) (by decide +kernel), amTB_of (i := 384) (by decide +kernel) (by decide +kernel), amTB_of (i := 385) (by decide +kernel) (by decide +kernel), by decide +kernel, rfl⟩
theorem amL_3_115 : amLnkP (3, 115, 0, 7, 1) amR7 := ⟨by decide +kernel, amTg_7, amTB_of (i := 604) (by decide +kernel) (by decide +kernel), amTB_of (i := 605) (by decide +kernel) (by decide +kernel), amTB_of (i := 606) (by decide +kernel) (by decide +kernel), by decide +kernel, rfl⟩
theorem amL_3_119 : amLnkP (3, 119, 0, 14, 0) amR14 := ⟨by decide +kernel, amTg_14, amTB_of (i := 336) (by decide +kernel) (by decide +kernel), amTB_of (i := 259) (by decide +kernel) (by decide +kernel), amTB_of (i := 260) (by decide +kernel) (by decide +kernel), by decide +kernel, rfl⟩
theorem amL_3_125 : amLnkP (3, 125, 0, 21, 0) amR21 := ⟨by decide +kernel, amTg_21, amTB_of (i := 524) (by decide +kernel) (by decide +kernel), amTB_of (i := 525) (by decide +kernel) (by decide +kernel), amTB_of (i := 526) (by decide +kernel) (by decide +kernel), by decide +kernel, rfl⟩
theorem amL_3_137 : amLnkP (3, 137, 1, 68, 2) amR68 := ⟨by decide +kernel, amTg_68, amTB_of (i := 544) (by decide +kernel) (by decide +kernel), amTB_of (i := 545) (by decide +kernel) (by decide +kernel)⟩
theorem amL_3_141 : amLnkP (3, 141, 0, 15, 1) amR15 := ⟨by decide +kernel, amTg_15, amTB_of (i := 548) (by decide +kernel) (by decide +kernel), amTB_of (i := 283) (by decide +kernel) (by decide +kernel), amTB_of (i := 284) (by decide +kernel) (by decide +kernel), by decide +kernel, rfl⟩
theorem amL_3_151 : amLnkP (3, 151, 0, 27, 1) amR27 := ⟨by decide +kernel, amTg_27, amTB_of (i := 557) (by decide +kernel) (by decide +kernel), amTB_of (i := 558) (by decide +kernel) (by decide +kernel), amTB_of (i := 559) (by decide +kernel) (by decide +kernel), by decide +kernel, rfl⟩
theorem amL_3_164 : amLnkP (3, 164, 0, 25, 1) amR25 := ⟨by decide +kernel, amTg_25, amTB_of (i := 578) (by decide +kernel) (by decide +kernel), amTB_of (i := 271) (by decide +kernel) (by decide +kernel), amTB_of (i := 272) (by decide +kernel) (by decide +kernel), by decide +kernel, rfl⟩
theorem amL_3_167 : amLnkP (3, 167, 0, 26, 1) amR26 := ⟨by decide +kernel, amTg_26, amTB_of (i := 583) (by decide +kernel) (by decide +kernel), amTB_of (i := 279) (by decide +kernel) (by decide +kernel), amTB_of (i := 280) (by decide +kernel) (by decide +kernel), by decide +kernel, rfl⟩
theorem amL_3_170 : amLnkP (3, 170, 0, 24, 1) amR24 := ⟨by decide +kernel, amTg_24, amTB_of (i := 573) (by decide +kernel) (by decide +kernel), amTB_of (i := 275) (by decide +kernel) (by decide +kernel), amTB_of (i := 276) (by decide +kernel) (by decide +kernel), by decide +kernel, rfl⟩
theorem amL_3_173 : amLnkP (3, 173, 0, 30, 0) amR30 := ⟨by decide +kernel, amTg_30, amTB_of (i := 592) (by decide +kernel) (by decide +kernel), amTB_of (i := 593) (by decide +kernel) (by decide +kernel), amTB_of (i := 594) (by decide +kernel) (by decide +kernel), by decide +kernel, rfl⟩
theorem amL_3_187 : amLnkP (3, 187, 0, 8, 0) amR8 := ⟨by decide +kernel, amTg_8, amTB_of (i := 297) (by decide +kernel) (by decide +kernel), amTB_of (i := 298) (by decide +kernel) (by decide +kernel), amTB_of (i := 299) (by decide +kernel) (by decide +kernel), by decide +kernel, rfl⟩
theorem amL_3_190 : amLnkP (3, 190, 1, 72, 1) amR72 := ⟨by decide +kernel, amTg_72, amTB_of (i := 304) (by decide +kernel) (by decide +kernel), amTB_of (i := 305) (by decide +kernel) (by decide +kernel)⟩
theorem amL_3_195 : amLnkP (3, 195, 0, 1, 0) amR1 := ⟨by decide +kernel, amTg_1, amTB_of (i := 403) (by decide +kernel) (by decide +kernel), amTB_of (i := 255) (by decide +kernel) (by decide +kernel), amTB_of (i := 256) (by decide +kernel) (by decide +kernel), by decide +kernel, rfl⟩
theorem amL_3_198 : amLnkP (3, 198, 0, 2, 2) amR2 := ⟨by decide +kernel, amTg_2, amTB_of (i := 404) (by decide +kernel) (by decide +kernel), amTB_of (i := 291) (by decide +kernel) (by decide +kernel), amTB_of (i := 292) (by decide +kernel) (by decide +kernel), by decide +kernel, rfl⟩
theorem amL_3_208 : amLnkP (3, 208, 0, 5, 3) amR5 := ⟨by decide +kernel, amTg_5, amTB_of (i := 448) (by decide +kernel) (by decide +kernel), amTB_of (i := 449) (by decide +kernel) (by decide +kernel), amTB_of (i := 450) (by decide +kernel) (by decide +kernel), by decide +kernel, rfl⟩
theorem amL_5_9 : amLnkP (5, 9, 1, 78, 1) amR78 := ⟨by decide +kernel, amTg_78, amTB_of (i := 340) (by decide +kernel) (by decide +kernel), amTB_of (i := 341) (by decide +kernel) (by decide +kernel)⟩
theorem amL_5_15 : amLnkP (5, 15, 1, 80, 3) amR80 := ⟨by decide +kernel, amTg_80, amTB_of (i := 459) (by decide +kernel) (by decide +kernel), amTB_of (i := 460) (by decide +kernel) (by decide +kernel)⟩
theorem amL_5_19 : amLnkP (5, 19, 1, 81, 5) amR81 := ⟨by decide +kernel, amTg_81, amTB_of (i := 534) (by decide +kernel) (by decide +kernel), amTB_of (i := 535) (by decide +kernel) (by decide +kernel)⟩
theorem amL_5_23 : amLnkP (5, 23, 0, 57, 2) amR57 := ⟨by decide +kernel, amTg_57, amTB_of (i := 540) (by decide +kernel) (by decide +kernel), amTB_of (i := 541) (by decide +kernel) (by decide +kernel), amTB_of (i := 542) (by decide +kernel) (by decide +kernel), by decide +kernel, rfl⟩
theorem amL_5_29 : amLnkP (5, 29, 0, 58, 2) amR58 := ⟨by decide +kernel, amTg_58, amTB_of (i := 549) (by decide +kernel) (by decide +kernel), amTB_of (i := 550) (by decide +kernel) (by decide +kernel), amTB_of (i := 551) (by decide +kernel) (by decide +kernel), by decide +kernel, rfl⟩
theorem amL_5_32 : amLnkP (5, 32, 0, 59, 2) amR59 := ⟨by decide +kernel, amTg_59, amTB_of (i := 553) (by decide +kernel) (by decide +kernel), amTB_of (i := 554) (by decide +kernel) (by decide +kernel), amTB_of (i := 555) (by decide +kernel) (by decide +kernel), by decide +kernel, rfl⟩
theorem amL_5_35 : amLnkP (5, 35, 0, 61, 2) amR61 := ⟨by decide +kernel, amTg_61, amTB_of (i := 561) (by decide +kernel) (by decide +kernel), amTB_of (i := 562) (by decide +kernel) (by decide +kernel), amTB_of (i := 563) (by decide +kernel) (by decide +kernel), by decide +kernel, rfl⟩
theorem amL_5_39 : amLnkP (5, 39, 0, 62, 2) amR62 := ⟨by decide +kernel, amTg_62, amTB_of (i := 565) (by decide +kernel) (by decide +kernel), amTB_of (i := 566) (by decide +kernel) (by decide +kernel), amTB_of (i := 567) (by decide +kernel) (by decide +kernel), by decide +kernel, rfl⟩
theorem amL_5_42 : amLnkP (5, 42, 0, 65, 2) amR65 := ⟨by decide +kernel, amTg_65, amTB_of (i := 569) (by decide +kernel) (by decide +kernel), amTB_of (i := 570) (by decide +kernel) (by decide +kernel), amTB_of (i := 571) (by decide +kernel) (by decide +kernel), by decide +kernel, rfl⟩
theorem amL_5_45 : amLnkP (5, 45, 0, 63, 2) amR63 := ⟨by decide +kernel, amTg_63, amTB_of (i := 574) (by decide +kernel) (by decide +kernel), amTB_of (i := 575) (by decide +kernel) (by decide +kernel), amTB_of (i := 576) (by decide +kernel) (by decide +kernel), by decide +kernel, rfl⟩
theorem amL_5_48 : amLnkP (5, 48, 1, 82, 6) amR82 := ⟨by decide +kernel, amTg_82, amTB_of (i := 531) (by decide +kernel) (by decide +kernel), amTB_of (i := 532) (by decide +kernel) (by decide +kernel)⟩
theorem amL_5_52 : amLnkP (5, 52, 1, 83, 6) amR83 := ⟨by decide +kernel, amTg_83, amTB_of (i := 537) (by decide +kernel) (by decide +kernel), amTB_of (i := 538) (by decide +kernel) (by decide +kernel)⟩
theorem amL_5_56 : amLnkP (5, 56, 0, 64, 2) amR64 := ⟨by decide +kernel, amTg_64, amTB_of (i := 579) (by decide +kernel) (by decide +kernel), amTB_of (i := 580) (by decide +kernel) (by decide +kernel), amTB_of (i := 581) (by decide +kernel) (by decide +kernel), by decide +kernel, rfl⟩
theorem amL_5_59 : amLnkP (5, 59, 0, 60, 2) amR60 := ⟨by decide +kernel, amTg_60, amTB_of (i := 584) (by decide +kernel) (by decide +kernel), amTB_of (i := 585) (by decide +kernel) (by decide +kernel), amTB_of (i := 586) (by decide +kernel) (by decide +kernel), by decide +kernel, rfl⟩
theorem amL_5_62 : amLnkP (5, 62, 0, 66, 1) amR66 := ⟨by decide +kernel, amTg_66, amTB_of (i := 588) (by decide +kernel) (by decide +kernel), amTB_of (i := 589) (by decide +kernel) (by decide +kernel), amTB_of (i := 590) (by decide +kernel) (by decide +kernel), by decide +kernel, rfl⟩
theorem amL_5_65 : amLnkP (5, 65, 0, 43, 2) amR43 := ⟨by decide +kernel, amTg_43, amTB_of (i := 462) (by decide +kernel) (by decide +kernel), amTB_of (i := 463) (by decide +kernel) (by decide +kernel), amTB_of (i := 464) (by decide +kernel) (by decide +kernel), by decide +kernel, rfl⟩
theorem amL_5_68 : amLnkP (5, 68, 0, 44, 2) amR44 := ⟨by decide +kernel, amTg_44, amTB_of (i := 466) (by decide +kernel) (by decide +kernel), amTB_of (i := 467) (by decide +kernel) (by decide +kernel), amTB_of (i := 468) (by decide +kernel) (by decide +kernel), by decide +kernel, rfl⟩
theorem amL_5_71 : amLnkP (5, 71, 1, 87, 2) amR87 := ⟨by decide +kernel, amTg_87, amTB_of (i := 127) (by decide +kernel) (by decide +kernel), amTB_of (i := 128) (by decide +kernel) (by decide +kernel)⟩
theorem amL_5_74 : amLnkP (5, 74, 0, 40, 2) amR40 := ⟨by decide +kernel, amTg_40, amTB_of (i := 491) (by decide +kernel) (by decide +kernel), amTB_of (i := 492) (by decide +kernel) (by decide +kernel), amTB_of (i := 493) (by decide +kernel) (by decide +kernel), by decide +kernel, rfl⟩
theorem amL_5_77 : amLnkP (5, 77, 0, 45, 2) amR45 := ⟨by decide +kernel, amTg_45, amTB_of (i := 495) (by decide +kernel) (by decide +kernel), amTB_of (i := 496) (by decide +kernel) (by decide +kernel), amTB_of (i := 497) (by decide +kernel) (by decide +kernel), by decide +kernel, rfl⟩
theorem amL_5_80 : amLnkP (5, 80, 0, 56, 2) amR56 := ⟨by decide +kernel, amTg_56, amTB_of (i := 503) (by decide +kernel) (by decide +kernel), amTB_of (i := 504) (by decide +kernel) (by decide +kernel), amTB_of (i := 505) (by decide +kernel) (by decide +kernel), by decide +kernel, rfl⟩
theorem amL_5_83 : amLnkP (5, 83, 0, 52, 1) amR52 := ⟨by decide +kernel, amTg_52, amTB_of (i := 508) (by decide +kernel) (by decide +kernel), amTB_of (i := 509) (by decide +kernel) (by decide +kernel), amTB_of (i := 510) (by decide +kernel) (by decide +kernel), by decide +kernel, rfl⟩
theorem amL_5_86 : amLnkP (5, 86, 0, 53, 1) amR53 := ⟨by decide +kernel, amTg_53, amTB_of (i := 512) (by decide +kernel) (by decide +kernel), amTB_of (i := 513) (by decide +kernel) (by decide +kernel), amTB_of (i := 514) (by decide +kernel) (by decide +kernel), by decide +kernel, rfl⟩
theorem amL_5_87 : amLnkP (5, 87, 1, 79, 2) amR79 := ⟨by decide +kernel, amTg_79, amTB_of (i := 337) (by decide +kernel) (by decide +kernel), amTB_of (i := 338) (by decide +kernel) (by decide +kernel)⟩
theorem amL_5_91 : amLnkP (5, 91, 0, 54, 1) amR54 := ⟨by decide +kernel, amTg_54, amTB_of (i := 516) (by decide +kernel) (by decide +kernel), amTB_of (i := 517) (by decide +kernel) (by decide +kernel), amTB_of (i := 518) (by decide +kernel) (by decide +kernel), by decide +kernel, rfl⟩
theorem amL_5_94 : amLnkP (5, 94, 0, 55, 1) amR55 := ⟨by decide +kernel, amTg_55, amTB_of (i := 520) (by decide +kernel) (by decide +kernel), amTB_of (i := 521) (by decide +kernel) (by decide +kernel), amTB_of (i := 522) (by decide +kernel) (by decide +kernel), by decide +kernel, rfl⟩
theorem amL_5_97 : amLnkP (5, 97, 1, 84, 5) amR84 := ⟨by decide +kernel, amTg_84, amTB_of (i := 528) (by decide +kernel) (by decide +kernel), amTB_of (i := 529) (by decide +kernel) (by decide +kernel)⟩
theorem amL_5_101 : amLnkP (5, 101, 0, 51, 2) amR51 := ⟨by decide +kernel, amTg_51, amTB_of (i := 600) (by decide +kernel) (by decide +kernel), amTB_of (i := 601) (by decide +kernel) (by decide +kernel), amTB_of (i := 602) (by decide +kernel) (by decide +kernel), by decide +kernel, rfl⟩
theorem amL_5_106 : amLnkP (5, 106, 0, 38, 2) amR38 := ⟨by decide +kernel, amTg_38, amTB_of (i := 394) (by decide +kernel) (by decide +kernel), amTB_of (i := 395) (by decide +kernel) (by decide +kernel), amTB_of (i := 396) (by decide +kernel) (by decide +kernel), by decide +kernel, rfl⟩
theorem amL_5_111 : amLnkP (5, 111, 0, 41, 3) amR41 := ⟨by decide +kernel, amTg_41, amTB_of (i := 412) (by decide +kernel) (by decide +kernel), amTB_of (i := 413) (by decide +kernel) (by decide +kernel), amTB_of (i := 414) (by decide +kernel) (by decide +kernel), by decide +kernel, rfl⟩
theorem amL_5_115 : amLnkP (5, 115, 0, 47, 1) amR47 := ⟨by decide +kernel, amTg_47, amTB_of (i := 226) (by decide +kernel) (by decide +kernel), amTB_of (i := 227) (by decide +kernel) (by decide +kernel), amTB_of (i := 228) (by decide +kernel) (by decide +kernel), by decide +kernel, rfl⟩
theorem amL_5_118 : amLnkP (5, 118, 0, 48, 1) amR48 := ⟨by decide +kernel, amTg_48, amTB_of (i := 349) (by decide +kernel) (by decide +kernel), amTB_of (i := 350) (by decide +kernel) (by decide +kernel), amTB_of (i := 351) (by decide +kernel) (by decide +kernel), by decide +kernel, rfl⟩
theorem amL_5_121 : amLnkP (5, 121, 0, 49, 2) amR49 := ⟨by decide +kernel, amTg_49, amTB_of (i := 357) (by decide +kernel) (by decide +kernel), amTB_of (i := 358) (by decide +kernel) (by decide +kernel), amTB_of (i := 359) (by decide +kernel) (by decide +kernel), by decide +kernel, rfl⟩
theorem amL_5_124 : amLnkP (5, 124, 1, 93, 2) amR93 := ⟨by decide +kernel, amTg_93, amTB_of (i := 343) (by decide +kernel) (by decide +kernel), amTB_of (i := 344) (by decide +kernel) (by decide +kernel)⟩
theorem amL_5_127 : amLnkP (5, 127, 1, 88, 3) amR88 := ⟨by decide +kernel, amTg_88, amTB_of (i := 391) (by decide +kernel) (by decide +kernel), amTB_of (i := 392) (by decide +kernel) (by decide +kernel)⟩
theorem amL_5_131 : amLnkP (5, 131, 1, 89, 4) amR89 := ⟨by decide +kernel, amTg_89, amTB_of (i := 409) (by decide +kernel) (by decide +kernel), amTB_of (i := 410) (by decide +kernel) (by decide +kernel)⟩
theorem amL_5_135 : amLnkP (5, 135, 0, 39, 2) amR39 := ⟨by decide +kernel, amTg_39, amTB_of (i := 439) (by decide +kernel) (by decide +kernel), amTB_of (i := 440) (by decide +kernel) (by decide +kernel), amTB_of (i := 441) (by decide +kernel) (by decide +kernel), by decide +kernel, rfl⟩
theorem amL_5_138 : amLnkP (5, 138, 0, 42, 3) amR42 := ⟨by decide +kernel, amTg_42, amTB_of (i := 452) (by decide +kernel) (by decide +kernel), amTB_of (i := 453) (by decide +kernel) (by decide +kernel), amTB_of (i := 454) (by decide +kernel) (by decide +kernel), by decide +kernel, rfl⟩
theorem amL_5_141 : amLnkP (5, 141, 1, 90, 2) amR90 := ⟨by decide +kernel, amTg_90, amTB_of (i := 223) (by decide +kernel) (by decide +kernel), amTB_of (i := 224) (by decide +kernel) (by decide +kernel)⟩
theorem amL_5_145 : amLnkP (5, 145, 1, 91, 2) amR91 := ⟨by decide +kernel, amTg_91, amTB_of (i := 346) (by decide +kernel) (by decide +kernel), amTB_of (i := 347) (by decide +kernel) (by decide +kernel)⟩
theorem amL_5_148 : amLnkP (5, 148, 1, 92, 3) amR92 := ⟨by decide +kernel, amTg_92, amTB_of (i := 354) (by decide +kernel) (by decide +kernel), amTB_of (i := 355) (by decide +kernel) (by decide +kernel)⟩
theorem amL_5_151 : amLnkP (5, 151, 0, 50, 2) amR50 := ⟨by decide +kernel, amTg_50, amTB_of (i := 379) (by decide +kernel) (by decide +kernel), amTB_of (i := 380) (by decide +kernel) (by decide +kernel), amTB_of (i := 381) (by decide +kernel) (by decide +kernel), by decide +kernel, rfl⟩
theorem amL_5_154 : amLnkP (5, 154, 3, 36, 0) amR36 := ⟨by decide +kernel, amTg_36, amTB_of (i := 28) (by decide +kernel) (by decide +kernel), amTB_of (i := 29) (by decide +kernel) (by decide +kernel), rfl, rfl, rfl, by decide +kernel⟩
theorem amL_5_155 : amLnkP (5, 155, 1, 77, 3) amR77 := ⟨by decide +kernel, amTg_77, amTB_of (i := 122) (by decide +kernel) (by decide +kernel), amTB_of (i := 123) (by decide +kernel) (by decide +kernel)⟩
theorem amL_5_158 : amLnkP (5, 158, 0, 37, 1) amR37 := ⟨by decide +kernel, amTg_37, amTB_of (i := 132) (by decide +kernel) (by decide +kernel), amTB_of (i := 133) (by decide +kernel) (by decide +kernel), amTB_of (i := 134) (by decide +kernel) (by decide +kernel), by decide +kernel, rfl⟩
theorem amL_5_166 : amLnkP (5, 166, 0, 46, 1) amR46 := ⟨by decide +kernel, amTg_46, amTB_of (i := 140) (by decide +kernel) (by decide +kernel), amTB_of (i := 141) (by decide +kernel) (by decide +kernel), amTB_of (i := 142) (by decide +kernel) (by decide +kernel), by decide +kernel, rfl⟩
theorem amL_5_170 : amLnkP (5, 170, 1, 95, 6) amR95 := ⟨by decide +kernel, amTg_95, amTB_of (i := 220) (by decide +kernel) (by decide +kernel), amTB_of (i := 221) (by decide +kernel) (by decide +kernel)⟩
theorem amL_5_173 : amLnkP (5, 173, 1, 94, 8) amR94 := ⟨by decide +kernel, amTg_94, amTB_of (i := 388) (by decide +kernel) (by decide +kernel), amTB_of (i := 389) (by decide +kernel) (by decide +kernel)⟩
theorem amL_5_177 : amLnkP (5, 177, 1, 85, 5) amR85 := ⟨by decide +kernel, amTg_85, amTB_of (i := 456) (by decide +kernel) (by decide +kernel), amTB_of (i := 457) (by decide +kernel) (by decide +kernel)⟩
theorem amL_5_181 : amLnkP (5, 181, 1, 86, 2) amR86 := ⟨by decide +kernel, amTg_86, amTB_of (i := 597) (by decide +kernel) (by decide +kernel), amTB_of (i := 598) (by decide +kernel) (by decide +kernel)⟩
theorem amL_5_185 : amLnkP (5, 185, 1, 96, 1) amR96 := ⟨by decide +kernel, amTg_96, amTB_of (i := 23) (by decide +kernel) (by decide +kernel), amTB_of (i := 24) (by decide +kernel) (by decide +kernel)⟩
theorem amL_5_193 : amLnkP (5, 193, 1, 97, 1) amR97 := ⟨by decide +kernel, amTg_97, amTB_of (i := 17) (by decide +kernel) (by decide +kernel), amTB_of (i := 18) (by decide +kernel) (by decide +kernel)⟩
theorem am_at {tg : Nat} {P : amRow → Prop} {z : amRow × List (List amEnt)} (h1 : amAll[tg]? = some z) (h : P z.1) : ∀ r, amAll[tg]? = some r → P r.1 := fun r hr => by rw [h1] at hr; cases hr; exact h
set_option maxRecDepth 100000 in
theorem amLnkOk : ∀ q ∈ amLnkL, ∀ r, amAll[q.2.2.2.1]? = some r → amLnkP q r.1 := List.forall_mem_cons.mpr ⟨am_at (P := amLnkP (0, 22, 0, 1, 0)) amAt_1 amL_0_22, List.forall_mem_cons.mpr ⟨am_at (P := amLnkP (0, 25, 0, 6, 2)) amAt_6 amL_0_25, List.forall_mem_cons.mpr ⟨am_at (P := amLnkP (0, 29, 0, 99, 3)) amAt_99 amL_0_29, List.forall_mem_cons.mpr ⟨am_at (P := amLnkP (0, 33, 0, 2, 2)) amAt_2 amL_0_33, List.forall_mem_cons.mpr ⟨am_at (P := amLnkP (0, 42, 2, 73, 1)) amAt_73 amL_0_42, List.forall_mem_cons.mpr ⟨am_at (P := amLnkP (1, 18, 0, 22, 0)) amAt_22 amL_1_18, List.forall_mem_cons.mpr ⟨am_at (P := amLnkP (1, 24, 0, 14, 0)) amAt_14 amL_1_24, List.forall_mem_cons.mpr ⟨am_at (P := amLnkP (1, 27, 0, 16, 1)) amAt_16 amL_1_27, List.forall_mem_cons.mpr ⟨am_at (P := amLnkP (1, 31, 0, 15, 1)) amAt_15 amL_1_31, List.forall_mem_cons.mpr ⟨am_at (P := amLnkP (1, 35, 1, 11, 3)) amAt_11 amL_1_35, List.forall_mem_cons.mpr ⟨am_at (P := amLnkP (1, 46, 0, 23, 1)) amAt_23 amL_1_46, List.forall_mem_cons.mpr ⟨am_at (P := amLnkP (1, 49, 0, 18, 1)) amAt_18 amL_1_49, List.forall_mem_cons.mpr ⟨am_at (P := amLnkP (1, 52, 0, 17, 1)) amAt_17 amL_1_52, List.forall_mem_cons.mpr ⟨am_at (P := amLnkP (2, 32, 0, 14, 0)) amAt_14 amL_2_32, List.forall_mem_cons.mpr ⟨am_at (P := amLnkP (2, 36, 0, 15, 1)) amAt_15 amL_2_36, List.forall_mem_cons.mpr ⟨am_at (P := amLnkP (2, 40, 0, 16, 1)) amAt_16 amL_2_40, List.forall_mem_cons.mpr ⟨am_at (P := amLnkP (2, 44, 0, 24, 1)) amAt_24 amL_2_44, List.forall_mem_cons.mpr ⟨am_at (P := amLnkP (2, 47, 0, 26, 1)) amAt_26 amL_2_47, List.forall_mem_cons.mpr ⟨am_at (P := amLnkP (2, 50, 0, 23, 1)) amAt_23 amL_2_50, List.forall_mem_cons.mpr ⟨am_at (P := amLnkP (2, 53, 0, 17, 1)) amAt_17 amL_2_53, List.forall_mem_cons.mpr ⟨am_at (P := amLnkP (2, 56, 0, 25, 1)) amAt_25 amL_2_56, List.forall_mem_cons.mpr ⟨am_at (P := amLnkP (2, 59, 0, 18, 1)) amAt_18 amL_2_59, List.forall_mem_cons.mpr ⟨am_at (P := amLnkP (2, 62, 0, 22, 0)) amAt_22 amL_2_62, List.forall_mem_cons.mpr ⟨am_at (P := amLnkP (2, 71, 0, 1, 0)) amAt_1 amL_2_71, List.forall_mem_cons.mpr ⟨am_at (P := amLnkP (2, 76, 0, 19, 2)) amAt_19 amL_2_76, List.forall_mem_cons.mpr ⟨am_at (P := amLnkP (2, 79, 0, 2, 2)) amAt_2 amL_2_79, List.forall_mem_cons.mpr ⟨am_at (P := amLnkP (2, 83, 0, 32, 0)) amAt_32 amL_2_83, List.forall_mem_cons.mpr ⟨am_at (P := amLnkP (2, 86, 0, 34, 1)) amAt_34 amL_2_86, List.forall_mem_cons.mpr ⟨am_at (P := amLnkP (2, 99, 0, 35, 3)) amAt_35 amL_2_99, List.forall_mem_cons.mpr ⟨am_at (P := amLnkP (2, 103, 2, 73, 1)) amAt_73 amL_2_103, List.forall_mem_cons.mpr ⟨am_at (P := amLnkP (3, 15, 3, 13, 0)) amAt_13 amL_3_15, List.forall_mem_cons.mpr ⟨am_at (P := amLnkP (3, 18, 3, 0, 0)) amAt_0 amL_3_18, List.forall_mem_cons.mpr ⟨am_at (P := amLnkP (3, 31, 3, 9, 0)) amAt_9 amL_3_31, List.forall_mem_cons.mpr ⟨am_at (P := amLnkP (3, 37, 0, 67, 1)) amAt_67 amL_3_37, List.forall_mem_cons.mpr ⟨am_at (P := amLnkP (3, 41, 0, 37, 1)) amAt_37 amL_3_41, List.forall_mem_cons.mpr ⟨am_at (P := amLnkP (3, 45, 0, 74, 3)) amAt_74 amL_3_45, List.forall_mem_cons.mpr ⟨am_at (P := amLnkP (3, 49, 0, 75, 3)) amAt_75 amL_3_49, List.forall_mem_cons.mpr ⟨am_at (P := amLnkP (3, 52, 0, 28, 1)) amAt_28 amL_3_52, List.forall_mem_cons.mpr ⟨am_at (P := amLnkP (3, 55, 1, 69, 1)) amAt_69 amL_3_55, List.forall_mem_cons.mpr ⟨am_at (P := amLnkP (3, 59, 1, 70, 1)) amAt_70 amL_3_59, List.forall_mem_cons.mpr ⟨am_at (P := amLnkP (3, 62, 0, 10, 1)) amAt_10 amL_3_62, List.forall_mem_cons.mpr ⟨am_at (P := amLnkP (3, 66, 0, 12, 2)) amAt_12 amL_3_66, List.forall_mem_cons.mpr ⟨am_at (P := amLnkP (3, 70, 0, 29, 1)) amAt_29 amL_3_70, List.forall_mem_cons.mpr ⟨am_at (P := amLnkP (3, 73, 0, 32, 0)) amAt_32 amL_3_73, List.forall_mem_cons.mpr ⟨am_at (P := amLnkP (3, 87, 0, 76, 2)) amAt_76 amL_3_87, List.forall_mem_cons.mpr ⟨am_at (P := amLnkP (3, 92, 0, 31, 1)) amAt_31 amL_3_92, List.forall_mem_cons.mpr ⟨am_at (P := amLnkP (3, 96, 0, 3, 2)) amAt_3 amL_3_96, List.forall_mem_cons.mpr ⟨am_at (P := amLnkP (3, 100, 1, 71, 2)) amAt_71 amL_3_100, List.forall_mem_cons.mpr ⟨am_at (P := amLnkP (3, 104, 0, 33, 2)) amAt_33 amL_3_104, List.forall_mem_cons.mpr ⟨am_at (P := amLnkP (3, 108, 0, 20, 0)) amAt_20 amL_3_108, List.forall_mem_cons.mpr ⟨am_at (P := amLnkP (3, 112, 0, 4, 2)) amAt_4 amL_3_112, List.forall_mem_cons.mpr ⟨am_at (P := amLnkP (3, 115, 0, 7, 1)) amAt_7 amL_3_115, List.forall_mem_cons.mpr ⟨am_at (P := amLnkP (3, 119, 0, 14, 0)) amAt_14 amL_3_119, List.forall_mem_cons.mpr ⟨am_at (P := amLnkP (3, 125, 0, 21, 0)) amAt_21 amL_3_125, List.forall_mem_cons.mpr ⟨am_at (P := amLnkP (3, 137, 1, 68, 2)) amAt_68 amL_3_137, List.forall_mem_cons.mpr ⟨am_at (P := amLnkP (3, 141, 0, 15, 1)) amAt_15 amL_3_141, List.forall_mem_cons.mpr ⟨am_at (P := amLnkP (3, 151, 0, 27, 1)) amAt_27 amL_3_151, List.forall_mem_cons.mpr ⟨am_at (P := amLnkP (3, 164, 0, 25, 1)) amAt_25 amL_3_164, List.forall_mem_cons.mpr ⟨am_at (P := amLnkP (3, 167, 0, 26, 1)) amAt_26 amL_3_167, List.forall_mem_cons.mpr ⟨am_at (P := amLnkP (3, 170, 0, 24, 1)) amAt_24 amL_3_170, List.forall_mem_cons.mpr ⟨am_at (P := amLnkP (3, 173, 0, 30, 0)) amAt_30 amL_3_173, List.forall_mem_cons.mpr ⟨am_at (P := amLnkP (3, 187, 0, 8, 0)) amAt_8 amL_3_187, List.forall_mem_cons.mpr ⟨am_at (P := amLnkP (3, 190, 1, 72, 1)) amAt_72 amL_3_190, List.forall_mem_cons.mpr ⟨am_at (P := amLnkP (3, 195, 0, 1, 0)) amAt_1 amL_3_195, List.forall_mem_cons.mpr ⟨am_at (P := amLnkP (3, 198, 0, 2, 2)) amAt_2 amL_3_198, List.forall_mem_cons.mpr ⟨am_at (P := amLnkP (3, 208, 0, 5, 3)) amAt_5 amL_3_208, List.forall_mem_cons.mpr ⟨am_at (P := amLnkP (5, 9, 1, 78, 1)) amAt_78 amL_5_9, List.forall_mem_cons.mpr ⟨am_at (P := amLnkP (5, 15, 1, 80, 3)) amAt_80 amL_5_15, List.forall_mem_cons.mpr ⟨am_at (P := amLnkP (5, 19, 1, 81, 5)) amAt_81 amL_5_19, List.forall_mem_cons.mpr ⟨am_at (P := amLnkP (5, 23, 0, 57, 2)) amAt_57 amL_5_23, List.forall_mem_cons.mpr ⟨am_at (P := amLnkP (5, 29, 0, 58, 2)) amAt_58 amL_5_29, List.forall_mem_cons.mpr ⟨am_at (P := amLnkP (5, 32, 0, 59, 2)) amAt_59 amL_5_32, List.forall_mem_cons.mpr ⟨am_at (P := amLnkP (5, 35, 0, 61, 2)) amAt_61 amL_5_35, List.forall_mem_cons.mpr ⟨am_at (P := amLnkP (5, 39, 0, 62, 2)) amAt_62 amL_5_39, List.forall_mem_cons.mpr ⟨am_at (P := amLnkP (5, 42, 0, 65, 2)) amAt_65 amL_5_42, List.forall_mem_cons.mpr ⟨am_at (P := amLnkP (5, 45, 0, 63, 2)) amAt_63 amL_5_45, List.forall_mem_cons.mpr ⟨am_at (P := amLnkP (5, 48, 1, 82, 6)) amAt_82 amL_5_48, List.forall_mem_cons.mpr ⟨am_at (P := amLnkP (5, 52, 1, 83, 6)) amAt_83 amL_5_52, List.forall_mem_cons.mpr ⟨am_at (P := amLnkP (5, 56, 0, 64, 2)) amAt_64 amL_5_56, List.forall_mem_cons.mpr ⟨am_at (P := amLnkP (5, 59, 0, 60, 2)) amAt_60 amL_5_59, List.forall_mem_cons.mpr ⟨am_at (P := amLnkP (5, 62, 0, 66, 1)) amAt_66 amL_5_62, List.forall_mem_cons.mpr ⟨am_at (P := amLnkP (5, 65, 0, 43, 2)) amAt_43 amL_5_65, List.forall_mem_cons.mpr ⟨am_at (P := amLnkP (5, 68, 0, 44, 2)) amAt_44 amL_5_68, List.forall_mem_cons.mpr ⟨am_at (P := amLnkP (5, 71, 1, 87, 2)) amAt_87 amL_5_71, List.forall_mem_cons.mpr ⟨am_at (P := amLnkP (5, 74, 0, 40, 2)) amAt_40 amL_5_74, List.forall_mem_cons.mpr ⟨am_at (P := amLnkP (5, 77, 0, 45, 2)) amAt_45 amL_5_77, List.forall_mem_cons.mpr ⟨am_at (P := amLnkP (5, 80, 0, 56, 2)) amAt_56 amL_5_80, List.forall_mem_cons.mpr ⟨am_at (P := amLnkP (5, 83, 0, 52, 1)) amAt_52 amL_5_83, List.forall_mem_cons.mpr ⟨am_at (P := amLnkP (5, 86, 0, 53, 1)) amAt_53 amL_5_86, List.forall_mem_cons.mpr ⟨am_at (P := amLnkP (5, 87, 1, 79, 2)) amAt_79 amL_5_87, List.forall_mem_cons.mpr ⟨am_at (P := amLnkP (5, 91, 0, 54, 1)) amAt_54 amL_5_91, List.forall_mem_cons.mpr ⟨am_at (P := amLnkP (5, 94, 0, 55, 1)) amAt_55 amL_5_94, List.forall_mem_cons.mpr ⟨am_at (P := amLnkP (5, 97, 1, 84, 5)) amAt_84 amL_5_97, List.forall_mem_cons.mpr ⟨am_at (P := amLnkP (5, 101, 0, 51, 2)) amAt_51 amL_5_101, List.forall_mem_cons.mpr ⟨am_at (P := amLnkP (5, 106, 0, 38, 2)) amAt_38 amL_5_106, List.forall_mem_cons.mpr ⟨am_at (P := amLnkP (5, 111, 0, 41, 3)) amAt_41 amL_5_111, List.forall_mem_cons.mpr ⟨am_at (P := amLnkP (5, 115, 0, 47, 1)) amAt_47 amL_5_115, List.forall_mem_cons.mpr ⟨am_at (P := amLnkP (5, 118, 0, 48, 1)) amAt_48 amL_5_118, List.forall_mem_cons.mpr ⟨am_at (P := amLnkP (5, 121, 0, 49, 2)) amAt_49 amL_5_121, List.forall_mem_cons.mpr ⟨am_at (P := amLnkP (5, 124, 1, 93, 2)) amAt_93 amL_5_124, List.forall_mem_cons.mpr ⟨am_at (P := amLnkP (5, 127, 1, 88, 3)) amAt_88 amL_5_127, List.forall_mem_cons.mpr ⟨am_at (P := amLnkP (5, 131, 1, 89, 4)) amAt_89 amL_5_131, List.forall_mem_cons.mpr ⟨am_at (P := amLnkP (5, 135, 0, 39, 2)) amAt_39 amL_5_135, List.forall_mem_cons.mpr ⟨am_at (P := amLnkP (5, 138, 0, 42, 3)) amAt_42 amL_5_138, List.forall_mem_cons.mpr ⟨am_at (P := amLnkP (5, 141, 1, 90, 2)) amAt_90 amL_5_141, List.forall_mem_cons.mpr ⟨am_at (P := amLnkP (5, 145, 1, 91, 2)) amAt_91 amL_5_145, List.forall_mem_cons.mpr ⟨am_at (P := amLnkP (5, 148, 1, 92, 3)) amAt_92 amL_5_148, List.forall_mem_cons.mpr ⟨am_at (P := amLnkP (5, 151, 0, 50, 2)) amAt_50 amL_5_151, List.forall_mem_cons.mpr ⟨am_at (P := amLnkP (5, 154, 3, 36, 0)) amAt_36 amL_5_154, List.forall_mem_cons.mpr ⟨am_at (P := amLnkP (5, 155, 1, 77, 3)) amAt_77 amL_5_155, List.forall_mem_cons.mpr ⟨am_at (P := amLnkP (5, 158, 0, 37, 1)) amAt_37 amL_5_158, List.forall_mem_cons.mpr ⟨am_at (P := amLnkP (5, 166, 0, 46, 1)) amAt_46 amL_5_166, List.forall_mem_cons.mpr ⟨am_at (P := amLnkP (5, 170, 1, 95, 6)) amAt_95 amL_5_170, List.forall_mem_cons.mpr ⟨am_at (P := amLnkP (5, 173, 1, 94, 8)) amAt_94 amL_5_173, List.forall_mem_cons.mpr ⟨am_at (P := amLnkP (5, 177, 1, 85, 5)) amAt_85 amL_5_177, List.forall_mem_cons.mpr ⟨am_at (P := amLnkP (5, 181, 1, 86, 2)) amAt_86 amL_5_181, List.forall_mem_cons.mpr ⟨am_at (P := amLnkP (5, 185, 1, 96, 1)) amAt_96 amL_5_185, List.forall_mem_cons.mpr ⟨am_at (P := amLnkP (5, 193, 1, 97, 1)) amAt_97 amL_5_193, fun _ h => absurd h List.not_mem_nil⟩⟩⟩⟩⟩⟩⟩⟩⟩⟩⟩⟩⟩⟩⟩⟩⟩⟩⟩⟩⟩⟩⟩⟩⟩⟩⟩⟩⟩⟩⟩⟩⟩⟩⟩⟩⟩⟩⟩⟩⟩⟩⟩⟩⟩⟩⟩⟩⟩⟩⟩⟩⟩⟩⟩⟩⟩⟩⟩⟩⟩⟩⟩⟩⟩⟩⟩⟩⟩⟩⟩⟩⟩⟩⟩⟩⟩⟩⟩⟩⟩⟩⟩⟩⟩⟩⟩⟩⟩⟩⟩⟩⟩⟩⟩⟩⟩⟩⟩⟩⟩⟩⟩⟩⟩⟩⟩⟩⟩⟩⟩⟩⟩⟩⟩⟩⟩⟩
theorem amObjOk : ∀ q ∈ amObjL, amObjP q := List.forall_mem_cons.mpr ⟨amTB_of (i := 77) (by decide +kernel) (by decide +kernel), List.forall_mem_cons.mpr ⟨amTB_of (i := 98) (by decide +kernel) (by decide +kernel), List.forall_mem_cons.mpr ⟨amTB_of (i := 40) (by decide +kernel) (by decide +kernel), List.forall_mem_cons.mpr ⟨amTB_of (i := 31) (by decide +kernel) (by decide +kernel), fun _ h => absurd h List.not_mem_nil⟩⟩⟩⟩
theorem amMthOk : ∀ q ∈ amMthL, amMthP q := List.forall_mem_cons.mpr ⟨amTB_of (i := 387) (by decide +kernel) (by decide +kernel), List.forall_mem_cons.mpr ⟨amTB_of (i := 321) (by decide +kernel) (by decide +kernel), List.forall_mem_cons.mpr ⟨amTB_of (i := 333) (by decide +kernel) (by decide +kernel), List.forall_mem_cons.mpr ⟨amTB_of (i := 447) (by decide +kernel) (by decide +kernel), fun _ h => absurd h List.not_mem_nil⟩⟩⟩⟩
theorem amObj_i : Cond.instanceMethod objectInit ∈ amTB := amTB_of (i := 32) (by decide +kernel) (by decide +kernel)
theorem amObj_c : Cond.code objectInit ⟨#[0xb1]⟩ 1 none ∈ amTB := amTB_of (i := 33) (by decide +kernel) (by decide +kernel)
theorem amMmax_s : Cond.static Lib.Math.max.name ∈ amTB := amTB_of (i := 322) (by decide +kernel) (by decide +kernel)
theorem amMmax_c : Cond.code Lib.Math.max.name Lib.Math.max.code 2 (some .int) ∈ amTB := amTB_of (i := 323) (by decide +kernel) (by decide +kernel)
theorem amMmin_s : Cond.static Lib.Math.min.name ∈ amTB := amTB_of (i := 334) (by decide +kernel) (by decide +kernel)
theorem amMmin_c : Cond.code Lib.Math.min.name Lib.Math.min.code 2 (some .int) ∈ amTB := amTB_of (i := 335) (by decide +kernel) (by decide +kernel)
theorem amM_i : Cond.initialized "java/lang/Math" ∈ amTB := amTB_of (i := 15) (by decide +kernel) (by decide +kernel)
theorem amArr_int : Cond.arrayClass .int ∈ amTB := amTB_of (i := 70) (by decide +kernel) (by decide +kernel)
theorem amArr_boolean : Cond.arrayClass .boolean ∈ amTB := amTB_of (i := 71) (by decide +kernel) (by decide +kernel)
theorem amLd_3_36 : Cond.constant (amN 3) 36 (Int32.ofInt (-1640531527)) ∈ amTB := amTB_of (i := 136) (by decide +kernel) (by decide +kernel)
theorem amLd_5_7 : Cond.constant (amN 5) 7 (Int32.ofInt (60493)) ∈ amTB := amTB_of (i := 125) (by decide +kernel) (by decide +kernel)
theorem amLd_5_8 : Cond.constant (amN 5) 8 (Int32.ofInt (2147483647)) ∈ amTB := amTB_of (i := 126) (by decide +kernel) (by decide +kernel)
theorem amLd_5_104 : Cond.constant (amN 5) 104 (Int32.ofInt (1048575)) ∈ amTB := amTB_of (i := 130) (by decide +kernel) (by decide +kernel)
theorem amLd_5_105 : Cond.constant (amN 5) 105 (Int32.ofInt (340573321)) ∈ amTB := amTB_of (i := 131) (by decide +kernel) (by decide +kernel)
theorem amLd_5_165 : Cond.constant (amN 5) 165 (Int32.ofInt (100000)) ∈ amTB := amTB_of (i := 139) (by decide +kernel) (by decide +kernel)
theorem amLd2_5_161 : Cond.constantLong (amN 5) 161 (Int64.ofInt (2654435769)) ∈ amTB := amTB_of (i := 137) (by decide +kernel) (by decide +kernel)
theorem amLd2_5_163 : Cond.constantLong (amN 5) 163 (Int64.ofInt (4294967295)) ∈ amTB := amTB_of (i := 138) (by decide +kernel) (by decide +kernel)
def amCstP (q : Nat × Nat × Int) : Prop := Cond.constant (amN q.1) q.2.1 (Int32.ofInt q.2.2) ∈ amTB
def amCs2P (q : Nat × Nat × Int) : Prop := Cond.constantLong (amN q.1) q.2.1 (Int64.ofInt q.2.2) ∈ amTB
theorem amCstOk : ∀ q ∈ amCstL, amCstP q := List.forall_mem_cons.mpr ⟨amLd_3_36, List.forall_mem_cons.mpr ⟨amLd_5_7, List.forall_mem_cons.mpr ⟨amLd_5_8, List.forall_mem_cons.mpr ⟨amLd_5_104, List.forall_mem_cons.mpr ⟨amLd_5_105, List.forall_mem_cons.mpr ⟨amLd_5_165, fun _ h => absurd h List.not_mem_nil⟩⟩⟩⟩⟩⟩
theorem amCs2Ok : ∀ q ∈ amCs2L, amCs2P q := List.forall_mem_cons.mpr ⟨amLd2_5_161, List.forall_mem_cons.mpr ⟨amLd2_5_163, fun _ h => absurd h List.not_mem_nil⟩⟩
theorem amU_all (ci : Nat) (h : ci < 4) : ∀ w ∈ u_ws (amN ci) (amTT ci) (amNF ci), w ∈ amTB := by
  match ci, h with
  | 0, _ => exact amU_0
  | 1, _ => exact amU_1
  | 2, _ => exact amU_2
  | 3, _ => exact amU_3
theorem amCl_at (ci : Nat) (h : ci < 4) : vwCl[ci]? = some (amN ci, amTT ci, amNF ci) := by
  match ci, h with
  | 0, _ => rfl
  | 1, _ => rfl
  | 2, _ => rfl
  | 3, _ => rfl
theorem amTy_ok (ci : Nat) (h : ci < 4) : ∀ k, k < amNF ci → parseFieldDescriptor (amTT ci k).2.2.1 = some (amTy ci k) := by
  match ci, h with
  | 0, _ => exact tyX0_ok
  | 1, _ => exact tyX1_ok
  | 2, _ => exact tyX2_ok
  | 3, _ => exact tyX3_ok
theorem amNm_ok (ci : Nat) (h : ci < 4) : ∀ a, a < amNF ci → ∀ b, b < amNF ci → a ≠ b → (amTT ci a).2.1 ≠ (amTT ci b).2.1 := by
  match ci, h with
  | 0, _ => exact nmX0
  | 1, _ => exact nmX1
  | 2, _ => exact nmX2
  | 3, _ => exact nmX3
theorem amOwn_ok (ci : Nat) (h : ci < 4) : ∀ k, k < amNF ci → (amTT ci k).1 = amN ci := by
  match ci, h with
  | 0, _ => decide +kernel
  | 1, _ => decide +kernel
  | 2, _ => decide +kernel
  | 3, _ => decide +kernel
theorem amDef_ok (ci : Nat) (h : ci < 4) : ∀ j, j < amNF ci → defaultValue (amTy ci j) = vp_V (amDef ci) j := by
  match ci, h with
  | 0, _ => decide +kernel
  | 1, _ => decide +kernel
  | 2, _ => decide +kernel
  | 3, _ => decide +kernel
theorem amDef_len (ci : Nat) (h : ci < 4) : (amDef ci).length = amNF ci := by
  match ci, h with
  | 0, _ => rfl
  | 1, _ => rfl
  | 2, _ => rfl
  | 3, _ => rfl
def amStrs : List (String × Nat × String) := [(RX3, 176, "no such filter"), (RX3, 82, "the filter has the most slots already"), (RX3, 193, "more than seven eighths of the slots would hold entries"), (RX3, 90, "the filter has the fewest slots already"), (RX3, 182, "a fingerprint is 0 to 4095"), (RX3, 185, "times is 1 to 100"), (RX3, 130, "the filter has no such place"), (RX3, 178, "no such slot or quotient")]
def amX : Nat → String := fun k => match k with
  | 1 => "java/lang/IndexOutOfBoundsException"
  | 2 => "java/lang/IllegalStateException"
  | _ => "java/lang/IllegalArgumentException"
