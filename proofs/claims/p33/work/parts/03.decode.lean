/-! decode rows: every chunk of the code lists decodes as the bytes say, by wip/whole/gen02.py -/
def amDecK (b : ByteArray) (l : List amEnt) : Prop := ∀ q ∈ l, decode b q.1 = .ok (q.2.1, q.2.2.1)
theorem amDecK_of {b : ByteArray} {l : List amEnt} (h : l.all (fun q => decide (decode b q.1 = .ok (q.2.1, q.2.2.1))) = true) : amDecK b l := fun q hq => of_decide_eq_true (List.all_eq_true.mp h q hq)
theorem amD0_0 : amDecK cX0_init amK0_0 := amDecK_of (by decide +kernel)
theorem amD0 : ∀ l ∈ amC0, amDecK cX0_init l := List.forall_mem_cons.mpr ⟨amD0_0, fun _ h => absurd h List.not_mem_nil⟩
theorem amD1_0 : amDecK cX0_drop amK1_0 := amDecK_of (by decide +kernel)
theorem amD1 : ∀ l ∈ amC1, amDecK cX0_drop l := List.forall_mem_cons.mpr ⟨amD1_0, fun _ h => absurd h List.not_mem_nil⟩
theorem amD2_0 : amDecK cX0_append amK2_0 := amDecK_of (by decide +kernel)
theorem amD2_1 : amDecK cX0_append amK2_1 := amDecK_of (by decide +kernel)
theorem amD2 : ∀ l ∈ amC2, amDecK cX0_append l := List.forall_mem_cons.mpr ⟨amD2_0, List.forall_mem_cons.mpr ⟨amD2_1, fun _ h => absurd h List.not_mem_nil⟩⟩
theorem amD3_0 : amDecK cX0_becomeSum amK3_0 := amDecK_of (by decide +kernel)
theorem amD3_1 : amDecK cX0_becomeSum amK3_1 := amDecK_of (by decide +kernel)
theorem amD3 : ∀ l ∈ amC3, amDecK cX0_becomeSum l := List.forall_mem_cons.mpr ⟨amD3_0, List.forall_mem_cons.mpr ⟨amD3_1, fun _ h => absurd h List.not_mem_nil⟩⟩
theorem amD4_0 : amDecK cX0_becomeLesser amK4_0 := amDecK_of (by decide +kernel)
theorem amD4_1 : amDecK cX0_becomeLesser amK4_1 := amDecK_of (by decide +kernel)
theorem amD4 : ∀ l ∈ amC4, amDecK cX0_becomeLesser l := List.forall_mem_cons.mpr ⟨amD4_0, List.forall_mem_cons.mpr ⟨amD4_1, fun _ h => absurd h List.not_mem_nil⟩⟩
theorem amD5_0 : amDecK cX0_becomeRest amK5_0 := amDecK_of (by decide +kernel)
theorem amD5 : ∀ l ∈ amC5, amDecK cX0_becomeRest l := List.forall_mem_cons.mpr ⟨amD5_0, fun _ h => absurd h List.not_mem_nil⟩
theorem amD6_0 : amDecK cX0_placeNotBelow amK6_0 := amDecK_of (by decide +kernel)
theorem amD6 : ∀ l ∈ amC6, amDecK cX0_placeNotBelow l := List.forall_mem_cons.mpr ⟨amD6_0, fun _ h => absurd h List.not_mem_nil⟩
theorem amD7_0 : amDecK cX0_hasSameAs amK7_0 := amDecK_of (by decide +kernel)
theorem amD7 : ∀ l ∈ amC7, amDecK cX0_hasSameAs l := List.forall_mem_cons.mpr ⟨amD7_0, fun _ h => absurd h List.not_mem_nil⟩
theorem amD8_0 : amDecK cX0_neededSlots amK8_0 := amDecK_of (by decide +kernel)
theorem amD8 : ∀ l ∈ amC8, amDecK cX0_neededSlots l := List.forall_mem_cons.mpr ⟨amD8_0, fun _ h => absurd h List.not_mem_nil⟩
theorem amD9_0 : amDecK cX1_init amK9_0 := amDecK_of (by decide +kernel)
theorem amD9 : ∀ l ∈ amC9, amDecK cX1_init l := List.forall_mem_cons.mpr ⟨amD9_0, fun _ h => absurd h List.not_mem_nil⟩
theorem amD10_0 : amDecK cX1_makeFrom amK10_0 := amDecK_of (by decide +kernel)
theorem amD10_1 : amDecK cX1_makeFrom amK10_1 := amDecK_of (by decide +kernel)
theorem amD10 : ∀ l ∈ amC10, amDecK cX1_makeFrom l := List.forall_mem_cons.mpr ⟨amD10_0, List.forall_mem_cons.mpr ⟨amD10_1, fun _ h => absurd h List.not_mem_nil⟩⟩
theorem amD11_0 : amDecK cX1_quotientHere amK11_0 := amDecK_of (by decide +kernel)
theorem amD11 : ∀ l ∈ amC11, amDecK cX1_quotientHere l := List.forall_mem_cons.mpr ⟨amD11_0, fun _ h => absurd h List.not_mem_nil⟩
theorem amD12_0 : amDecK cX1_sumFor amK12_0 := amDecK_of (by decide +kernel)
theorem amD12_1 : amDecK cX1_sumFor amK12_1 := amDecK_of (by decide +kernel)
theorem amD12 : ∀ l ∈ amC12, amDecK cX1_sumFor l := List.forall_mem_cons.mpr ⟨amD12_0, List.forall_mem_cons.mpr ⟨amD12_1, fun _ h => absurd h List.not_mem_nil⟩⟩
theorem amD13_0 : amDecK cX2_init amK13_0 := amDecK_of (by decide +kernel)
theorem amD13 : ∀ l ∈ amC13, amDecK cX2_init l := List.forall_mem_cons.mpr ⟨amD13_0, fun _ h => absurd h List.not_mem_nil⟩
theorem amD14_0 : amDecK cX2_allSlots amK14_0 := amDecK_of (by decide +kernel)
theorem amD14 : ∀ l ∈ amC14, amDecK cX2_allSlots l := List.forall_mem_cons.mpr ⟨amD14_0, fun _ h => absurd h List.not_mem_nil⟩
theorem amD15_0 : amDecK cX2_isEmpty amK15_0 := amDecK_of (by decide +kernel)
theorem amD15 : ∀ l ∈ amC15, amDecK cX2_isEmpty l := List.forall_mem_cons.mpr ⟨amD15_0, fun _ h => absurd h List.not_mem_nil⟩
theorem amD16_0 : amDecK cX2_wrap amK16_0 := amDecK_of (by decide +kernel)
theorem amD16 : ∀ l ∈ amC16, amDecK cX2_wrap l := List.forall_mem_cons.mpr ⟨amD16_0, fun _ h => absurd h List.not_mem_nil⟩
theorem amD17_0 : amDecK cX2_quotientOf amK17_0 := amDecK_of (by decide +kernel)
theorem amD17 : ∀ l ∈ amC17, amDecK cX2_quotientOf l := List.forall_mem_cons.mpr ⟨amD17_0, fun _ h => absurd h List.not_mem_nil⟩
theorem amD18_0 : amDecK cX2_remainderOf amK18_0 := amDecK_of (by decide +kernel)
theorem amD18 : ∀ l ∈ amC18, amDecK cX2_remainderOf l := List.forall_mem_cons.mpr ⟨amD18_0, fun _ h => absurd h List.not_mem_nil⟩
theorem amD19_0 : amDecK cX2_fingerprintOf amK19_0 := amDecK_of (by decide +kernel)
theorem amD19 : ∀ l ∈ amC19, amDecK cX2_fingerprintOf l := List.forall_mem_cons.mpr ⟨amD19_0, fun _ h => absurd h List.not_mem_nil⟩
theorem amD20_0 : amDecK cX2_usedSlots amK20_0 := amDecK_of (by decide +kernel)
theorem amD20 : ∀ l ∈ amC20, amDecK cX2_usedSlots l := List.forall_mem_cons.mpr ⟨amD20_0, fun _ h => absurd h List.not_mem_nil⟩
theorem amD21_0 : amDecK cX2_sumOfCounters amK21_0 := amDecK_of (by decide +kernel)
theorem amD21 : ∀ l ∈ amC21, amDecK cX2_sumOfCounters l := List.forall_mem_cons.mpr ⟨amD21_0, fun _ h => absurd h List.not_mem_nil⟩
theorem amD22_0 : amDecK cX2_someEmptySlot amK22_0 := amDecK_of (by decide +kernel)
theorem amD22 : ∀ l ∈ amC22, amDecK cX2_someEmptySlot l := List.forall_mem_cons.mpr ⟨amD22_0, fun _ h => absurd h List.not_mem_nil⟩
theorem amD23_0 : amDecK cX2_occupiedAfter amK23_0 := amDecK_of (by decide +kernel)
theorem amD23 : ∀ l ∈ amC23, amDecK cX2_occupiedAfter l := List.forall_mem_cons.mpr ⟨amD23_0, fun _ h => absurd h List.not_mem_nil⟩
theorem amD24_0 : amDecK cX2_firstOfCluster amK24_0 := amDecK_of (by decide +kernel)
theorem amD24 : ∀ l ∈ amC24, amDecK cX2_firstOfCluster l := List.forall_mem_cons.mpr ⟨amD24_0, fun _ h => absurd h List.not_mem_nil⟩
theorem amD25_0 : amDecK cX2_firstOfRun amK25_0 := amDecK_of (by decide +kernel)
theorem amD25 : ∀ l ∈ amC25, amDecK cX2_firstOfRun l := List.forall_mem_cons.mpr ⟨amD25_0, fun _ h => absurd h List.not_mem_nil⟩
theorem amD26_0 : amDecK cX2_lengthOfRun amK26_0 := amDecK_of (by decide +kernel)
theorem amD26 : ∀ l ∈ amC26, amDecK cX2_lengthOfRun l := List.forall_mem_cons.mpr ⟨amD26_0, fun _ h => absurd h List.not_mem_nil⟩
theorem amD27_0 : amDecK cX2_quotientOfEntry amK27_0 := amDecK_of (by decide +kernel)
theorem amD27 : ∀ l ∈ amC27, amDecK cX2_quotientOfEntry l := List.forall_mem_cons.mpr ⟨amD27_0, fun _ h => absurd h List.not_mem_nil⟩
theorem amD28_0 : amDecK cX2_countInRun amK28_0 := amDecK_of (by decide +kernel)
theorem amD28_1 : amDecK cX2_countInRun amK28_1 := amDecK_of (by decide +kernel)
theorem amD28 : ∀ l ∈ amC28, amDecK cX2_countInRun l := List.forall_mem_cons.mpr ⟨amD28_0, List.forall_mem_cons.mpr ⟨amD28_1, fun _ h => absurd h List.not_mem_nil⟩⟩
theorem amD29_0 : amDecK cX2_looksFor amK29_0 := amDecK_of (by decide +kernel)
theorem amD29_1 : amDecK cX2_looksFor amK29_1 := amDecK_of (by decide +kernel)
theorem amD29 : ∀ l ∈ amC29, amDecK cX2_looksFor l := List.forall_mem_cons.mpr ⟨amD29_0, List.forall_mem_cons.mpr ⟨amD29_1, fun _ h => absurd h List.not_mem_nil⟩⟩
theorem amD30_0 : amDecK cX2_lengthOfLongestCluster amK30_0 := amDecK_of (by decide +kernel)
theorem amD30_1 : amDecK cX2_lengthOfLongestCluster amK30_1 := amDecK_of (by decide +kernel)
theorem amD30 : ∀ l ∈ amC30, amDecK cX2_lengthOfLongestCluster l := List.forall_mem_cons.mpr ⟨amD30_0, List.forall_mem_cons.mpr ⟨amD30_1, fun _ h => absurd h List.not_mem_nil⟩⟩
theorem amD31_0 : amDecK cX2_readInto amK31_0 := amDecK_of (by decide +kernel)
theorem amD31_1 : amDecK cX2_readInto amK31_1 := amDecK_of (by decide +kernel)
theorem amD31 : ∀ l ∈ amC31, amDecK cX2_readInto l := List.forall_mem_cons.mpr ⟨amD31_0, List.forall_mem_cons.mpr ⟨amD31_1, fun _ h => absurd h List.not_mem_nil⟩⟩
theorem amD32_0 : amDecK cX2_wipe amK32_0 := amDecK_of (by decide +kernel)
theorem amD32 : ∀ l ∈ amC32, amDecK cX2_wipe l := List.forall_mem_cons.mpr ⟨amD32_0, fun _ h => absurd h List.not_mem_nil⟩
theorem amD33_0 : amDecK cX2_fill amK33_0 := amDecK_of (by decide +kernel)
theorem amD33_1 : amDecK cX2_fill amK33_1 := amDecK_of (by decide +kernel)
theorem amD33 : ∀ l ∈ amC33, amDecK cX2_fill l := List.forall_mem_cons.mpr ⟨amD33_0, List.forall_mem_cons.mpr ⟨amD33_1, fun _ h => absurd h List.not_mem_nil⟩⟩
theorem amD34_0 : amDecK cX2_endInLine amK34_0 := amDecK_of (by decide +kernel)
theorem amD34 : ∀ l ∈ amC34, amDecK cX2_endInLine l := List.forall_mem_cons.mpr ⟨amD34_0, fun _ h => absurd h List.not_mem_nil⟩
theorem amD35_0 : amDecK cX2_writeEntries amK35_0 := amDecK_of (by decide +kernel)
theorem amD35_1 : amDecK cX2_writeEntries amK35_1 := amDecK_of (by decide +kernel)
theorem amD35 : ∀ l ∈ amC35, amDecK cX2_writeEntries l := List.forall_mem_cons.mpr ⟨amD35_0, List.forall_mem_cons.mpr ⟨amD35_1, fun _ h => absurd h List.not_mem_nil⟩⟩
theorem amD36_0 : amDecK cX3_init amK36_0 := amDecK_of (by decide +kernel)
theorem amD36_1 : amDecK cX3_init amK36_1 := amDecK_of (by decide +kernel)
theorem amD36 : ∀ l ∈ amC36, amDecK cX3_init l := List.forall_mem_cons.mpr ⟨amD36_0, List.forall_mem_cons.mpr ⟨amD36_1, fun _ h => absurd h List.not_mem_nil⟩⟩
theorem amD37_0 : amDecK cX3_fingerprint amK37_0 := amDecK_of (by decide +kernel)
theorem amD37 : ∀ l ∈ amC37, amDecK cX3_fingerprint l := List.forall_mem_cons.mpr ⟨amD37_0, fun _ h => absurd h List.not_mem_nil⟩
theorem amD38_0 : amDecK cX3_insert amK38_0 := amDecK_of (by decide +kernel)
theorem amD38 : ∀ l ∈ amC38, amDecK cX3_insert l := List.forall_mem_cons.mpr ⟨amD38_0, fun _ h => absurd h List.not_mem_nil⟩
theorem amD39_0 : amDecK cX3_remove amK39_0 := amDecK_of (by decide +kernel)
theorem amD39 : ∀ l ∈ amC39, amDecK cX3_remove l := List.forall_mem_cons.mpr ⟨amD39_0, fun _ h => absurd h List.not_mem_nil⟩
theorem amD40_0 : amDecK cX3_count amK40_0 := amDecK_of (by decide +kernel)
theorem amD40 : ∀ l ∈ amC40, amDecK cX3_count l := List.forall_mem_cons.mpr ⟨amD40_0, fun _ h => absurd h List.not_mem_nil⟩
theorem amD41_0 : amDecK cX3_add amK41_0 := amDecK_of (by decide +kernel)
theorem amD41 : ∀ l ∈ amC41, amDecK cX3_add l := List.forall_mem_cons.mpr ⟨amD41_0, fun _ h => absurd h List.not_mem_nil⟩
theorem amD42_0 : amDecK cX3_take amK42_0 := amDecK_of (by decide +kernel)
theorem amD42 : ∀ l ∈ amC42, amDecK cX3_take l := List.forall_mem_cons.mpr ⟨amD42_0, fun _ h => absurd h List.not_mem_nil⟩
theorem amD43_0 : amDecK cX3_countOf amK43_0 := amDecK_of (by decide +kernel)
theorem amD43 : ∀ l ∈ amC43, amDecK cX3_countOf l := List.forall_mem_cons.mpr ⟨amD43_0, fun _ h => absurd h List.not_mem_nil⟩
theorem amD44_0 : amDecK cX3_countInLists amK44_0 := amDecK_of (by decide +kernel)
theorem amD44 : ∀ l ∈ amC44, amDecK cX3_countInLists l := List.forall_mem_cons.mpr ⟨amD44_0, fun _ h => absurd h List.not_mem_nil⟩
theorem amD45_0 : amDecK cX3_lookedAt amK45_0 := amDecK_of (by decide +kernel)
theorem amD45 : ∀ l ∈ amC45, amDecK cX3_lookedAt l := List.forall_mem_cons.mpr ⟨amD45_0, fun _ h => absurd h List.not_mem_nil⟩
theorem amD46_0 : amDecK cX3_clear amK46_0 := amDecK_of (by decide +kernel)
theorem amD46 : ∀ l ∈ amC46, amDecK cX3_clear l := List.forall_mem_cons.mpr ⟨amD46_0, fun _ h => absurd h List.not_mem_nil⟩
theorem amD47_0 : amDecK cX3_grow amK47_0 := amDecK_of (by decide +kernel)
theorem amD47 : ∀ l ∈ amC47, amDecK cX3_grow l := List.forall_mem_cons.mpr ⟨amD47_0, fun _ h => absurd h List.not_mem_nil⟩
theorem amD48_0 : amDecK cX3_shrink amK48_0 := amDecK_of (by decide +kernel)
theorem amD48 : ∀ l ∈ amC48, amDecK cX3_shrink l := List.forall_mem_cons.mpr ⟨amD48_0, fun _ h => absurd h List.not_mem_nil⟩
theorem amD49_0 : amDecK cX3_merge amK49_0 := amDecK_of (by decide +kernel)
theorem amD49_1 : amDecK cX3_merge amK49_1 := amDecK_of (by decide +kernel)
theorem amD49 : ∀ l ∈ amC49, amDecK cX3_merge l := List.forall_mem_cons.mpr ⟨amD49_0, List.forall_mem_cons.mpr ⟨amD49_1, fun _ h => absurd h List.not_mem_nil⟩⟩
theorem amD50_0 : amDecK cX3_intersect amK50_0 := amDecK_of (by decide +kernel)
theorem amD50 : ∀ l ∈ amC50, amDecK cX3_intersect l := List.forall_mem_cons.mpr ⟨amD50_0, fun _ h => absurd h List.not_mem_nil⟩
theorem amD51_0 : amDecK cX3_isSame amK51_0 := amDecK_of (by decide +kernel)
theorem amD51 : ∀ l ∈ amC51, amDecK cX3_isSame l := List.forall_mem_cons.mpr ⟨amD51_0, fun _ h => absurd h List.not_mem_nil⟩
theorem amD52_0 : amDecK cX3_slots amK52_0 := amDecK_of (by decide +kernel)
theorem amD52 : ∀ l ∈ amC52, amDecK cX3_slots l := List.forall_mem_cons.mpr ⟨amD52_0, fun _ h => absurd h List.not_mem_nil⟩
theorem amD53_0 : amDecK cX3_entries amK53_0 := amDecK_of (by decide +kernel)
theorem amD53 : ∀ l ∈ amC53, amDecK cX3_entries l := List.forall_mem_cons.mpr ⟨amD53_0, fun _ h => absurd h List.not_mem_nil⟩
theorem amD54_0 : amDecK cX3_distinct amK54_0 := amDecK_of (by decide +kernel)
theorem amD54 : ∀ l ∈ amC54, amDecK cX3_distinct l := List.forall_mem_cons.mpr ⟨amD54_0, fun _ h => absurd h List.not_mem_nil⟩
theorem amD55_0 : amDecK cX3_total amK55_0 := amDecK_of (by decide +kernel)
theorem amD55 : ∀ l ∈ amC55, amDecK cX3_total l := List.forall_mem_cons.mpr ⟨amD55_0, fun _ h => absurd h List.not_mem_nil⟩
theorem amD56_0 : amDecK cX3_fingerprintAt amK56_0 := amDecK_of (by decide +kernel)
theorem amD56 : ∀ l ∈ amC56, amDecK cX3_fingerprintAt l := List.forall_mem_cons.mpr ⟨amD56_0, fun _ h => absurd h List.not_mem_nil⟩
theorem amD57_0 : amDecK cX3_remainderAt amK57_0 := amDecK_of (by decide +kernel)
theorem amD57 : ∀ l ∈ amC57, amDecK cX3_remainderAt l := List.forall_mem_cons.mpr ⟨amD57_0, fun _ h => absurd h List.not_mem_nil⟩
theorem amD58_0 : amDecK cX3_counterAt amK58_0 := amDecK_of (by decide +kernel)
theorem amD58 : ∀ l ∈ amC58, amDecK cX3_counterAt l := List.forall_mem_cons.mpr ⟨amD58_0, fun _ h => absurd h List.not_mem_nil⟩
theorem amD59_0 : amDecK cX3_quotientAt amK59_0 := amDecK_of (by decide +kernel)
theorem amD59 : ∀ l ∈ amC59, amDecK cX3_quotientAt l := List.forall_mem_cons.mpr ⟨amD59_0, fun _ h => absurd h List.not_mem_nil⟩
theorem amD60_0 : amDecK cX3_isOccupied amK60_0 := amDecK_of (by decide +kernel)
theorem amD60 : ∀ l ∈ amC60, amDecK cX3_isOccupied l := List.forall_mem_cons.mpr ⟨amD60_0, fun _ h => absurd h List.not_mem_nil⟩
theorem amD61_0 : amDecK cX3_isContinuation amK61_0 := amDecK_of (by decide +kernel)
theorem amD61 : ∀ l ∈ amC61, amDecK cX3_isContinuation l := List.forall_mem_cons.mpr ⟨amD61_0, fun _ h => absurd h List.not_mem_nil⟩
theorem amD62_0 : amDecK cX3_isShifted amK62_0 := amDecK_of (by decide +kernel)
theorem amD62 : ∀ l ∈ amC62, amDecK cX3_isShifted l := List.forall_mem_cons.mpr ⟨amD62_0, fun _ h => absurd h List.not_mem_nil⟩
theorem amD63_0 : amDecK cX3_runStart amK63_0 := amDecK_of (by decide +kernel)
theorem amD63 : ∀ l ∈ amC63, amDecK cX3_runStart l := List.forall_mem_cons.mpr ⟨amD63_0, fun _ h => absurd h List.not_mem_nil⟩
theorem amD64_0 : amDecK cX3_runLength amK64_0 := amDecK_of (by decide +kernel)
theorem amD64 : ∀ l ∈ amC64, amDecK cX3_runLength l := List.forall_mem_cons.mpr ⟨amD64_0, fun _ h => absurd h List.not_mem_nil⟩
theorem amD65_0 : amDecK cX3_clusterStart amK65_0 := amDecK_of (by decide +kernel)
theorem amD65 : ∀ l ∈ amC65, amDecK cX3_clusterStart l := List.forall_mem_cons.mpr ⟨amD65_0, fun _ h => absurd h List.not_mem_nil⟩
theorem amD66_0 : amDecK cX3_longestCluster amK66_0 := amDecK_of (by decide +kernel)
theorem amD66 : ∀ l ∈ amC66, amDecK cX3_longestCluster l := List.forall_mem_cons.mpr ⟨amD66_0, fun _ h => absurd h List.not_mem_nil⟩
theorem amD67_0 : amDecK cX3_tableOf amK67_0 := amDecK_of (by decide +kernel)
theorem amD67 : ∀ l ∈ amC67, amDecK cX3_tableOf l := List.forall_mem_cons.mpr ⟨amD67_0, fun _ h => absurd h List.not_mem_nil⟩
theorem amD68_0 : amDecK cX3_checkSlot amK68_0 := amDecK_of (by decide +kernel)
theorem amD68 : ∀ l ∈ amC68, amDecK cX3_checkSlot l := List.forall_mem_cons.mpr ⟨amD68_0, fun _ h => absurd h List.not_mem_nil⟩
theorem amD69_0 : amDecK cX3_checkFingerprint amK69_0 := amDecK_of (by decide +kernel)
theorem amD69 : ∀ l ∈ amC69, amDecK cX3_checkFingerprint l := List.forall_mem_cons.mpr ⟨amD69_0, fun _ h => absurd h List.not_mem_nil⟩
theorem amD70_0 : amDecK cX3_checkTimes amK70_0 := amDecK_of (by decide +kernel)
theorem amD70 : ∀ l ∈ amC70, amDecK cX3_checkTimes l := List.forall_mem_cons.mpr ⟨amD70_0, fun _ h => absurd h List.not_mem_nil⟩
theorem amD71_0 : amDecK cX3_checkFits amK71_0 := amDecK_of (by decide +kernel)
theorem amD71 : ∀ l ∈ amC71, amDecK cX3_checkFits l := List.forall_mem_cons.mpr ⟨amD71_0, fun _ h => absurd h List.not_mem_nil⟩
theorem amD72_0 : amDecK cX3_mostEntries amK72_0 := amDecK_of (by decide +kernel)
theorem amD72 : ∀ l ∈ amC72, amDecK cX3_mostEntries l := List.forall_mem_cons.mpr ⟨amD72_0, fun _ h => absurd h List.not_mem_nil⟩
theorem amD73_0 : amDecK cX3_entriesFor amK73_0 := amDecK_of (by decide +kernel)
theorem amD73 : ∀ l ∈ amC73, amDecK cX3_entriesFor l := List.forall_mem_cons.mpr ⟨amD73_0, fun _ h => absurd h List.not_mem_nil⟩
theorem amD74_0 : amDecK cX3_putIn amK74_0 := amDecK_of (by decide +kernel)
theorem amD74_1 : amDecK cX3_putIn amK74_1 := amDecK_of (by decide +kernel)
theorem amD74 : ∀ l ∈ amC74, amDecK cX3_putIn l := List.forall_mem_cons.mpr ⟨amD74_0, List.forall_mem_cons.mpr ⟨amD74_1, fun _ h => absurd h List.not_mem_nil⟩⟩
theorem amD75_0 : amDecK cX3_takeOut amK75_0 := amDecK_of (by decide +kernel)
theorem amD75 : ∀ l ∈ amC75, amDecK cX3_takeOut l := List.forall_mem_cons.mpr ⟨amD75_0, fun _ h => absurd h List.not_mem_nil⟩
theorem amD76_0 : amDecK cX3_resize amK76_0 := amDecK_of (by decide +kernel)
theorem amD76 : ∀ l ∈ amC76, amDecK cX3_resize l := List.forall_mem_cons.mpr ⟨amD76_0, fun _ h => absurd h List.not_mem_nil⟩
theorem amD77_0 : amDecK cL_from amK77_0 := amDecK_of (by decide +kernel)
theorem amD77 : ∀ l ∈ amC77, amDecK cL_from l := List.forall_mem_cons.mpr ⟨amD77_0, fun _ h => absurd h List.not_mem_nil⟩
theorem amD78_0 : amDecK cL_entries amK78_0 := amDecK_of (by decide +kernel)
theorem amD78 : ∀ l ∈ amC78, amDecK cL_entries l := List.forall_mem_cons.mpr ⟨amD78_0, fun _ h => absurd h List.not_mem_nil⟩
theorem amD79_0 : amDecK cL_all amK79_0 := amDecK_of (by decide +kernel)
theorem amD79 : ∀ l ∈ amC79, amDecK cL_all l := List.forall_mem_cons.mpr ⟨amD79_0, fun _ h => absurd h List.not_mem_nil⟩
theorem amD80_0 : amDecK cL_quotient amK80_0 := amDecK_of (by decide +kernel)
theorem amD80 : ∀ l ∈ amC80, amDecK cL_quotient l := List.forall_mem_cons.mpr ⟨amD80_0, fun _ h => absurd h List.not_mem_nil⟩
theorem amD81_0 : amDecK cL_run amK81_0 := amDecK_of (by decide +kernel)
theorem amD81 : ∀ l ∈ amC81, amDecK cL_run l := List.forall_mem_cons.mpr ⟨amD81_0, fun _ h => absurd h List.not_mem_nil⟩
theorem amD82_0 : amDecK cL_lay amK82_0 := amDecK_of (by decide +kernel)
theorem amD82_1 : amDecK cL_lay amK82_1 := amDecK_of (by decide +kernel)
theorem amD82_2 : amDecK cL_lay amK82_2 := amDecK_of (by decide +kernel)
theorem amD82_3 : amDecK cL_lay amK82_3 := amDecK_of (by decide +kernel)
theorem amD82 : ∀ l ∈ amC82, amDecK cL_lay l := List.forall_mem_cons.mpr ⟨amD82_0, List.forall_mem_cons.mpr ⟨amD82_1, List.forall_mem_cons.mpr ⟨amD82_2, List.forall_mem_cons.mpr ⟨amD82_3, fun _ h => absurd h List.not_mem_nil⟩⟩⟩⟩
theorem amD83_0 : amDecK cL_isSlot amK83_0 := amDecK_of (by decide +kernel)
theorem amD83_1 : amDecK cL_isSlot amK83_1 := amDecK_of (by decide +kernel)
theorem amD83_2 : amDecK cL_isSlot amK83_2 := amDecK_of (by decide +kernel)
theorem amD83_3 : amDecK cL_isSlot amK83_3 := amDecK_of (by decide +kernel)
theorem amD83_4 : amDecK cL_isSlot amK83_4 := amDecK_of (by decide +kernel)
theorem amD83 : ∀ l ∈ amC83, amDecK cL_isSlot l := List.forall_mem_cons.mpr ⟨amD83_0, List.forall_mem_cons.mpr ⟨amD83_1, List.forall_mem_cons.mpr ⟨amD83_2, List.forall_mem_cons.mpr ⟨amD83_3, List.forall_mem_cons.mpr ⟨amD83_4, fun _ h => absurd h List.not_mem_nil⟩⟩⟩⟩⟩
theorem amD84_0 : amDecK cL_areSlots amK84_0 := amDecK_of (by decide +kernel)
theorem amD84_1 : amDecK cL_areSlots amK84_1 := amDecK_of (by decide +kernel)
theorem amD84_2 : amDecK cL_areSlots amK84_2 := amDecK_of (by decide +kernel)
theorem amD84_3 : amDecK cL_areSlots amK84_3 := amDecK_of (by decide +kernel)
theorem amD84_4 : amDecK cL_areSlots amK84_4 := amDecK_of (by decide +kernel)
theorem amD84 : ∀ l ∈ amC84, amDecK cL_areSlots l := List.forall_mem_cons.mpr ⟨amD84_0, List.forall_mem_cons.mpr ⟨amD84_1, List.forall_mem_cons.mpr ⟨amD84_2, List.forall_mem_cons.mpr ⟨amD84_3, List.forall_mem_cons.mpr ⟨amD84_4, fun _ h => absurd h List.not_mem_nil⟩⟩⟩⟩⟩
theorem amD85_0 : amDecK cL_isFilter amK85_0 := amDecK_of (by decide +kernel)
theorem amD85_1 : amDecK cL_isFilter amK85_1 := amDecK_of (by decide +kernel)
theorem amD85_2 : amDecK cL_isFilter amK85_2 := amDecK_of (by decide +kernel)
theorem amD85_3 : amDecK cL_isFilter amK85_3 := amDecK_of (by decide +kernel)
theorem amD85_4 : amDecK cL_isFilter amK85_4 := amDecK_of (by decide +kernel)
theorem amD85_5 : amDecK cL_isFilter amK85_5 := amDecK_of (by decide +kernel)
theorem amD85_6 : amDecK cL_isFilter amK85_6 := amDecK_of (by decide +kernel)
theorem amD85 : ∀ l ∈ amC85, amDecK cL_isFilter l := List.forall_mem_cons.mpr ⟨amD85_0, List.forall_mem_cons.mpr ⟨amD85_1, List.forall_mem_cons.mpr ⟨amD85_2, List.forall_mem_cons.mpr ⟨amD85_3, List.forall_mem_cons.mpr ⟨amD85_4, List.forall_mem_cons.mpr ⟨amD85_5, List.forall_mem_cons.mpr ⟨amD85_6, fun _ h => absurd h List.not_mem_nil⟩⟩⟩⟩⟩⟩⟩
theorem amD86_0 : amDecK cL_areSame amK86_0 := amDecK_of (by decide +kernel)
theorem amD86_1 : amDecK cL_areSame amK86_1 := amDecK_of (by decide +kernel)
theorem amD86 : ∀ l ∈ amC86, amDecK cL_areSame l := List.forall_mem_cons.mpr ⟨amD86_0, List.forall_mem_cons.mpr ⟨amD86_1, fun _ h => absurd h List.not_mem_nil⟩⟩
theorem amD87_0 : amDecK cL_key amK87_0 := amDecK_of (by decide +kernel)
theorem amD87 : ∀ l ∈ amC87, amDecK cL_key l := List.forall_mem_cons.mpr ⟨amD87_0, fun _ h => absurd h List.not_mem_nil⟩
theorem amD88_0 : amDecK cL_inserted amK88_0 := amDecK_of (by decide +kernel)
theorem amD88 : ∀ l ∈ amC88, amDecK cL_inserted l := List.forall_mem_cons.mpr ⟨amD88_0, fun _ h => absurd h List.not_mem_nil⟩
theorem amD89_0 : amDecK cL_added amK89_0 := amDecK_of (by decide +kernel)
theorem amD89 : ∀ l ∈ amC89, amDecK cL_added l := List.forall_mem_cons.mpr ⟨amD89_0, fun _ h => absurd h List.not_mem_nil⟩
theorem amD90_0 : amDecK cL_grown amK90_0 := amDecK_of (by decide +kernel)
theorem amD90 : ∀ l ∈ amC90, amDecK cL_grown l := List.forall_mem_cons.mpr ⟨amD90_0, fun _ h => absurd h List.not_mem_nil⟩
theorem amD91_0 : amDecK cL_shrunk amK91_0 := amDecK_of (by decide +kernel)
theorem amD91 : ∀ l ∈ amC91, amDecK cL_shrunk l := List.forall_mem_cons.mpr ⟨amD91_0, fun _ h => absurd h List.not_mem_nil⟩
theorem amD92_0 : amDecK cL_merged amK92_0 := amDecK_of (by decide +kernel)
theorem amD92 : ∀ l ∈ amC92, amDecK cL_merged l := List.forall_mem_cons.mpr ⟨amD92_0, fun _ h => absurd h List.not_mem_nil⟩
theorem amD93_0 : amDecK cL_hasRoom amK93_0 := amDecK_of (by decide +kernel)
theorem amD93 : ∀ l ∈ amC93, amDecK cL_hasRoom l := List.forall_mem_cons.mpr ⟨amD93_0, fun _ h => absurd h List.not_mem_nil⟩
theorem amD94_0 : amDecK cL_counts amK94_0 := amDecK_of (by decide +kernel)
theorem amD94_1 : amDecK cL_counts amK94_1 := amDecK_of (by decide +kernel)
theorem amD94_2 : amDecK cL_counts amK94_2 := amDecK_of (by decide +kernel)
theorem amD94_3 : amDecK cL_counts amK94_3 := amDecK_of (by decide +kernel)
theorem amD94_4 : amDecK cL_counts amK94_4 := amDecK_of (by decide +kernel)
theorem amD94 : ∀ l ∈ amC94, amDecK cL_counts l := List.forall_mem_cons.mpr ⟨amD94_0, List.forall_mem_cons.mpr ⟨amD94_1, List.forall_mem_cons.mpr ⟨amD94_2, List.forall_mem_cons.mpr ⟨amD94_3, List.forall_mem_cons.mpr ⟨amD94_4, fun _ h => absurd h List.not_mem_nil⟩⟩⟩⟩⟩
theorem amD95_0 : amDecK cL_wholes amK95_0 := amDecK_of (by decide +kernel)
theorem amD95_1 : amDecK cL_wholes amK95_1 := amDecK_of (by decide +kernel)
theorem amD95_2 : amDecK cL_wholes amK95_2 := amDecK_of (by decide +kernel)
theorem amD95_3 : amDecK cL_wholes amK95_3 := amDecK_of (by decide +kernel)
theorem amD95_4 : amDecK cL_wholes amK95_4 := amDecK_of (by decide +kernel)
theorem amD95_5 : amDecK cL_wholes amK95_5 := amDecK_of (by decide +kernel)
theorem amD95 : ∀ l ∈ amC95, amDecK cL_wholes l := List.forall_mem_cons.mpr ⟨amD95_0, List.forall_mem_cons.mpr ⟨amD95_1, List.forall_mem_cons.mpr ⟨amD95_2, List.forall_mem_cons.mpr ⟨amD95_3, List.forall_mem_cons.mpr ⟨amD95_4, List.forall_mem_cons.mpr ⟨amD95_5, fun _ h => absurd h List.not_mem_nil⟩⟩⟩⟩⟩⟩
theorem amD96_0 : amDecK cL_holds amK96_0 := amDecK_of (by decide +kernel)
theorem amD96_1 : amDecK cL_holds amK96_1 := amDecK_of (by decide +kernel)
theorem amD96_2 : amDecK cL_holds amK96_2 := amDecK_of (by decide +kernel)
theorem amD96_3 : amDecK cL_holds amK96_3 := amDecK_of (by decide +kernel)
theorem amD96_4 : amDecK cL_holds amK96_4 := amDecK_of (by decide +kernel)
theorem amD96_5 : amDecK cL_holds amK96_5 := amDecK_of (by decide +kernel)
theorem amD96_6 : amDecK cL_holds amK96_6 := amDecK_of (by decide +kernel)
theorem amD96 : ∀ l ∈ amC96, amDecK cL_holds l := List.forall_mem_cons.mpr ⟨amD96_0, List.forall_mem_cons.mpr ⟨amD96_1, List.forall_mem_cons.mpr ⟨amD96_2, List.forall_mem_cons.mpr ⟨amD96_3, List.forall_mem_cons.mpr ⟨amD96_4, List.forall_mem_cons.mpr ⟨amD96_5, List.forall_mem_cons.mpr ⟨amD96_6, fun _ h => absurd h List.not_mem_nil⟩⟩⟩⟩⟩⟩⟩
theorem amD97_0 : amDecK cL_isHeld amK97_0 := amDecK_of (by decide +kernel)
theorem amD97 : ∀ l ∈ amC97, amDecK cL_isHeld l := List.forall_mem_cons.mpr ⟨amD97_0, fun _ h => absurd h List.not_mem_nil⟩
theorem amD98_0 : amDecK cL_law amK98_0 := amDecK_of (by decide +kernel)
theorem amD98 : ∀ l ∈ amC98, amDecK cL_law l := List.forall_mem_cons.mpr ⟨amD98_0, fun _ h => absurd h List.not_mem_nil⟩
theorem amD99_0 : amDecK cX0_appendPart amK99_0 := amDecK_of (by decide +kernel)
theorem amD99 : ∀ l ∈ amC99, amDecK cX0_appendPart l := List.forall_mem_cons.mpr ⟨amD99_0, fun _ h => absurd h List.not_mem_nil⟩
theorem amDecAll : ∀ r ∈ amAll, ∀ l ∈ r.2, amDecK r.1.2.2.1 l := List.forall_mem_cons.mpr ⟨amD0, List.forall_mem_cons.mpr ⟨amD1, List.forall_mem_cons.mpr ⟨amD2, List.forall_mem_cons.mpr ⟨amD3, List.forall_mem_cons.mpr ⟨amD4, List.forall_mem_cons.mpr ⟨amD5, List.forall_mem_cons.mpr ⟨amD6, List.forall_mem_cons.mpr ⟨amD7, List.forall_mem_cons.mpr ⟨amD8, List.forall_mem_cons.mpr ⟨amD9, List.forall_mem_cons.mpr ⟨amD10, List.forall_mem_cons.mpr ⟨amD11, List.forall_mem_cons.mpr ⟨amD12, List.forall_mem_cons.mpr ⟨amD13, List.forall_mem_cons.mpr ⟨amD14, List.forall_mem_cons.mpr ⟨amD15, List.forall_mem_cons.mpr ⟨amD16, List.forall_mem_cons.mpr ⟨amD17, List.forall_mem_cons.mpr ⟨amD18, List.forall_mem_cons.mpr ⟨amD19, List.forall_mem_cons.mpr ⟨amD20, List.forall_mem_cons.mpr ⟨amD21, List.forall_mem_cons.mpr ⟨amD22, List.forall_mem_cons.mpr ⟨amD23, List.forall_mem_cons.mpr ⟨amD24, List.forall_mem_cons.mpr ⟨amD25, List.forall_mem_cons.mpr ⟨amD26, List.forall_mem_cons.mpr ⟨amD27, List.forall_mem_cons.mpr ⟨amD28, List.forall_mem_cons.mpr ⟨amD29, List.forall_mem_cons.mpr ⟨amD30, List.forall_mem_cons.mpr ⟨amD31, List.forall_mem_cons.mpr ⟨amD32, List.forall_mem_cons.mpr ⟨amD33, List.forall_mem_cons.mpr ⟨amD34, List.forall_mem_cons.mpr ⟨amD35, List.forall_mem_cons.mpr ⟨amD36, List.forall_mem_cons.mpr ⟨amD37, List.forall_mem_cons.mpr ⟨amD38, List.forall_mem_cons.mpr ⟨amD39, List.forall_mem_cons.mpr ⟨amD40, List.forall_mem_cons.mpr ⟨amD41, List.forall_mem_cons.mpr ⟨amD42, List.forall_mem_cons.mpr ⟨amD43, List.forall_mem_cons.mpr ⟨amD44, List.forall_mem_cons.mpr ⟨amD45, List.forall_mem_cons.mpr ⟨amD46, List.forall_mem_cons.mpr ⟨amD47, List.forall_mem_cons.mpr ⟨amD48, List.forall_mem_cons.mpr ⟨amD49, List.forall_mem_cons.mpr ⟨amD50, List.forall_mem_cons.mpr ⟨amD51, List.forall_mem_cons.mpr ⟨amD52, List.forall_mem_cons.mpr ⟨amD53, List.forall_mem_cons.mpr ⟨amD54, List.forall_mem_cons.mpr ⟨amD55, List.forall_mem_cons.mpr ⟨amD56, List.forall_mem_cons.mpr ⟨amD57, List.forall_mem_cons.mpr ⟨amD58, List.forall_mem_cons.mpr ⟨amD59, List.forall_mem_cons.mpr ⟨amD60, List.forall_mem_cons.mpr ⟨amD61, List.forall_mem_cons.mpr ⟨amD62, List.forall_mem_cons.mpr ⟨amD63, List.forall_mem_cons.mpr ⟨amD64, List.forall_mem_cons.mpr ⟨amD65, List.forall_mem_cons.mpr ⟨amD66, List.forall_mem_cons.mpr ⟨amD67, List.forall_mem_cons.mpr ⟨amD68, List.forall_mem_cons.mpr ⟨amD69, List.forall_mem_cons.mpr ⟨amD70, List.forall_mem_cons.mpr ⟨amD71, List.forall_mem_cons.mpr ⟨amD72, List.forall_mem_cons.mpr ⟨amD73, List.forall_mem_cons.mpr ⟨amD74, List.forall_mem_cons.mpr ⟨amD75, List.forall_mem_cons.mpr ⟨amD76, List.forall_mem_cons.mpr ⟨amD77, List.forall_mem_cons.mpr ⟨amD78, List.forall_mem_cons.mpr ⟨amD79, List.forall_mem_cons.mpr ⟨amD80, List.forall_mem_cons.mpr ⟨amD81, List.forall_mem_cons.mpr ⟨amD82, List.forall_mem_cons.mpr ⟨amD83, List.forall_mem_cons.mpr ⟨amD84, List.forall_mem_cons.mpr ⟨amD85, List.forall_mem_cons.mpr ⟨amD86, List.forall_mem_cons.mpr ⟨amD87, List.forall_mem_cons.mpr ⟨amD88, List.forall_mem_cons.mpr ⟨amD89, List.forall_mem_cons.mpr ⟨amD90, List.forall_mem_cons.mpr ⟨amD91, List.forall_mem_cons.mpr ⟨amD92, List.forall_mem_cons.mpr ⟨amD93, List.forall_mem_cons.mpr ⟨amD94, List.forall_mem_cons.mpr ⟨amD95, List.forall_mem_cons.mpr ⟨amD96, List.forall_mem_cons.mpr ⟨amD97, List.forall_mem_cons.mpr ⟨amD98, List.forall_mem_cons.mpr ⟨amD99, fun _ h => absurd h List.not_mem_nil⟩⟩⟩⟩⟩⟩⟩⟩⟩⟩⟩⟩⟩⟩⟩⟩⟩⟩⟩⟩⟩⟩⟩⟩⟩⟩⟩⟩⟩⟩⟩⟩⟩⟩⟩⟩⟩⟩⟩⟩⟩⟩⟩⟩⟩⟩⟩⟩⟩⟩⟩⟩⟩⟩⟩⟩⟩⟩⟩⟩⟩⟩⟩⟩⟩⟩⟩⟩⟩⟩⟩⟩⟩⟩⟩⟩⟩⟩⟩⟩⟩⟩⟩⟩⟩⟩⟩⟩⟩⟩⟩⟩⟩⟩⟩⟩⟩⟩⟩⟩
