/-! the start: the surroundings of the run; by wip/whole/gen64.py -/
theorem am_str {args : Array Value} {s : State} {own tx : String} {k : Nat} (h1 : (Cond.stringRef own k tx).before args s = true) (h2 : (Cond.exactly (.string own k) "java/lang/String").before args s = true) : ∃ sa, vk_R own k tx sa s := by
  obtain ⟨a, c, cell, k9, q1, -⟩ := Cond.exactly_spec (args := args) (first := s) (o := none) (s := s) (idx := []) (t := .string own k) (cls := "java/lang/String") h2
  exact ⟨a, vk_R.of h1 q1⟩
section AB
variable {s : State} {b : Nat}
theorem am_strs (hts : ∀ w ∈ lw_tbl, w.before #[Value.ref b] s = true) (hs : ∀ w ∈ flatC (Jvm.Cond.and given_1 narrow_1), w.before #[Value.ref b] s = true) : ∀ q ∈ amStrs, ∃ sa, vk_R q.1 q.2.1 q.2.2 sa s := by
  unfold amStrs
  simp only [List.forall_mem_cons]
  refine ⟨am_str (hts _ (List.mem_of_getElem? (i := 189) (by decide +kernel))) (hs _ (by decide +kernel)), am_str (hts _ (List.mem_of_getElem? (i := 239) (by decide +kernel))) (hs _ (by decide +kernel)), am_str (hts _ (List.mem_of_getElem? (i := 307) (by decide +kernel))) (hs _ (by decide +kernel)), am_str (hts _ (List.mem_of_getElem? (i := 353) (by decide +kernel))) (hs _ (by decide +kernel)), am_str (hts _ (List.mem_of_getElem? (i := 428) (by decide +kernel))) (hs _ (by decide +kernel)), am_str (hts _ (List.mem_of_getElem? (i := 438) (by decide +kernel))) (hs _ (by decide +kernel)), am_str (hts _ (List.mem_of_getElem? (i := 507) (by decide +kernel))) (hs _ (by decide +kernel)), am_str (hts _ (List.mem_of_getElem? (i := 547) (by decide +kernel))) (hs _ (by decide +kernel)), fun _ h => absurd h List.not_mem_nil⟩
theorem am_ncs (hs : ∀ w ∈ flatC (Jvm.Cond.and given_1 narrow_1), w.before #[Value.ref b] s = true) : ∀ q ∈ amNcs, va_Nc q.1 q.2 s := by
  unfold amNcs
  simp only [List.forall_mem_cons]
  exact ⟨va_Nc.of (hs (.not (.castable (amX 1) (amX 2))) (by decide +kernel)), va_Nc.of (hs (.not (.castable (amX 1) (amX 3))) (by decide +kernel)), va_Nc.of (hs (.not (.castable (amX 2) (amX 1))) (by decide +kernel)), va_Nc.of (hs (.not (.castable (amX 2) (amX 3))) (by decide +kernel)), va_Nc.of (hs (.not (.castable (amX 3) (amX 1))) (by decide +kernel)), va_Nc.of (hs (.not (.castable (amX 3) (amX 2))) (by decide +kernel)), fun _ h => absurd h List.not_mem_nil⟩
theorem am_amb (hts : ∀ w ∈ lw_tbl, w.before #[Value.ref b] s = true) (hgv : (Jvm.Cond.and given_1 narrow_1).before #[Value.ref b] s = true) : amAmb (fun q => s.heap.size ≤ q) s := by
  have hs := flat_of_before _ hgv
  have hA : ∀ a : Nat, a < s.heap.size → ¬ (fun q => s.heap.size ≤ q) a := fun a h => Nat.not_le.mpr h
  refine ⟨vx_Zqof (args := #[Value.ref b]) (hts _ (List.mem_of_getElem? (i := 175) (by decide +kernel))) (hts _ (List.mem_of_getElem? (i := 10) (by decide +kernel))) (hs _ (by decide +kernel)) hA, vx_Zqof (args := #[Value.ref b]) (hts _ (List.mem_of_getElem? (i := 177) (by decide +kernel))) (hts _ (List.mem_of_getElem? (i := 10) (by decide +kernel))) (hs _ (by decide +kernel)) hA, am_strs hts hs, am_ncs hs, ?_, va_AO.of (hts _ (List.mem_of_getElem? (i := 35) (by decide +kernel))), ?_⟩
  · unfold amNests
    simp only [List.forall_mem_cons]
    exact ⟨va_Nw.of rfl (hts _ (List.mem_of_getElem? (i := 301) (by decide +kernel))), va_Nw.of rfl (hts _ (List.mem_of_getElem? (i := 324) (by decide +kernel))), fun _ h => absurd h List.not_mem_nil⟩
  · unfold amBad
    simp only [List.forall_mem_cons]
    exact ⟨va_Nw.of rfl (hts _ (List.mem_of_getElem? (i := 150) (by decide +kernel))), va_Nw.of rfl (hts _ (List.mem_of_getElem? (i := 232) (by decide +kernel))), va_Nw.of rfl (hts _ (List.mem_of_getElem? (i := 421) (by decide +kernel))), va_Nw.of rfl (hts _ (List.mem_of_getElem? (i := 152) (by decide +kernel))), va_Nw.of rfl (hts _ (List.mem_of_getElem? (i := 154) (by decide +kernel))), va_Nw.of rfl (hts _ (List.mem_of_getElem? (i := 156) (by decide +kernel))), fun _ h => absurd h List.not_mem_nil⟩
end AB
theorem am_world {s : State} {b : Nat} (hts : ∀ w ∈ lw_tbl, w.before #[Value.ref b] s = true) : ∃ D, va_K D vwCl [] s := by
  have ht2 : ∀ w ∈ amTB, w.before #[Value.ref b] s = true := fun w hw => hts w (List.mem_filter.mp hw).1
  obtain ⟨c0, i0, k0⟩ := u_known (C := amN 0) (T := amTT 0) (N := amNF 0) ht2 amU_0 (ht2 _ amIs_0)
  obtain ⟨c1, i1, k1⟩ := u_known (C := amN 1) (T := amTT 1) (N := amNF 1) ht2 amU_1 (ht2 _ amIs_1)
  obtain ⟨c2, i2, k2⟩ := u_known (C := amN 2) (T := amTT 2) (N := amNF 2) ht2 amU_2 (ht2 _ amIs_2)
  obtain ⟨c3, i3, k3⟩ := u_known (C := amN 3) (T := amTT 3) (N := amNF 3) ht2 amU_3 (ht2 _ amIs_3)
  refine ⟨(fun k => match k with | 0 => c0 | 1 => c1 | 2 => c2 | _ => c3, fun k => match k with | 0 => i0 | 1 => i1 | 2 => i2 | _ => i3), fun k q hq => ?_, fun k q h => by simp at h⟩
  match k, hq with
  | 0, hq => cases hq; exact k0
  | 1, hq => cases hq; exact k1
  | 2, hq => cases hq; exact k2
  | 3, hq => cases hq; exact k3
  | k + 4, hq => simp [vwCl] at hq
