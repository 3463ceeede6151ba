/-! the launch's facts -/
section ST
variable {s : State} {b : Nat}
set_option maxRecDepth 100000 in
set_option maxHeartbeats 4000000 in
theorem st_str (hts : ∀ w ∈ lw_tbl, w.before #[Value.ref b] s = true) (hgv : (Jvm.Cond.and given_1 narrow_1).before #[Value.ref b] s = true) : ∀ q ∈ strs, ∃ sa : Nat, vk_R R_Fb q.1 q.2 sa s := by
  have hs := flat_of_before _ hgv
  simp only [strs, List.forall_mem_cons]
  refine ⟨?_, ?_, ?_, ?_, ?_, ?_, ?_, ?_, ?_, ?_, ?_, ?_, ?_, ?_, ?_, ?_, ?_, ?_, ?_, fun _ h => absurd h List.not_mem_nil⟩
  · exact st_S (hts _ (List.mem_append_right _ (List.mem_of_getElem? (i := 250) (by decide +kernel)))) (hs _ (by decide +kernel))
  · exact st_S (hts _ (List.mem_append_right _ (List.mem_of_getElem? (i := 293) (by decide +kernel)))) (hs _ (by decide +kernel))
  · exact st_S (hts _ (List.mem_append_right _ (List.mem_of_getElem? (i := 321) (by decide +kernel)))) (hs _ (by decide +kernel))
  · exact st_S (hts _ (List.mem_append_right _ (List.mem_of_getElem? (i := 326) (by decide +kernel)))) (hs _ (by decide +kernel))
  · exact st_S (hts _ (List.mem_append_right _ (List.mem_of_getElem? (i := 399) (by decide +kernel)))) (hs _ (by decide +kernel))
  · exact st_S (hts _ (List.mem_append_right _ (List.mem_of_getElem? (i := 400) (by decide +kernel)))) (hs _ (by decide +kernel))
  · exact st_S (hts _ (List.mem_append_right _ (List.mem_of_getElem? (i := 401) (by decide +kernel)))) (hs _ (by decide +kernel))
  · exact st_S (hts _ (List.mem_append_right _ (List.mem_of_getElem? (i := 413) (by decide +kernel)))) (hs _ (by decide +kernel))
  · exact st_S (hts _ (List.mem_append_right _ (List.mem_of_getElem? (i := 456) (by decide +kernel)))) (hs _ (by decide +kernel))
  · exact st_S (hts _ (List.mem_append_right _ (List.mem_of_getElem? (i := 466) (by decide +kernel)))) (hs _ (by decide +kernel))
  · exact st_S (hts _ (List.mem_append_right _ (List.mem_of_getElem? (i := 492) (by decide +kernel)))) (hs _ (by decide +kernel))
  · exact st_S (hts _ (List.mem_append_right _ (List.mem_of_getElem? (i := 776) (by decide +kernel)))) (hs _ (by decide +kernel))
  · exact st_S (hts _ (List.mem_append_right _ (List.mem_of_getElem? (i := 785) (by decide +kernel)))) (hs _ (by decide +kernel))
  · exact st_S (hts _ (List.mem_append_right _ (List.mem_of_getElem? (i := 794) (by decide +kernel)))) (hs _ (by decide +kernel))
  · exact st_S (hts _ (List.mem_append_right _ (List.mem_of_getElem? (i := 797) (by decide +kernel)))) (hs _ (by decide +kernel))
  · exact st_S (hts _ (List.mem_append_right _ (List.mem_of_getElem? (i := 805) (by decide +kernel)))) (hs _ (by decide +kernel))
  · exact st_S (hts _ (List.mem_append_right _ (List.mem_of_getElem? (i := 821) (by decide +kernel)))) (hs _ (by decide +kernel))
  · exact st_S (hts _ (List.mem_append_right _ (List.mem_of_getElem? (i := 829) (by decide +kernel)))) (hs _ (by decide +kernel))
  · exact st_S (hts _ (List.mem_append_right _ (List.mem_of_getElem? (i := 830) (by decide +kernel)))) (hs _ (by decide +kernel))
set_option maxRecDepth 100000 in
set_option maxHeartbeats 4000000 in
theorem st_E (hts : ∀ w ∈ lw_tbl, w.before #[Value.ref b] s = true) (hgv : (Jvm.Cond.and given_1 narrow_1).before #[Value.ref b] s = true) {ct : Nat → ClassId} (hr : rA ct s) {A : Nat → Prop} (hA : ∀ a : Nat, a < s.heap.size → ¬ A a) : eC ct A s := by
  have hs := flat_of_before _ hgv
  refine ⟨hr, fun w hw => ?_, vx_Zqof (hts _ (List.mem_append_right _ (List.mem_of_getElem? (i := 235) (by decide +kernel)))) (hts _ (by decide +kernel)) (hs _ (by decide +kernel)) hA, vx_Zqof (hts _ (List.mem_append_right _ (List.mem_of_getElem? (i := 237) (by decide +kernel)))) (hts _ (by decide +kernel)) (hs _ (by decide +kernel)) hA, st_str hts hgv⟩
  have hg := List.mem_filter.mp hw
  have hg2 := hg.2
  simp only [Bool.and_eq_true] at hg2
  exact va_any hg2.1 (hts w hg.1)
set_option maxRecDepth 100000 in
set_option maxHeartbeats 4000000 in
theorem st_N (hgv : (Jvm.Cond.and given_1 narrow_1).before #[Value.ref b] s = true) : va_Nc nISE nIAE s ∧ va_Nc nIOE nIAE s := by
  have hs := flat_of_before _ hgv
  exact ⟨va_Nc.of (hs (Cond.not (.castable nISE nIAE)) (by decide +kernel)), va_Nc.of (hs (Cond.not (.castable nIOE nIAE)) (by decide +kernel))⟩
theorem st_L (hts : ∀ w ∈ lw_tbl, w.before #[Value.ref b] s = true) : va_Nw nl36 s ∧ va_Nw nl47 s := ⟨va_Nw.of rfl (hts _ (List.mem_append_right _ (List.mem_of_getElem? (i := 36) (by decide +kernel)))), va_Nw.of rfl (hts _ (List.mem_append_right _ (List.mem_of_getElem? (i := 47) (by decide +kernel))))⟩
end ST
