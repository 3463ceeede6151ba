/-! the law's loop -/
abbrev PU (rl : RL) : Prop := PU_ok rl ∧ PU_make rl ∧ PU_link rl ∧ PU_write rl ∧ PU_paint rl ∧ PU_read rl ∧ PU_cut rl ∧ PU_links rl ∧ PU_drop rl ∧ PU_about rl ∧ PU_block rl ∧ PU_count rl ∧ PU_byteOf rl ∧ PU_finish rl
section LL
variable {p : Program} {e : Env} {s : State} {m : MethodId} {below : List Frame} {meth : Method} {c : Code} {Q : State → Prop}
variable {D : va_G} {Ac : Nat → Prop} {ct : Nat → ClassId} {ad am : Nat → Nat} {ao hd b L : Nat} {xs : Nat → Int32}
set_option maxHeartbeats 4000000 in
set_option maxRecDepth 100000 in
theorem lw_loop {rl : RL} (P : PU rl) (l : Launch) (hl9 : l.stackTraces = false) (hx : p.tables.exec = Jvm.exec) (hb : c.code = c_Lw_law) (hml : c.maxLocals = 7) (hown : s.vm.findClass R_Lw = some m.cls) (hts : ∀ w ∈ wA, w.before #[Value.ref b] s = true) (hX : va_X b L xs s s.heap) (hbl : b < s.heap.size) (hL2 : L ≤ 3072) (hF : lF s Ac D ct am ao hd)
    (hend : ∀ (n : Nat) (H : Heap) (locs : List Loc) (ls : Array Slot), n ≤ 512 → va_S (fun q => s.heap.size ≤ q) s.heap H locs → W p l e room_1 s m #[Value.ref b] below meth c H locs (20 + 8 * n) (140000 + 5138 * n) Q (F0 m 987 ls [])) :
    ∀ (n9 n : Nat) (B tk : Nat → Int32) (fr : Int32) (X : Nat → Option (Nat → Int32)) (S : mst) (o : Nat → Int64) (H : Heap) (locs : List Loc) (ls : Array Slot), 512 - n < n9 → n ≤ 512 → rl B tk fr X S → lS s Ac D ct ad am ao hd B tk fr X S o H locs → lv_has ls 7 [(0, .ref b), (1, .ref (ad 0)), (2, .ref (am 0)), (3, .ref ao), (4, .int (nI (6 * n)))] → W p l e room_1 s m #[Value.ref b] below meth c H locs (20 + 8 * n) (140000 + 5138 * n) Q (F0 m 23 ls []) := by
  intro n9
  induction n9 with
  | zero => intro n B tk fr X S o H locs ls h1; exact absurd h1 (by omega)
  | succ n9 ih =>
    intro n B tk fr X S o H locs ls h1 h2 hr hL hl
    refine lv_iload hx hb d_Lw_law_23 (lv_at hl 4 rfl) ?_
    refine lv_aload_n hx hb d_Lw_law_25 rfl (lv_at hl 0 rfl) ?_
    refine va_slen hx hb hX hbl (A := fun q => s.heap.size ≤ q) (by omega) hL.hS d_Lw_law_26 ?_
    refine W.eq (g2 := F0 m 27 ls [.int (nI L), .int (nI (6 * n))]) rfl ?_
    refine lv_bipush (v := nI 6) hx hb d_Lw_law_27 (by decide) ?_
    refine lv_isub hx hb d_Lw_law_29 ?_
    refine lz_icmp_gt (tgt := 987) hx hb (nI_toInt (by omega)) (z_sub (nI_toInt (by omega)) (nI_toInt (by decide)) (by omega) (by omega)) d_Lw_law_30 (by decide) (fun c9 => ?_) (fun c9 => ?_)
    · exact hend n H locs ls h2 hL.hS
    have hi : 6 * n + 6 ≤ L := by omega
    have hnext : ∀ (B tk : Nat → Int32) (fr : Int32) (X : Nat → Option (Nat → Int32)) (S : mst) (o : Nat → Int64) (H : Heap) (locs : List Loc) (ls : Array Slot), rl B tk fr X S → lS s Ac D ct ad am ao hd B tk fr X S o H locs → lv_has ls 7 [(0, .ref b), (1, .ref (ad 0)), (2, .ref (am 0)), (3, .ref ao), (4, .int (nI (6 * n)))] → W p l e room_1 s m #[Value.ref b] below meth c H locs (20 + 8 * n + 8) (140000 + 5138 * n + 5138) Q (F0 m 981 ls []) := by
      intro B tk fr X S o H locs ls hr hL hl
      refine lv_iinc (v := nI (6 * n + 6)) (lv' := [(4, .int (nI (6 * n + 6))), (0, .ref b), (1, .ref (ad 0)), (2, .ref (am 0)), (3, .ref ao)]) hx hb d_Lw_law_981 hl (k := 4) rfl (ln_inc (by decide)) (by decide) rfl (fun ls hl => ?_)
      refine lv_goto (tgt := 23) hx hb d_Lw_law_984 (by decide) ?_
      refine W.widen (k := 20 + 8 * (n + 1)) (n := 140000 + 5138 * (n + 1)) (by omega) (by omega) ?_
      exact ih (n + 1) B tk fr X S o H locs ls (by omega) (by omega) hr hL (lv_sub hl [1, 2, 3, 4, 0] rfl)
    refine lv_aload_n hx hb d_Lw_law_33 rfl (lv_at hl 0 rfl) ?_
    refine lv_iload hx hb d_Lw_law_34 (lv_at hl 4 rfl) ?_
    refine lwS hx hb hX hbl hL (by omega) (by omega) d_Lw_law_36 ?_
    refine lv_bipush (v := nI 15) hx hb d_Lw_law_37 (by decide) ?_
    refine lv_iand hx hb d_Lw_law_39 ?_
    obtain ⟨j, hj, ej⟩ := pk_andE (xs (6 * n)) (m := nI 15) 4 (by decide)
    refine W.eq (g2 := F0 m 40 ls [.int (nI j)]) (by rw [ej]) ?_
    rcases (show j = 0 ∨ j = 1 ∨ j = 2 ∨ j = 3 ∨ j = 4 ∨ j = 5 ∨ j = 6 ∨ j = 7 ∨ j = 8 ∨ j = 9 ∨ j = 10 ∨ j = 11 ∨ j = 12 ∨ j = 13 ∨ j = 14 ∨ j = 15 by omega) with rfl | rfl | rfl | rfl | rfl | rfl | rfl | rfl | rfl | rfl | rfl | rfl | rfl | rfl | rfl | rfl
    · refine lv_tableIn (off := 68) (tgt := 108) hx hb d_Lw_law_40 (by decide) (by decide) (by decide) (by decide) ?_
      exact lw_make (rl := rl) P.2.1 P.1 l hl9 hx hb hml hown hts hX hbl hL2 hF hL hr (by omega) (by omega) (by omega) hl hnext
    · refine lv_tableIn (off := 124) (tgt := 164) hx hb d_Lw_law_40 (by decide) (by decide) (by decide) (by decide) ?_
      exact lw_link (rl := rl) P.2.2.1 P.1 l hl9 hx hb hml hown hts hX hbl hL2 hF hL hr (by omega) (by omega) (by omega) hl hnext
    · refine lv_tableIn (off := 192) (tgt := 232) hx hb d_Lw_law_40 (by decide) (by decide) (by decide) (by decide) ?_
      exact lw_write (rl := rl) P.2.2.2.1 P.1 l hl9 hx hb hml hown hts hX hbl hL2 hF hL hr (by omega) (by omega) (by omega) hl hnext
    · refine lv_tableIn (off := 316) (tgt := 356) hx hb d_Lw_law_40 (by decide) (by decide) (by decide) (by decide) ?_
      exact lw_paint (rl := rl) P.2.2.2.2.1 P.1 l hl9 hx hb hml hown hts hX hbl hL2 hF hL hr (by omega) (by omega) (by omega) hl hnext
    · refine lv_tableIn (off := 408) (tgt := 448) hx hb d_Lw_law_40 (by decide) (by decide) (by decide) (by decide) ?_
      exact lw_read (rl := rl) P.2.2.2.2.2.1 P.1 l hl9 hx hb hml hown hts hX hbl hL2 hF hL hr (by omega) (by omega) (by omega) hl hnext
    · refine lv_tableIn (off := 476) (tgt := 516) hx hb d_Lw_law_40 (by decide) (by decide) (by decide) (by decide) ?_
      exact lw_cut (rl := rl) P.2.2.2.2.2.2.1 P.1 l hl9 hx hb hml hown hts hX hbl hL2 hF hL hr (by omega) (by omega) (by omega) hl hnext
    · refine lv_tableIn (off := 544) (tgt := 584) hx hb d_Lw_law_40 (by decide) (by decide) (by decide) (by decide) ?_
      exact lw_links (rl := rl) P.2.2.2.2.2.2.2.1 P.1 l hl9 hx hb hml hown hts hX hbl hL2 hF hL hr (by omega) (by omega) (by omega) hl hnext
    · refine lv_tableIn (off := 612) (tgt := 652) hx hb d_Lw_law_40 (by decide) (by decide) (by decide) (by decide) ?_
      exact lw_drop (rl := rl) P.2.2.2.2.2.2.2.2.1 P.1 l hl9 hx hb hml hown hts hX hbl hL2 hF hL hr (by omega) (by omega) (by omega) hl hnext
    · refine lv_tableIn (off := 668) (tgt := 708) hx hb d_Lw_law_40 (by decide) (by decide) (by decide) (by decide) ?_
      exact lw_finish (rl := rl) P.2.2.2.2.2.2.2.2.2.2.2.2.2 P.1 l hl9 hx hb hml hown hts hX hbl hL2 hF hL hr (by omega) (by omega) (by omega) hl hnext
    · refine lv_tableIn (off := 681) (tgt := 721) hx hb d_Lw_law_40 (by decide) (by decide) (by decide) (by decide) ?_
      exact lw_about (rl := rl) P.2.2.2.2.2.2.2.2.2.1 P.1 l hl9 hx hb hml hown hts hX hbl hL2 hF hL hr (by omega) (by omega) (by omega) hl hnext
    · refine lv_tableIn (off := 749) (tgt := 789) hx hb d_Lw_law_40 (by decide) (by decide) (by decide) (by decide) ?_
      exact lw_block (rl := rl) P.2.2.2.2.2.2.2.2.2.2.1 P.1 l hl9 hx hb hml hown hts hX hbl hL2 hF hL hr (by omega) (by omega) (by omega) hl hnext
    · refine lv_tableIn (off := 817) (tgt := 857) hx hb d_Lw_law_40 (by decide) (by decide) (by decide) (by decide) ?_
      exact lw_count (rl := rl) P.2.2.2.2.2.2.2.2.2.2.2.1 P.1 l hl9 hx hb hml hown hts hX hbl hL2 hF hL hr (by omega) (by omega) (by omega) hl hnext
    · refine lv_tableIn (off := 873) (tgt := 913) hx hb d_Lw_law_40 (by decide) (by decide) (by decide) (by decide) ?_
      exact lw_byteOf (rl := rl) P.2.2.2.2.2.2.2.2.2.2.2.2.1 P.1 l hl9 hx hb hml hown hts hX hbl hL2 hF hL hr (by omega) (by omega) (by omega) hl hnext
    · refine lv_tableOut (tgt := 981) hx hb d_Lw_law_40 (Or.inr (by decide)) (by decide) ?_
      refine W.widen (k := 20 + 8 * n + 8) (n := 140000 + 5138 * n + 5138) (by omega) (by omega) ?_
      exact hnext B tk fr X S o H locs ls hr hL hl
    · refine lv_tableOut (tgt := 981) hx hb d_Lw_law_40 (Or.inr (by decide)) (by decide) ?_
      refine W.widen (k := 20 + 8 * n + 8) (n := 140000 + 5138 * n + 5138) (by omega) (by omega) ?_
      exact hnext B tk fr X S o H locs ls hr hL hl
    · refine lv_tableOut (tgt := 981) hx hb d_Lw_law_40 (Or.inr (by decide)) (by decide) ?_
      refine W.widen (k := 20 + 8 * n + 8) (n := 140000 + 5138 * n + 5138) (by omega) (by omega) ?_
      exact hnext B tk fr X S o H locs ls hr hL hl
end LL
