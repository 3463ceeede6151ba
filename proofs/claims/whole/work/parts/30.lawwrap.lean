/-! the law's wrappers -/
theorem cu_c_2 {B : Nat → Int32} {f : Nat} {z : Int} : cu_c B f z ≠ 2 := by unfold cu_c; split <;> decide
theorem li_c_2 {B : Nat → Int32} {f : Nat} {x : Int32} : li_c B f x ≠ 2 := by unfold li_c; split <;> decide
theorem ab_c_2 {f : Nat} {z : Int} : ab_c f z ≠ 2 := by unfold ab_c; split <;> decide
theorem bk_c_2 {B : Nat → Int32} {f : Nat} {z : Int} : bk_c B f z ≠ 2 := by unfold bk_c; split <;> decide
theorem co_c_2 {z : Int} : co_c z ≠ 2 := by unfold co_c; split <;> decide
theorem by_c_2 {z u : Int} : by_c z u ≠ 2 := by unfold by_c; split <;> decide
theorem m_Lw_make : (Cond.static y_Lw_make ∈ wA ∧ Cond.initialized y_Lw_make.cls ∈ wA ∧ Cond.codeWith y_Lw_make c_Lw_make 4 (some .int) [(0, 9, 12, 13), (0, 9, 15, 15)] ∈ wA) ∧ (y_Lw_make.cls ≠ "java/lang/invoke/MethodHandle" ∧ y_Lw_make.cls ≠ "java/lang/invoke/VarHandle" ∧ (parseMethodDescriptor y_Lw_make.desc).map (fun d => d.parameters.length) = some 3) := ⟨⟨w_200, w_0, w_201⟩, by decide +kernel⟩
set_option maxHeartbeats 4000000 in
set_option maxRecDepth 100000 in
theorem k_Lw_make (l : Launch) (hl9 : l.stackTraces = false) {D : va_G} {ct : Nat → ClassId} {ad : Nat → Nat} {B : Nat → Int32} {tk : Nat → Int32} {fr : Int32} {X : Nat → Option (Nat → Int32)} {A : Nat → Prop} {ao : Nat} {o : Nat → Int64} {z : Int} {x_z : Int32} (hx_z : x_z.toInt = z) : Met l y_Lw_make (Cond.codeWith y_Lw_make c_Lw_make 4 (some .int) [(0, 9, 12, 13), (0, 9, 15, 15)] :: wA) (rmk 8 1 6) (va_Pc [.ref (ad 0), .int x_z, .ref ao] (lC A D ct ad B tk fr X ao o)) (lQ (mk_c B z) (nI (re_abs B 12 1)) A D ct ad B tk fr X ao o (mk_B B z x_z) tk fr X) 1 6 (aO A ao) := by
  refine va_MetW (cc := c_Lw_make) (maxL := 4) (ret := (some .int)) (by decide +kernel) rfl ?_
  intro p e s m args below meth c s₁ B0 hml hv
  obtain ⟨rfl, ⟨hA, hE, hK, hC⟩, ⟨hao, hPo, hKo⟩, hN1, hN2⟩ := hv
  have hx := B0.exec
  have hb := B0.bytes
  have hr := B0.returns
  have hts := fun w (h : w ∈ wA) => atoms_spec (ws := Cond.codeWith y_Lw_make c_Lw_make 4 (some .int) [(0, 9, 12, 13), (0, 9, 15, 15)] :: wA) B0.pre w (List.mem_cons_of_mem _ h)
  have htb := vx_table (x := y_Lw_make) B0 (atoms_spec (ws := Cond.codeWith y_Lw_make c_Lw_make 4 (some .int) [(0, 9, 12, 13), (0, 9, 15, 15)] :: wA) B0.pre _ List.mem_cons_self)
  have hown : s.vm.findClass R_Lw = some m.cls := findClass_of_methodNamed B0.named
  have hl := lv_entry ([.ref (ad 0), .int x_z, .ref ao]) (n := 4) (Nat.le_of_ble_eq_true rfl)
  rw [lg_entry_eq]
  generalize (lg_sl ([.ref (ad 0), .int x_z, .ref ao]) ++ List.replicate (4 - (lg_sl ([.ref (ad 0), .int x_z, .ref ao])).length) Slot.unset).toArray = ls at hl ⊢
  have hl : lv_has ls 4 [(0, .ref (ad 0)), (1, .int x_z), (2, .ref ao)] := hl
  refine lv_aload_n hx hb d_Lw_make_0 rfl (lv_at hl 2 rfl) ?_
  refine lv_iconst (v := nI 0) hx hb d_Lw_make_1 (by decide) ?_
  refine lv_aload_n hx hb d_Lw_make_2 rfl (lv_at hl 0 rfl) ?_
  refine lv_iload_n hx hb d_Lw_make_3 rfl (lv_at hl 1 rfl) ?_
  refine tcV ⟨hx, hb, hml, hown, hts⟩ hE hK hC hA (k_Fb_make l hl9 (z := z) (x_z := x_z) hx_z) w_204 m_Fb_make ⟨by decide, by decide⟩ rfl hl.1 rfl (Nat.le_of_ble_eq_true rfl) d_Lw_make_4 ⟨by decide, by decide⟩ (fun hc0 H locs hC2 hS => ?_) (fun E hcd H locs q ce hkF hS hce hcv hcl => ?_)
  · refine lv_i2l hx hb d_Lw_make_7 rfl ?_
    have hPo2 := wO_kept hPo (hS.2.1 ao (wO_lt hPo) hao)
    refine putO hx hb hKo hC2 hPo2 hao hS d_Lw_make_8 (fun H1 locs1 hC3 hPo3 hS3 => ?_)
    refine lv_goto (tgt := 18) hx hb d_Lw_make_9 (by decide) ?_
    refine lv_iconst (v := nI 0) hx hb d_Lw_make_18 (by decide) ?_
    refine W.widen (k := 1) (n := 6) (by omega) (by omega) ?_
    exact W.iret (v := nI 0) hx hb hr (fun t9 ht hW => by rw [lQ, hc0]; exact ⟨rfl, by rw [ht]; exact hC3, by rw [ht]; exact hPo3, hS3.F ht⟩) hS3.2.2 d_Lw_make_19
  · have hC2 := cX_kept hC (H1 := H) (fun z h1 _ => hkF z h1)
    have hPo2 := wO_kept hPo (hkF ao (wO_lt hPo))
    have hS3 : va_S (aO A ao) s.heap H locs := ⟨hS.1, fun z h1 h2 => hkF z h1, fun z h => Or.inl (hS.2.2 z h)⟩
    rcases hcd with ⟨hc0, rfl⟩ | ⟨hc0, rfl⟩
    · refine vx_catch (own := R_Lw) (name := nIAE) hown [] ⟨0, 9, 12, 13⟩ [⟨0, 9, 15, 15⟩] htb (fun z hz => absurd hz List.not_mem_nil) (by decide) (by decide) (hts _ w_202) (va_any rfl (hE.2.1 _ w_cIAE)) hce hcv hcl ?_
      refine lv_astore_n (lv' := [(3, .ref q), (0, .ref (ad 0)), (1, .int x_z), (2, .ref ao)]) hx hb d_Lw_make_12 rfl hl (by decide) rfl (fun ls hl => ?_)
      refine lv_iconst (v := nI 1) hx hb d_Lw_make_13 (by decide) ?_
      refine W.widen (k := 1) (n := 6) (by omega) (by omega) ?_
      exact W.iret (v := nI 1) hx hb hr (fun t9 ht hW => by rw [lQ, hc0]; exact ⟨rfl, by rw [ht]; exact hC2, by rw [ht]; exact hPo2, hS3.F ht⟩) hS3.2.2 d_Lw_make_14
    · refine vx_catch (own := R_Lw) (name := nISE) hown [⟨0, 9, 12, 13⟩] ⟨0, 9, 15, 15⟩ [] htb (fun z hz => by cases List.mem_singleton.mp hz; exact Or.inr ⟨by decide, nIAE, hts _ w_202, hN1⟩) (by decide) (by decide) (hts _ w_203) (va_any rfl (hE.2.1 _ w_cISE)) hce hcv hcl ?_
      refine lv_astore_n (lv' := [(3, .ref q), (0, .ref (ad 0)), (1, .int x_z), (2, .ref ao)]) hx hb d_Lw_make_15 rfl hl (by decide) rfl (fun ls hl => ?_)
      refine lv_iconst (v := nI 2) hx hb d_Lw_make_16 (by decide) ?_
      refine W.widen (k := 1) (n := 6) (by omega) (by omega) ?_
      exact W.iret (v := nI 2) hx hb hr (fun t9 ht hW => by rw [lQ, hc0]; exact ⟨rfl, by rw [ht]; exact hC2, by rw [ht]; exact hPo2, hS3.F ht⟩) hS3.2.2 d_Lw_make_17
theorem m_Lw_link : (Cond.static y_Lw_link ∈ wA ∧ Cond.initialized y_Lw_link.cls ∈ wA ∧ Cond.codeWith y_Lw_link c_Lw_link 5 (some .int) [(0, 10, 13, 13), (0, 10, 17, 15)] ∈ wA) ∧ (y_Lw_link.cls ≠ "java/lang/invoke/MethodHandle" ∧ y_Lw_link.cls ≠ "java/lang/invoke/VarHandle" ∧ (parseMethodDescriptor y_Lw_link.desc).map (fun d => d.parameters.length) = some 4) := ⟨⟨w_315, w_0, w_316⟩, by decide +kernel⟩
set_option maxHeartbeats 4000000 in
set_option maxRecDepth 100000 in
theorem k_Lw_link (l : Launch) (hl9 : l.stackTraces = false) {D : va_G} {ct : Nat → ClassId} {ad : Nat → Nat} {B : Nat → Int32} {tk : Nat → Int32} {fr : Int32} {X : Nat → Option (Nat → Int32)} {A : Nat → Prop} {ao : Nat} {o : Nat → Int64} {n : Int} {x_n : Int32} (hx_n : x_n.toInt = n) {x : Int32} : Met l y_Lw_link (Cond.codeWith y_Lw_link c_Lw_link 5 (some .int) [(0, 10, 13, 13), (0, 10, 17, 15)] :: wA) (rmk 8 2 1030) (va_Pc [.ref (ad 0), .int x_n, .int x, .ref ao] (lC A D ct ad B tk fr X ao o)) (lQ (lk_c B fr n) (nI (re_abs B 12 1)) A D ct ad B tk fr X ao o ((lk_S (B, tk, fr, X) n.toNat x).1) ((lk_S (B, tk, fr, X) n.toNat x).2.1) ((lk_S (B, tk, fr, X) n.toNat x).2.2.1) ((lk_S (B, tk, fr, X) n.toNat x).2.2.2)) 2 1030 (aO A ao) := by
  refine va_MetW (cc := c_Lw_link) (maxL := 5) (ret := (some .int)) (by decide +kernel) rfl ?_
  intro p e s m args below meth c s₁ B0 hml hv
  obtain ⟨rfl, ⟨hA, hE, hK, hC⟩, ⟨hao, hPo, hKo⟩, hN1, hN2⟩ := hv
  have hx := B0.exec
  have hb := B0.bytes
  have hr := B0.returns
  have hts := fun w (h : w ∈ wA) => atoms_spec (ws := Cond.codeWith y_Lw_link c_Lw_link 5 (some .int) [(0, 10, 13, 13), (0, 10, 17, 15)] :: wA) B0.pre w (List.mem_cons_of_mem _ h)
  have htb := vx_table (x := y_Lw_make) B0 (atoms_spec (ws := Cond.codeWith y_Lw_link c_Lw_link 5 (some .int) [(0, 10, 13, 13), (0, 10, 17, 15)] :: wA) B0.pre _ List.mem_cons_self)
  have hown : s.vm.findClass R_Lw = some m.cls := findClass_of_methodNamed B0.named
  have hl := lv_entry ([.ref (ad 0), .int x_n, .int x, .ref ao]) (n := 5) (Nat.le_of_ble_eq_true rfl)
  rw [lg_entry_eq]
  generalize (lg_sl ([.ref (ad 0), .int x_n, .int x, .ref ao]) ++ List.replicate (5 - (lg_sl ([.ref (ad 0), .int x_n, .int x, .ref ao])).length) Slot.unset).toArray = ls at hl ⊢
  have hl : lv_has ls 5 [(0, .ref (ad 0)), (1, .int x_n), (2, .int x), (3, .ref ao)] := hl
  refine lv_aload_n hx hb d_Lw_link_0 rfl (lv_at hl 3 rfl) ?_
  refine lv_iconst (v := nI 0) hx hb d_Lw_link_1 (by decide) ?_
  refine lv_aload_n hx hb d_Lw_link_2 rfl (lv_at hl 0 rfl) ?_
  refine lv_iload_n hx hb d_Lw_link_3 rfl (lv_at hl 1 rfl) ?_
  refine lv_iload_n hx hb d_Lw_link_4 rfl (lv_at hl 2 rfl) ?_
  refine tcV ⟨hx, hb, hml, hown, hts⟩ hE hK hC hA (k_Fb_link l hl9 (n := n) (x_n := x_n) (x := x) hx_n) w_317 m_Fb_link ⟨by decide, by decide⟩ rfl hl.1 rfl (Nat.le_of_ble_eq_true rfl) d_Lw_link_5 ⟨by decide, by decide⟩ (fun hc0 H locs hC2 hS => ?_) (fun E hcd H locs q ce hkF hS hce hcv hcl => ?_)
  · refine lv_i2l hx hb d_Lw_link_8 rfl ?_
    have hPo2 := wO_kept hPo (hS.2.1 ao (wO_lt hPo) hao)
    refine putO hx hb hKo hC2 hPo2 hao hS d_Lw_link_9 (fun H1 locs1 hC3 hPo3 hS3 => ?_)
    refine lv_goto (tgt := 21) hx hb d_Lw_link_10 (by decide) ?_
    refine lv_iconst (v := nI 0) hx hb d_Lw_link_21 (by decide) ?_
    refine W.widen (k := 2) (n := 1030) (by omega) (by omega) ?_
    exact W.iret (v := nI 0) hx hb hr (fun t9 ht hW => by rw [lQ, hc0]; exact ⟨rfl, by rw [ht]; exact hC3, by rw [ht]; exact hPo3, hS3.F ht⟩) hS3.2.2 d_Lw_link_22
  · have hC2 := cX_kept hC (H1 := H) (fun z h1 _ => hkF z h1)
    have hPo2 := wO_kept hPo (hkF ao (wO_lt hPo))
    have hS3 : va_S (aO A ao) s.heap H locs := ⟨hS.1, fun z h1 h2 => hkF z h1, fun z h => Or.inl (hS.2.2 z h)⟩
    rcases hcd with ⟨hc0, rfl⟩ | ⟨hc0, rfl⟩
    · refine vx_catch (own := R_Lw) (name := nIAE) hown [] ⟨0, 10, 13, 13⟩ [⟨0, 10, 17, 15⟩] htb (fun z hz => absurd hz List.not_mem_nil) (by decide) (by decide) (hts _ w_202) (va_any rfl (hE.2.1 _ w_cIAE)) hce hcv hcl ?_
      refine lv_astore (lv' := [(4, .ref q), (0, .ref (ad 0)), (1, .int x_n), (2, .int x), (3, .ref ao)]) hx hb d_Lw_link_13 hl (by decide) rfl (fun ls hl => ?_)
      refine lv_iconst (v := nI 1) hx hb d_Lw_link_15 (by decide) ?_
      refine W.widen (k := 2) (n := 1030) (by omega) (by omega) ?_
      exact W.iret (v := nI 1) hx hb hr (fun t9 ht hW => by rw [lQ, hc0]; exact ⟨rfl, by rw [ht]; exact hC2, by rw [ht]; exact hPo2, hS3.F ht⟩) hS3.2.2 d_Lw_link_16
    · refine vx_catch (own := R_Lw) (name := nISE) hown [⟨0, 10, 13, 13⟩] ⟨0, 10, 17, 15⟩ [] htb (fun z hz => by cases List.mem_singleton.mp hz; exact Or.inr ⟨by decide, nIAE, hts _ w_202, hN1⟩) (by decide) (by decide) (hts _ w_203) (va_any rfl (hE.2.1 _ w_cISE)) hce hcv hcl ?_
      refine lv_astore (lv' := [(4, .ref q), (0, .ref (ad 0)), (1, .int x_n), (2, .int x), (3, .ref ao)]) hx hb d_Lw_link_17 hl (by decide) rfl (fun ls hl => ?_)
      refine lv_iconst (v := nI 2) hx hb d_Lw_link_19 (by decide) ?_
      refine W.widen (k := 2) (n := 1030) (by omega) (by omega) ?_
      exact W.iret (v := nI 2) hx hb hr (fun t9 ht hW => by rw [lQ, hc0]; exact ⟨rfl, by rw [ht]; exact hC2, by rw [ht]; exact hPo2, hS3.F ht⟩) hS3.2.2 d_Lw_link_20
theorem m_Lw_write : (Cond.static y_Lw_write ∈ wA ∧ Cond.initialized y_Lw_write.cls ∈ wA ∧ Cond.codeWith y_Lw_write c_Lw_write 8 (some .int) [(0, 14, 17, 13), (0, 14, 21, 15)] ∈ wA) ∧ (y_Lw_write.cls ≠ "java/lang/invoke/MethodHandle" ∧ y_Lw_write.cls ≠ "java/lang/invoke/VarHandle" ∧ (parseMethodDescriptor y_Lw_write.desc).map (fun d => d.parameters.length) = some 6) := ⟨⟨w_384, w_0, w_385⟩, by decide +kernel⟩
set_option maxHeartbeats 4000000 in
set_option maxRecDepth 100000 in
theorem k_Lw_write (l : Launch) (hl9 : l.stackTraces = false) {D : va_G} {ct : Nat → ClassId} {ad : Nat → Nat} {B : Nat → Int32} {tk : Nat → Int32} {fr : Int32} {X : Nat → Option (Nat → Int32)} {A : Nat → Prop} {ao : Nat} {o : Nat → Int64} {f : Nat} {x_f : Int32} (hx_f : x_f.toNatClampNeg = f) {a : Int} {x_a : Int32} (hx_a : x_a.toInt = a) {r : Int64} {n : Int} {x_n : Int32} (hx_n : x_n.toInt = n) : Met l y_Lw_write (Cond.codeWith y_Lw_write c_Lw_write 8 (some .int) [(0, 14, 17, 13), (0, 14, 21, 15)] :: wA) (rmk 8 8 5138) (va_Pc [.ref (ad 0), .int x_f, .int x_a, .long r, .int x_n, .ref ao] (lC A D ct ad B tk fr X ao o)) (lQ (wr_c B fr f a n 8) (re_f (prC (B, tk, fr, X) f a.toNat n.toNat).1 f 4 4) A D ct ad B tk fr X ao o ((prC (B, tk, fr, X) f a.toNat n.toNat).1) ((prC (B, tk, fr, X) f a.toNat n.toNat).2.1) ((prC (B, tk, fr, X) f a.toNat n.toNat).2.2.1) (wrX_ (B, tk, fr, X) f a.toNat n.toNat r)) 8 5138 (aO A ao) := by
  refine va_MetW (cc := c_Lw_write) (maxL := 8) (ret := (some .int)) (by decide +kernel) rfl ?_
  intro p e s m args below meth c s₁ B0 hml hv
  obtain ⟨rfl, ⟨hA, hE, hK, hC⟩, ⟨hao, hPo, hKo⟩, hN1, hN2⟩ := hv
  have hx := B0.exec
  have hb := B0.bytes
  have hr := B0.returns
  have hts := fun w (h : w ∈ wA) => atoms_spec (ws := Cond.codeWith y_Lw_write c_Lw_write 8 (some .int) [(0, 14, 17, 13), (0, 14, 21, 15)] :: wA) B0.pre w (List.mem_cons_of_mem _ h)
  have htb := vx_table (x := y_Lw_make) B0 (atoms_spec (ws := Cond.codeWith y_Lw_write c_Lw_write 8 (some .int) [(0, 14, 17, 13), (0, 14, 21, 15)] :: wA) B0.pre _ List.mem_cons_self)
  have hown : s.vm.findClass R_Lw = some m.cls := findClass_of_methodNamed B0.named
  have hl := lv_entry ([.ref (ad 0), .int x_f, .int x_a, .long r, .int x_n, .ref ao]) (n := 8) (Nat.le_of_ble_eq_true rfl)
  rw [lg_entry_eq]
  generalize (lg_sl ([.ref (ad 0), .int x_f, .int x_a, .long r, .int x_n, .ref ao]) ++ List.replicate (8 - (lg_sl ([.ref (ad 0), .int x_f, .int x_a, .long r, .int x_n, .ref ao])).length) Slot.unset).toArray = ls at hl ⊢
  have hl : lv_has ls 8 [(0, .ref (ad 0)), (1, .int x_f), (2, .int x_a), (3, .long r), (5, .int x_n), (6, .ref ao)] := hl
  refine lv_aload hx hb d_Lw_write_0 (lv_at hl 5 rfl) ?_
  refine lv_iconst (v := nI 0) hx hb d_Lw_write_2 (by decide) ?_
  refine lv_aload_n hx hb d_Lw_write_3 rfl (lv_at hl 0 rfl) ?_
  refine lv_iload_n hx hb d_Lw_write_4 rfl (lv_at hl 1 rfl) ?_
  refine lv_iload_n hx hb d_Lw_write_5 rfl (lv_at hl 2 rfl) ?_
  refine lv_lload_n hx hb d_Lw_write_6 rfl (lv_at hl 3 rfl) ?_
  refine lv_iload hx hb d_Lw_write_7 (lv_at hl 4 rfl) ?_
  refine tcV ⟨hx, hb, hml, hown, hts⟩ hE hK hC hA (k_Fb_write l hl9 (f := f) (x_f := x_f) (a := a) (x_a := x_a) (r := r) (n := n) (x_n := x_n) hx_f hx_a hx_n) w_386 m_Fb_write ⟨by decide, by decide⟩ rfl hl.1 rfl (Nat.le_of_ble_eq_true rfl) d_Lw_write_9 ⟨by decide, by decide⟩ (fun hc0 H locs hC2 hS => ?_) (fun E hcd H locs q ce hkF hS hce hcv hcl => ?_)
  · refine lv_i2l hx hb d_Lw_write_12 rfl ?_
    have hPo2 := wO_kept hPo (hS.2.1 ao (wO_lt hPo) hao)
    refine putO hx hb hKo hC2 hPo2 hao hS d_Lw_write_13 (fun H1 locs1 hC3 hPo3 hS3 => ?_)
    refine lv_goto (tgt := 25) hx hb d_Lw_write_14 (by decide) ?_
    refine lv_iconst (v := nI 0) hx hb d_Lw_write_25 (by decide) ?_
    refine W.widen (k := 8) (n := 5138) (by omega) (by omega) ?_
    exact W.iret (v := nI 0) hx hb hr (fun t9 ht hW => by rw [lQ, hc0]; exact ⟨rfl, by rw [ht]; exact hC3, by rw [ht]; exact hPo3, hS3.F ht⟩) hS3.2.2 d_Lw_write_26
  · have hC2 := cX_kept hC (H1 := H) (fun z h1 _ => hkF z h1)
    have hPo2 := wO_kept hPo (hkF ao (wO_lt hPo))
    have hS3 : va_S (aO A ao) s.heap H locs := ⟨hS.1, fun z h1 h2 => hkF z h1, fun z h => Or.inl (hS.2.2 z h)⟩
    rcases hcd with ⟨hc0, rfl⟩ | ⟨hc0, rfl⟩
    · refine vx_catch (own := R_Lw) (name := nIAE) hown [] ⟨0, 14, 17, 13⟩ [⟨0, 14, 21, 15⟩] htb (fun z hz => absurd hz List.not_mem_nil) (by decide) (by decide) (hts _ w_202) (va_any rfl (hE.2.1 _ w_cIAE)) hce hcv hcl ?_
      refine lv_astore (lv' := [(7, .ref q), (0, .ref (ad 0)), (1, .int x_f), (2, .int x_a), (3, .long r), (5, .int x_n), (6, .ref ao)]) hx hb d_Lw_write_17 hl (by decide) rfl (fun ls hl => ?_)
      refine lv_iconst (v := nI 1) hx hb d_Lw_write_19 (by decide) ?_
      refine W.widen (k := 8) (n := 5138) (by omega) (by omega) ?_
      exact W.iret (v := nI 1) hx hb hr (fun t9 ht hW => by rw [lQ, hc0]; exact ⟨rfl, by rw [ht]; exact hC2, by rw [ht]; exact hPo2, hS3.F ht⟩) hS3.2.2 d_Lw_write_20
    · refine vx_catch (own := R_Lw) (name := nISE) hown [⟨0, 14, 17, 13⟩] ⟨0, 14, 21, 15⟩ [] htb (fun z hz => by cases List.mem_singleton.mp hz; exact Or.inr ⟨by decide, nIAE, hts _ w_202, hN1⟩) (by decide) (by decide) (hts _ w_203) (va_any rfl (hE.2.1 _ w_cISE)) hce hcv hcl ?_
      refine lv_astore (lv' := [(7, .ref q), (0, .ref (ad 0)), (1, .int x_f), (2, .int x_a), (3, .long r), (5, .int x_n), (6, .ref ao)]) hx hb d_Lw_write_21 hl (by decide) rfl (fun ls hl => ?_)
      refine lv_iconst (v := nI 2) hx hb d_Lw_write_23 (by decide) ?_
      refine W.widen (k := 8) (n := 5138) (by omega) (by omega) ?_
      exact W.iret (v := nI 2) hx hb hr (fun t9 ht hW => by rw [lQ, hc0]; exact ⟨rfl, by rw [ht]; exact hC2, by rw [ht]; exact hPo2, hS3.F ht⟩) hS3.2.2 d_Lw_write_24
theorem m_Lw_paint : (Cond.static y_Lw_paint ∈ wA ∧ Cond.initialized y_Lw_paint.cls ∈ wA ∧ Cond.codeWith y_Lw_paint c_Lw_paint 7 (some .int) [(0, 14, 17, 13), (0, 14, 21, 15)] ∈ wA) ∧ (y_Lw_paint.cls ≠ "java/lang/invoke/MethodHandle" ∧ y_Lw_paint.cls ≠ "java/lang/invoke/VarHandle" ∧ (parseMethodDescriptor y_Lw_paint.desc).map (fun d => d.parameters.length) = some 6) := ⟨⟨w_427, w_0, w_428⟩, by decide +kernel⟩
set_option maxHeartbeats 4000000 in
set_option maxRecDepth 100000 in
theorem k_Lw_paint (l : Launch) (hl9 : l.stackTraces = false) {D : va_G} {ct : Nat → ClassId} {ad : Nat → Nat} {B : Nat → Int32} {tk : Nat → Int32} {fr : Int32} {X : Nat → Option (Nat → Int32)} {A : Nat → Prop} {ao : Nat} {o : Nat → Int64} {f : Nat} {x_f : Int32} (hx_f : x_f.toNatClampNeg = f) {a : Int} {x_a : Int32} (hx_a : x_a.toInt = a) {n : Int} {x_n : Int32} (hx_n : x_n.toInt = n) {x : Int32} : Met l y_Lw_paint (Cond.codeWith y_Lw_paint c_Lw_paint 7 (some .int) [(0, 14, 17, 13), (0, 14, 21, 15)] :: wA) (rmk 8 8 5138) (va_Pc [.ref (ad 0), .int x_f, .int x_a, .int x_n, .int x, .ref ao] (lC A D ct ad B tk fr X ao o)) (lQ (wr_c B fr f a n 4000) (re_f (prC (B, tk, fr, X) f a.toNat n.toNat).1 f 4 4) A D ct ad B tk fr X ao o ((prC (B, tk, fr, X) f a.toNat n.toNat).1) ((prC (B, tk, fr, X) f a.toNat n.toNat).2.1) ((prC (B, tk, fr, X) f a.toNat n.toNat).2.2.1) (paX_ (B, tk, fr, X) f a.toNat n.toNat x)) 8 5138 (aO A ao) := by
  refine va_MetW (cc := c_Lw_paint) (maxL := 7) (ret := (some .int)) (by decide +kernel) rfl ?_
  intro p e s m args below meth c s₁ B0 hml hv
  obtain ⟨rfl, ⟨hA, hE, hK, hC⟩, ⟨hao, hPo, hKo⟩, hN1, hN2⟩ := hv
  have hx := B0.exec
  have hb := B0.bytes
  have hr := B0.returns
  have hts := fun w (h : w ∈ wA) => atoms_spec (ws := Cond.codeWith y_Lw_paint c_Lw_paint 7 (some .int) [(0, 14, 17, 13), (0, 14, 21, 15)] :: wA) B0.pre w (List.mem_cons_of_mem _ h)
  have htb := vx_table (x := y_Lw_make) B0 (atoms_spec (ws := Cond.codeWith y_Lw_paint c_Lw_paint 7 (some .int) [(0, 14, 17, 13), (0, 14, 21, 15)] :: wA) B0.pre _ List.mem_cons_self)
  have hown : s.vm.findClass R_Lw = some m.cls := findClass_of_methodNamed B0.named
  have hl := lv_entry ([.ref (ad 0), .int x_f, .int x_a, .int x_n, .int x, .ref ao]) (n := 7) (Nat.le_of_ble_eq_true rfl)
  rw [lg_entry_eq]
  generalize (lg_sl ([.ref (ad 0), .int x_f, .int x_a, .int x_n, .int x, .ref ao]) ++ List.replicate (7 - (lg_sl ([.ref (ad 0), .int x_f, .int x_a, .int x_n, .int x, .ref ao])).length) Slot.unset).toArray = ls at hl ⊢
  have hl : lv_has ls 7 [(0, .ref (ad 0)), (1, .int x_f), (2, .int x_a), (3, .int x_n), (4, .int x), (5, .ref ao)] := hl
  refine lv_aload hx hb d_Lw_paint_0 (lv_at hl 5 rfl) ?_
  refine lv_iconst (v := nI 0) hx hb d_Lw_paint_2 (by decide) ?_
  refine lv_aload_n hx hb d_Lw_paint_3 rfl (lv_at hl 0 rfl) ?_
  refine lv_iload_n hx hb d_Lw_paint_4 rfl (lv_at hl 1 rfl) ?_
  refine lv_iload_n hx hb d_Lw_paint_5 rfl (lv_at hl 2 rfl) ?_
  refine lv_iload_n hx hb d_Lw_paint_6 rfl (lv_at hl 3 rfl) ?_
  refine lv_iload hx hb d_Lw_paint_7 (lv_at hl 4 rfl) ?_
  refine tcV ⟨hx, hb, hml, hown, hts⟩ hE hK hC hA (k_Fb_paint l hl9 (f := f) (x_f := x_f) (a := a) (x_a := x_a) (n := n) (x_n := x_n) (x := x) hx_f hx_a hx_n) w_429 m_Fb_paint ⟨by decide, by decide⟩ rfl hl.1 rfl (Nat.le_of_ble_eq_true rfl) d_Lw_paint_9 ⟨by decide, by decide⟩ (fun hc0 H locs hC2 hS => ?_) (fun E hcd H locs q ce hkF hS hce hcv hcl => ?_)
  · refine lv_i2l hx hb d_Lw_paint_12 rfl ?_
    have hPo2 := wO_kept hPo (hS.2.1 ao (wO_lt hPo) hao)
    refine putO hx hb hKo hC2 hPo2 hao hS d_Lw_paint_13 (fun H1 locs1 hC3 hPo3 hS3 => ?_)
    refine lv_goto (tgt := 25) hx hb d_Lw_paint_14 (by decide) ?_
    refine lv_iconst (v := nI 0) hx hb d_Lw_paint_25 (by decide) ?_
    refine W.widen (k := 8) (n := 5138) (by omega) (by omega) ?_
    exact W.iret (v := nI 0) hx hb hr (fun t9 ht hW => by rw [lQ, hc0]; exact ⟨rfl, by rw [ht]; exact hC3, by rw [ht]; exact hPo3, hS3.F ht⟩) hS3.2.2 d_Lw_paint_26
  · have hC2 := cX_kept hC (H1 := H) (fun z h1 _ => hkF z h1)
    have hPo2 := wO_kept hPo (hkF ao (wO_lt hPo))
    have hS3 : va_S (aO A ao) s.heap H locs := ⟨hS.1, fun z h1 h2 => hkF z h1, fun z h => Or.inl (hS.2.2 z h)⟩
    rcases hcd with ⟨hc0, rfl⟩ | ⟨hc0, rfl⟩
    · refine vx_catch (own := R_Lw) (name := nIAE) hown [] ⟨0, 14, 17, 13⟩ [⟨0, 14, 21, 15⟩] htb (fun z hz => absurd hz List.not_mem_nil) (by decide) (by decide) (hts _ w_202) (va_any rfl (hE.2.1 _ w_cIAE)) hce hcv hcl ?_
      refine lv_astore (lv' := [(6, .ref q), (0, .ref (ad 0)), (1, .int x_f), (2, .int x_a), (3, .int x_n), (4, .int x), (5, .ref ao)]) hx hb d_Lw_paint_17 hl (by decide) rfl (fun ls hl => ?_)
      refine lv_iconst (v := nI 1) hx hb d_Lw_paint_19 (by decide) ?_
      refine W.widen (k := 8) (n := 5138) (by omega) (by omega) ?_
      exact W.iret (v := nI 1) hx hb hr (fun t9 ht hW => by rw [lQ, hc0]; exact ⟨rfl, by rw [ht]; exact hC2, by rw [ht]; exact hPo2, hS3.F ht⟩) hS3.2.2 d_Lw_paint_20
    · refine vx_catch (own := R_Lw) (name := nISE) hown [⟨0, 14, 17, 13⟩] ⟨0, 14, 21, 15⟩ [] htb (fun z hz => by cases List.mem_singleton.mp hz; exact Or.inr ⟨by decide, nIAE, hts _ w_202, hN1⟩) (by decide) (by decide) (hts _ w_203) (va_any rfl (hE.2.1 _ w_cISE)) hce hcv hcl ?_
      refine lv_astore (lv' := [(6, .ref q), (0, .ref (ad 0)), (1, .int x_f), (2, .int x_a), (3, .int x_n), (4, .int x), (5, .ref ao)]) hx hb d_Lw_paint_21 hl (by decide) rfl (fun ls hl => ?_)
      refine lv_iconst (v := nI 2) hx hb d_Lw_paint_23 (by decide) ?_
      refine W.widen (k := 8) (n := 5138) (by omega) (by omega) ?_
      exact W.iret (v := nI 2) hx hb hr (fun t9 ht hW => by rw [lQ, hc0]; exact ⟨rfl, by rw [ht]; exact hC2, by rw [ht]; exact hPo2, hS3.F ht⟩) hS3.2.2 d_Lw_paint_24
theorem m_Lw_read : (Cond.static y_Lw_read ∈ wA ∧ Cond.initialized y_Lw_read.cls ∈ wA ∧ Cond.codeWith y_Lw_read c_Lw_read 5 (some .int) [(0, 10, 13, 13), (0, 10, 17, 32)] ∈ wA) ∧ (y_Lw_read.cls ≠ "java/lang/invoke/MethodHandle" ∧ y_Lw_read.cls ≠ "java/lang/invoke/VarHandle" ∧ (parseMethodDescriptor y_Lw_read.desc).map (fun d => d.parameters.length) = some 4) := ⟨⟨w_445, w_0, w_446⟩, by decide +kernel⟩
set_option maxHeartbeats 4000000 in
set_option maxRecDepth 100000 in
theorem k_Lw_read (l : Launch) (hl9 : l.stackTraces = false) {D : va_G} {ct : Nat → ClassId} {ad : Nat → Nat} {B : Nat → Int32} {tk : Nat → Int32} {fr : Int32} {X : Nat → Option (Nat → Int32)} {A : Nat → Prop} {ao : Nat} {o : Nat → Int64} {f : Nat} {x_f : Int32} (hx_f : x_f.toNatClampNeg = f) {i : Int} {x_i : Int32} (hx_i : x_i.toInt = i) : Met l y_Lw_read (Cond.codeWith y_Lw_read c_Lw_read 5 (some .int) [(0, 10, 13, 13), (0, 10, 17, 32)] :: wA) (rmk 7 2 12) (va_Pc [.ref (ad 0), .int x_f, .int x_i, .ref ao] (lC A D ct ad B tk fr X ao o)) (lQ (rd_c B f i) (bo_ax B X f i.toNat) A D ct ad B tk fr X ao o B tk fr X) 2 12 (aO A ao) := by
  refine va_MetW (cc := c_Lw_read) (maxL := 5) (ret := (some .int)) (by decide +kernel) rfl ?_
  intro p e s m args below meth c s₁ B0 hml hv
  obtain ⟨rfl, ⟨hA, hE, hK, hC⟩, ⟨hao, hPo, hKo⟩, hN1, hN2⟩ := hv
  have hx := B0.exec
  have hb := B0.bytes
  have hr := B0.returns
  have hts := fun w (h : w ∈ wA) => atoms_spec (ws := Cond.codeWith y_Lw_read c_Lw_read 5 (some .int) [(0, 10, 13, 13), (0, 10, 17, 32)] :: wA) B0.pre w (List.mem_cons_of_mem _ h)
  have htb := vx_table (x := y_Lw_make) B0 (atoms_spec (ws := Cond.codeWith y_Lw_read c_Lw_read 5 (some .int) [(0, 10, 13, 13), (0, 10, 17, 32)] :: wA) B0.pre _ List.mem_cons_self)
  have hown : s.vm.findClass R_Lw = some m.cls := findClass_of_methodNamed B0.named
  have hl := lv_entry ([.ref (ad 0), .int x_f, .int x_i, .ref ao]) (n := 5) (Nat.le_of_ble_eq_true rfl)
  rw [lg_entry_eq]
  generalize (lg_sl ([.ref (ad 0), .int x_f, .int x_i, .ref ao]) ++ List.replicate (5 - (lg_sl ([.ref (ad 0), .int x_f, .int x_i, .ref ao])).length) Slot.unset).toArray = ls at hl ⊢
  have hl : lv_has ls 5 [(0, .ref (ad 0)), (1, .int x_f), (2, .int x_i), (3, .ref ao)] := hl
  refine lv_aload_n hx hb d_Lw_read_0 rfl (lv_at hl 3 rfl) ?_
  refine lv_iconst (v := nI 0) hx hb d_Lw_read_1 (by decide) ?_
  refine lv_aload_n hx hb d_Lw_read_2 rfl (lv_at hl 0 rfl) ?_
  refine lv_iload_n hx hb d_Lw_read_3 rfl (lv_at hl 1 rfl) ?_
  refine lv_iload_n hx hb d_Lw_read_4 rfl (lv_at hl 2 rfl) ?_
  refine tcV ⟨hx, hb, hml, hown, hts⟩ hE hK hC hA (k_Fb_read l hl9 (f := f) (x_f := x_f) (i := i) (x_i := x_i) hx_f hx_i) w_448 m_Fb_read ⟨by decide, by decide⟩ rfl hl.1 rfl (Nat.le_of_ble_eq_true rfl) d_Lw_read_5 ⟨by decide, by decide⟩ (fun hc0 H locs hC2 hS => ?_) (fun E hcd H locs q ce hkF hS hce hcv hcl => ?_)
  · refine lv_i2l hx hb d_Lw_read_8 rfl ?_
    have hPo2 := wO_kept hPo (hS.2.1 ao (wO_lt hPo) hao)
    refine putO hx hb hKo hC2 hPo2 hao hS d_Lw_read_9 (fun H1 locs1 hC3 hPo3 hS3 => ?_)
    refine lv_goto (tgt := 21) hx hb d_Lw_read_10 (by decide) ?_
    refine lv_iconst (v := nI 0) hx hb d_Lw_read_21 (by decide) ?_
    refine W.widen (k := 2) (n := 12) (by omega) (by omega) ?_
    exact W.iret (v := nI 0) hx hb hr (fun t9 ht hW => by rw [lQ, hc0]; exact ⟨rfl, by rw [ht]; exact hC3, by rw [ht]; exact hPo3, hS3.F ht⟩) hS3.2.2 d_Lw_read_22
  · have hC2 := cX_kept hC (H1 := H) (fun z h1 _ => hkF z h1)
    have hPo2 := wO_kept hPo (hkF ao (wO_lt hPo))
    have hS3 : va_S (aO A ao) s.heap H locs := ⟨hS.1, fun z h1 h2 => hkF z h1, fun z h => Or.inl (hS.2.2 z h)⟩
    rcases hcd with ⟨hc0, rfl⟩ | ⟨hc0, rfl⟩
    · refine vx_catch (own := R_Lw) (name := nIAE) hown [] ⟨0, 10, 13, 13⟩ [⟨0, 10, 17, 32⟩] htb (fun z hz => absurd hz List.not_mem_nil) (by decide) (by decide) (hts _ w_202) (va_any rfl (hE.2.1 _ w_cIAE)) hce hcv hcl ?_
      refine lv_astore (lv' := [(4, .ref q), (0, .ref (ad 0)), (1, .int x_f), (2, .int x_i), (3, .ref ao)]) hx hb d_Lw_read_13 hl (by decide) rfl (fun ls hl => ?_)
      refine lv_iconst (v := nI 1) hx hb d_Lw_read_15 (by decide) ?_
      refine W.widen (k := 2) (n := 12) (by omega) (by omega) ?_
      exact W.iret (v := nI 1) hx hb hr (fun t9 ht hW => by rw [lQ, hc0]; exact ⟨rfl, by rw [ht]; exact hC2, by rw [ht]; exact hPo2, hS3.F ht⟩) hS3.2.2 d_Lw_read_16
    · refine vx_catch (own := R_Lw) (name := nIOE) hown [⟨0, 10, 13, 13⟩] ⟨0, 10, 17, 32⟩ [] htb (fun z hz => by cases List.mem_singleton.mp hz; exact Or.inr ⟨by decide, nIAE, hts _ w_202, hN2⟩) (by decide) (by decide) (hts _ w_447) (va_any rfl (hE.2.1 _ w_cIOE)) hce hcv hcl ?_
      refine lv_astore (lv' := [(4, .ref q), (0, .ref (ad 0)), (1, .int x_f), (2, .int x_i), (3, .ref ao)]) hx hb d_Lw_read_17 hl (by decide) rfl (fun ls hl => ?_)
      refine lv_iconst (v := nI 2) hx hb d_Lw_read_19 (by decide) ?_
      refine W.widen (k := 2) (n := 12) (by omega) (by omega) ?_
      exact W.iret (v := nI 2) hx hb hr (fun t9 ht hW => by rw [lQ, hc0]; exact ⟨rfl, by rw [ht]; exact hC2, by rw [ht]; exact hPo2, hS3.F ht⟩) hS3.2.2 d_Lw_read_20
theorem m_Lw_cut : (Cond.static y_Lw_cut ∈ wA ∧ Cond.initialized y_Lw_cut.cls ∈ wA ∧ Cond.codeWith y_Lw_cut c_Lw_cut 5 (some .int) [(0, 10, 13, 13)] ∈ wA) ∧ (y_Lw_cut.cls ≠ "java/lang/invoke/MethodHandle" ∧ y_Lw_cut.cls ≠ "java/lang/invoke/VarHandle" ∧ (parseMethodDescriptor y_Lw_cut.desc).map (fun d => d.parameters.length) = some 4) := ⟨⟨w_486, w_0, w_487⟩, by decide +kernel⟩
set_option maxHeartbeats 4000000 in
set_option maxRecDepth 100000 in
theorem k_Lw_cut (l : Launch) (hl9 : l.stackTraces = false) {D : va_G} {ct : Nat → ClassId} {ad : Nat → Nat} {B : Nat → Int32} {tk : Nat → Int32} {fr : Int32} {X : Nat → Option (Nat → Int32)} {A : Nat → Prop} {ao : Nat} {o : Nat → Int64} {f : Nat} {x_f : Int32} (hx_f : x_f.toNatClampNeg = f) {z : Int} {x_z : Int32} (hx_z : x_z.toInt = z) : Met l y_Lw_cut (Cond.codeWith y_Lw_cut c_Lw_cut 5 (some .int) [(0, 10, 13, 13)] :: wA) (rmk 8 2 12) (va_Pc [.ref (ad 0), .int x_f, .int x_z, .ref ao] (lC A D ct ad B tk fr X ao o)) (lQ (cu_c B f z) (re_f B f 4 4) A D ct ad B tk fr X ao o (re_set (rs_S (B, tk, fr, X) f z.toNat).1 f 4 4 (nI z.toNat)) ((rs_S (B, tk, fr, X) f z.toNat).2.1) ((rs_S (B, tk, fr, X) f z.toNat).2.2) (rs_X (B, tk, fr, X) f z.toNat)) 2 12 (aO A ao) := by
  refine va_MetW (cc := c_Lw_cut) (maxL := 5) (ret := (some .int)) (by decide +kernel) rfl ?_
  intro p e s m args below meth c s₁ B0 hml hv
  obtain ⟨rfl, ⟨hA, hE, hK, hC⟩, ⟨hao, hPo, hKo⟩, hN1, hN2⟩ := hv
  have hx := B0.exec
  have hb := B0.bytes
  have hr := B0.returns
  have hts := fun w (h : w ∈ wA) => atoms_spec (ws := Cond.codeWith y_Lw_cut c_Lw_cut 5 (some .int) [(0, 10, 13, 13)] :: wA) B0.pre w (List.mem_cons_of_mem _ h)
  have htb := vx_table (x := y_Lw_make) B0 (atoms_spec (ws := Cond.codeWith y_Lw_cut c_Lw_cut 5 (some .int) [(0, 10, 13, 13)] :: wA) B0.pre _ List.mem_cons_self)
  have hown : s.vm.findClass R_Lw = some m.cls := findClass_of_methodNamed B0.named
  have hl := lv_entry ([.ref (ad 0), .int x_f, .int x_z, .ref ao]) (n := 5) (Nat.le_of_ble_eq_true rfl)
  rw [lg_entry_eq]
  generalize (lg_sl ([.ref (ad 0), .int x_f, .int x_z, .ref ao]) ++ List.replicate (5 - (lg_sl ([.ref (ad 0), .int x_f, .int x_z, .ref ao])).length) Slot.unset).toArray = ls at hl ⊢
  have hl : lv_has ls 5 [(0, .ref (ad 0)), (1, .int x_f), (2, .int x_z), (3, .ref ao)] := hl
  refine lv_aload_n hx hb d_Lw_cut_0 rfl (lv_at hl 3 rfl) ?_
  refine lv_iconst (v := nI 0) hx hb d_Lw_cut_1 (by decide) ?_
  refine lv_aload_n hx hb d_Lw_cut_2 rfl (lv_at hl 0 rfl) ?_
  refine lv_iload_n hx hb d_Lw_cut_3 rfl (lv_at hl 1 rfl) ?_
  refine lv_iload_n hx hb d_Lw_cut_4 rfl (lv_at hl 2 rfl) ?_
  refine tcV ⟨hx, hb, hml, hown, hts⟩ hE hK hC hA (k_Fb_cut l hl9 (f := f) (x_f := x_f) (z := z) (x_z := x_z) hx_f hx_z) w_488 m_Fb_cut ⟨by decide, by decide⟩ rfl hl.1 rfl (Nat.le_of_ble_eq_true rfl) d_Lw_cut_5 ⟨by decide, by decide⟩ (fun hc0 H locs hC2 hS => ?_) (fun E hcd H locs q ce hkF hS hce hcv hcl => ?_)
  · refine lv_i2l hx hb d_Lw_cut_8 rfl ?_
    have hPo2 := wO_kept hPo (hS.2.1 ao (wO_lt hPo) hao)
    refine putO hx hb hKo hC2 hPo2 hao hS d_Lw_cut_9 (fun H1 locs1 hC3 hPo3 hS3 => ?_)
    refine lv_goto (tgt := 17) hx hb d_Lw_cut_10 (by decide) ?_
    refine lv_iconst (v := nI 0) hx hb d_Lw_cut_17 (by decide) ?_
    refine W.widen (k := 2) (n := 12) (by omega) (by omega) ?_
    exact W.iret (v := nI 0) hx hb hr (fun t9 ht hW => by rw [lQ, hc0]; exact ⟨rfl, by rw [ht]; exact hC3, by rw [ht]; exact hPo3, hS3.F ht⟩) hS3.2.2 d_Lw_cut_18
  · have hC2 := cX_kept hC (H1 := H) (fun z h1 _ => hkF z h1)
    have hPo2 := wO_kept hPo (hkF ao (wO_lt hPo))
    have hS3 : va_S (aO A ao) s.heap H locs := ⟨hS.1, fun z h1 h2 => hkF z h1, fun z h => Or.inl (hS.2.2 z h)⟩
    rcases hcd with ⟨hc0, rfl⟩ | ⟨hc0, rfl⟩
    · refine vx_catch (own := R_Lw) (name := nIAE) hown [] ⟨0, 10, 13, 13⟩ [] htb (fun z hz => absurd hz List.not_mem_nil) (by decide) (by decide) (hts _ w_202) (va_any rfl (hE.2.1 _ w_cIAE)) hce hcv hcl ?_
      refine lv_astore (lv' := [(4, .ref q), (0, .ref (ad 0)), (1, .int x_f), (2, .int x_z), (3, .ref ao)]) hx hb d_Lw_cut_13 hl (by decide) rfl (fun ls hl => ?_)
      refine lv_iconst (v := nI 1) hx hb d_Lw_cut_15 (by decide) ?_
      refine W.widen (k := 2) (n := 12) (by omega) (by omega) ?_
      exact W.iret (v := nI 1) hx hb hr (fun t9 ht hW => by rw [lQ, hc0]; exact ⟨rfl, by rw [ht]; exact hC2, by rw [ht]; exact hPo2, hS3.F ht⟩) hS3.2.2 d_Lw_cut_16
    · exact absurd hc0 cu_c_2
theorem m_Lw_links : (Cond.static y_Lw_links ∈ wA ∧ Cond.initialized y_Lw_links.cls ∈ wA ∧ Cond.codeWith y_Lw_links c_Lw_links 5 (some .int) [(0, 10, 13, 13)] ∈ wA) ∧ (y_Lw_links.cls ≠ "java/lang/invoke/MethodHandle" ∧ y_Lw_links.cls ≠ "java/lang/invoke/VarHandle" ∧ (parseMethodDescriptor y_Lw_links.desc).map (fun d => d.parameters.length) = some 4) := ⟨⟨w_766, w_0, w_767⟩, by decide +kernel⟩
set_option maxHeartbeats 4000000 in
set_option maxRecDepth 100000 in
theorem k_Lw_links (l : Launch) (hl9 : l.stackTraces = false) {D : va_G} {ct : Nat → ClassId} {ad : Nat → Nat} {B : Nat → Int32} {tk : Nat → Int32} {fr : Int32} {X : Nat → Option (Nat → Int32)} {A : Nat → Prop} {ao : Nat} {o : Nat → Int64} {f : Nat} {x_f : Int32} (hx_f : x_f.toNatClampNeg = f) {x : Int32} : Met l y_Lw_links (Cond.codeWith y_Lw_links c_Lw_links 5 (some .int) [(0, 10, 13, 13)] :: wA) (rmk 8 2 12) (va_Pc [.ref (ad 0), .int x_f, .int x, .ref ao] (lC A D ct ad B tk fr X ao o)) (lQ (li_c B f x) (re_f B f 26 2 + x) A D ct ad B tk fr X ao o (li_B B f x x_f) tk fr X) 2 12 (aO A ao) := by
  refine va_MetW (cc := c_Lw_links) (maxL := 5) (ret := (some .int)) (by decide +kernel) rfl ?_
  intro p e s m args below meth c s₁ B0 hml hv
  obtain ⟨rfl, ⟨hA, hE, hK, hC⟩, ⟨hao, hPo, hKo⟩, hN1, hN2⟩ := hv
  have hx := B0.exec
  have hb := B0.bytes
  have hr := B0.returns
  have hts := fun w (h : w ∈ wA) => atoms_spec (ws := Cond.codeWith y_Lw_links c_Lw_links 5 (some .int) [(0, 10, 13, 13)] :: wA) B0.pre w (List.mem_cons_of_mem _ h)
  have htb := vx_table (x := y_Lw_make) B0 (atoms_spec (ws := Cond.codeWith y_Lw_links c_Lw_links 5 (some .int) [(0, 10, 13, 13)] :: wA) B0.pre _ List.mem_cons_self)
  have hown : s.vm.findClass R_Lw = some m.cls := findClass_of_methodNamed B0.named
  have hl := lv_entry ([.ref (ad 0), .int x_f, .int x, .ref ao]) (n := 5) (Nat.le_of_ble_eq_true rfl)
  rw [lg_entry_eq]
  generalize (lg_sl ([.ref (ad 0), .int x_f, .int x, .ref ao]) ++ List.replicate (5 - (lg_sl ([.ref (ad 0), .int x_f, .int x, .ref ao])).length) Slot.unset).toArray = ls at hl ⊢
  have hl : lv_has ls 5 [(0, .ref (ad 0)), (1, .int x_f), (2, .int x), (3, .ref ao)] := hl
  refine lv_aload_n hx hb d_Lw_links_0 rfl (lv_at hl 3 rfl) ?_
  refine lv_iconst (v := nI 0) hx hb d_Lw_links_1 (by decide) ?_
  refine lv_aload_n hx hb d_Lw_links_2 rfl (lv_at hl 0 rfl) ?_
  refine lv_iload_n hx hb d_Lw_links_3 rfl (lv_at hl 1 rfl) ?_
  refine lv_iload_n hx hb d_Lw_links_4 rfl (lv_at hl 2 rfl) ?_
  refine tcV ⟨hx, hb, hml, hown, hts⟩ hE hK hC hA (k_Fb_links l hl9 (f := f) (x_f := x_f) (x := x) hx_f) w_768 m_Fb_links ⟨by decide, by decide⟩ rfl hl.1 rfl (Nat.le_of_ble_eq_true rfl) d_Lw_links_5 ⟨by decide, by decide⟩ (fun hc0 H locs hC2 hS => ?_) (fun E hcd H locs q ce hkF hS hce hcv hcl => ?_)
  · refine lv_i2l hx hb d_Lw_links_8 rfl ?_
    have hPo2 := wO_kept hPo (hS.2.1 ao (wO_lt hPo) hao)
    refine putO hx hb hKo hC2 hPo2 hao hS d_Lw_links_9 (fun H1 locs1 hC3 hPo3 hS3 => ?_)
    refine lv_goto (tgt := 17) hx hb d_Lw_links_10 (by decide) ?_
    refine lv_iconst (v := nI 0) hx hb d_Lw_links_17 (by decide) ?_
    refine W.widen (k := 2) (n := 12) (by omega) (by omega) ?_
    exact W.iret (v := nI 0) hx hb hr (fun t9 ht hW => by rw [lQ, hc0]; exact ⟨rfl, by rw [ht]; exact hC3, by rw [ht]; exact hPo3, hS3.F ht⟩) hS3.2.2 d_Lw_links_18
  · have hC2 := cX_kept hC (H1 := H) (fun z h1 _ => hkF z h1)
    have hPo2 := wO_kept hPo (hkF ao (wO_lt hPo))
    have hS3 : va_S (aO A ao) s.heap H locs := ⟨hS.1, fun z h1 h2 => hkF z h1, fun z h => Or.inl (hS.2.2 z h)⟩
    rcases hcd with ⟨hc0, rfl⟩ | ⟨hc0, rfl⟩
    · refine vx_catch (own := R_Lw) (name := nIAE) hown [] ⟨0, 10, 13, 13⟩ [] htb (fun z hz => absurd hz List.not_mem_nil) (by decide) (by decide) (hts _ w_202) (va_any rfl (hE.2.1 _ w_cIAE)) hce hcv hcl ?_
      refine lv_astore (lv' := [(4, .ref q), (0, .ref (ad 0)), (1, .int x_f), (2, .int x), (3, .ref ao)]) hx hb d_Lw_links_13 hl (by decide) rfl (fun ls hl => ?_)
      refine lv_iconst (v := nI 1) hx hb d_Lw_links_15 (by decide) ?_
      refine W.widen (k := 2) (n := 12) (by omega) (by omega) ?_
      exact W.iret (v := nI 1) hx hb hr (fun t9 ht hW => by rw [lQ, hc0]; exact ⟨rfl, by rw [ht]; exact hC2, by rw [ht]; exact hPo2, hS3.F ht⟩) hS3.2.2 d_Lw_links_16
    · exact absurd hc0 li_c_2
theorem m_Lw_drop : (Cond.static y_Lw_drop ∈ wA ∧ Cond.initialized y_Lw_drop.cls ∈ wA ∧ Cond.codeWith y_Lw_drop c_Lw_drop 4 (some .int) [(0, 9, 12, 13), (0, 9, 15, 15)] ∈ wA) ∧ (y_Lw_drop.cls ≠ "java/lang/invoke/MethodHandle" ∧ y_Lw_drop.cls ≠ "java/lang/invoke/VarHandle" ∧ (parseMethodDescriptor y_Lw_drop.desc).map (fun d => d.parameters.length) = some 3) := ⟨⟨w_779, w_0, w_780⟩, by decide +kernel⟩
set_option maxHeartbeats 4000000 in
set_option maxRecDepth 100000 in
theorem k_Lw_drop (l : Launch) (hl9 : l.stackTraces = false) {D : va_G} {ct : Nat → ClassId} {ad : Nat → Nat} {B : Nat → Int32} {tk : Nat → Int32} {fr : Int32} {X : Nat → Option (Nat → Int32)} {A : Nat → Prop} {ao : Nat} {o : Nat → Int64} {f : Nat} {x_f : Int32} (hx_f : x_f.toNatClampNeg = f) : Met l y_Lw_drop (Cond.codeWith y_Lw_drop c_Lw_drop 4 (some .int) [(0, 9, 12, 13), (0, 9, 15, 15)] :: wA) (rmk 8 2 12) (va_Pc [.ref (ad 0), .int x_f, .ref ao] (lC A D ct ad B tk fr X ao o)) (lQ (dr_c B f) (re_nb B f) A D ct ad B tk fr X ao o ((lgC (B, tk, fr) f x_f).1) ((lgC (B, tk, fr) f x_f).2.1) ((lgC (B, tk, fr) f x_f).2.2) X) 2 12 (aO A ao) := by
  refine va_MetW (cc := c_Lw_drop) (maxL := 4) (ret := (some .int)) (by decide +kernel) rfl ?_
  intro p e s m args below meth c s₁ B0 hml hv
  obtain ⟨rfl, ⟨hA, hE, hK, hC⟩, ⟨hao, hPo, hKo⟩, hN1, hN2⟩ := hv
  have hx := B0.exec
  have hb := B0.bytes
  have hr := B0.returns
  have hts := fun w (h : w ∈ wA) => atoms_spec (ws := Cond.codeWith y_Lw_drop c_Lw_drop 4 (some .int) [(0, 9, 12, 13), (0, 9, 15, 15)] :: wA) B0.pre w (List.mem_cons_of_mem _ h)
  have htb := vx_table (x := y_Lw_make) B0 (atoms_spec (ws := Cond.codeWith y_Lw_drop c_Lw_drop 4 (some .int) [(0, 9, 12, 13), (0, 9, 15, 15)] :: wA) B0.pre _ List.mem_cons_self)
  have hown : s.vm.findClass R_Lw = some m.cls := findClass_of_methodNamed B0.named
  have hl := lv_entry ([.ref (ad 0), .int x_f, .ref ao]) (n := 4) (Nat.le_of_ble_eq_true rfl)
  rw [lg_entry_eq]
  generalize (lg_sl ([.ref (ad 0), .int x_f, .ref ao]) ++ List.replicate (4 - (lg_sl ([.ref (ad 0), .int x_f, .ref ao])).length) Slot.unset).toArray = ls at hl ⊢
  have hl : lv_has ls 4 [(0, .ref (ad 0)), (1, .int x_f), (2, .ref ao)] := hl
  refine lv_aload_n hx hb d_Lw_drop_0 rfl (lv_at hl 2 rfl) ?_
  refine lv_iconst (v := nI 0) hx hb d_Lw_drop_1 (by decide) ?_
  refine lv_aload_n hx hb d_Lw_drop_2 rfl (lv_at hl 0 rfl) ?_
  refine lv_iload_n hx hb d_Lw_drop_3 rfl (lv_at hl 1 rfl) ?_
  refine tcV ⟨hx, hb, hml, hown, hts⟩ hE hK hC hA (k_Fb_drop l hl9 (f := f) (x_f := x_f) hx_f) w_781 m_Fb_drop ⟨by decide, by decide⟩ rfl hl.1 rfl (Nat.le_of_ble_eq_true rfl) d_Lw_drop_4 ⟨by decide, by decide⟩ (fun hc0 H locs hC2 hS => ?_) (fun E hcd H locs q ce hkF hS hce hcv hcl => ?_)
  · refine lv_i2l hx hb d_Lw_drop_7 rfl ?_
    have hPo2 := wO_kept hPo (hS.2.1 ao (wO_lt hPo) hao)
    refine putO hx hb hKo hC2 hPo2 hao hS d_Lw_drop_8 (fun H1 locs1 hC3 hPo3 hS3 => ?_)
    refine lv_goto (tgt := 18) hx hb d_Lw_drop_9 (by decide) ?_
    refine lv_iconst (v := nI 0) hx hb d_Lw_drop_18 (by decide) ?_
    refine W.widen (k := 2) (n := 12) (by omega) (by omega) ?_
    exact W.iret (v := nI 0) hx hb hr (fun t9 ht hW => by rw [lQ, hc0]; exact ⟨rfl, by rw [ht]; exact hC3, by rw [ht]; exact hPo3, hS3.F ht⟩) hS3.2.2 d_Lw_drop_19
  · have hC2 := cX_kept hC (H1 := H) (fun z h1 _ => hkF z h1)
    have hPo2 := wO_kept hPo (hkF ao (wO_lt hPo))
    have hS3 : va_S (aO A ao) s.heap H locs := ⟨hS.1, fun z h1 h2 => hkF z h1, fun z h => Or.inl (hS.2.2 z h)⟩
    rcases hcd with ⟨hc0, rfl⟩ | ⟨hc0, rfl⟩
    · refine vx_catch (own := R_Lw) (name := nIAE) hown [] ⟨0, 9, 12, 13⟩ [⟨0, 9, 15, 15⟩] htb (fun z hz => absurd hz List.not_mem_nil) (by decide) (by decide) (hts _ w_202) (va_any rfl (hE.2.1 _ w_cIAE)) hce hcv hcl ?_
      refine lv_astore_n (lv' := [(3, .ref q), (0, .ref (ad 0)), (1, .int x_f), (2, .ref ao)]) hx hb d_Lw_drop_12 rfl hl (by decide) rfl (fun ls hl => ?_)
      refine lv_iconst (v := nI 1) hx hb d_Lw_drop_13 (by decide) ?_
      refine W.widen (k := 2) (n := 12) (by omega) (by omega) ?_
      exact W.iret (v := nI 1) hx hb hr (fun t9 ht hW => by rw [lQ, hc0]; exact ⟨rfl, by rw [ht]; exact hC2, by rw [ht]; exact hPo2, hS3.F ht⟩) hS3.2.2 d_Lw_drop_14
    · refine vx_catch (own := R_Lw) (name := nISE) hown [⟨0, 9, 12, 13⟩] ⟨0, 9, 15, 15⟩ [] htb (fun z hz => by cases List.mem_singleton.mp hz; exact Or.inr ⟨by decide, nIAE, hts _ w_202, hN1⟩) (by decide) (by decide) (hts _ w_203) (va_any rfl (hE.2.1 _ w_cISE)) hce hcv hcl ?_
      refine lv_astore_n (lv' := [(3, .ref q), (0, .ref (ad 0)), (1, .int x_f), (2, .ref ao)]) hx hb d_Lw_drop_15 rfl hl (by decide) rfl (fun ls hl => ?_)
      refine lv_iconst (v := nI 2) hx hb d_Lw_drop_16 (by decide) ?_
      refine W.widen (k := 2) (n := 12) (by omega) (by omega) ?_
      exact W.iret (v := nI 2) hx hb hr (fun t9 ht hW => by rw [lQ, hc0]; exact ⟨rfl, by rw [ht]; exact hC2, by rw [ht]; exact hPo2, hS3.F ht⟩) hS3.2.2 d_Lw_drop_17
theorem m_Lw_about : (Cond.static y_Lw_about ∈ wA ∧ Cond.initialized y_Lw_about.cls ∈ wA ∧ Cond.codeWith y_Lw_about c_Lw_about 5 (some .int) [(0, 10, 13, 13)] ∈ wA) ∧ (y_Lw_about.cls ≠ "java/lang/invoke/MethodHandle" ∧ y_Lw_about.cls ≠ "java/lang/invoke/VarHandle" ∧ (parseMethodDescriptor y_Lw_about.desc).map (fun d => d.parameters.length) = some 4) := ⟨⟨w_787, w_0, w_788⟩, by decide +kernel⟩
set_option maxHeartbeats 4000000 in
set_option maxRecDepth 100000 in
theorem k_Lw_about (l : Launch) (hl9 : l.stackTraces = false) {D : va_G} {ct : Nat → ClassId} {ad : Nat → Nat} {B : Nat → Int32} {tk : Nat → Int32} {fr : Int32} {X : Nat → Option (Nat → Int32)} {A : Nat → Prop} {ao : Nat} {o : Nat → Int64} {f : Nat} {x_f : Int32} (hx_f : x_f.toNatClampNeg = f) {z : Int} {x_z : Int32} (hx_z : x_z.toInt = z) : Met l y_Lw_about (Cond.codeWith y_Lw_about c_Lw_about 5 (some .int) [(0, 10, 13, 13)] :: wA) (rmk 7 1 6) (va_Pc [.ref (ad 0), .int x_f, .int x_z, .ref ao] (lC A D ct ad B tk fr X ao o)) (lQ (ab_c f z) (ab_r B f z) A D ct ad B tk fr X ao o B tk fr X) 1 6 (aO A ao) := by
  refine va_MetW (cc := c_Lw_about) (maxL := 5) (ret := (some .int)) (by decide +kernel) rfl ?_
  intro p e s m args below meth c s₁ B0 hml hv
  obtain ⟨rfl, ⟨hA, hE, hK, hC⟩, ⟨hao, hPo, hKo⟩, hN1, hN2⟩ := hv
  have hx := B0.exec
  have hb := B0.bytes
  have hr := B0.returns
  have hts := fun w (h : w ∈ wA) => atoms_spec (ws := Cond.codeWith y_Lw_about c_Lw_about 5 (some .int) [(0, 10, 13, 13)] :: wA) B0.pre w (List.mem_cons_of_mem _ h)
  have htb := vx_table (x := y_Lw_make) B0 (atoms_spec (ws := Cond.codeWith y_Lw_about c_Lw_about 5 (some .int) [(0, 10, 13, 13)] :: wA) B0.pre _ List.mem_cons_self)
  have hown : s.vm.findClass R_Lw = some m.cls := findClass_of_methodNamed B0.named
  have hl := lv_entry ([.ref (ad 0), .int x_f, .int x_z, .ref ao]) (n := 5) (Nat.le_of_ble_eq_true rfl)
  rw [lg_entry_eq]
  generalize (lg_sl ([.ref (ad 0), .int x_f, .int x_z, .ref ao]) ++ List.replicate (5 - (lg_sl ([.ref (ad 0), .int x_f, .int x_z, .ref ao])).length) Slot.unset).toArray = ls at hl ⊢
  have hl : lv_has ls 5 [(0, .ref (ad 0)), (1, .int x_f), (2, .int x_z), (3, .ref ao)] := hl
  refine lv_aload_n hx hb d_Lw_about_0 rfl (lv_at hl 3 rfl) ?_
  refine lv_iconst (v := nI 0) hx hb d_Lw_about_1 (by decide) ?_
  refine lv_aload_n hx hb d_Lw_about_2 rfl (lv_at hl 0 rfl) ?_
  refine lv_iload_n hx hb d_Lw_about_3 rfl (lv_at hl 1 rfl) ?_
  refine lv_iload_n hx hb d_Lw_about_4 rfl (lv_at hl 2 rfl) ?_
  refine tcV ⟨hx, hb, hml, hown, hts⟩ hE hK hC hA (k_Fb_about l hl9 (f := f) (x_f := x_f) (z := z) (x_z := x_z) hx_f hx_z) w_789 m_Fb_about ⟨by decide, by decide⟩ rfl hl.1 rfl (Nat.le_of_ble_eq_true rfl) d_Lw_about_5 ⟨by decide, by decide⟩ (fun hc0 H locs hC2 hS => ?_) (fun E hcd H locs q ce hkF hS hce hcv hcl => ?_)
  · refine lv_i2l hx hb d_Lw_about_8 rfl ?_
    have hPo2 := wO_kept hPo (hS.2.1 ao (wO_lt hPo) hao)
    refine putO hx hb hKo hC2 hPo2 hao hS d_Lw_about_9 (fun H1 locs1 hC3 hPo3 hS3 => ?_)
    refine lv_goto (tgt := 17) hx hb d_Lw_about_10 (by decide) ?_
    refine lv_iconst (v := nI 0) hx hb d_Lw_about_17 (by decide) ?_
    refine W.widen (k := 1) (n := 6) (by omega) (by omega) ?_
    exact W.iret (v := nI 0) hx hb hr (fun t9 ht hW => by rw [lQ, hc0]; exact ⟨rfl, by rw [ht]; exact hC3, by rw [ht]; exact hPo3, hS3.F ht⟩) hS3.2.2 d_Lw_about_18
  · have hC2 := cX_kept hC (H1 := H) (fun z h1 _ => hkF z h1)
    have hPo2 := wO_kept hPo (hkF ao (wO_lt hPo))
    have hS3 : va_S (aO A ao) s.heap H locs := ⟨hS.1, fun z h1 h2 => hkF z h1, fun z h => Or.inl (hS.2.2 z h)⟩
    rcases hcd with ⟨hc0, rfl⟩ | ⟨hc0, rfl⟩
    · refine vx_catch (own := R_Lw) (name := nIAE) hown [] ⟨0, 10, 13, 13⟩ [] htb (fun z hz => absurd hz List.not_mem_nil) (by decide) (by decide) (hts _ w_202) (va_any rfl (hE.2.1 _ w_cIAE)) hce hcv hcl ?_
      refine lv_astore (lv' := [(4, .ref q), (0, .ref (ad 0)), (1, .int x_f), (2, .int x_z), (3, .ref ao)]) hx hb d_Lw_about_13 hl (by decide) rfl (fun ls hl => ?_)
      refine lv_iconst (v := nI 1) hx hb d_Lw_about_15 (by decide) ?_
      refine W.widen (k := 1) (n := 6) (by omega) (by omega) ?_
      exact W.iret (v := nI 1) hx hb hr (fun t9 ht hW => by rw [lQ, hc0]; exact ⟨rfl, by rw [ht]; exact hC2, by rw [ht]; exact hPo2, hS3.F ht⟩) hS3.2.2 d_Lw_about_16
    · exact absurd hc0 ab_c_2
theorem m_Lw_block : (Cond.static y_Lw_block ∈ wA ∧ Cond.initialized y_Lw_block.cls ∈ wA ∧ Cond.codeWith y_Lw_block c_Lw_block 5 (some .int) [(0, 10, 13, 13)] ∈ wA) ∧ (y_Lw_block.cls ≠ "java/lang/invoke/MethodHandle" ∧ y_Lw_block.cls ≠ "java/lang/invoke/VarHandle" ∧ (parseMethodDescriptor y_Lw_block.desc).map (fun d => d.parameters.length) = some 4) := ⟨⟨w_799, w_0, w_800⟩, by decide +kernel⟩
set_option maxHeartbeats 4000000 in
set_option maxRecDepth 100000 in
theorem k_Lw_block (l : Launch) (hl9 : l.stackTraces = false) {D : va_G} {ct : Nat → ClassId} {ad : Nat → Nat} {B : Nat → Int32} {tk : Nat → Int32} {fr : Int32} {X : Nat → Option (Nat → Int32)} {A : Nat → Prop} {ao : Nat} {o : Nat → Int64} {f : Nat} {x_f : Int32} (hx_f : x_f.toNatClampNeg = f) {z : Int} {x_z : Int32} (hx_z : x_z.toInt = z) : Met l y_Lw_block (Cond.codeWith y_Lw_block c_Lw_block 5 (some .int) [(0, 10, 13, 13)] :: wA) (rmk 7 2 12) (va_Pc [.ref (ad 0), .int x_f, .int x_z, .ref ao] (lC A D ct ad B tk fr X ao o)) (lQ (bk_c B f z) (re_blk B f z) A D ct ad B tk fr X ao o B tk fr X) 2 12 (aO A ao) := by
  refine va_MetW (cc := c_Lw_block) (maxL := 5) (ret := (some .int)) (by decide +kernel) rfl ?_
  intro p e s m args below meth c s₁ B0 hml hv
  obtain ⟨rfl, ⟨hA, hE, hK, hC⟩, ⟨hao, hPo, hKo⟩, hN1, hN2⟩ := hv
  have hx := B0.exec
  have hb := B0.bytes
  have hr := B0.returns
  have hts := fun w (h : w ∈ wA) => atoms_spec (ws := Cond.codeWith y_Lw_block c_Lw_block 5 (some .int) [(0, 10, 13, 13)] :: wA) B0.pre w (List.mem_cons_of_mem _ h)
  have htb := vx_table (x := y_Lw_make) B0 (atoms_spec (ws := Cond.codeWith y_Lw_block c_Lw_block 5 (some .int) [(0, 10, 13, 13)] :: wA) B0.pre _ List.mem_cons_self)
  have hown : s.vm.findClass R_Lw = some m.cls := findClass_of_methodNamed B0.named
  have hl := lv_entry ([.ref (ad 0), .int x_f, .int x_z, .ref ao]) (n := 5) (Nat.le_of_ble_eq_true rfl)
  rw [lg_entry_eq]
  generalize (lg_sl ([.ref (ad 0), .int x_f, .int x_z, .ref ao]) ++ List.replicate (5 - (lg_sl ([.ref (ad 0), .int x_f, .int x_z, .ref ao])).length) Slot.unset).toArray = ls at hl ⊢
  have hl : lv_has ls 5 [(0, .ref (ad 0)), (1, .int x_f), (2, .int x_z), (3, .ref ao)] := hl
  refine lv_aload_n hx hb d_Lw_block_0 rfl (lv_at hl 3 rfl) ?_
  refine lv_iconst (v := nI 0) hx hb d_Lw_block_1 (by decide) ?_
  refine lv_aload_n hx hb d_Lw_block_2 rfl (lv_at hl 0 rfl) ?_
  refine lv_iload_n hx hb d_Lw_block_3 rfl (lv_at hl 1 rfl) ?_
  refine lv_iload_n hx hb d_Lw_block_4 rfl (lv_at hl 2 rfl) ?_
  refine tcV ⟨hx, hb, hml, hown, hts⟩ hE hK hC hA (k_Fb_block l hl9 (f := f) (x_f := x_f) (z := z) (x_z := x_z) hx_f hx_z) w_801 m_Fb_block ⟨by decide, by decide⟩ rfl hl.1 rfl (Nat.le_of_ble_eq_true rfl) d_Lw_block_5 ⟨by decide, by decide⟩ (fun hc0 H locs hC2 hS => ?_) (fun E hcd H locs q ce hkF hS hce hcv hcl => ?_)
  · refine lv_i2l hx hb d_Lw_block_8 rfl ?_
    have hPo2 := wO_kept hPo (hS.2.1 ao (wO_lt hPo) hao)
    refine putO hx hb hKo hC2 hPo2 hao hS d_Lw_block_9 (fun H1 locs1 hC3 hPo3 hS3 => ?_)
    refine lv_goto (tgt := 17) hx hb d_Lw_block_10 (by decide) ?_
    refine lv_iconst (v := nI 0) hx hb d_Lw_block_17 (by decide) ?_
    refine W.widen (k := 2) (n := 12) (by omega) (by omega) ?_
    exact W.iret (v := nI 0) hx hb hr (fun t9 ht hW => by rw [lQ, hc0]; exact ⟨rfl, by rw [ht]; exact hC3, by rw [ht]; exact hPo3, hS3.F ht⟩) hS3.2.2 d_Lw_block_18
  · have hC2 := cX_kept hC (H1 := H) (fun z h1 _ => hkF z h1)
    have hPo2 := wO_kept hPo (hkF ao (wO_lt hPo))
    have hS3 : va_S (aO A ao) s.heap H locs := ⟨hS.1, fun z h1 h2 => hkF z h1, fun z h => Or.inl (hS.2.2 z h)⟩
    rcases hcd with ⟨hc0, rfl⟩ | ⟨hc0, rfl⟩
    · refine vx_catch (own := R_Lw) (name := nIAE) hown [] ⟨0, 10, 13, 13⟩ [] htb (fun z hz => absurd hz List.not_mem_nil) (by decide) (by decide) (hts _ w_202) (va_any rfl (hE.2.1 _ w_cIAE)) hce hcv hcl ?_
      refine lv_astore (lv' := [(4, .ref q), (0, .ref (ad 0)), (1, .int x_f), (2, .int x_z), (3, .ref ao)]) hx hb d_Lw_block_13 hl (by decide) rfl (fun ls hl => ?_)
      refine lv_iconst (v := nI 1) hx hb d_Lw_block_15 (by decide) ?_
      refine W.widen (k := 2) (n := 12) (by omega) (by omega) ?_
      exact W.iret (v := nI 1) hx hb hr (fun t9 ht hW => by rw [lQ, hc0]; exact ⟨rfl, by rw [ht]; exact hC2, by rw [ht]; exact hPo2, hS3.F ht⟩) hS3.2.2 d_Lw_block_16
    · exact absurd hc0 bk_c_2
theorem m_Lw_count : (Cond.static y_Lw_count ∈ wA ∧ Cond.initialized y_Lw_count.cls ∈ wA ∧ Cond.codeWith y_Lw_count c_Lw_count 4 (some .int) [(0, 9, 12, 13)] ∈ wA) ∧ (y_Lw_count.cls ≠ "java/lang/invoke/MethodHandle" ∧ y_Lw_count.cls ≠ "java/lang/invoke/VarHandle" ∧ (parseMethodDescriptor y_Lw_count.desc).map (fun d => d.parameters.length) = some 3) := ⟨⟨w_807, w_0, w_808⟩, by decide +kernel⟩
set_option maxHeartbeats 4000000 in
set_option maxRecDepth 100000 in
theorem k_Lw_count (l : Launch) (hl9 : l.stackTraces = false) {D : va_G} {ct : Nat → ClassId} {ad : Nat → Nat} {B : Nat → Int32} {tk : Nat → Int32} {fr : Int32} {X : Nat → Option (Nat → Int32)} {A : Nat → Prop} {ao : Nat} {o : Nat → Int64} {z : Int} {x_z : Int32} (hx_z : x_z.toInt = z) : Met l y_Lw_count (Cond.codeWith y_Lw_count c_Lw_count 4 (some .int) [(0, 9, 12, 13)] :: wA) (rmk 7 1 6) (va_Pc [.ref (ad 0), .int x_z, .ref ao] (lC A D ct ad B tk fr X ao o)) (lQ (co_c z) (co_r B fr z) A D ct ad B tk fr X ao o B tk fr X) 1 6 (aO A ao) := by
  refine va_MetW (cc := c_Lw_count) (maxL := 4) (ret := (some .int)) (by decide +kernel) rfl ?_
  intro p e s m args below meth c s₁ B0 hml hv
  obtain ⟨rfl, ⟨hA, hE, hK, hC⟩, ⟨hao, hPo, hKo⟩, hN1, hN2⟩ := hv
  have hx := B0.exec
  have hb := B0.bytes
  have hr := B0.returns
  have hts := fun w (h : w ∈ wA) => atoms_spec (ws := Cond.codeWith y_Lw_count c_Lw_count 4 (some .int) [(0, 9, 12, 13)] :: wA) B0.pre w (List.mem_cons_of_mem _ h)
  have htb := vx_table (x := y_Lw_make) B0 (atoms_spec (ws := Cond.codeWith y_Lw_count c_Lw_count 4 (some .int) [(0, 9, 12, 13)] :: wA) B0.pre _ List.mem_cons_self)
  have hown : s.vm.findClass R_Lw = some m.cls := findClass_of_methodNamed B0.named
  have hl := lv_entry ([.ref (ad 0), .int x_z, .ref ao]) (n := 4) (Nat.le_of_ble_eq_true rfl)
  rw [lg_entry_eq]
  generalize (lg_sl ([.ref (ad 0), .int x_z, .ref ao]) ++ List.replicate (4 - (lg_sl ([.ref (ad 0), .int x_z, .ref ao])).length) Slot.unset).toArray = ls at hl ⊢
  have hl : lv_has ls 4 [(0, .ref (ad 0)), (1, .int x_z), (2, .ref ao)] := hl
  refine lv_aload_n hx hb d_Lw_count_0 rfl (lv_at hl 2 rfl) ?_
  refine lv_iconst (v := nI 0) hx hb d_Lw_count_1 (by decide) ?_
  refine lv_aload_n hx hb d_Lw_count_2 rfl (lv_at hl 0 rfl) ?_
  refine lv_iload_n hx hb d_Lw_count_3 rfl (lv_at hl 1 rfl) ?_
  refine tcV ⟨hx, hb, hml, hown, hts⟩ hE hK hC hA (k_Fb_count l hl9 (z := z) (x_z := x_z) hx_z) w_809 m_Fb_count ⟨by decide, by decide⟩ rfl hl.1 rfl (Nat.le_of_ble_eq_true rfl) d_Lw_count_4 ⟨by decide, by decide⟩ (fun hc0 H locs hC2 hS => ?_) (fun E hcd H locs q ce hkF hS hce hcv hcl => ?_)
  · refine lv_i2l hx hb d_Lw_count_7 rfl ?_
    have hPo2 := wO_kept hPo (hS.2.1 ao (wO_lt hPo) hao)
    refine putO hx hb hKo hC2 hPo2 hao hS d_Lw_count_8 (fun H1 locs1 hC3 hPo3 hS3 => ?_)
    refine lv_goto (tgt := 15) hx hb d_Lw_count_9 (by decide) ?_
    refine lv_iconst (v := nI 0) hx hb d_Lw_count_15 (by decide) ?_
    refine W.widen (k := 1) (n := 6) (by omega) (by omega) ?_
    exact W.iret (v := nI 0) hx hb hr (fun t9 ht hW => by rw [lQ, hc0]; exact ⟨rfl, by rw [ht]; exact hC3, by rw [ht]; exact hPo3, hS3.F ht⟩) hS3.2.2 d_Lw_count_16
  · have hC2 := cX_kept hC (H1 := H) (fun z h1 _ => hkF z h1)
    have hPo2 := wO_kept hPo (hkF ao (wO_lt hPo))
    have hS3 : va_S (aO A ao) s.heap H locs := ⟨hS.1, fun z h1 h2 => hkF z h1, fun z h => Or.inl (hS.2.2 z h)⟩
    rcases hcd with ⟨hc0, rfl⟩ | ⟨hc0, rfl⟩
    · refine vx_catch (own := R_Lw) (name := nIAE) hown [] ⟨0, 9, 12, 13⟩ [] htb (fun z hz => absurd hz List.not_mem_nil) (by decide) (by decide) (hts _ w_202) (va_any rfl (hE.2.1 _ w_cIAE)) hce hcv hcl ?_
      refine lv_astore_n (lv' := [(3, .ref q), (0, .ref (ad 0)), (1, .int x_z), (2, .ref ao)]) hx hb d_Lw_count_12 rfl hl (by decide) rfl (fun ls hl => ?_)
      refine lv_iconst (v := nI 1) hx hb d_Lw_count_13 (by decide) ?_
      refine W.widen (k := 1) (n := 6) (by omega) (by omega) ?_
      exact W.iret (v := nI 1) hx hb hr (fun t9 ht hW => by rw [lQ, hc0]; exact ⟨rfl, by rw [ht]; exact hC2, by rw [ht]; exact hPo2, hS3.F ht⟩) hS3.2.2 d_Lw_count_14
    · exact absurd hc0 co_c_2
theorem m_Lw_byteOf : (Cond.static y_Lw_byteOf ∈ wA ∧ Cond.initialized y_Lw_byteOf.cls ∈ wA ∧ Cond.codeWith y_Lw_byteOf c_Lw_byteOf 5 (some .int) [(0, 10, 13, 32)] ∈ wA) ∧ (y_Lw_byteOf.cls ≠ "java/lang/invoke/MethodHandle" ∧ y_Lw_byteOf.cls ≠ "java/lang/invoke/VarHandle" ∧ (parseMethodDescriptor y_Lw_byteOf.desc).map (fun d => d.parameters.length) = some 4) := ⟨⟨w_823, w_0, w_824⟩, by decide +kernel⟩
set_option maxHeartbeats 4000000 in
set_option maxRecDepth 100000 in
theorem k_Lw_byteOf (l : Launch) (hl9 : l.stackTraces = false) {D : va_G} {ct : Nat → ClassId} {ad : Nat → Nat} {B : Nat → Int32} {tk : Nat → Int32} {fr : Int32} {X : Nat → Option (Nat → Int32)} {A : Nat → Prop} {ao : Nat} {o : Nat → Int64} {z : Int} {x_z : Int32} (hx_z : x_z.toInt = z) {u : Int} {x_u : Int32} (hx_u : x_u.toInt = u) : Met l y_Lw_byteOf (Cond.codeWith y_Lw_byteOf c_Lw_byteOf 5 (some .int) [(0, 10, 13, 32)] :: wA) (rmk 7 1 6) (va_Pc [.ref (ad 0), .int x_z, .int x_u, .ref ao] (lC A D ct ad B tk fr X ao o)) (lQ (by_c z u) (fr_num B (z.toNat * 1024 + u.toNat) 1) A D ct ad B tk fr X ao o B tk fr X) 1 6 (aO A ao) := by
  refine va_MetW (cc := c_Lw_byteOf) (maxL := 5) (ret := (some .int)) (by decide +kernel) rfl ?_
  intro p e s m args below meth c s₁ B0 hml hv
  obtain ⟨rfl, ⟨hA, hE, hK, hC⟩, ⟨hao, hPo, hKo⟩, hN1, hN2⟩ := hv
  have hx := B0.exec
  have hb := B0.bytes
  have hr := B0.returns
  have hts := fun w (h : w ∈ wA) => atoms_spec (ws := Cond.codeWith y_Lw_byteOf c_Lw_byteOf 5 (some .int) [(0, 10, 13, 32)] :: wA) B0.pre w (List.mem_cons_of_mem _ h)
  have htb := vx_table (x := y_Lw_make) B0 (atoms_spec (ws := Cond.codeWith y_Lw_byteOf c_Lw_byteOf 5 (some .int) [(0, 10, 13, 32)] :: wA) B0.pre _ List.mem_cons_self)
  have hown : s.vm.findClass R_Lw = some m.cls := findClass_of_methodNamed B0.named
  have hl := lv_entry ([.ref (ad 0), .int x_z, .int x_u, .ref ao]) (n := 5) (Nat.le_of_ble_eq_true rfl)
  rw [lg_entry_eq]
  generalize (lg_sl ([.ref (ad 0), .int x_z, .int x_u, .ref ao]) ++ List.replicate (5 - (lg_sl ([.ref (ad 0), .int x_z, .int x_u, .ref ao])).length) Slot.unset).toArray = ls at hl ⊢
  have hl : lv_has ls 5 [(0, .ref (ad 0)), (1, .int x_z), (2, .int x_u), (3, .ref ao)] := hl
  refine lv_aload_n hx hb d_Lw_byteOf_0 rfl (lv_at hl 3 rfl) ?_
  refine lv_iconst (v := nI 0) hx hb d_Lw_byteOf_1 (by decide) ?_
  refine lv_aload_n hx hb d_Lw_byteOf_2 rfl (lv_at hl 0 rfl) ?_
  refine lv_iload_n hx hb d_Lw_byteOf_3 rfl (lv_at hl 1 rfl) ?_
  refine lv_iload_n hx hb d_Lw_byteOf_4 rfl (lv_at hl 2 rfl) ?_
  refine tcV ⟨hx, hb, hml, hown, hts⟩ hE hK hC hA (k_Fb_byteOf l hl9 (z := z) (x_z := x_z) (u := u) (x_u := x_u) hx_z hx_u) w_825 m_Fb_byteOf ⟨by decide, by decide⟩ rfl hl.1 rfl (Nat.le_of_ble_eq_true rfl) d_Lw_byteOf_5 ⟨by decide, by decide⟩ (fun hc0 H locs hC2 hS => ?_) (fun E hcd H locs q ce hkF hS hce hcv hcl => ?_)
  · refine lv_i2l hx hb d_Lw_byteOf_8 rfl ?_
    have hPo2 := wO_kept hPo (hS.2.1 ao (wO_lt hPo) hao)
    refine putO hx hb hKo hC2 hPo2 hao hS d_Lw_byteOf_9 (fun H1 locs1 hC3 hPo3 hS3 => ?_)
    refine lv_goto (tgt := 17) hx hb d_Lw_byteOf_10 (by decide) ?_
    refine lv_iconst (v := nI 0) hx hb d_Lw_byteOf_17 (by decide) ?_
    refine W.widen (k := 1) (n := 6) (by omega) (by omega) ?_
    exact W.iret (v := nI 0) hx hb hr (fun t9 ht hW => by rw [lQ, hc0]; exact ⟨rfl, by rw [ht]; exact hC3, by rw [ht]; exact hPo3, hS3.F ht⟩) hS3.2.2 d_Lw_byteOf_18
  · have hC2 := cX_kept hC (H1 := H) (fun z h1 _ => hkF z h1)
    have hPo2 := wO_kept hPo (hkF ao (wO_lt hPo))
    have hS3 : va_S (aO A ao) s.heap H locs := ⟨hS.1, fun z h1 h2 => hkF z h1, fun z h => Or.inl (hS.2.2 z h)⟩
    rcases hcd with ⟨hc0, rfl⟩ | ⟨hc0, rfl⟩
    · refine vx_catch (own := R_Lw) (name := nIOE) hown [] ⟨0, 10, 13, 32⟩ [] htb (fun z hz => absurd hz List.not_mem_nil) (by decide) (by decide) (hts _ w_447) (va_any rfl (hE.2.1 _ w_cIOE)) hce hcv hcl ?_
      refine lv_astore (lv' := [(4, .ref q), (0, .ref (ad 0)), (1, .int x_z), (2, .int x_u), (3, .ref ao)]) hx hb d_Lw_byteOf_13 hl (by decide) rfl (fun ls hl => ?_)
      refine lv_iconst (v := nI 1) hx hb d_Lw_byteOf_15 (by decide) ?_
      refine W.widen (k := 1) (n := 6) (by omega) (by omega) ?_
      exact W.iret (v := nI 1) hx hb hr (fun t9 ht hW => by rw [lQ, hc0]; exact ⟨rfl, by rw [ht]; exact hC2, by rw [ht]; exact hPo2, hS3.F ht⟩) hS3.2.2 d_Lw_byteOf_16
    · exact absurd hc0 by_c_2
