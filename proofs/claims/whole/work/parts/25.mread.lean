/-! the reference: what is read -/
def mf1 (tk : Nat → Int32) : Nat → Nat → Nat → Nat
  | 0, _, n => n
  | k + 1, b, n => mf1 tk k (b + 1) (if tk b = 0 then n + 1 else n)
def mff (kd : Nat → Int32) : Nat → Nat → Nat
  | 0, _ => 0
  | k + 1, f => if kd f = 0 then f else mff kd k (f + 1)
def mwt (bl : Nat → Nat) (f : Nat) : Nat → Nat → Nat → Nat
  | 0, _, w => w
  | k + 1, q, w => mwt bl f k (q + 1) (if bl (15 * f + q) = 0 then w + 1 else w)
def mbo (bl : Nat → Nat) (f : Nat) : Nat → Nat → Nat → Nat
  | 0, _, w => w
  | k + 1, q, w => mbo bl f k (q + 1) (if bl (15 * f + q) = 0 then w else w + 1)
def mpt (v : Int32) (z n : Int) : Int32 := if z < 0 ∨ n ≤ z then nI 0 else (v >>> (nI (8 * z.toNat) &&& 31)) &&& nI 255
theorem m_Mo_thrown : mV R_Mo y_Mo_thrown (Cond.code y_Mo_thrown c_Mo_thrown 1 (some .int)) 0 := ⟨⟨w_875, w_876, w_7, w_877⟩, by decide +kernel⟩
set_option maxHeartbeats 4000000 in
set_option maxRecDepth 100000 in
theorem k_Mo_thrown (l : Launch) {D : va_G} {ct : Nat → ClassId} {ad : Nat → Nat} {cd : Int32} {dk : Nat → Int32} {tk kd lc sz bh wt : Nat → Int32} {bl : Nat → Nat} {tg : Nat → Int32} {fs : Int32}   : Met l y_Mo_thrown (Cond.code y_Mo_thrown c_Mo_thrown 1 (some .int) :: wA) (rmk 1 0 0) (va_Pc [.ref (ad 0)] (cR D (tyM ct) (wsM ct ad cd dk tk kd lc sz bh wt bl tg fs))) (QcRead cd) 0 0 (fun _ => False) := by
  refine Met.ofW (cc := c_Mo_thrown) (maxL := 1) (ret := (some .int)) (by decide +kernel) rfl ?_
  intro p e s m args below meth c s₁ B0 hml hv
  obtain ⟨rfl, hP, hK⟩ := hv
  have hx := B0.exec
  have hb := B0.bytes
  have hr := B0.returns
  have hts := fun w (h : w ∈ wA) => atoms_spec (ws := Cond.code y_Mo_thrown c_Mo_thrown 1 (some .int) :: wA) B0.pre w (List.mem_cons_of_mem _ h)
  have hown : s.vm.findClass R_Mo = some m.cls := findClass_of_methodNamed B0.named
  have hlocks := B0.notSynchronized
  have hl := lv_entry ([.ref (ad 0)]) (n := 1) (Nat.le_of_ble_eq_true rfl)
  rw [lg_entry_eq]
  generalize (lg_sl ([.ref (ad 0)]) ++ List.replicate (1 - (lg_sl ([.ref (ad 0)])).length) Slot.unset).toArray = ls at hl ⊢
  have hl : lv_has ls 1 [(0, .ref (ad 0))] := hl
  refine lv_aload_n hx hb d_Mo_thrown_0 rfl (lv_at hl 0 rfl) ?_
  refine va_get (D := D) (ci := 6) (v := .int cd) (C := R_Mo) (T := T_Mo) (N := 11) hx hb hts u_Mo hown hK hP 0 rfl rfl 0 (by decide) (hts _ w_839) (fun _ h9 => h9) rfl d_Mo_thrown_1 ?_
  exact W.iret (v := cd) hx hb hr (fun t9 ht hW => ⟨congrArg (fun z => Outcome.returned (some (Value.int z))) (show cd = cd from rfl), ht⟩) (fun q h => nomatch h) d_Mo_thrown_4
theorem m_Mo_in : mS y_Mo_in (Cond.code y_Mo_in c_Mo_in 6 (some .boolean)) 3 := ⟨⟨w_884, w_7, w_885⟩, by decide +kernel⟩
set_option maxHeartbeats 4000000 in
set_option maxRecDepth 100000 in
theorem k_Mo_in (l : Launch) {D : va_G} {ct : Nat → ClassId} {ad : Nat → Nat} {cd : Int32} {dk : Nat → Int32} {tk kd lc sz bh wt : Nat → Int32} {bl : Nat → Nat} {tg : Nat → Int32} {fs : Int32} {v : Int} {x_v : Int64} (hx_v : x_v.toInt = v) {u : Int} {x_u : Int64} (hx_u : x_u.toInt = u) {w : Int} {x_w : Int64} (hx_w : x_w.toInt = w)  : Met l y_Mo_in (Cond.code y_Mo_in c_Mo_in 6 (some .boolean) :: wA) (rmk 1 0 0) (va_Pc [.long x_v, .long x_u, .long x_w] (cR D (tyM ct) (wsM ct ad cd dk tk kd lc sz bh wt bl tg fs))) (QcRead (bI (u ≤ v ∧ v ≤ w))) 0 0 (fun _ => False) := by
  refine Met.ofW (cc := c_Mo_in) (maxL := 6) (ret := (some .boolean)) (by decide +kernel) rfl ?_
  intro p e s m args below meth c s₁ B0 hml hv
  obtain ⟨rfl, hP, hK⟩ := hv
  have hx := B0.exec
  have hb := B0.bytes
  have hr := B0.returns
  have hts := fun w (h : w ∈ wA) => atoms_spec (ws := Cond.code y_Mo_in c_Mo_in 6 (some .boolean) :: wA) B0.pre w (List.mem_cons_of_mem _ h)
  have hown : s.vm.findClass R_Mo = some m.cls := findClass_of_methodNamed B0.named
  have hlocks := B0.notSynchronized
  have hl := lv_entry ([.long x_v, .long x_u, .long x_w]) (n := 6) (Nat.le_of_ble_eq_true rfl)
  rw [lg_entry_eq]
  generalize (lg_sl ([.long x_v, .long x_u, .long x_w]) ++ List.replicate (6 - (lg_sl ([.long x_v, .long x_u, .long x_w])).length) Slot.unset).toArray = ls at hl ⊢
  have hl : lv_has ls 6 [(0, .long x_v), (2, .long x_u), (4, .long x_w)] := hl
  refine lv_lload_n hx hb d_Mo_in_0 rfl (lv_at hl 0 rfl) ?_
  refine lv_lload_n hx hb d_Mo_in_1 rfl (lv_at hl 1 rfl) ?_
  refine W.lcmp hx hb d_Mo_in_2 ?_
  refine lc_if_lt (tgt := 17) hx hb hx_v hx_u d_Mo_in_3 (by decide) (fun c_1 => ?_) (fun c_1 => ?_)
  · skip
    refine lv_iconst (v := nI 0) hx hb d_Mo_in_17 (by decide) ?_
    exact W.zret (ty := .boolean) (v := nI 0) hx hb hr rfl (fun t9 ht hW => ⟨congrArg (fun z => Outcome.returned (some (Value.int z))) (show nI 0 = (bI (u ≤ v ∧ v ≤ w)) from (by first | exact bI_t (by omega) | exact bI_f (by omega))), ht⟩) (fun q h => nomatch h) d_Mo_in_18
  · skip
    refine lv_lload_n hx hb d_Mo_in_6 rfl (lv_at hl 0 rfl) ?_
    refine lv_lload hx hb d_Mo_in_7 (lv_at hl 2 rfl) ?_
    refine W.lcmp hx hb d_Mo_in_9 ?_
    refine lc_if_gt (tgt := 17) hx hb hx_v hx_w d_Mo_in_10 (by decide) (fun c_2 => ?_) (fun c_2 => ?_)
    · skip
      refine lv_iconst (v := nI 0) hx hb d_Mo_in_17 (by decide) ?_
      exact W.zret (ty := .boolean) (v := nI 0) hx hb hr rfl (fun t9 ht hW => ⟨congrArg (fun z => Outcome.returned (some (Value.int z))) (show nI 0 = (bI (u ≤ v ∧ v ≤ w)) from (by first | exact bI_t (by omega) | exact bI_f (by omega))), ht⟩) (fun q h => nomatch h) d_Mo_in_18
    · skip
      refine lv_iconst (v := nI 1) hx hb d_Mo_in_13 (by decide) ?_
      refine lv_goto (tgt := 18) hx hb d_Mo_in_14 (by decide) ?_
      exact W.zret (ty := .boolean) (v := nI 1) hx hb hr rfl (fun t9 ht hW => ⟨congrArg (fun z => Outcome.returned (some (Value.int z))) (show nI 1 = (bI (u ≤ v ∧ v ≤ w)) from (by first | exact bI_t (by omega) | exact bI_f (by omega))), ht⟩) (fun q h => nomatch h) d_Mo_in_18
theorem m_Mo_isFile : mV R_Mo y_Mo_isFile (Cond.code y_Mo_isFile c_Mo_isFile 2 (some .boolean)) 1 := ⟨⟨w_924, wp_20, w_7, w_925⟩, by decide +kernel⟩
set_option maxHeartbeats 4000000 in
set_option maxRecDepth 100000 in
theorem k_Mo_isFile (l : Launch) {D : va_G} {ct : Nat → ClassId} {ad : Nat → Nat} {cd : Int32} {dk : Nat → Int32} {tk kd lc sz bh wt : Nat → Int32} {bl : Nat → Nat} {tg : Nat → Int32} {fs : Int32} {f : Nat} {x_f : Int32} (hx_f : x_f.toNatClampNeg = f)  : Met l y_Mo_isFile (Cond.code y_Mo_isFile c_Mo_isFile 2 (some .boolean) :: wA) (rmk 2 0 0) (va_Pc [.ref (ad 0), .int x_f] (cR D (tyM ct) (wsM ct ad cd dk tk kd lc sz bh wt bl tg fs))) (QcRead (bI ((f ≠ 0 ∧ f ≤ 12) ∧ ¬ kd f ≤ 0))) 0 0 (fun _ => False) := by
  refine Met.ofW (cc := c_Mo_isFile) (maxL := 2) (ret := (some .boolean)) (by decide +kernel) rfl ?_
  intro p e s m args below meth c s₁ B0 hml hv
  obtain ⟨rfl, hP, hK⟩ := hv
  have hx := B0.exec
  have hb := B0.bytes
  have hr := B0.returns
  have hts := fun w (h : w ∈ wA) => atoms_spec (ws := Cond.code y_Mo_isFile c_Mo_isFile 2 (some .boolean) :: wA) B0.pre w (List.mem_cons_of_mem _ h)
  have hown : s.vm.findClass R_Mo = some m.cls := findClass_of_methodNamed B0.named
  have hlocks := B0.notSynchronized
  have hl := lv_entry ([.ref (ad 0), .int x_f]) (n := 2) (Nat.le_of_ble_eq_true rfl)
  rw [lg_entry_eq]
  generalize (lg_sl ([.ref (ad 0), .int x_f]) ++ List.replicate (2 - (lg_sl ([.ref (ad 0), .int x_f])).length) Slot.unset).toArray = ls at hl ⊢
  have hl : lv_has ls 2 [(0, .ref (ad 0)), (1, .int x_f)] := hl
  have hf_f : x_f.toInt.toNat = f := hx_f
  have hg_f := z_lt x_f
  refine lv_iload_n hx hb d_Mo_isFile_0 rfl (lv_at hl 1 rfl) ?_
  refine lv_i2l hx hb d_Mo_isFile_1 rfl ?_
  refine lv_lconst (v := 1) hx hb d_Mo_isFile_2 (by decide) ?_
  refine lv_ldc2 (v := 12) hx hb hown (hts _ w_926) d_Mo_isFile_3 ?_
  refine rdS ⟨hx, hb, hml, hown, hts⟩ hK hP (k_Mo_in l (v := x_f.toInt) (x_v := x_f.toInt64) (u := 1) (x_u := 1) (w := 12) (x_w := 12) ((Int32.toInt_toInt64 _).trans rfl) (show Int64.toInt 1 = 1 by decide) (show Int64.toInt 12 = 12 by decide) ) w_883 m_Mo_in ⟨by decide, by decide⟩ rfl hl.1 rfl (Nat.le_of_ble_eq_true rfl) d_Mo_isFile_6 ⟨Nat.zero_le _, Nat.zero_le _⟩ ?_
  refine lb_if_eq (tgt := 25) hx hb d_Mo_isFile_9 (by decide) (fun c_1 => ?_) (fun c_1 => ?_)
  · skip
    refine lv_iconst (v := nI 0) hx hb d_Mo_isFile_25 (by decide) ?_
    exact W.zret (ty := .boolean) (v := nI 0) hx hb hr rfl (fun t9 ht hW => ⟨congrArg (fun z => Outcome.returned (some (Value.int z))) (show nI 0 = (bI ((f ≠ 0 ∧ f ≤ 12) ∧ ¬ kd f ≤ 0)) from (by first | exact bI_t ⟨by omega, by assumption⟩ | exact bI_f (fun q => absurd q.1 (by omega)) | exact bI_f (fun q => q.2 (by assumption)))), ht⟩) (fun q h => nomatch h) d_Mo_isFile_26
  · skip
    obtain rfl : x_f = nI f := z_cl hx_f (by omega)
    refine lv_aload_n hx hb d_Mo_isFile_12 rfl (lv_at hl 0 rfl) ?_
    refine va_get (D := D) (ci := 6) (v := .ref (ad 3)) (C := R_Mo) (T := T_Mo) (N := 11) hx hb hts u_Mo hown hK hP 0 rfl rfl 3 (by decide) (hts _ w_842) (fun _ h9 => h9) rfl d_Mo_isFile_13 ?_
    refine lv_iload_n hx hb d_Mo_isFile_16 rfl (lv_at hl 1 rfl) ?_
    refine ln_iald hx hb hK hP 3 2 rfl rfl (by omega) (by decide) d_Mo_isFile_17 ?_
    refine lv_if_le (tgt := 25) hx hb d_Mo_isFile_18 (by decide) (fun c_2 => ?_) (fun c_2 => ?_)
    · skip
      refine lv_iconst (v := nI 0) hx hb d_Mo_isFile_25 (by decide) ?_
      exact W.zret (ty := .boolean) (v := nI 0) hx hb hr rfl (fun t9 ht hW => ⟨congrArg (fun z => Outcome.returned (some (Value.int z))) (show nI 0 = (bI ((f ≠ 0 ∧ f ≤ 12) ∧ ¬ kd f ≤ 0)) from (by first | exact bI_t ⟨by omega, by assumption⟩ | exact bI_f (fun q => absurd q.1 (by omega)) | exact bI_f (fun q => q.2 (by assumption)))), ht⟩) (fun q h => nomatch h) d_Mo_isFile_26
    · skip
      refine lv_iconst (v := nI 1) hx hb d_Mo_isFile_21 (by decide) ?_
      refine lv_goto (tgt := 26) hx hb d_Mo_isFile_22 (by decide) ?_
      exact W.zret (ty := .boolean) (v := nI 1) hx hb hr rfl (fun t9 ht hW => ⟨congrArg (fun z => Outcome.returned (some (Value.int z))) (show nI 1 = (bI ((f ≠ 0 ∧ f ≤ 12) ∧ ¬ kd f ≤ 0)) from (by first | exact bI_t ⟨by omega, by assumption⟩ | exact bI_f (fun q => absurd q.1 (by omega)) | exact bI_f (fun q => q.2 (by assumption)))), ht⟩) (fun q h => nomatch h) d_Mo_isFile_26
theorem m_Mo_isPlain : mV R_Mo y_Mo_isPlain (Cond.code y_Mo_isPlain c_Mo_isPlain 2 (some .boolean)) 1 := ⟨⟨w_920, wp_19, w_7, w_921⟩, by decide +kernel⟩
set_option maxHeartbeats 4000000 in
set_option maxRecDepth 100000 in
theorem k_Mo_isPlain (l : Launch) {D : va_G} {ct : Nat → ClassId} {ad : Nat → Nat} {cd : Int32} {dk : Nat → Int32} {tk kd lc sz bh wt : Nat → Int32} {bl : Nat → Nat} {tg : Nat → Int32} {fs : Int32} {f : Nat} {x_f : Int32} (hx_f : x_f.toNatClampNeg = f)  : Met l y_Mo_isPlain (Cond.code y_Mo_isPlain c_Mo_isPlain 2 (some .boolean) :: wA) (rmk 3 0 0) (va_Pc [.ref (ad 0), .int x_f] (cR D (tyM ct) (wsM ct ad cd dk tk kd lc sz bh wt bl tg fs))) (QcRead (bI (((f ≠ 0 ∧ f ≤ 12) ∧ ¬ kd f ≤ 0) ∧ kd f = nI 1))) 0 0 (fun _ => False) := by
  refine Met.ofW (cc := c_Mo_isPlain) (maxL := 2) (ret := (some .boolean)) (by decide +kernel) rfl ?_
  intro p e s m args below meth c s₁ B0 hml hv
  obtain ⟨rfl, hP, hK⟩ := hv
  have hx := B0.exec
  have hb := B0.bytes
  have hr := B0.returns
  have hts := fun w (h : w ∈ wA) => atoms_spec (ws := Cond.code y_Mo_isPlain c_Mo_isPlain 2 (some .boolean) :: wA) B0.pre w (List.mem_cons_of_mem _ h)
  have hown : s.vm.findClass R_Mo = some m.cls := findClass_of_methodNamed B0.named
  have hlocks := B0.notSynchronized
  have hl := lv_entry ([.ref (ad 0), .int x_f]) (n := 2) (Nat.le_of_ble_eq_true rfl)
  rw [lg_entry_eq]
  generalize (lg_sl ([.ref (ad 0), .int x_f]) ++ List.replicate (2 - (lg_sl ([.ref (ad 0), .int x_f])).length) Slot.unset).toArray = ls at hl ⊢
  have hl : lv_has ls 2 [(0, .ref (ad 0)), (1, .int x_f)] := hl
  have hf_f : x_f.toInt.toNat = f := hx_f
  have hg_f := z_lt x_f
  refine lv_aload_n hx hb d_Mo_isPlain_0 rfl (lv_at hl 0 rfl) ?_
  refine lv_iload_n hx hb d_Mo_isPlain_1 rfl (lv_at hl 1 rfl) ?_
  refine rdV ⟨hx, hb, hml, hown, hts⟩ hK hP (k_Mo_isFile l (f := f) (x_f := x_f) hx_f ) w_922 m_Mo_isFile ⟨by decide, by decide⟩ 0 rfl rfl rfl hl.1 rfl (Nat.le_of_ble_eq_true rfl) d_Mo_isPlain_2 ⟨Nat.zero_le _, Nat.zero_le _⟩ ?_
  refine lb_if_eq (tgt := 22) hx hb d_Mo_isPlain_5 (by decide) (fun c_1 => ?_) (fun c_1 => ?_)
  · skip
    refine lv_iconst (v := nI 0) hx hb d_Mo_isPlain_22 (by decide) ?_
    exact W.zret (ty := .boolean) (v := nI 0) hx hb hr rfl (fun t9 ht hW => ⟨congrArg (fun z => Outcome.returned (some (Value.int z))) (show nI 0 = (bI (((f ≠ 0 ∧ f ≤ 12) ∧ ¬ kd f ≤ 0) ∧ kd f = nI 1)) from (by first | exact bI_t ⟨c_1, c_2⟩ | exact bI_f (fun q => c_2 q.2) | exact bI_f (fun q => c_1 q.1))), ht⟩) (fun q h => nomatch h) d_Mo_isPlain_23
  · skip
    obtain ⟨⟨f1, f2⟩, f3⟩ := id c_1
    obtain rfl : x_f = nI f := z_cl hx_f (by omega)
    refine lv_aload_n hx hb d_Mo_isPlain_8 rfl (lv_at hl 0 rfl) ?_
    refine va_get (D := D) (ci := 6) (v := .ref (ad 3)) (C := R_Mo) (T := T_Mo) (N := 11) hx hb hts u_Mo hown hK hP 0 rfl rfl 3 (by decide) (hts _ w_842) (fun _ h9 => h9) rfl d_Mo_isPlain_9 ?_
    refine lv_iload_n hx hb d_Mo_isPlain_12 rfl (lv_at hl 1 rfl) ?_
    refine ln_iald hx hb hK hP 3 2 rfl rfl (by omega) (by decide) d_Mo_isPlain_13 ?_
    refine lv_iconst (v := nI 1) hx hb d_Mo_isPlain_14 (by decide) ?_
    refine lv_icmp_ne (tgt := 22) hx hb d_Mo_isPlain_15 (by decide) (fun c_2 => ?_) (fun c_2 => ?_)
    · skip
      refine lv_iconst (v := nI 0) hx hb d_Mo_isPlain_22 (by decide) ?_
      exact W.zret (ty := .boolean) (v := nI 0) hx hb hr rfl (fun t9 ht hW => ⟨congrArg (fun z => Outcome.returned (some (Value.int z))) (show nI 0 = (bI (((f ≠ 0 ∧ f ≤ 12) ∧ ¬ kd f ≤ 0) ∧ kd f = nI 1)) from (by first | exact bI_t ⟨c_1, c_2⟩ | exact bI_f (fun q => c_2 q.2) | exact bI_f (fun q => c_1 q.1))), ht⟩) (fun q h => nomatch h) d_Mo_isPlain_23
    · skip
      refine lv_iconst (v := nI 1) hx hb d_Mo_isPlain_18 (by decide) ?_
      refine lv_goto (tgt := 23) hx hb d_Mo_isPlain_19 (by decide) ?_
      exact W.zret (ty := .boolean) (v := nI 1) hx hb hr rfl (fun t9 ht hW => ⟨congrArg (fun z => Outcome.returned (some (Value.int z))) (show nI 1 = (bI (((f ≠ 0 ∧ f ≤ 12) ∧ ¬ kd f ≤ 0) ∧ kd f = nI 1)) from (by first | exact bI_t ⟨c_1, c_2⟩ | exact bI_f (fun q => c_2 q.2) | exact bI_f (fun q => c_1 q.1))), ht⟩) (fun q h => nomatch h) d_Mo_isPlain_23
theorem m_Mo_freeOnes : mV R_Mo y_Mo_freeOnes (Cond.code y_Mo_freeOnes c_Mo_freeOnes 3 (some .int)) 0 := ⟨⟨w_904, wp_16, w_7, w_905⟩, by decide +kernel⟩
set_option maxHeartbeats 4000000 in
set_option maxRecDepth 100000 in
theorem k_Mo_freeOnes (l : Launch) {D : va_G} {ct : Nat → ClassId} {ad : Nat → Nat} {cd : Int32} {dk : Nat → Int32} {tk kd lc sz bh wt : Nat → Int32} {bl : Nat → Nat} {tg : Nat → Int32} {fs : Int32}   : Met l y_Mo_freeOnes (Cond.code y_Mo_freeOnes c_Mo_freeOnes 3 (some .int) :: wA) (rmk 1 0 0) (va_Pc [.ref (ad 0)] (cR D (tyM ct) (wsM ct ad cd dk tk kd lc sz bh wt bl tg fs))) (QcRead (nI (mf1 tk 128 0 0))) 0 0 (fun _ => False) := by
  refine Met.ofW (cc := c_Mo_freeOnes) (maxL := 3) (ret := (some .int)) (by decide +kernel) rfl ?_
  intro p e s m args below meth c s₁ B0 hml hv
  obtain ⟨rfl, hP, hK⟩ := hv
  have hx := B0.exec
  have hb := B0.bytes
  have hr := B0.returns
  have hts := fun w (h : w ∈ wA) => atoms_spec (ws := Cond.code y_Mo_freeOnes c_Mo_freeOnes 3 (some .int) :: wA) B0.pre w (List.mem_cons_of_mem _ h)
  have hown : s.vm.findClass R_Mo = some m.cls := findClass_of_methodNamed B0.named
  have hlocks := B0.notSynchronized
  have hl := lv_entry ([.ref (ad 0)]) (n := 3) (Nat.le_of_ble_eq_true rfl)
  rw [lg_entry_eq]
  generalize (lg_sl ([.ref (ad 0)]) ++ List.replicate (3 - (lg_sl ([.ref (ad 0)])).length) Slot.unset).toArray = ls at hl ⊢
  have hl : lv_has ls 3 [(0, .ref (ad 0))] := hl
  refine lv_iconst (v := nI 0) hx hb d_Mo_freeOnes_0 (by decide) ?_
  refine lv_istore_n (lv' := [(1, .int (nI 0)), (0, .ref (ad 0))]) hx hb d_Mo_freeOnes_1 rfl hl (by decide) rfl (fun ls hl => ?_)
  refine lv_iconst (v := nI 0) hx hb d_Mo_freeOnes_2 (by decide) ?_
  refine lv_istore_n (lv' := [(2, .int (nI 0)), (1, .int (nI 0)), (0, .ref (ad 0))]) hx hb d_Mo_freeOnes_3 rfl hl (by decide) rfl (fun ls hl => ?_)
  have loop4 : ∀ (n9 : Nat) (b : Nat) (n : Nat), 128 - b < n9 → b ≤ 128 → n ≤ b → mf1 tk 128 0 0 = mf1 tk (128 - b) b n → ∀ ls : Array Slot, lv_has ls 3 [(0, .ref (ad 0)), (1, .int (nI n)), (2, .int (nI b))] → W p l e (headSpec (Cond.code y_Mo_freeOnes c_Mo_freeOnes 3 (some .int) :: wA) (rmk 1 0 0)).room s m ([.ref (ad 0)] : List Value).toArray below meth c s.heap [] 0 0 (MQ below (QcRead (nI (mf1 tk 128 0 0))) ([.ref (ad 0)] : List Value).toArray s 0 0 (fun _ => False)) (F0 m 4 ls []) := by
    intro n9
    induction n9 with
    | zero => intro b n h8 h9 h11 h10 ls hl; exact absurd h8 (by omega)
    | succ n9 ih =>
      intro b n h8 h9 h11 h10 ls hl
      refine lv_iload_n hx hb d_Mo_freeOnes_4 rfl (lv_at hl 2 rfl) ?_
      refine lv_sipush (v := nI 128) hx hb d_Mo_freeOnes_5 (by decide) ?_
      refine ln_icmp_ge (tgt := 34) hx hb (by omega) (by omega) d_Mo_freeOnes_8 (by decide) (fun c_1 => ?_) (fun c_1 => ?_)
      · skip
        refine lv_iload_n hx hb d_Mo_freeOnes_34 rfl (lv_at hl 1 rfl) ?_
        exact W.iret (v := nI n) hx hb hr (fun t9 ht hW => ⟨congrArg (fun z => Outcome.returned (some (Value.int z))) (show nI n = (nI (mf1 tk 128 0 0)) from (congrArg nI (by rw [h10, show 128 - b = 0 by omega]; rfl))), ht⟩) (fun q h => nomatch h) d_Mo_freeOnes_35
      · skip
        refine lv_iload_n hx hb d_Mo_freeOnes_11 rfl (lv_at hl 1 rfl) ?_
        refine lv_aload_n hx hb d_Mo_freeOnes_12 rfl (lv_at hl 0 rfl) ?_
        refine va_get (D := D) (ci := 6) (v := .ref (ad 2)) (C := R_Mo) (T := T_Mo) (N := 11) hx hb hts u_Mo hown hK hP 0 rfl rfl 2 (by decide) (hts _ w_841) (fun _ h9 => h9) rfl d_Mo_freeOnes_13 ?_
        refine lv_iload_n hx hb d_Mo_freeOnes_16 rfl (lv_at hl 2 rfl) ?_
        refine ln_zald hx hb hK hP 2 1 rfl rfl (by omega) (by decide) d_Mo_freeOnes_17 ?_
        refine lv_if_eq (tgt := 25) hx hb d_Mo_freeOnes_18 (by decide) (fun c_2 => ?_) (fun c_2 => ?_)
        · skip
          refine lv_iconst (v := nI 1) hx hb d_Mo_freeOnes_25 (by decide) ?_
          refine ln_iadd hx hb d_Mo_freeOnes_26 ?_
          refine lv_istore_n (lv' := [(1, .int (nI (n + 1))), (0, .ref (ad 0)), (2, .int (nI b))]) hx hb d_Mo_freeOnes_27 rfl hl (by decide) rfl (fun ls hl => ?_)
          refine lv_iinc (v := nI (b + 1)) (lv' := [(2, .int (nI (b + 1))), (1, .int (nI (n + 1))), (0, .ref (ad 0))]) hx hb d_Mo_freeOnes_28 hl (k := 2) rfl (ln_inc (by decide)) (by decide) rfl (fun ls hl => ?_)
          refine lv_goto (tgt := 4) hx hb d_Mo_freeOnes_31 (by decide) ?_
          exact ih (b + 1) (n + 1) (by omega) (by omega) (by omega) (by rw [h10, show 128 - b = 128 - (b + 1) + 1 by omega, mf1]; first | (rw [if_pos (by assumption)]; done) | (rw [if_pos (by assumption)]; rfl) | (rw [if_neg (by assumption)]; done) | (rw [if_neg (by assumption)]; rfl)) ls (lv_sub hl [2, 1, 0] rfl)
        · skip
          refine lv_iconst (v := nI 0) hx hb d_Mo_freeOnes_21 (by decide) ?_
          refine lv_goto (tgt := 26) hx hb d_Mo_freeOnes_22 (by decide) ?_
          refine ln_iadd hx hb d_Mo_freeOnes_26 ?_
          refine lv_istore_n (lv' := [(1, .int (nI (n + 0))), (0, .ref (ad 0)), (2, .int (nI b))]) hx hb d_Mo_freeOnes_27 rfl hl (by decide) rfl (fun ls hl => ?_)
          refine lv_iinc (v := nI (b + 1)) (lv' := [(2, .int (nI (b + 1))), (1, .int (nI (n + 0))), (0, .ref (ad 0))]) hx hb d_Mo_freeOnes_28 hl (k := 2) rfl (ln_inc (by decide)) (by decide) rfl (fun ls hl => ?_)
          refine lv_goto (tgt := 4) hx hb d_Mo_freeOnes_31 (by decide) ?_
          exact ih (b + 1) (n + 0) (by omega) (by omega) (by omega) (by rw [h10, show 128 - b = 128 - (b + 1) + 1 by omega, mf1]; first | (rw [if_pos (by assumption)]; done) | (rw [if_pos (by assumption)]; rfl) | (rw [if_neg (by assumption)]; done) | (rw [if_neg (by assumption)]; rfl)) ls (lv_sub hl [2, 1, 0] rfl)
  exact loop4 129 0 0 (by omega) (by omega) (by omega) rfl ls (lv_sub hl [2, 1, 0] rfl)
theorem m_Mo_freeFile : mV R_Mo y_Mo_freeFile (Cond.code y_Mo_freeFile c_Mo_freeFile 2 (some .int)) 0 := ⟨⟨w_888, wp_13, w_7, w_889⟩, by decide +kernel⟩
set_option maxHeartbeats 4000000 in
set_option maxRecDepth 100000 in
theorem k_Mo_freeFile (l : Launch) {D : va_G} {ct : Nat → ClassId} {ad : Nat → Nat} {cd : Int32} {dk : Nat → Int32} {tk kd lc sz bh wt : Nat → Int32} {bl : Nat → Nat} {tg : Nat → Int32} {fs : Int32}   : Met l y_Mo_freeFile (Cond.code y_Mo_freeFile c_Mo_freeFile 2 (some .int) :: wA) (rmk 1 0 0) (va_Pc [.ref (ad 0)] (cR D (tyM ct) (wsM ct ad cd dk tk kd lc sz bh wt bl tg fs))) (QcRead (nI (mff kd 12 1))) 0 0 (fun _ => False) := by
  refine Met.ofW (cc := c_Mo_freeFile) (maxL := 2) (ret := (some .int)) (by decide +kernel) rfl ?_
  intro p e s m args below meth c s₁ B0 hml hv
  obtain ⟨rfl, hP, hK⟩ := hv
  have hx := B0.exec
  have hb := B0.bytes
  have hr := B0.returns
  have hts := fun w (h : w ∈ wA) => atoms_spec (ws := Cond.code y_Mo_freeFile c_Mo_freeFile 2 (some .int) :: wA) B0.pre w (List.mem_cons_of_mem _ h)
  have hown : s.vm.findClass R_Mo = some m.cls := findClass_of_methodNamed B0.named
  have hlocks := B0.notSynchronized
  have hl := lv_entry ([.ref (ad 0)]) (n := 2) (Nat.le_of_ble_eq_true rfl)
  rw [lg_entry_eq]
  generalize (lg_sl ([.ref (ad 0)]) ++ List.replicate (2 - (lg_sl ([.ref (ad 0)])).length) Slot.unset).toArray = ls at hl ⊢
  have hl : lv_has ls 2 [(0, .ref (ad 0))] := hl
  refine lv_iconst (v := nI 1) hx hb d_Mo_freeFile_0 (by decide) ?_
  refine lv_istore_n (lv' := [(1, .int (nI 1)), (0, .ref (ad 0))]) hx hb d_Mo_freeFile_1 rfl hl (by decide) rfl (fun ls hl => ?_)
  have loop2 : ∀ (n9 : Nat) (f : Nat), 13 - f < n9 → 1 ≤ f → f ≤ 13 → mff kd 12 1 = mff kd (13 - f) f → ∀ ls : Array Slot, lv_has ls 2 [(0, .ref (ad 0)), (1, .int (nI f))] → W p l e (headSpec (Cond.code y_Mo_freeFile c_Mo_freeFile 2 (some .int) :: wA) (rmk 1 0 0)).room s m ([.ref (ad 0)] : List Value).toArray below meth c s.heap [] 0 0 (MQ below (QcRead (nI (mff kd 12 1))) ([.ref (ad 0)] : List Value).toArray s 0 0 (fun _ => False)) (F0 m 2 ls []) := by
    intro n9
    induction n9 with
    | zero => intro f h8 h9 h11 h10 ls hl; exact absurd h8 (by omega)
    | succ n9 ih =>
      intro f h8 h9 h11 h10 ls hl
      refine lv_iload_n hx hb d_Mo_freeFile_2 rfl (lv_at hl 1 rfl) ?_
      refine lv_bipush (v := nI 12) hx hb d_Mo_freeFile_3 (by decide) ?_
      refine ln_icmp_gt (tgt := 25) hx hb (by omega) (by omega) d_Mo_freeFile_5 (by decide) (fun c_1 => ?_) (fun c_1 => ?_)
      · skip
        refine lv_iconst (v := nI 0) hx hb d_Mo_freeFile_25 (by decide) ?_
        exact W.iret (v := nI 0) hx hb hr (fun t9 ht hW => ⟨congrArg (fun z => Outcome.returned (some (Value.int z))) (show nI 0 = (nI (mff kd 12 1)) from (congrArg nI (by rw [h10]; first | (rw [show 13 - f = 0 by omega]; rfl) | (rw [show 13 - f = 13 - (f + 1) + 1 by omega, mff, if_pos (by assumption)])))), ht⟩) (fun q h => nomatch h) d_Mo_freeFile_26
      · skip
        refine lv_aload_n hx hb d_Mo_freeFile_8 rfl (lv_at hl 0 rfl) ?_
        refine va_get (D := D) (ci := 6) (v := .ref (ad 3)) (C := R_Mo) (T := T_Mo) (N := 11) hx hb hts u_Mo hown hK hP 0 rfl rfl 3 (by decide) (hts _ w_842) (fun _ h9 => h9) rfl d_Mo_freeFile_9 ?_
        refine lv_iload_n hx hb d_Mo_freeFile_12 rfl (lv_at hl 1 rfl) ?_
        refine ln_iald hx hb hK hP 3 2 rfl rfl (by omega) (by decide) d_Mo_freeFile_13 ?_
        refine lv_if_ne (tgt := 19) hx hb d_Mo_freeFile_14 (by decide) (fun c_2 => ?_) (fun c_2 => ?_)
        · skip
          refine lv_iinc (v := nI (f + 1)) (lv' := [(1, .int (nI (f + 1))), (0, .ref (ad 0))]) hx hb d_Mo_freeFile_19 hl (k := 1) rfl (ln_inc (by decide)) (by decide) rfl (fun ls hl => ?_)
          refine lv_goto (tgt := 2) hx hb d_Mo_freeFile_22 (by decide) ?_
          exact ih (f + 1) (by omega) (by omega) (by omega) (by rw [h10, show 13 - f = 13 - (f + 1) + 1 by omega, mff, if_neg (by assumption)]) ls (lv_sub hl [1, 0] rfl)
        · skip
          refine lv_iload_n hx hb d_Mo_freeFile_17 rfl (lv_at hl 1 rfl) ?_
          exact W.iret (v := nI f) hx hb hr (fun t9 ht hW => ⟨congrArg (fun z => Outcome.returned (some (Value.int z))) (show nI f = (nI (mff kd 12 1)) from (congrArg nI (by rw [h10]; first | (rw [show 13 - f = 0 by omega]; rfl) | (rw [show 13 - f = 13 - (f + 1) + 1 by omega, mff, if_pos (by assumption)])))), ht⟩) (fun q h => nomatch h) d_Mo_freeFile_18
  exact loop2 14 1 (by omega) (by omega) (by omega) rfl ls (lv_sub hl [1, 0] rfl)
theorem m_Mo_wanted : mV R_Mo y_Mo_wanted (Cond.code y_Mo_wanted c_Mo_wanted 6 (some .int)) 3 := ⟨⟨w_930, wp_21, w_7, w_931⟩, by decide +kernel⟩
set_option maxHeartbeats 4000000 in
set_option maxRecDepth 100000 in
theorem k_Mo_wanted (l : Launch) {D : va_G} {ct : Nat → ClassId} {ad : Nat → Nat} {cd : Int32} {dk : Nat → Int32} {tk kd lc sz bh wt : Nat → Int32} {bl : Nat → Nat} {tg : Nat → Int32} {fs : Int32} {f : Nat} {a : Nat} {n : Nat} (h0 : bOK bl) (h1 : f ≤ 12) (h2 : a + n ≤ 15360) (h3 : 1 ≤ n) : Met l y_Mo_wanted (Cond.code y_Mo_wanted c_Mo_wanted 6 (some .int) :: wA) (rmk 1 0 0) (va_Pc [.ref (ad 0), .int (nI f), .int (nI a), .int (nI n)] (cR D (tyM ct) (wsM ct ad cd dk tk kd lc sz bh wt bl tg fs))) (QcRead (nI (mwt bl f ((a + n - 1) / 1024 + 1 - a / 1024) (a / 1024) 0))) 0 0 (fun _ => False) := by
  refine Met.ofW (cc := c_Mo_wanted) (maxL := 6) (ret := (some .int)) (by decide +kernel) rfl ?_
  intro p e s m args below meth c s₁ B0 hml hv
  obtain ⟨rfl, hP, hK⟩ := hv
  have hx := B0.exec
  have hb := B0.bytes
  have hr := B0.returns
  have hts := fun w (h : w ∈ wA) => atoms_spec (ws := Cond.code y_Mo_wanted c_Mo_wanted 6 (some .int) :: wA) B0.pre w (List.mem_cons_of_mem _ h)
  have hown : s.vm.findClass R_Mo = some m.cls := findClass_of_methodNamed B0.named
  have hlocks := B0.notSynchronized
  have hl := lv_entry ([.ref (ad 0), .int (nI f), .int (nI a), .int (nI n)]) (n := 6) (Nat.le_of_ble_eq_true rfl)
  rw [lg_entry_eq]
  generalize (lg_sl ([.ref (ad 0), .int (nI f), .int (nI a), .int (nI n)]) ++ List.replicate (6 - (lg_sl ([.ref (ad 0), .int (nI f), .int (nI a), .int (nI n)])).length) Slot.unset).toArray = ls at hl ⊢
  have hl : lv_has ls 6 [(0, .ref (ad 0)), (1, .int (nI f)), (2, .int (nI a)), (3, .int (nI n))] := hl
  have hbl := h0
  refine lv_iconst (v := nI 0) hx hb d_Mo_wanted_0 (by decide) ?_
  refine lv_istore (lv' := [(4, .int (nI 0)), (0, .ref (ad 0)), (1, .int (nI f)), (2, .int (nI a)), (3, .int (nI n))]) hx hb d_Mo_wanted_1 hl (by decide) rfl (fun ls hl => ?_)
  refine lv_iload_n hx hb d_Mo_wanted_3 rfl (lv_at hl 3 rfl) ?_
  refine lv_sipush (v := nI 1024) hx hb d_Mo_wanted_4 (by decide) ?_
  refine ln_idiv hx hb d_Mo_wanted_7 (by omega) (by omega) (by omega) ?_
  refine lv_istore (lv' := [(5, .int (nI (a / 1024))), (4, .int (nI 0)), (0, .ref (ad 0)), (1, .int (nI f)), (2, .int (nI a)), (3, .int (nI n))]) hx hb d_Mo_wanted_8 hl (by decide) rfl (fun ls hl => ?_)
  have loop10 : ∀ (n9 : Nat) (q : Nat) (w : Nat), (a + n - 1) / 1024 + 1 - q < n9 → q ≤ (a + n - 1) / 1024 + 1 → w ≤ q → mwt bl f ((a + n - 1) / 1024 + 1 - a / 1024) (a / 1024) 0 = mwt bl f ((a + n - 1) / 1024 + 1 - q) q w → ∀ ls : Array Slot, lv_has ls 6 [(0, .ref (ad 0)), (1, .int (nI f)), (2, .int (nI a)), (3, .int (nI n)), (4, .int (nI w)), (5, .int (nI q))] → W p l e (headSpec (Cond.code y_Mo_wanted c_Mo_wanted 6 (some .int) :: wA) (rmk 1 0 0)).room s m ([.ref (ad 0), .int (nI f), .int (nI a), .int (nI n)] : List Value).toArray below meth c s.heap [] 0 0 (MQ below (QcRead (nI (mwt bl f ((a + n - 1) / 1024 + 1 - a / 1024) (a / 1024) 0))) ([.ref (ad 0), .int (nI f), .int (nI a), .int (nI n)] : List Value).toArray s 0 0 (fun _ => False)) (F0 m 10 ls []) := by
    intro n9
    induction n9 with
    | zero => intro q w h8 h9 h11 h10 ls hl; exact absurd h8 (by omega)
    | succ n9 ih =>
      intro q w h8 h9 h11 h10 ls hl
      refine lv_iload hx hb d_Mo_wanted_10 (lv_at hl 5 rfl) ?_
      refine lv_iload_n hx hb d_Mo_wanted_12 rfl (lv_at hl 2 rfl) ?_
      refine lv_iload_n hx hb d_Mo_wanted_13 rfl (lv_at hl 3 rfl) ?_
      refine ln_iadd hx hb d_Mo_wanted_14 ?_
      refine lv_iconst (v := nI 1) hx hb d_Mo_wanted_15 (by decide) ?_
      refine ln_isub hx hb d_Mo_wanted_16 (by omega) ?_
      refine lv_sipush (v := nI 1024) hx hb d_Mo_wanted_17 (by decide) ?_
      refine ln_idiv hx hb d_Mo_wanted_20 (by omega) (by omega) (by omega) ?_
      refine ln_icmp_gt (tgt := 55) hx hb (by omega) (by omega) d_Mo_wanted_21 (by decide) (fun c_1 => ?_) (fun c_1 => ?_)
      · skip
        refine lv_iload hx hb d_Mo_wanted_55 (lv_at hl 4 rfl) ?_
        exact W.iret (v := nI w) hx hb hr (fun t9 ht hW => ⟨congrArg (fun z => Outcome.returned (some (Value.int z))) (show nI w = (nI (mwt bl f ((a + n - 1) / 1024 + 1 - a / 1024) (a / 1024) 0)) from (congrArg nI (by rw [h10, show (a + n - 1) / 1024 + 1 - q = 0 by omega]; rfl))), ht⟩) (fun q h => nomatch h) d_Mo_wanted_57
      · skip
        refine lv_iload hx hb d_Mo_wanted_24 (lv_at hl 4 rfl) ?_
        refine lv_aload_n hx hb d_Mo_wanted_26 rfl (lv_at hl 0 rfl) ?_
        refine va_get (D := D) (ci := 6) (v := .ref (ad 8)) (C := R_Mo) (T := T_Mo) (N := 11) hx hb hts u_Mo hown hK hP 0 rfl rfl 8 (by decide) (hts _ w_847) (fun _ h9 => h9) rfl d_Mo_wanted_27 ?_
        refine lv_bipush (v := nI 15) hx hb d_Mo_wanted_30 (by decide) ?_
        refine lv_iload_n hx hb d_Mo_wanted_32 rfl (lv_at hl 1 rfl) ?_
        refine ln_imul hx hb d_Mo_wanted_33 ?_
        refine lv_iload hx hb d_Mo_wanted_34 (lv_at hl 5 rfl) ?_
        refine ln_iadd hx hb d_Mo_wanted_36 ?_
        refine ln_iald hx hb hK hP 8 2 rfl rfl (by omega) (by decide) d_Mo_wanted_37 ?_
        refine W.eq (g2 := F0 m 38 ls [.int (nI (bl ((15 * f) + q))), .int (nI w)]) rfl ?_
        have b_2 := hbl ((15 * f) + q)
        refine ln_if_ne (tgt := 45) hx hb (by omega) d_Mo_wanted_38 (by decide) (fun c_3 => ?_) (fun c_3 => ?_)
        · skip
          refine lv_iconst (v := nI 0) hx hb d_Mo_wanted_45 (by decide) ?_
          refine ln_iadd hx hb d_Mo_wanted_46 ?_
          refine lv_istore (lv' := [(4, .int (nI (w + 0))), (0, .ref (ad 0)), (1, .int (nI f)), (2, .int (nI a)), (3, .int (nI n)), (5, .int (nI q))]) hx hb d_Mo_wanted_47 hl (by decide) rfl (fun ls hl => ?_)
          refine lv_iinc (v := nI (q + 1)) (lv' := [(5, .int (nI (q + 1))), (4, .int (nI (w + 0))), (0, .ref (ad 0)), (1, .int (nI f)), (2, .int (nI a)), (3, .int (nI n))]) hx hb d_Mo_wanted_49 hl (k := 5) rfl (ln_inc (by decide)) (by decide) rfl (fun ls hl => ?_)
          refine lv_goto (tgt := 10) hx hb d_Mo_wanted_52 (by decide) ?_
          exact ih (q + 1) (w + 0) (by omega) (by omega) (by omega) (by rw [h10, show (a + n - 1) / 1024 + 1 - q = (a + n - 1) / 1024 + 1 - (q + 1) + 1 by omega, mwt]; first | (rw [if_pos (by omega)]; done) | (rw [if_pos (by omega)]; rfl) | (rw [if_neg (by omega)]; done) | (rw [if_neg (by omega)]; rfl)) ls (lv_sub hl [2, 3, 4, 5, 1, 0] rfl)
        · skip
          refine lv_iconst (v := nI 1) hx hb d_Mo_wanted_41 (by decide) ?_
          refine lv_goto (tgt := 46) hx hb d_Mo_wanted_42 (by decide) ?_
          refine ln_iadd hx hb d_Mo_wanted_46 ?_
          refine lv_istore (lv' := [(4, .int (nI (w + 1))), (0, .ref (ad 0)), (1, .int (nI f)), (2, .int (nI a)), (3, .int (nI n)), (5, .int (nI q))]) hx hb d_Mo_wanted_47 hl (by decide) rfl (fun ls hl => ?_)
          refine lv_iinc (v := nI (q + 1)) (lv' := [(5, .int (nI (q + 1))), (4, .int (nI (w + 1))), (0, .ref (ad 0)), (1, .int (nI f)), (2, .int (nI a)), (3, .int (nI n))]) hx hb d_Mo_wanted_49 hl (k := 5) rfl (ln_inc (by decide)) (by decide) rfl (fun ls hl => ?_)
          refine lv_goto (tgt := 10) hx hb d_Mo_wanted_52 (by decide) ?_
          exact ih (q + 1) (w + 1) (by omega) (by omega) (by omega) (by rw [h10, show (a + n - 1) / 1024 + 1 - q = (a + n - 1) / 1024 + 1 - (q + 1) + 1 by omega, mwt]; first | (rw [if_pos (by omega)]; done) | (rw [if_pos (by omega)]; rfl) | (rw [if_neg (by omega)]; done) | (rw [if_neg (by omega)]; rfl)) ls (lv_sub hl [2, 3, 4, 5, 1, 0] rfl)
  exact loop10 ((a + n - 1) / 1024 + 2) (a / 1024) 0 (by omega) (by omega) (by omega) rfl ls (lv_sub hl [2, 3, 4, 5, 1, 0] rfl)
theorem m_Mo_blocksOf : mV R_Mo y_Mo_blocksOf (Cond.code y_Mo_blocksOf c_Mo_blocksOf 4 (some .int)) 1 := ⟨⟨w_970, wp_26, w_7, w_971⟩, by decide +kernel⟩
set_option maxHeartbeats 4000000 in
set_option maxRecDepth 100000 in
theorem k_Mo_blocksOf (l : Launch) {D : va_G} {ct : Nat → ClassId} {ad : Nat → Nat} {cd : Int32} {dk : Nat → Int32} {tk kd lc sz bh wt : Nat → Int32} {bl : Nat → Nat} {tg : Nat → Int32} {fs : Int32} {f : Nat} (h0 : bOK bl) (h1 : f ≤ 12) : Met l y_Mo_blocksOf (Cond.code y_Mo_blocksOf c_Mo_blocksOf 4 (some .int) :: wA) (rmk 1 0 0) (va_Pc [.ref (ad 0), .int (nI f)] (cR D (tyM ct) (wsM ct ad cd dk tk kd lc sz bh wt bl tg fs))) (QcRead (nI (mbo bl f 15 0 0))) 0 0 (fun _ => False) := by
  refine Met.ofW (cc := c_Mo_blocksOf) (maxL := 4) (ret := (some .int)) (by decide +kernel) rfl ?_
  intro p e s m args below meth c s₁ B0 hml hv
  obtain ⟨rfl, hP, hK⟩ := hv
  have hx := B0.exec
  have hb := B0.bytes
  have hr := B0.returns
  have hts := fun w (h : w ∈ wA) => atoms_spec (ws := Cond.code y_Mo_blocksOf c_Mo_blocksOf 4 (some .int) :: wA) B0.pre w (List.mem_cons_of_mem _ h)
  have hown : s.vm.findClass R_Mo = some m.cls := findClass_of_methodNamed B0.named
  have hlocks := B0.notSynchronized
  have hl := lv_entry ([.ref (ad 0), .int (nI f)]) (n := 4) (Nat.le_of_ble_eq_true rfl)
  rw [lg_entry_eq]
  generalize (lg_sl ([.ref (ad 0), .int (nI f)]) ++ List.replicate (4 - (lg_sl ([.ref (ad 0), .int (nI f)])).length) Slot.unset).toArray = ls at hl ⊢
  have hl : lv_has ls 4 [(0, .ref (ad 0)), (1, .int (nI f))] := hl
  have hbl := h0
  refine lv_iconst (v := nI 0) hx hb d_Mo_blocksOf_0 (by decide) ?_
  refine lv_istore_n (lv' := [(2, .int (nI 0)), (0, .ref (ad 0)), (1, .int (nI f))]) hx hb d_Mo_blocksOf_1 rfl hl (by decide) rfl (fun ls hl => ?_)
  refine lv_iconst (v := nI 0) hx hb d_Mo_blocksOf_2 (by decide) ?_
  refine lv_istore_n (lv' := [(3, .int (nI 0)), (2, .int (nI 0)), (0, .ref (ad 0)), (1, .int (nI f))]) hx hb d_Mo_blocksOf_3 rfl hl (by decide) rfl (fun ls hl => ?_)
  have loop4 : ∀ (n9 : Nat) (q : Nat) (w : Nat), 15 - q < n9 → q ≤ 15 → w ≤ q → mbo bl f 15 0 0 = mbo bl f (15 - q) q w → ∀ ls : Array Slot, lv_has ls 4 [(0, .ref (ad 0)), (1, .int (nI f)), (2, .int (nI w)), (3, .int (nI q))] → W p l e (headSpec (Cond.code y_Mo_blocksOf c_Mo_blocksOf 4 (some .int) :: wA) (rmk 1 0 0)).room s m ([.ref (ad 0), .int (nI f)] : List Value).toArray below meth c s.heap [] 0 0 (MQ below (QcRead (nI (mbo bl f 15 0 0))) ([.ref (ad 0), .int (nI f)] : List Value).toArray s 0 0 (fun _ => False)) (F0 m 4 ls []) := by
    intro n9
    induction n9 with
    | zero => intro q w h8 h9 h11 h10 ls hl; exact absurd h8 (by omega)
    | succ n9 ih =>
      intro q w h8 h9 h11 h10 ls hl
      refine lv_iload_n hx hb d_Mo_blocksOf_4 rfl (lv_at hl 3 rfl) ?_
      refine lv_bipush (v := nI 15) hx hb d_Mo_blocksOf_5 (by decide) ?_
      refine ln_icmp_ge (tgt := 38) hx hb (by omega) (by omega) d_Mo_blocksOf_7 (by decide) (fun c_1 => ?_) (fun c_1 => ?_)
      · skip
        refine lv_iload_n hx hb d_Mo_blocksOf_38 rfl (lv_at hl 2 rfl) ?_
        exact W.iret (v := nI w) hx hb hr (fun t9 ht hW => ⟨congrArg (fun z => Outcome.returned (some (Value.int z))) (show nI w = (nI (mbo bl f 15 0 0)) from (congrArg nI (by rw [h10, show 15 - q = 0 by omega]; rfl))), ht⟩) (fun q h => nomatch h) d_Mo_blocksOf_39
      · skip
        refine lv_iload_n hx hb d_Mo_blocksOf_10 rfl (lv_at hl 2 rfl) ?_
        refine lv_aload_n hx hb d_Mo_blocksOf_11 rfl (lv_at hl 0 rfl) ?_
        refine va_get (D := D) (ci := 6) (v := .ref (ad 8)) (C := R_Mo) (T := T_Mo) (N := 11) hx hb hts u_Mo hown hK hP 0 rfl rfl 8 (by decide) (hts _ w_847) (fun _ h9 => h9) rfl d_Mo_blocksOf_12 ?_
        refine lv_bipush (v := nI 15) hx hb d_Mo_blocksOf_15 (by decide) ?_
        refine lv_iload_n hx hb d_Mo_blocksOf_17 rfl (lv_at hl 1 rfl) ?_
        refine ln_imul hx hb d_Mo_blocksOf_18 ?_
        refine lv_iload_n hx hb d_Mo_blocksOf_19 rfl (lv_at hl 3 rfl) ?_
        refine ln_iadd hx hb d_Mo_blocksOf_20 ?_
        refine ln_iald hx hb hK hP 8 2 rfl rfl (by omega) (by decide) d_Mo_blocksOf_21 ?_
        refine W.eq (g2 := F0 m 22 ls [.int (nI (bl ((15 * f) + q))), .int (nI w)]) rfl ?_
        have b_2 := hbl ((15 * f) + q)
        refine ln_if_le (tgt := 29) hx hb (by omega) d_Mo_blocksOf_22 (by decide) (fun c_3 => ?_) (fun c_3 => ?_)
        · skip
          refine lv_iconst (v := nI 0) hx hb d_Mo_blocksOf_29 (by decide) ?_
          refine ln_iadd hx hb d_Mo_blocksOf_30 ?_
          refine lv_istore_n (lv' := [(2, .int (nI (w + 0))), (0, .ref (ad 0)), (1, .int (nI f)), (3, .int (nI q))]) hx hb d_Mo_blocksOf_31 rfl hl (by decide) rfl (fun ls hl => ?_)
          refine lv_iinc (v := nI (q + 1)) (lv' := [(3, .int (nI (q + 1))), (2, .int (nI (w + 0))), (0, .ref (ad 0)), (1, .int (nI f))]) hx hb d_Mo_blocksOf_32 hl (k := 3) rfl (ln_inc (by decide)) (by decide) rfl (fun ls hl => ?_)
          refine lv_goto (tgt := 4) hx hb d_Mo_blocksOf_35 (by decide) ?_
          exact ih (q + 1) (w + 0) (by omega) (by omega) (by omega) (by rw [h10, show 15 - q = 15 - (q + 1) + 1 by omega, mbo]; first | (rw [if_pos (by omega)]; done) | (rw [if_pos (by omega)]; rfl) | (rw [if_neg (by omega)]; done) | (rw [if_neg (by omega)]; rfl)) ls (lv_sub hl [2, 3, 1, 0] rfl)
        · skip
          refine lv_iconst (v := nI 1) hx hb d_Mo_blocksOf_25 (by decide) ?_
          refine lv_goto (tgt := 30) hx hb d_Mo_blocksOf_26 (by decide) ?_
          refine ln_iadd hx hb d_Mo_blocksOf_30 ?_
          refine lv_istore_n (lv' := [(2, .int (nI (w + 1))), (0, .ref (ad 0)), (1, .int (nI f)), (3, .int (nI q))]) hx hb d_Mo_blocksOf_31 rfl hl (by decide) rfl (fun ls hl => ?_)
          refine lv_iinc (v := nI (q + 1)) (lv' := [(3, .int (nI (q + 1))), (2, .int (nI (w + 1))), (0, .ref (ad 0)), (1, .int (nI f))]) hx hb d_Mo_blocksOf_32 hl (k := 3) rfl (ln_inc (by decide)) (by decide) rfl (fun ls hl => ?_)
          refine lv_goto (tgt := 4) hx hb d_Mo_blocksOf_35 (by decide) ?_
          exact ih (q + 1) (w + 1) (by omega) (by omega) (by omega) (by rw [h10, show 15 - q = 15 - (q + 1) + 1 by omega, mbo]; first | (rw [if_pos (by omega)]; done) | (rw [if_pos (by omega)]; rfl) | (rw [if_neg (by omega)]; done) | (rw [if_neg (by omega)]; rfl)) ls (lv_sub hl [2, 3, 1, 0] rfl)
  exact loop4 16 0 0 (by omega) (by omega) (by omega) rfl ls (lv_sub hl [2, 3, 1, 0] rfl)
theorem m_Mo_part : mS y_Mo_part (Cond.code y_Mo_part c_Mo_part 3 (some .int)) 3 := ⟨⟨w_997, w_7, w_998⟩, by decide +kernel⟩
set_option maxHeartbeats 4000000 in
set_option maxRecDepth 100000 in
theorem k_Mo_part (l : Launch) {D : va_G} {ct : Nat → ClassId} {ad : Nat → Nat} {cd : Int32} {dk : Nat → Int32} {tk kd lc sz bh wt : Nat → Int32} {bl : Nat → Nat} {tg : Nat → Int32} {fs : Int32} {v : Int32} {z : Int} {x_z : Int32} (hx_z : x_z.toInt = z) {n : Int} {x_n : Int32} (hx_n : x_n.toInt = n)  : Met l y_Mo_part (Cond.code y_Mo_part c_Mo_part 3 (some .int) :: wA) (rmk 1 0 0) (va_Pc [.int v, .int x_z, .int x_n] (cR D (tyM ct) (wsM ct ad cd dk tk kd lc sz bh wt bl tg fs))) (QcRead (mpt v z n)) 0 0 (fun _ => False) := by
  refine Met.ofW (cc := c_Mo_part) (maxL := 3) (ret := (some .int)) (by decide +kernel) rfl ?_
  intro p e s m args below meth c s₁ B0 hml hv
  obtain ⟨rfl, hP, hK⟩ := hv
  have hx := B0.exec
  have hb := B0.bytes
  have hr := B0.returns
  have hts := fun w (h : w ∈ wA) => atoms_spec (ws := Cond.code y_Mo_part c_Mo_part 3 (some .int) :: wA) B0.pre w (List.mem_cons_of_mem _ h)
  have hown : s.vm.findClass R_Mo = some m.cls := findClass_of_methodNamed B0.named
  have hlocks := B0.notSynchronized
  have hl := lv_entry ([.int v, .int x_z, .int x_n]) (n := 3) (Nat.le_of_ble_eq_true rfl)
  rw [lg_entry_eq]
  generalize (lg_sl ([.int v, .int x_z, .int x_n]) ++ List.replicate (3 - (lg_sl ([.int v, .int x_z, .int x_n])).length) Slot.unset).toArray = ls at hl ⊢
  have hl : lv_has ls 3 [(0, .int v), (1, .int x_z), (2, .int x_n)] := hl
  have hf_z := z_lt x_z
  have hg_z := z_ge x_z
  rw [hx_z] at hf_z hg_z
  have hf_n := z_lt x_n
  have hg_n := z_ge x_n
  rw [hx_n] at hf_n hg_n
  refine lv_iload_n hx hb d_Mo_part_0 rfl (lv_at hl 1 rfl) ?_
  refine lz_if_lt (tgt := 9) hx hb hx_z d_Mo_part_1 (by decide) (fun c_1 => ?_) (fun c_1 => ?_)
  · skip
    refine lv_iconst (v := nI 0) hx hb d_Mo_part_9 (by decide) ?_
    refine lv_goto (tgt := 23) hx hb d_Mo_part_10 (by decide) ?_
    exact W.iret (v := nI 0) hx hb hr (fun t9 ht hW => ⟨congrArg (fun z => Outcome.returned (some (Value.int z))) (show nI 0 = (mpt v z n) from (by unfold mpt; first | (rw [if_pos (by omega)]; done) | (rw [if_neg (by omega)]; rfl))), ht⟩) (fun q h => nomatch h) d_Mo_part_23
  · skip
    refine lv_iload_n hx hb d_Mo_part_4 rfl (lv_at hl 1 rfl) ?_
    refine lv_iload_n hx hb d_Mo_part_5 rfl (lv_at hl 2 rfl) ?_
    refine lz_icmp_lt (tgt := 13) hx hb hx_z hx_n d_Mo_part_6 (by decide) (fun c_2 => ?_) (fun c_2 => ?_)
    · skip
      obtain ⟨k, rfl⟩ := Int.eq_ofNat_of_zero_le (show 0 ≤ z by omega)
      obtain rfl : x_z = nI k := z_i hx_z (by omega)
      refine lv_iload_n hx hb d_Mo_part_13 rfl (lv_at hl 0 rfl) ?_
      refine lv_bipush (v := nI 8) hx hb d_Mo_part_14 (by decide) ?_
      refine lv_iload_n hx hb d_Mo_part_16 rfl (lv_at hl 1 rfl) ?_
      refine ln_imul hx hb d_Mo_part_17 ?_
      refine lv_ishr hx hb d_Mo_part_18 ?_
      refine lv_sipush (v := nI 255) hx hb d_Mo_part_19 (by decide) ?_
      refine lv_iand hx hb d_Mo_part_22 ?_
      exact W.iret (v := (v >>> ((nI (8 * k)) &&& 31)) &&& (nI 255)) hx hb hr (fun t9 ht hW => ⟨congrArg (fun z => Outcome.returned (some (Value.int z))) (show (v >>> ((nI (8 * k)) &&& 31)) &&& (nI 255) = (mpt v ((k : Nat) : Int) n) from (by unfold mpt; first | (rw [if_pos (by omega)]; done) | (rw [if_neg (by omega)]; rfl))), ht⟩) (fun q h => nomatch h) d_Mo_part_23
    · skip
      refine lv_iconst (v := nI 0) hx hb d_Mo_part_9 (by decide) ?_
      refine lv_goto (tgt := 23) hx hb d_Mo_part_10 (by decide) ?_
      exact W.iret (v := nI 0) hx hb hr (fun t9 ht hW => ⟨congrArg (fun z => Outcome.returned (some (Value.int z))) (show nI 0 = (mpt v z n) from (by unfold mpt; first | (rw [if_pos (by omega)]; done) | (rw [if_neg (by omega)]; rfl))), ht⟩) (fun q h => nomatch h) d_Mo_part_23
