/-! Records: what is read -/
/-- the number of n bytes at o of file f's record; 0 of a file that is none -/
def re_f (B : Nat → Int32) (f o n : Nat) : Int32 := if f = 0 ∨ 12 < f then nI 0 else fr_num B (768 + 256 * f + o) n
theorem re_f_in {B : Nat → Int32} {f o n : Nat} (h1 : 1 ≤ f) (h2 : f ≤ 12) : re_f B f o n = fr_num B (768 + 256 * f + o) n := if_neg (by omega)
def re_kind (B : Nat → Int32) (f : Nat) : Int32 := if re_f B f 0 2 = nI 32768 then nI 1 else if re_f B f 0 2 = nI 40960 then nI 3 else nI 0
/-- how many blocks -/
def re_nb (B : Nat → Int32) (f : Nat) : Int32 := re_f B f 28 4 / nI 2
def re_blk (B : Nat → Int32) (f : Nat) (z : Int) : Int32 := if z < 0 ∨ 15 ≤ z ∨ re_nb B f = 0 then nI 0 else re_f B f (40 + 4 * z.toNat) 4
def re_abs (B : Nat → Int32) : Nat → Nat → Nat
  | 0, _ => 0
  | k + 1, f => if re_kind B f = 0 then f else re_abs B k (f + 1)
def re_cnt (B : Nat → Int32) : Nat → Nat → Nat → Nat
  | 0, _, n => n
  | k + 1, f, n => re_cnt B k (f + 1) (if re_kind B f = 0 then n else n + 1)
theorem m_Re_isNumber : mV R_Re y_Re_isNumber (Cond.code y_Re_isNumber c_Re_isNumber 2 (some .boolean)) 1 := ⟨⟨w_141, w_142, w_4, w_143⟩, by decide +kernel⟩
set_option maxHeartbeats 4000000 in
set_option maxRecDepth 100000 in
theorem k_Re_isNumber (l : Launch) {D : va_G} {ct : Nat → ClassId} {ad : Nat → Nat} {B : Nat → Int32} {g : Nat → Option Nat} {tk : Nat → Int32} {fr : Int32} {LP : List Nat} {pr : Nat → Nat → Int32} {f : Nat} {x_f : Int32} (hx_f : x_f.toNatClampNeg = f)  : Met l y_Re_isNumber (Cond.code y_Re_isNumber c_Re_isNumber 2 (some .boolean) :: wA) (rmk 1 0 0) (va_Pc [.ref (ad 2), .int x_f] (cR D (tyC ct) (wsC ct ad B g tk fr LP pr))) (QcRead (bI (f ≠ 0 ∧ f ≤ 12))) 0 0 (fun _ => False) := by
  refine Met.ofW (cc := c_Re_isNumber) (maxL := 2) (ret := (some .boolean)) (by decide +kernel) rfl ?_
  intro p e s m args below meth c s₁ B0 hml hv
  obtain ⟨rfl, hP, hK⟩ := hv
  have hx := B0.exec
  have hb := B0.bytes
  have hr := B0.returns
  have hts := fun w (h : w ∈ wA) => atoms_spec (ws := Cond.code y_Re_isNumber c_Re_isNumber 2 (some .boolean) :: wA) B0.pre w (List.mem_cons_of_mem _ h)
  have hown : s.vm.findClass R_Re = some m.cls := findClass_of_methodNamed B0.named
  have hlocks := B0.notSynchronized
  have hl := lv_entry ([.ref (ad 2), .int x_f]) (n := 2) (Nat.le_of_ble_eq_true rfl)
  rw [lg_entry_eq]
  generalize (lg_sl ([.ref (ad 2), .int x_f]) ++ List.replicate (2 - (lg_sl ([.ref (ad 2), .int x_f])).length) Slot.unset).toArray = ls at hl ⊢
  have hl : lv_has ls 2 [(0, .ref (ad 2)), (1, .int x_f)] := hl
  have hf_f : x_f.toInt.toNat = f := hx_f
  have hg_f := z_lt x_f
  refine lv_iload_n hx hb d_Re_isNumber_0 rfl (lv_at hl 1 rfl) ?_
  refine lv_iconst (v := nI 1) hx hb d_Re_isNumber_1 (by decide) ?_
  refine lz_icmp_lt (tgt := 15) hx hb rfl (nI_toInt (by omega)) d_Re_isNumber_2 (by decide) (fun c_1 => ?_) (fun c_1 => ?_)
  · skip
    refine lv_iconst (v := nI 0) hx hb d_Re_isNumber_15 (by decide) ?_
    exact W.zret (ty := .boolean) (v := nI 0) hx hb hr rfl (fun t9 ht hW => ⟨congrArg (fun z => Outcome.returned (some (Value.int z))) (show nI 0 = (bI (f ≠ 0 ∧ f ≤ 12)) from (by first | exact bI_t (by omega) | exact bI_f (by omega))), ht⟩) (fun q h => nomatch h) d_Re_isNumber_16
  · skip
    refine lv_iload_n hx hb d_Re_isNumber_5 rfl (lv_at hl 1 rfl) ?_
    refine lv_bipush (v := nI 12) hx hb d_Re_isNumber_6 (by decide) ?_
    refine lz_icmp_gt (tgt := 15) hx hb rfl (nI_toInt (by omega)) d_Re_isNumber_8 (by decide) (fun c_2 => ?_) (fun c_2 => ?_)
    · skip
      refine lv_iconst (v := nI 0) hx hb d_Re_isNumber_15 (by decide) ?_
      exact W.zret (ty := .boolean) (v := nI 0) hx hb hr rfl (fun t9 ht hW => ⟨congrArg (fun z => Outcome.returned (some (Value.int z))) (show nI 0 = (bI (f ≠ 0 ∧ f ≤ 12)) from (by first | exact bI_t (by omega) | exact bI_f (by omega))), ht⟩) (fun q h => nomatch h) d_Re_isNumber_16
    · skip
      refine lv_iconst (v := nI 1) hx hb d_Re_isNumber_11 (by decide) ?_
      refine lv_goto (tgt := 16) hx hb d_Re_isNumber_12 (by decide) ?_
      exact W.zret (ty := .boolean) (v := nI 1) hx hb hr rfl (fun t9 ht hW => ⟨congrArg (fun z => Outcome.returned (some (Value.int z))) (show nI 1 = (bI (f ≠ 0 ∧ f ≤ 12)) from (by first | exact bI_t (by omega) | exact bI_f (by omega))), ht⟩) (fun q h => nomatch h) d_Re_isNumber_16
theorem m_Re_startOf : mS y_Re_startOf (Cond.code y_Re_startOf c_Re_startOf 1 (some .int)) 1 := ⟨⟨w_145, w_4, w_146⟩, by decide +kernel⟩
set_option maxHeartbeats 4000000 in
set_option maxRecDepth 100000 in
theorem k_Re_startOf (l : Launch) {D : va_G} {ct : Nat → ClassId} {ad : Nat → Nat} {B : Nat → Int32} {g : Nat → Option Nat} {tk : Nat → Int32} {fr : Int32} {LP : List Nat} {pr : Nat → Nat → Int32} {f : Nat} (h0 : 1 ≤ f) (h1 : f ≤ 12) : Met l y_Re_startOf (Cond.code y_Re_startOf c_Re_startOf 1 (some .int) :: wA) (rmk 1 0 0) (va_Pc [.int (nI f)] (cR D (tyC ct) (wsC ct ad B g tk fr LP pr))) (QcRead (nI (768 + 256 * f))) 0 0 (fun _ => False) := by
  refine Met.ofW (cc := c_Re_startOf) (maxL := 1) (ret := (some .int)) (by decide +kernel) rfl ?_
  intro p e s m args below meth c s₁ B0 hml hv
  obtain ⟨rfl, hP, hK⟩ := hv
  have hx := B0.exec
  have hb := B0.bytes
  have hr := B0.returns
  have hts := fun w (h : w ∈ wA) => atoms_spec (ws := Cond.code y_Re_startOf c_Re_startOf 1 (some .int) :: wA) B0.pre w (List.mem_cons_of_mem _ h)
  have hown : s.vm.findClass R_Re = some m.cls := findClass_of_methodNamed B0.named
  have hlocks := B0.notSynchronized
  have hl := lv_entry ([.int (nI f)]) (n := 1) (Nat.le_of_ble_eq_true rfl)
  rw [lg_entry_eq]
  generalize (lg_sl ([.int (nI f)]) ++ List.replicate (1 - (lg_sl ([.int (nI f)])).length) Slot.unset).toArray = ls at hl ⊢
  have hl : lv_has ls 1 [(0, .int (nI f))] := hl
  refine lv_sipush (v := nI 1024) hx hb d_Re_startOf_0 (by decide) ?_
  refine lv_sipush (v := nI 256) hx hb d_Re_startOf_3 (by decide) ?_
  refine lv_iload_n hx hb d_Re_startOf_6 rfl (lv_at hl 0 rfl) ?_
  refine lv_iconst (v := nI 1) hx hb d_Re_startOf_7 (by decide) ?_
  refine ln_isub hx hb d_Re_startOf_8 (by omega) ?_
  refine ln_imul hx hb d_Re_startOf_9 ?_
  refine ln_iadd hx hb d_Re_startOf_10 ?_
  exact W.iret (v := nI (1024 + (256 * (f - 1)))) hx hb hr (fun t9 ht hW => ⟨congrArg (fun z => Outcome.returned (some (Value.int z))) (show nI (1024 + (256 * (f - 1))) = (nI (768 + 256 * f)) from (congrArg nI (by omega))), ht⟩) (fun q h => nomatch h) d_Re_startOf_11
theorem m_Re_field : mV R_Re y_Re_field (Cond.code y_Re_field c_Re_field 4 (some .int)) 3 := ⟨⟨w_138, wp_1, w_4, w_139⟩, by decide +kernel⟩
set_option maxHeartbeats 4000000 in
set_option maxRecDepth 100000 in
theorem k_Re_field (l : Launch) {D : va_G} {ct : Nat → ClassId} {ad : Nat → Nat} {B : Nat → Int32} {g : Nat → Option Nat} {tk : Nat → Int32} {fr : Int32} {LP : List Nat} {pr : Nat → Nat → Int32} {f : Nat} {x_f : Int32} (hx_f : x_f.toNatClampNeg = f) {o : Nat} {n : Nat} (h0 : o + n ≤ 256) (h1 : 0 < n) : Met l y_Re_field (Cond.code y_Re_field c_Re_field 4 (some .int) :: wA) (rmk 2 0 0) (va_Pc [.ref (ad 2), .int x_f, .int (nI o), .int (nI n)] (cR D (tyC ct) (wsC ct ad B g tk fr LP pr))) (QcRead (re_f B f o n)) 0 0 (fun _ => False) := by
  refine Met.ofW (cc := c_Re_field) (maxL := 4) (ret := (some .int)) (by decide +kernel) rfl ?_
  intro p e s m args below meth c s₁ B0 hml hv
  obtain ⟨rfl, hP, hK⟩ := hv
  have hx := B0.exec
  have hb := B0.bytes
  have hr := B0.returns
  have hts := fun w (h : w ∈ wA) => atoms_spec (ws := Cond.code y_Re_field c_Re_field 4 (some .int) :: wA) B0.pre w (List.mem_cons_of_mem _ h)
  have hown : s.vm.findClass R_Re = some m.cls := findClass_of_methodNamed B0.named
  have hlocks := B0.notSynchronized
  have hl := lv_entry ([.ref (ad 2), .int x_f, .int (nI o), .int (nI n)]) (n := 4) (Nat.le_of_ble_eq_true rfl)
  rw [lg_entry_eq]
  generalize (lg_sl ([.ref (ad 2), .int x_f, .int (nI o), .int (nI n)]) ++ List.replicate (4 - (lg_sl ([.ref (ad 2), .int x_f, .int (nI o), .int (nI n)])).length) Slot.unset).toArray = ls at hl ⊢
  have hl : lv_has ls 4 [(0, .ref (ad 2)), (1, .int x_f), (2, .int (nI o)), (3, .int (nI n))] := hl
  have hf_f : x_f.toInt.toNat = f := hx_f
  have hg_f := z_lt x_f
  refine lv_aload_n hx hb d_Re_field_0 rfl (lv_at hl 0 rfl) ?_
  refine lv_iload_n hx hb d_Re_field_1 rfl (lv_at hl 1 rfl) ?_
  refine rdV ⟨hx, hb, hml, hown, hts⟩ hK hP (k_Re_isNumber l (f := f) (x_f := x_f) hx_f ) w_140 m_Re_isNumber ⟨by decide, by decide⟩ 2 rfl rfl rfl hl.1 rfl (Nat.le_of_ble_eq_true rfl) d_Re_field_2 ⟨Nat.zero_le _, Nat.zero_le _⟩ ?_
  refine lb_if_eq (tgt := 25) hx hb d_Re_field_5 (by decide) (fun c_1 => ?_) (fun c_1 => ?_)
  · skip
    refine lv_iconst (v := nI 0) hx hb d_Re_field_25 (by decide) ?_
    exact W.iret (v := nI 0) hx hb hr (fun t9 ht hW => ⟨congrArg (fun z => Outcome.returned (some (Value.int z))) (show nI 0 = (re_f B f o n) from (by first | exact (re_f_in (by omega) (by omega)).symm | exact (if_pos (by omega)).symm)), ht⟩) (fun q h => nomatch h) d_Re_field_26
  · skip
    obtain rfl : x_f = nI f := z_cl hx_f (by omega)
    refine lv_aload_n hx hb d_Re_field_8 rfl (lv_at hl 0 rfl) ?_
    refine va_get (D := D) (ci := 3) (v := .ref (ad 3)) (C := R_Re) (T := T_Re) (N := 1) hx hb hts u_Re hown hK hP 2 rfl rfl 0 (by decide) (hts _ w_70) (fun _ h9 => h9) rfl d_Re_field_9 ?_
    refine lv_iload_n hx hb d_Re_field_12 rfl (lv_at hl 1 rfl) ?_
    refine rdS ⟨hx, hb, hml, hown, hts⟩ hK hP (k_Re_startOf l (f := f) (by omega) (by omega)) w_144 m_Re_startOf ⟨by decide, by decide⟩ rfl hl.1 rfl (Nat.le_of_ble_eq_true rfl) d_Re_field_13 ⟨Nat.zero_le _, Nat.zero_le _⟩ ?_
    refine lv_iload_n hx hb d_Re_field_16 rfl (lv_at hl 2 rfl) ?_
    refine ln_iadd hx hb d_Re_field_17 ?_
    refine lv_iload_n hx hb d_Re_field_18 rfl (lv_at hl 3 rfl) ?_
    refine rdV ⟨hx, hb, hml, hown, hts⟩ hK hP (k_Fr_number l (a := ((768 + 256 * f) + o)) (n := n) (by omega) (by omega)) w_147 m_Fr_number ⟨by decide, by decide⟩ 3 rfl rfl rfl hl.1 rfl (Nat.le_of_ble_eq_true rfl) d_Re_field_19 ⟨Nat.zero_le _, Nat.zero_le _⟩ ?_
    refine lv_goto (tgt := 26) hx hb d_Re_field_22 (by decide) ?_
    exact W.iret (v := fr_num B ((768 + 256 * f) + o) n) hx hb hr (fun t9 ht hW => ⟨congrArg (fun z => Outcome.returned (some (Value.int z))) (show fr_num B ((768 + 256 * f) + o) n = (re_f B f o n) from (by first | exact (re_f_in (by omega) (by omega)).symm | exact (if_pos (by omega)).symm)), ht⟩) (fun q h => nomatch h) d_Re_field_26
theorem m_Re_kindOf : mV R_Re y_Re_kindOf (Cond.code y_Re_kindOf c_Re_kindOf 2 (some .int)) 1 := ⟨⟨w_281, w_282, w_4, w_283⟩, by decide +kernel⟩
set_option maxHeartbeats 4000000 in
set_option maxRecDepth 100000 in
theorem k_Re_kindOf (l : Launch) {D : va_G} {ct : Nat → ClassId} {ad : Nat → Nat} {B : Nat → Int32} {g : Nat → Option Nat} {tk : Nat → Int32} {fr : Int32} {LP : List Nat} {pr : Nat → Nat → Int32} {f : Nat} {x_f : Int32} (hx_f : x_f.toNatClampNeg = f)  : Met l y_Re_kindOf (Cond.code y_Re_kindOf c_Re_kindOf 2 (some .int) :: wA) (rmk 3 0 0) (va_Pc [.ref (ad 2), .int x_f] (cR D (tyC ct) (wsC ct ad B g tk fr LP pr))) (QcRead (re_kind B f)) 0 0 (fun _ => False) := by
  refine Met.ofW (cc := c_Re_kindOf) (maxL := 2) (ret := (some .int)) (by decide +kernel) rfl ?_
  intro p e s m args below meth c s₁ B0 hml hv
  obtain ⟨rfl, hP, hK⟩ := hv
  have hx := B0.exec
  have hb := B0.bytes
  have hr := B0.returns
  have hts := fun w (h : w ∈ wA) => atoms_spec (ws := Cond.code y_Re_kindOf c_Re_kindOf 2 (some .int) :: wA) B0.pre w (List.mem_cons_of_mem _ h)
  have hown : s.vm.findClass R_Re = some m.cls := findClass_of_methodNamed B0.named
  have hlocks := B0.notSynchronized
  have hl := lv_entry ([.ref (ad 2), .int x_f]) (n := 2) (Nat.le_of_ble_eq_true rfl)
  rw [lg_entry_eq]
  generalize (lg_sl ([.ref (ad 2), .int x_f]) ++ List.replicate (2 - (lg_sl ([.ref (ad 2), .int x_f])).length) Slot.unset).toArray = ls at hl ⊢
  have hl : lv_has ls 2 [(0, .ref (ad 2)), (1, .int x_f)] := hl
  have hf_f : x_f.toInt.toNat = f := hx_f
  have hg_f := z_lt x_f
  refine lv_aload_n hx hb d_Re_kindOf_0 rfl (lv_at hl 0 rfl) ?_
  refine lv_iload_n hx hb d_Re_kindOf_1 rfl (lv_at hl 1 rfl) ?_
  refine lv_iconst (v := nI 0) hx hb d_Re_kindOf_2 (by decide) ?_
  refine lv_iconst (v := nI 2) hx hb d_Re_kindOf_3 (by decide) ?_
  refine rdV ⟨hx, hb, hml, hown, hts⟩ hK hP (k_Re_field l (f := f) (x_f := x_f) (o := 0) (n := 2) hx_f (by omega) (by omega)) w_136 m_Re_field ⟨by decide, by decide⟩ 2 rfl rfl rfl hl.1 rfl (Nat.le_of_ble_eq_true rfl) d_Re_kindOf_4 ⟨Nat.zero_le _, Nat.zero_le _⟩ ?_
  by_cases s_0 : re_f B f 0 2 = nI 32768
  · refine lv_lookup (off := 25) (tgt := 32) hx hb d_Re_kindOf_7 (by decide) (by rw [s_0]; decide) (by decide) ?_
    refine lv_iconst (v := nI 1) hx hb d_Re_kindOf_32 (by decide) ?_
    exact W.iret (v := nI 1) hx hb hr (fun t9 ht hW => ⟨congrArg (fun z => Outcome.returned (some (Value.int z))) (show nI 1 = (re_kind B f) from (by unfold re_kind; first | rw [if_pos s_0] | rw [if_neg s_0, if_pos s_1] | rw [if_neg s_0, if_neg s_1])), ht⟩) (fun q h => nomatch h) d_Re_kindOf_33
  by_cases s_1 : re_f B f 0 2 = nI 40960
  · refine lv_lookup (off := 27) (tgt := 34) hx hb d_Re_kindOf_7 (by decide) (by rw [s_1]; decide) (by decide) ?_
    refine lv_iconst (v := nI 3) hx hb d_Re_kindOf_34 (by decide) ?_
    exact W.iret (v := nI 3) hx hb hr (fun t9 ht hW => ⟨congrArg (fun z => Outcome.returned (some (Value.int z))) (show nI 3 = (re_kind B f) from (by unfold re_kind; first | rw [if_pos s_0] | rw [if_neg s_0, if_pos s_1] | rw [if_neg s_0, if_neg s_1])), ht⟩) (fun q h => nomatch h) d_Re_kindOf_35
  refine lv_lookup (off := 29) (tgt := 36) hx hb d_Re_kindOf_7 (by decide) (by show Op.lookupswitch.offset [(32768, 25), (40960, 27)] 29 _ = 29; rw [lv_osw s_0 (by decide), lv_osw s_1 (by decide)]; rfl) (by decide) ?_
  refine lv_iconst (v := nI 0) hx hb d_Re_kindOf_36 (by decide) ?_
  exact W.iret (v := nI 0) hx hb hr (fun t9 ht hW => ⟨congrArg (fun z => Outcome.returned (some (Value.int z))) (show nI 0 = (re_kind B f) from (by unfold re_kind; first | rw [if_pos s_0] | rw [if_neg s_0, if_pos s_1] | rw [if_neg s_0, if_neg s_1])), ht⟩) (fun q h => nomatch h) d_Re_kindOf_37
theorem m_Re_sizeOf : mV R_Re y_Re_sizeOf (Cond.code y_Re_sizeOf c_Re_sizeOf 2 (some .int)) 1 := ⟨⟨w_340, w_341, w_4, w_342⟩, by decide +kernel⟩
set_option maxHeartbeats 4000000 in
set_option maxRecDepth 100000 in
theorem k_Re_sizeOf (l : Launch) {D : va_G} {ct : Nat → ClassId} {ad : Nat → Nat} {B : Nat → Int32} {g : Nat → Option Nat} {tk : Nat → Int32} {fr : Int32} {LP : List Nat} {pr : Nat → Nat → Int32} {f : Nat} {x_f : Int32} (hx_f : x_f.toNatClampNeg = f)  : Met l y_Re_sizeOf (Cond.code y_Re_sizeOf c_Re_sizeOf 2 (some .int) :: wA) (rmk 3 0 0) (va_Pc [.ref (ad 2), .int x_f] (cR D (tyC ct) (wsC ct ad B g tk fr LP pr))) (QcRead (re_f B f 4 4)) 0 0 (fun _ => False) := by
  refine Met.ofW (cc := c_Re_sizeOf) (maxL := 2) (ret := (some .int)) (by decide +kernel) rfl ?_
  intro p e s m args below meth c s₁ B0 hml hv
  obtain ⟨rfl, hP, hK⟩ := hv
  have hx := B0.exec
  have hb := B0.bytes
  have hr := B0.returns
  have hts := fun w (h : w ∈ wA) => atoms_spec (ws := Cond.code y_Re_sizeOf c_Re_sizeOf 2 (some .int) :: wA) B0.pre w (List.mem_cons_of_mem _ h)
  have hown : s.vm.findClass R_Re = some m.cls := findClass_of_methodNamed B0.named
  have hlocks := B0.notSynchronized
  have hl := lv_entry ([.ref (ad 2), .int x_f]) (n := 2) (Nat.le_of_ble_eq_true rfl)
  rw [lg_entry_eq]
  generalize (lg_sl ([.ref (ad 2), .int x_f]) ++ List.replicate (2 - (lg_sl ([.ref (ad 2), .int x_f])).length) Slot.unset).toArray = ls at hl ⊢
  have hl : lv_has ls 2 [(0, .ref (ad 2)), (1, .int x_f)] := hl
  have hf_f : x_f.toInt.toNat = f := hx_f
  have hg_f := z_lt x_f
  refine lv_aload_n hx hb d_Re_sizeOf_0 rfl (lv_at hl 0 rfl) ?_
  refine lv_iload_n hx hb d_Re_sizeOf_1 rfl (lv_at hl 1 rfl) ?_
  refine lv_iconst (v := nI 4) hx hb d_Re_sizeOf_2 (by decide) ?_
  refine lv_iconst (v := nI 4) hx hb d_Re_sizeOf_3 (by decide) ?_
  refine rdV ⟨hx, hb, hml, hown, hts⟩ hK hP (k_Re_field l (f := f) (x_f := x_f) (o := 4) (n := 4) hx_f (by omega) (by omega)) w_136 m_Re_field ⟨by decide, by decide⟩ 2 rfl rfl rfl hl.1 rfl (Nat.le_of_ble_eq_true rfl) d_Re_sizeOf_4 ⟨Nat.zero_le _, Nat.zero_le _⟩ ?_
  exact W.iret (v := re_f B f 4 4) hx hb hr (fun t9 ht hW => ⟨congrArg (fun z => Outcome.returned (some (Value.int z))) (show re_f B f 4 4 = (re_f B f 4 4) from rfl), ht⟩) (fun q h => nomatch h) d_Re_sizeOf_7
theorem m_Re_behind : mV R_Re y_Re_behind (Cond.code y_Re_behind c_Re_behind 2 (some .int)) 1 := ⟨⟨w_154, w_155, w_4, w_156⟩, by decide +kernel⟩
set_option maxHeartbeats 4000000 in
set_option maxRecDepth 100000 in
theorem k_Re_behind (l : Launch) {D : va_G} {ct : Nat → ClassId} {ad : Nat → Nat} {B : Nat → Int32} {g : Nat → Option Nat} {tk : Nat → Int32} {fr : Int32} {LP : List Nat} {pr : Nat → Nat → Int32} {f : Nat} {x_f : Int32} (hx_f : x_f.toNatClampNeg = f)  : Met l y_Re_behind (Cond.code y_Re_behind c_Re_behind 2 (some .int) :: wA) (rmk 3 0 0) (va_Pc [.ref (ad 2), .int x_f] (cR D (tyC ct) (wsC ct ad B g tk fr LP pr))) (QcRead (re_f B f 20 4)) 0 0 (fun _ => False) := by
  refine Met.ofW (cc := c_Re_behind) (maxL := 2) (ret := (some .int)) (by decide +kernel) rfl ?_
  intro p e s m args below meth c s₁ B0 hml hv
  obtain ⟨rfl, hP, hK⟩ := hv
  have hx := B0.exec
  have hb := B0.bytes
  have hr := B0.returns
  have hts := fun w (h : w ∈ wA) => atoms_spec (ws := Cond.code y_Re_behind c_Re_behind 2 (some .int) :: wA) B0.pre w (List.mem_cons_of_mem _ h)
  have hown : s.vm.findClass R_Re = some m.cls := findClass_of_methodNamed B0.named
  have hlocks := B0.notSynchronized
  have hl := lv_entry ([.ref (ad 2), .int x_f]) (n := 2) (Nat.le_of_ble_eq_true rfl)
  rw [lg_entry_eq]
  generalize (lg_sl ([.ref (ad 2), .int x_f]) ++ List.replicate (2 - (lg_sl ([.ref (ad 2), .int x_f])).length) Slot.unset).toArray = ls at hl ⊢
  have hl : lv_has ls 2 [(0, .ref (ad 2)), (1, .int x_f)] := hl
  have hf_f : x_f.toInt.toNat = f := hx_f
  have hg_f := z_lt x_f
  refine lv_aload_n hx hb d_Re_behind_0 rfl (lv_at hl 0 rfl) ?_
  refine lv_iload_n hx hb d_Re_behind_1 rfl (lv_at hl 1 rfl) ?_
  refine lv_bipush (v := nI 20) hx hb d_Re_behind_2 (by decide) ?_
  refine lv_iconst (v := nI 4) hx hb d_Re_behind_4 (by decide) ?_
  refine rdV ⟨hx, hb, hml, hown, hts⟩ hK hP (k_Re_field l (f := f) (x_f := x_f) (o := 20) (n := 4) hx_f (by omega) (by omega)) w_136 m_Re_field ⟨by decide, by decide⟩ 2 rfl rfl rfl hl.1 rfl (Nat.le_of_ble_eq_true rfl) d_Re_behind_5 ⟨Nat.zero_le _, Nat.zero_le _⟩ ?_
  exact W.iret (v := re_f B f 20 4) hx hb hr (fun t9 ht hW => ⟨congrArg (fun z => Outcome.returned (some (Value.int z))) (show re_f B f 20 4 = (re_f B f 20 4) from rfl), ht⟩) (fun q h => nomatch h) d_Re_behind_8
theorem m_Re_linksOf : mV R_Re y_Re_linksOf (Cond.code y_Re_linksOf c_Re_linksOf 2 (some .int)) 1 := ⟨⟨w_773, w_774, w_4, w_775⟩, by decide +kernel⟩
set_option maxHeartbeats 4000000 in
set_option maxRecDepth 100000 in
theorem k_Re_linksOf (l : Launch) {D : va_G} {ct : Nat → ClassId} {ad : Nat → Nat} {B : Nat → Int32} {g : Nat → Option Nat} {tk : Nat → Int32} {fr : Int32} {LP : List Nat} {pr : Nat → Nat → Int32} {f : Nat} {x_f : Int32} (hx_f : x_f.toNatClampNeg = f)  : Met l y_Re_linksOf (Cond.code y_Re_linksOf c_Re_linksOf 2 (some .int) :: wA) (rmk 3 0 0) (va_Pc [.ref (ad 2), .int x_f] (cR D (tyC ct) (wsC ct ad B g tk fr LP pr))) (QcRead (re_f B f 26 2)) 0 0 (fun _ => False) := by
  refine Met.ofW (cc := c_Re_linksOf) (maxL := 2) (ret := (some .int)) (by decide +kernel) rfl ?_
  intro p e s m args below meth c s₁ B0 hml hv
  obtain ⟨rfl, hP, hK⟩ := hv
  have hx := B0.exec
  have hb := B0.bytes
  have hr := B0.returns
  have hts := fun w (h : w ∈ wA) => atoms_spec (ws := Cond.code y_Re_linksOf c_Re_linksOf 2 (some .int) :: wA) B0.pre w (List.mem_cons_of_mem _ h)
  have hown : s.vm.findClass R_Re = some m.cls := findClass_of_methodNamed B0.named
  have hlocks := B0.notSynchronized
  have hl := lv_entry ([.ref (ad 2), .int x_f]) (n := 2) (Nat.le_of_ble_eq_true rfl)
  rw [lg_entry_eq]
  generalize (lg_sl ([.ref (ad 2), .int x_f]) ++ List.replicate (2 - (lg_sl ([.ref (ad 2), .int x_f])).length) Slot.unset).toArray = ls at hl ⊢
  have hl : lv_has ls 2 [(0, .ref (ad 2)), (1, .int x_f)] := hl
  have hf_f : x_f.toInt.toNat = f := hx_f
  have hg_f := z_lt x_f
  refine lv_aload_n hx hb d_Re_linksOf_0 rfl (lv_at hl 0 rfl) ?_
  refine lv_iload_n hx hb d_Re_linksOf_1 rfl (lv_at hl 1 rfl) ?_
  refine lv_bipush (v := nI 26) hx hb d_Re_linksOf_2 (by decide) ?_
  refine lv_iconst (v := nI 2) hx hb d_Re_linksOf_4 (by decide) ?_
  refine rdV ⟨hx, hb, hml, hown, hts⟩ hK hP (k_Re_field l (f := f) (x_f := x_f) (o := 26) (n := 2) hx_f (by omega) (by omega)) w_136 m_Re_field ⟨by decide, by decide⟩ 2 rfl rfl rfl hl.1 rfl (Nat.le_of_ble_eq_true rfl) d_Re_linksOf_5 ⟨Nat.zero_le _, Nat.zero_le _⟩ ?_
  exact W.iret (v := re_f B f 26 2) hx hb hr (fun t9 ht hW => ⟨congrArg (fun z => Outcome.returned (some (Value.int z))) (show re_f B f 26 2 = (re_f B f 26 2) from rfl), ht⟩) (fun q h => nomatch h) d_Re_linksOf_8
theorem m_Re_blocksOf : mV R_Re y_Re_blocksOf (Cond.code y_Re_blocksOf c_Re_blocksOf 2 (some .int)) 1 := ⟨⟨w_133, w_134, w_4, w_135⟩, by decide +kernel⟩
set_option maxHeartbeats 4000000 in
set_option maxRecDepth 100000 in
theorem k_Re_blocksOf (l : Launch) {D : va_G} {ct : Nat → ClassId} {ad : Nat → Nat} {B : Nat → Int32} {g : Nat → Option Nat} {tk : Nat → Int32} {fr : Int32} {LP : List Nat} {pr : Nat → Nat → Int32} {f : Nat} {x_f : Int32} (hx_f : x_f.toNatClampNeg = f)  : Met l y_Re_blocksOf (Cond.code y_Re_blocksOf c_Re_blocksOf 2 (some .int) :: wA) (rmk 3 0 0) (va_Pc [.ref (ad 2), .int x_f] (cR D (tyC ct) (wsC ct ad B g tk fr LP pr))) (QcRead (re_nb B f)) 0 0 (fun _ => False) := by
  refine Met.ofW (cc := c_Re_blocksOf) (maxL := 2) (ret := (some .int)) (by decide +kernel) rfl ?_
  intro p e s m args below meth c s₁ B0 hml hv
  obtain ⟨rfl, hP, hK⟩ := hv
  have hx := B0.exec
  have hb := B0.bytes
  have hr := B0.returns
  have hts := fun w (h : w ∈ wA) => atoms_spec (ws := Cond.code y_Re_blocksOf c_Re_blocksOf 2 (some .int) :: wA) B0.pre w (List.mem_cons_of_mem _ h)
  have hown : s.vm.findClass R_Re = some m.cls := findClass_of_methodNamed B0.named
  have hlocks := B0.notSynchronized
  have hl := lv_entry ([.ref (ad 2), .int x_f]) (n := 2) (Nat.le_of_ble_eq_true rfl)
  rw [lg_entry_eq]
  generalize (lg_sl ([.ref (ad 2), .int x_f]) ++ List.replicate (2 - (lg_sl ([.ref (ad 2), .int x_f])).length) Slot.unset).toArray = ls at hl ⊢
  have hl : lv_has ls 2 [(0, .ref (ad 2)), (1, .int x_f)] := hl
  have hf_f : x_f.toInt.toNat = f := hx_f
  have hg_f := z_lt x_f
  refine lv_aload_n hx hb d_Re_blocksOf_0 rfl (lv_at hl 0 rfl) ?_
  refine lv_iload_n hx hb d_Re_blocksOf_1 rfl (lv_at hl 1 rfl) ?_
  refine lv_bipush (v := nI 28) hx hb d_Re_blocksOf_2 (by decide) ?_
  refine lv_iconst (v := nI 4) hx hb d_Re_blocksOf_4 (by decide) ?_
  refine rdV ⟨hx, hb, hml, hown, hts⟩ hK hP (k_Re_field l (f := f) (x_f := x_f) (o := 28) (n := 4) hx_f (by omega) (by omega)) w_136 m_Re_field ⟨by decide, by decide⟩ 2 rfl rfl rfl hl.1 rfl (Nat.le_of_ble_eq_true rfl) d_Re_blocksOf_5 ⟨Nat.zero_le _, Nat.zero_le _⟩ ?_
  refine lv_iconst (v := nI 2) hx hb d_Re_blocksOf_8 (by decide) ?_
  refine lv_idiv hx hb d_Re_blocksOf_9 (by decide) ?_
  exact W.iret (v := (re_f B f 28 4) / (nI 2)) hx hb hr (fun t9 ht hW => ⟨congrArg (fun z => Outcome.returned (some (Value.int z))) (show (re_f B f 28 4) / (nI 2) = (re_nb B f) from rfl), ht⟩) (fun q h => nomatch h) d_Re_blocksOf_10
theorem m_Re_hasTarget : mV R_Re y_Re_hasTarget (Cond.code y_Re_hasTarget c_Re_hasTarget 2 (some .boolean)) 1 := ⟨⟨w_336, w_337, w_4, w_338⟩, by decide +kernel⟩
set_option maxHeartbeats 4000000 in
set_option maxRecDepth 100000 in
theorem k_Re_hasTarget (l : Launch) {D : va_G} {ct : Nat → ClassId} {ad : Nat → Nat} {B : Nat → Int32} {g : Nat → Option Nat} {tk : Nat → Int32} {fr : Int32} {LP : List Nat} {pr : Nat → Nat → Int32} {f : Nat} {x_f : Int32} (hx_f : x_f.toNatClampNeg = f)  : Met l y_Re_hasTarget (Cond.code y_Re_hasTarget c_Re_hasTarget 2 (some .boolean) :: wA) (rmk 4 0 0) (va_Pc [.ref (ad 2), .int x_f] (cR D (tyC ct) (wsC ct ad B g tk fr LP pr))) (QcRead (bI (re_kind B f = nI 3 ∧ ¬ nI 59 < re_f B f 4 4))) 0 0 (fun _ => False) := by
  refine Met.ofW (cc := c_Re_hasTarget) (maxL := 2) (ret := (some .boolean)) (by decide +kernel) rfl ?_
  intro p e s m args below meth c s₁ B0 hml hv
  obtain ⟨rfl, hP, hK⟩ := hv
  have hx := B0.exec
  have hb := B0.bytes
  have hr := B0.returns
  have hts := fun w (h : w ∈ wA) => atoms_spec (ws := Cond.code y_Re_hasTarget c_Re_hasTarget 2 (some .boolean) :: wA) B0.pre w (List.mem_cons_of_mem _ h)
  have hown : s.vm.findClass R_Re = some m.cls := findClass_of_methodNamed B0.named
  have hlocks := B0.notSynchronized
  have hl := lv_entry ([.ref (ad 2), .int x_f]) (n := 2) (Nat.le_of_ble_eq_true rfl)
  rw [lg_entry_eq]
  generalize (lg_sl ([.ref (ad 2), .int x_f]) ++ List.replicate (2 - (lg_sl ([.ref (ad 2), .int x_f])).length) Slot.unset).toArray = ls at hl ⊢
  have hl : lv_has ls 2 [(0, .ref (ad 2)), (1, .int x_f)] := hl
  have hf_f : x_f.toInt.toNat = f := hx_f
  have hg_f := z_lt x_f
  refine lv_aload_n hx hb d_Re_hasTarget_0 rfl (lv_at hl 0 rfl) ?_
  refine lv_iload_n hx hb d_Re_hasTarget_1 rfl (lv_at hl 1 rfl) ?_
  refine rdV ⟨hx, hb, hml, hown, hts⟩ hK hP (k_Re_kindOf l (f := f) (x_f := x_f) hx_f ) w_280 m_Re_kindOf ⟨by decide, by decide⟩ 2 rfl rfl rfl hl.1 rfl (Nat.le_of_ble_eq_true rfl) d_Re_hasTarget_2 ⟨Nat.zero_le _, Nat.zero_le _⟩ ?_
  refine lv_iconst (v := nI 3) hx hb d_Re_hasTarget_5 (by decide) ?_
  refine lv_icmp_ne (tgt := 23) hx hb d_Re_hasTarget_6 (by decide) (fun c_1 => ?_) (fun c_1 => ?_)
  · skip
    refine lv_iconst (v := nI 0) hx hb d_Re_hasTarget_23 (by decide) ?_
    exact W.zret (ty := .boolean) (v := nI 0) hx hb hr rfl (fun t9 ht hW => ⟨congrArg (fun z => Outcome.returned (some (Value.int z))) (show nI 0 = (bI (re_kind B f = nI 3 ∧ ¬ nI 59 < re_f B f 4 4)) from (by first | exact bI_t ⟨c_1, c_2⟩ | exact bI_f (fun q => q.2 c_2) | exact bI_f (fun q => c_1 q.1))), ht⟩) (fun q h => nomatch h) d_Re_hasTarget_24
  · skip
    refine lv_aload_n hx hb d_Re_hasTarget_9 rfl (lv_at hl 0 rfl) ?_
    refine lv_iload_n hx hb d_Re_hasTarget_10 rfl (lv_at hl 1 rfl) ?_
    refine rdV ⟨hx, hb, hml, hown, hts⟩ hK hP (k_Re_sizeOf l (f := f) (x_f := x_f) hx_f ) w_339 m_Re_sizeOf ⟨by decide, by decide⟩ 2 rfl rfl rfl hl.1 rfl (Nat.le_of_ble_eq_true rfl) d_Re_hasTarget_11 ⟨Nat.zero_le _, Nat.zero_le _⟩ ?_
    refine lv_bipush (v := nI 59) hx hb d_Re_hasTarget_14 (by decide) ?_
    refine lv_icmp_gt (tgt := 23) hx hb d_Re_hasTarget_16 (by decide) (fun c_2 => ?_) (fun c_2 => ?_)
    · skip
      refine lv_iconst (v := nI 0) hx hb d_Re_hasTarget_23 (by decide) ?_
      exact W.zret (ty := .boolean) (v := nI 0) hx hb hr rfl (fun t9 ht hW => ⟨congrArg (fun z => Outcome.returned (some (Value.int z))) (show nI 0 = (bI (re_kind B f = nI 3 ∧ ¬ nI 59 < re_f B f 4 4)) from (by first | exact bI_t ⟨c_1, c_2⟩ | exact bI_f (fun q => q.2 c_2) | exact bI_f (fun q => c_1 q.1))), ht⟩) (fun q h => nomatch h) d_Re_hasTarget_24
    · skip
      refine lv_iconst (v := nI 1) hx hb d_Re_hasTarget_19 (by decide) ?_
      refine lv_goto (tgt := 24) hx hb d_Re_hasTarget_20 (by decide) ?_
      exact W.zret (ty := .boolean) (v := nI 1) hx hb hr rfl (fun t9 ht hW => ⟨congrArg (fun z => Outcome.returned (some (Value.int z))) (show nI 1 = (bI (re_kind B f = nI 3 ∧ ¬ nI 59 < re_f B f 4 4)) from (by first | exact bI_t ⟨c_1, c_2⟩ | exact bI_f (fun q => q.2 c_2) | exact bI_f (fun q => c_1 q.1))), ht⟩) (fun q h => nomatch h) d_Re_hasTarget_24
theorem m_Re_targetByte : mV R_Re y_Re_targetByte (Cond.code y_Re_targetByte c_Re_targetByte 3 (some .int)) 2 := ⟨⟨w_478, w_479, w_4, w_480⟩, by decide +kernel⟩
set_option maxHeartbeats 4000000 in
set_option maxRecDepth 100000 in
theorem k_Re_targetByte (l : Launch) {D : va_G} {ct : Nat → ClassId} {ad : Nat → Nat} {B : Nat → Int32} {g : Nat → Option Nat} {tk : Nat → Int32} {fr : Int32} {LP : List Nat} {pr : Nat → Nat → Int32} {f : Nat} {x_f : Int32} (hx_f : x_f.toNatClampNeg = f) {i : Nat} (h0 : i < 60) : Met l y_Re_targetByte (Cond.code y_Re_targetByte c_Re_targetByte 3 (some .int) :: wA) (rmk 3 0 0) (va_Pc [.ref (ad 2), .int x_f, .int (nI i)] (cR D (tyC ct) (wsC ct ad B g tk fr LP pr))) (QcRead (re_f B f (40 + i) 1)) 0 0 (fun _ => False) := by
  refine Met.ofW (cc := c_Re_targetByte) (maxL := 3) (ret := (some .int)) (by decide +kernel) rfl ?_
  intro p e s m args below meth c s₁ B0 hml hv
  obtain ⟨rfl, hP, hK⟩ := hv
  have hx := B0.exec
  have hb := B0.bytes
  have hr := B0.returns
  have hts := fun w (h : w ∈ wA) => atoms_spec (ws := Cond.code y_Re_targetByte c_Re_targetByte 3 (some .int) :: wA) B0.pre w (List.mem_cons_of_mem _ h)
  have hown : s.vm.findClass R_Re = some m.cls := findClass_of_methodNamed B0.named
  have hlocks := B0.notSynchronized
  have hl := lv_entry ([.ref (ad 2), .int x_f, .int (nI i)]) (n := 3) (Nat.le_of_ble_eq_true rfl)
  rw [lg_entry_eq]
  generalize (lg_sl ([.ref (ad 2), .int x_f, .int (nI i)]) ++ List.replicate (3 - (lg_sl ([.ref (ad 2), .int x_f, .int (nI i)])).length) Slot.unset).toArray = ls at hl ⊢
  have hl : lv_has ls 3 [(0, .ref (ad 2)), (1, .int x_f), (2, .int (nI i))] := hl
  have hf_f : x_f.toInt.toNat = f := hx_f
  have hg_f := z_lt x_f
  refine lv_aload_n hx hb d_Re_targetByte_0 rfl (lv_at hl 0 rfl) ?_
  refine lv_iload_n hx hb d_Re_targetByte_1 rfl (lv_at hl 1 rfl) ?_
  refine lv_bipush (v := nI 40) hx hb d_Re_targetByte_2 (by decide) ?_
  refine lv_iload_n hx hb d_Re_targetByte_4 rfl (lv_at hl 2 rfl) ?_
  refine ln_iadd hx hb d_Re_targetByte_5 ?_
  refine lv_iconst (v := nI 1) hx hb d_Re_targetByte_6 (by decide) ?_
  refine rdV ⟨hx, hb, hml, hown, hts⟩ hK hP (k_Re_field l (f := f) (x_f := x_f) (o := (40 + i)) (n := 1) hx_f (by omega) (by omega)) w_136 m_Re_field ⟨by decide, by decide⟩ 2 rfl rfl rfl hl.1 rfl (Nat.le_of_ble_eq_true rfl) d_Re_targetByte_7 ⟨Nat.zero_le _, Nat.zero_le _⟩ ?_
  exact W.iret (v := re_f B f (40 + i) 1) hx hb hr (fun t9 ht hW => ⟨congrArg (fun z => Outcome.returned (some (Value.int z))) (show re_f B f (40 + i) 1 = (re_f B f (40 + i) 1) from rfl), ht⟩) (fun q h => nomatch h) d_Re_targetByte_10
theorem m_Re_blockOf : mV R_Re y_Re_blockOf (Cond.code y_Re_blockOf c_Re_blockOf 3 (some .int)) 2 := ⟨⟨w_183, w_184, w_4, w_185⟩, by decide +kernel⟩
set_option maxHeartbeats 4000000 in
set_option maxRecDepth 100000 in
theorem k_Re_blockOf (l : Launch) {D : va_G} {ct : Nat → ClassId} {ad : Nat → Nat} {B : Nat → Int32} {g : Nat → Option Nat} {tk : Nat → Int32} {fr : Int32} {LP : List Nat} {pr : Nat → Nat → Int32} {f : Nat} {x_f : Int32} (hx_f : x_f.toNatClampNeg = f) {z : Int} {x_z : Int32} (hx_z : x_z.toInt = z)  : Met l y_Re_blockOf (Cond.code y_Re_blockOf c_Re_blockOf 3 (some .int) :: wA) (rmk 4 0 0) (va_Pc [.ref (ad 2), .int x_f, .int x_z] (cR D (tyC ct) (wsC ct ad B g tk fr LP pr))) (QcRead (re_blk B f z)) 0 0 (fun _ => False) := by
  refine Met.ofW (cc := c_Re_blockOf) (maxL := 3) (ret := (some .int)) (by decide +kernel) rfl ?_
  intro p e s m args below meth c s₁ B0 hml hv
  obtain ⟨rfl, hP, hK⟩ := hv
  have hx := B0.exec
  have hb := B0.bytes
  have hr := B0.returns
  have hts := fun w (h : w ∈ wA) => atoms_spec (ws := Cond.code y_Re_blockOf c_Re_blockOf 3 (some .int) :: wA) B0.pre w (List.mem_cons_of_mem _ h)
  have hown : s.vm.findClass R_Re = some m.cls := findClass_of_methodNamed B0.named
  have hlocks := B0.notSynchronized
  have hl := lv_entry ([.ref (ad 2), .int x_f, .int x_z]) (n := 3) (Nat.le_of_ble_eq_true rfl)
  rw [lg_entry_eq]
  generalize (lg_sl ([.ref (ad 2), .int x_f, .int x_z]) ++ List.replicate (3 - (lg_sl ([.ref (ad 2), .int x_f, .int x_z])).length) Slot.unset).toArray = ls at hl ⊢
  have hl : lv_has ls 3 [(0, .ref (ad 2)), (1, .int x_f), (2, .int x_z)] := hl
  have hf_f : x_f.toInt.toNat = f := hx_f
  have hg_f := z_lt x_f
  have hf_z := z_lt x_z
  have hg_z := z_ge x_z
  rw [hx_z] at hf_z hg_z
  refine lv_iload_n hx hb d_Re_blockOf_0 rfl (lv_at hl 2 rfl) ?_
  refine lz_if_lt (tgt := 18) hx hb hx_z d_Re_blockOf_1 (by decide) (fun c_1 => ?_) (fun c_1 => ?_)
  · skip
    refine lv_iconst (v := nI 0) hx hb d_Re_blockOf_18 (by decide) ?_
    exact W.iret (v := nI 0) hx hb hr (fun t9 ht hW => ⟨congrArg (fun z => Outcome.returned (some (Value.int z))) (show nI 0 = (re_blk B f z) from (by unfold re_blk; first | rw [if_pos (Or.inl (by omega))] | rw [if_pos (Or.inr (Or.inl (by omega)))] | rw [if_pos (Or.inr (Or.inr (by assumption)))])), ht⟩) (fun q h => nomatch h) d_Re_blockOf_19
  · skip
    refine lv_iload_n hx hb d_Re_blockOf_4 rfl (lv_at hl 2 rfl) ?_
    refine lv_bipush (v := nI 15) hx hb d_Re_blockOf_5 (by decide) ?_
    refine lz_icmp_ge (tgt := 18) hx hb hx_z (nI_toInt (by omega)) d_Re_blockOf_7 (by decide) (fun c_2 => ?_) (fun c_2 => ?_)
    · skip
      refine lv_iconst (v := nI 0) hx hb d_Re_blockOf_18 (by decide) ?_
      exact W.iret (v := nI 0) hx hb hr (fun t9 ht hW => ⟨congrArg (fun z => Outcome.returned (some (Value.int z))) (show nI 0 = (re_blk B f z) from (by unfold re_blk; first | rw [if_pos (Or.inl (by omega))] | rw [if_pos (Or.inr (Or.inl (by omega)))] | rw [if_pos (Or.inr (Or.inr (by assumption)))])), ht⟩) (fun q h => nomatch h) d_Re_blockOf_19
    · skip
      obtain ⟨k, rfl⟩ := Int.eq_ofNat_of_zero_le (show 0 ≤ z by omega)
      obtain rfl : x_z = nI k := z_i hx_z (by omega)
      refine lv_aload_n hx hb d_Re_blockOf_10 rfl (lv_at hl 0 rfl) ?_
      refine lv_iload_n hx hb d_Re_blockOf_11 rfl (lv_at hl 1 rfl) ?_
      refine rdV ⟨hx, hb, hml, hown, hts⟩ hK hP (k_Re_blocksOf l (f := f) (x_f := x_f) hx_f ) w_186 m_Re_blocksOf ⟨by decide, by decide⟩ 2 rfl rfl rfl hl.1 rfl (Nat.le_of_ble_eq_true rfl) d_Re_blockOf_12 ⟨Nat.zero_le _, Nat.zero_le _⟩ ?_
      refine lv_if_ne (tgt := 20) hx hb d_Re_blockOf_15 (by decide) (fun c_3 => ?_) (fun c_3 => ?_)
      · skip
        refine lv_aload_n hx hb d_Re_blockOf_20 rfl (lv_at hl 0 rfl) ?_
        refine lv_iload_n hx hb d_Re_blockOf_21 rfl (lv_at hl 1 rfl) ?_
        refine lv_bipush (v := nI 40) hx hb d_Re_blockOf_22 (by decide) ?_
        refine lv_iconst (v := nI 4) hx hb d_Re_blockOf_24 (by decide) ?_
        refine lv_iload_n hx hb d_Re_blockOf_25 rfl (lv_at hl 2 rfl) ?_
        refine ln_imul hx hb d_Re_blockOf_26 ?_
        refine ln_iadd hx hb d_Re_blockOf_27 ?_
        refine lv_iconst (v := nI 4) hx hb d_Re_blockOf_28 (by decide) ?_
        refine rdV ⟨hx, hb, hml, hown, hts⟩ hK hP (k_Re_field l (f := f) (x_f := x_f) (o := (40 + (4 * k))) (n := 4) hx_f (by omega) (by omega)) w_136 m_Re_field ⟨by decide, by decide⟩ 2 rfl rfl rfl hl.1 rfl (Nat.le_of_ble_eq_true rfl) d_Re_blockOf_29 ⟨Nat.zero_le _, Nat.zero_le _⟩ ?_
        exact W.iret (v := re_f B f (40 + (4 * k)) 4) hx hb hr (fun t9 ht hW => ⟨congrArg (fun z => Outcome.returned (some (Value.int z))) (show re_f B f (40 + (4 * k)) 4 = (re_blk B f ((k : Nat) : Int)) from (by unfold re_blk; rw [if_neg (by rintro (q | q | q); exact absurd q (by omega); exact absurd q (by omega); exact absurd q (by assumption))]; rfl)), ht⟩) (fun q h => nomatch h) d_Re_blockOf_32
      · skip
        refine lv_iconst (v := nI 0) hx hb d_Re_blockOf_18 (by decide) ?_
        exact W.iret (v := nI 0) hx hb hr (fun t9 ht hW => ⟨congrArg (fun z => Outcome.returned (some (Value.int z))) (show nI 0 = (re_blk B f ((k : Nat) : Int)) from (by unfold re_blk; first | rw [if_pos (Or.inl (by omega))] | rw [if_pos (Or.inr (Or.inl (by omega)))] | rw [if_pos (Or.inr (Or.inr (by assumption)))])), ht⟩) (fun q h => nomatch h) d_Re_blockOf_19
theorem m_Re_leastAbsent : mV R_Re y_Re_leastAbsent (Cond.code y_Re_leastAbsent c_Re_leastAbsent 2 (some .int)) 0 := ⟨⟨w_277, w_278, w_4, w_279⟩, by decide +kernel⟩
set_option maxHeartbeats 4000000 in
set_option maxRecDepth 100000 in
theorem k_Re_leastAbsent (l : Launch) {D : va_G} {ct : Nat → ClassId} {ad : Nat → Nat} {B : Nat → Int32} {g : Nat → Option Nat} {tk : Nat → Int32} {fr : Int32} {LP : List Nat} {pr : Nat → Nat → Int32}   : Met l y_Re_leastAbsent (Cond.code y_Re_leastAbsent c_Re_leastAbsent 2 (some .int) :: wA) (rmk 4 0 0) (va_Pc [.ref (ad 2)] (cR D (tyC ct) (wsC ct ad B g tk fr LP pr))) (QcRead (nI (re_abs B 12 1))) 0 0 (fun _ => False) := by
  refine Met.ofW (cc := c_Re_leastAbsent) (maxL := 2) (ret := (some .int)) (by decide +kernel) rfl ?_
  intro p e s m args below meth c s₁ B0 hml hv
  obtain ⟨rfl, hP, hK⟩ := hv
  have hx := B0.exec
  have hb := B0.bytes
  have hr := B0.returns
  have hts := fun w (h : w ∈ wA) => atoms_spec (ws := Cond.code y_Re_leastAbsent c_Re_leastAbsent 2 (some .int) :: wA) B0.pre w (List.mem_cons_of_mem _ h)
  have hown : s.vm.findClass R_Re = some m.cls := findClass_of_methodNamed B0.named
  have hlocks := B0.notSynchronized
  have hl := lv_entry ([.ref (ad 2)]) (n := 2) (Nat.le_of_ble_eq_true rfl)
  rw [lg_entry_eq]
  generalize (lg_sl ([.ref (ad 2)]) ++ List.replicate (2 - (lg_sl ([.ref (ad 2)])).length) Slot.unset).toArray = ls at hl ⊢
  have hl : lv_has ls 2 [(0, .ref (ad 2))] := hl
  refine lv_iconst (v := nI 1) hx hb d_Re_leastAbsent_0 (by decide) ?_
  refine lv_istore_n (lv' := [(1, .int (nI 1)), (0, .ref (ad 2))]) hx hb d_Re_leastAbsent_1 rfl hl (by decide) rfl (fun ls hl => ?_)
  have loop2 : ∀ (n9 : Nat) (f : Nat), 13 - f < n9 → 1 ≤ f → f ≤ 13 → re_abs B 12 1 = re_abs B (13 - f) f → ∀ ls : Array Slot, lv_has ls 2 [(0, .ref (ad 2)), (1, .int (nI f))] → W p l e (headSpec (Cond.code y_Re_leastAbsent c_Re_leastAbsent 2 (some .int) :: wA) (rmk 4 0 0)).room s m ([.ref (ad 2)] : List Value).toArray below meth c s.heap [] 0 0 (MQ below (QcRead (nI (re_abs B 12 1))) ([.ref (ad 2)] : List Value).toArray s 0 0 (fun _ => False)) (F0 m 2 ls []) := by
    intro n9
    induction n9 with
    | zero => intro f h8 h9 h10 h11 ls hl; exact absurd h8 (by omega)
    | succ n9 ih =>
      intro f h8 h9 h10 h11 ls hl
      refine lv_iload_n hx hb d_Re_leastAbsent_2 rfl (lv_at hl 1 rfl) ?_
      refine lv_bipush (v := nI 12) hx hb d_Re_leastAbsent_3 (by decide) ?_
      refine ln_icmp_gt (tgt := 24) hx hb (by omega) (by omega) d_Re_leastAbsent_5 (by decide) (fun c_1 => ?_) (fun c_1 => ?_)
      · skip
        refine lv_iconst (v := nI 0) hx hb d_Re_leastAbsent_24 (by decide) ?_
        exact W.iret (v := nI 0) hx hb hr (fun t9 ht hW => ⟨congrArg (fun z => Outcome.returned (some (Value.int z))) (show nI 0 = (nI (re_abs B 12 1)) from (congrArg nI (by rw [h11]; first | (rw [show 13 - f = 0 by omega]; rfl) | (rw [show 13 - f = 12 - f + 1 by omega, re_abs, if_pos (by assumption)])))), ht⟩) (fun q h => nomatch h) d_Re_leastAbsent_25
      · skip
        refine lv_aload_n hx hb d_Re_leastAbsent_8 rfl (lv_at hl 0 rfl) ?_
        refine lv_iload_n hx hb d_Re_leastAbsent_9 rfl (lv_at hl 1 rfl) ?_
        refine rdV ⟨hx, hb, hml, hown, hts⟩ hK hP (k_Re_kindOf l (f := f) (x_f := nI f) (nI_clamp (by omega)) ) w_280 m_Re_kindOf ⟨by decide, by decide⟩ 2 rfl rfl rfl hl.1 rfl (Nat.le_of_ble_eq_true rfl) d_Re_leastAbsent_10 ⟨Nat.zero_le _, Nat.zero_le _⟩ ?_
        refine lv_if_ne (tgt := 18) hx hb d_Re_leastAbsent_13 (by decide) (fun c_2 => ?_) (fun c_2 => ?_)
        · skip
          refine lv_iinc (v := nI (f + 1)) (lv' := [(1, .int (nI (f + 1))), (0, .ref (ad 2))]) hx hb d_Re_leastAbsent_18 hl (k := 1) rfl (ln_inc (by decide)) (by decide) rfl (fun ls hl => ?_)
          refine lv_goto (tgt := 2) hx hb d_Re_leastAbsent_21 (by decide) ?_
          exact ih (f + 1) (by omega) (by omega) (by omega) (by rw [h11, show 13 - f = 12 - f + 1 by omega, re_abs, if_neg (by assumption), show 13 - (f + 1) = 12 - f by omega]) ls (lv_sub hl [1, 0] rfl)
        · skip
          refine lv_iload_n hx hb d_Re_leastAbsent_16 rfl (lv_at hl 1 rfl) ?_
          exact W.iret (v := nI f) hx hb hr (fun t9 ht hW => ⟨congrArg (fun z => Outcome.returned (some (Value.int z))) (show nI f = (nI (re_abs B 12 1)) from (congrArg nI (by rw [h11]; first | (rw [show 13 - f = 0 by omega]; rfl) | (rw [show 13 - f = 12 - f + 1 by omega, re_abs, if_pos (by assumption)])))), ht⟩) (fun q h => nomatch h) d_Re_leastAbsent_17
  exact loop2 14 1 (by omega) (by omega) (by omega) rfl ls (lv_sub hl [1, 0] rfl)
theorem m_Re_howManyThere : mV R_Re y_Re_howManyThere (Cond.code y_Re_howManyThere c_Re_howManyThere 3 (some .int)) 0 := ⟨⟨w_814, w_815, w_4, w_816⟩, by decide +kernel⟩
set_option maxHeartbeats 4000000 in
set_option maxRecDepth 100000 in
theorem k_Re_howManyThere (l : Launch) {D : va_G} {ct : Nat → ClassId} {ad : Nat → Nat} {B : Nat → Int32} {g : Nat → Option Nat} {tk : Nat → Int32} {fr : Int32} {LP : List Nat} {pr : Nat → Nat → Int32}   : Met l y_Re_howManyThere (Cond.code y_Re_howManyThere c_Re_howManyThere 3 (some .int) :: wA) (rmk 4 0 0) (va_Pc [.ref (ad 2)] (cR D (tyC ct) (wsC ct ad B g tk fr LP pr))) (QcRead (nI (re_cnt B 12 1 0))) 0 0 (fun _ => False) := by
  refine Met.ofW (cc := c_Re_howManyThere) (maxL := 3) (ret := (some .int)) (by decide +kernel) rfl ?_
  intro p e s m args below meth c s₁ B0 hml hv
  obtain ⟨rfl, hP, hK⟩ := hv
  have hx := B0.exec
  have hb := B0.bytes
  have hr := B0.returns
  have hts := fun w (h : w ∈ wA) => atoms_spec (ws := Cond.code y_Re_howManyThere c_Re_howManyThere 3 (some .int) :: wA) B0.pre w (List.mem_cons_of_mem _ h)
  have hown : s.vm.findClass R_Re = some m.cls := findClass_of_methodNamed B0.named
  have hlocks := B0.notSynchronized
  have hl := lv_entry ([.ref (ad 2)]) (n := 3) (Nat.le_of_ble_eq_true rfl)
  rw [lg_entry_eq]
  generalize (lg_sl ([.ref (ad 2)]) ++ List.replicate (3 - (lg_sl ([.ref (ad 2)])).length) Slot.unset).toArray = ls at hl ⊢
  have hl : lv_has ls 3 [(0, .ref (ad 2))] := hl
  refine lv_iconst (v := nI 0) hx hb d_Re_howManyThere_0 (by decide) ?_
  refine lv_istore_n (lv' := [(1, .int (nI 0)), (0, .ref (ad 2))]) hx hb d_Re_howManyThere_1 rfl hl (by decide) rfl (fun ls hl => ?_)
  refine lv_iconst (v := nI 1) hx hb d_Re_howManyThere_2 (by decide) ?_
  refine lv_istore_n (lv' := [(2, .int (nI 1)), (1, .int (nI 0)), (0, .ref (ad 2))]) hx hb d_Re_howManyThere_3 rfl hl (by decide) rfl (fun ls hl => ?_)
  have loop4 : ∀ (n9 : Nat) (f : Nat) (t : Nat), 13 - f < n9 → 1 ≤ f → f ≤ 13 → t < f → re_cnt B 12 1 0 = re_cnt B (13 - f) f t → ∀ ls : Array Slot, lv_has ls 3 [(0, .ref (ad 2)), (1, .int (nI t)), (2, .int (nI f))] → W p l e (headSpec (Cond.code y_Re_howManyThere c_Re_howManyThere 3 (some .int) :: wA) (rmk 4 0 0)).room s m ([.ref (ad 2)] : List Value).toArray below meth c s.heap [] 0 0 (MQ below (QcRead (nI (re_cnt B 12 1 0))) ([.ref (ad 2)] : List Value).toArray s 0 0 (fun _ => False)) (F0 m 4 ls []) := by
    intro n9
    induction n9 with
    | zero => intro f t h8 h9 h10 h12 h11 ls hl; exact absurd h8 (by omega)
    | succ n9 ih =>
      intro f t h8 h9 h10 h12 h11 ls hl
      refine lv_iload_n hx hb d_Re_howManyThere_4 rfl (lv_at hl 2 rfl) ?_
      refine lv_bipush (v := nI 12) hx hb d_Re_howManyThere_5 (by decide) ?_
      refine ln_icmp_gt (tgt := 27) hx hb (by omega) (by omega) d_Re_howManyThere_7 (by decide) (fun c_1 => ?_) (fun c_1 => ?_)
      · skip
        refine lv_iload_n hx hb d_Re_howManyThere_27 rfl (lv_at hl 1 rfl) ?_
        exact W.iret (v := nI t) hx hb hr (fun t9 ht hW => ⟨congrArg (fun z => Outcome.returned (some (Value.int z))) (show nI t = (nI (re_cnt B 12 1 0)) from (congrArg nI (by rw [h11, show 13 - f = 0 by omega]; rfl))), ht⟩) (fun q h => nomatch h) d_Re_howManyThere_28
      · skip
        refine lv_aload_n hx hb d_Re_howManyThere_10 rfl (lv_at hl 0 rfl) ?_
        refine lv_iload_n hx hb d_Re_howManyThere_11 rfl (lv_at hl 2 rfl) ?_
        refine rdV ⟨hx, hb, hml, hown, hts⟩ hK hP (k_Re_kindOf l (f := f) (x_f := nI f) (nI_clamp (by omega)) ) w_280 m_Re_kindOf ⟨by decide, by decide⟩ 2 rfl rfl rfl hl.1 rfl (Nat.le_of_ble_eq_true rfl) d_Re_howManyThere_12 ⟨Nat.zero_le _, Nat.zero_le _⟩ ?_
        refine lv_if_eq (tgt := 21) hx hb d_Re_howManyThere_15 (by decide) (fun c_2 => ?_) (fun c_2 => ?_)
        · skip
          refine lv_iinc (v := nI (f + 1)) (lv' := [(2, .int (nI (f + 1))), (0, .ref (ad 2)), (1, .int (nI t))]) hx hb d_Re_howManyThere_21 hl (k := 2) rfl (ln_inc (by decide)) (by decide) rfl (fun ls hl => ?_)
          refine lv_goto (tgt := 4) hx hb d_Re_howManyThere_24 (by decide) ?_
          exact ih (f + 1) t (by omega) (by omega) (by omega) (by omega) (by rw [h11, show 13 - f = 12 - f + 1 by omega, re_cnt, show 13 - (f + 1) = 12 - f by omega]; first | rw [if_neg (by assumption)] | rw [if_pos (by assumption)]) ls (lv_sub hl [1, 2, 0] rfl)
        · skip
          refine lv_iinc (v := nI (t + 1)) (lv' := [(1, .int (nI (t + 1))), (0, .ref (ad 2)), (2, .int (nI f))]) hx hb d_Re_howManyThere_18 hl (k := 1) rfl (ln_inc (by decide)) (by decide) rfl (fun ls hl => ?_)
          refine lv_iinc (v := nI (f + 1)) (lv' := [(2, .int (nI (f + 1))), (1, .int (nI (t + 1))), (0, .ref (ad 2))]) hx hb d_Re_howManyThere_21 hl (k := 2) rfl (ln_inc (by decide)) (by decide) rfl (fun ls hl => ?_)
          refine lv_goto (tgt := 4) hx hb d_Re_howManyThere_24 (by decide) ?_
          exact ih (f + 1) (t + 1) (by omega) (by omega) (by omega) (by omega) (by rw [h11, show 13 - f = 12 - f + 1 by omega, re_cnt, show 13 - (f + 1) = 12 - f by omega]; first | rw [if_neg (by assumption)] | rw [if_pos (by assumption)]) ls (lv_sub hl [2, 1, 0] rfl)
  exact loop4 14 1 0 (by omega) (by omega) (by omega) (by omega) rfl ls (lv_sub hl [2, 1, 0] rfl)
