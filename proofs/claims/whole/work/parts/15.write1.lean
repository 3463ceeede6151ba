/-! Front, Records, Waiting: what is written -/
def fr_set (B : Nat → Int32) : Nat → Nat → Int32 → (Nat → Int32)
  | _, 0, _ => B
  | a, n + 1, v => fr_set (upd B a (vp_nar .byte (v.toInt8.toInt32))) (a + 1) n ((v.toUInt32 >>> ((nI 8).toUInt32 &&& Int32.toUInt32 31)).toInt32)
def re_set (B : Nat → Int32) (f o n : Nat) (v : Int32) : Nat → Int32 := if f = 0 ∨ 12 < f then B else fr_set B (768 + 256 * f + o) n v
theorem re_set_in {B : Nat → Int32} {f o n : Nat} {v : Int32} (h1 : 1 ≤ f) (h2 : f ≤ 12) : re_set B f o n v = fr_set B (768 + 256 * f + o) n v := if_neg (by omega)
def re_beg (B : Nat → Int32) (f : Nat) (k v : Int32) : Nat → Int32 := re_set (re_set B f 0 2 (if k = nI 3 then nI 40960 else nI 32768)) f 26 2 v
def re_add (B : Nat → Int32) (f k : Nat) (v : Int32) : Nat → Int32 := re_set (re_set B f (40 + 4 * k) 4 v) f 28 4 (nI 2 * (re_nb (re_set B f (40 + 4 * k) 4 v) f + nI 1))
def re_rem (B : Nat → Int32) (f k : Nat) : Nat → Int32 := re_set (re_set B f (40 + 4 * k) 4 (nI 0)) f 28 4 (nI 2 * (re_nb (re_set B f (40 + 4 * k) 4 (nI 0)) f - nI 1))
def wa_add (B : Nat → Int32) (f : Nat) (x : Int32) : Nat → Int32 := fr_set (re_set B f 20 4 (fr_num B 232 4)) 232 4 x
def wa_rem1 (B : Nat → Int32) (f : Nat) (x : Int32) : Nat → Int32 := if fr_num B 232 4 = x then fr_set B 232 4 (re_f B f 20 4) else re_set B (wa_bef B x 12 (fr_num B 232 4)).toNatClampNeg 20 4 (re_f B f 20 4)
def wa_rem (B : Nat → Int32) (f : Nat) (x : Int32) : Nat → Int32 := re_set (wa_rem1 B f x) f 20 4 (nI 0)
def db_gt (tk : Nat → Int32) (z : Int) : Nat → Int32 := if z < 4 ∨ 128 ≤ z ∨ tk z.toNat = 0 then tk else upd tk z.toNat (vp_nar .boolean (nI 0))
def db_gf (tk : Nat → Int32) (fr : Int32) (z : Int) : Int32 := if z < 4 ∨ 128 ≤ z ∨ tk z.toNat = 0 then fr else fr + nI 1
theorem m_Fr_setNumber : mV R_Fr y_Fr_setNumber (Cond.code y_Fr_setNumber c_Fr_setNumber 6 none) 3 := ⟨⟨w_162, w_163, w_2, w_164⟩, by decide +kernel⟩
set_option maxHeartbeats 4000000 in
set_option maxRecDepth 100000 in
theorem k_Fr_setNumber (l : Launch) {D : va_G} {ct : Nat → ClassId} {ad : Nat → Nat} {B : Nat → Int32} {g : Nat → Option Nat} {tk : Nat → Int32} {fr : Int32} {LP : List Nat} {pr : Nat → Nat → Int32} {A : Nat → Prop} {a : Nat} {n : Nat} {v : Int32} (h0 : a + n ≤ 4096) : Met l y_Fr_setNumber (Cond.code y_Fr_setNumber c_Fr_setNumber 6 none :: wA) (rmk 1 0 0) (va_Pc [.ref (ad 3), .int (nI a), .int (nI n), .int v] (cW A D (tyC ct) (wsC ct ad B g tk fr LP pr))) (wQ none A D (wsC ct ad (fr_set B a n v) g tk fr LP pr)) 0 0 A := by
  refine Met.ofW (cc := c_Fr_setNumber) (maxL := 6) (ret := none) (by decide +kernel) rfl ?_
  intro p e s m args below meth c s₁ B0 hml hv
  obtain ⟨rfl, hA, hP, hD, hK⟩ := hv
  have hS : va_S A s.heap s.heap [] := va_S.rf
  have hx := B0.exec
  have hb := B0.bytes
  have hr := B0.returns
  have hts := fun w (h : w ∈ wA) => atoms_spec (ws := Cond.code y_Fr_setNumber c_Fr_setNumber 6 none :: wA) B0.pre w (List.mem_cons_of_mem _ h)
  have hown : s.vm.findClass R_Fr = some m.cls := findClass_of_methodNamed B0.named
  have hlocks := B0.notSynchronized
  have hl := lv_entry ([.ref (ad 3), .int (nI a), .int (nI n), .int v]) (n := 6) (Nat.le_of_ble_eq_true rfl)
  rw [lg_entry_eq]
  generalize (lg_sl ([.ref (ad 3), .int (nI a), .int (nI n), .int v]) ++ List.replicate (6 - (lg_sl ([.ref (ad 3), .int (nI a), .int (nI n), .int v])).length) Slot.unset).toArray = ls at hl ⊢
  have hl : lv_has ls 6 [(0, .ref (ad 3)), (1, .int (nI a)), (2, .int (nI n)), (3, .int v)] := hl
  refine lv_iload_n hx hb d_Fr_setNumber_0 rfl (lv_at hl 3 rfl) ?_
  refine lv_istore (lv' := [(4, .int v), (0, .ref (ad 3)), (1, .int (nI a)), (2, .int (nI n)), (3, .int v)]) hx hb d_Fr_setNumber_1 hl (by decide) rfl (fun ls hl => ?_)
  refine lv_iload_n hx hb d_Fr_setNumber_3 rfl (lv_at hl 2 rfl) ?_
  refine lv_istore (lv' := [(5, .int (nI a)), (4, .int v), (0, .ref (ad 3)), (1, .int (nI a)), (2, .int (nI n)), (3, .int v)]) hx hb d_Fr_setNumber_4 hl (by decide) rfl (fun ls hl => ?_)
  have loop6 : ∀ (n9 : Nat) (i : Nat) (r : Int32) (b : Nat → Int32), a + n - i < n9 → a ≤ i → i ≤ a + n → fr_set B a n v = fr_set b i (a + n - i) r → ∀ (H : Heap) (locs : List Loc), va_P D vwC (wsC ct ad b g tk fr LP pr) H → va_D A (wsC ct ad b g tk fr LP pr) → va_S A s.heap H locs → ∀ ls : Array Slot, lv_has ls 6 [(0, .ref (ad 3)), (1, .int (nI a)), (2, .int (nI n)), (3, .int v), (4, .int r), (5, .int (nI i))] → W p l e (headSpec (Cond.code y_Fr_setNumber c_Fr_setNumber 6 none :: wA) (rmk 1 0 0)).room s m ([.ref (ad 3), .int (nI a), .int (nI n), .int v] : List Value).toArray below meth c H locs 0 0 (MQ below (wQ none A D (wsC ct ad (fr_set B a n v) g tk fr LP pr)) ([.ref (ad 3), .int (nI a), .int (nI n), .int v] : List Value).toArray s 0 0 A) (F0 m 6 ls []) := by
    intro n9
    induction n9 with
    | zero => intro i r b h8 h9 h11 h10 H locs hP hD hS ls hl; exact absurd h8 (by omega)
    | succ n9 ih =>
      intro i r b h8 h9 h11 h10 H locs hP hD hS ls hl
      refine lv_iload hx hb d_Fr_setNumber_6 (lv_at hl 5 rfl) ?_
      refine lv_iload_n hx hb d_Fr_setNumber_8 rfl (lv_at hl 1 rfl) ?_
      refine lv_iload_n hx hb d_Fr_setNumber_9 rfl (lv_at hl 2 rfl) ?_
      refine ln_iadd hx hb d_Fr_setNumber_10 ?_
      refine ln_icmp_ge (tgt := 52) hx hb (by omega) (by omega) d_Fr_setNumber_11 (by decide) (fun c_1 => ?_) (fun c_1 => ?_)
      · skip
        have e9 : wsC ct ad b g tk fr LP pr = wsC ct ad (fr_set B a n v) g tk fr LP pr := (by rw [h10, show a + n - i = 0 by omega]; rfl)
        rw [e9] at hP hD
        exact W.vret hx hb hr (fun t9 ht hW => ⟨rfl, by rw [ht]; exact hP, hD, hS.F ht⟩) hS.2.2 d_Fr_setNumber_52
      · skip
        refine lv_iload hx hb d_Fr_setNumber_14 (lv_at hl 5 rfl) ?_
        refine ln_if_lt (tgt := 39) hx hb (by omega) d_Fr_setNumber_16 (by decide) ?_
        refine lv_iload hx hb d_Fr_setNumber_19 (lv_at hl 5 rfl) ?_
        refine lv_aload_n hx hb d_Fr_setNumber_21 rfl (lv_at hl 0 rfl) ?_
        refine va_get (D := D) (ci := 2) (v := .ref (ad 6)) (C := R_Fr) (T := T_Fr) (N := 1) hx hb hts u_Fr hown hK hP 3 rfl rfl 0 (by decide) (hts _ w_40) (fun _ h9 => h9) rfl d_Fr_setNumber_22 ?_
        refine va_alen hx hb hK hP 6 0 rfl rfl (v := nI 4096) rfl d_Fr_setNumber_25 ?_
        refine ln_icmp_ge (tgt := 39) hx hb (by omega) (by omega) d_Fr_setNumber_26 (by decide) (fun c_3 => ?_) (fun c_3 => ?_)
        · exact absurd c_3 (by omega)
        · skip
          refine lv_aload_n hx hb d_Fr_setNumber_29 rfl (lv_at hl 0 rfl) ?_
          refine va_get (D := D) (ci := 2) (v := .ref (ad 6)) (C := R_Fr) (T := T_Fr) (N := 1) hx hb hts u_Fr hown hK hP 3 rfl rfl 0 (by decide) (hts _ w_40) (fun _ h9 => h9) rfl d_Fr_setNumber_30 ?_
          refine lv_iload hx hb d_Fr_setNumber_33 (lv_at hl 5 rfl) ?_
          refine lv_iload hx hb d_Fr_setNumber_35 (lv_at hl 4 rfl) ?_
          refine lv_i2b hx hb d_Fr_setNumber_37 rfl ?_
          refine ln_bast hx hb hK hP hD hS 6 0 rfl rfl (by omega) (by decide) d_Fr_setNumber_38 (fun H locs hP hD hS => ?_)
          have hP : va_P D vwC (wsC ct ad (upd b i (vp_nar .byte r.toInt8.toInt32)) g tk fr LP pr) H := hP
          have hD : va_D A (wsC ct ad (upd b i (vp_nar .byte r.toInt8.toInt32)) g tk fr LP pr) := hD
          refine lv_iload hx hb d_Fr_setNumber_39 (lv_at hl 4 rfl) ?_
          refine lv_bipush (v := nI 8) hx hb d_Fr_setNumber_41 (by decide) ?_
          refine lv_iushr hx hb d_Fr_setNumber_43 rfl ?_
          refine lv_istore (lv' := [(4, .int ((r.toUInt32 >>> ((nI 8).toUInt32 &&& Int32.toUInt32 31)).toInt32)), (0, .ref (ad 3)), (1, .int (nI a)), (2, .int (nI n)), (3, .int v), (5, .int (nI i))]) hx hb d_Fr_setNumber_44 hl (by decide) rfl (fun ls hl => ?_)
          refine lv_iinc (v := nI (i + 1)) (lv' := [(5, .int (nI (i + 1))), (4, .int ((r.toUInt32 >>> ((nI 8).toUInt32 &&& Int32.toUInt32 31)).toInt32)), (0, .ref (ad 3)), (1, .int (nI a)), (2, .int (nI n)), (3, .int v)]) hx hb d_Fr_setNumber_46 hl (k := 5) rfl (ln_inc (by decide)) (by decide) rfl (fun ls hl => ?_)
          refine lv_goto (tgt := 6) hx hb d_Fr_setNumber_49 (by decide) ?_
          exact ih (i + 1) ((r.toUInt32 >>> ((nI 8).toUInt32 &&& Int32.toUInt32 31)).toInt32) (upd b i (vp_nar .byte r.toInt8.toInt32)) (by omega) (by omega) (by omega) (by rw [h10, show a + n - i = a + n - (i + 1) + 1 by omega, fr_set]) _ _ hP hD hS ls (lv_sub hl [2, 3, 4, 5, 1, 0] rfl)
  exact loop6 (n + 1) a v B (by omega) (by omega) (by omega) (by rw [Nat.add_sub_cancel_left]) _ _ hP hD hS ls (lv_sub hl [2, 3, 4, 5, 1, 0] rfl)
theorem m_Re_setField : mV R_Re y_Re_setField (Cond.code y_Re_setField c_Re_setField 5 none) 4 := ⟨⟨w_175, wp_4, w_4, w_176⟩, by decide +kernel⟩
set_option maxHeartbeats 4000000 in
set_option maxRecDepth 100000 in
theorem k_Re_setField (l : Launch) {D : va_G} {ct : Nat → ClassId} {ad : Nat → Nat} {B : Nat → Int32} {g : Nat → Option Nat} {tk : Nat → Int32} {fr : Int32} {LP : List Nat} {pr : Nat → Nat → Int32} {A : Nat → Prop} {f : Nat} {x_f : Int32} (hx_f : x_f.toNatClampNeg = f) {o : Nat} {n : Nat} {v : Int32} (h0 : o + n ≤ 256) : Met l y_Re_setField (Cond.code y_Re_setField c_Re_setField 5 none :: wA) (rmk 2 0 0) (va_Pc [.ref (ad 2), .int x_f, .int (nI o), .int (nI n), .int v] (cW A D (tyC ct) (wsC ct ad B g tk fr LP pr))) (wQ none A D (wsC ct ad (re_set B f o n v) g tk fr LP pr)) 0 0 A := by
  refine Met.ofW (cc := c_Re_setField) (maxL := 5) (ret := none) (by decide +kernel) rfl ?_
  intro p e s m args below meth c s₁ B0 hml hv
  obtain ⟨rfl, hA, hP, hD, hK⟩ := hv
  have hS : va_S A s.heap s.heap [] := va_S.rf
  have hx := B0.exec
  have hb := B0.bytes
  have hr := B0.returns
  have hts := fun w (h : w ∈ wA) => atoms_spec (ws := Cond.code y_Re_setField c_Re_setField 5 none :: wA) B0.pre w (List.mem_cons_of_mem _ h)
  have hown : s.vm.findClass R_Re = some m.cls := findClass_of_methodNamed B0.named
  have hlocks := B0.notSynchronized
  have hl := lv_entry ([.ref (ad 2), .int x_f, .int (nI o), .int (nI n), .int v]) (n := 5) (Nat.le_of_ble_eq_true rfl)
  rw [lg_entry_eq]
  generalize (lg_sl ([.ref (ad 2), .int x_f, .int (nI o), .int (nI n), .int v]) ++ List.replicate (5 - (lg_sl ([.ref (ad 2), .int x_f, .int (nI o), .int (nI n), .int v])).length) Slot.unset).toArray = ls at hl ⊢
  have hl : lv_has ls 5 [(0, .ref (ad 2)), (1, .int x_f), (2, .int (nI o)), (3, .int (nI n)), (4, .int v)] := hl
  have hf_f : x_f.toInt.toNat = f := hx_f
  have hg_f := z_lt x_f
  refine lv_aload_n hx hb d_Re_setField_0 rfl (lv_at hl 0 rfl) ?_
  refine lv_iload_n hx hb d_Re_setField_1 rfl (lv_at hl 1 rfl) ?_
  refine rdV ⟨hx, hb, hml, hown, hts⟩ hK hP (k_Re_isNumber l (f := f) (x_f := x_f) hx_f ) w_140 m_Re_isNumber ⟨by decide, by decide⟩ 2 rfl rfl rfl hl.1 rfl (Nat.le_of_ble_eq_true rfl) d_Re_setField_2 ⟨Nat.zero_le _, Nat.zero_le _⟩ ?_
  refine lb_if_eq (tgt := 24) hx hb d_Re_setField_5 (by decide) (fun c_1 => ?_) (fun c_1 => ?_)
  · skip
    have e9 : wsC ct ad B g tk fr LP pr = wsC ct ad (re_set B f o n v) g tk fr LP pr := (by first | rw [re_set_in (by omega) (by omega)] | rw [re_set, if_pos (by omega)])
    rw [e9] at hP hD
    exact W.vret hx hb hr (fun t9 ht hW => ⟨rfl, by rw [ht]; exact hP, hD, hS.F ht⟩) hS.2.2 d_Re_setField_24
  · skip
    obtain rfl : x_f = nI f := z_cl hx_f (by omega)
    refine lv_aload_n hx hb d_Re_setField_8 rfl (lv_at hl 0 rfl) ?_
    refine va_get (D := D) (ci := 3) (v := .ref (ad 3)) (C := R_Re) (T := T_Re) (N := 1) hx hb hts u_Re hown hK hP 2 rfl rfl 0 (by decide) (hts _ w_70) (fun _ h9 => h9) rfl d_Re_setField_9 ?_
    refine lv_iload_n hx hb d_Re_setField_12 rfl (lv_at hl 1 rfl) ?_
    refine rdS ⟨hx, hb, hml, hown, hts⟩ hK hP (k_Re_startOf l (f := f) (by omega) (by omega)) w_144 m_Re_startOf ⟨by decide, by decide⟩ rfl hl.1 rfl (Nat.le_of_ble_eq_true rfl) d_Re_setField_13 ⟨Nat.zero_le _, Nat.zero_le _⟩ ?_
    refine lv_iload_n hx hb d_Re_setField_16 rfl (lv_at hl 2 rfl) ?_
    refine ln_iadd hx hb d_Re_setField_17 ?_
    refine lv_iload_n hx hb d_Re_setField_18 rfl (lv_at hl 3 rfl) ?_
    refine lv_iload hx hb d_Re_setField_19 (lv_at hl 4 rfl) ?_
    refine wrV ⟨hx, hb, hml, hown, hts⟩ hK hP hD hS hA (k_Fr_setNumber l (a := ((768 + 256 * f) + o)) (n := n) (v := v) (by omega)) w_177 m_Fr_setNumber ⟨by decide, by decide⟩ 3 rfl rfl rfl hl.1 rfl (Nat.le_of_ble_eq_true rfl) d_Re_setField_21 ⟨Nat.zero_le _, Nat.zero_le _⟩ (fun H locs hP hD hS => ?_)
    have hP : va_P D vwC (wsC ct ad (fr_set B ((768 + 256 * f) + o) n v) g tk fr LP pr) H := hP
    have hD : va_D A (wsC ct ad (fr_set B ((768 + 256 * f) + o) n v) g tk fr LP pr) := hD
    refine W.eq (g2 := F0 m 24 ls []) rfl ?_
    have e9 : wsC ct ad (fr_set B ((768 + 256 * f) + o) n v) g tk fr LP pr = wsC ct ad (re_set B f o n v) g tk fr LP pr := (by first | rw [re_set_in (by omega) (by omega)] | rw [re_set, if_pos (by omega)])
    rw [e9] at hP hD
    exact W.vret hx hb hr (fun t9 ht hW => ⟨rfl, by rw [ht]; exact hP, hD, hS.F ht⟩) hS.2.2 d_Re_setField_24
theorem m_Re_setSize : mV R_Re y_Re_setSize (Cond.code y_Re_setSize c_Re_setSize 3 none) 2 := ⟨⟨w_328, w_329, w_4, w_330⟩, by decide +kernel⟩
set_option maxHeartbeats 4000000 in
set_option maxRecDepth 100000 in
theorem k_Re_setSize (l : Launch) {D : va_G} {ct : Nat → ClassId} {ad : Nat → Nat} {B : Nat → Int32} {g : Nat → Option Nat} {tk : Nat → Int32} {fr : Int32} {LP : List Nat} {pr : Nat → Nat → Int32} {A : Nat → Prop} {f : Nat} {x_f : Int32} (hx_f : x_f.toNatClampNeg = f) {v : Int32}  : Met l y_Re_setSize (Cond.code y_Re_setSize c_Re_setSize 3 none :: wA) (rmk 3 0 0) (va_Pc [.ref (ad 2), .int x_f, .int v] (cW A D (tyC ct) (wsC ct ad B g tk fr LP pr))) (wQ none A D (wsC ct ad (re_set B f 4 4 v) g tk fr LP pr)) 0 0 A := by
  refine Met.ofW (cc := c_Re_setSize) (maxL := 3) (ret := none) (by decide +kernel) rfl ?_
  intro p e s m args below meth c s₁ B0 hml hv
  obtain ⟨rfl, hA, hP, hD, hK⟩ := hv
  have hS : va_S A s.heap s.heap [] := va_S.rf
  have hx := B0.exec
  have hb := B0.bytes
  have hr := B0.returns
  have hts := fun w (h : w ∈ wA) => atoms_spec (ws := Cond.code y_Re_setSize c_Re_setSize 3 none :: wA) B0.pre w (List.mem_cons_of_mem _ h)
  have hown : s.vm.findClass R_Re = some m.cls := findClass_of_methodNamed B0.named
  have hlocks := B0.notSynchronized
  have hl := lv_entry ([.ref (ad 2), .int x_f, .int v]) (n := 3) (Nat.le_of_ble_eq_true rfl)
  rw [lg_entry_eq]
  generalize (lg_sl ([.ref (ad 2), .int x_f, .int v]) ++ List.replicate (3 - (lg_sl ([.ref (ad 2), .int x_f, .int v])).length) Slot.unset).toArray = ls at hl ⊢
  have hl : lv_has ls 3 [(0, .ref (ad 2)), (1, .int x_f), (2, .int v)] := hl
  have hf_f : x_f.toInt.toNat = f := hx_f
  have hg_f := z_lt x_f
  refine lv_aload_n hx hb d_Re_setSize_0 rfl (lv_at hl 0 rfl) ?_
  refine lv_iload_n hx hb d_Re_setSize_1 rfl (lv_at hl 1 rfl) ?_
  refine lv_iconst (v := nI 4) hx hb d_Re_setSize_2 (by decide) ?_
  refine lv_iconst (v := nI 4) hx hb d_Re_setSize_3 (by decide) ?_
  refine lv_iload_n hx hb d_Re_setSize_4 rfl (lv_at hl 2 rfl) ?_
  refine wrV ⟨hx, hb, hml, hown, hts⟩ hK hP hD hS hA (k_Re_setField l (f := f) (x_f := x_f) (o := 4) (n := 4) (v := v) hx_f (by omega)) w_173 m_Re_setField ⟨by decide, by decide⟩ 2 rfl rfl rfl hl.1 rfl (Nat.le_of_ble_eq_true rfl) d_Re_setSize_5 ⟨Nat.zero_le _, Nat.zero_le _⟩ (fun H locs hP hD hS => ?_)
  have hP : va_P D vwC (wsC ct ad (re_set B f 4 4 v) g tk fr LP pr) H := hP
  have hD : va_D A (wsC ct ad (re_set B f 4 4 v) g tk fr LP pr) := hD
  refine W.eq (g2 := F0 m 8 ls []) rfl ?_
  have e9 : wsC ct ad (re_set B f 4 4 v) g tk fr LP pr = wsC ct ad (re_set B f 4 4 v) g tk fr LP pr := rfl
  rw [e9] at hP hD
  exact W.vret hx hb hr (fun t9 ht hW => ⟨rfl, by rw [ht]; exact hP, hD, hS.F ht⟩) hS.2.2 d_Re_setSize_8
theorem m_Re_setBehind : mV R_Re y_Re_setBehind (Cond.code y_Re_setBehind c_Re_setBehind 3 none) 2 := ⟨⟨w_170, w_171, w_4, w_172⟩, by decide +kernel⟩
set_option maxHeartbeats 4000000 in
set_option maxRecDepth 100000 in
theorem k_Re_setBehind (l : Launch) {D : va_G} {ct : Nat → ClassId} {ad : Nat → Nat} {B : Nat → Int32} {g : Nat → Option Nat} {tk : Nat → Int32} {fr : Int32} {LP : List Nat} {pr : Nat → Nat → Int32} {A : Nat → Prop} {f : Nat} {x_f : Int32} (hx_f : x_f.toNatClampNeg = f) {v : Int32}  : Met l y_Re_setBehind (Cond.code y_Re_setBehind c_Re_setBehind 3 none :: wA) (rmk 3 0 0) (va_Pc [.ref (ad 2), .int x_f, .int v] (cW A D (tyC ct) (wsC ct ad B g tk fr LP pr))) (wQ none A D (wsC ct ad (re_set B f 20 4 v) g tk fr LP pr)) 0 0 A := by
  refine Met.ofW (cc := c_Re_setBehind) (maxL := 3) (ret := none) (by decide +kernel) rfl ?_
  intro p e s m args below meth c s₁ B0 hml hv
  obtain ⟨rfl, hA, hP, hD, hK⟩ := hv
  have hS : va_S A s.heap s.heap [] := va_S.rf
  have hx := B0.exec
  have hb := B0.bytes
  have hr := B0.returns
  have hts := fun w (h : w ∈ wA) => atoms_spec (ws := Cond.code y_Re_setBehind c_Re_setBehind 3 none :: wA) B0.pre w (List.mem_cons_of_mem _ h)
  have hown : s.vm.findClass R_Re = some m.cls := findClass_of_methodNamed B0.named
  have hlocks := B0.notSynchronized
  have hl := lv_entry ([.ref (ad 2), .int x_f, .int v]) (n := 3) (Nat.le_of_ble_eq_true rfl)
  rw [lg_entry_eq]
  generalize (lg_sl ([.ref (ad 2), .int x_f, .int v]) ++ List.replicate (3 - (lg_sl ([.ref (ad 2), .int x_f, .int v])).length) Slot.unset).toArray = ls at hl ⊢
  have hl : lv_has ls 3 [(0, .ref (ad 2)), (1, .int x_f), (2, .int v)] := hl
  have hf_f : x_f.toInt.toNat = f := hx_f
  have hg_f := z_lt x_f
  refine lv_aload_n hx hb d_Re_setBehind_0 rfl (lv_at hl 0 rfl) ?_
  refine lv_iload_n hx hb d_Re_setBehind_1 rfl (lv_at hl 1 rfl) ?_
  refine lv_bipush (v := nI 20) hx hb d_Re_setBehind_2 (by decide) ?_
  refine lv_iconst (v := nI 4) hx hb d_Re_setBehind_4 (by decide) ?_
  refine lv_iload_n hx hb d_Re_setBehind_5 rfl (lv_at hl 2 rfl) ?_
  refine wrV ⟨hx, hb, hml, hown, hts⟩ hK hP hD hS hA (k_Re_setField l (f := f) (x_f := x_f) (o := 20) (n := 4) (v := v) hx_f (by omega)) w_173 m_Re_setField ⟨by decide, by decide⟩ 2 rfl rfl rfl hl.1 rfl (Nat.le_of_ble_eq_true rfl) d_Re_setBehind_6 ⟨Nat.zero_le _, Nat.zero_le _⟩ (fun H locs hP hD hS => ?_)
  have hP : va_P D vwC (wsC ct ad (re_set B f 20 4 v) g tk fr LP pr) H := hP
  have hD : va_D A (wsC ct ad (re_set B f 20 4 v) g tk fr LP pr) := hD
  refine W.eq (g2 := F0 m 9 ls []) rfl ?_
  have e9 : wsC ct ad (re_set B f 20 4 v) g tk fr LP pr = wsC ct ad (re_set B f 20 4 v) g tk fr LP pr := rfl
  rw [e9] at hP hD
  exact W.vret hx hb hr (fun t9 ht hW => ⟨rfl, by rw [ht]; exact hP, hD, hS.F ht⟩) hS.2.2 d_Re_setBehind_9
theorem m_Re_setLinks : mV R_Re y_Re_setLinks (Cond.code y_Re_setLinks c_Re_setLinks 3 none) 2 := ⟨⟨w_307, w_308, w_4, w_309⟩, by decide +kernel⟩
set_option maxHeartbeats 4000000 in
set_option maxRecDepth 100000 in
theorem k_Re_setLinks (l : Launch) {D : va_G} {ct : Nat → ClassId} {ad : Nat → Nat} {B : Nat → Int32} {g : Nat → Option Nat} {tk : Nat → Int32} {fr : Int32} {LP : List Nat} {pr : Nat → Nat → Int32} {A : Nat → Prop} {f : Nat} {x_f : Int32} (hx_f : x_f.toNatClampNeg = f) {v : Int32}  : Met l y_Re_setLinks (Cond.code y_Re_setLinks c_Re_setLinks 3 none :: wA) (rmk 3 0 0) (va_Pc [.ref (ad 2), .int x_f, .int v] (cW A D (tyC ct) (wsC ct ad B g tk fr LP pr))) (wQ none A D (wsC ct ad (re_set B f 26 2 v) g tk fr LP pr)) 0 0 A := by
  refine Met.ofW (cc := c_Re_setLinks) (maxL := 3) (ret := none) (by decide +kernel) rfl ?_
  intro p e s m args below meth c s₁ B0 hml hv
  obtain ⟨rfl, hA, hP, hD, hK⟩ := hv
  have hS : va_S A s.heap s.heap [] := va_S.rf
  have hx := B0.exec
  have hb := B0.bytes
  have hr := B0.returns
  have hts := fun w (h : w ∈ wA) => atoms_spec (ws := Cond.code y_Re_setLinks c_Re_setLinks 3 none :: wA) B0.pre w (List.mem_cons_of_mem _ h)
  have hown : s.vm.findClass R_Re = some m.cls := findClass_of_methodNamed B0.named
  have hlocks := B0.notSynchronized
  have hl := lv_entry ([.ref (ad 2), .int x_f, .int v]) (n := 3) (Nat.le_of_ble_eq_true rfl)
  rw [lg_entry_eq]
  generalize (lg_sl ([.ref (ad 2), .int x_f, .int v]) ++ List.replicate (3 - (lg_sl ([.ref (ad 2), .int x_f, .int v])).length) Slot.unset).toArray = ls at hl ⊢
  have hl : lv_has ls 3 [(0, .ref (ad 2)), (1, .int x_f), (2, .int v)] := hl
  have hf_f : x_f.toInt.toNat = f := hx_f
  have hg_f := z_lt x_f
  refine lv_aload_n hx hb d_Re_setLinks_0 rfl (lv_at hl 0 rfl) ?_
  refine lv_iload_n hx hb d_Re_setLinks_1 rfl (lv_at hl 1 rfl) ?_
  refine lv_bipush (v := nI 26) hx hb d_Re_setLinks_2 (by decide) ?_
  refine lv_iconst (v := nI 2) hx hb d_Re_setLinks_4 (by decide) ?_
  refine lv_iload_n hx hb d_Re_setLinks_5 rfl (lv_at hl 2 rfl) ?_
  refine wrV ⟨hx, hb, hml, hown, hts⟩ hK hP hD hS hA (k_Re_setField l (f := f) (x_f := x_f) (o := 26) (n := 2) (v := v) hx_f (by omega)) w_173 m_Re_setField ⟨by decide, by decide⟩ 2 rfl rfl rfl hl.1 rfl (Nat.le_of_ble_eq_true rfl) d_Re_setLinks_6 ⟨Nat.zero_le _, Nat.zero_le _⟩ (fun H locs hP hD hS => ?_)
  have hP : va_P D vwC (wsC ct ad (re_set B f 26 2 v) g tk fr LP pr) H := hP
  have hD : va_D A (wsC ct ad (re_set B f 26 2 v) g tk fr LP pr) := hD
  refine W.eq (g2 := F0 m 9 ls []) rfl ?_
  have e9 : wsC ct ad (re_set B f 26 2 v) g tk fr LP pr = wsC ct ad (re_set B f 26 2 v) g tk fr LP pr := rfl
  rw [e9] at hP hD
  exact W.vret hx hb hr (fun t9 ht hW => ⟨rfl, by rw [ht]; exact hP, hD, hS.F ht⟩) hS.2.2 d_Re_setLinks_9
theorem m_Re_erase : mV R_Re y_Re_erase (Cond.code y_Re_erase c_Re_erase 2 none) 1 := ⟨⟨w_196, w_197, w_4, w_198⟩, by decide +kernel⟩
set_option maxHeartbeats 4000000 in
set_option maxRecDepth 100000 in
theorem k_Re_erase (l : Launch) {D : va_G} {ct : Nat → ClassId} {ad : Nat → Nat} {B : Nat → Int32} {g : Nat → Option Nat} {tk : Nat → Int32} {fr : Int32} {LP : List Nat} {pr : Nat → Nat → Int32} {A : Nat → Prop} {f : Nat} {x_f : Int32} (hx_f : x_f.toNatClampNeg = f)  : Met l y_Re_erase (Cond.code y_Re_erase c_Re_erase 2 none :: wA) (rmk 3 0 0) (va_Pc [.ref (ad 2), .int x_f] (cW A D (tyC ct) (wsC ct ad B g tk fr LP pr))) (wQ none A D (wsC ct ad (re_set B f 0 256 (nI 0)) g tk fr LP pr)) 0 0 A := by
  refine Met.ofW (cc := c_Re_erase) (maxL := 2) (ret := none) (by decide +kernel) rfl ?_
  intro p e s m args below meth c s₁ B0 hml hv
  obtain ⟨rfl, hA, hP, hD, hK⟩ := hv
  have hS : va_S A s.heap s.heap [] := va_S.rf
  have hx := B0.exec
  have hb := B0.bytes
  have hr := B0.returns
  have hts := fun w (h : w ∈ wA) => atoms_spec (ws := Cond.code y_Re_erase c_Re_erase 2 none :: wA) B0.pre w (List.mem_cons_of_mem _ h)
  have hown : s.vm.findClass R_Re = some m.cls := findClass_of_methodNamed B0.named
  have hlocks := B0.notSynchronized
  have hl := lv_entry ([.ref (ad 2), .int x_f]) (n := 2) (Nat.le_of_ble_eq_true rfl)
  rw [lg_entry_eq]
  generalize (lg_sl ([.ref (ad 2), .int x_f]) ++ List.replicate (2 - (lg_sl ([.ref (ad 2), .int x_f])).length) Slot.unset).toArray = ls at hl ⊢
  have hl : lv_has ls 2 [(0, .ref (ad 2)), (1, .int x_f)] := hl
  have hf_f : x_f.toInt.toNat = f := hx_f
  have hg_f := z_lt x_f
  refine lv_aload_n hx hb d_Re_erase_0 rfl (lv_at hl 0 rfl) ?_
  refine lv_iload_n hx hb d_Re_erase_1 rfl (lv_at hl 1 rfl) ?_
  refine lv_iconst (v := nI 0) hx hb d_Re_erase_2 (by decide) ?_
  refine lv_sipush (v := nI 256) hx hb d_Re_erase_3 (by decide) ?_
  refine lv_iconst (v := nI 0) hx hb d_Re_erase_6 (by decide) ?_
  refine wrV ⟨hx, hb, hml, hown, hts⟩ hK hP hD hS hA (k_Re_setField l (f := f) (x_f := x_f) (o := 0) (n := 256) (v := (nI 0)) hx_f (by omega)) w_173 m_Re_setField ⟨by decide, by decide⟩ 2 rfl rfl rfl hl.1 rfl (Nat.le_of_ble_eq_true rfl) d_Re_erase_7 ⟨Nat.zero_le _, Nat.zero_le _⟩ (fun H locs hP hD hS => ?_)
  have hP : va_P D vwC (wsC ct ad (re_set B f 0 256 (nI 0)) g tk fr LP pr) H := hP
  have hD : va_D A (wsC ct ad (re_set B f 0 256 (nI 0)) g tk fr LP pr) := hD
  refine W.eq (g2 := F0 m 10 ls []) rfl ?_
  have e9 : wsC ct ad (re_set B f 0 256 (nI 0)) g tk fr LP pr = wsC ct ad (re_set B f 0 256 (nI 0)) g tk fr LP pr := rfl
  rw [e9] at hP hD
  exact W.vret hx hb hr (fun t9 ht hW => ⟨rfl, by rw [ht]; exact hP, hD, hS.F ht⟩) hS.2.2 d_Re_erase_10
theorem m_Re_setTargetByte : mV R_Re y_Re_setTargetByte (Cond.code y_Re_setTargetByte c_Re_setTargetByte 4 none) 3 := ⟨⟨w_350, w_351, w_4, w_352⟩, by decide +kernel⟩
set_option maxHeartbeats 4000000 in
set_option maxRecDepth 100000 in
theorem k_Re_setTargetByte (l : Launch) {D : va_G} {ct : Nat → ClassId} {ad : Nat → Nat} {B : Nat → Int32} {g : Nat → Option Nat} {tk : Nat → Int32} {fr : Int32} {LP : List Nat} {pr : Nat → Nat → Int32} {A : Nat → Prop} {f : Nat} {x_f : Int32} (hx_f : x_f.toNatClampNeg = f) {i : Nat} {v : Int32} (h0 : i < 60) : Met l y_Re_setTargetByte (Cond.code y_Re_setTargetByte c_Re_setTargetByte 4 none :: wA) (rmk 3 0 0) (va_Pc [.ref (ad 2), .int x_f, .int (nI i), .int v] (cW A D (tyC ct) (wsC ct ad B g tk fr LP pr))) (wQ none A D (wsC ct ad (re_set B f (40 + i) 1 v) g tk fr LP pr)) 0 0 A := by
  refine Met.ofW (cc := c_Re_setTargetByte) (maxL := 4) (ret := none) (by decide +kernel) rfl ?_
  intro p e s m args below meth c s₁ B0 hml hv
  obtain ⟨rfl, hA, hP, hD, hK⟩ := hv
  have hS : va_S A s.heap s.heap [] := va_S.rf
  have hx := B0.exec
  have hb := B0.bytes
  have hr := B0.returns
  have hts := fun w (h : w ∈ wA) => atoms_spec (ws := Cond.code y_Re_setTargetByte c_Re_setTargetByte 4 none :: wA) B0.pre w (List.mem_cons_of_mem _ h)
  have hown : s.vm.findClass R_Re = some m.cls := findClass_of_methodNamed B0.named
  have hlocks := B0.notSynchronized
  have hl := lv_entry ([.ref (ad 2), .int x_f, .int (nI i), .int v]) (n := 4) (Nat.le_of_ble_eq_true rfl)
  rw [lg_entry_eq]
  generalize (lg_sl ([.ref (ad 2), .int x_f, .int (nI i), .int v]) ++ List.replicate (4 - (lg_sl ([.ref (ad 2), .int x_f, .int (nI i), .int v])).length) Slot.unset).toArray = ls at hl ⊢
  have hl : lv_has ls 4 [(0, .ref (ad 2)), (1, .int x_f), (2, .int (nI i)), (3, .int v)] := hl
  have hf_f : x_f.toInt.toNat = f := hx_f
  have hg_f := z_lt x_f
  refine lv_aload_n hx hb d_Re_setTargetByte_0 rfl (lv_at hl 0 rfl) ?_
  refine lv_iload_n hx hb d_Re_setTargetByte_1 rfl (lv_at hl 1 rfl) ?_
  refine lv_bipush (v := nI 40) hx hb d_Re_setTargetByte_2 (by decide) ?_
  refine lv_iload_n hx hb d_Re_setTargetByte_4 rfl (lv_at hl 2 rfl) ?_
  refine ln_iadd hx hb d_Re_setTargetByte_5 ?_
  refine lv_iconst (v := nI 1) hx hb d_Re_setTargetByte_6 (by decide) ?_
  refine lv_iload_n hx hb d_Re_setTargetByte_7 rfl (lv_at hl 3 rfl) ?_
  refine wrV ⟨hx, hb, hml, hown, hts⟩ hK hP hD hS hA (k_Re_setField l (f := f) (x_f := x_f) (o := (40 + i)) (n := 1) (v := v) hx_f (by omega)) w_173 m_Re_setField ⟨by decide, by decide⟩ 2 rfl rfl rfl hl.1 rfl (Nat.le_of_ble_eq_true rfl) d_Re_setTargetByte_8 ⟨Nat.zero_le _, Nat.zero_le _⟩ (fun H locs hP hD hS => ?_)
  have hP : va_P D vwC (wsC ct ad (re_set B f (40 + i) 1 v) g tk fr LP pr) H := hP
  have hD : va_D A (wsC ct ad (re_set B f (40 + i) 1 v) g tk fr LP pr) := hD
  refine W.eq (g2 := F0 m 11 ls []) rfl ?_
  have e9 : wsC ct ad (re_set B f (40 + i) 1 v) g tk fr LP pr = wsC ct ad (re_set B f (40 + i) 1 v) g tk fr LP pr := rfl
  rw [e9] at hP hD
  exact W.vret hx hb hr (fun t9 ht hW => ⟨rfl, by rw [ht]; exact hP, hD, hS.F ht⟩) hS.2.2 d_Re_setTargetByte_11
theorem m_Re_begin : mV R_Re y_Re_begin (Cond.code y_Re_begin c_Re_begin 4 none) 3 := ⟨⟨w_301, w_302, w_4, w_303⟩, by decide +kernel⟩
set_option maxHeartbeats 4000000 in
set_option maxRecDepth 100000 in
theorem k_Re_begin (l : Launch) {D : va_G} {ct : Nat → ClassId} {ad : Nat → Nat} {B : Nat → Int32} {g : Nat → Option Nat} {tk : Nat → Int32} {fr : Int32} {LP : List Nat} {pr : Nat → Nat → Int32} {A : Nat → Prop} {f : Nat} {x_f : Int32} (hx_f : x_f.toNatClampNeg = f) {k : Int32} {v : Int32}  : Met l y_Re_begin (Cond.code y_Re_begin c_Re_begin 4 none :: wA) (rmk 4 0 0) (va_Pc [.ref (ad 2), .int x_f, .int k, .int v] (cW A D (tyC ct) (wsC ct ad B g tk fr LP pr))) (wQ none A D (wsC ct ad (re_beg B f k v) g tk fr LP pr)) 0 0 A := by
  refine Met.ofW (cc := c_Re_begin) (maxL := 4) (ret := none) (by decide +kernel) rfl ?_
  intro p e s m args below meth c s₁ B0 hml hv
  obtain ⟨rfl, hA, hP, hD, hK⟩ := hv
  have hS : va_S A s.heap s.heap [] := va_S.rf
  have hx := B0.exec
  have hb := B0.bytes
  have hr := B0.returns
  have hts := fun w (h : w ∈ wA) => atoms_spec (ws := Cond.code y_Re_begin c_Re_begin 4 none :: wA) B0.pre w (List.mem_cons_of_mem _ h)
  have hown : s.vm.findClass R_Re = some m.cls := findClass_of_methodNamed B0.named
  have hlocks := B0.notSynchronized
  have hl := lv_entry ([.ref (ad 2), .int x_f, .int k, .int v]) (n := 4) (Nat.le_of_ble_eq_true rfl)
  rw [lg_entry_eq]
  generalize (lg_sl ([.ref (ad 2), .int x_f, .int k, .int v]) ++ List.replicate (4 - (lg_sl ([.ref (ad 2), .int x_f, .int k, .int v])).length) Slot.unset).toArray = ls at hl ⊢
  have hl : lv_has ls 4 [(0, .ref (ad 2)), (1, .int x_f), (2, .int k), (3, .int v)] := hl
  have hf_f : x_f.toInt.toNat = f := hx_f
  have hg_f := z_lt x_f
  refine lv_aload_n hx hb d_Re_begin_0 rfl (lv_at hl 0 rfl) ?_
  refine lv_iload_n hx hb d_Re_begin_1 rfl (lv_at hl 1 rfl) ?_
  refine lv_iconst (v := nI 0) hx hb d_Re_begin_2 (by decide) ?_
  refine lv_iconst (v := nI 2) hx hb d_Re_begin_3 (by decide) ?_
  refine lv_iload_n hx hb d_Re_begin_4 rfl (lv_at hl 2 rfl) ?_
  refine lv_iconst (v := nI 3) hx hb d_Re_begin_5 (by decide) ?_
  refine lv_icmp_ne (tgt := 14) hx hb d_Re_begin_6 (by decide) (fun c_1 => ?_) (fun c_1 => ?_)
  · skip
    refine lv_ldc (v := nI 32768) hx hb hown (hts _ w_305) d_Re_begin_14 ?_
    refine wrV ⟨hx, hb, hml, hown, hts⟩ hK hP hD hS hA (k_Re_setField l (f := f) (x_f := x_f) (o := 0) (n := 2) (v := (nI 32768)) hx_f (by omega)) w_173 m_Re_setField ⟨by decide, by decide⟩ 2 rfl rfl rfl hl.1 rfl (Nat.le_of_ble_eq_true rfl) d_Re_begin_16 ⟨Nat.zero_le _, Nat.zero_le _⟩ (fun H locs hP hD hS => ?_)
    have hP : va_P D vwC (wsC ct ad (re_set B f 0 2 (nI 32768)) g tk fr LP pr) H := hP
    have hD : va_D A (wsC ct ad (re_set B f 0 2 (nI 32768)) g tk fr LP pr) := hD
    refine W.eq (g2 := F0 m 19 ls []) rfl ?_
    refine lv_aload_n hx hb d_Re_begin_19 rfl (lv_at hl 0 rfl) ?_
    refine lv_iload_n hx hb d_Re_begin_20 rfl (lv_at hl 1 rfl) ?_
    refine lv_iload_n hx hb d_Re_begin_21 rfl (lv_at hl 3 rfl) ?_
    refine wrV ⟨hx, hb, hml, hown, hts⟩ hK hP hD hS hA (k_Re_setLinks l (f := f) (x_f := x_f) (v := v) hx_f ) w_306 m_Re_setLinks ⟨by decide, by decide⟩ 2 rfl rfl rfl hl.1 rfl (Nat.le_of_ble_eq_true rfl) d_Re_begin_22 ⟨Nat.zero_le _, Nat.zero_le _⟩ (fun H locs hP hD hS => ?_)
    have hP : va_P D vwC (wsC ct ad (re_set (re_set B f 0 2 (nI 32768)) f 26 2 v) g tk fr LP pr) H := hP
    have hD : va_D A (wsC ct ad (re_set (re_set B f 0 2 (nI 32768)) f 26 2 v) g tk fr LP pr) := hD
    refine W.eq (g2 := F0 m 25 ls []) rfl ?_
    have e9 : wsC ct ad (re_set (re_set B f 0 2 (nI 32768)) f 26 2 v) g tk fr LP pr = wsC ct ad (re_beg B f k v) g tk fr LP pr := (by unfold re_beg; first | rw [if_pos (by assumption)] | rw [if_neg (by assumption)])
    rw [e9] at hP hD
    exact W.vret hx hb hr (fun t9 ht hW => ⟨rfl, by rw [ht]; exact hP, hD, hS.F ht⟩) hS.2.2 d_Re_begin_25
  · skip
    refine lv_ldc (v := nI 40960) hx hb hown (hts _ w_304) d_Re_begin_9 ?_
    refine lv_goto (tgt := 16) hx hb d_Re_begin_11 (by decide) ?_
    refine wrV ⟨hx, hb, hml, hown, hts⟩ hK hP hD hS hA (k_Re_setField l (f := f) (x_f := x_f) (o := 0) (n := 2) (v := (nI 40960)) hx_f (by omega)) w_173 m_Re_setField ⟨by decide, by decide⟩ 2 rfl rfl rfl hl.1 rfl (Nat.le_of_ble_eq_true rfl) d_Re_begin_16 ⟨Nat.zero_le _, Nat.zero_le _⟩ (fun H locs hP hD hS => ?_)
    have hP : va_P D vwC (wsC ct ad (re_set B f 0 2 (nI 40960)) g tk fr LP pr) H := hP
    have hD : va_D A (wsC ct ad (re_set B f 0 2 (nI 40960)) g tk fr LP pr) := hD
    refine W.eq (g2 := F0 m 19 ls []) rfl ?_
    refine lv_aload_n hx hb d_Re_begin_19 rfl (lv_at hl 0 rfl) ?_
    refine lv_iload_n hx hb d_Re_begin_20 rfl (lv_at hl 1 rfl) ?_
    refine lv_iload_n hx hb d_Re_begin_21 rfl (lv_at hl 3 rfl) ?_
    refine wrV ⟨hx, hb, hml, hown, hts⟩ hK hP hD hS hA (k_Re_setLinks l (f := f) (x_f := x_f) (v := v) hx_f ) w_306 m_Re_setLinks ⟨by decide, by decide⟩ 2 rfl rfl rfl hl.1 rfl (Nat.le_of_ble_eq_true rfl) d_Re_begin_22 ⟨Nat.zero_le _, Nat.zero_le _⟩ (fun H locs hP hD hS => ?_)
    have hP : va_P D vwC (wsC ct ad (re_set (re_set B f 0 2 (nI 40960)) f 26 2 v) g tk fr LP pr) H := hP
    have hD : va_D A (wsC ct ad (re_set (re_set B f 0 2 (nI 40960)) f 26 2 v) g tk fr LP pr) := hD
    refine W.eq (g2 := F0 m 25 ls []) rfl ?_
    have e9 : wsC ct ad (re_set (re_set B f 0 2 (nI 40960)) f 26 2 v) g tk fr LP pr = wsC ct ad (re_beg B f k v) g tk fr LP pr := (by unfold re_beg; first | rw [if_pos (by assumption)] | rw [if_neg (by assumption)])
    rw [e9] at hP hD
    exact W.vret hx hb hr (fun t9 ht hW => ⟨rfl, by rw [ht]; exact hP, hD, hS.F ht⟩) hS.2.2 d_Re_begin_25
theorem m_Re_addBlock : mV R_Re y_Re_addBlock (Cond.code y_Re_addBlock c_Re_addBlock 4 none) 3 := ⟨⟨w_372, w_373, w_4, w_374⟩, by decide +kernel⟩
set_option maxHeartbeats 4000000 in
set_option maxRecDepth 100000 in
theorem k_Re_addBlock (l : Launch) {D : va_G} {ct : Nat → ClassId} {ad : Nat → Nat} {B : Nat → Int32} {g : Nat → Option Nat} {tk : Nat → Int32} {fr : Int32} {LP : List Nat} {pr : Nat → Nat → Int32} {A : Nat → Prop} {f : Nat} {x_f : Int32} (hx_f : x_f.toNatClampNeg = f) {k : Nat} {v : Int32} (h0 : k < 15) : Met l y_Re_addBlock (Cond.code y_Re_addBlock c_Re_addBlock 4 none :: wA) (rmk 4 0 0) (va_Pc [.ref (ad 2), .int x_f, .int (nI k), .int v] (cW A D (tyC ct) (wsC ct ad B g tk fr LP pr))) (wQ none A D (wsC ct ad (re_add B f k v) g tk fr LP pr)) 0 0 A := by
  refine Met.ofW (cc := c_Re_addBlock) (maxL := 4) (ret := none) (by decide +kernel) rfl ?_
  intro p e s m args below meth c s₁ B0 hml hv
  obtain ⟨rfl, hA, hP, hD, hK⟩ := hv
  have hS : va_S A s.heap s.heap [] := va_S.rf
  have hx := B0.exec
  have hb := B0.bytes
  have hr := B0.returns
  have hts := fun w (h : w ∈ wA) => atoms_spec (ws := Cond.code y_Re_addBlock c_Re_addBlock 4 none :: wA) B0.pre w (List.mem_cons_of_mem _ h)
  have hown : s.vm.findClass R_Re = some m.cls := findClass_of_methodNamed B0.named
  have hlocks := B0.notSynchronized
  have hl := lv_entry ([.ref (ad 2), .int x_f, .int (nI k), .int v]) (n := 4) (Nat.le_of_ble_eq_true rfl)
  rw [lg_entry_eq]
  generalize (lg_sl ([.ref (ad 2), .int x_f, .int (nI k), .int v]) ++ List.replicate (4 - (lg_sl ([.ref (ad 2), .int x_f, .int (nI k), .int v])).length) Slot.unset).toArray = ls at hl ⊢
  have hl : lv_has ls 4 [(0, .ref (ad 2)), (1, .int x_f), (2, .int (nI k)), (3, .int v)] := hl
  have hf_f : x_f.toInt.toNat = f := hx_f
  have hg_f := z_lt x_f
  refine lv_aload_n hx hb d_Re_addBlock_0 rfl (lv_at hl 0 rfl) ?_
  refine lv_iload_n hx hb d_Re_addBlock_1 rfl (lv_at hl 1 rfl) ?_
  refine lv_bipush (v := nI 40) hx hb d_Re_addBlock_2 (by decide) ?_
  refine lv_iconst (v := nI 4) hx hb d_Re_addBlock_4 (by decide) ?_
  refine lv_iload_n hx hb d_Re_addBlock_5 rfl (lv_at hl 2 rfl) ?_
  refine ln_imul hx hb d_Re_addBlock_6 ?_
  refine ln_iadd hx hb d_Re_addBlock_7 ?_
  refine lv_iconst (v := nI 4) hx hb d_Re_addBlock_8 (by decide) ?_
  refine lv_iload_n hx hb d_Re_addBlock_9 rfl (lv_at hl 3 rfl) ?_
  refine wrV ⟨hx, hb, hml, hown, hts⟩ hK hP hD hS hA (k_Re_setField l (f := f) (x_f := x_f) (o := (40 + (4 * k))) (n := 4) (v := v) hx_f (by omega)) w_173 m_Re_setField ⟨by decide, by decide⟩ 2 rfl rfl rfl hl.1 rfl (Nat.le_of_ble_eq_true rfl) d_Re_addBlock_10 ⟨Nat.zero_le _, Nat.zero_le _⟩ (fun H locs hP hD hS => ?_)
  have hP : va_P D vwC (wsC ct ad (re_set B f (40 + (4 * k)) 4 v) g tk fr LP pr) H := hP
  have hD : va_D A (wsC ct ad (re_set B f (40 + (4 * k)) 4 v) g tk fr LP pr) := hD
  refine W.eq (g2 := F0 m 13 ls []) rfl ?_
  refine lv_aload_n hx hb d_Re_addBlock_13 rfl (lv_at hl 0 rfl) ?_
  refine lv_iload_n hx hb d_Re_addBlock_14 rfl (lv_at hl 1 rfl) ?_
  refine lv_bipush (v := nI 28) hx hb d_Re_addBlock_15 (by decide) ?_
  refine lv_iconst (v := nI 4) hx hb d_Re_addBlock_17 (by decide) ?_
  refine lv_iconst (v := nI 2) hx hb d_Re_addBlock_18 (by decide) ?_
  refine lv_aload_n hx hb d_Re_addBlock_19 rfl (lv_at hl 0 rfl) ?_
  refine lv_iload_n hx hb d_Re_addBlock_20 rfl (lv_at hl 1 rfl) ?_
  refine rdV ⟨hx, hb, hml, hown, hts⟩ hK hP (k_Re_blocksOf l (f := f) (x_f := x_f) hx_f ) w_186 m_Re_blocksOf ⟨by decide, by decide⟩ 2 rfl rfl rfl hl.1 rfl (Nat.le_of_ble_eq_true rfl) d_Re_addBlock_21 ⟨Nat.zero_le _, Nat.zero_le _⟩ ?_
  refine lv_iconst (v := nI 1) hx hb d_Re_addBlock_24 (by decide) ?_
  refine lv_iadd hx hb d_Re_addBlock_25 ?_
  refine lv_imul hx hb d_Re_addBlock_26 ?_
  refine wrV ⟨hx, hb, hml, hown, hts⟩ hK hP hD hS hA (k_Re_setField l (f := f) (x_f := x_f) (o := 28) (n := 4) (v := ((nI 2) * ((re_nb (re_set B f (40 + (4 * k)) 4 v) f) + (nI 1)))) hx_f (by omega)) w_173 m_Re_setField ⟨by decide, by decide⟩ 2 rfl rfl rfl hl.1 rfl (Nat.le_of_ble_eq_true rfl) d_Re_addBlock_27 ⟨Nat.zero_le _, Nat.zero_le _⟩ (fun H locs hP hD hS => ?_)
  have hP : va_P D vwC (wsC ct ad (re_set (re_set B f (40 + (4 * k)) 4 v) f 28 4 ((nI 2) * ((re_nb (re_set B f (40 + (4 * k)) 4 v) f) + (nI 1)))) g tk fr LP pr) H := hP
  have hD : va_D A (wsC ct ad (re_set (re_set B f (40 + (4 * k)) 4 v) f 28 4 ((nI 2) * ((re_nb (re_set B f (40 + (4 * k)) 4 v) f) + (nI 1)))) g tk fr LP pr) := hD
  refine W.eq (g2 := F0 m 30 ls []) rfl ?_
  have e9 : wsC ct ad (re_set (re_set B f (40 + (4 * k)) 4 v) f 28 4 ((nI 2) * ((re_nb (re_set B f (40 + (4 * k)) 4 v) f) + (nI 1)))) g tk fr LP pr = wsC ct ad (re_add B f k v) g tk fr LP pr := rfl
  rw [e9] at hP hD
  exact W.vret hx hb hr (fun t9 ht hW => ⟨rfl, by rw [ht]; exact hP, hD, hS.F ht⟩) hS.2.2 d_Re_addBlock_30
theorem m_Re_removeBlock : mV R_Re y_Re_removeBlock (Cond.code y_Re_removeBlock c_Re_removeBlock 3 none) 2 := ⟨⟨w_192, w_193, w_4, w_194⟩, by decide +kernel⟩
set_option maxHeartbeats 4000000 in
set_option maxRecDepth 100000 in
theorem k_Re_removeBlock (l : Launch) {D : va_G} {ct : Nat → ClassId} {ad : Nat → Nat} {B : Nat → Int32} {g : Nat → Option Nat} {tk : Nat → Int32} {fr : Int32} {LP : List Nat} {pr : Nat → Nat → Int32} {A : Nat → Prop} {f : Nat} {x_f : Int32} (hx_f : x_f.toNatClampNeg = f) {k : Nat} (h0 : k < 15) : Met l y_Re_removeBlock (Cond.code y_Re_removeBlock c_Re_removeBlock 3 none :: wA) (rmk 4 0 0) (va_Pc [.ref (ad 2), .int x_f, .int (nI k)] (cW A D (tyC ct) (wsC ct ad B g tk fr LP pr))) (wQ none A D (wsC ct ad (re_rem B f k) g tk fr LP pr)) 0 0 A := by
  refine Met.ofW (cc := c_Re_removeBlock) (maxL := 3) (ret := none) (by decide +kernel) rfl ?_
  intro p e s m args below meth c s₁ B0 hml hv
  obtain ⟨rfl, hA, hP, hD, hK⟩ := hv
  have hS : va_S A s.heap s.heap [] := va_S.rf
  have hx := B0.exec
  have hb := B0.bytes
  have hr := B0.returns
  have hts := fun w (h : w ∈ wA) => atoms_spec (ws := Cond.code y_Re_removeBlock c_Re_removeBlock 3 none :: wA) B0.pre w (List.mem_cons_of_mem _ h)
  have hown : s.vm.findClass R_Re = some m.cls := findClass_of_methodNamed B0.named
  have hlocks := B0.notSynchronized
  have hl := lv_entry ([.ref (ad 2), .int x_f, .int (nI k)]) (n := 3) (Nat.le_of_ble_eq_true rfl)
  rw [lg_entry_eq]
  generalize (lg_sl ([.ref (ad 2), .int x_f, .int (nI k)]) ++ List.replicate (3 - (lg_sl ([.ref (ad 2), .int x_f, .int (nI k)])).length) Slot.unset).toArray = ls at hl ⊢
  have hl : lv_has ls 3 [(0, .ref (ad 2)), (1, .int x_f), (2, .int (nI k))] := hl
  have hf_f : x_f.toInt.toNat = f := hx_f
  have hg_f := z_lt x_f
  refine lv_aload_n hx hb d_Re_removeBlock_0 rfl (lv_at hl 0 rfl) ?_
  refine lv_iload_n hx hb d_Re_removeBlock_1 rfl (lv_at hl 1 rfl) ?_
  refine lv_bipush (v := nI 40) hx hb d_Re_removeBlock_2 (by decide) ?_
  refine lv_iconst (v := nI 4) hx hb d_Re_removeBlock_4 (by decide) ?_
  refine lv_iload_n hx hb d_Re_removeBlock_5 rfl (lv_at hl 2 rfl) ?_
  refine ln_imul hx hb d_Re_removeBlock_6 ?_
  refine ln_iadd hx hb d_Re_removeBlock_7 ?_
  refine lv_iconst (v := nI 4) hx hb d_Re_removeBlock_8 (by decide) ?_
  refine lv_iconst (v := nI 0) hx hb d_Re_removeBlock_9 (by decide) ?_
  refine wrV ⟨hx, hb, hml, hown, hts⟩ hK hP hD hS hA (k_Re_setField l (f := f) (x_f := x_f) (o := (40 + (4 * k))) (n := 4) (v := (nI 0)) hx_f (by omega)) w_173 m_Re_setField ⟨by decide, by decide⟩ 2 rfl rfl rfl hl.1 rfl (Nat.le_of_ble_eq_true rfl) d_Re_removeBlock_10 ⟨Nat.zero_le _, Nat.zero_le _⟩ (fun H locs hP hD hS => ?_)
  have hP : va_P D vwC (wsC ct ad (re_set B f (40 + (4 * k)) 4 (nI 0)) g tk fr LP pr) H := hP
  have hD : va_D A (wsC ct ad (re_set B f (40 + (4 * k)) 4 (nI 0)) g tk fr LP pr) := hD
  refine W.eq (g2 := F0 m 13 ls []) rfl ?_
  refine lv_aload_n hx hb d_Re_removeBlock_13 rfl (lv_at hl 0 rfl) ?_
  refine lv_iload_n hx hb d_Re_removeBlock_14 rfl (lv_at hl 1 rfl) ?_
  refine lv_bipush (v := nI 28) hx hb d_Re_removeBlock_15 (by decide) ?_
  refine lv_iconst (v := nI 4) hx hb d_Re_removeBlock_17 (by decide) ?_
  refine lv_iconst (v := nI 2) hx hb d_Re_removeBlock_18 (by decide) ?_
  refine lv_aload_n hx hb d_Re_removeBlock_19 rfl (lv_at hl 0 rfl) ?_
  refine lv_iload_n hx hb d_Re_removeBlock_20 rfl (lv_at hl 1 rfl) ?_
  refine rdV ⟨hx, hb, hml, hown, hts⟩ hK hP (k_Re_blocksOf l (f := f) (x_f := x_f) hx_f ) w_186 m_Re_blocksOf ⟨by decide, by decide⟩ 2 rfl rfl rfl hl.1 rfl (Nat.le_of_ble_eq_true rfl) d_Re_removeBlock_21 ⟨Nat.zero_le _, Nat.zero_le _⟩ ?_
  refine lv_iconst (v := nI 1) hx hb d_Re_removeBlock_24 (by decide) ?_
  refine lv_isub hx hb d_Re_removeBlock_25 ?_
  refine lv_imul hx hb d_Re_removeBlock_26 ?_
  refine wrV ⟨hx, hb, hml, hown, hts⟩ hK hP hD hS hA (k_Re_setField l (f := f) (x_f := x_f) (o := 28) (n := 4) (v := ((nI 2) * ((re_nb (re_set B f (40 + (4 * k)) 4 (nI 0)) f) - (nI 1)))) hx_f (by omega)) w_173 m_Re_setField ⟨by decide, by decide⟩ 2 rfl rfl rfl hl.1 rfl (Nat.le_of_ble_eq_true rfl) d_Re_removeBlock_27 ⟨Nat.zero_le _, Nat.zero_le _⟩ (fun H locs hP hD hS => ?_)
  have hP : va_P D vwC (wsC ct ad (re_set (re_set B f (40 + (4 * k)) 4 (nI 0)) f 28 4 ((nI 2) * ((re_nb (re_set B f (40 + (4 * k)) 4 (nI 0)) f) - (nI 1)))) g tk fr LP pr) H := hP
  have hD : va_D A (wsC ct ad (re_set (re_set B f (40 + (4 * k)) 4 (nI 0)) f 28 4 ((nI 2) * ((re_nb (re_set B f (40 + (4 * k)) 4 (nI 0)) f) - (nI 1)))) g tk fr LP pr) := hD
  refine W.eq (g2 := F0 m 30 ls []) rfl ?_
  have e9 : wsC ct ad (re_set (re_set B f (40 + (4 * k)) 4 (nI 0)) f 28 4 ((nI 2) * ((re_nb (re_set B f (40 + (4 * k)) 4 (nI 0)) f) - (nI 1)))) g tk fr LP pr = wsC ct ad (re_rem B f k) g tk fr LP pr := rfl
  rw [e9] at hP hD
  exact W.vret hx hb hr (fun t9 ht hW => ⟨rfl, by rw [ht]; exact hP, hD, hS.F ht⟩) hS.2.2 d_Re_removeBlock_30
theorem m_Wa_setFirst : mV R_Wa y_Wa_setFirst (Cond.code y_Wa_setFirst c_Wa_setFirst 2 none) 1 := ⟨⟨w_159, wp_2, w_5, w_160⟩, by decide +kernel⟩
set_option maxHeartbeats 4000000 in
set_option maxRecDepth 100000 in
theorem k_Wa_setFirst (l : Launch) {D : va_G} {ct : Nat → ClassId} {ad : Nat → Nat} {B : Nat → Int32} {g : Nat → Option Nat} {tk : Nat → Int32} {fr : Int32} {LP : List Nat} {pr : Nat → Nat → Int32} {A : Nat → Prop} {x : Int32}  : Met l y_Wa_setFirst (Cond.code y_Wa_setFirst c_Wa_setFirst 2 none :: wA) (rmk 2 0 0) (va_Pc [.ref (ad 4), .int x] (cW A D (tyC ct) (wsC ct ad B g tk fr LP pr))) (wQ none A D (wsC ct ad (fr_set B 232 4 x) g tk fr LP pr)) 0 0 A := by
  refine Met.ofW (cc := c_Wa_setFirst) (maxL := 2) (ret := none) (by decide +kernel) rfl ?_
  intro p e s m args below meth c s₁ B0 hml hv
  obtain ⟨rfl, hA, hP, hD, hK⟩ := hv
  have hS : va_S A s.heap s.heap [] := va_S.rf
  have hx := B0.exec
  have hb := B0.bytes
  have hr := B0.returns
  have hts := fun w (h : w ∈ wA) => atoms_spec (ws := Cond.code y_Wa_setFirst c_Wa_setFirst 2 none :: wA) B0.pre w (List.mem_cons_of_mem _ h)
  have hown : s.vm.findClass R_Wa = some m.cls := findClass_of_methodNamed B0.named
  have hlocks := B0.notSynchronized
  have hl := lv_entry ([.ref (ad 4), .int x]) (n := 2) (Nat.le_of_ble_eq_true rfl)
  rw [lg_entry_eq]
  generalize (lg_sl ([.ref (ad 4), .int x]) ++ List.replicate (2 - (lg_sl ([.ref (ad 4), .int x])).length) Slot.unset).toArray = ls at hl ⊢
  have hl : lv_has ls 2 [(0, .ref (ad 4)), (1, .int x)] := hl
  refine lv_aload_n hx hb d_Wa_setFirst_0 rfl (lv_at hl 0 rfl) ?_
  refine va_get (D := D) (ci := 4) (v := .ref (ad 3)) (C := R_Wa) (T := T_Wa) (N := 2) hx hb hts u_Wa hown hK hP 4 rfl rfl 0 (by decide) (hts _ w_80) (fun _ h9 => h9) rfl d_Wa_setFirst_1 ?_
  refine lv_sipush (v := nI 232) hx hb d_Wa_setFirst_4 (by decide) ?_
  refine lv_iconst (v := nI 4) hx hb d_Wa_setFirst_7 (by decide) ?_
  refine lv_iload_n hx hb d_Wa_setFirst_8 rfl (lv_at hl 1 rfl) ?_
  refine wrV ⟨hx, hb, hml, hown, hts⟩ hK hP hD hS hA (k_Fr_setNumber l (a := 232) (n := 4) (v := x) (by omega)) w_161 m_Fr_setNumber ⟨by decide, by decide⟩ 3 rfl rfl rfl hl.1 rfl (Nat.le_of_ble_eq_true rfl) d_Wa_setFirst_9 ⟨Nat.zero_le _, Nat.zero_le _⟩ (fun H locs hP hD hS => ?_)
  have hP : va_P D vwC (wsC ct ad (fr_set B 232 4 x) g tk fr LP pr) H := hP
  have hD : va_D A (wsC ct ad (fr_set B 232 4 x) g tk fr LP pr) := hD
  refine W.eq (g2 := F0 m 12 ls []) rfl ?_
  have e9 : wsC ct ad (fr_set B 232 4 x) g tk fr LP pr = wsC ct ad (fr_set B 232 4 x) g tk fr LP pr := rfl
  rw [e9] at hP hD
  exact W.vret hx hb hr (fun t9 ht hW => ⟨rfl, by rw [ht]; exact hP, hD, hS.F ht⟩) hS.2.2 d_Wa_setFirst_12
theorem m_Wa_add : mV R_Wa y_Wa_add (Cond.code y_Wa_add c_Wa_add 2 none) 1 := ⟨⟨w_311, w_312, w_5, w_313⟩, by decide +kernel⟩
set_option maxHeartbeats 4000000 in
set_option maxRecDepth 100000 in
theorem k_Wa_add (l : Launch) {D : va_G} {ct : Nat → ClassId} {ad : Nat → Nat} {B : Nat → Int32} {g : Nat → Option Nat} {tk : Nat → Int32} {fr : Int32} {LP : List Nat} {pr : Nat → Nat → Int32} {A : Nat → Prop} {f : Nat} {x_f : Int32} (hx_f : x_f.toNatClampNeg = f)  : Met l y_Wa_add (Cond.code y_Wa_add c_Wa_add 2 none :: wA) (rmk 4 0 0) (va_Pc [.ref (ad 4), .int x_f] (cW A D (tyC ct) (wsC ct ad B g tk fr LP pr))) (wQ none A D (wsC ct ad (wa_add B f x_f) g tk fr LP pr)) 0 0 A := by
  refine Met.ofW (cc := c_Wa_add) (maxL := 2) (ret := none) (by decide +kernel) rfl ?_
  intro p e s m args below meth c s₁ B0 hml hv
  obtain ⟨rfl, hA, hP, hD, hK⟩ := hv
  have hS : va_S A s.heap s.heap [] := va_S.rf
  have hx := B0.exec
  have hb := B0.bytes
  have hr := B0.returns
  have hts := fun w (h : w ∈ wA) => atoms_spec (ws := Cond.code y_Wa_add c_Wa_add 2 none :: wA) B0.pre w (List.mem_cons_of_mem _ h)
  have hown : s.vm.findClass R_Wa = some m.cls := findClass_of_methodNamed B0.named
  have hlocks := B0.notSynchronized
  have hl := lv_entry ([.ref (ad 4), .int x_f]) (n := 2) (Nat.le_of_ble_eq_true rfl)
  rw [lg_entry_eq]
  generalize (lg_sl ([.ref (ad 4), .int x_f]) ++ List.replicate (2 - (lg_sl ([.ref (ad 4), .int x_f])).length) Slot.unset).toArray = ls at hl ⊢
  have hl : lv_has ls 2 [(0, .ref (ad 4)), (1, .int x_f)] := hl
  have hf_f : x_f.toInt.toNat = f := hx_f
  have hg_f := z_lt x_f
  refine lv_aload_n hx hb d_Wa_add_0 rfl (lv_at hl 0 rfl) ?_
  refine va_get (D := D) (ci := 4) (v := .ref (ad 2)) (C := R_Wa) (T := T_Wa) (N := 2) hx hb hts u_Wa hown hK hP 4 rfl rfl 1 (by decide) (hts _ w_81) (fun _ h9 => h9) rfl d_Wa_add_1 ?_
  refine lv_iload_n hx hb d_Wa_add_4 rfl (lv_at hl 1 rfl) ?_
  refine lv_aload_n hx hb d_Wa_add_5 rfl (lv_at hl 0 rfl) ?_
  refine rdV ⟨hx, hb, hml, hown, hts⟩ hK hP (k_Wa_first l  ) w_152 m_Wa_first ⟨by decide, by decide⟩ 4 rfl rfl rfl hl.1 rfl (Nat.le_of_ble_eq_true rfl) d_Wa_add_6 ⟨Nat.zero_le _, Nat.zero_le _⟩ ?_
  refine wrV ⟨hx, hb, hml, hown, hts⟩ hK hP hD hS hA (k_Re_setBehind l (f := f) (x_f := x_f) (v := (fr_num B 232 4)) hx_f ) w_169 m_Re_setBehind ⟨by decide, by decide⟩ 2 rfl rfl rfl hl.1 rfl (Nat.le_of_ble_eq_true rfl) d_Wa_add_9 ⟨Nat.zero_le _, Nat.zero_le _⟩ (fun H locs hP hD hS => ?_)
  have hP : va_P D vwC (wsC ct ad (re_set B f 20 4 (fr_num B 232 4)) g tk fr LP pr) H := hP
  have hD : va_D A (wsC ct ad (re_set B f 20 4 (fr_num B 232 4)) g tk fr LP pr) := hD
  refine W.eq (g2 := F0 m 12 ls []) rfl ?_
  refine lv_aload_n hx hb d_Wa_add_12 rfl (lv_at hl 0 rfl) ?_
  refine lv_iload_n hx hb d_Wa_add_13 rfl (lv_at hl 1 rfl) ?_
  refine wrV ⟨hx, hb, hml, hown, hts⟩ hK hP hD hS hA (k_Wa_setFirst l (x := x_f) ) w_157 m_Wa_setFirst ⟨by decide, by decide⟩ 4 rfl rfl rfl hl.1 rfl (Nat.le_of_ble_eq_true rfl) d_Wa_add_14 ⟨Nat.zero_le _, Nat.zero_le _⟩ (fun H locs hP hD hS => ?_)
  have hP : va_P D vwC (wsC ct ad (fr_set (re_set B f 20 4 (fr_num B 232 4)) 232 4 x_f) g tk fr LP pr) H := hP
  have hD : va_D A (wsC ct ad (fr_set (re_set B f 20 4 (fr_num B 232 4)) 232 4 x_f) g tk fr LP pr) := hD
  refine W.eq (g2 := F0 m 17 ls []) rfl ?_
  have e9 : wsC ct ad (fr_set (re_set B f 20 4 (fr_num B 232 4)) 232 4 x_f) g tk fr LP pr = wsC ct ad (wa_add B f x_f) g tk fr LP pr := rfl
  rw [e9] at hP hD
  exact W.vret hx hb hr (fun t9 ht hW => ⟨rfl, by rw [ht]; exact hP, hD, hS.F ht⟩) hS.2.2 d_Wa_add_17
theorem m_Wa_remove : mV R_Wa y_Wa_remove (Cond.code y_Wa_remove c_Wa_remove 3 none) 1 := ⟨⟨w_149, w_150, w_5, w_151⟩, by decide +kernel⟩
set_option maxHeartbeats 4000000 in
set_option maxRecDepth 100000 in
theorem k_Wa_remove (l : Launch) {D : va_G} {ct : Nat → ClassId} {ad : Nat → Nat} {B : Nat → Int32} {g : Nat → Option Nat} {tk : Nat → Int32} {fr : Int32} {LP : List Nat} {pr : Nat → Nat → Int32} {A : Nat → Prop} {f : Nat} {x_f : Int32} (hx_f : x_f.toNatClampNeg = f)  : Met l y_Wa_remove (Cond.code y_Wa_remove c_Wa_remove 3 none :: wA) (rmk 5 0 0) (va_Pc [.ref (ad 4), .int x_f] (cW A D (tyC ct) (wsC ct ad B g tk fr LP pr))) (wQ none A D (wsC ct ad (wa_rem B f x_f) g tk fr LP pr)) 0 0 A := by
  refine Met.ofW (cc := c_Wa_remove) (maxL := 3) (ret := none) (by decide +kernel) rfl ?_
  intro p e s m args below meth c s₁ B0 hml hv
  obtain ⟨rfl, hA, hP, hD, hK⟩ := hv
  have hS : va_S A s.heap s.heap [] := va_S.rf
  have hx := B0.exec
  have hb := B0.bytes
  have hr := B0.returns
  have hts := fun w (h : w ∈ wA) => atoms_spec (ws := Cond.code y_Wa_remove c_Wa_remove 3 none :: wA) B0.pre w (List.mem_cons_of_mem _ h)
  have hown : s.vm.findClass R_Wa = some m.cls := findClass_of_methodNamed B0.named
  have hlocks := B0.notSynchronized
  have hl := lv_entry ([.ref (ad 4), .int x_f]) (n := 3) (Nat.le_of_ble_eq_true rfl)
  rw [lg_entry_eq]
  generalize (lg_sl ([.ref (ad 4), .int x_f]) ++ List.replicate (3 - (lg_sl ([.ref (ad 4), .int x_f])).length) Slot.unset).toArray = ls at hl ⊢
  have hl : lv_has ls 3 [(0, .ref (ad 4)), (1, .int x_f)] := hl
  have hf_f : x_f.toInt.toNat = f := hx_f
  have hg_f := z_lt x_f
  refine lv_aload_n hx hb d_Wa_remove_0 rfl (lv_at hl 0 rfl) ?_
  refine rdV ⟨hx, hb, hml, hown, hts⟩ hK hP (k_Wa_first l  ) w_152 m_Wa_first ⟨by decide, by decide⟩ 4 rfl rfl rfl hl.1 rfl (Nat.le_of_ble_eq_true rfl) d_Wa_remove_1 ⟨Nat.zero_le _, Nat.zero_le _⟩ ?_
  refine lv_iload_n hx hb d_Wa_remove_4 rfl (lv_at hl 1 rfl) ?_
  refine lv_icmp_ne (tgt := 23) hx hb d_Wa_remove_5 (by decide) (fun c_1 => ?_) (fun c_1 => ?_)
  · skip
    refine lv_aload_n hx hb d_Wa_remove_23 rfl (lv_at hl 0 rfl) ?_
    refine lv_iload_n hx hb d_Wa_remove_24 rfl (lv_at hl 1 rfl) ?_
    refine rdV ⟨hx, hb, hml, hown, hts⟩ hK hP (k_Wa_fileBefore l (y := x_f) ) w_165 m_Wa_fileBefore ⟨by decide, by decide⟩ 4 rfl rfl rfl hl.1 rfl (Nat.le_of_ble_eq_true rfl) d_Wa_remove_25 ⟨Nat.zero_le _, Nat.zero_le _⟩ ?_
    refine lv_istore_n (lv' := [(2, .int (wa_bef B x_f 12 (fr_num B 232 4))), (0, .ref (ad 4)), (1, .int x_f)]) hx hb d_Wa_remove_28 rfl hl (by decide) rfl (fun ls hl => ?_)
    refine lv_aload_n hx hb d_Wa_remove_29 rfl (lv_at hl 1 rfl) ?_
    refine va_get (D := D) (ci := 4) (v := .ref (ad 2)) (C := R_Wa) (T := T_Wa) (N := 2) hx hb hts u_Wa hown hK hP 4 rfl rfl 1 (by decide) (hts _ w_81) (fun _ h9 => h9) rfl d_Wa_remove_30 ?_
    refine lv_iload_n hx hb d_Wa_remove_33 rfl (lv_at hl 0 rfl) ?_
    refine lv_aload_n hx hb d_Wa_remove_34 rfl (lv_at hl 1 rfl) ?_
    refine va_get (D := D) (ci := 4) (v := .ref (ad 2)) (C := R_Wa) (T := T_Wa) (N := 2) hx hb hts u_Wa hown hK hP 4 rfl rfl 1 (by decide) (hts _ w_81) (fun _ h9 => h9) rfl d_Wa_remove_35 ?_
    refine lv_iload_n hx hb d_Wa_remove_38 rfl (lv_at hl 2 rfl) ?_
    refine rdV ⟨hx, hb, hml, hown, hts⟩ hK hP (k_Re_behind l (f := f) (x_f := x_f) hx_f ) w_153 m_Re_behind ⟨by decide, by decide⟩ 2 rfl rfl rfl hl.1 rfl (Nat.le_of_ble_eq_true rfl) d_Wa_remove_39 ⟨Nat.zero_le _, Nat.zero_le _⟩ ?_
    refine wrV ⟨hx, hb, hml, hown, hts⟩ hK hP hD hS hA (k_Re_setBehind l (f := (wa_bef B x_f 12 (fr_num B 232 4)).toNatClampNeg) (x_f := (wa_bef B x_f 12 (fr_num B 232 4))) (v := (re_f B f 20 4)) rfl ) w_169 m_Re_setBehind ⟨by decide, by decide⟩ 2 rfl rfl rfl hl.1 rfl (Nat.le_of_ble_eq_true rfl) d_Wa_remove_42 ⟨Nat.zero_le _, Nat.zero_le _⟩ (fun H locs hP hD hS => ?_)
    have hP : va_P D vwC (wsC ct ad (re_set B (wa_bef B x_f 12 (fr_num B 232 4)).toNatClampNeg 20 4 (re_f B f 20 4)) g tk fr LP pr) H := hP
    have hD : va_D A (wsC ct ad (re_set B (wa_bef B x_f 12 (fr_num B 232 4)).toNatClampNeg 20 4 (re_f B f 20 4)) g tk fr LP pr) := hD
    refine W.eq (g2 := F0 m 45 ls []) rfl ?_
    refine lv_aload_n hx hb d_Wa_remove_45 rfl (lv_at hl 1 rfl) ?_
    refine va_get (D := D) (ci := 4) (v := .ref (ad 2)) (C := R_Wa) (T := T_Wa) (N := 2) hx hb hts u_Wa hown hK hP 4 rfl rfl 1 (by decide) (hts _ w_81) (fun _ h9 => h9) rfl d_Wa_remove_46 ?_
    refine lv_iload_n hx hb d_Wa_remove_49 rfl (lv_at hl 2 rfl) ?_
    refine lv_iconst (v := nI 0) hx hb d_Wa_remove_50 (by decide) ?_
    refine wrV ⟨hx, hb, hml, hown, hts⟩ hK hP hD hS hA (k_Re_setBehind l (f := f) (x_f := x_f) (v := (nI 0)) hx_f ) w_169 m_Re_setBehind ⟨by decide, by decide⟩ 2 rfl rfl rfl hl.1 rfl (Nat.le_of_ble_eq_true rfl) d_Wa_remove_51 ⟨Nat.zero_le _, Nat.zero_le _⟩ (fun H locs hP hD hS => ?_)
    have hP : va_P D vwC (wsC ct ad (re_set (re_set B (wa_bef B x_f 12 (fr_num B 232 4)).toNatClampNeg 20 4 (re_f B f 20 4)) f 20 4 (nI 0)) g tk fr LP pr) H := hP
    have hD : va_D A (wsC ct ad (re_set (re_set B (wa_bef B x_f 12 (fr_num B 232 4)).toNatClampNeg 20 4 (re_f B f 20 4)) f 20 4 (nI 0)) g tk fr LP pr) := hD
    refine W.eq (g2 := F0 m 54 ls []) rfl ?_
    have e9 : wsC ct ad (re_set (re_set B (wa_bef B x_f 12 (fr_num B 232 4)).toNatClampNeg 20 4 (re_f B f 20 4)) f 20 4 (nI 0)) g tk fr LP pr = wsC ct ad (wa_rem B f x_f) g tk fr LP pr := (by unfold wa_rem wa_rem1; first | rw [if_pos (by assumption)] | rw [if_neg (by assumption)])
    rw [e9] at hP hD
    exact W.vret hx hb hr (fun t9 ht hW => ⟨rfl, by rw [ht]; exact hP, hD, hS.F ht⟩) hS.2.2 d_Wa_remove_54
  · skip
    refine lv_aload_n hx hb d_Wa_remove_8 rfl (lv_at hl 0 rfl) ?_
    refine lv_aload_n hx hb d_Wa_remove_9 rfl (lv_at hl 0 rfl) ?_
    refine va_get (D := D) (ci := 4) (v := .ref (ad 2)) (C := R_Wa) (T := T_Wa) (N := 2) hx hb hts u_Wa hown hK hP 4 rfl rfl 1 (by decide) (hts _ w_81) (fun _ h9 => h9) rfl d_Wa_remove_10 ?_
    refine lv_iload_n hx hb d_Wa_remove_13 rfl (lv_at hl 1 rfl) ?_
    refine rdV ⟨hx, hb, hml, hown, hts⟩ hK hP (k_Re_behind l (f := f) (x_f := x_f) hx_f ) w_153 m_Re_behind ⟨by decide, by decide⟩ 2 rfl rfl rfl hl.1 rfl (Nat.le_of_ble_eq_true rfl) d_Wa_remove_14 ⟨Nat.zero_le _, Nat.zero_le _⟩ ?_
    refine wrV ⟨hx, hb, hml, hown, hts⟩ hK hP hD hS hA (k_Wa_setFirst l (x := (re_f B f 20 4)) ) w_157 m_Wa_setFirst ⟨by decide, by decide⟩ 4 rfl rfl rfl hl.1 rfl (Nat.le_of_ble_eq_true rfl) d_Wa_remove_17 ⟨Nat.zero_le _, Nat.zero_le _⟩ (fun H locs hP hD hS => ?_)
    have hP : va_P D vwC (wsC ct ad (fr_set B 232 4 (re_f B f 20 4)) g tk fr LP pr) H := hP
    have hD : va_D A (wsC ct ad (fr_set B 232 4 (re_f B f 20 4)) g tk fr LP pr) := hD
    refine W.eq (g2 := F0 m 20 ls []) rfl ?_
    refine lv_goto (tgt := 45) hx hb d_Wa_remove_20 (by decide) ?_
    refine lv_aload_n hx hb d_Wa_remove_45 rfl (lv_at hl 0 rfl) ?_
    refine va_get (D := D) (ci := 4) (v := .ref (ad 2)) (C := R_Wa) (T := T_Wa) (N := 2) hx hb hts u_Wa hown hK hP 4 rfl rfl 1 (by decide) (hts _ w_81) (fun _ h9 => h9) rfl d_Wa_remove_46 ?_
    refine lv_iload_n hx hb d_Wa_remove_49 rfl (lv_at hl 1 rfl) ?_
    refine lv_iconst (v := nI 0) hx hb d_Wa_remove_50 (by decide) ?_
    refine wrV ⟨hx, hb, hml, hown, hts⟩ hK hP hD hS hA (k_Re_setBehind l (f := f) (x_f := x_f) (v := (nI 0)) hx_f ) w_169 m_Re_setBehind ⟨by decide, by decide⟩ 2 rfl rfl rfl hl.1 rfl (Nat.le_of_ble_eq_true rfl) d_Wa_remove_51 ⟨Nat.zero_le _, Nat.zero_le _⟩ (fun H locs hP hD hS => ?_)
    have hP : va_P D vwC (wsC ct ad (re_set (fr_set B 232 4 (re_f B f 20 4)) f 20 4 (nI 0)) g tk fr LP pr) H := hP
    have hD : va_D A (wsC ct ad (re_set (fr_set B 232 4 (re_f B f 20 4)) f 20 4 (nI 0)) g tk fr LP pr) := hD
    refine W.eq (g2 := F0 m 54 ls []) rfl ?_
    have e9 : wsC ct ad (re_set (fr_set B 232 4 (re_f B f 20 4)) f 20 4 (nI 0)) g tk fr LP pr = wsC ct ad (wa_rem B f x_f) g tk fr LP pr := (by unfold wa_rem wa_rem1; first | rw [if_pos (by assumption)] | rw [if_neg (by assumption)])
    rw [e9] at hP hD
    exact W.vret hx hb hr (fun t9 ht hW => ⟨rfl, by rw [ht]; exact hP, hD, hS.F ht⟩) hS.2.2 d_Wa_remove_54
theorem m_Db_give : mV R_Db y_Db_give (Cond.code y_Db_give c_Db_give 2 none) 1 := ⟨⟨w_188, w_189, w_3, w_190⟩, by decide +kernel⟩
set_option maxHeartbeats 4000000 in
set_option maxRecDepth 100000 in
theorem k_Db_give (l : Launch) {D : va_G} {ct : Nat → ClassId} {ad : Nat → Nat} {B : Nat → Int32} {g : Nat → Option Nat} {tk : Nat → Int32} {fr : Int32} {LP : List Nat} {pr : Nat → Nat → Int32} {A : Nat → Prop} {b : Int} {x_b : Int32} (hx_b : x_b.toInt = b)  : Met l y_Db_give (Cond.code y_Db_give c_Db_give 2 none :: wA) (rmk 1 0 0) (va_Pc [.ref (ad 1), .int x_b] (cW A D (tyC ct) (wsC ct ad B g tk fr LP pr))) (wQ none A D (wsC ct ad B g (db_gt tk b) (db_gf tk fr b) LP pr)) 0 0 A := by
  refine Met.ofW (cc := c_Db_give) (maxL := 2) (ret := none) (by decide +kernel) rfl ?_
  intro p e s m args below meth c s₁ B0 hml hv
  obtain ⟨rfl, hA, hP, hD, hK⟩ := hv
  have hS : va_S A s.heap s.heap [] := va_S.rf
  have hx := B0.exec
  have hb := B0.bytes
  have hr := B0.returns
  have hts := fun w (h : w ∈ wA) => atoms_spec (ws := Cond.code y_Db_give c_Db_give 2 none :: wA) B0.pre w (List.mem_cons_of_mem _ h)
  have hown : s.vm.findClass R_Db = some m.cls := findClass_of_methodNamed B0.named
  have hlocks := B0.notSynchronized
  have hl := lv_entry ([.ref (ad 1), .int x_b]) (n := 2) (Nat.le_of_ble_eq_true rfl)
  rw [lg_entry_eq]
  generalize (lg_sl ([.ref (ad 1), .int x_b]) ++ List.replicate (2 - (lg_sl ([.ref (ad 1), .int x_b])).length) Slot.unset).toArray = ls at hl ⊢
  have hl : lv_has ls 2 [(0, .ref (ad 1)), (1, .int x_b)] := hl
  have hf_b := z_lt x_b
  have hg_b := z_ge x_b
  rw [hx_b] at hf_b hg_b
  refine lv_iload_n hx hb d_Db_give_0 rfl (lv_at hl 1 rfl) ?_
  refine lv_iconst (v := nI 4) hx hb d_Db_give_1 (by decide) ?_
  refine lz_icmp_lt (tgt := 38) hx hb hx_b (nI_toInt (by omega)) d_Db_give_2 (by decide) (fun c_1 => ?_) (fun c_1 => ?_)
  · skip
    have e9 : wsC ct ad B g tk fr LP pr = wsC ct ad B g (db_gt tk b) (db_gf tk fr b) LP pr := (by unfold db_gt db_gf; first | (rw [if_neg (by rintro (q | q | q); exact absurd q (by omega); exact absurd q (by omega); exact absurd q (by rw [Int.toNat_natCast]; assumption)), if_neg (by rintro (q | q | q); exact absurd q (by omega); exact absurd q (by omega); exact absurd q (by rw [Int.toNat_natCast]; assumption)), Int.toNat_natCast]; done) | (rw [if_pos (Or.inl (by omega)), if_pos (Or.inl (by omega))]; done) | (rw [if_pos (Or.inr (Or.inl (by omega))), if_pos (Or.inr (Or.inl (by omega)))]; done) | (rw [if_pos (Or.inr (Or.inr (by rw [Int.toNat_natCast]; assumption))), if_pos (Or.inr (Or.inr (by rw [Int.toNat_natCast]; assumption)))]))
    rw [e9] at hP hD
    exact W.vret hx hb hr (fun t9 ht hW => ⟨rfl, by rw [ht]; exact hP, hD, hS.F ht⟩) hS.2.2 d_Db_give_38
  · skip
    refine lv_iload_n hx hb d_Db_give_5 rfl (lv_at hl 1 rfl) ?_
    refine lv_sipush (v := nI 128) hx hb d_Db_give_6 (by decide) ?_
    refine lz_icmp_ge (tgt := 38) hx hb hx_b (nI_toInt (by omega)) d_Db_give_9 (by decide) (fun c_2 => ?_) (fun c_2 => ?_)
    · skip
      have e9 : wsC ct ad B g tk fr LP pr = wsC ct ad B g (db_gt tk b) (db_gf tk fr b) LP pr := (by unfold db_gt db_gf; first | (rw [if_neg (by rintro (q | q | q); exact absurd q (by omega); exact absurd q (by omega); exact absurd q (by rw [Int.toNat_natCast]; assumption)), if_neg (by rintro (q | q | q); exact absurd q (by omega); exact absurd q (by omega); exact absurd q (by rw [Int.toNat_natCast]; assumption)), Int.toNat_natCast]; done) | (rw [if_pos (Or.inl (by omega)), if_pos (Or.inl (by omega))]; done) | (rw [if_pos (Or.inr (Or.inl (by omega))), if_pos (Or.inr (Or.inl (by omega)))]; done) | (rw [if_pos (Or.inr (Or.inr (by rw [Int.toNat_natCast]; assumption))), if_pos (Or.inr (Or.inr (by rw [Int.toNat_natCast]; assumption)))]))
      rw [e9] at hP hD
      exact W.vret hx hb hr (fun t9 ht hW => ⟨rfl, by rw [ht]; exact hP, hD, hS.F ht⟩) hS.2.2 d_Db_give_38
    · skip
      obtain ⟨k, rfl⟩ := Int.eq_ofNat_of_zero_le (show 0 ≤ b by omega)
      obtain rfl : x_b = nI k := z_i hx_b (by omega)
      refine lv_aload_n hx hb d_Db_give_12 rfl (lv_at hl 0 rfl) ?_
      refine va_get (D := D) (ci := 1) (v := .ref (ad 8)) (C := R_Db) (T := T_Db) (N := 3) hx hb hts u_Db hown hK hP 1 rfl rfl 1 (by decide) (hts _ w_54) (fun _ h9 => h9) rfl d_Db_give_13 ?_
      refine lv_iload_n hx hb d_Db_give_16 rfl (lv_at hl 1 rfl) ?_
      refine ln_zald hx hb hK hP 8 1 rfl rfl (by omega) (by decide) d_Db_give_17 ?_
      refine lv_if_eq (tgt := 38) hx hb d_Db_give_18 (by decide) (fun c_3 => ?_) (fun c_3 => ?_)
      · skip
        have e9 : wsC ct ad B g tk fr LP pr = wsC ct ad B g (db_gt tk ((k : Nat) : Int)) (db_gf tk fr ((k : Nat) : Int)) LP pr := (by unfold db_gt db_gf; first | (rw [if_neg (by rintro (q | q | q); exact absurd q (by omega); exact absurd q (by omega); exact absurd q (by rw [Int.toNat_natCast]; assumption)), if_neg (by rintro (q | q | q); exact absurd q (by omega); exact absurd q (by omega); exact absurd q (by rw [Int.toNat_natCast]; assumption)), Int.toNat_natCast]; done) | (rw [if_pos (Or.inl (by omega)), if_pos (Or.inl (by omega))]; done) | (rw [if_pos (Or.inr (Or.inl (by omega))), if_pos (Or.inr (Or.inl (by omega)))]; done) | (rw [if_pos (Or.inr (Or.inr (by rw [Int.toNat_natCast]; assumption))), if_pos (Or.inr (Or.inr (by rw [Int.toNat_natCast]; assumption)))]))
        rw [e9] at hP hD
        exact W.vret hx hb hr (fun t9 ht hW => ⟨rfl, by rw [ht]; exact hP, hD, hS.F ht⟩) hS.2.2 d_Db_give_38
      · skip
        refine lv_aload_n hx hb d_Db_give_21 rfl (lv_at hl 0 rfl) ?_
        refine va_get (D := D) (ci := 1) (v := .ref (ad 8)) (C := R_Db) (T := T_Db) (N := 3) hx hb hts u_Db hown hK hP 1 rfl rfl 1 (by decide) (hts _ w_54) (fun _ h9 => h9) rfl d_Db_give_22 ?_
        refine lv_iload_n hx hb d_Db_give_25 rfl (lv_at hl 1 rfl) ?_
        refine lv_iconst (v := nI 0) hx hb d_Db_give_26 (by decide) ?_
        refine ln_zast hx hb hK hP hD hS 8 1 rfl rfl (by omega) (by decide) d_Db_give_27 (fun H locs hP hD hS => ?_)
        have hP : va_P D vwC (wsC ct ad B g (upd tk k (vp_nar .boolean (nI 0))) fr LP pr) H := hP
        have hD : va_D A (wsC ct ad B g (upd tk k (vp_nar .boolean (nI 0))) fr LP pr) := hD
        refine lv_aload_n hx hb d_Db_give_28 rfl (lv_at hl 0 rfl) ?_
        refine lv_dup hx hb d_Db_give_29 rfl ?_
        refine va_get (D := D) (ci := 1) (v := .int fr) (C := R_Db) (T := T_Db) (N := 3) hx hb hts u_Db hown hK hP 1 rfl rfl 2 (by decide) (hts _ w_55) (fun _ h9 => h9) rfl d_Db_give_30 ?_
        refine lv_iconst (v := nI 1) hx hb d_Db_give_33 (by decide) ?_
        refine lv_iadd hx hb d_Db_give_34 ?_
        refine va_put (D := D) (ci := 1) (v := .int (fr + (nI 1))) (ty := .int) (C := R_Db) (T := T_Db) (N := 3) hx hb hts u_Db t_Db t_Db_ok n_Db hown hK hP hD hS 1 rfl rfl 2 (by decide) (hts _ w_55) (fun _ h9 => h9) rfl (by decide +kernel) rfl rfl (Nat.le_of_ble_eq_true rfl) d_Db_give_35 (fun H locs hP hD hS => ?_)
        have hP : va_P D vwC (wsC ct ad B g (upd tk k (vp_nar .boolean (nI 0))) (fr + (nI 1)) LP pr) H := hP
        have hD : va_D A (wsC ct ad B g (upd tk k (vp_nar .boolean (nI 0))) (fr + (nI 1)) LP pr) := hD
        have e9 : wsC ct ad B g (upd tk k (vp_nar .boolean (nI 0))) (fr + (nI 1)) LP pr = wsC ct ad B g (db_gt tk ((k : Nat) : Int)) (db_gf tk fr ((k : Nat) : Int)) LP pr := (by unfold db_gt db_gf; first | (rw [if_neg (by rintro (q | q | q); exact absurd q (by omega); exact absurd q (by omega); exact absurd q (by rw [Int.toNat_natCast]; assumption)), if_neg (by rintro (q | q | q); exact absurd q (by omega); exact absurd q (by omega); exact absurd q (by rw [Int.toNat_natCast]; assumption)), Int.toNat_natCast]; done) | (rw [if_pos (Or.inl (by omega)), if_pos (Or.inl (by omega))]; done) | (rw [if_pos (Or.inr (Or.inl (by omega))), if_pos (Or.inr (Or.inl (by omega)))]; done) | (rw [if_pos (Or.inr (Or.inr (by rw [Int.toNat_natCast]; assumption))), if_pos (Or.inr (Or.inr (by rw [Int.toNat_natCast]; assumption)))]))
        rw [e9] at hP hD
        exact W.vret hx hb hr (fun t9 ht hW => ⟨rfl, by rw [ht]; exact hP, hD, hS.F ht⟩) hS.2.2 d_Db_give_38
