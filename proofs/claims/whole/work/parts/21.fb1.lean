/-! FileBody: the checks, what only reads, letGo -/
theorem re_abs_le {B : Nat → Int32} : ∀ k f, 0 < f → re_abs B k f ≤ f + k - 1
  | 0, f, h => by rw [re_abs]; omega
  | k + 1, f, h => by
    rw [re_abs]
    by_cases q : re_kind B f = 0
    · rw [if_pos q]; omega
    · rw [if_neg q]; have := re_abs_le (B := B) k (f + 1) (by omega); omega
def lg_S (S : c3) (f : Nat) (x : Int32) : c3 := gbS f 15 0 (wa_rem S.1 f x, S.2.1, S.2.2)
def bo_ax (B : Nat → Int32) (X : Nat → Option (Nat → Int32)) (f i : Nat) : Int32 := if re_kind B f = nI 3 ∧ ¬ nI 59 < re_f B f 4 4 then re_f B f (40 + i) 1 else if re_blk B f ((i / 1024 : Nat) : Int) = 0 then nI 0 else dx_at X (re_blk B f ((i / 1024 : Nat) : Int)).toInt (i % 1024)
theorem bo_at_X {B : Nat → Int32} {g : Nat → Option Nat} {LP : List Nat} {pr : Nat → Nat → Int32} {X : Nat → Option (Nat → Int32)} {f i : Nat} (h : rX g LP pr X) : bo_at B g pr f i = bo_ax B X f i := by
  unfold bo_at bo_ax
  rw [db_at_X h (Nat.mod_lt _ (by decide))]
def rd_c (B : Nat → Int32) (f : Nat) (z : Int) : Nat := if re_kind B f = 0 then 1 else if z < 0 ∨ (re_f B f 4 4).toInt ≤ z then 2 else 0
def ab_c (f : Nat) (z : Int) : Nat := if f ≠ 0 ∧ f ≤ 12 ∧ 0 ≤ z ∧ z ≤ 5 then 0 else 1
def ab_r (B : Nat → Int32) (f : Nat) (z : Int) : Int32 := if z = 0 then re_kind B f else if z = 1 then re_f B f 26 2 else if z = 2 then re_f B f 4 4 else if z = 3 then re_nb B f else if z = 4 then re_blk B f ((0 : Nat) : Int) else re_f B f 20 4
def bk_c (B : Nat → Int32) (f : Nat) (z : Int) : Nat := if re_kind B f = 0 ∨ z < 0 ∨ 15 ≤ z then 1 else 0
def co_c (z : Int) : Nat := if 0 ≤ z ∧ z ≤ 3 then 0 else 1
def co_r (B : Nat → Int32) (fr : Int32) (z : Int) : Int32 := if z = 0 then fr else if z = 1 then nI (re_cnt B 12 1 0) else if z = 2 then nI (wa_many B 12 (fr_num B 232 4) 0) else fr_num B 232 4
def by_c (z u : Int) : Nat := if 0 ≤ z ∧ z < 4 ∧ 0 ≤ u ∧ u < 1024 then 0 else 1
theorem m_Fb_checkThere : mV R_Fb y_Fb_checkThere (Cond.code y_Fb_checkThere c_Fb_checkThere 2 none) 1 := ⟨⟨w_454, wp_12, w_1, w_455⟩, by decide +kernel⟩
set_option maxHeartbeats 4000000 in
set_option maxRecDepth 100000 in
theorem k_Fb_checkThere (l : Launch) (hl9 : l.stackTraces = false) {D : va_G} {ct : Nat → ClassId} {ad : Nat → Nat} {B : Nat → Int32} {tk : Nat → Int32} {fr : Int32} {X : Nat → Option (Nat → Int32)} {A : Nat → Prop} {f : Nat} {x_f : Int32} (hx_f : x_f.toNatClampNeg = f)  : vx_Met l y_Fb_checkThere (Cond.code y_Fb_checkThere c_Fb_checkThere 2 none :: wA) (rmk 5 1 6) (va_Pc [.ref (ad 0), .int x_f] (cS A D ct ad B tk fr X)) (ckQ (¬ re_kind B f = 0)) (ckX (¬ re_kind B f = 0) nIAE) 1 6 A := by
  refine vx_ofW (cc := c_Fb_checkThere) (maxL := 2) (ret := none) (by decide +kernel) rfl ?_
  intro p e s m args below meth c s₁ B0 hml ht9 hv
  obtain ⟨rfl, hA, hE, hK, g, LP, pr, hrx, hP, hD⟩ := hv
  have hS : va_S A s.heap s.heap [] := va_S.rf
  have hx := B0.exec
  have hb := B0.bytes
  have hr := B0.returns
  have hts := fun w (h : w ∈ wA) => atoms_spec (ws := Cond.code y_Fb_checkThere c_Fb_checkThere 2 none :: wA) B0.pre w (List.mem_cons_of_mem _ h)
  have hown : s.vm.findClass R_Fb = some m.cls := findClass_of_methodNamed B0.named
  have hlocks := B0.notSynchronized
  have hl := lv_entry ([.ref (ad 0), .int x_f]) (n := 2) (Nat.le_of_ble_eq_true rfl)
  rw [lg_entry_eq]
  generalize (lg_sl ([.ref (ad 0), .int x_f]) ++ List.replicate (2 - (lg_sl ([.ref (ad 0), .int x_f])).length) Slot.unset).toArray = ls at hl ⊢
  have hl : lv_has ls 2 [(0, .ref (ad 0)), (1, .int x_f)] := hl
  have hf_f : x_f.toInt.toNat = f := hx_f
  have hg_f := z_lt x_f
  refine lv_aload_n hx hb d_Fb_checkThere_0 rfl (lv_at hl 0 rfl) ?_
  refine va_get (D := D) (ci := 5) (v := .ref (ad 2)) (C := R_Fb) (T := T_Fb) (N := 5) hx hb hts u_Fb hown hK hP 0 rfl rfl 2 (by decide) (hts _ w_102) (fun _ h9 => h9) rfl d_Fb_checkThere_1 ?_
  refine lv_iload_n hx hb d_Fb_checkThere_4 rfl (lv_at hl 1 rfl) ?_
  refine rdV ⟨hx, hb, hml, hown, hts⟩ hK hP (k_Re_kindOf l (f := f) (x_f := x_f) hx_f ) w_398 m_Re_kindOf ⟨by decide, by decide⟩ 2 rfl rfl rfl hl.1 rfl (Nat.le_of_ble_eq_true rfl) d_Fb_checkThere_5 ⟨show 0 ≤ 1 by omega, show 0 ≤ 6 by omega⟩ ?_
  refine lv_if_ne (tgt := 21) hx hb d_Fb_checkThere_8 (by decide) (fun c_1 => ?_) (fun c_1 => ?_)
  · skip
    refine W.widen (k := 1) (n := 6) (by omega) (by omega) ?_
    exact vx_ret (W.vret hx hb hr (fun t9 ht hW => ⟨c_1, rfl, ht⟩) hS.2.2 d_Fb_checkThere_21)
  · skip
    exact thFb hx hb hl9 at_IAE (is := 185) (text := "there is no such file") (by decide) hown hts hE hS rfl (hl.1.trans hml.symm) d_Fb_checkThere_11 d_Fb_checkThere_14 d_Fb_checkThere_15 d_Fb_checkThere_17 d_Fb_checkThere_20 ht9 (Nat.le_of_ble_eq_true rfl) (Nat.le_of_ble_eq_true rfl) (show 0 + 1 ≤ 1 by omega) (show 0 + 6 ≤ 6 by omega) hlocks (fun t9 hk9 => ⟨(fun q => q c_1), rfl, hk9⟩) (by omega) (by omega)
theorem m_Fb_checkPlain : mV R_Fb y_Fb_checkPlain (Cond.code y_Fb_checkPlain c_Fb_checkPlain 2 none) 1 := ⟨⟨w_396, wp_10, w_1, w_397⟩, by decide +kernel⟩
set_option maxHeartbeats 4000000 in
set_option maxRecDepth 100000 in
theorem k_Fb_checkPlain (l : Launch) (hl9 : l.stackTraces = false) {D : va_G} {ct : Nat → ClassId} {ad : Nat → Nat} {B : Nat → Int32} {tk : Nat → Int32} {fr : Int32} {X : Nat → Option (Nat → Int32)} {A : Nat → Prop} {f : Nat} {x_f : Int32} (hx_f : x_f.toNatClampNeg = f)  : vx_Met l y_Fb_checkPlain (Cond.code y_Fb_checkPlain c_Fb_checkPlain 2 none :: wA) (rmk 5 1 6) (va_Pc [.ref (ad 0), .int x_f] (cS A D ct ad B tk fr X)) (ckQ (re_kind B f = nI 1)) (ckX (re_kind B f = nI 1) nIAE) 1 6 A := by
  refine vx_ofW (cc := c_Fb_checkPlain) (maxL := 2) (ret := none) (by decide +kernel) rfl ?_
  intro p e s m args below meth c s₁ B0 hml ht9 hv
  obtain ⟨rfl, hA, hE, hK, g, LP, pr, hrx, hP, hD⟩ := hv
  have hS : va_S A s.heap s.heap [] := va_S.rf
  have hx := B0.exec
  have hb := B0.bytes
  have hr := B0.returns
  have hts := fun w (h : w ∈ wA) => atoms_spec (ws := Cond.code y_Fb_checkPlain c_Fb_checkPlain 2 none :: wA) B0.pre w (List.mem_cons_of_mem _ h)
  have hown : s.vm.findClass R_Fb = some m.cls := findClass_of_methodNamed B0.named
  have hlocks := B0.notSynchronized
  have hl := lv_entry ([.ref (ad 0), .int x_f]) (n := 2) (Nat.le_of_ble_eq_true rfl)
  rw [lg_entry_eq]
  generalize (lg_sl ([.ref (ad 0), .int x_f]) ++ List.replicate (2 - (lg_sl ([.ref (ad 0), .int x_f])).length) Slot.unset).toArray = ls at hl ⊢
  have hl : lv_has ls 2 [(0, .ref (ad 0)), (1, .int x_f)] := hl
  have hf_f : x_f.toInt.toNat = f := hx_f
  have hg_f := z_lt x_f
  refine lv_aload_n hx hb d_Fb_checkPlain_0 rfl (lv_at hl 0 rfl) ?_
  refine va_get (D := D) (ci := 5) (v := .ref (ad 2)) (C := R_Fb) (T := T_Fb) (N := 5) hx hb hts u_Fb hown hK hP 0 rfl rfl 2 (by decide) (hts _ w_102) (fun _ h9 => h9) rfl d_Fb_checkPlain_1 ?_
  refine lv_iload_n hx hb d_Fb_checkPlain_4 rfl (lv_at hl 1 rfl) ?_
  refine rdV ⟨hx, hb, hml, hown, hts⟩ hK hP (k_Re_kindOf l (f := f) (x_f := x_f) hx_f ) w_398 m_Re_kindOf ⟨by decide, by decide⟩ 2 rfl rfl rfl hl.1 rfl (Nat.le_of_ble_eq_true rfl) d_Fb_checkPlain_5 ⟨show 0 ≤ 1 by omega, show 0 ≤ 6 by omega⟩ ?_
  refine lv_iconst (v := nI 1) hx hb d_Fb_checkPlain_8 (by decide) ?_
  refine lv_icmp_eq (tgt := 22) hx hb d_Fb_checkPlain_9 (by decide) (fun c_1 => ?_) (fun c_1 => ?_)
  · skip
    refine W.widen (k := 1) (n := 6) (by omega) (by omega) ?_
    exact vx_ret (W.vret hx hb hr (fun t9 ht hW => ⟨c_1, rfl, ht⟩) hS.2.2 d_Fb_checkPlain_22)
  · skip
    exact thFb hx hb hl9 at_IAE (is := 187) (text := "there is no such plain file") (by decide) hown hts hE hS rfl (hl.1.trans hml.symm) d_Fb_checkPlain_12 d_Fb_checkPlain_15 d_Fb_checkPlain_16 d_Fb_checkPlain_18 d_Fb_checkPlain_21 ht9 (Nat.le_of_ble_eq_true rfl) (Nat.le_of_ble_eq_true rfl) (show 0 + 1 ≤ 1 by omega) (show 0 + 6 ≤ 6 by omega) hlocks (fun t9 hk9 => ⟨(fun q => c_1 q), rfl, hk9⟩) (by omega) (by omega)
theorem m_Fb_checkSpan : mV R_Fb y_Fb_checkSpan (Cond.code y_Fb_checkSpan c_Fb_checkSpan 5 none) 4 := ⟨⟨w_392, wp_9, w_1, w_393⟩, by decide +kernel⟩
set_option maxHeartbeats 4000000 in
set_option maxRecDepth 100000 in
theorem k_Fb_checkSpan (l : Launch) (hl9 : l.stackTraces = false) {D : va_G} {ct : Nat → ClassId} {ad : Nat → Nat} {B : Nat → Int32} {tk : Nat → Int32} {fr : Int32} {X : Nat → Option (Nat → Int32)} {A : Nat → Prop} {f : Nat} {x_f : Int32} (hx_f : x_f.toNatClampNeg = f) {a : Int} {x_a : Int32} (hx_a : x_a.toInt = a) {n : Int} {x_n : Int32} (hx_n : x_n.toInt = n) {k : Nat} (h0 : k ≤ 4000) : vx_Met l y_Fb_checkSpan (Cond.code y_Fb_checkSpan c_Fb_checkSpan 5 none :: wA) (rmk 6 2 12) (va_Pc [.ref (ad 0), .int x_f, .int x_a, .int x_n, .int (nI k)] (cS A D ct ad B tk fr X)) (ckQ (re_kind B f = nI 1 ∧ 1 ≤ n ∧ n ≤ k ∧ 0 ≤ a ∧ a ≤ 15360 - n)) (ckX (re_kind B f = nI 1 ∧ 1 ≤ n ∧ n ≤ k ∧ 0 ≤ a ∧ a ≤ 15360 - n) nIAE) 2 12 A := by
  refine vx_ofW (cc := c_Fb_checkSpan) (maxL := 5) (ret := none) (by decide +kernel) rfl ?_
  intro p e s m args below meth c s₁ B0 hml ht9 hv
  obtain ⟨rfl, hA, hE, hK, g, LP, pr, hrx, hP, hD⟩ := hv
  have hS : va_S A s.heap s.heap [] := va_S.rf
  have hx := B0.exec
  have hb := B0.bytes
  have hr := B0.returns
  have hts := fun w (h : w ∈ wA) => atoms_spec (ws := Cond.code y_Fb_checkSpan c_Fb_checkSpan 5 none :: wA) B0.pre w (List.mem_cons_of_mem _ h)
  have hown : s.vm.findClass R_Fb = some m.cls := findClass_of_methodNamed B0.named
  have hlocks := B0.notSynchronized
  have hl := lv_entry ([.ref (ad 0), .int x_f, .int x_a, .int x_n, .int (nI k)]) (n := 5) (Nat.le_of_ble_eq_true rfl)
  rw [lg_entry_eq]
  generalize (lg_sl ([.ref (ad 0), .int x_f, .int x_a, .int x_n, .int (nI k)]) ++ List.replicate (5 - (lg_sl ([.ref (ad 0), .int x_f, .int x_a, .int x_n, .int (nI k)])).length) Slot.unset).toArray = ls at hl ⊢
  have hl : lv_has ls 5 [(0, .ref (ad 0)), (1, .int x_f), (2, .int x_a), (3, .int x_n), (4, .int (nI k))] := hl
  have hf_f : x_f.toInt.toNat = f := hx_f
  have hg_f := z_lt x_f
  have hf_a := z_lt x_a
  have hg_a := z_ge x_a
  rw [hx_a] at hf_a hg_a
  have hf_n := z_lt x_n
  have hg_n := z_ge x_n
  rw [hx_n] at hf_n hg_n
  refine lv_aload_n hx hb d_Fb_checkSpan_0 rfl (lv_at hl 0 rfl) ?_
  refine lv_iload_n hx hb d_Fb_checkSpan_1 rfl (lv_at hl 1 rfl) ?_
  refine ckV ⟨hx, hb, hml, hown, hts⟩ hE hK hrx hP hD hS hA rfl (k_Fb_checkPlain l hl9 (f := f) (x_f := x_f) hx_f ) w_394 m_Fb_checkPlain ⟨by decide, by decide⟩ 0 rfl rfl rfl hl.1 rfl (Nat.le_of_ble_eq_true rfl) d_Fb_checkSpan_2 ⟨show 0 + 1 ≤ 2 by omega, show 0 + 6 ≤ 12 by omega⟩ ht9 hlocks (fun c9 t9 hk9 => ⟨(fun q => c9 q.1), rfl, hk9⟩) (by omega) (by omega) (fun p_1 locs hS => ?_)
  refine lv_iload_n hx hb d_Fb_checkSpan_5 rfl (lv_at hl 3 rfl) ?_
  refine lv_iconst (v := nI 1) hx hb d_Fb_checkSpan_6 (by decide) ?_
  refine lz_icmp_lt (tgt := 16) hx hb hx_n (nI_toInt (by omega)) d_Fb_checkSpan_7 (by decide) (fun c_2 => ?_) (fun c_2 => ?_)
  · skip
    exact thFb hx hb hl9 at_IAE (is := 189) (text := "so many bytes can't be written at once") (by decide) hown hts hE hS rfl (hl.1.trans hml.symm) d_Fb_checkSpan_16 d_Fb_checkSpan_19 d_Fb_checkSpan_20 d_Fb_checkSpan_22 d_Fb_checkSpan_25 ht9 (Nat.le_of_ble_eq_true rfl) (Nat.le_of_ble_eq_true rfl) (show (0 + 1) + 1 ≤ 2 by omega) (show (0 + 6) + 6 ≤ 12 by omega) hlocks (fun t9 hk9 => ⟨(fun q => absurd q.2 (by omega)), rfl, hk9⟩) (by omega) (by omega)
  · skip
    refine lv_iload_n hx hb d_Fb_checkSpan_10 rfl (lv_at hl 3 rfl) ?_
    refine lv_iload hx hb d_Fb_checkSpan_11 (lv_at hl 4 rfl) ?_
    refine lz_icmp_le (tgt := 26) hx hb hx_n (nI_toInt (by omega)) d_Fb_checkSpan_13 (by decide) (fun c_3 => ?_) (fun c_3 => ?_)
    · skip
      refine lv_iload_n hx hb d_Fb_checkSpan_26 rfl (lv_at hl 2 rfl) ?_
      refine lz_if_lt (tgt := 39) hx hb hx_a d_Fb_checkSpan_27 (by decide) (fun c_4 => ?_) (fun c_4 => ?_)
      · skip
        exact thFb hx hb hl9 at_IAE (is := 191) (text := "the place is not in a file") (by decide) hown hts hE hS rfl (hl.1.trans hml.symm) d_Fb_checkSpan_39 d_Fb_checkSpan_42 d_Fb_checkSpan_43 d_Fb_checkSpan_45 d_Fb_checkSpan_48 ht9 (Nat.le_of_ble_eq_true rfl) (Nat.le_of_ble_eq_true rfl) (show (0 + 1) + 1 ≤ 2 by omega) (show (0 + 6) + 6 ≤ 12 by omega) hlocks (fun t9 hk9 => ⟨(fun q => absurd q.2 (by omega)), rfl, hk9⟩) (by omega) (by omega)
      · skip
        refine lv_iload_n hx hb d_Fb_checkSpan_30 rfl (lv_at hl 2 rfl) ?_
        refine lv_sipush (v := nI 15360) hx hb d_Fb_checkSpan_31 (by decide) ?_
        refine lv_iload_n hx hb d_Fb_checkSpan_34 rfl (lv_at hl 3 rfl) ?_
        refine lv_isub hx hb d_Fb_checkSpan_35 ?_
        have z_5 : ((nI 15360) - x_n).toInt = ((15360 : Nat) : Int) - n := z_sub (nI_toInt (by omega)) hx_n (by omega) (by omega)
        refine lz_icmp_le (tgt := 49) hx hb hx_a z_5 d_Fb_checkSpan_36 (by decide) (fun c_6 => ?_) (fun c_6 => ?_)
        · skip
          refine W.widen (k := 2) (n := 12) (by omega) (by omega) ?_
          exact vx_ret (W.vret hx hb hr (fun t9 ht hW => ⟨⟨p_1, by omega⟩, rfl, ht⟩) hS.2.2 d_Fb_checkSpan_49)
        · skip
          exact thFb hx hb hl9 at_IAE (is := 191) (text := "the place is not in a file") (by decide) hown hts hE hS rfl (hl.1.trans hml.symm) d_Fb_checkSpan_39 d_Fb_checkSpan_42 d_Fb_checkSpan_43 d_Fb_checkSpan_45 d_Fb_checkSpan_48 ht9 (Nat.le_of_ble_eq_true rfl) (Nat.le_of_ble_eq_true rfl) (show (0 + 1) + 1 ≤ 2 by omega) (show (0 + 6) + 6 ≤ 12 by omega) hlocks (fun t9 hk9 => ⟨(fun q => absurd q.2 (by omega)), rfl, hk9⟩) (by omega) (by omega)
    · skip
      exact thFb hx hb hl9 at_IAE (is := 189) (text := "so many bytes can't be written at once") (by decide) hown hts hE hS rfl (hl.1.trans hml.symm) d_Fb_checkSpan_16 d_Fb_checkSpan_19 d_Fb_checkSpan_20 d_Fb_checkSpan_22 d_Fb_checkSpan_25 ht9 (Nat.le_of_ble_eq_true rfl) (Nat.le_of_ble_eq_true rfl) (show (0 + 1) + 1 ≤ 2 by omega) (show (0 + 6) + 6 ≤ 12 by omega) hlocks (fun t9 hk9 => ⟨(fun q => absurd q.2 (by omega)), rfl, hk9⟩) (by omega) (by omega)
theorem m_Fb_checkFreeBlocks : mV R_Fb y_Fb_checkFreeBlocks (Cond.code y_Fb_checkFreeBlocks c_Fb_checkFreeBlocks 4 none) 3 := ⟨⟨w_404, wp_11, w_1, w_405⟩, by decide +kernel⟩
set_option maxHeartbeats 4000000 in
set_option maxRecDepth 100000 in
theorem k_Fb_checkFreeBlocks (l : Launch) (hl9 : l.stackTraces = false) {D : va_G} {ct : Nat → ClassId} {ad : Nat → Nat} {B : Nat → Int32} {tk : Nat → Int32} {fr : Int32} {X : Nat → Option (Nat → Int32)} {A : Nat → Prop} {f : Nat} {x_f : Int32} (hx_f : x_f.toNatClampNeg = f) {a : Nat} {n : Nat} (h0 : a + n ≤ 15360) (h1 : 1 ≤ n) : vx_Met l y_Fb_checkFreeBlocks (Cond.code y_Fb_checkFreeBlocks c_Fb_checkFreeBlocks 4 none :: wA) (rmk 6 1 6) (va_Pc [.ref (ad 0), .int x_f, .int (nI a), .int (nI n)] (cS A D ct ad B tk fr X)) (ckQ (nI (bo_want B f ((a + n - 1) / 1024 + 1 - a / 1024) (a / 1024) 0) ≤ fr)) (ckX (nI (bo_want B f ((a + n - 1) / 1024 + 1 - a / 1024) (a / 1024) 0) ≤ fr) nISE) 1 6 A := by
  refine vx_ofW (cc := c_Fb_checkFreeBlocks) (maxL := 4) (ret := none) (by decide +kernel) rfl ?_
  intro p e s m args below meth c s₁ B0 hml ht9 hv
  obtain ⟨rfl, hA, hE, hK, g, LP, pr, hrx, hP, hD⟩ := hv
  have hS : va_S A s.heap s.heap [] := va_S.rf
  have hx := B0.exec
  have hb := B0.bytes
  have hr := B0.returns
  have hts := fun w (h : w ∈ wA) => atoms_spec (ws := Cond.code y_Fb_checkFreeBlocks c_Fb_checkFreeBlocks 4 none :: wA) B0.pre w (List.mem_cons_of_mem _ h)
  have hown : s.vm.findClass R_Fb = some m.cls := findClass_of_methodNamed B0.named
  have hlocks := B0.notSynchronized
  have hl := lv_entry ([.ref (ad 0), .int x_f, .int (nI a), .int (nI n)]) (n := 4) (Nat.le_of_ble_eq_true rfl)
  rw [lg_entry_eq]
  generalize (lg_sl ([.ref (ad 0), .int x_f, .int (nI a), .int (nI n)]) ++ List.replicate (4 - (lg_sl ([.ref (ad 0), .int x_f, .int (nI a), .int (nI n)])).length) Slot.unset).toArray = ls at hl ⊢
  have hl : lv_has ls 4 [(0, .ref (ad 0)), (1, .int x_f), (2, .int (nI a)), (3, .int (nI n))] := hl
  have hf_f : x_f.toInt.toNat = f := hx_f
  have hg_f := z_lt x_f
  refine lv_aload_n hx hb d_Fb_checkFreeBlocks_0 rfl (lv_at hl 0 rfl) ?_
  refine va_get (D := D) (ci := 5) (v := .ref (ad 5)) (C := R_Fb) (T := T_Fb) (N := 5) hx hb hts u_Fb hown hK hP 0 rfl rfl 4 (by decide) (hts _ w_104) (fun _ h9 => h9) rfl d_Fb_checkFreeBlocks_1 ?_
  refine lv_iload_n hx hb d_Fb_checkFreeBlocks_4 rfl (lv_at hl 1 rfl) ?_
  refine lv_iload_n hx hb d_Fb_checkFreeBlocks_5 rfl (lv_at hl 2 rfl) ?_
  refine lv_iload_n hx hb d_Fb_checkFreeBlocks_6 rfl (lv_at hl 3 rfl) ?_
  refine rdV ⟨hx, hb, hml, hown, hts⟩ hK hP (k_Bo_blocksWanted l (f := f) (x_f := x_f) (a := a) (n := n) hx_f (by omega) (by omega)) w_406 m_Bo_blocksWanted ⟨by decide, by decide⟩ 5 rfl rfl rfl hl.1 rfl (Nat.le_of_ble_eq_true rfl) d_Fb_checkFreeBlocks_7 ⟨show 0 ≤ 1 by omega, show 0 ≤ 6 by omega⟩ ?_
  refine lv_aload_n hx hb d_Fb_checkFreeBlocks_10 rfl (lv_at hl 0 rfl) ?_
  refine va_get (D := D) (ci := 5) (v := .ref (ad 1)) (C := R_Fb) (T := T_Fb) (N := 5) hx hb hts u_Fb hown hK hP 0 rfl rfl 1 (by decide) (hts _ w_101) (fun _ h9 => h9) rfl d_Fb_checkFreeBlocks_11 ?_
  refine rdV ⟨hx, hb, hml, hown, hts⟩ hK hP (k_Db_howManyFree l  ) w_322 m_Db_howManyFree ⟨by decide, by decide⟩ 1 rfl rfl rfl hl.1 rfl (Nat.le_of_ble_eq_true rfl) d_Fb_checkFreeBlocks_14 ⟨show 0 ≤ 1 by omega, show 0 ≤ 6 by omega⟩ ?_
  refine lv_icmp_le (tgt := 30) hx hb d_Fb_checkFreeBlocks_17 (by decide) (fun c_1 => ?_) (fun c_1 => ?_)
  · skip
    refine W.widen (k := 1) (n := 6) (by omega) (by omega) ?_
    exact vx_ret (W.vret hx hb hr (fun t9 ht hW => ⟨c_1, rfl, ht⟩) hS.2.2 d_Fb_checkFreeBlocks_30)
  · skip
    exact thFb hx hb hl9 at_ISE (is := 197) (text := "fewer blocks are free than are wanted") (by decide) hown hts hE hS rfl (hl.1.trans hml.symm) d_Fb_checkFreeBlocks_20 d_Fb_checkFreeBlocks_23 d_Fb_checkFreeBlocks_24 d_Fb_checkFreeBlocks_26 d_Fb_checkFreeBlocks_29 ht9 (Nat.le_of_ble_eq_true rfl) (Nat.le_of_ble_eq_true rfl) (show 0 + 1 ≤ 1 by omega) (show 0 + 6 ≤ 6 by omega) hlocks (fun t9 hk9 => ⟨(fun q => c_1 q), rfl, hk9⟩) (by omega) (by omega)
theorem m_Fb_letGo : mV R_Fb y_Fb_letGo (Cond.code y_Fb_letGo c_Fb_letGo 3 (some .int)) 1 := ⟨⟨w_130, wp_0, w_1, w_131⟩, by decide +kernel⟩
set_option maxHeartbeats 4000000 in
set_option maxRecDepth 100000 in
theorem k_Fb_letGo (l : Launch) {D : va_G} {ct : Nat → ClassId} {ad : Nat → Nat} {B : Nat → Int32} {g : Nat → Option Nat} {tk : Nat → Int32} {fr : Int32} {LP : List Nat} {pr : Nat → Nat → Int32} {A : Nat → Prop} {f : Nat} {x_f : Int32} (hx_f : x_f.toNatClampNeg = f)  : Met l y_Fb_letGo (Cond.code y_Fb_letGo c_Fb_letGo 3 (some .int) :: wA) (rmk 6 0 0) (va_Pc [.ref (ad 0), .int x_f] (cW A D (tyC ct) (wsC ct ad B g tk fr LP pr))) (wQ (some (.int (re_nb B f))) A D (wsC ct ad (re_set (lg_S (B, tk, fr) f x_f).1 f 0 256 (nI 0)) g ((lg_S (B, tk, fr) f x_f).2.1) ((lg_S (B, tk, fr) f x_f).2.2) LP pr)) 0 0 A := by
  refine Met.ofW (cc := c_Fb_letGo) (maxL := 3) (ret := (some .int)) (by decide +kernel) rfl ?_
  intro p e s m args below meth c s₁ B0 hml hv
  obtain ⟨rfl, hA, hP, hD, hK⟩ := hv
  have hS : va_S A s.heap s.heap [] := va_S.rf
  have hx := B0.exec
  have hb := B0.bytes
  have hr := B0.returns
  have hts := fun w (h : w ∈ wA) => atoms_spec (ws := Cond.code y_Fb_letGo c_Fb_letGo 3 (some .int) :: wA) B0.pre w (List.mem_cons_of_mem _ h)
  have hown : s.vm.findClass R_Fb = some m.cls := findClass_of_methodNamed B0.named
  have hlocks := B0.notSynchronized
  have hl := lv_entry ([.ref (ad 0), .int x_f]) (n := 3) (Nat.le_of_ble_eq_true rfl)
  rw [lg_entry_eq]
  generalize (lg_sl ([.ref (ad 0), .int x_f]) ++ List.replicate (3 - (lg_sl ([.ref (ad 0), .int x_f])).length) Slot.unset).toArray = ls at hl ⊢
  have hl : lv_has ls 3 [(0, .ref (ad 0)), (1, .int x_f)] := hl
  have hf_f : x_f.toInt.toNat = f := hx_f
  have hg_f := z_lt x_f
  refine lv_aload_n hx hb d_Fb_letGo_0 rfl (lv_at hl 0 rfl) ?_
  refine va_get (D := D) (ci := 5) (v := .ref (ad 2)) (C := R_Fb) (T := T_Fb) (N := 5) hx hb hts u_Fb hown hK hP 0 rfl rfl 2 (by decide) (hts _ w_102) (fun _ h9 => h9) rfl d_Fb_letGo_1 ?_
  refine lv_iload_n hx hb d_Fb_letGo_4 rfl (lv_at hl 1 rfl) ?_
  refine rdV ⟨hx, hb, hml, hown, hts⟩ hK hP (k_Re_blocksOf l (f := f) (x_f := x_f) hx_f ) w_132 m_Re_blocksOf ⟨by decide, by decide⟩ 2 rfl rfl rfl hl.1 rfl (Nat.le_of_ble_eq_true rfl) d_Fb_letGo_5 ⟨Nat.zero_le _, Nat.zero_le _⟩ ?_
  refine lv_istore_n (lv' := [(2, .int (re_nb B f)), (0, .ref (ad 0)), (1, .int x_f)]) hx hb d_Fb_letGo_8 rfl hl (by decide) rfl (fun ls hl => ?_)
  refine lv_aload_n hx hb d_Fb_letGo_9 rfl (lv_at hl 1 rfl) ?_
  refine va_get (D := D) (ci := 5) (v := .ref (ad 4)) (C := R_Fb) (T := T_Fb) (N := 5) hx hb hts u_Fb hown hK hP 0 rfl rfl 3 (by decide) (hts _ w_103) (fun _ h9 => h9) rfl d_Fb_letGo_10 ?_
  refine lv_iload_n hx hb d_Fb_letGo_13 rfl (lv_at hl 2 rfl) ?_
  refine wrV ⟨hx, hb, hml, hown, hts⟩ hK hP hD hS hA (k_Wa_remove l (f := f) (x_f := x_f) hx_f ) w_148 m_Wa_remove ⟨by decide, by decide⟩ 4 rfl rfl rfl hl.1 rfl (Nat.le_of_ble_eq_true rfl) d_Fb_letGo_14 ⟨Nat.zero_le _, Nat.zero_le _⟩ (fun H locs hP hD hS => ?_)
  have hP : va_P D vwC (wsC ct ad (wa_rem B f x_f) g tk fr LP pr) H := hP
  have hD : va_D A (wsC ct ad (wa_rem B f x_f) g tk fr LP pr) := hD
  refine W.eq (g2 := F0 m 17 ls []) rfl ?_
  refine lv_aload_n hx hb d_Fb_letGo_17 rfl (lv_at hl 1 rfl) ?_
  refine va_get (D := D) (ci := 5) (v := .ref (ad 5)) (C := R_Fb) (T := T_Fb) (N := 5) hx hb hts u_Fb hown hK hP 0 rfl rfl 4 (by decide) (hts _ w_104) (fun _ h9 => h9) rfl d_Fb_letGo_18 ?_
  refine lv_iload_n hx hb d_Fb_letGo_21 rfl (lv_at hl 2 rfl) ?_
  refine lv_iconst (v := nI 0) hx hb d_Fb_letGo_22 (by decide) ?_
  refine wrV ⟨hx, hb, hml, hown, hts⟩ hK hP hD hS hA (k_Bo_giveBack l (f := f) (x_f := x_f) (k := 0) hx_f (by omega)) w_178 m_Bo_giveBack ⟨by decide, by decide⟩ 5 rfl rfl rfl hl.1 rfl (Nat.le_of_ble_eq_true rfl) d_Fb_letGo_23 ⟨Nat.zero_le _, Nat.zero_le _⟩ (fun H locs hP hD hS => ?_)
  have hP : va_P D vwC (wsC ct ad ((gbS f (15 - 0) 0 ((wa_rem B f x_f), tk, fr)).1) g ((gbS f (15 - 0) 0 ((wa_rem B f x_f), tk, fr)).2.1) ((gbS f (15 - 0) 0 ((wa_rem B f x_f), tk, fr)).2.2) LP pr) H := hP
  have hD : va_D A (wsC ct ad ((gbS f (15 - 0) 0 ((wa_rem B f x_f), tk, fr)).1) g ((gbS f (15 - 0) 0 ((wa_rem B f x_f), tk, fr)).2.1) ((gbS f (15 - 0) 0 ((wa_rem B f x_f), tk, fr)).2.2) LP pr) := hD
  refine W.eq (g2 := F0 m 26 ls []) rfl ?_
  refine lv_aload_n hx hb d_Fb_letGo_26 rfl (lv_at hl 1 rfl) ?_
  refine va_get (D := D) (ci := 5) (v := .ref (ad 2)) (C := R_Fb) (T := T_Fb) (N := 5) hx hb hts u_Fb hown hK hP 0 rfl rfl 2 (by decide) (hts _ w_102) (fun _ h9 => h9) rfl d_Fb_letGo_27 ?_
  refine lv_iload_n hx hb d_Fb_letGo_30 rfl (lv_at hl 2 rfl) ?_
  refine wrV ⟨hx, hb, hml, hown, hts⟩ hK hP hD hS hA (k_Re_erase l (f := f) (x_f := x_f) hx_f ) w_195 m_Re_erase ⟨by decide, by decide⟩ 2 rfl rfl rfl hl.1 rfl (Nat.le_of_ble_eq_true rfl) d_Fb_letGo_31 ⟨Nat.zero_le _, Nat.zero_le _⟩ (fun H locs hP hD hS => ?_)
  have hP : va_P D vwC (wsC ct ad (re_set ((gbS f (15 - 0) 0 ((wa_rem B f x_f), tk, fr)).1) f 0 256 (nI 0)) g ((gbS f (15 - 0) 0 ((wa_rem B f x_f), tk, fr)).2.1) ((gbS f (15 - 0) 0 ((wa_rem B f x_f), tk, fr)).2.2) LP pr) H := hP
  have hD : va_D A (wsC ct ad (re_set ((gbS f (15 - 0) 0 ((wa_rem B f x_f), tk, fr)).1) f 0 256 (nI 0)) g ((gbS f (15 - 0) 0 ((wa_rem B f x_f), tk, fr)).2.1) ((gbS f (15 - 0) 0 ((wa_rem B f x_f), tk, fr)).2.2) LP pr) := hD
  refine W.eq (g2 := F0 m 34 ls []) rfl ?_
  refine lv_iload_n hx hb d_Fb_letGo_34 rfl (lv_at hl 0 rfl) ?_
  have e9 : wsC ct ad (re_set ((gbS f (15 - 0) 0 ((wa_rem B f x_f), tk, fr)).1) f 0 256 (nI 0)) g ((gbS f (15 - 0) 0 ((wa_rem B f x_f), tk, fr)).2.1) ((gbS f (15 - 0) 0 ((wa_rem B f x_f), tk, fr)).2.2) LP pr = wsC ct ad (re_set (lg_S (B, tk, fr) f x_f).1 f 0 256 (nI 0)) g ((lg_S (B, tk, fr) f x_f).2.1) ((lg_S (B, tk, fr) f x_f).2.2) LP pr := rfl
  rw [e9] at hP hD
  exact W.iret (v := re_nb B f) hx hb hr (fun t9 ht hW => ⟨congrArg (fun z => Outcome.returned (some (Value.int z))) (show re_nb B f = (re_nb B f) from rfl), by rw [ht]; exact hP, hD, hS.F ht⟩) hS.2.2 d_Fb_letGo_35
theorem m_Fb_read : mV R_Fb y_Fb_read (Cond.code y_Fb_read c_Fb_read 3 (some .int)) 2 := ⟨⟨w_449, w_450, w_1, w_451⟩, by decide +kernel⟩
set_option maxHeartbeats 4000000 in
set_option maxRecDepth 100000 in
theorem k_Fb_read (l : Launch) (hl9 : l.stackTraces = false) {D : va_G} {ct : Nat → ClassId} {ad : Nat → Nat} {B : Nat → Int32} {tk : Nat → Int32} {fr : Int32} {X : Nat → Option (Nat → Int32)} {A : Nat → Prop} {f : Nat} {x_f : Int32} (hx_f : x_f.toNatClampNeg = f) {i : Int} {x_i : Int32} (hx_i : x_i.toInt = i)  : vx_Met l y_Fb_read (Cond.code y_Fb_read c_Fb_read 3 (some .int) :: wA) (rmk 6 2 12) (va_Pc [.ref (ad 0), .int x_f, .int x_i] (cS A D ct ad B tk fr X)) (tQ (rd_c B f i) (some (.int (bo_ax B X f i.toNat))) A D ct ad B tk fr X) (tX (rd_c B f i) nIAE nIOE) 2 12 A := by
  refine vx_ofW (cc := c_Fb_read) (maxL := 3) (ret := (some .int)) (by decide +kernel) rfl ?_
  intro p e s m args below meth c s₁ B0 hml ht9 hv
  obtain ⟨rfl, hA, hE, hK, g, LP, pr, hrx, hP, hD⟩ := hv
  have hS : va_S A s.heap s.heap [] := va_S.rf
  have hx := B0.exec
  have hb := B0.bytes
  have hr := B0.returns
  have hts := fun w (h : w ∈ wA) => atoms_spec (ws := Cond.code y_Fb_read c_Fb_read 3 (some .int) :: wA) B0.pre w (List.mem_cons_of_mem _ h)
  have hown : s.vm.findClass R_Fb = some m.cls := findClass_of_methodNamed B0.named
  have hlocks := B0.notSynchronized
  have hl := lv_entry ([.ref (ad 0), .int x_f, .int x_i]) (n := 3) (Nat.le_of_ble_eq_true rfl)
  rw [lg_entry_eq]
  generalize (lg_sl ([.ref (ad 0), .int x_f, .int x_i]) ++ List.replicate (3 - (lg_sl ([.ref (ad 0), .int x_f, .int x_i])).length) Slot.unset).toArray = ls at hl ⊢
  have hl : lv_has ls 3 [(0, .ref (ad 0)), (1, .int x_f), (2, .int x_i)] := hl
  have hf_f : x_f.toInt.toNat = f := hx_f
  have hg_f := z_lt x_f
  have hf_i := z_lt x_i
  have hg_i := z_ge x_i
  rw [hx_i] at hf_i hg_i
  refine lv_aload_n hx hb d_Fb_read_0 rfl (lv_at hl 0 rfl) ?_
  refine lv_iload_n hx hb d_Fb_read_1 rfl (lv_at hl 1 rfl) ?_
  refine ckV ⟨hx, hb, hml, hown, hts⟩ hE hK hrx hP hD hS hA rfl (k_Fb_checkThere l hl9 (f := f) (x_f := x_f) hx_f ) w_452 m_Fb_checkThere ⟨by decide, by decide⟩ 0 rfl rfl rfl hl.1 rfl (Nat.le_of_ble_eq_true rfl) d_Fb_read_2 ⟨show 0 + 1 ≤ 2 by omega, show 0 + 6 ≤ 12 by omega⟩ ht9 hlocks (fun c9 t9 hk9 => ⟨Or.inl ⟨(if_pos (Decidable.not_not.mp c9)), rfl⟩, hk9⟩) (by omega) (by omega) (fun p_1 locs hS => ?_)
  refine lv_iload_n hx hb d_Fb_read_5 rfl (lv_at hl 2 rfl) ?_
  refine lz_if_lt (tgt := 21) hx hb hx_i d_Fb_read_6 (by decide) (fun c_2 => ?_) (fun c_2 => ?_)
  · skip
    exact thFb hx hb hl9 at_IOE (is := 114) (text := "i is not 0 .. size less 1") (by decide) hown hts hE hS rfl (hl.1.trans hml.symm) d_Fb_read_21 d_Fb_read_24 d_Fb_read_25 d_Fb_read_27 d_Fb_read_30 ht9 (Nat.le_of_ble_eq_true rfl) (Nat.le_of_ble_eq_true rfl) (show (0 + 1) + 1 ≤ 2 by omega) (show (0 + 6) + 6 ≤ 12 by omega) hlocks (fun t9 hk9 => ⟨Or.inr ⟨(by unfold rd_c; rw [if_neg p_1, if_pos (by omega)]), rfl⟩, hk9⟩) (by omega) (by omega)
  · skip
    refine lv_iload_n hx hb d_Fb_read_9 rfl (lv_at hl 2 rfl) ?_
    refine lv_aload_n hx hb d_Fb_read_10 rfl (lv_at hl 0 rfl) ?_
    refine va_get (D := D) (ci := 5) (v := .ref (ad 2)) (C := R_Fb) (T := T_Fb) (N := 5) hx hb hts u_Fb hown hK hP 0 rfl rfl 2 (by decide) (hts _ w_102) (fun _ h9 => h9) rfl d_Fb_read_11 ?_
    refine lv_iload_n hx hb d_Fb_read_14 rfl (lv_at hl 1 rfl) ?_
    refine rdV ⟨hx, hb, hml, hown, hts⟩ hK hP (k_Re_sizeOf l (f := f) (x_f := x_f) hx_f ) w_425 m_Re_sizeOf ⟨by decide, by decide⟩ 2 rfl rfl rfl hl.1 rfl (Nat.le_of_ble_eq_true rfl) d_Fb_read_15 ⟨show (0 + 1) ≤ 2 by omega, show (0 + 6) ≤ 12 by omega⟩ ?_
    refine lv_icmp_lt (tgt := 31) hx hb d_Fb_read_18 (by decide) (fun c_3 => ?_) (fun c_3 => ?_)
    · skip
      have hsz : i < (re_f B f 4 4).toInt := by have w := Int32.lt_iff_toInt_lt.mp c_3; rw [hx_i] at w; exact w
      obtain ⟨j, rfl⟩ := Int.eq_ofNat_of_zero_le (show 0 ≤ i by omega)
      obtain rfl : x_i = nI j := z_i hx_i (by omega)
      refine lv_aload_n hx hb d_Fb_read_31 rfl (lv_at hl 0 rfl) ?_
      refine va_get (D := D) (ci := 5) (v := .ref (ad 5)) (C := R_Fb) (T := T_Fb) (N := 5) hx hb hts u_Fb hown hK hP 0 rfl rfl 4 (by decide) (hts _ w_104) (fun _ h9 => h9) rfl d_Fb_read_32 ?_
      refine lv_iload_n hx hb d_Fb_read_35 rfl (lv_at hl 1 rfl) ?_
      refine lv_iload_n hx hb d_Fb_read_36 rfl (lv_at hl 2 rfl) ?_
      refine rdV ⟨hx, hb, hml, hown, hts⟩ hK hP (k_Bo_byteAt l (f := f) (x_f := x_f) (i := j) hx_f (rX_gOK hrx) (by omega) (fun w => by have w2 := w.2; rw [Int32.lt_iff_toInt_lt, nI_toInt (by decide)] at w2; omega)) w_473 m_Bo_byteAt ⟨by decide, by decide⟩ 5 rfl rfl rfl hl.1 rfl (Nat.le_of_ble_eq_true rfl) d_Fb_read_37 ⟨show (0 + 1) ≤ 2 by omega, show (0 + 6) ≤ 12 by omega⟩ ?_
      have hC9 : cX A D ct ad B tk fr X s.heap := ⟨g, LP, pr, hrx, hP, hD⟩
      have e9 : cX A D ct ad B tk fr X = cX A D ct ad B tk fr X := rfl
      rw [e9] at hC9
      refine W.widen (k := 2) (n := 12) (by omega) (by omega) ?_
      exact vx_ret (W.iret (v := bo_at B g pr f j) hx hb hr (fun t9 ht hW => ⟨(by unfold rd_c; rw [if_neg p_1, if_neg (by omega)]), congrArg (fun z => Outcome.returned (some (Value.int z))) (show bo_at B g pr f j = (bo_ax B X f ((j : Nat) : Int).toNat) from (by rw [bo_at_X hrx]; rfl)), by rw [ht]; exact hC9, hS.F ht⟩) hS.2.2 d_Fb_read_40)
    · skip
      have hsz : (re_f B f 4 4).toInt ≤ i := by have w := mt Int32.lt_iff_toInt_lt.mpr c_3; rw [hx_i] at w; omega
      exact thFb hx hb hl9 at_IOE (is := 114) (text := "i is not 0 .. size less 1") (by decide) hown hts hE hS rfl (hl.1.trans hml.symm) d_Fb_read_21 d_Fb_read_24 d_Fb_read_25 d_Fb_read_27 d_Fb_read_30 ht9 (Nat.le_of_ble_eq_true rfl) (Nat.le_of_ble_eq_true rfl) (show (0 + 1) + 1 ≤ 2 by omega) (show (0 + 6) + 6 ≤ 12 by omega) hlocks (fun t9 hk9 => ⟨Or.inr ⟨(by unfold rd_c; rw [if_neg p_1, if_pos (by omega)]), rfl⟩, hk9⟩) (by omega) (by omega)
theorem m_Fb_about : mV R_Fb y_Fb_about (Cond.code y_Fb_about c_Fb_about 3 (some .int)) 2 := ⟨⟨w_790, w_791, w_1, w_792⟩, by decide +kernel⟩
set_option maxHeartbeats 4000000 in
set_option maxRecDepth 100000 in
theorem k_Fb_about (l : Launch) (hl9 : l.stackTraces = false) {D : va_G} {ct : Nat → ClassId} {ad : Nat → Nat} {B : Nat → Int32} {tk : Nat → Int32} {fr : Int32} {X : Nat → Option (Nat → Int32)} {A : Nat → Prop} {f : Nat} {x_f : Int32} (hx_f : x_f.toNatClampNeg = f) {z : Int} {x_z : Int32} (hx_z : x_z.toInt = z)  : vx_Met l y_Fb_about (Cond.code y_Fb_about c_Fb_about 3 (some .int) :: wA) (rmk 6 1 6) (va_Pc [.ref (ad 0), .int x_f, .int x_z] (cS A D ct ad B tk fr X)) (tQ (ab_c f z) (some (.int (ab_r B f z))) A D ct ad B tk fr X) (tX (ab_c f z) nIAE nIAE) 1 6 A := by
  refine vx_ofW (cc := c_Fb_about) (maxL := 3) (ret := (some .int)) (by decide +kernel) rfl ?_
  intro p e s m args below meth c s₁ B0 hml ht9 hv
  obtain ⟨rfl, hA, hE, hK, g, LP, pr, hrx, hP, hD⟩ := hv
  have hS : va_S A s.heap s.heap [] := va_S.rf
  have hx := B0.exec
  have hb := B0.bytes
  have hr := B0.returns
  have hts := fun w (h : w ∈ wA) => atoms_spec (ws := Cond.code y_Fb_about c_Fb_about 3 (some .int) :: wA) B0.pre w (List.mem_cons_of_mem _ h)
  have hown : s.vm.findClass R_Fb = some m.cls := findClass_of_methodNamed B0.named
  have hlocks := B0.notSynchronized
  have hl := lv_entry ([.ref (ad 0), .int x_f, .int x_z]) (n := 3) (Nat.le_of_ble_eq_true rfl)
  rw [lg_entry_eq]
  generalize (lg_sl ([.ref (ad 0), .int x_f, .int x_z]) ++ List.replicate (3 - (lg_sl ([.ref (ad 0), .int x_f, .int x_z])).length) Slot.unset).toArray = ls at hl ⊢
  have hl : lv_has ls 3 [(0, .ref (ad 0)), (1, .int x_f), (2, .int x_z)] := hl
  have hf_f : x_f.toInt.toNat = f := hx_f
  have hg_f := z_lt x_f
  have hf_z := z_lt x_z
  have hg_z := z_ge x_z
  rw [hx_z] at hf_z hg_z
  refine lv_aload_n hx hb d_Fb_about_0 rfl (lv_at hl 0 rfl) ?_
  refine va_get (D := D) (ci := 5) (v := .ref (ad 2)) (C := R_Fb) (T := T_Fb) (N := 5) hx hb hts u_Fb hown hK hP 0 rfl rfl 2 (by decide) (hts _ w_102) (fun _ h9 => h9) rfl d_Fb_about_1 ?_
  refine lv_iload_n hx hb d_Fb_about_4 rfl (lv_at hl 1 rfl) ?_
  refine rdV ⟨hx, hb, hml, hown, hts⟩ hK hP (k_Re_isNumber l (f := f) (x_f := x_f) hx_f ) w_793 m_Re_isNumber ⟨by decide, by decide⟩ 2 rfl rfl rfl hl.1 rfl (Nat.le_of_ble_eq_true rfl) d_Fb_about_5 ⟨show 0 ≤ 1 by omega, show 0 ≤ 6 by omega⟩ ?_
  refine lb_if_ne (tgt := 21) hx hb d_Fb_about_8 (by decide) (fun c_1 => ?_) (fun c_1 => ?_)
  · skip
    refine lv_iload_n hx hb d_Fb_about_21 rfl (lv_at hl 2 rfl) ?_
    rcases (show z < 0 ∨ 5 < z ∨ z = 0 ∨ z = 1 ∨ z = 2 ∨ z = 3 ∨ z = 4 ∨ z = 5 by omega) with s9 | s9 | rfl | rfl | rfl | rfl | rfl | rfl
    · refine lv_tableOut (tgt := 115) hx hb d_Fb_about_22 (Or.inl (by rw [hx_z]; exact s9)) (by decide) ?_
      exact thFb hx hb hl9 at_IAE (is := 166) (text := "what is not 0 .. 5") (by decide) hown hts hE hS rfl (hl.1.trans hml.symm) d_Fb_about_115 d_Fb_about_118 d_Fb_about_119 d_Fb_about_121 d_Fb_about_124 ht9 (Nat.le_of_ble_eq_true rfl) (Nat.le_of_ble_eq_true rfl) (show 0 + 1 ≤ 1 by omega) (show 0 + 6 ≤ 6 by omega) hlocks (fun t9 hk9 => ⟨Or.inl ⟨(by unfold ab_c; rw [if_neg (by omega)]), rfl⟩, hk9⟩) (by omega) (by omega)
    · refine lv_tableOut (tgt := 115) hx hb d_Fb_about_22 (Or.inr (by rw [hx_z]; exact s9)) (by decide) ?_
      exact thFb hx hb hl9 at_IAE (is := 166) (text := "what is not 0 .. 5") (by decide) hown hts hE hS rfl (hl.1.trans hml.symm) d_Fb_about_115 d_Fb_about_118 d_Fb_about_119 d_Fb_about_121 d_Fb_about_124 ht9 (Nat.le_of_ble_eq_true rfl) (Nat.le_of_ble_eq_true rfl) (show 0 + 1 ≤ 1 by omega) (show 0 + 6 ≤ 6 by omega) hlocks (fun t9 hk9 => ⟨Or.inl ⟨(by unfold ab_c; rw [if_neg (by omega)]), rfl⟩, hk9⟩) (by omega) (by omega)
    · refine lv_tableIn (off := 38) (tgt := 60) hx hb d_Fb_about_22 (by rw [hx_z]; decide) (by rw [hx_z]; decide) (by rw [hx_z]; rfl) (by decide) ?_
      refine lv_aload_n hx hb d_Fb_about_60 rfl (lv_at hl 0 rfl) ?_
      refine va_get (D := D) (ci := 5) (v := .ref (ad 2)) (C := R_Fb) (T := T_Fb) (N := 5) hx hb hts u_Fb hown hK hP 0 rfl rfl 2 (by decide) (hts _ w_102) (fun _ h9 => h9) rfl d_Fb_about_61 ?_
      refine lv_iload_n hx hb d_Fb_about_64 rfl (lv_at hl 1 rfl) ?_
      refine rdV ⟨hx, hb, hml, hown, hts⟩ hK hP (k_Re_kindOf l (f := f) (x_f := x_f) hx_f ) w_398 m_Re_kindOf ⟨by decide, by decide⟩ 2 rfl rfl rfl hl.1 rfl (Nat.le_of_ble_eq_true rfl) d_Fb_about_65 ⟨show 0 ≤ 1 by omega, show 0 ≤ 6 by omega⟩ ?_
      have hC9 : cX A D ct ad B tk fr X s.heap := ⟨g, LP, pr, hrx, hP, hD⟩
      have e9 : cX A D ct ad B tk fr X = cX A D ct ad B tk fr X := rfl
      rw [e9] at hC9
      refine W.widen (k := 1) (n := 6) (by omega) (by omega) ?_
      exact vx_ret (W.iret (v := re_kind B f) hx hb hr (fun t9 ht hW => ⟨(by unfold ab_c; rw [if_pos (by omega)]), congrArg (fun z => Outcome.returned (some (Value.int z))) (show re_kind B f = (ab_r B f (0 : Int)) from rfl), by rw [ht]; exact hC9, hS.F ht⟩) hS.2.2 d_Fb_about_68)
    · refine lv_tableIn (off := 47) (tgt := 69) hx hb d_Fb_about_22 (by rw [hx_z]; decide) (by rw [hx_z]; decide) (by rw [hx_z]; rfl) (by decide) ?_
      refine lv_aload_n hx hb d_Fb_about_69 rfl (lv_at hl 0 rfl) ?_
      refine va_get (D := D) (ci := 5) (v := .ref (ad 2)) (C := R_Fb) (T := T_Fb) (N := 5) hx hb hts u_Fb hown hK hP 0 rfl rfl 2 (by decide) (hts _ w_102) (fun _ h9 => h9) rfl d_Fb_about_70 ?_
      refine lv_iload_n hx hb d_Fb_about_73 rfl (lv_at hl 1 rfl) ?_
      refine rdV ⟨hx, hb, hml, hown, hts⟩ hK hP (k_Re_linksOf l (f := f) (x_f := x_f) hx_f ) w_772 m_Re_linksOf ⟨by decide, by decide⟩ 2 rfl rfl rfl hl.1 rfl (Nat.le_of_ble_eq_true rfl) d_Fb_about_74 ⟨show 0 ≤ 1 by omega, show 0 ≤ 6 by omega⟩ ?_
      have hC9 : cX A D ct ad B tk fr X s.heap := ⟨g, LP, pr, hrx, hP, hD⟩
      have e9 : cX A D ct ad B tk fr X = cX A D ct ad B tk fr X := rfl
      rw [e9] at hC9
      refine W.widen (k := 1) (n := 6) (by omega) (by omega) ?_
      exact vx_ret (W.iret (v := re_f B f 26 2) hx hb hr (fun t9 ht hW => ⟨(by unfold ab_c; rw [if_pos (by omega)]), congrArg (fun z => Outcome.returned (some (Value.int z))) (show re_f B f 26 2 = (ab_r B f (1 : Int)) from rfl), by rw [ht]; exact hC9, hS.F ht⟩) hS.2.2 d_Fb_about_77)
    · refine lv_tableIn (off := 56) (tgt := 78) hx hb d_Fb_about_22 (by rw [hx_z]; decide) (by rw [hx_z]; decide) (by rw [hx_z]; rfl) (by decide) ?_
      refine lv_aload_n hx hb d_Fb_about_78 rfl (lv_at hl 0 rfl) ?_
      refine va_get (D := D) (ci := 5) (v := .ref (ad 2)) (C := R_Fb) (T := T_Fb) (N := 5) hx hb hts u_Fb hown hK hP 0 rfl rfl 2 (by decide) (hts _ w_102) (fun _ h9 => h9) rfl d_Fb_about_79 ?_
      refine lv_iload_n hx hb d_Fb_about_82 rfl (lv_at hl 1 rfl) ?_
      refine rdV ⟨hx, hb, hml, hown, hts⟩ hK hP (k_Re_sizeOf l (f := f) (x_f := x_f) hx_f ) w_425 m_Re_sizeOf ⟨by decide, by decide⟩ 2 rfl rfl rfl hl.1 rfl (Nat.le_of_ble_eq_true rfl) d_Fb_about_83 ⟨show 0 ≤ 1 by omega, show 0 ≤ 6 by omega⟩ ?_
      have hC9 : cX A D ct ad B tk fr X s.heap := ⟨g, LP, pr, hrx, hP, hD⟩
      have e9 : cX A D ct ad B tk fr X = cX A D ct ad B tk fr X := rfl
      rw [e9] at hC9
      refine W.widen (k := 1) (n := 6) (by omega) (by omega) ?_
      exact vx_ret (W.iret (v := re_f B f 4 4) hx hb hr (fun t9 ht hW => ⟨(by unfold ab_c; rw [if_pos (by omega)]), congrArg (fun z => Outcome.returned (some (Value.int z))) (show re_f B f 4 4 = (ab_r B f (2 : Int)) from rfl), by rw [ht]; exact hC9, hS.F ht⟩) hS.2.2 d_Fb_about_86)
    · refine lv_tableIn (off := 65) (tgt := 87) hx hb d_Fb_about_22 (by rw [hx_z]; decide) (by rw [hx_z]; decide) (by rw [hx_z]; rfl) (by decide) ?_
      refine lv_aload_n hx hb d_Fb_about_87 rfl (lv_at hl 0 rfl) ?_
      refine va_get (D := D) (ci := 5) (v := .ref (ad 2)) (C := R_Fb) (T := T_Fb) (N := 5) hx hb hts u_Fb hown hK hP 0 rfl rfl 2 (by decide) (hts _ w_102) (fun _ h9 => h9) rfl d_Fb_about_88 ?_
      refine lv_iload_n hx hb d_Fb_about_91 rfl (lv_at hl 1 rfl) ?_
      refine rdV ⟨hx, hb, hml, hown, hts⟩ hK hP (k_Re_blocksOf l (f := f) (x_f := x_f) hx_f ) w_132 m_Re_blocksOf ⟨by decide, by decide⟩ 2 rfl rfl rfl hl.1 rfl (Nat.le_of_ble_eq_true rfl) d_Fb_about_92 ⟨show 0 ≤ 1 by omega, show 0 ≤ 6 by omega⟩ ?_
      have hC9 : cX A D ct ad B tk fr X s.heap := ⟨g, LP, pr, hrx, hP, hD⟩
      have e9 : cX A D ct ad B tk fr X = cX A D ct ad B tk fr X := rfl
      rw [e9] at hC9
      refine W.widen (k := 1) (n := 6) (by omega) (by omega) ?_
      exact vx_ret (W.iret (v := re_nb B f) hx hb hr (fun t9 ht hW => ⟨(by unfold ab_c; rw [if_pos (by omega)]), congrArg (fun z => Outcome.returned (some (Value.int z))) (show re_nb B f = (ab_r B f (3 : Int)) from rfl), by rw [ht]; exact hC9, hS.F ht⟩) hS.2.2 d_Fb_about_95)
    · refine lv_tableIn (off := 74) (tgt := 96) hx hb d_Fb_about_22 (by rw [hx_z]; decide) (by rw [hx_z]; decide) (by rw [hx_z]; rfl) (by decide) ?_
      refine lv_aload_n hx hb d_Fb_about_96 rfl (lv_at hl 0 rfl) ?_
      refine va_get (D := D) (ci := 5) (v := .ref (ad 2)) (C := R_Fb) (T := T_Fb) (N := 5) hx hb hts u_Fb hown hK hP 0 rfl rfl 2 (by decide) (hts _ w_102) (fun _ h9 => h9) rfl d_Fb_about_97 ?_
      refine lv_iload_n hx hb d_Fb_about_100 rfl (lv_at hl 1 rfl) ?_
      refine lv_iconst (v := nI 0) hx hb d_Fb_about_101 (by decide) ?_
      refine rdV ⟨hx, hb, hml, hown, hts⟩ hK hP (k_Re_blockOf l (f := f) (x_f := x_f) (z := ((0 : Nat) : Int)) (x_z := (nI 0)) hx_f (nI_toInt (by omega)) ) w_795 m_Re_blockOf ⟨by decide, by decide⟩ 2 rfl rfl rfl hl.1 rfl (Nat.le_of_ble_eq_true rfl) d_Fb_about_102 ⟨show 0 ≤ 1 by omega, show 0 ≤ 6 by omega⟩ ?_
      have hC9 : cX A D ct ad B tk fr X s.heap := ⟨g, LP, pr, hrx, hP, hD⟩
      have e9 : cX A D ct ad B tk fr X = cX A D ct ad B tk fr X := rfl
      rw [e9] at hC9
      refine W.widen (k := 1) (n := 6) (by omega) (by omega) ?_
      exact vx_ret (W.iret (v := re_blk B f ((0 : Nat) : Int)) hx hb hr (fun t9 ht hW => ⟨(by unfold ab_c; rw [if_pos (by omega)]), congrArg (fun z => Outcome.returned (some (Value.int z))) (show re_blk B f ((0 : Nat) : Int) = (ab_r B f (4 : Int)) from rfl), by rw [ht]; exact hC9, hS.F ht⟩) hS.2.2 d_Fb_about_105)
    · refine lv_tableIn (off := 84) (tgt := 106) hx hb d_Fb_about_22 (by rw [hx_z]; decide) (by rw [hx_z]; decide) (by rw [hx_z]; rfl) (by decide) ?_
      refine lv_aload_n hx hb d_Fb_about_106 rfl (lv_at hl 0 rfl) ?_
      refine va_get (D := D) (ci := 5) (v := .ref (ad 2)) (C := R_Fb) (T := T_Fb) (N := 5) hx hb hts u_Fb hown hK hP 0 rfl rfl 2 (by decide) (hts _ w_102) (fun _ h9 => h9) rfl d_Fb_about_107 ?_
      refine lv_iload_n hx hb d_Fb_about_110 rfl (lv_at hl 1 rfl) ?_
      refine rdV ⟨hx, hb, hml, hown, hts⟩ hK hP (k_Re_behind l (f := f) (x_f := x_f) hx_f ) w_796 m_Re_behind ⟨by decide, by decide⟩ 2 rfl rfl rfl hl.1 rfl (Nat.le_of_ble_eq_true rfl) d_Fb_about_111 ⟨show 0 ≤ 1 by omega, show 0 ≤ 6 by omega⟩ ?_
      have hC9 : cX A D ct ad B tk fr X s.heap := ⟨g, LP, pr, hrx, hP, hD⟩
      have e9 : cX A D ct ad B tk fr X = cX A D ct ad B tk fr X := rfl
      rw [e9] at hC9
      refine W.widen (k := 1) (n := 6) (by omega) (by omega) ?_
      exact vx_ret (W.iret (v := re_f B f 20 4) hx hb hr (fun t9 ht hW => ⟨(by unfold ab_c; rw [if_pos (by omega)]), congrArg (fun z => Outcome.returned (some (Value.int z))) (show re_f B f 20 4 = (ab_r B f (5 : Int)) from rfl), by rw [ht]; exact hC9, hS.F ht⟩) hS.2.2 d_Fb_about_114)
  · skip
    exact thFb hx hb hl9 at_IAE (is := 152) (text := "file is not 1 .. 12") (by decide) hown hts hE hS rfl (hl.1.trans hml.symm) d_Fb_about_11 d_Fb_about_14 d_Fb_about_15 d_Fb_about_17 d_Fb_about_20 ht9 (Nat.le_of_ble_eq_true rfl) (Nat.le_of_ble_eq_true rfl) (show 0 + 1 ≤ 1 by omega) (show 0 + 6 ≤ 6 by omega) hlocks (fun t9 hk9 => ⟨Or.inl ⟨(by unfold ab_c; rw [if_neg (by omega)]), rfl⟩, hk9⟩) (by omega) (by omega)
theorem m_Fb_block : mV R_Fb y_Fb_block (Cond.code y_Fb_block c_Fb_block 3 (some .int)) 2 := ⟨⟨w_802, w_803, w_1, w_804⟩, by decide +kernel⟩
set_option maxHeartbeats 4000000 in
set_option maxRecDepth 100000 in
theorem k_Fb_block (l : Launch) (hl9 : l.stackTraces = false) {D : va_G} {ct : Nat → ClassId} {ad : Nat → Nat} {B : Nat → Int32} {tk : Nat → Int32} {fr : Int32} {X : Nat → Option (Nat → Int32)} {A : Nat → Prop} {f : Nat} {x_f : Int32} (hx_f : x_f.toNatClampNeg = f) {z : Int} {x_z : Int32} (hx_z : x_z.toInt = z)  : vx_Met l y_Fb_block (Cond.code y_Fb_block c_Fb_block 3 (some .int) :: wA) (rmk 6 2 12) (va_Pc [.ref (ad 0), .int x_f, .int x_z] (cS A D ct ad B tk fr X)) (tQ (bk_c B f z) (some (.int (re_blk B f z))) A D ct ad B tk fr X) (tX (bk_c B f z) nIAE nIAE) 2 12 A := by
  refine vx_ofW (cc := c_Fb_block) (maxL := 3) (ret := (some .int)) (by decide +kernel) rfl ?_
  intro p e s m args below meth c s₁ B0 hml ht9 hv
  obtain ⟨rfl, hA, hE, hK, g, LP, pr, hrx, hP, hD⟩ := hv
  have hS : va_S A s.heap s.heap [] := va_S.rf
  have hx := B0.exec
  have hb := B0.bytes
  have hr := B0.returns
  have hts := fun w (h : w ∈ wA) => atoms_spec (ws := Cond.code y_Fb_block c_Fb_block 3 (some .int) :: wA) B0.pre w (List.mem_cons_of_mem _ h)
  have hown : s.vm.findClass R_Fb = some m.cls := findClass_of_methodNamed B0.named
  have hlocks := B0.notSynchronized
  have hl := lv_entry ([.ref (ad 0), .int x_f, .int x_z]) (n := 3) (Nat.le_of_ble_eq_true rfl)
  rw [lg_entry_eq]
  generalize (lg_sl ([.ref (ad 0), .int x_f, .int x_z]) ++ List.replicate (3 - (lg_sl ([.ref (ad 0), .int x_f, .int x_z])).length) Slot.unset).toArray = ls at hl ⊢
  have hl : lv_has ls 3 [(0, .ref (ad 0)), (1, .int x_f), (2, .int x_z)] := hl
  have hf_f : x_f.toInt.toNat = f := hx_f
  have hg_f := z_lt x_f
  have hf_z := z_lt x_z
  have hg_z := z_ge x_z
  rw [hx_z] at hf_z hg_z
  refine lv_aload_n hx hb d_Fb_block_0 rfl (lv_at hl 0 rfl) ?_
  refine lv_iload_n hx hb d_Fb_block_1 rfl (lv_at hl 1 rfl) ?_
  refine ckV ⟨hx, hb, hml, hown, hts⟩ hE hK hrx hP hD hS hA rfl (k_Fb_checkThere l hl9 (f := f) (x_f := x_f) hx_f ) w_452 m_Fb_checkThere ⟨by decide, by decide⟩ 0 rfl rfl rfl hl.1 rfl (Nat.le_of_ble_eq_true rfl) d_Fb_block_2 ⟨show 0 + 1 ≤ 2 by omega, show 0 + 6 ≤ 12 by omega⟩ ht9 hlocks (fun c9 t9 hk9 => ⟨Or.inl ⟨(if_pos (Or.inl (Decidable.not_not.mp c9))), rfl⟩, hk9⟩) (by omega) (by omega) (fun p_1 locs hS => ?_)
  refine lv_iload_n hx hb d_Fb_block_5 rfl (lv_at hl 2 rfl) ?_
  refine lz_if_lt (tgt := 15) hx hb hx_z d_Fb_block_6 (by decide) (fun c_2 => ?_) (fun c_2 => ?_)
  · skip
    exact thFb hx hb hl9 at_IAE (is := 168) (text := "piece is not 0 .. 14") (by decide) hown hts hE hS rfl (hl.1.trans hml.symm) d_Fb_block_15 d_Fb_block_18 d_Fb_block_19 d_Fb_block_21 d_Fb_block_24 ht9 (Nat.le_of_ble_eq_true rfl) (Nat.le_of_ble_eq_true rfl) (show (0 + 1) + 1 ≤ 2 by omega) (show (0 + 6) + 6 ≤ 12 by omega) hlocks (fun t9 hk9 => ⟨Or.inl ⟨(by unfold bk_c; rw [if_pos (Or.inr (by omega))]), rfl⟩, hk9⟩) (by omega) (by omega)
  · skip
    refine lv_iload_n hx hb d_Fb_block_9 rfl (lv_at hl 2 rfl) ?_
    refine lv_bipush (v := nI 15) hx hb d_Fb_block_10 (by decide) ?_
    refine lz_icmp_lt (tgt := 25) hx hb hx_z (nI_toInt (by omega)) d_Fb_block_12 (by decide) (fun c_3 => ?_) (fun c_3 => ?_)
    · skip
      refine lv_aload_n hx hb d_Fb_block_25 rfl (lv_at hl 0 rfl) ?_
      refine va_get (D := D) (ci := 5) (v := .ref (ad 2)) (C := R_Fb) (T := T_Fb) (N := 5) hx hb hts u_Fb hown hK hP 0 rfl rfl 2 (by decide) (hts _ w_102) (fun _ h9 => h9) rfl d_Fb_block_26 ?_
      refine lv_iload_n hx hb d_Fb_block_29 rfl (lv_at hl 1 rfl) ?_
      refine lv_iload_n hx hb d_Fb_block_30 rfl (lv_at hl 2 rfl) ?_
      refine rdV ⟨hx, hb, hml, hown, hts⟩ hK hP (k_Re_blockOf l (f := f) (x_f := x_f) (z := z) (x_z := x_z) hx_f hx_z ) w_795 m_Re_blockOf ⟨by decide, by decide⟩ 2 rfl rfl rfl hl.1 rfl (Nat.le_of_ble_eq_true rfl) d_Fb_block_31 ⟨show (0 + 1) ≤ 2 by omega, show (0 + 6) ≤ 12 by omega⟩ ?_
      have hC9 : cX A D ct ad B tk fr X s.heap := ⟨g, LP, pr, hrx, hP, hD⟩
      have e9 : cX A D ct ad B tk fr X = cX A D ct ad B tk fr X := rfl
      rw [e9] at hC9
      refine W.widen (k := 2) (n := 12) (by omega) (by omega) ?_
      exact vx_ret (W.iret (v := re_blk B f z) hx hb hr (fun t9 ht hW => ⟨(by unfold bk_c; rw [if_neg (by rintro (q | q); exact p_1 q; omega)]), congrArg (fun z => Outcome.returned (some (Value.int z))) (show re_blk B f z = (re_blk B f z) from rfl), by rw [ht]; exact hC9, hS.F ht⟩) hS.2.2 d_Fb_block_34)
    · skip
      exact thFb hx hb hl9 at_IAE (is := 168) (text := "piece is not 0 .. 14") (by decide) hown hts hE hS rfl (hl.1.trans hml.symm) d_Fb_block_15 d_Fb_block_18 d_Fb_block_19 d_Fb_block_21 d_Fb_block_24 ht9 (Nat.le_of_ble_eq_true rfl) (Nat.le_of_ble_eq_true rfl) (show (0 + 1) + 1 ≤ 2 by omega) (show (0 + 6) + 6 ≤ 12 by omega) hlocks (fun t9 hk9 => ⟨Or.inl ⟨(by unfold bk_c; rw [if_pos (Or.inr (by omega))]), rfl⟩, hk9⟩) (by omega) (by omega)
theorem m_Fb_count : mV R_Fb y_Fb_count (Cond.code y_Fb_count c_Fb_count 2 (some .int)) 1 := ⟨⟨w_810, w_811, w_1, w_812⟩, by decide +kernel⟩
set_option maxHeartbeats 4000000 in
set_option maxRecDepth 100000 in
theorem k_Fb_count (l : Launch) (hl9 : l.stackTraces = false) {D : va_G} {ct : Nat → ClassId} {ad : Nat → Nat} {B : Nat → Int32} {tk : Nat → Int32} {fr : Int32} {X : Nat → Option (Nat → Int32)} {A : Nat → Prop} {z : Int} {x_z : Int32} (hx_z : x_z.toInt = z)  : vx_Met l y_Fb_count (Cond.code y_Fb_count c_Fb_count 2 (some .int) :: wA) (rmk 6 1 6) (va_Pc [.ref (ad 0), .int x_z] (cS A D ct ad B tk fr X)) (tQ (co_c z) (some (.int (co_r B fr z))) A D ct ad B tk fr X) (tX (co_c z) nIAE nIAE) 1 6 A := by
  refine vx_ofW (cc := c_Fb_count) (maxL := 2) (ret := (some .int)) (by decide +kernel) rfl ?_
  intro p e s m args below meth c s₁ B0 hml ht9 hv
  obtain ⟨rfl, hA, hE, hK, g, LP, pr, hrx, hP, hD⟩ := hv
  have hS : va_S A s.heap s.heap [] := va_S.rf
  have hx := B0.exec
  have hb := B0.bytes
  have hr := B0.returns
  have hts := fun w (h : w ∈ wA) => atoms_spec (ws := Cond.code y_Fb_count c_Fb_count 2 (some .int) :: wA) B0.pre w (List.mem_cons_of_mem _ h)
  have hown : s.vm.findClass R_Fb = some m.cls := findClass_of_methodNamed B0.named
  have hlocks := B0.notSynchronized
  have hl := lv_entry ([.ref (ad 0), .int x_z]) (n := 2) (Nat.le_of_ble_eq_true rfl)
  rw [lg_entry_eq]
  generalize (lg_sl ([.ref (ad 0), .int x_z]) ++ List.replicate (2 - (lg_sl ([.ref (ad 0), .int x_z])).length) Slot.unset).toArray = ls at hl ⊢
  have hl : lv_has ls 2 [(0, .ref (ad 0)), (1, .int x_z)] := hl
  have hf_z := z_lt x_z
  have hg_z := z_ge x_z
  rw [hx_z] at hf_z hg_z
  refine lv_iload_n hx hb d_Fb_count_0 rfl (lv_at hl 1 rfl) ?_
  rcases (show z < 0 ∨ 3 < z ∨ z = 0 ∨ z = 1 ∨ z = 2 ∨ z = 3 by omega) with s9 | s9 | rfl | rfl | rfl | rfl
  · refine lv_tableOut (tgt := 64) hx hb d_Fb_count_1 (Or.inl (by rw [hx_z]; exact s9)) (by decide) ?_
    exact thFb hx hb hl9 at_IAE (is := 176) (text := "what is not 0 .. 3") (by decide) hown hts hE hS rfl (hl.1.trans hml.symm) d_Fb_count_64 d_Fb_count_67 d_Fb_count_68 d_Fb_count_70 d_Fb_count_73 ht9 (Nat.le_of_ble_eq_true rfl) (Nat.le_of_ble_eq_true rfl) (show 0 + 1 ≤ 1 by omega) (show 0 + 6 ≤ 6 by omega) hlocks (fun t9 hk9 => ⟨Or.inl ⟨(by unfold co_c; rw [if_neg (by omega)]), rfl⟩, hk9⟩) (by omega) (by omega)
  · refine lv_tableOut (tgt := 64) hx hb d_Fb_count_1 (Or.inr (by rw [hx_z]; exact s9)) (by decide) ?_
    exact thFb hx hb hl9 at_IAE (is := 176) (text := "what is not 0 .. 3") (by decide) hown hts hE hS rfl (hl.1.trans hml.symm) d_Fb_count_64 d_Fb_count_67 d_Fb_count_68 d_Fb_count_70 d_Fb_count_73 ht9 (Nat.le_of_ble_eq_true rfl) (Nat.le_of_ble_eq_true rfl) (show 0 + 1 ≤ 1 by omega) (show 0 + 6 ≤ 6 by omega) hlocks (fun t9 hk9 => ⟨Or.inl ⟨(by unfold co_c; rw [if_neg (by omega)]), rfl⟩, hk9⟩) (by omega) (by omega)
  · refine lv_tableIn (off := 31) (tgt := 32) hx hb d_Fb_count_1 (by rw [hx_z]; decide) (by rw [hx_z]; decide) (by rw [hx_z]; rfl) (by decide) ?_
    refine lv_aload_n hx hb d_Fb_count_32 rfl (lv_at hl 0 rfl) ?_
    refine va_get (D := D) (ci := 5) (v := .ref (ad 1)) (C := R_Fb) (T := T_Fb) (N := 5) hx hb hts u_Fb hown hK hP 0 rfl rfl 1 (by decide) (hts _ w_101) (fun _ h9 => h9) rfl d_Fb_count_33 ?_
    refine rdV ⟨hx, hb, hml, hown, hts⟩ hK hP (k_Db_howManyFree l  ) w_322 m_Db_howManyFree ⟨by decide, by decide⟩ 1 rfl rfl rfl hl.1 rfl (Nat.le_of_ble_eq_true rfl) d_Fb_count_36 ⟨show 0 ≤ 1 by omega, show 0 ≤ 6 by omega⟩ ?_
    have hC9 : cX A D ct ad B tk fr X s.heap := ⟨g, LP, pr, hrx, hP, hD⟩
    have e9 : cX A D ct ad B tk fr X = cX A D ct ad B tk fr X := rfl
    rw [e9] at hC9
    refine W.widen (k := 1) (n := 6) (by omega) (by omega) ?_
    exact vx_ret (W.iret (v := fr) hx hb hr (fun t9 ht hW => ⟨(by unfold co_c; rw [if_pos (by omega)]), congrArg (fun z => Outcome.returned (some (Value.int z))) (show fr = (co_r B fr (0 : Int)) from rfl), by rw [ht]; exact hC9, hS.F ht⟩) hS.2.2 d_Fb_count_39)
  · refine lv_tableIn (off := 39) (tgt := 40) hx hb d_Fb_count_1 (by rw [hx_z]; decide) (by rw [hx_z]; decide) (by rw [hx_z]; rfl) (by decide) ?_
    refine lv_aload_n hx hb d_Fb_count_40 rfl (lv_at hl 0 rfl) ?_
    refine va_get (D := D) (ci := 5) (v := .ref (ad 2)) (C := R_Fb) (T := T_Fb) (N := 5) hx hb hts u_Fb hown hK hP 0 rfl rfl 2 (by decide) (hts _ w_102) (fun _ h9 => h9) rfl d_Fb_count_41 ?_
    refine rdV ⟨hx, hb, hml, hown, hts⟩ hK hP (k_Re_howManyThere l  ) w_813 m_Re_howManyThere ⟨by decide, by decide⟩ 2 rfl rfl rfl hl.1 rfl (Nat.le_of_ble_eq_true rfl) d_Fb_count_44 ⟨show 0 ≤ 1 by omega, show 0 ≤ 6 by omega⟩ ?_
    have hC9 : cX A D ct ad B tk fr X s.heap := ⟨g, LP, pr, hrx, hP, hD⟩
    have e9 : cX A D ct ad B tk fr X = cX A D ct ad B tk fr X := rfl
    rw [e9] at hC9
    refine W.widen (k := 1) (n := 6) (by omega) (by omega) ?_
    exact vx_ret (W.iret (v := nI (re_cnt B 12 1 0)) hx hb hr (fun t9 ht hW => ⟨(by unfold co_c; rw [if_pos (by omega)]), congrArg (fun z => Outcome.returned (some (Value.int z))) (show nI (re_cnt B 12 1 0) = (co_r B fr (1 : Int)) from rfl), by rw [ht]; exact hC9, hS.F ht⟩) hS.2.2 d_Fb_count_47)
  · refine lv_tableIn (off := 47) (tgt := 48) hx hb d_Fb_count_1 (by rw [hx_z]; decide) (by rw [hx_z]; decide) (by rw [hx_z]; rfl) (by decide) ?_
    refine lv_aload_n hx hb d_Fb_count_48 rfl (lv_at hl 0 rfl) ?_
    refine va_get (D := D) (ci := 5) (v := .ref (ad 4)) (C := R_Fb) (T := T_Fb) (N := 5) hx hb hts u_Fb hown hK hP 0 rfl rfl 3 (by decide) (hts _ w_103) (fun _ h9 => h9) rfl d_Fb_count_49 ?_
    refine rdV ⟨hx, hb, hml, hown, hts⟩ hK hP (k_Wa_howMany l  ) w_817 m_Wa_howMany ⟨by decide, by decide⟩ 4 rfl rfl rfl hl.1 rfl (Nat.le_of_ble_eq_true rfl) d_Fb_count_52 ⟨show 0 ≤ 1 by omega, show 0 ≤ 6 by omega⟩ ?_
    have hC9 : cX A D ct ad B tk fr X s.heap := ⟨g, LP, pr, hrx, hP, hD⟩
    have e9 : cX A D ct ad B tk fr X = cX A D ct ad B tk fr X := rfl
    rw [e9] at hC9
    refine W.widen (k := 1) (n := 6) (by omega) (by omega) ?_
    exact vx_ret (W.iret (v := nI (wa_many B 12 (fr_num B 232 4) 0)) hx hb hr (fun t9 ht hW => ⟨(by unfold co_c; rw [if_pos (by omega)]), congrArg (fun z => Outcome.returned (some (Value.int z))) (show nI (wa_many B 12 (fr_num B 232 4) 0) = (co_r B fr (2 : Int)) from rfl), by rw [ht]; exact hC9, hS.F ht⟩) hS.2.2 d_Fb_count_55)
  · refine lv_tableIn (off := 55) (tgt := 56) hx hb d_Fb_count_1 (by rw [hx_z]; decide) (by rw [hx_z]; decide) (by rw [hx_z]; rfl) (by decide) ?_
    refine lv_aload_n hx hb d_Fb_count_56 rfl (lv_at hl 0 rfl) ?_
    refine va_get (D := D) (ci := 5) (v := .ref (ad 4)) (C := R_Fb) (T := T_Fb) (N := 5) hx hb hts u_Fb hown hK hP 0 rfl rfl 3 (by decide) (hts _ w_103) (fun _ h9 => h9) rfl d_Fb_count_57 ?_
    refine rdV ⟨hx, hb, hml, hown, hts⟩ hK hP (k_Wa_first l  ) w_120 m_Wa_first ⟨by decide, by decide⟩ 4 rfl rfl rfl hl.1 rfl (Nat.le_of_ble_eq_true rfl) d_Fb_count_60 ⟨show 0 ≤ 1 by omega, show 0 ≤ 6 by omega⟩ ?_
    have hC9 : cX A D ct ad B tk fr X s.heap := ⟨g, LP, pr, hrx, hP, hD⟩
    have e9 : cX A D ct ad B tk fr X = cX A D ct ad B tk fr X := rfl
    rw [e9] at hC9
    refine W.widen (k := 1) (n := 6) (by omega) (by omega) ?_
    exact vx_ret (W.iret (v := fr_num B 232 4) hx hb hr (fun t9 ht hW => ⟨(by unfold co_c; rw [if_pos (by omega)]), congrArg (fun z => Outcome.returned (some (Value.int z))) (show fr_num B 232 4 = (co_r B fr (3 : Int)) from rfl), by rw [ht]; exact hC9, hS.F ht⟩) hS.2.2 d_Fb_count_63)
theorem m_Fb_byteOf : mV R_Fb y_Fb_byteOf (Cond.code y_Fb_byteOf c_Fb_byteOf 3 (some .int)) 2 := ⟨⟨w_826, w_827, w_1, w_828⟩, by decide +kernel⟩
set_option maxHeartbeats 4000000 in
set_option maxRecDepth 100000 in
theorem k_Fb_byteOf (l : Launch) (hl9 : l.stackTraces = false) {D : va_G} {ct : Nat → ClassId} {ad : Nat → Nat} {B : Nat → Int32} {tk : Nat → Int32} {fr : Int32} {X : Nat → Option (Nat → Int32)} {A : Nat → Prop} {z : Int} {x_z : Int32} (hx_z : x_z.toInt = z) {u : Int} {x_u : Int32} (hx_u : x_u.toInt = u)  : vx_Met l y_Fb_byteOf (Cond.code y_Fb_byteOf c_Fb_byteOf 3 (some .int) :: wA) (rmk 6 1 6) (va_Pc [.ref (ad 0), .int x_z, .int x_u] (cS A D ct ad B tk fr X)) (tQ (by_c z u) (some (.int (fr_num B (z.toNat * 1024 + u.toNat) 1))) A D ct ad B tk fr X) (tX (by_c z u) nIOE nIAE) 1 6 A := by
  refine vx_ofW (cc := c_Fb_byteOf) (maxL := 3) (ret := (some .int)) (by decide +kernel) rfl ?_
  intro p e s m args below meth c s₁ B0 hml ht9 hv
  obtain ⟨rfl, hA, hE, hK, g, LP, pr, hrx, hP, hD⟩ := hv
  have hS : va_S A s.heap s.heap [] := va_S.rf
  have hx := B0.exec
  have hb := B0.bytes
  have hr := B0.returns
  have hts := fun w (h : w ∈ wA) => atoms_spec (ws := Cond.code y_Fb_byteOf c_Fb_byteOf 3 (some .int) :: wA) B0.pre w (List.mem_cons_of_mem _ h)
  have hown : s.vm.findClass R_Fb = some m.cls := findClass_of_methodNamed B0.named
  have hlocks := B0.notSynchronized
  have hl := lv_entry ([.ref (ad 0), .int x_z, .int x_u]) (n := 3) (Nat.le_of_ble_eq_true rfl)
  rw [lg_entry_eq]
  generalize (lg_sl ([.ref (ad 0), .int x_z, .int x_u]) ++ List.replicate (3 - (lg_sl ([.ref (ad 0), .int x_z, .int x_u])).length) Slot.unset).toArray = ls at hl ⊢
  have hl : lv_has ls 3 [(0, .ref (ad 0)), (1, .int x_z), (2, .int x_u)] := hl
  have hf_z := z_lt x_z
  have hg_z := z_ge x_z
  rw [hx_z] at hf_z hg_z
  have hf_u := z_lt x_u
  have hg_u := z_ge x_u
  rw [hx_u] at hf_u hg_u
  refine lv_iload_n hx hb d_Fb_byteOf_0 rfl (lv_at hl 1 rfl) ?_
  refine lz_if_lt (tgt := 9) hx hb hx_z d_Fb_byteOf_1 (by decide) (fun c_1 => ?_) (fun c_1 => ?_)
  · skip
    exact thFb hx hb hl9 at_IOE (is := 178) (text := "block is not 0 .. 3") (by decide) hown hts hE hS rfl (hl.1.trans hml.symm) d_Fb_byteOf_9 d_Fb_byteOf_12 d_Fb_byteOf_13 d_Fb_byteOf_15 d_Fb_byteOf_18 ht9 (Nat.le_of_ble_eq_true rfl) (Nat.le_of_ble_eq_true rfl) (show 0 + 1 ≤ 1 by omega) (show 0 + 6 ≤ 6 by omega) hlocks (fun t9 hk9 => ⟨Or.inl ⟨(by unfold by_c; rw [if_neg (by omega)]), rfl⟩, hk9⟩) (by omega) (by omega)
  · skip
    refine lv_iload_n hx hb d_Fb_byteOf_4 rfl (lv_at hl 1 rfl) ?_
    refine lv_iconst (v := nI 4) hx hb d_Fb_byteOf_5 (by decide) ?_
    refine lz_icmp_lt (tgt := 19) hx hb hx_z (nI_toInt (by omega)) d_Fb_byteOf_6 (by decide) (fun c_2 => ?_) (fun c_2 => ?_)
    · skip
      obtain ⟨j, rfl⟩ := Int.eq_ofNat_of_zero_le (show 0 ≤ z by omega)
      obtain rfl : x_z = nI j := z_i hx_z (by omega)
      refine lv_iload_n hx hb d_Fb_byteOf_19 rfl (lv_at hl 2 rfl) ?_
      refine lz_if_lt (tgt := 30) hx hb hx_u d_Fb_byteOf_20 (by decide) (fun c_3 => ?_) (fun c_3 => ?_)
      · skip
        exact thFb hx hb hl9 at_IOE (is := 180) (text := "i is not 0 .. 1023") (by decide) hown hts hE hS rfl (hl.1.trans hml.symm) d_Fb_byteOf_30 d_Fb_byteOf_33 d_Fb_byteOf_34 d_Fb_byteOf_36 d_Fb_byteOf_39 ht9 (Nat.le_of_ble_eq_true rfl) (Nat.le_of_ble_eq_true rfl) (show 0 + 1 ≤ 1 by omega) (show 0 + 6 ≤ 6 by omega) hlocks (fun t9 hk9 => ⟨Or.inl ⟨(by unfold by_c; rw [if_neg (by omega)]), rfl⟩, hk9⟩) (by omega) (by omega)
      · skip
        refine lv_iload_n hx hb d_Fb_byteOf_23 rfl (lv_at hl 2 rfl) ?_
        refine lv_sipush (v := nI 1024) hx hb d_Fb_byteOf_24 (by decide) ?_
        refine lz_icmp_lt (tgt := 40) hx hb hx_u (nI_toInt (by omega)) d_Fb_byteOf_27 (by decide) (fun c_4 => ?_) (fun c_4 => ?_)
        · skip
          obtain ⟨k, rfl⟩ := Int.eq_ofNat_of_zero_le (show 0 ≤ u by omega)
          obtain rfl : x_u = nI k := z_i hx_u (by omega)
          refine lv_aload_n hx hb d_Fb_byteOf_40 rfl (lv_at hl 0 rfl) ?_
          refine va_get (D := D) (ci := 5) (v := .ref (ad 3)) (C := R_Fb) (T := T_Fb) (N := 5) hx hb hts u_Fb hown hK hP 0 rfl rfl 0 (by decide) (hts _ w_100) (fun _ h9 => h9) rfl d_Fb_byteOf_41 ?_
          refine lv_iload_n hx hb d_Fb_byteOf_44 rfl (lv_at hl 1 rfl) ?_
          refine lv_sipush (v := nI 1024) hx hb d_Fb_byteOf_45 (by decide) ?_
          refine ln_imul hx hb d_Fb_byteOf_48 ?_
          refine lv_iload_n hx hb d_Fb_byteOf_49 rfl (lv_at hl 2 rfl) ?_
          refine ln_iadd hx hb d_Fb_byteOf_50 ?_
          refine lv_iconst (v := nI 1) hx hb d_Fb_byteOf_51 (by decide) ?_
          refine rdV ⟨hx, hb, hml, hown, hts⟩ hK hP (k_Fr_number l (a := ((j * 1024) + k)) (n := 1) (by omega) (by omega)) w_831 m_Fr_number ⟨by decide, by decide⟩ 3 rfl rfl rfl hl.1 rfl (Nat.le_of_ble_eq_true rfl) d_Fb_byteOf_52 ⟨show 0 ≤ 1 by omega, show 0 ≤ 6 by omega⟩ ?_
          have hC9 : cX A D ct ad B tk fr X s.heap := ⟨g, LP, pr, hrx, hP, hD⟩
          have e9 : cX A D ct ad B tk fr X = cX A D ct ad B tk fr X := rfl
          rw [e9] at hC9
          refine W.widen (k := 1) (n := 6) (by omega) (by omega) ?_
          exact vx_ret (W.iret (v := fr_num B ((j * 1024) + k) 1) hx hb hr (fun t9 ht hW => ⟨(by unfold by_c; rw [if_pos (by omega)]), congrArg (fun z => Outcome.returned (some (Value.int z))) (show fr_num B ((j * 1024) + k) 1 = (fr_num B (((j : Nat) : Int).toNat * 1024 + ((k : Nat) : Int).toNat) 1) from rfl), by rw [ht]; exact hC9, hS.F ht⟩) hS.2.2 d_Fb_byteOf_55)
        · skip
          exact thFb hx hb hl9 at_IOE (is := 180) (text := "i is not 0 .. 1023") (by decide) hown hts hE hS rfl (hl.1.trans hml.symm) d_Fb_byteOf_30 d_Fb_byteOf_33 d_Fb_byteOf_34 d_Fb_byteOf_36 d_Fb_byteOf_39 ht9 (Nat.le_of_ble_eq_true rfl) (Nat.le_of_ble_eq_true rfl) (show 0 + 1 ≤ 1 by omega) (show 0 + 6 ≤ 6 by omega) hlocks (fun t9 hk9 => ⟨Or.inl ⟨(by unfold by_c; rw [if_neg (by omega)]), rfl⟩, hk9⟩) (by omega) (by omega)
    · skip
      exact thFb hx hb hl9 at_IOE (is := 178) (text := "block is not 0 .. 3") (by decide) hown hts hE hS rfl (hl.1.trans hml.symm) d_Fb_byteOf_9 d_Fb_byteOf_12 d_Fb_byteOf_13 d_Fb_byteOf_15 d_Fb_byteOf_18 ht9 (Nat.le_of_ble_eq_true rfl) (Nat.le_of_ble_eq_true rfl) (show 0 + 1 ≤ 1 by omega) (show 0 + 6 ≤ 6 by omega) hlocks (fun t9 hk9 => ⟨Or.inl ⟨(by unfold by_c; rw [if_neg (by omega)]), rfl⟩, hk9⟩) (by omega) (by omega)
