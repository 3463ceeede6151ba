/-! Waiting, DataBlocks, Bodies: what is read -/
def gOK (g : Nat → Option Nat) (LP : List Nat) : Prop := ∀ b y, b < 128 → g b = some y → y ∈ LP
theorem wsC_row {ct : Nat → ClassId} {ad : Nat → Nat} {B : Nat → Int32} {g : Nat → Option Nat} {tk : Nat → Int32} {fr : Int32} {LP : List Nat} {pr : Nat → Nat → Int32} {y : Nat} (h : y ∈ LP) : ∃ k : Nat, (wsC ct ad B g tk fr LP pr)[k]? = some (y, .inl (ct 0, 1024, .inl (pr y))) := va_pl_get h
def wa_many (B : Nat → Int32) : Nat → Int32 → Nat → Nat
  | 0, _, n => n
  | k + 1, x, n => if x = 0 then n else wa_many B k (re_f B x.toNatClampNeg 20 4) (n + 1)
def wa_bef (B : Nat → Int32) (y : Int32) : Nat → Int32 → Int32
  | 0, x => x
  | k + 1, x => if x = 0 then x else if re_f B x.toNatClampNeg 20 4 = y then x else wa_bef B y k (re_f B x.toNatClampNeg 20 4)
def db_lf (tk : Nat → Int32) : Nat → Nat → Nat
  | 0, _ => 0
  | k + 1, b => if tk b = 0 then b else db_lf tk k (b + 1)
def db_at (g : Nat → Option Nat) (pr : Nat → Nat → Int32) (z : Int) (i : Nat) : Int32 := if z < 0 ∨ 128 ≤ z then nI 0 else match g z.toNat with
  | none => nI 0
  | some y => pr y i &&& nI 255
def ma_fm (x y : Int32) : Int32 := if 0 ≤ (x ^^^ y) then x - x / y * y else if x - x / y * y = 0 then x - x / y * y else (x - x / y * y) + y
def bo_tb (x : Int32) (i : Nat) : Int32 := nI 1 + ma_fm (x + nI i) (nI 255)
def bo_want (B : Nat → Int32) (f : Nat) : Nat → Nat → Nat → Nat
  | 0, _, w => w
  | k + 1, q, w => bo_want B f k (q + 1) (if re_blk B f q = 0 then w + 1 else w)
def bo_at (B : Nat → Int32) (g : Nat → Option Nat) (pr : Nat → Nat → Int32) (f i : Nat) : Int32 := if re_kind B f = nI 3 ∧ ¬ nI 59 < re_f B f 4 4 then re_f B f (40 + i) 1 else if re_blk B f ((i / 1024 : Nat) : Int) = 0 then nI 0 else db_at g pr (re_blk B f ((i / 1024 : Nat) : Int)).toInt (i % 1024)
theorem m_Wa_first : mV R_Wa y_Wa_first (Cond.code y_Wa_first c_Wa_first 1 (some .int)) 0 := ⟨⟨w_121, w_122, w_5, w_123⟩, by decide +kernel⟩
set_option maxHeartbeats 4000000 in
set_option maxRecDepth 100000 in
theorem k_Wa_first (l : Launch) {D : va_G} {ct : Nat → ClassId} {ad : Nat → Nat} {B : Nat → Int32} {g : Nat → Option Nat} {tk : Nat → Int32} {fr : Int32} {LP : List Nat} {pr : Nat → Nat → Int32}   : Met l y_Wa_first (Cond.code y_Wa_first c_Wa_first 1 (some .int) :: wA) (rmk 2 0 0) (va_Pc [.ref (ad 4)] (cR D (tyC ct) (wsC ct ad B g tk fr LP pr))) (QcRead (fr_num B 232 4)) 0 0 (fun _ => False) := by
  refine Met.ofW (cc := c_Wa_first) (maxL := 1) (ret := (some .int)) (by decide +kernel) rfl ?_
  intro p e s m args below meth c s₁ B0 hml hv
  obtain ⟨rfl, hP, hK⟩ := hv
  have hx := B0.exec
  have hb := B0.bytes
  have hr := B0.returns
  have hts := fun w (h : w ∈ wA) => atoms_spec (ws := Cond.code y_Wa_first c_Wa_first 1 (some .int) :: wA) B0.pre w (List.mem_cons_of_mem _ h)
  have hown : s.vm.findClass R_Wa = some m.cls := findClass_of_methodNamed B0.named
  have hlocks := B0.notSynchronized
  have hl := lv_entry ([.ref (ad 4)]) (n := 1) (Nat.le_of_ble_eq_true rfl)
  rw [lg_entry_eq]
  generalize (lg_sl ([.ref (ad 4)]) ++ List.replicate (1 - (lg_sl ([.ref (ad 4)])).length) Slot.unset).toArray = ls at hl ⊢
  have hl : lv_has ls 1 [(0, .ref (ad 4))] := hl
  refine lv_aload_n hx hb d_Wa_first_0 rfl (lv_at hl 0 rfl) ?_
  refine va_get (D := D) (ci := 4) (v := .ref (ad 3)) (C := R_Wa) (T := T_Wa) (N := 2) hx hb hts u_Wa hown hK hP 4 rfl rfl 0 (by decide) (hts _ w_80) (fun _ h9 => h9) rfl d_Wa_first_1 ?_
  refine lv_sipush (v := nI 232) hx hb d_Wa_first_4 (by decide) ?_
  refine lv_iconst (v := nI 4) hx hb d_Wa_first_7 (by decide) ?_
  refine rdV ⟨hx, hb, hml, hown, hts⟩ hK hP (k_Fr_number l (a := 232) (n := 4) (by omega) (by omega)) w_124 m_Fr_number ⟨by decide, by decide⟩ 3 rfl rfl rfl hl.1 rfl (Nat.le_of_ble_eq_true rfl) d_Wa_first_8 ⟨Nat.zero_le _, Nat.zero_le _⟩ ?_
  exact W.iret (v := fr_num B 232 4) hx hb hr (fun t9 ht hW => ⟨congrArg (fun z => Outcome.returned (some (Value.int z))) (show fr_num B 232 4 = (fr_num B 232 4) from rfl), ht⟩) (fun q h => nomatch h) d_Wa_first_11
theorem m_Wa_howMany : mV R_Wa y_Wa_howMany (Cond.code y_Wa_howMany c_Wa_howMany 3 (some .int)) 0 := ⟨⟨w_818, w_819, w_5, w_820⟩, by decide +kernel⟩
set_option maxHeartbeats 4000000 in
set_option maxRecDepth 100000 in
theorem k_Wa_howMany (l : Launch) {D : va_G} {ct : Nat → ClassId} {ad : Nat → Nat} {B : Nat → Int32} {g : Nat → Option Nat} {tk : Nat → Int32} {fr : Int32} {LP : List Nat} {pr : Nat → Nat → Int32}   : Met l y_Wa_howMany (Cond.code y_Wa_howMany c_Wa_howMany 3 (some .int) :: wA) (rmk 4 0 0) (va_Pc [.ref (ad 4)] (cR D (tyC ct) (wsC ct ad B g tk fr LP pr))) (QcRead (nI (wa_many B 12 (fr_num B 232 4) 0))) 0 0 (fun _ => False) := by
  refine Met.ofW (cc := c_Wa_howMany) (maxL := 3) (ret := (some .int)) (by decide +kernel) rfl ?_
  intro p e s m args below meth c s₁ B0 hml hv
  obtain ⟨rfl, hP, hK⟩ := hv
  have hx := B0.exec
  have hb := B0.bytes
  have hr := B0.returns
  have hts := fun w (h : w ∈ wA) => atoms_spec (ws := Cond.code y_Wa_howMany c_Wa_howMany 3 (some .int) :: wA) B0.pre w (List.mem_cons_of_mem _ h)
  have hown : s.vm.findClass R_Wa = some m.cls := findClass_of_methodNamed B0.named
  have hlocks := B0.notSynchronized
  have hl := lv_entry ([.ref (ad 4)]) (n := 3) (Nat.le_of_ble_eq_true rfl)
  rw [lg_entry_eq]
  generalize (lg_sl ([.ref (ad 4)]) ++ List.replicate (3 - (lg_sl ([.ref (ad 4)])).length) Slot.unset).toArray = ls at hl ⊢
  have hl : lv_has ls 3 [(0, .ref (ad 4))] := hl
  refine lv_aload_n hx hb d_Wa_howMany_0 rfl (lv_at hl 0 rfl) ?_
  refine rdV ⟨hx, hb, hml, hown, hts⟩ hK hP (k_Wa_first l  ) w_152 m_Wa_first ⟨by decide, by decide⟩ 4 rfl rfl rfl hl.1 rfl (Nat.le_of_ble_eq_true rfl) d_Wa_howMany_1 ⟨Nat.zero_le _, Nat.zero_le _⟩ ?_
  refine lv_istore_n (lv' := [(1, .int (fr_num B 232 4)), (0, .ref (ad 4))]) hx hb d_Wa_howMany_4 rfl hl (by decide) rfl (fun ls hl => ?_)
  refine lv_iconst (v := nI 0) hx hb d_Wa_howMany_5 (by decide) ?_
  refine lv_istore_n (lv' := [(2, .int (nI 0)), (1, .int (fr_num B 232 4)), (0, .ref (ad 4))]) hx hb d_Wa_howMany_6 rfl hl (by decide) rfl (fun ls hl => ?_)
  have loop7 : ∀ (n9 : Nat) (x : Int32) (n : Nat), 12 - n < n9 → n ≤ 12 → wa_many B 12 (fr_num B 232 4) 0 = wa_many B (12 - n) x n → ∀ ls : Array Slot, lv_has ls 3 [(0, .ref (ad 4)), (1, .int x), (2, .int (nI n))] → W p l e (headSpec (Cond.code y_Wa_howMany c_Wa_howMany 3 (some .int) :: wA) (rmk 4 0 0)).room s m ([.ref (ad 4)] : List Value).toArray below meth c s.heap [] 0 0 (MQ below (QcRead (nI (wa_many B 12 (fr_num B 232 4) 0))) ([.ref (ad 4)] : List Value).toArray s 0 0 (fun _ => False)) (F0 m 7 ls []) := by
    intro n9
    induction n9 with
    | zero => intro x n h8 h9 h10 ls hl; exact absurd h8 (by omega)
    | succ n9 ih =>
      intro x n h8 h9 h10 ls hl
      refine lv_iload_n hx hb d_Wa_howMany_7 rfl (lv_at hl 2 rfl) ?_
      refine lv_bipush (v := nI 12) hx hb d_Wa_howMany_8 (by decide) ?_
      refine ln_icmp_ge (tgt := 32) hx hb (by omega) (by omega) d_Wa_howMany_10 (by decide) (fun c_1 => ?_) (fun c_1 => ?_)
      · skip
        refine lv_iload_n hx hb d_Wa_howMany_32 rfl (lv_at hl 2 rfl) ?_
        exact W.iret (v := nI n) hx hb hr (fun t9 ht hW => ⟨congrArg (fun z => Outcome.returned (some (Value.int z))) (show nI n = (nI (wa_many B 12 (fr_num B 232 4) 0)) from (congrArg nI (by rw [h10]; first | (rw [show 12 - n = 0 by omega]; rfl) | (rw [show 12 - n = 11 - n + 1 by omega, wa_many, if_pos (by assumption)])))), ht⟩) (fun q h => nomatch h) d_Wa_howMany_33
      · skip
        refine lv_iload_n hx hb d_Wa_howMany_13 rfl (lv_at hl 1 rfl) ?_
        refine lv_if_eq (tgt := 32) hx hb d_Wa_howMany_14 (by decide) (fun c_2 => ?_) (fun c_2 => ?_)
        · skip
          refine lv_iload_n hx hb d_Wa_howMany_32 rfl (lv_at hl 2 rfl) ?_
          exact W.iret (v := nI n) hx hb hr (fun t9 ht hW => ⟨congrArg (fun z => Outcome.returned (some (Value.int z))) (show nI n = (nI (wa_many B 12 (fr_num B 232 4) 0)) from (congrArg nI (by rw [h10]; first | (rw [show 12 - n = 0 by omega]; rfl) | (rw [show 12 - n = 11 - n + 1 by omega, wa_many, if_pos (by assumption)])))), ht⟩) (fun q h => nomatch h) d_Wa_howMany_33
        · skip
          refine lv_aload_n hx hb d_Wa_howMany_17 rfl (lv_at hl 0 rfl) ?_
          refine va_get (D := D) (ci := 4) (v := .ref (ad 2)) (C := R_Wa) (T := T_Wa) (N := 2) hx hb hts u_Wa hown hK hP 4 rfl rfl 1 (by decide) (hts _ w_81) (fun _ h9 => h9) rfl d_Wa_howMany_18 ?_
          refine lv_iload_n hx hb d_Wa_howMany_21 rfl (lv_at hl 1 rfl) ?_
          refine rdV ⟨hx, hb, hml, hown, hts⟩ hK hP (k_Re_behind l (f := x.toNatClampNeg) (x_f := x) rfl ) w_153 m_Re_behind ⟨by decide, by decide⟩ 2 rfl rfl rfl hl.1 rfl (Nat.le_of_ble_eq_true rfl) d_Wa_howMany_22 ⟨Nat.zero_le _, Nat.zero_le _⟩ ?_
          refine lv_istore_n (lv' := [(1, .int (re_f B x.toNatClampNeg 20 4)), (0, .ref (ad 4)), (2, .int (nI n))]) hx hb d_Wa_howMany_25 rfl hl (by decide) rfl (fun ls hl => ?_)
          refine lv_iinc (v := nI (n + 1)) (lv' := [(2, .int (nI (n + 1))), (1, .int (re_f B x.toNatClampNeg 20 4)), (0, .ref (ad 4))]) hx hb d_Wa_howMany_26 hl (k := 2) rfl (ln_inc (by decide)) (by decide) rfl (fun ls hl => ?_)
          refine lv_goto (tgt := 7) hx hb d_Wa_howMany_29 (by decide) ?_
          exact ih (re_f B x.toNatClampNeg 20 4) (n + 1) (by omega) (by omega) (by rw [h10, show 12 - n = 11 - n + 1 by omega, wa_many, if_neg (by assumption), show 12 - (n + 1) = 11 - n by omega]) ls (lv_sub hl [2, 1, 0] rfl)
  exact loop7 13 (fr_num B 232 4) 0 (by omega) (by omega) rfl ls (lv_sub hl [2, 1, 0] rfl)
theorem m_Wa_fileBefore : mV R_Wa y_Wa_fileBefore (Cond.code y_Wa_fileBefore c_Wa_fileBefore 4 (some .int)) 1 := ⟨⟨w_167, wp_3, w_5, w_168⟩, by decide +kernel⟩
set_option maxHeartbeats 4000000 in
set_option maxRecDepth 100000 in
theorem k_Wa_fileBefore (l : Launch) {D : va_G} {ct : Nat → ClassId} {ad : Nat → Nat} {B : Nat → Int32} {g : Nat → Option Nat} {tk : Nat → Int32} {fr : Int32} {LP : List Nat} {pr : Nat → Nat → Int32} {y : Int32}  : Met l y_Wa_fileBefore (Cond.code y_Wa_fileBefore c_Wa_fileBefore 4 (some .int) :: wA) (rmk 4 0 0) (va_Pc [.ref (ad 4), .int y] (cR D (tyC ct) (wsC ct ad B g tk fr LP pr))) (QcRead (wa_bef B y 12 (fr_num B 232 4))) 0 0 (fun _ => False) := by
  refine Met.ofW (cc := c_Wa_fileBefore) (maxL := 4) (ret := (some .int)) (by decide +kernel) rfl ?_
  intro p e s m args below meth c s₁ B0 hml hv
  obtain ⟨rfl, hP, hK⟩ := hv
  have hx := B0.exec
  have hb := B0.bytes
  have hr := B0.returns
  have hts := fun w (h : w ∈ wA) => atoms_spec (ws := Cond.code y_Wa_fileBefore c_Wa_fileBefore 4 (some .int) :: wA) B0.pre w (List.mem_cons_of_mem _ h)
  have hown : s.vm.findClass R_Wa = some m.cls := findClass_of_methodNamed B0.named
  have hlocks := B0.notSynchronized
  have hl := lv_entry ([.ref (ad 4), .int y]) (n := 4) (Nat.le_of_ble_eq_true rfl)
  rw [lg_entry_eq]
  generalize (lg_sl ([.ref (ad 4), .int y]) ++ List.replicate (4 - (lg_sl ([.ref (ad 4), .int y])).length) Slot.unset).toArray = ls at hl ⊢
  have hl : lv_has ls 4 [(0, .ref (ad 4)), (1, .int y)] := hl
  refine lv_aload_n hx hb d_Wa_fileBefore_0 rfl (lv_at hl 0 rfl) ?_
  refine rdV ⟨hx, hb, hml, hown, hts⟩ hK hP (k_Wa_first l  ) w_152 m_Wa_first ⟨by decide, by decide⟩ 4 rfl rfl rfl hl.1 rfl (Nat.le_of_ble_eq_true rfl) d_Wa_fileBefore_1 ⟨Nat.zero_le _, Nat.zero_le _⟩ ?_
  refine lv_istore_n (lv' := [(2, .int (fr_num B 232 4)), (0, .ref (ad 4)), (1, .int y)]) hx hb d_Wa_fileBefore_4 rfl hl (by decide) rfl (fun ls hl => ?_)
  refine lv_iconst (v := nI 0) hx hb d_Wa_fileBefore_5 (by decide) ?_
  refine lv_istore_n (lv' := [(3, .int (nI 0)), (2, .int (fr_num B 232 4)), (0, .ref (ad 4)), (1, .int y)]) hx hb d_Wa_fileBefore_6 rfl hl (by decide) rfl (fun ls hl => ?_)
  have loop7 : ∀ (n9 : Nat) (x : Int32) (n : Nat), 12 - n < n9 → n ≤ 12 → wa_bef B y 12 (fr_num B 232 4) = wa_bef B y (12 - n) x → ∀ ls : Array Slot, lv_has ls 4 [(0, .ref (ad 4)), (1, .int y), (2, .int x), (3, .int (nI n))] → W p l e (headSpec (Cond.code y_Wa_fileBefore c_Wa_fileBefore 4 (some .int) :: wA) (rmk 4 0 0)).room s m ([.ref (ad 4), .int y] : List Value).toArray below meth c s.heap [] 0 0 (MQ below (QcRead (wa_bef B y 12 (fr_num B 232 4))) ([.ref (ad 4), .int y] : List Value).toArray s 0 0 (fun _ => False)) (F0 m 7 ls []) := by
    intro n9
    induction n9 with
    | zero => intro x n h8 h9 h10 ls hl; exact absurd h8 (by omega)
    | succ n9 ih =>
      intro x n h8 h9 h10 ls hl
      refine lv_iload_n hx hb d_Wa_fileBefore_7 rfl (lv_at hl 3 rfl) ?_
      refine lv_bipush (v := nI 12) hx hb d_Wa_fileBefore_8 (by decide) ?_
      refine ln_icmp_ge (tgt := 44) hx hb (by omega) (by omega) d_Wa_fileBefore_10 (by decide) (fun c_1 => ?_) (fun c_1 => ?_)
      · skip
        refine lv_iload_n hx hb d_Wa_fileBefore_44 rfl (lv_at hl 2 rfl) ?_
        exact W.iret (v := x) hx hb hr (fun t9 ht hW => ⟨congrArg (fun z => Outcome.returned (some (Value.int z))) (show x = (wa_bef B y 12 (fr_num B 232 4)) from (by rw [h10]; first | (rw [show 12 - n = 0 by omega]; rfl) | (rw [show 12 - n = 11 - n + 1 by omega, wa_bef, if_pos (by assumption)]; done) | (rw [show 12 - n = 11 - n + 1 by omega, wa_bef, if_neg (by assumption), if_pos (by assumption)]))), ht⟩) (fun q h => nomatch h) d_Wa_fileBefore_45
      · skip
        refine lv_iload_n hx hb d_Wa_fileBefore_13 rfl (lv_at hl 2 rfl) ?_
        refine lv_if_eq (tgt := 44) hx hb d_Wa_fileBefore_14 (by decide) (fun c_2 => ?_) (fun c_2 => ?_)
        · skip
          refine lv_iload_n hx hb d_Wa_fileBefore_44 rfl (lv_at hl 2 rfl) ?_
          exact W.iret (v := x) hx hb hr (fun t9 ht hW => ⟨congrArg (fun z => Outcome.returned (some (Value.int z))) (show x = (wa_bef B y 12 (fr_num B 232 4)) from (by rw [h10]; first | (rw [show 12 - n = 0 by omega]; rfl) | (rw [show 12 - n = 11 - n + 1 by omega, wa_bef, if_pos (by assumption)]; done) | (rw [show 12 - n = 11 - n + 1 by omega, wa_bef, if_neg (by assumption), if_pos (by assumption)]))), ht⟩) (fun q h => nomatch h) d_Wa_fileBefore_45
        · skip
          refine lv_aload_n hx hb d_Wa_fileBefore_17 rfl (lv_at hl 0 rfl) ?_
          refine va_get (D := D) (ci := 4) (v := .ref (ad 2)) (C := R_Wa) (T := T_Wa) (N := 2) hx hb hts u_Wa hown hK hP 4 rfl rfl 1 (by decide) (hts _ w_81) (fun _ h9 => h9) rfl d_Wa_fileBefore_18 ?_
          refine lv_iload_n hx hb d_Wa_fileBefore_21 rfl (lv_at hl 2 rfl) ?_
          refine rdV ⟨hx, hb, hml, hown, hts⟩ hK hP (k_Re_behind l (f := x.toNatClampNeg) (x_f := x) rfl ) w_153 m_Re_behind ⟨by decide, by decide⟩ 2 rfl rfl rfl hl.1 rfl (Nat.le_of_ble_eq_true rfl) d_Wa_fileBefore_22 ⟨Nat.zero_le _, Nat.zero_le _⟩ ?_
          refine lv_iload_n hx hb d_Wa_fileBefore_25 rfl (lv_at hl 1 rfl) ?_
          refine lv_icmp_eq (tgt := 44) hx hb d_Wa_fileBefore_26 (by decide) (fun c_3 => ?_) (fun c_3 => ?_)
          · skip
            refine lv_iload_n hx hb d_Wa_fileBefore_44 rfl (lv_at hl 2 rfl) ?_
            exact W.iret (v := x) hx hb hr (fun t9 ht hW => ⟨congrArg (fun z => Outcome.returned (some (Value.int z))) (show x = (wa_bef B y 12 (fr_num B 232 4)) from (by rw [h10]; first | (rw [show 12 - n = 0 by omega]; rfl) | (rw [show 12 - n = 11 - n + 1 by omega, wa_bef, if_pos (by assumption)]; done) | (rw [show 12 - n = 11 - n + 1 by omega, wa_bef, if_neg (by assumption), if_pos (by assumption)]))), ht⟩) (fun q h => nomatch h) d_Wa_fileBefore_45
          · skip
            refine lv_aload_n hx hb d_Wa_fileBefore_29 rfl (lv_at hl 0 rfl) ?_
            refine va_get (D := D) (ci := 4) (v := .ref (ad 2)) (C := R_Wa) (T := T_Wa) (N := 2) hx hb hts u_Wa hown hK hP 4 rfl rfl 1 (by decide) (hts _ w_81) (fun _ h9 => h9) rfl d_Wa_fileBefore_30 ?_
            refine lv_iload_n hx hb d_Wa_fileBefore_33 rfl (lv_at hl 2 rfl) ?_
            refine rdV ⟨hx, hb, hml, hown, hts⟩ hK hP (k_Re_behind l (f := x.toNatClampNeg) (x_f := x) rfl ) w_153 m_Re_behind ⟨by decide, by decide⟩ 2 rfl rfl rfl hl.1 rfl (Nat.le_of_ble_eq_true rfl) d_Wa_fileBefore_34 ⟨Nat.zero_le _, Nat.zero_le _⟩ ?_
            refine lv_istore_n (lv' := [(2, .int (re_f B x.toNatClampNeg 20 4)), (0, .ref (ad 4)), (1, .int y), (3, .int (nI n))]) hx hb d_Wa_fileBefore_37 rfl hl (by decide) rfl (fun ls hl => ?_)
            refine lv_iinc (v := nI (n + 1)) (lv' := [(3, .int (nI (n + 1))), (2, .int (re_f B x.toNatClampNeg 20 4)), (0, .ref (ad 4)), (1, .int y)]) hx hb d_Wa_fileBefore_38 hl (k := 3) rfl (ln_inc (by decide)) (by decide) rfl (fun ls hl => ?_)
            refine lv_goto (tgt := 7) hx hb d_Wa_fileBefore_41 (by decide) ?_
            exact ih (re_f B x.toNatClampNeg 20 4) (n + 1) (by omega) (by omega) (by rw [h10, show 12 - n = 11 - n + 1 by omega, wa_bef, if_neg (by assumption), if_neg (by assumption), show 12 - (n + 1) = 11 - n by omega]) ls (lv_sub hl [2, 3, 1, 0] rfl)
  exact loop7 13 (fr_num B 232 4) 0 (by omega) (by omega) rfl ls (lv_sub hl [2, 3, 1, 0] rfl)
theorem m_Db_howManyFree : mV R_Db y_Db_howManyFree (Cond.code y_Db_howManyFree c_Db_howManyFree 1 (some .int)) 0 := ⟨⟨w_323, w_324, w_3, w_325⟩, by decide +kernel⟩
set_option maxHeartbeats 4000000 in
set_option maxRecDepth 100000 in
theorem k_Db_howManyFree (l : Launch) {D : va_G} {ct : Nat → ClassId} {ad : Nat → Nat} {B : Nat → Int32} {g : Nat → Option Nat} {tk : Nat → Int32} {fr : Int32} {LP : List Nat} {pr : Nat → Nat → Int32}   : Met l y_Db_howManyFree (Cond.code y_Db_howManyFree c_Db_howManyFree 1 (some .int) :: wA) (rmk 1 0 0) (va_Pc [.ref (ad 1)] (cR D (tyC ct) (wsC ct ad B g tk fr LP pr))) (QcRead fr) 0 0 (fun _ => False) := by
  refine Met.ofW (cc := c_Db_howManyFree) (maxL := 1) (ret := (some .int)) (by decide +kernel) rfl ?_
  intro p e s m args below meth c s₁ B0 hml hv
  obtain ⟨rfl, hP, hK⟩ := hv
  have hx := B0.exec
  have hb := B0.bytes
  have hr := B0.returns
  have hts := fun w (h : w ∈ wA) => atoms_spec (ws := Cond.code y_Db_howManyFree c_Db_howManyFree 1 (some .int) :: wA) B0.pre w (List.mem_cons_of_mem _ h)
  have hown : s.vm.findClass R_Db = some m.cls := findClass_of_methodNamed B0.named
  have hlocks := B0.notSynchronized
  have hl := lv_entry ([.ref (ad 1)]) (n := 1) (Nat.le_of_ble_eq_true rfl)
  rw [lg_entry_eq]
  generalize (lg_sl ([.ref (ad 1)]) ++ List.replicate (1 - (lg_sl ([.ref (ad 1)])).length) Slot.unset).toArray = ls at hl ⊢
  have hl : lv_has ls 1 [(0, .ref (ad 1))] := hl
  refine lv_aload_n hx hb d_Db_howManyFree_0 rfl (lv_at hl 0 rfl) ?_
  refine va_get (D := D) (ci := 1) (v := .int fr) (C := R_Db) (T := T_Db) (N := 3) hx hb hts u_Db hown hK hP 1 rfl rfl 2 (by decide) (hts _ w_55) (fun _ h9 => h9) rfl d_Db_howManyFree_1 ?_
  exact W.iret (v := fr) hx hb hr (fun t9 ht hW => ⟨congrArg (fun z => Outcome.returned (some (Value.int z))) (show fr = fr from rfl), ht⟩) (fun q h => nomatch h) d_Db_howManyFree_4
theorem m_Db_leastFree : mV R_Db y_Db_leastFree (Cond.code y_Db_leastFree c_Db_leastFree 3 (some .int)) 1 := ⟨⟨w_363, wp_7, w_3, w_364⟩, by decide +kernel⟩
set_option maxHeartbeats 4000000 in
set_option maxRecDepth 100000 in
theorem k_Db_leastFree (l : Launch) {D : va_G} {ct : Nat → ClassId} {ad : Nat → Nat} {B : Nat → Int32} {g : Nat → Option Nat} {tk : Nat → Int32} {fr : Int32} {LP : List Nat} {pr : Nat → Nat → Int32} {a : Int} {x_a : Int32} (hx_a : x_a.toInt = a)  : Met l y_Db_leastFree (Cond.code y_Db_leastFree c_Db_leastFree 3 (some .int) :: wA) (rmk 2 0 0) (va_Pc [.ref (ad 1), .int x_a] (cR D (tyC ct) (wsC ct ad B g tk fr LP pr))) (QcRead (nI (db_lf tk (128 - (max a 4).toNat) (max a 4).toNat))) 0 0 (fun _ => False) := by
  refine Met.ofW (cc := c_Db_leastFree) (maxL := 3) (ret := (some .int)) (by decide +kernel) rfl ?_
  intro p e s m args below meth c s₁ B0 hml hv
  obtain ⟨rfl, hP, hK⟩ := hv
  have hx := B0.exec
  have hb := B0.bytes
  have hr := B0.returns
  have hts := fun w (h : w ∈ wA) => atoms_spec (ws := Cond.code y_Db_leastFree c_Db_leastFree 3 (some .int) :: wA) B0.pre w (List.mem_cons_of_mem _ h)
  have hown : s.vm.findClass R_Db = some m.cls := findClass_of_methodNamed B0.named
  have hlocks := B0.notSynchronized
  have hl := lv_entry ([.ref (ad 1), .int x_a]) (n := 3) (Nat.le_of_ble_eq_true rfl)
  rw [lg_entry_eq]
  generalize (lg_sl ([.ref (ad 1), .int x_a]) ++ List.replicate (3 - (lg_sl ([.ref (ad 1), .int x_a])).length) Slot.unset).toArray = ls at hl ⊢
  have hl : lv_has ls 3 [(0, .ref (ad 1)), (1, .int x_a)] := hl
  have hf_a := z_lt x_a
  have hg_a := z_ge x_a
  rw [hx_a] at hf_a hg_a
  refine lv_iload_n hx hb d_Db_leastFree_0 rfl (lv_at hl 1 rfl) ?_
  refine lv_iconst (v := nI 4) hx hb d_Db_leastFree_1 (by decide) ?_
  refine va_mmax hx hb (hml.trans hl.1.symm) hown (hts _ w_365) (hts _ w_366) (hts _ w_13) (hts _ w_367) (Nat.le_of_ble_eq_true rfl) (Nat.le_of_ble_eq_true rfl) (Nat.zero_le _) (Nat.zero_le _) d_Db_leastFree_2 ?_
  obtain ⟨b0, hb0⟩ : ∃ b0 : Nat, b0 = (max a 4).toNat := ⟨_, rfl⟩
  have hb1 : b0 < 2147483648 := by omega
  refine W.eq (g2 := F0 m 5 ls [.int (nI b0)]) (by congr 3; rcases Int.lt_or_le a 4 with q | q; rw [if_pos (Int32.lt_iff_toInt_lt.mpr (by rw [hx_a, nI_toInt (by decide)]; exact q)), show b0 = 4 by omega]; rw [if_neg (fun w => absurd (Int32.lt_iff_toInt_lt.mp w) (by rw [hx_a, nI_toInt (by decide)]; omega))]; exact z_i (by rw [hx_a]; omega) (by omega)) ?_
  refine lv_istore_n (lv' := [(2, .int (nI b0)), (0, .ref (ad 1)), (1, .int x_a)]) hx hb d_Db_leastFree_5 rfl hl (by decide) rfl (fun ls hl => ?_)
  have loop6 : ∀ (n9 : Nat) (b : Nat), 128 - b < n9 → b < 2147483648 → db_lf tk (128 - (max a 4).toNat) (max a 4).toNat = db_lf tk (128 - b) b → ∀ ls : Array Slot, lv_has ls 3 [(0, .ref (ad 1)), (1, .int x_a), (2, .int (nI b))] → W p l e (headSpec (Cond.code y_Db_leastFree c_Db_leastFree 3 (some .int) :: wA) (rmk 2 0 0)).room s m ([.ref (ad 1), .int x_a] : List Value).toArray below meth c s.heap [] 0 0 (MQ below (QcRead (nI (db_lf tk (128 - (max a 4).toNat) (max a 4).toNat))) ([.ref (ad 1), .int x_a] : List Value).toArray s 0 0 (fun _ => False)) (F0 m 6 ls []) := by
    intro n9
    induction n9 with
    | zero => intro b h8 h9 h10 ls hl; exact absurd h8 (by omega)
    | succ n9 ih =>
      intro b h8 h9 h10 ls hl
      refine lv_iload_n hx hb d_Db_leastFree_6 rfl (lv_at hl 2 rfl) ?_
      refine lv_sipush (v := nI 128) hx hb d_Db_leastFree_7 (by decide) ?_
      refine ln_icmp_ge (tgt := 30) hx hb (by omega) (by omega) d_Db_leastFree_10 (by decide) (fun c_1 => ?_) (fun c_1 => ?_)
      · skip
        refine lv_iconst (v := nI 0) hx hb d_Db_leastFree_30 (by decide) ?_
        exact W.iret (v := nI 0) hx hb hr (fun t9 ht hW => ⟨congrArg (fun z => Outcome.returned (some (Value.int z))) (show nI 0 = (nI (db_lf tk (128 - (max a 4).toNat) (max a 4).toNat)) from (congrArg nI (by rw [h10]; first | (rw [show 128 - b = 0 by omega]; rfl) | (rw [show 128 - b = 127 - b + 1 by omega, db_lf, if_pos (by assumption)])))), ht⟩) (fun q h => nomatch h) d_Db_leastFree_31
      · skip
        refine lv_aload_n hx hb d_Db_leastFree_13 rfl (lv_at hl 0 rfl) ?_
        refine va_get (D := D) (ci := 1) (v := .ref (ad 8)) (C := R_Db) (T := T_Db) (N := 3) hx hb hts u_Db hown hK hP 1 rfl rfl 1 (by decide) (hts _ w_54) (fun _ h9 => h9) rfl d_Db_leastFree_14 ?_
        refine lv_iload_n hx hb d_Db_leastFree_17 rfl (lv_at hl 2 rfl) ?_
        refine ln_zald hx hb hK hP 8 1 rfl rfl (by omega) (by decide) d_Db_leastFree_18 ?_
        refine lv_if_ne (tgt := 24) hx hb d_Db_leastFree_19 (by decide) (fun c_2 => ?_) (fun c_2 => ?_)
        · skip
          refine lv_iinc (v := nI (b + 1)) (lv' := [(2, .int (nI (b + 1))), (0, .ref (ad 1)), (1, .int x_a)]) hx hb d_Db_leastFree_24 hl (k := 2) rfl (ln_inc (by decide)) (by decide) rfl (fun ls hl => ?_)
          refine lv_goto (tgt := 6) hx hb d_Db_leastFree_27 (by decide) ?_
          exact ih (b + 1) (by omega) (by omega) (by rw [h10, show 128 - b = 127 - b + 1 by omega, db_lf, if_neg (by assumption), show 128 - (b + 1) = 127 - b by omega]) ls (lv_sub hl [1, 2, 0] rfl)
        · skip
          refine lv_iload_n hx hb d_Db_leastFree_22 rfl (lv_at hl 2 rfl) ?_
          exact W.iret (v := nI b) hx hb hr (fun t9 ht hW => ⟨congrArg (fun z => Outcome.returned (some (Value.int z))) (show nI b = (nI (db_lf tk (128 - (max a 4).toNat) (max a 4).toNat)) from (congrArg nI (by rw [h10]; first | (rw [show 128 - b = 0 by omega]; rfl) | (rw [show 128 - b = 127 - b + 1 by omega, db_lf, if_pos (by assumption)])))), ht⟩) (fun q h => nomatch h) d_Db_leastFree_23
  exact loop6 129 b0 (by omega) (by omega) (by rw [hb0]) ls (lv_sub hl [1, 2, 0] rfl)
theorem m_Db_hasSpan : mV R_Db y_Db_hasSpan (Cond.code y_Db_hasSpan c_Db_hasSpan 4 (some .boolean)) 3 := ⟨⟨w_381, wp_8, w_3, w_382⟩, by decide +kernel⟩
set_option maxHeartbeats 4000000 in
set_option maxRecDepth 100000 in
theorem k_Db_hasSpan (l : Launch) {D : va_G} {ct : Nat → ClassId} {ad : Nat → Nat} {B : Nat → Int32} {g : Nat → Option Nat} {tk : Nat → Int32} {fr : Int32} {LP : List Nat} {pr : Nat → Nat → Int32} {b : Int} {x_b : Int32} (hx_b : x_b.toInt = b) {u : Int} {x_u : Int32} (hx_u : x_u.toInt = u) {v : Int} {x_v : Int32} (hx_v : x_v.toInt = v)  : Met l y_Db_hasSpan (Cond.code y_Db_hasSpan c_Db_hasSpan 4 (some .boolean) :: wA) (rmk 1 0 0) (va_Pc [.ref (ad 1), .int x_b, .int x_u, .int x_v] (cR D (tyC ct) (wsC ct ad B g tk fr LP pr))) (QcRead (bI (0 ≤ b ∧ b < 128 ∧ g b.toNat ≠ none ∧ 0 ≤ u ∧ u ≤ v ∧ v ≤ 1024))) 0 0 (fun _ => False) := by
  refine Met.ofW (cc := c_Db_hasSpan) (maxL := 4) (ret := (some .boolean)) (by decide +kernel) rfl ?_
  intro p e s m args below meth c s₁ B0 hml hv
  obtain ⟨rfl, hP, hK⟩ := hv
  have hx := B0.exec
  have hb := B0.bytes
  have hr := B0.returns
  have hts := fun w (h : w ∈ wA) => atoms_spec (ws := Cond.code y_Db_hasSpan c_Db_hasSpan 4 (some .boolean) :: wA) B0.pre w (List.mem_cons_of_mem _ h)
  have hown : s.vm.findClass R_Db = some m.cls := findClass_of_methodNamed B0.named
  have hlocks := B0.notSynchronized
  have hl := lv_entry ([.ref (ad 1), .int x_b, .int x_u, .int x_v]) (n := 4) (Nat.le_of_ble_eq_true rfl)
  rw [lg_entry_eq]
  generalize (lg_sl ([.ref (ad 1), .int x_b, .int x_u, .int x_v]) ++ List.replicate (4 - (lg_sl ([.ref (ad 1), .int x_b, .int x_u, .int x_v])).length) Slot.unset).toArray = ls at hl ⊢
  have hl : lv_has ls 4 [(0, .ref (ad 1)), (1, .int x_b), (2, .int x_u), (3, .int x_v)] := hl
  have hf_b := z_lt x_b
  have hg_b := z_ge x_b
  rw [hx_b] at hf_b hg_b
  have hf_u := z_lt x_u
  have hg_u := z_ge x_u
  rw [hx_u] at hf_u hg_u
  have hf_v := z_lt x_v
  have hg_v := z_ge x_v
  rw [hx_v] at hf_v hg_v
  refine lv_iload_n hx hb d_Db_hasSpan_0 rfl (lv_at hl 1 rfl) ?_
  refine lz_if_lt (tgt := 40) hx hb hx_b d_Db_hasSpan_1 (by decide) (fun c_1 => ?_) (fun c_1 => ?_)
  · skip
    refine lv_iconst (v := nI 0) hx hb d_Db_hasSpan_40 (by decide) ?_
    exact W.zret (ty := .boolean) (v := nI 0) hx hb hr rfl (fun t9 ht hW => ⟨congrArg (fun z => Outcome.returned (some (Value.int z))) (show nI 0 = (bI (0 ≤ b ∧ b < 128 ∧ g b.toNat ≠ none ∧ 0 ≤ u ∧ u ≤ v ∧ v ≤ 1024)) from (by first | exact bI_t ⟨by omega, by omega, (by rw [Int.toNat_natCast, y_3e]; exact fun q => by cases q), by omega, by omega, by omega⟩ | exact bI_f (fun q => absurd q (by omega)) | exact bI_f (fun q => q.2.2.1 (by rw [Int.toNat_natCast]; assumption)))), ht⟩) (fun q h => nomatch h) d_Db_hasSpan_41
  · skip
    refine lv_iload_n hx hb d_Db_hasSpan_4 rfl (lv_at hl 1 rfl) ?_
    refine lv_sipush (v := nI 128) hx hb d_Db_hasSpan_5 (by decide) ?_
    refine lz_icmp_ge (tgt := 40) hx hb hx_b (nI_toInt (by omega)) d_Db_hasSpan_8 (by decide) (fun c_2 => ?_) (fun c_2 => ?_)
    · skip
      refine lv_iconst (v := nI 0) hx hb d_Db_hasSpan_40 (by decide) ?_
      exact W.zret (ty := .boolean) (v := nI 0) hx hb hr rfl (fun t9 ht hW => ⟨congrArg (fun z => Outcome.returned (some (Value.int z))) (show nI 0 = (bI (0 ≤ b ∧ b < 128 ∧ g b.toNat ≠ none ∧ 0 ≤ u ∧ u ≤ v ∧ v ≤ 1024)) from (by first | exact bI_t ⟨by omega, by omega, (by rw [Int.toNat_natCast, y_3e]; exact fun q => by cases q), by omega, by omega, by omega⟩ | exact bI_f (fun q => absurd q (by omega)) | exact bI_f (fun q => q.2.2.1 (by rw [Int.toNat_natCast]; assumption)))), ht⟩) (fun q h => nomatch h) d_Db_hasSpan_41
    · skip
      obtain ⟨k, rfl⟩ := Int.eq_ofNat_of_zero_le (show 0 ≤ b by omega)
      obtain rfl : x_b = nI k := z_i hx_b (by omega)
      refine lv_aload_n hx hb d_Db_hasSpan_11 rfl (lv_at hl 0 rfl) ?_
      refine va_get (D := D) (ci := 1) (v := .ref (ad 7)) (C := R_Db) (T := T_Db) (N := 3) hx hb hts u_Db hown hK hP 1 rfl rfl 0 (by decide) (hts _ w_53) (fun _ h9 => h9) rfl d_Db_hasSpan_12 ?_
      refine lv_iload_n hx hb d_Db_hasSpan_15 rfl (lv_at hl 1 rfl) ?_
      refine ln_aald hx hb hK hP 7 2 rfl rfl (by omega) (by decide) d_Db_hasSpan_16 ?_
      rcases y_3e : g k with _ | y_3
      · skip
        refine lv_ifnullN (tgt := 40) hx hb d_Db_hasSpan_17 (by decide) ?_
        refine lv_iconst (v := nI 0) hx hb d_Db_hasSpan_40 (by decide) ?_
        exact W.zret (ty := .boolean) (v := nI 0) hx hb hr rfl (fun t9 ht hW => ⟨congrArg (fun z => Outcome.returned (some (Value.int z))) (show nI 0 = (bI (0 ≤ ((k : Nat) : Int) ∧ ((k : Nat) : Int) < 128 ∧ g ((k : Nat) : Int).toNat ≠ none ∧ 0 ≤ u ∧ u ≤ v ∧ v ≤ 1024)) from (by first | exact bI_t ⟨by omega, by omega, (by rw [Int.toNat_natCast, y_3e]; exact fun q => by cases q), by omega, by omega, by omega⟩ | exact bI_f (fun q => absurd q (by omega)) | exact bI_f (fun q => q.2.2.1 (by rw [Int.toNat_natCast]; assumption)))), ht⟩) (fun q h => nomatch h) d_Db_hasSpan_41
      · skip
        refine lv_ifnull hx hb d_Db_hasSpan_17 ?_
        refine lv_iload_n hx hb d_Db_hasSpan_20 rfl (lv_at hl 2 rfl) ?_
        refine lz_if_lt (tgt := 40) hx hb hx_u d_Db_hasSpan_21 (by decide) (fun c_4 => ?_) (fun c_4 => ?_)
        · skip
          refine lv_iconst (v := nI 0) hx hb d_Db_hasSpan_40 (by decide) ?_
          exact W.zret (ty := .boolean) (v := nI 0) hx hb hr rfl (fun t9 ht hW => ⟨congrArg (fun z => Outcome.returned (some (Value.int z))) (show nI 0 = (bI (0 ≤ ((k : Nat) : Int) ∧ ((k : Nat) : Int) < 128 ∧ g ((k : Nat) : Int).toNat ≠ none ∧ 0 ≤ u ∧ u ≤ v ∧ v ≤ 1024)) from (by first | exact bI_t ⟨by omega, by omega, (by rw [Int.toNat_natCast, y_3e]; exact fun q => by cases q), by omega, by omega, by omega⟩ | exact bI_f (fun q => absurd q (by omega)) | exact bI_f (fun q => q.2.2.1 (by rw [Int.toNat_natCast]; assumption)))), ht⟩) (fun q h => nomatch h) d_Db_hasSpan_41
        · skip
          refine lv_iload_n hx hb d_Db_hasSpan_24 rfl (lv_at hl 2 rfl) ?_
          refine lv_iload_n hx hb d_Db_hasSpan_25 rfl (lv_at hl 3 rfl) ?_
          refine lz_icmp_gt (tgt := 40) hx hb hx_u hx_v d_Db_hasSpan_26 (by decide) (fun c_5 => ?_) (fun c_5 => ?_)
          · skip
            refine lv_iconst (v := nI 0) hx hb d_Db_hasSpan_40 (by decide) ?_
            exact W.zret (ty := .boolean) (v := nI 0) hx hb hr rfl (fun t9 ht hW => ⟨congrArg (fun z => Outcome.returned (some (Value.int z))) (show nI 0 = (bI (0 ≤ ((k : Nat) : Int) ∧ ((k : Nat) : Int) < 128 ∧ g ((k : Nat) : Int).toNat ≠ none ∧ 0 ≤ u ∧ u ≤ v ∧ v ≤ 1024)) from (by first | exact bI_t ⟨by omega, by omega, (by rw [Int.toNat_natCast, y_3e]; exact fun q => by cases q), by omega, by omega, by omega⟩ | exact bI_f (fun q => absurd q (by omega)) | exact bI_f (fun q => q.2.2.1 (by rw [Int.toNat_natCast]; assumption)))), ht⟩) (fun q h => nomatch h) d_Db_hasSpan_41
          · skip
            refine lv_iload_n hx hb d_Db_hasSpan_29 rfl (lv_at hl 3 rfl) ?_
            refine lv_sipush (v := nI 1024) hx hb d_Db_hasSpan_30 (by decide) ?_
            refine lz_icmp_gt (tgt := 40) hx hb hx_v (nI_toInt (by omega)) d_Db_hasSpan_33 (by decide) (fun c_6 => ?_) (fun c_6 => ?_)
            · skip
              refine lv_iconst (v := nI 0) hx hb d_Db_hasSpan_40 (by decide) ?_
              exact W.zret (ty := .boolean) (v := nI 0) hx hb hr rfl (fun t9 ht hW => ⟨congrArg (fun z => Outcome.returned (some (Value.int z))) (show nI 0 = (bI (0 ≤ ((k : Nat) : Int) ∧ ((k : Nat) : Int) < 128 ∧ g ((k : Nat) : Int).toNat ≠ none ∧ 0 ≤ u ∧ u ≤ v ∧ v ≤ 1024)) from (by first | exact bI_t ⟨by omega, by omega, (by rw [Int.toNat_natCast, y_3e]; exact fun q => by cases q), by omega, by omega, by omega⟩ | exact bI_f (fun q => absurd q (by omega)) | exact bI_f (fun q => q.2.2.1 (by rw [Int.toNat_natCast]; assumption)))), ht⟩) (fun q h => nomatch h) d_Db_hasSpan_41
            · skip
              refine lv_iconst (v := nI 1) hx hb d_Db_hasSpan_36 (by decide) ?_
              refine lv_goto (tgt := 41) hx hb d_Db_hasSpan_37 (by decide) ?_
              exact W.zret (ty := .boolean) (v := nI 1) hx hb hr rfl (fun t9 ht hW => ⟨congrArg (fun z => Outcome.returned (some (Value.int z))) (show nI 1 = (bI (0 ≤ ((k : Nat) : Int) ∧ ((k : Nat) : Int) < 128 ∧ g ((k : Nat) : Int).toNat ≠ none ∧ 0 ≤ u ∧ u ≤ v ∧ v ≤ 1024)) from (by first | exact bI_t ⟨by omega, by omega, (by rw [Int.toNat_natCast, y_3e]; exact fun q => by cases q), by omega, by omega, by omega⟩ | exact bI_f (fun q => absurd q (by omega)) | exact bI_f (fun q => q.2.2.1 (by rw [Int.toNat_natCast]; assumption)))), ht⟩) (fun q h => nomatch h) d_Db_hasSpan_41
theorem m_Db_byteAt : mV R_Db y_Db_byteAt (Cond.code y_Db_byteAt c_Db_byteAt 3 (some .int)) 2 := ⟨⟨w_482, w_483, w_3, w_484⟩, by decide +kernel⟩
set_option maxHeartbeats 4000000 in
set_option maxRecDepth 100000 in
theorem k_Db_byteAt (l : Launch) {D : va_G} {ct : Nat → ClassId} {ad : Nat → Nat} {B : Nat → Int32} {g : Nat → Option Nat} {tk : Nat → Int32} {fr : Int32} {LP : List Nat} {pr : Nat → Nat → Int32} {b : Int} {x_b : Int32} (hx_b : x_b.toInt = b) {i : Nat} (h0 : gOK g LP) (h1 : i < 1024) : Met l y_Db_byteAt (Cond.code y_Db_byteAt c_Db_byteAt 3 (some .int) :: wA) (rmk 2 0 0) (va_Pc [.ref (ad 1), .int x_b, .int (nI i)] (cR D (tyC ct) (wsC ct ad B g tk fr LP pr))) (QcRead (db_at g pr b i)) 0 0 (fun _ => False) := by
  refine Met.ofW (cc := c_Db_byteAt) (maxL := 3) (ret := (some .int)) (by decide +kernel) rfl ?_
  intro p e s m args below meth c s₁ B0 hml hv
  obtain ⟨rfl, hP, hK⟩ := hv
  have hx := B0.exec
  have hb := B0.bytes
  have hr := B0.returns
  have hts := fun w (h : w ∈ wA) => atoms_spec (ws := Cond.code y_Db_byteAt c_Db_byteAt 3 (some .int) :: wA) B0.pre w (List.mem_cons_of_mem _ h)
  have hown : s.vm.findClass R_Db = some m.cls := findClass_of_methodNamed B0.named
  have hlocks := B0.notSynchronized
  have hl := lv_entry ([.ref (ad 1), .int x_b, .int (nI i)]) (n := 3) (Nat.le_of_ble_eq_true rfl)
  rw [lg_entry_eq]
  generalize (lg_sl ([.ref (ad 1), .int x_b, .int (nI i)]) ++ List.replicate (3 - (lg_sl ([.ref (ad 1), .int x_b, .int (nI i)])).length) Slot.unset).toArray = ls at hl ⊢
  have hl : lv_has ls 3 [(0, .ref (ad 1)), (1, .int x_b), (2, .int (nI i))] := hl
  have hf_b := z_lt x_b
  have hg_b := z_ge x_b
  rw [hx_b] at hf_b hg_b
  have hg9 := h0
  refine lv_aload_n hx hb d_Db_byteAt_0 rfl (lv_at hl 0 rfl) ?_
  refine lv_iload_n hx hb d_Db_byteAt_1 rfl (lv_at hl 1 rfl) ?_
  refine lv_iload_n hx hb d_Db_byteAt_2 rfl (lv_at hl 2 rfl) ?_
  refine lv_iload_n hx hb d_Db_byteAt_3 rfl (lv_at hl 2 rfl) ?_
  refine lv_iconst (v := nI 1) hx hb d_Db_byteAt_4 (by decide) ?_
  refine ln_iadd hx hb d_Db_byteAt_5 ?_
  refine rdV ⟨hx, hb, hml, hown, hts⟩ hK hP (k_Db_hasSpan l (b := b) (x_b := x_b) (u := ((i : Nat) : Int)) (x_u := (nI i)) (v := ((i + 1 : Nat) : Int)) (x_v := (nI (i + 1))) hx_b (nI_toInt (by omega)) (nI_toInt (by omega)) ) w_379 m_Db_hasSpan ⟨by decide, by decide⟩ 1 rfl rfl rfl hl.1 rfl (Nat.le_of_ble_eq_true rfl) d_Db_byteAt_6 ⟨Nat.zero_le _, Nat.zero_le _⟩ ?_
  refine lb_if_eq (tgt := 27) hx hb d_Db_byteAt_9 (by decide) (fun c_1 => ?_) (fun c_1 => ?_)
  · skip
    refine lv_iconst (v := nI 0) hx hb d_Db_byteAt_27 (by decide) ?_
    exact W.iret (v := nI 0) hx hb hr (fun t9 ht hW => ⟨congrArg (fun z => Outcome.returned (some (Value.int z))) (show nI 0 = (db_at g pr b i) from (by unfold db_at; first | (rw [if_neg (by omega), Int.toNat_natCast, hy]; done) | skip; rcases Decidable.em (b < 0 ∨ 128 ≤ b) with q | q; rw [if_pos q]; rw [if_neg q]; rcases h9 : g b.toNat with _ | y; rfl; exact absurd ⟨by omega, by omega, (by rw [h9]; exact fun q => by cases q), by omega, by omega, by omega⟩ c_1)), ht⟩) (fun q h => nomatch h) d_Db_byteAt_28
  · skip
    obtain ⟨p1, p2, p3, -⟩ := c_1
    obtain ⟨k, rfl⟩ := Int.eq_ofNat_of_zero_le (show 0 ≤ b by omega)
    obtain rfl : x_b = nI k := z_i hx_b (by omega)
    rw [Int.toNat_natCast] at p3
    obtain ⟨y, hy⟩ := Option.ne_none_iff_exists'.mp p3
    obtain ⟨k9, hk9⟩ := wsC_row (ct := ct) (ad := ad) (B := B) (g := g) (tk := tk) (fr := fr) (pr := pr) (hg9 k y (by omega) hy)
    refine lv_aload_n hx hb d_Db_byteAt_12 rfl (lv_at hl 0 rfl) ?_
    refine va_get (D := D) (ci := 1) (v := .ref (ad 7)) (C := R_Db) (T := T_Db) (N := 3) hx hb hts u_Db hown hK hP 1 rfl rfl 0 (by decide) (hts _ w_53) (fun _ h9 => h9) rfl d_Db_byteAt_13 ?_
    refine lv_iload_n hx hb d_Db_byteAt_16 rfl (lv_at hl 1 rfl) ?_
    refine ln_aald hx hb hK hP 7 2 rfl rfl (by omega) (by decide) d_Db_byteAt_17 ?_
    refine W.eq (g2 := F0 m 18 ls [.ref y]) (by rw [hy]; rfl) ?_
    refine lv_iload_n hx hb d_Db_byteAt_18 rfl (lv_at hl 2 rfl) ?_
    refine ln_bald hx hb hK hP k9 0 hk9 rfl (by omega) (by decide) d_Db_byteAt_19 ?_
    refine lv_sipush (v := nI 255) hx hb d_Db_byteAt_20 (by decide) ?_
    refine lv_iand hx hb d_Db_byteAt_23 ?_
    refine lv_goto (tgt := 28) hx hb d_Db_byteAt_24 (by decide) ?_
    exact W.iret (v := (pr y i) &&& (nI 255)) hx hb hr (fun t9 ht hW => ⟨congrArg (fun z => Outcome.returned (some (Value.int z))) (show (pr y i) &&& (nI 255) = (db_at g pr ((k : Nat) : Int) i) from (by unfold db_at; first | (rw [if_neg (by omega), Int.toNat_natCast, hy]; done) | skip; rcases Decidable.em (b < 0 ∨ 128 ≤ b) with q | q; rw [if_pos q]; rw [if_neg q]; rcases h9 : g b.toNat with _ | y; rfl; exact absurd ⟨by omega, by omega, (by rw [h9]; exact fun q => by cases q), by omega, by omega, by omega⟩ c_1)), ht⟩) (fun q h => nomatch h) d_Db_byteAt_28
theorem m_Ma_floorMod : mS y_Ma_floorMod (Cond.code y_Ma_floorMod c_Ma_floorMod 3 (some .int)) 2 := ⟨⟨w_347, w_13, w_348⟩, by decide +kernel⟩
set_option maxHeartbeats 4000000 in
set_option maxRecDepth 100000 in
theorem k_Ma_floorMod (l : Launch) {D : va_G} {ct : Nat → ClassId} {ad : Nat → Nat} {B : Nat → Int32} {g : Nat → Option Nat} {tk : Nat → Int32} {fr : Int32} {LP : List Nat} {pr : Nat → Nat → Int32} {x : Int32} {y : Int32} (h0 : ¬ y = 0) : Met l y_Ma_floorMod (Cond.code y_Ma_floorMod c_Ma_floorMod 3 (some .int) :: wA) (rmk 1 0 0) (va_Pc [.int x, .int y] (cR D (tyC ct) (wsC ct ad B g tk fr LP pr))) (QcRead (ma_fm x y)) 0 0 (fun _ => False) := by
  refine va_MetF (cc := c_Ma_floorMod) (maxL := 3) (ret := (some .int)) (by decide +kernel) rfl ?_
  intro p e s m args below meth c s₁ B0 hml hv
  obtain ⟨rfl, hP, hK⟩ := hv
  have hx := B0.exec
  have hb := B0.bytes
  have hr := B0.returns
  have hts := fun w (h : w ∈ wA) => atoms_spec (ws := Cond.code y_Ma_floorMod c_Ma_floorMod 3 (some .int) :: wA) B0.pre w (List.mem_cons_of_mem _ h)
  have hown : s.vm.findClass R_Ma = some m.cls := findClass_of_methodNamed B0.named
  have hlocks := B0.notSynchronized
  have hl := lv_entry ([.int x, .int y]) (n := 3) (Nat.le_of_ble_eq_true rfl)
  rw [lg_entry_eq]
  generalize (lg_sl ([.int x, .int y]) ++ List.replicate (3 - (lg_sl ([.int x, .int y])).length) Slot.unset).toArray = ls at hl ⊢
  have hl : lv_has ls 3 [(0, .int x), (1, .int y)] := hl
  refine lv_iload_n hx hb d_Ma_floorMod_0 rfl (lv_at hl 0 rfl) ?_
  refine lv_iload_n hx hb d_Ma_floorMod_1 rfl (lv_at hl 1 rfl) ?_
  refine lv_irem hx hb d_Ma_floorMod_2 h0 ?_
  refine lv_istore_n (lv' := [(2, .int (x - x / y * y)), (0, .int x), (1, .int y)]) hx hb d_Ma_floorMod_3 rfl hl (by decide) rfl (fun ls hl => ?_)
  refine lv_iload_n hx hb d_Ma_floorMod_4 rfl (lv_at hl 1 rfl) ?_
  refine lv_iload_n hx hb d_Ma_floorMod_5 rfl (lv_at hl 2 rfl) ?_
  refine lv_ixor hx hb d_Ma_floorMod_6 ?_
  refine lv_if_ge (tgt := 18) hx hb d_Ma_floorMod_7 (by decide) (fun c_1 => ?_) (fun c_1 => ?_)
  · skip
    refine lv_iload_n hx hb d_Ma_floorMod_18 rfl (lv_at hl 0 rfl) ?_
    exact W.iret (v := x - x / y * y) hx hb hr (fun t9 ht hW => ⟨congrArg (fun z => Outcome.returned (some (Value.int z))) (show x - x / y * y = (ma_fm x y) from (by unfold ma_fm; first | (rw [if_pos c_1]; done) | (rw [if_neg c_1, if_pos c_2]; done) | (rw [if_neg c_1, if_neg c_2]; done))), ht⟩) (fun q h => nomatch h) d_Ma_floorMod_19
  · skip
    refine lv_iload_n hx hb d_Ma_floorMod_10 rfl (lv_at hl 0 rfl) ?_
    refine lv_if_eq (tgt := 18) hx hb d_Ma_floorMod_11 (by decide) (fun c_2 => ?_) (fun c_2 => ?_)
    · skip
      refine lv_iload_n hx hb d_Ma_floorMod_18 rfl (lv_at hl 0 rfl) ?_
      exact W.iret (v := x - x / y * y) hx hb hr (fun t9 ht hW => ⟨congrArg (fun z => Outcome.returned (some (Value.int z))) (show x - x / y * y = (ma_fm x y) from (by unfold ma_fm; first | (rw [if_pos c_1]; done) | (rw [if_neg c_1, if_pos c_2]; done) | (rw [if_neg c_1, if_neg c_2]; done))), ht⟩) (fun q h => nomatch h) d_Ma_floorMod_19
    · skip
      refine lv_iload_n hx hb d_Ma_floorMod_14 rfl (lv_at hl 0 rfl) ?_
      refine lv_iload_n hx hb d_Ma_floorMod_15 rfl (lv_at hl 2 rfl) ?_
      refine lv_iadd hx hb d_Ma_floorMod_16 ?_
      exact W.iret (v := (x - x / y * y) + y) hx hb hr (fun t9 ht hW => ⟨congrArg (fun z => Outcome.returned (some (Value.int z))) (show (x - x / y * y) + y = (ma_fm x y) from (by unfold ma_fm; first | (rw [if_pos c_1]; done) | (rw [if_neg c_1, if_pos c_2]; done) | (rw [if_neg c_1, if_neg c_2]; done))), ht⟩) (fun q h => nomatch h) d_Ma_floorMod_17
theorem m_Bo_targetByte : mS y_Bo_targetByte (Cond.code y_Bo_targetByte c_Bo_targetByte 2 (some .int)) 2 := ⟨⟨w_344, w_6, w_345⟩, by decide +kernel⟩
set_option maxHeartbeats 4000000 in
set_option maxRecDepth 100000 in
theorem k_Bo_targetByte (l : Launch) {D : va_G} {ct : Nat → ClassId} {ad : Nat → Nat} {B : Nat → Int32} {g : Nat → Option Nat} {tk : Nat → Int32} {fr : Int32} {LP : List Nat} {pr : Nat → Nat → Int32} {x : Int32} {i : Nat}  : Met l y_Bo_targetByte (Cond.code y_Bo_targetByte c_Bo_targetByte 2 (some .int) :: wA) (rmk 2 0 0) (va_Pc [.int x, .int (nI i)] (cR D (tyC ct) (wsC ct ad B g tk fr LP pr))) (QcRead (bo_tb x i)) 0 0 (fun _ => False) := by
  refine Met.ofW (cc := c_Bo_targetByte) (maxL := 2) (ret := (some .int)) (by decide +kernel) rfl ?_
  intro p e s m args below meth c s₁ B0 hml hv
  obtain ⟨rfl, hP, hK⟩ := hv
  have hx := B0.exec
  have hb := B0.bytes
  have hr := B0.returns
  have hts := fun w (h : w ∈ wA) => atoms_spec (ws := Cond.code y_Bo_targetByte c_Bo_targetByte 2 (some .int) :: wA) B0.pre w (List.mem_cons_of_mem _ h)
  have hown : s.vm.findClass R_Bo = some m.cls := findClass_of_methodNamed B0.named
  have hlocks := B0.notSynchronized
  have hl := lv_entry ([.int x, .int (nI i)]) (n := 2) (Nat.le_of_ble_eq_true rfl)
  rw [lg_entry_eq]
  generalize (lg_sl ([.int x, .int (nI i)]) ++ List.replicate (2 - (lg_sl ([.int x, .int (nI i)])).length) Slot.unset).toArray = ls at hl ⊢
  have hl : lv_has ls 2 [(0, .int x), (1, .int (nI i))] := hl
  refine lv_iconst (v := nI 1) hx hb d_Bo_targetByte_0 (by decide) ?_
  refine lv_iload_n hx hb d_Bo_targetByte_1 rfl (lv_at hl 0 rfl) ?_
  refine lv_iload_n hx hb d_Bo_targetByte_2 rfl (lv_at hl 1 rfl) ?_
  refine lv_iadd hx hb d_Bo_targetByte_3 ?_
  refine lv_sipush (v := nI 255) hx hb d_Bo_targetByte_4 (by decide) ?_
  refine rdS ⟨hx, hb, hml, hown, hts⟩ hK hP (k_Ma_floorMod l (x := (x + (nI i))) (y := (nI 255)) (by decide)) w_346 m_Ma_floorMod ⟨by decide, by decide⟩ rfl hl.1 rfl (Nat.le_of_ble_eq_true rfl) d_Bo_targetByte_7 ⟨Nat.zero_le _, Nat.zero_le _⟩ ?_
  refine lv_iadd hx hb d_Bo_targetByte_10 ?_
  exact W.iret (v := (nI 1) + (ma_fm (x + (nI i)) (nI 255))) hx hb hr (fun t9 ht hW => ⟨congrArg (fun z => Outcome.returned (some (Value.int z))) (show (nI 1) + (ma_fm (x + (nI i)) (nI 255)) = (bo_tb x i) from rfl), ht⟩) (fun q h => nomatch h) d_Bo_targetByte_11
theorem m_Bo_lastPiece : mS y_Bo_lastPiece (Cond.code y_Bo_lastPiece c_Bo_lastPiece 2 (some .int)) 2 := ⟨⟨w_411, w_6, w_412⟩, by decide +kernel⟩
set_option maxHeartbeats 4000000 in
set_option maxRecDepth 100000 in
theorem k_Bo_lastPiece (l : Launch) {D : va_G} {ct : Nat → ClassId} {ad : Nat → Nat} {B : Nat → Int32} {g : Nat → Option Nat} {tk : Nat → Int32} {fr : Int32} {LP : List Nat} {pr : Nat → Nat → Int32} {a : Nat} {n : Nat} (h0 : a + n < 2147483648) (h1 : 1 ≤ n) : Met l y_Bo_lastPiece (Cond.code y_Bo_lastPiece c_Bo_lastPiece 2 (some .int) :: wA) (rmk 1 0 0) (va_Pc [.int (nI a), .int (nI n)] (cR D (tyC ct) (wsC ct ad B g tk fr LP pr))) (QcRead (nI ((a + n - 1) / 1024))) 0 0 (fun _ => False) := by
  refine Met.ofW (cc := c_Bo_lastPiece) (maxL := 2) (ret := (some .int)) (by decide +kernel) rfl ?_
  intro p e s m args below meth c s₁ B0 hml hv
  obtain ⟨rfl, hP, hK⟩ := hv
  have hx := B0.exec
  have hb := B0.bytes
  have hr := B0.returns
  have hts := fun w (h : w ∈ wA) => atoms_spec (ws := Cond.code y_Bo_lastPiece c_Bo_lastPiece 2 (some .int) :: wA) B0.pre w (List.mem_cons_of_mem _ h)
  have hown : s.vm.findClass R_Bo = some m.cls := findClass_of_methodNamed B0.named
  have hlocks := B0.notSynchronized
  have hl := lv_entry ([.int (nI a), .int (nI n)]) (n := 2) (Nat.le_of_ble_eq_true rfl)
  rw [lg_entry_eq]
  generalize (lg_sl ([.int (nI a), .int (nI n)]) ++ List.replicate (2 - (lg_sl ([.int (nI a), .int (nI n)])).length) Slot.unset).toArray = ls at hl ⊢
  have hl : lv_has ls 2 [(0, .int (nI a)), (1, .int (nI n))] := hl
  refine lv_iload_n hx hb d_Bo_lastPiece_0 rfl (lv_at hl 0 rfl) ?_
  refine lv_iload_n hx hb d_Bo_lastPiece_1 rfl (lv_at hl 1 rfl) ?_
  refine ln_iadd hx hb d_Bo_lastPiece_2 ?_
  refine lv_iconst (v := nI 1) hx hb d_Bo_lastPiece_3 (by decide) ?_
  refine ln_isub hx hb d_Bo_lastPiece_4 (by omega) ?_
  refine lv_sipush (v := nI 1024) hx hb d_Bo_lastPiece_5 (by decide) ?_
  refine ln_idiv hx hb d_Bo_lastPiece_8 (by omega) (by omega) (by omega) ?_
  exact W.iret (v := nI (((a + n) - 1) / 1024)) hx hb hr (fun t9 ht hW => ⟨congrArg (fun z => Outcome.returned (some (Value.int z))) (show nI (((a + n) - 1) / 1024) = (nI ((a + n - 1) / 1024)) from rfl), ht⟩) (fun q h => nomatch h) d_Bo_lastPiece_9
theorem m_Bo_byteAt : mV R_Bo y_Bo_byteAt (Cond.code y_Bo_byteAt c_Bo_byteAt 4 (some .int)) 2 := ⟨⟨w_474, w_475, w_6, w_476⟩, by decide +kernel⟩
set_option maxHeartbeats 4000000 in
set_option maxRecDepth 100000 in
theorem k_Bo_byteAt (l : Launch) {D : va_G} {ct : Nat → ClassId} {ad : Nat → Nat} {B : Nat → Int32} {g : Nat → Option Nat} {tk : Nat → Int32} {fr : Int32} {LP : List Nat} {pr : Nat → Nat → Int32} {f : Nat} {x_f : Int32} (hx_f : x_f.toNatClampNeg = f) {i : Nat} (h0 : gOK g LP) (h1 : i < 2147483648) (h2 : (re_kind B f = nI 3 ∧ ¬ nI 59 < re_f B f 4 4) → i < 60) : Met l y_Bo_byteAt (Cond.code y_Bo_byteAt c_Bo_byteAt 4 (some .int) :: wA) (rmk 5 0 0) (va_Pc [.ref (ad 5), .int x_f, .int (nI i)] (cR D (tyC ct) (wsC ct ad B g tk fr LP pr))) (QcRead (bo_at B g pr f i)) 0 0 (fun _ => False) := by
  refine Met.ofW (cc := c_Bo_byteAt) (maxL := 4) (ret := (some .int)) (by decide +kernel) rfl ?_
  intro p e s m args below meth c s₁ B0 hml hv
  obtain ⟨rfl, hP, hK⟩ := hv
  have hx := B0.exec
  have hb := B0.bytes
  have hr := B0.returns
  have hts := fun w (h : w ∈ wA) => atoms_spec (ws := Cond.code y_Bo_byteAt c_Bo_byteAt 4 (some .int) :: wA) B0.pre w (List.mem_cons_of_mem _ h)
  have hown : s.vm.findClass R_Bo = some m.cls := findClass_of_methodNamed B0.named
  have hlocks := B0.notSynchronized
  have hl := lv_entry ([.ref (ad 5), .int x_f, .int (nI i)]) (n := 4) (Nat.le_of_ble_eq_true rfl)
  rw [lg_entry_eq]
  generalize (lg_sl ([.ref (ad 5), .int x_f, .int (nI i)]) ++ List.replicate (4 - (lg_sl ([.ref (ad 5), .int x_f, .int (nI i)])).length) Slot.unset).toArray = ls at hl ⊢
  have hl : lv_has ls 4 [(0, .ref (ad 5)), (1, .int x_f), (2, .int (nI i))] := hl
  have hf_f : x_f.toInt.toNat = f := hx_f
  have hg_f := z_lt x_f
  have hg9 := h0
  refine lv_aload_n hx hb d_Bo_byteAt_0 rfl (lv_at hl 0 rfl) ?_
  refine va_get (D := D) (ci := 0) (v := .ref (ad 2)) (C := R_Bo) (T := T_Bo) (N := 2) hx hb hts u_Bo hown hK hP 5 rfl rfl 1 (by decide) (hts _ w_94) (fun _ h9 => h9) rfl d_Bo_byteAt_1 ?_
  refine lv_iload_n hx hb d_Bo_byteAt_4 rfl (lv_at hl 1 rfl) ?_
  refine rdV ⟨hx, hb, hml, hown, hts⟩ hK hP (k_Re_hasTarget l (f := f) (x_f := x_f) hx_f ) w_335 m_Re_hasTarget ⟨by decide, by decide⟩ 2 rfl rfl rfl hl.1 rfl (Nat.le_of_ble_eq_true rfl) d_Bo_byteAt_5 ⟨Nat.zero_le _, Nat.zero_le _⟩ ?_
  refine lb_if_eq (tgt := 21) hx hb d_Bo_byteAt_8 (by decide) (fun c_1 => ?_) (fun c_1 => ?_)
  · skip
    refine lv_aload_n hx hb d_Bo_byteAt_21 rfl (lv_at hl 0 rfl) ?_
    refine va_get (D := D) (ci := 0) (v := .ref (ad 2)) (C := R_Bo) (T := T_Bo) (N := 2) hx hb hts u_Bo hown hK hP 5 rfl rfl 1 (by decide) (hts _ w_94) (fun _ h9 => h9) rfl d_Bo_byteAt_22 ?_
    refine lv_iload_n hx hb d_Bo_byteAt_25 rfl (lv_at hl 1 rfl) ?_
    refine lv_iload_n hx hb d_Bo_byteAt_26 rfl (lv_at hl 2 rfl) ?_
    refine lv_sipush (v := nI 1024) hx hb d_Bo_byteAt_27 (by decide) ?_
    refine ln_idiv hx hb d_Bo_byteAt_30 (by omega) (by omega) (by omega) ?_
    refine rdV ⟨hx, hb, hml, hown, hts⟩ hK hP (k_Re_blockOf l (f := f) (x_f := x_f) (z := ((i / 1024 : Nat) : Int)) (x_z := (nI (i / 1024))) hx_f (nI_toInt (by omega)) ) w_182 m_Re_blockOf ⟨by decide, by decide⟩ 2 rfl rfl rfl hl.1 rfl (Nat.le_of_ble_eq_true rfl) d_Bo_byteAt_31 ⟨Nat.zero_le _, Nat.zero_le _⟩ ?_
    refine lv_istore_n (lv' := [(3, .int (re_blk B f ((i / 1024 : Nat) : Int))), (0, .ref (ad 5)), (1, .int x_f), (2, .int (nI i))]) hx hb d_Bo_byteAt_34 rfl hl (by decide) rfl (fun ls hl => ?_)
    refine lv_iload_n hx hb d_Bo_byteAt_35 rfl (lv_at hl 0 rfl) ?_
    refine lv_if_ne (tgt := 43) hx hb d_Bo_byteAt_36 (by decide) (fun c_2 => ?_) (fun c_2 => ?_)
    · skip
      refine lv_aload_n hx hb d_Bo_byteAt_43 rfl (lv_at hl 1 rfl) ?_
      refine va_get (D := D) (ci := 0) (v := .ref (ad 1)) (C := R_Bo) (T := T_Bo) (N := 2) hx hb hts u_Bo hown hK hP 5 rfl rfl 0 (by decide) (hts _ w_93) (fun _ h9 => h9) rfl d_Bo_byteAt_44 ?_
      refine lv_iload_n hx hb d_Bo_byteAt_47 rfl (lv_at hl 0 rfl) ?_
      refine lv_iload_n hx hb d_Bo_byteAt_48 rfl (lv_at hl 3 rfl) ?_
      refine lv_sipush (v := nI 1024) hx hb d_Bo_byteAt_49 (by decide) ?_
      refine ln_irem hx hb d_Bo_byteAt_52 (by omega) (by omega) (by omega) ?_
      refine rdV ⟨hx, hb, hml, hown, hts⟩ hK hP (k_Db_byteAt l (b := ((re_blk B f ((i / 1024 : Nat) : Int)).toInt)) (x_b := (re_blk B f ((i / 1024 : Nat) : Int))) (i := (i % 1024)) rfl hg9 (by omega)) w_481 m_Db_byteAt ⟨by decide, by decide⟩ 1 rfl rfl rfl hl.1 rfl (Nat.le_of_ble_eq_true rfl) d_Bo_byteAt_53 ⟨Nat.zero_le _, Nat.zero_le _⟩ ?_
      exact W.iret (v := db_at g pr ((re_blk B f ((i / 1024 : Nat) : Int)).toInt) (i % 1024)) hx hb hr (fun t9 ht hW => ⟨congrArg (fun z => Outcome.returned (some (Value.int z))) (show db_at g pr ((re_blk B f ((i / 1024 : Nat) : Int)).toInt) (i % 1024) = (bo_at B g pr f i) from (by unfold bo_at; first | (rw [if_pos c_1]; done) | (rw [if_neg c_1, if_pos c_2]; done) | (rw [if_neg c_1, if_neg c_2]; done))), ht⟩) (fun q h => nomatch h) d_Bo_byteAt_56
    · skip
      refine lv_iconst (v := nI 0) hx hb d_Bo_byteAt_39 (by decide) ?_
      refine lv_goto (tgt := 56) hx hb d_Bo_byteAt_40 (by decide) ?_
      exact W.iret (v := nI 0) hx hb hr (fun t9 ht hW => ⟨congrArg (fun z => Outcome.returned (some (Value.int z))) (show nI 0 = (bo_at B g pr f i) from (by unfold bo_at; first | (rw [if_pos c_1]; done) | (rw [if_neg c_1, if_pos c_2]; done) | (rw [if_neg c_1, if_neg c_2]; done))), ht⟩) (fun q h => nomatch h) d_Bo_byteAt_56
  · skip
    refine lv_aload_n hx hb d_Bo_byteAt_11 rfl (lv_at hl 0 rfl) ?_
    refine va_get (D := D) (ci := 0) (v := .ref (ad 2)) (C := R_Bo) (T := T_Bo) (N := 2) hx hb hts u_Bo hown hK hP 5 rfl rfl 1 (by decide) (hts _ w_94) (fun _ h9 => h9) rfl d_Bo_byteAt_12 ?_
    refine lv_iload_n hx hb d_Bo_byteAt_15 rfl (lv_at hl 1 rfl) ?_
    refine lv_iload_n hx hb d_Bo_byteAt_16 rfl (lv_at hl 2 rfl) ?_
    refine rdV ⟨hx, hb, hml, hown, hts⟩ hK hP (k_Re_targetByte l (f := f) (x_f := x_f) (i := i) hx_f (h2 c_1)) w_477 m_Re_targetByte ⟨by decide, by decide⟩ 2 rfl rfl rfl hl.1 rfl (Nat.le_of_ble_eq_true rfl) d_Bo_byteAt_17 ⟨Nat.zero_le _, Nat.zero_le _⟩ ?_
    exact W.iret (v := re_f B f (40 + i) 1) hx hb hr (fun t9 ht hW => ⟨congrArg (fun z => Outcome.returned (some (Value.int z))) (show re_f B f (40 + i) 1 = (bo_at B g pr f i) from (by unfold bo_at; first | (rw [if_pos c_1]; done) | (rw [if_neg c_1, if_pos c_2]; done) | (rw [if_neg c_1, if_neg c_2]; done))), ht⟩) (fun q h => nomatch h) d_Bo_byteAt_20
theorem m_Bo_blocksWanted : mV R_Bo y_Bo_blocksWanted (Cond.code y_Bo_blocksWanted c_Bo_blocksWanted 6 (some .int)) 3 := ⟨⟨w_407, w_408, w_6, w_409⟩, by decide +kernel⟩
set_option maxHeartbeats 4000000 in
set_option maxRecDepth 100000 in
theorem k_Bo_blocksWanted (l : Launch) {D : va_G} {ct : Nat → ClassId} {ad : Nat → Nat} {B : Nat → Int32} {g : Nat → Option Nat} {tk : Nat → Int32} {fr : Int32} {LP : List Nat} {pr : Nat → Nat → Int32} {f : Nat} {x_f : Int32} (hx_f : x_f.toNatClampNeg = f) {a : Nat} {n : Nat} (h0 : a + n ≤ 15360) (h1 : 1 ≤ n) : Met l y_Bo_blocksWanted (Cond.code y_Bo_blocksWanted c_Bo_blocksWanted 6 (some .int) :: wA) (rmk 5 0 0) (va_Pc [.ref (ad 5), .int x_f, .int (nI a), .int (nI n)] (cR D (tyC ct) (wsC ct ad B g tk fr LP pr))) (QcRead (nI (bo_want B f ((a + n - 1) / 1024 + 1 - a / 1024) (a / 1024) 0))) 0 0 (fun _ => False) := by
  refine Met.ofW (cc := c_Bo_blocksWanted) (maxL := 6) (ret := (some .int)) (by decide +kernel) rfl ?_
  intro p e s m args below meth c s₁ B0 hml hv
  obtain ⟨rfl, hP, hK⟩ := hv
  have hx := B0.exec
  have hb := B0.bytes
  have hr := B0.returns
  have hts := fun w (h : w ∈ wA) => atoms_spec (ws := Cond.code y_Bo_blocksWanted c_Bo_blocksWanted 6 (some .int) :: wA) B0.pre w (List.mem_cons_of_mem _ h)
  have hown : s.vm.findClass R_Bo = some m.cls := findClass_of_methodNamed B0.named
  have hlocks := B0.notSynchronized
  have hl := lv_entry ([.ref (ad 5), .int x_f, .int (nI a), .int (nI n)]) (n := 6) (Nat.le_of_ble_eq_true rfl)
  rw [lg_entry_eq]
  generalize (lg_sl ([.ref (ad 5), .int x_f, .int (nI a), .int (nI n)]) ++ List.replicate (6 - (lg_sl ([.ref (ad 5), .int x_f, .int (nI a), .int (nI n)])).length) Slot.unset).toArray = ls at hl ⊢
  have hl : lv_has ls 6 [(0, .ref (ad 5)), (1, .int x_f), (2, .int (nI a)), (3, .int (nI n))] := hl
  have hf_f : x_f.toInt.toNat = f := hx_f
  have hg_f := z_lt x_f
  refine lv_iconst (v := nI 0) hx hb d_Bo_blocksWanted_0 (by decide) ?_
  refine lv_istore (lv' := [(4, .int (nI 0)), (0, .ref (ad 5)), (1, .int x_f), (2, .int (nI a)), (3, .int (nI n))]) hx hb d_Bo_blocksWanted_1 hl (by decide) rfl (fun ls hl => ?_)
  refine lv_iload_n hx hb d_Bo_blocksWanted_3 rfl (lv_at hl 3 rfl) ?_
  refine lv_sipush (v := nI 1024) hx hb d_Bo_blocksWanted_4 (by decide) ?_
  refine ln_idiv hx hb d_Bo_blocksWanted_7 (by omega) (by omega) (by omega) ?_
  refine lv_istore (lv' := [(5, .int (nI (a / 1024))), (4, .int (nI 0)), (0, .ref (ad 5)), (1, .int x_f), (2, .int (nI a)), (3, .int (nI n))]) hx hb d_Bo_blocksWanted_8 hl (by decide) rfl (fun ls hl => ?_)
  have loop10 : ∀ (n9 : Nat) (q : Nat) (w : Nat), (a + n - 1) / 1024 + 1 - q < n9 → q ≤ (a + n - 1) / 1024 + 1 → w ≤ q → bo_want B f ((a + n - 1) / 1024 + 1 - a / 1024) (a / 1024) 0 = bo_want B f ((a + n - 1) / 1024 + 1 - q) q w → ∀ ls : Array Slot, lv_has ls 6 [(0, .ref (ad 5)), (1, .int x_f), (2, .int (nI a)), (3, .int (nI n)), (4, .int (nI w)), (5, .int (nI q))] → W p l e (headSpec (Cond.code y_Bo_blocksWanted c_Bo_blocksWanted 6 (some .int) :: wA) (rmk 5 0 0)).room s m ([.ref (ad 5), .int x_f, .int (nI a), .int (nI n)] : List Value).toArray below meth c s.heap [] 0 0 (MQ below (QcRead (nI (bo_want B f ((a + n - 1) / 1024 + 1 - a / 1024) (a / 1024) 0))) ([.ref (ad 5), .int x_f, .int (nI a), .int (nI n)] : List Value).toArray s 0 0 (fun _ => False)) (F0 m 10 ls []) := by
    intro n9
    induction n9 with
    | zero => intro q w h8 h9 h11 h10 ls hl; exact absurd h8 (by omega)
    | succ n9 ih =>
      intro q w h8 h9 h11 h10 ls hl
      refine lv_iload hx hb d_Bo_blocksWanted_10 (lv_at hl 5 rfl) ?_
      refine lv_iload_n hx hb d_Bo_blocksWanted_12 rfl (lv_at hl 2 rfl) ?_
      refine lv_iload_n hx hb d_Bo_blocksWanted_13 rfl (lv_at hl 3 rfl) ?_
      refine rdS ⟨hx, hb, hml, hown, hts⟩ hK hP (k_Bo_lastPiece l (a := a) (n := n) (by omega) (by omega)) w_410 m_Bo_lastPiece ⟨by decide, by decide⟩ rfl hl.1 rfl (Nat.le_of_ble_eq_true rfl) d_Bo_blocksWanted_14 ⟨Nat.zero_le _, Nat.zero_le _⟩ ?_
      refine ln_icmp_gt (tgt := 42) hx hb (by omega) (by omega) d_Bo_blocksWanted_17 (by decide) (fun c_1 => ?_) (fun c_1 => ?_)
      · skip
        refine lv_iload hx hb d_Bo_blocksWanted_42 (lv_at hl 4 rfl) ?_
        exact W.iret (v := nI w) hx hb hr (fun t9 ht hW => ⟨congrArg (fun z => Outcome.returned (some (Value.int z))) (show nI w = (nI (bo_want B f ((a + n - 1) / 1024 + 1 - a / 1024) (a / 1024) 0)) from (congrArg nI (by rw [h10, show (a + n - 1) / 1024 + 1 - q = 0 by omega]; rfl))), ht⟩) (fun q h => nomatch h) d_Bo_blocksWanted_44
      · skip
        refine lv_aload_n hx hb d_Bo_blocksWanted_20 rfl (lv_at hl 0 rfl) ?_
        refine va_get (D := D) (ci := 0) (v := .ref (ad 2)) (C := R_Bo) (T := T_Bo) (N := 2) hx hb hts u_Bo hown hK hP 5 rfl rfl 1 (by decide) (hts _ w_94) (fun _ h9 => h9) rfl d_Bo_blocksWanted_21 ?_
        refine lv_iload_n hx hb d_Bo_blocksWanted_24 rfl (lv_at hl 1 rfl) ?_
        refine lv_iload hx hb d_Bo_blocksWanted_25 (lv_at hl 5 rfl) ?_
        refine rdV ⟨hx, hb, hml, hown, hts⟩ hK hP (k_Re_blockOf l (f := f) (x_f := x_f) (z := ((q : Nat) : Int)) (x_z := (nI q)) hx_f (nI_toInt (by omega)) ) w_182 m_Re_blockOf ⟨by decide, by decide⟩ 2 rfl rfl rfl hl.1 rfl (Nat.le_of_ble_eq_true rfl) d_Bo_blocksWanted_27 ⟨Nat.zero_le _, Nat.zero_le _⟩ ?_
        refine lv_if_ne (tgt := 36) hx hb d_Bo_blocksWanted_30 (by decide) (fun c_2 => ?_) (fun c_2 => ?_)
        · skip
          refine lv_iinc (v := nI (q + 1)) (lv' := [(5, .int (nI (q + 1))), (0, .ref (ad 5)), (1, .int x_f), (2, .int (nI a)), (3, .int (nI n)), (4, .int (nI w))]) hx hb d_Bo_blocksWanted_36 hl (k := 5) rfl (ln_inc (by decide)) (by decide) rfl (fun ls hl => ?_)
          refine lv_goto (tgt := 10) hx hb d_Bo_blocksWanted_39 (by decide) ?_
          exact ih (q + 1) w (by omega) (by omega) (by omega) (by rw [h10, show (a + n - 1) / 1024 + 1 - q = (a + n - 1) / 1024 - q + 1 by omega, bo_want, show (a + n - 1) / 1024 + 1 - (q + 1) = (a + n - 1) / 1024 - q by omega]; first | rw [if_neg (by assumption)] | rw [if_pos (by assumption)]) ls (lv_sub hl [1, 2, 3, 4, 5, 0] rfl)
        · skip
          refine lv_iinc (v := nI (w + 1)) (lv' := [(4, .int (nI (w + 1))), (0, .ref (ad 5)), (1, .int x_f), (2, .int (nI a)), (3, .int (nI n)), (5, .int (nI q))]) hx hb d_Bo_blocksWanted_33 hl (k := 4) rfl (ln_inc (by decide)) (by decide) rfl (fun ls hl => ?_)
          refine lv_iinc (v := nI (q + 1)) (lv' := [(5, .int (nI (q + 1))), (4, .int (nI (w + 1))), (0, .ref (ad 5)), (1, .int x_f), (2, .int (nI a)), (3, .int (nI n))]) hx hb d_Bo_blocksWanted_36 hl (k := 5) rfl (ln_inc (by decide)) (by decide) rfl (fun ls hl => ?_)
          refine lv_goto (tgt := 10) hx hb d_Bo_blocksWanted_39 (by decide) ?_
          exact ih (q + 1) (w + 1) (by omega) (by omega) (by omega) (by rw [h10, show (a + n - 1) / 1024 + 1 - q = (a + n - 1) / 1024 - q + 1 by omega, bo_want, show (a + n - 1) / 1024 + 1 - (q + 1) = (a + n - 1) / 1024 - q by omega]; first | rw [if_neg (by assumption)] | rw [if_pos (by assumption)]) ls (lv_sub hl [2, 3, 4, 5, 1, 0] rfl)
  exact loop10 ((a + n - 1) / 1024 + 2) (a / 1024) 0 (by omega) (by omega) (by omega) rfl ls (lv_sub hl [2, 3, 4, 5, 1, 0] rfl)
