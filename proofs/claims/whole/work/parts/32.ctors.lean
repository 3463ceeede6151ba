/-! constructors -/
def adL (L : List Nat) : Nat → Nat := fun i => L.getD i 0
def tk0 : Nat → Int32 := upd (upd (upd (upd (fun _ => 0) 0 (vp_nar .boolean (nI 1))) 1 (vp_nar .boolean (nI 1))) 2 (vp_nar .boolean (nI 1))) 3 (vp_nar .boolean (nI 1))
def cD (A : Nat → Prop) (D : va_G) (tys : List (ClassId × FieldType)) (ws : va_W) (U : State) : Prop := cW A D tys ws U ∧ aoK U
theorem cD_blind {A : Nat → Prop} {D : va_G} {tys : List (ClassId × FieldType)} {ws : va_W} {av : List Value} : FrameBlind (va_Pc av (cD A D tys ws)) := fun a U g mk q => ⟨q.1, (cW_blind (av := av) a U g mk ⟨q.1, q.2.1⟩).2, aoK_moved (u := U) (U := U.calling g mk a) (Vm.Alike.refl U.vm) q.2.2⟩
abbrev nl36 : Cond := Cond.methodLinkNest "FileBody" 11 y_Fr_init "FileBody"
abbrev nl47 : Cond := Cond.methodLinkNest "FileBody" 18 y_Db_init "FileBody"
def cN (A : Nat → Prop) (D : va_G) (tys : List (ClassId × FieldType)) (ws : va_W) (U : State) : Prop := cD A D tys ws U ∧ va_Nw nl36 U ∧ va_Nw nl47 U
theorem cN_blind {A : Nat → Prop} {D : va_G} {tys : List (ClassId × FieldType)} {ws : va_W} {av : List Value} : FrameBlind (va_Pc av (cN A D tys ws)) := fun a U g mk q => ⟨q.1, (cD_blind (av := av) a U g mk ⟨q.1, q.2.1⟩).2, va_Nw.same (u := U) (U := U.calling g mk a) rfl rfl q.2.2.1, va_Nw.same (u := U) (U := U.calling g mk a) rfl rfl q.2.2.2⟩
def tyA (ct : Nat → ClassId) : List (ClassId × FieldType) := [(ct 0, .byte), (ct 1, .boolean), (ct 2, .array .byte), (ct 3, .int), (ct 4, .long)]
/-- the class's constructor's end -/
def iQ (a : Nat) (A : Nat → Prop) (D : va_G) (ct : Nat → ClassId) : Array Value → State → Outcome → State → Prop := fun _ st oc t => ∃ ad : Nat → Nat, oc = .returned none ∧ ad 0 = a ∧ cX A D ct ad (fun _ => 0) (fun _ => 0) (nI 124) (fun _ => none) t.heap ∧ va_F A st t
theorem rX0 : rX (fun _ => none) [] (fun _ _ => 0) (fun _ => none) := ⟨fun b _ => Or.inl ⟨rfl, rfl⟩, fun b c y _ _ h => by cases h⟩
theorem va_Ptl {D : va_G} {cl : List vw_C} {x : Nat × va_E} {ws : va_W} {H : Heap} (h : va_P D cl (ws ++ [x]) H) : va_P D cl [x] H := fun k q hk => by
  rcases k with _ | k
  · cases hk; exact h ws.length _ (by simp)
  · cases hk
theorem va_D1 {a : Nat} {e0 : va_E} {n : Nat} : va_D (va_A [(a, e0)] n) [(a, e0)] := ⟨fun i j p q hi hj _ => by
  rcases i with _ | i
  · rcases j with _ | j
    · rfl
    · cases hj
  · exact absurd hi (by simp), fun k q hk => va_A.in hk⟩
set_option maxHeartbeats 4000000 in
set_option maxRecDepth 100000 in
theorem k_Fr_init (l : Launch) {D : va_G} {ct : Nat → ClassId} {A : Nat → Prop} {a : Nat}  : Met l y_Fr_init (Cond.code y_Fr_init c_Fr_init 1 none :: wA) (rmk 1 1 4096) (va_Pc [.ref a] (cW A D (tyA ct) [(a, .inr (2, [.null]))])) (wE (fun _ : Nat => none) (fun _ => True) A D (fun u : Nat => [(a, .inr (2, [.ref u])), (u, .inl (ct 0, 4096, .inl (fun _ => 0)))])) 1 4096 A := by
  refine Met.ofW (cc := c_Fr_init) (maxL := 1) (ret := none) (by decide +kernel) rfl ?_
  intro p e s m args below meth c s₁ B0 hml hv
  obtain ⟨rfl, hA, hP, hD, hK⟩ := hv
  have hS : va_S A s.heap s.heap [] := va_S.rf
  have hx := B0.exec
  have hb := B0.bytes
  have hr := B0.returns
  have hts := fun w (h : w ∈ wA) => atoms_spec (ws := Cond.code y_Fr_init c_Fr_init 1 none :: wA) B0.pre w (List.mem_cons_of_mem _ h)
  have hown : s.vm.findClass R_Fr = some m.cls := findClass_of_methodNamed B0.named
  have hin : meth.name = "<init>" := (name_of_methodNamed B0.named B0.method).1
  have hl := lv_entry ([.ref a]) (n := 1) (Nat.le_of_ble_eq_true rfl)
  rw [lg_entry_eq]
  generalize (lg_sl ([.ref a]) ++ List.replicate (1 - (lg_sl ([.ref a])).length) Slot.unset).toArray = ls at hl ⊢
  have hl : lv_has ls 1 [(0, .ref a)] := hl
  refine lv_aload_n hx hb d_Fr_init_0 rfl (lv_at hl 0 rfl) ?_
  refine W.objInit hx hb hown (hts _ w_39) (hts _ w_32) (hts _ w_33) rfl (by rw [hml]; exact hl.1) rfl d_Fr_init_1 (Nat.le_of_ble_eq_true rfl) (Nat.le_of_ble_eq_true rfl) ?_
  refine W.eq (g2 := F0 m 4 ls []) rfl ?_
  refine lv_aload_n hx hb d_Fr_init_4 rfl (lv_at hl 0 rfl) ?_
  refine lv_sipush (v := nI 4096) hx hb d_Fr_init_5 (by decide) ?_
  refine ln_newP (atype := .byte) (ty := .byte) (N := 4096) (a0 := (4096, .inl (fun _ => 0))) hx hb (by decide) (hts _ w_44) rfl hK 0 rfl (fun _ h => h) hP hD hS hA (fun cA => vp_cell_i cA _ (fun _ => 0)) (by decide) (show 0 + 1 ≤ 1 by omega) (show 0 + 4096 ≤ 4096 by omega) d_Fr_init_8 (fun q1 H hP hD hS => ?_)
  have hP : va_P D vwC [(a, .inr (2, [.null])), (q1, .inl (ct 0, 4096, .inl (fun _ => 0)))] H := hP
  have hD : va_D A [(a, .inr (2, [.null])), (q1, .inl (ct 0, 4096, .inl (fun _ => 0)))] := hD
  refine va_putF (D := D) (ci := 2) (v := .ref q1) (ty := .array .byte) (C := R_Fr) (T := T_Fr) (N := 1) hx hb hts u_Fr t_Fr t_Fr_ok n_Fr hown hK hP hD hS 0 rfl rfl 0 (by decide) (hts _ w_40) (fun _ h9 => h9) rfl hin rfl (by decide +kernel) rfl rfl (Nat.le_of_ble_eq_true rfl) d_Fr_init_10 (fun H locs hP hD hS => ?_)
  have hP : va_P D vwC [(a, .inr (2, [.ref q1])), (q1, .inl (ct 0, 4096, .inl (fun _ => 0)))] H := hP
  have hD : va_D A [(a, .inr (2, [.ref q1])), (q1, .inl (ct 0, 4096, .inl (fun _ => 0)))] := hD
  refine W.widen (k := 1) (n := 4096) (by omega) (by omega) ?_
  exact W.vret hx hb hr (fun t9 ht hW => ⟨q1, rfl, trivial, by rw [ht]; exact hP, hD, hS.F ht⟩) hS.2.2 d_Fr_init_13
set_option maxHeartbeats 4000000 in
set_option maxRecDepth 100000 in
theorem k_Db_init (l : Launch) {D : va_G} {ct : Nat → ClassId} {A : Nat → Prop} {a : Nat}  : Met l y_Db_init (Cond.code y_Db_init c_Db_init 1 none :: wA) (rmk 1 2 256) (va_Pc [.ref a] (cD A D (tyA ct) [(a, .inr (1, [.null, .null, .int 0]))])) (wE (fun _ : (Nat × Nat) => none) (fun _ => True) A D (fun u : (Nat × Nat) => [(a, .inr (1, [.ref u.1, .ref u.2, .int (nI 124)])), (u.1, .inl (ct 2, 128, .inr (.inr (.inr (.inr (fun _ => none)))))), (u.2, .inl (ct 1, 128, .inl (fun _ => 0)))])) 2 256 A := by
  refine Met.ofW (cc := c_Db_init) (maxL := 1) (ret := none) (by decide +kernel) rfl ?_
  intro p e s m args below meth c s₁ B0 hml hv
  obtain ⟨rfl, ⟨hA, hP, hD, hK⟩, hov⟩ := hv
  have hS : va_S A s.heap s.heap [] := va_S.rf
  have hx := B0.exec
  have hb := B0.bytes
  have hr := B0.returns
  have hts := fun w (h : w ∈ wA) => atoms_spec (ws := Cond.code y_Db_init c_Db_init 1 none :: wA) B0.pre w (List.mem_cons_of_mem _ h)
  have hown : s.vm.findClass R_Db = some m.cls := findClass_of_methodNamed B0.named
  have hin : meth.name = "<init>" := (name_of_methodNamed B0.named B0.method).1
  have hl := lv_entry ([.ref a]) (n := 1) (Nat.le_of_ble_eq_true rfl)
  rw [lg_entry_eq]
  generalize (lg_sl ([.ref a]) ++ List.replicate (1 - (lg_sl ([.ref a])).length) Slot.unset).toArray = ls at hl ⊢
  have hl : lv_has ls 1 [(0, .ref a)] := hl
  refine lv_aload_n hx hb d_Db_init_0 rfl (lv_at hl 0 rfl) ?_
  refine W.objInit hx hb hown (hts _ w_50) (hts _ w_32) (hts _ w_33) rfl (by rw [hml]; exact hl.1) rfl d_Db_init_1 (Nat.le_of_ble_eq_true rfl) (Nat.le_of_ble_eq_true rfl) ?_
  refine W.eq (g2 := F0 m 4 ls []) rfl ?_
  refine lv_aload_n hx hb d_Db_init_4 rfl (lv_at hl 0 rfl) ?_
  refine lv_sipush (v := nI 128) hx hb d_Db_init_5 (by decide) ?_
  refine ln_newA (N := 128) hx hb (by decide) hown (hts _ w_51) hov hK 2 rfl hP hD hS hA (show 0 + 1 ≤ 2 by omega) (show 0 + 128 ≤ 256 by omega) d_Db_init_8 (fun q1 H hP hD hS => ?_)
  have hP : va_P D vwC [(a, .inr (1, [.null, .null, .int 0])), (q1, .inl (ct 2, 128, .inr (.inr (.inr (.inr (fun _ => none))))))] H := hP
  have hD : va_D A [(a, .inr (1, [.null, .null, .int 0])), (q1, .inl (ct 2, 128, .inr (.inr (.inr (.inr (fun _ => none))))))] := hD
  refine va_putF (D := D) (ci := 1) (v := .ref q1) (ty := .array (.array .byte)) (C := R_Db) (T := T_Db) (N := 3) hx hb hts u_Db t_Db t_Db_ok n_Db hown hK hP hD hS 0 rfl rfl 0 (by decide) (hts _ w_53) (fun _ h9 => h9) rfl hin rfl (by decide +kernel) rfl rfl (Nat.le_of_ble_eq_true rfl) d_Db_init_11 (fun H locs hP hD hS => ?_)
  have hP : va_P D vwC [(a, .inr (1, [.ref q1, .null, .int 0])), (q1, .inl (ct 2, 128, .inr (.inr (.inr (.inr (fun _ => none))))))] H := hP
  have hD : va_D A [(a, .inr (1, [.ref q1, .null, .int 0])), (q1, .inl (ct 2, 128, .inr (.inr (.inr (.inr (fun _ => none))))))] := hD
  refine lv_aload_n hx hb d_Db_init_14 rfl (lv_at hl 0 rfl) ?_
  refine lv_sipush (v := nI 128) hx hb d_Db_init_15 (by decide) ?_
  refine ln_newP (atype := .boolean) (ty := .boolean) (N := 128) (a0 := (128, .inl (fun _ => 0))) hx hb (by decide) (hts _ w_63) rfl hK 1 rfl (fun _ h => h) hP hD hS hA (fun cA => vp_cell_i cA _ (fun _ => 0)) (by decide) (show (0 + 1) + 1 ≤ 2 by omega) (show (0 + 128) + 128 ≤ 256 by omega) d_Db_init_18 (fun q2 H hP hD hS => ?_)
  have hP : va_P D vwC [(a, .inr (1, [.ref q1, .null, .int 0])), (q1, .inl (ct 2, 128, .inr (.inr (.inr (.inr (fun _ => none)))))), (q2, .inl (ct 1, 128, .inl (fun _ => 0)))] H := hP
  have hD : va_D A [(a, .inr (1, [.ref q1, .null, .int 0])), (q1, .inl (ct 2, 128, .inr (.inr (.inr (.inr (fun _ => none)))))), (q2, .inl (ct 1, 128, .inl (fun _ => 0)))] := hD
  refine va_putF (D := D) (ci := 1) (v := .ref q2) (ty := .array .boolean) (C := R_Db) (T := T_Db) (N := 3) hx hb hts u_Db t_Db t_Db_ok n_Db hown hK hP hD hS 0 rfl rfl 1 (by decide) (hts _ w_54) (fun _ h9 => h9) rfl hin rfl (by decide +kernel) rfl rfl (Nat.le_of_ble_eq_true rfl) d_Db_init_20 (fun H locs hP hD hS => ?_)
  have hP : va_P D vwC [(a, .inr (1, [.ref q1, .ref q2, .int 0])), (q1, .inl (ct 2, 128, .inr (.inr (.inr (.inr (fun _ => none)))))), (q2, .inl (ct 1, 128, .inl (fun _ => 0)))] H := hP
  have hD : va_D A [(a, .inr (1, [.ref q1, .ref q2, .int 0])), (q1, .inl (ct 2, 128, .inr (.inr (.inr (.inr (fun _ => none)))))), (q2, .inl (ct 1, 128, .inl (fun _ => 0)))] := hD
  refine lv_aload_n hx hb d_Db_init_23 rfl (lv_at hl 0 rfl) ?_
  refine lv_bipush (v := nI 124) hx hb d_Db_init_24 (by decide) ?_
  refine va_put (D := D) (ci := 1) (v := .int (nI 124)) (ty := .int) (C := R_Db) (T := T_Db) (N := 3) hx hb hts u_Db t_Db t_Db_ok n_Db hown hK hP hD hS 0 rfl rfl 2 (by decide) (hts _ w_55) (fun _ h9 => h9) rfl (by decide +kernel) rfl rfl (Nat.le_of_ble_eq_true rfl) d_Db_init_26 (fun H locs hP hD hS => ?_)
  have hP : va_P D vwC [(a, .inr (1, [.ref q1, .ref q2, .int (nI 124)])), (q1, .inl (ct 2, 128, .inr (.inr (.inr (.inr (fun _ => none)))))), (q2, .inl (ct 1, 128, .inl (fun _ => 0)))] H := hP
  have hD : va_D A [(a, .inr (1, [.ref q1, .ref q2, .int (nI 124)])), (q1, .inl (ct 2, 128, .inr (.inr (.inr (.inr (fun _ => none)))))), (q2, .inl (ct 1, 128, .inl (fun _ => 0)))] := hD
  refine W.widen (k := 2) (n := 256) (by omega) (by omega) ?_
  exact W.vret hx hb hr (fun t9 ht hW => ⟨(q1, q2), rfl, trivial, by rw [ht]; exact hP, hD, hS.F ht⟩) hS.2.2 d_Db_init_29
set_option maxHeartbeats 4000000 in
set_option maxRecDepth 100000 in
theorem k_Re_init (l : Launch) {D : va_G} {ct : Nat → ClassId} {A : Nat → Prop} {a : Nat} {f : Nat} : Met l y_Re_init (Cond.code y_Re_init c_Re_init 2 none :: wA) (rmk 1 0 0) (va_Pc [.ref a, .ref f] (cW A D (tyA ct) [(a, .inr (3, [.null]))])) (wE (fun _ : Unit => none) (fun _ => True) A D (fun u : Unit => [(a, .inr (3, [.ref f]))])) 0 0 A := by
  refine Met.ofW (cc := c_Re_init) (maxL := 2) (ret := none) (by decide +kernel) rfl ?_
  intro p e s m args below meth c s₁ B0 hml hv
  obtain ⟨rfl, hA, hP, hD, hK⟩ := hv
  have hS : va_S A s.heap s.heap [] := va_S.rf
  have hx := B0.exec
  have hb := B0.bytes
  have hr := B0.returns
  have hts := fun w (h : w ∈ wA) => atoms_spec (ws := Cond.code y_Re_init c_Re_init 2 none :: wA) B0.pre w (List.mem_cons_of_mem _ h)
  have hown : s.vm.findClass R_Re = some m.cls := findClass_of_methodNamed B0.named
  have hin : meth.name = "<init>" := (name_of_methodNamed B0.named B0.method).1
  have hl := lv_entry ([.ref a, .ref f]) (n := 2) (Nat.le_of_ble_eq_true rfl)
  rw [lg_entry_eq]
  generalize (lg_sl ([.ref a, .ref f]) ++ List.replicate (2 - (lg_sl ([.ref a, .ref f])).length) Slot.unset).toArray = ls at hl ⊢
  have hl : lv_has ls 2 [(0, .ref a), (1, .ref f)] := hl
  refine lv_aload_n hx hb d_Re_init_0 rfl (lv_at hl 0 rfl) ?_
  refine W.objInit hx hb hown (hts _ w_69) (hts _ w_32) (hts _ w_33) rfl (by rw [hml]; exact hl.1) rfl d_Re_init_1 (Nat.le_of_ble_eq_true rfl) (Nat.le_of_ble_eq_true rfl) ?_
  refine W.eq (g2 := F0 m 4 ls []) rfl ?_
  refine lv_aload_n hx hb d_Re_init_4 rfl (lv_at hl 0 rfl) ?_
  refine lv_aload_n hx hb d_Re_init_5 rfl (lv_at hl 1 rfl) ?_
  refine va_putF (D := D) (ci := 3) (v := .ref f) (ty := .object "FileBody$Front") (C := R_Re) (T := T_Re) (N := 1) hx hb hts u_Re t_Re t_Re_ok n_Re hown hK hP hD hS 0 rfl rfl 0 (by decide) (hts _ w_70) (fun _ h9 => h9) rfl hin rfl (by decide +kernel) rfl rfl (Nat.le_of_ble_eq_true rfl) d_Re_init_6 (fun H locs hP hD hS => ?_)
  have hP : va_P D vwC [(a, .inr (3, [.ref f]))] H := hP
  have hD : va_D A [(a, .inr (3, [.ref f]))] := hD
  refine W.widen (k := 0) (n := 0) (by omega) (by omega) ?_
  exact W.vret hx hb hr (fun t9 ht hW => ⟨(), rfl, trivial, by rw [ht]; exact hP, hD, hS.F ht⟩) hS.2.2 d_Re_init_9
set_option maxHeartbeats 4000000 in
set_option maxRecDepth 100000 in
theorem k_Wa_init (l : Launch) {D : va_G} {ct : Nat → ClassId} {A : Nat → Prop} {a : Nat} {f r : Nat} : Met l y_Wa_init (Cond.code y_Wa_init c_Wa_init 3 none :: wA) (rmk 1 0 0) (va_Pc [.ref a, .ref f, .ref r] (cW A D (tyA ct) [(a, .inr (4, [.null, .null]))])) (wE (fun _ : Unit => none) (fun _ => True) A D (fun u : Unit => [(a, .inr (4, [.ref f, .ref r]))])) 0 0 A := by
  refine Met.ofW (cc := c_Wa_init) (maxL := 3) (ret := none) (by decide +kernel) rfl ?_
  intro p e s m args below meth c s₁ B0 hml hv
  obtain ⟨rfl, hA, hP, hD, hK⟩ := hv
  have hS : va_S A s.heap s.heap [] := va_S.rf
  have hx := B0.exec
  have hb := B0.bytes
  have hr := B0.returns
  have hts := fun w (h : w ∈ wA) => atoms_spec (ws := Cond.code y_Wa_init c_Wa_init 3 none :: wA) B0.pre w (List.mem_cons_of_mem _ h)
  have hown : s.vm.findClass R_Wa = some m.cls := findClass_of_methodNamed B0.named
  have hin : meth.name = "<init>" := (name_of_methodNamed B0.named B0.method).1
  have hl := lv_entry ([.ref a, .ref f, .ref r]) (n := 3) (Nat.le_of_ble_eq_true rfl)
  rw [lg_entry_eq]
  generalize (lg_sl ([.ref a, .ref f, .ref r]) ++ List.replicate (3 - (lg_sl ([.ref a, .ref f, .ref r])).length) Slot.unset).toArray = ls at hl ⊢
  have hl : lv_has ls 3 [(0, .ref a), (1, .ref f), (2, .ref r)] := hl
  refine lv_aload_n hx hb d_Wa_init_0 rfl (lv_at hl 0 rfl) ?_
  refine W.objInit hx hb hown (hts _ w_79) (hts _ w_32) (hts _ w_33) rfl (by rw [hml]; exact hl.1) rfl d_Wa_init_1 (Nat.le_of_ble_eq_true rfl) (Nat.le_of_ble_eq_true rfl) ?_
  refine W.eq (g2 := F0 m 4 ls []) rfl ?_
  refine lv_aload_n hx hb d_Wa_init_4 rfl (lv_at hl 0 rfl) ?_
  refine lv_aload_n hx hb d_Wa_init_5 rfl (lv_at hl 1 rfl) ?_
  refine va_putF (D := D) (ci := 4) (v := .ref f) (ty := .object "FileBody$Front") (C := R_Wa) (T := T_Wa) (N := 2) hx hb hts u_Wa t_Wa t_Wa_ok n_Wa hown hK hP hD hS 0 rfl rfl 0 (by decide) (hts _ w_80) (fun _ h9 => h9) rfl hin rfl (by decide +kernel) rfl rfl (Nat.le_of_ble_eq_true rfl) d_Wa_init_6 (fun H locs hP hD hS => ?_)
  have hP : va_P D vwC [(a, .inr (4, [.ref f, .null]))] H := hP
  have hD : va_D A [(a, .inr (4, [.ref f, .null]))] := hD
  refine lv_aload_n hx hb d_Wa_init_9 rfl (lv_at hl 0 rfl) ?_
  refine lv_aload_n hx hb d_Wa_init_10 rfl (lv_at hl 2 rfl) ?_
  refine va_putF (D := D) (ci := 4) (v := .ref r) (ty := .object "FileBody$Records") (C := R_Wa) (T := T_Wa) (N := 2) hx hb hts u_Wa t_Wa t_Wa_ok n_Wa hown hK hP hD hS 0 rfl rfl 1 (by decide) (hts _ w_81) (fun _ h9 => h9) rfl hin rfl (by decide +kernel) rfl rfl (Nat.le_of_ble_eq_true rfl) d_Wa_init_11 (fun H locs hP hD hS => ?_)
  have hP : va_P D vwC [(a, .inr (4, [.ref f, .ref r]))] H := hP
  have hD : va_D A [(a, .inr (4, [.ref f, .ref r]))] := hD
  refine W.widen (k := 0) (n := 0) (by omega) (by omega) ?_
  exact W.vret hx hb hr (fun t9 ht hW => ⟨(), rfl, trivial, by rw [ht]; exact hP, hD, hS.F ht⟩) hS.2.2 d_Wa_init_14
set_option maxHeartbeats 4000000 in
set_option maxRecDepth 100000 in
theorem k_Bo_init (l : Launch) {D : va_G} {ct : Nat → ClassId} {A : Nat → Prop} {a : Nat} {f r : Nat} : Met l y_Bo_init (Cond.code y_Bo_init c_Bo_init 3 none :: wA) (rmk 1 0 0) (va_Pc [.ref a, .ref f, .ref r] (cW A D (tyA ct) [(a, .inr (0, [.null, .null]))])) (wE (fun _ : Unit => none) (fun _ => True) A D (fun u : Unit => [(a, .inr (0, [.ref f, .ref r]))])) 0 0 A := by
  refine Met.ofW (cc := c_Bo_init) (maxL := 3) (ret := none) (by decide +kernel) rfl ?_
  intro p e s m args below meth c s₁ B0 hml hv
  obtain ⟨rfl, hA, hP, hD, hK⟩ := hv
  have hS : va_S A s.heap s.heap [] := va_S.rf
  have hx := B0.exec
  have hb := B0.bytes
  have hr := B0.returns
  have hts := fun w (h : w ∈ wA) => atoms_spec (ws := Cond.code y_Bo_init c_Bo_init 3 none :: wA) B0.pre w (List.mem_cons_of_mem _ h)
  have hown : s.vm.findClass R_Bo = some m.cls := findClass_of_methodNamed B0.named
  have hin : meth.name = "<init>" := (name_of_methodNamed B0.named B0.method).1
  have hl := lv_entry ([.ref a, .ref f, .ref r]) (n := 3) (Nat.le_of_ble_eq_true rfl)
  rw [lg_entry_eq]
  generalize (lg_sl ([.ref a, .ref f, .ref r]) ++ List.replicate (3 - (lg_sl ([.ref a, .ref f, .ref r])).length) Slot.unset).toArray = ls at hl ⊢
  have hl : lv_has ls 3 [(0, .ref a), (1, .ref f), (2, .ref r)] := hl
  refine lv_aload_n hx hb d_Bo_init_0 rfl (lv_at hl 0 rfl) ?_
  refine W.objInit hx hb hown (hts _ w_92) (hts _ w_32) (hts _ w_33) rfl (by rw [hml]; exact hl.1) rfl d_Bo_init_1 (Nat.le_of_ble_eq_true rfl) (Nat.le_of_ble_eq_true rfl) ?_
  refine W.eq (g2 := F0 m 4 ls []) rfl ?_
  refine lv_aload_n hx hb d_Bo_init_4 rfl (lv_at hl 0 rfl) ?_
  refine lv_aload_n hx hb d_Bo_init_5 rfl (lv_at hl 1 rfl) ?_
  refine va_putF (D := D) (ci := 0) (v := .ref f) (ty := .object "FileBody$DataBlocks") (C := R_Bo) (T := T_Bo) (N := 2) hx hb hts u_Bo t_Bo t_Bo_ok n_Bo hown hK hP hD hS 0 rfl rfl 0 (by decide) (hts _ w_93) (fun _ h9 => h9) rfl hin rfl (by decide +kernel) rfl rfl (Nat.le_of_ble_eq_true rfl) d_Bo_init_6 (fun H locs hP hD hS => ?_)
  have hP : va_P D vwC [(a, .inr (0, [.ref f, .null]))] H := hP
  have hD : va_D A [(a, .inr (0, [.ref f, .null]))] := hD
  refine lv_aload_n hx hb d_Bo_init_9 rfl (lv_at hl 0 rfl) ?_
  refine lv_aload_n hx hb d_Bo_init_10 rfl (lv_at hl 2 rfl) ?_
  refine va_putF (D := D) (ci := 0) (v := .ref r) (ty := .object "FileBody$Records") (C := R_Bo) (T := T_Bo) (N := 2) hx hb hts u_Bo t_Bo t_Bo_ok n_Bo hown hK hP hD hS 0 rfl rfl 1 (by decide) (hts _ w_94) (fun _ h9 => h9) rfl hin rfl (by decide +kernel) rfl rfl (Nat.le_of_ble_eq_true rfl) d_Bo_init_11 (fun H locs hP hD hS => ?_)
  have hP : va_P D vwC [(a, .inr (0, [.ref f, .ref r]))] H := hP
  have hD : va_D A [(a, .inr (0, [.ref f, .ref r]))] := hD
  refine W.widen (k := 0) (n := 0) (by omega) (by omega) ?_
  exact W.vret hx hb hr (fun t9 ht hW => ⟨(), rfl, trivial, by rw [ht]; exact hP, hD, hS.F ht⟩) hS.2.2 d_Bo_init_14
set_option maxHeartbeats 4000000 in
set_option maxRecDepth 100000 in
theorem k_Fb_init (l : Launch) {D : va_G} {ct : Nat → ClassId} {A : Nat → Prop} {a : Nat}  : Met l y_Fb_init (Cond.code y_Fb_init c_Fb_init 1 none :: wA) (rmk 2 8 4361) (va_Pc [.ref a] (cN A D (tyA ct) [(a, .inr (5, [.null, .null, .null, .null, .null]))])) (iQ a A D ct) 8 4361 A := by
  refine Met.ofW (cc := c_Fb_init) (maxL := 1) (ret := none) (by decide +kernel) rfl ?_
  intro p e s m args below meth c s₁ B0 hml hv
  obtain ⟨rfl, ⟨⟨hA, hP, hD, hK⟩, hov⟩, hn1, hn2⟩ := hv
  have hS : va_S A s.heap s.heap [] := va_S.rf
  have hx := B0.exec
  have hb := B0.bytes
  have hr := B0.returns
  have hts := fun w (h : w ∈ wA) => atoms_spec (ws := Cond.code y_Fb_init c_Fb_init 1 none :: wA) B0.pre w (List.mem_cons_of_mem _ h)
  have hown : s.vm.findClass R_Fb = some m.cls := findClass_of_methodNamed B0.named
  have hin : meth.name = "<init>" := (name_of_methodNamed B0.named B0.method).1
  have hl := lv_entry ([.ref a]) (n := 1) (Nat.le_of_ble_eq_true rfl)
  rw [lg_entry_eq]
  generalize (lg_sl ([.ref a]) ++ List.replicate (1 - (lg_sl ([.ref a])).length) Slot.unset).toArray = ls at hl ⊢
  have hl : lv_has ls 1 [(0, .ref a)] := hl
  refine lv_aload_n hx hb d_Fb_init_0 rfl (lv_at hl 0 rfl) ?_
  refine W.objInit hx hb hown (hts _ w_31) (hts _ w_32) (hts _ w_33) rfl (by rw [hml]; exact hl.1) rfl d_Fb_init_1 (Nat.le_of_ble_eq_true rfl) (Nat.le_of_ble_eq_true rfl) ?_
  refine W.eq (g2 := F0 m 4 ls []) rfl ?_
  refine lv_aload_n hx hb d_Fb_init_4 rfl (lv_at hl 0 rfl) ?_
  refine va_new (ci := 2) (fs := [.null]) (C := R_Fr) (T := T_Fr) (N := 1) hx hb hts u_Fr t_Fr t_Fr_ok hown (hts _ w_34) (hts _ w_35) (hts _ w_2) hK hP hD hS hA rfl (fun j hj => by rcases (show j = 0 by omega) with rfl <;> rfl) (show 0 + 1 ≤ 8 by omega) (show 0 + 1 ≤ 4361 by omega) d_Fb_init_5 (fun q1 H hP hD hS => ?_)
  have hP : va_P D vwC [(a, .inr (5, [.null, .null, .null, .null, .null])), (q1, .inr (2, [.null]))] H := hP
  have hD : va_D A [(a, .inr (5, [.null, .null, .null, .null, .null])), (q1, .inr (2, [.null]))] := hD
  refine lv_dup hx hb d_Fb_init_8 rfl ?_
  have hP : va_P D vwC ([(a, .inr (5, [.null, .null, .null, .null, .null]))] ++ [(q1, .inr (2, [.null]))]) H := hP
  have hD : va_D A ([(a, .inr (5, [.null, .null, .null, .null, .null]))] ++ [(q1, .inr (2, [.null]))]) := hD
  refine cn_run (w0 := [(a, .inr (5, [.null, .null, .null, .null, .null]))]) (va_runIN (As := []) (rest := [.ref q1, .ref a]) ⟨hx, hb, hml, hown, hts⟩ (k_Fr_init l ) ⟨va_cnB 0 hts (gC w_38) rfl rfl rfl hn1 (hts _ w_2) (by decide +kernel) ⟨by decide, by decide⟩, rfl, hts _ w_37⟩ ⟨cW_blind, fun U hU hW => ⟨rfl, fun q9 hq => Or.inr (by rw [hU] at hq; exact hq), by rw [hU]; exact va_Ptl hP, va_D1, va_K.moved hW.alike hK⟩⟩ rfl rfl hl.1 rfl (lv_room (Nat.le_of_ble_eq_true rfl)) d_Fb_init_9 ⟨show (0 + 1) + 1 ≤ 8 by omega, show (0 + 1) + 4096 ≤ 4361 by omega⟩) hP hD hS hA (fun u9 H locs hp9 hP hD hS => ?_)
  have hP : va_P D vwC [(a, .inr (5, [.null, .null, .null, .null, .null])), (q1, .inr (2, [.ref u9])), (u9, .inl (ct 0, 4096, .inl (fun _ => 0)))] H := hP
  have hD : va_D A [(a, .inr (5, [.null, .null, .null, .null, .null])), (q1, .inr (2, [.ref u9])), (u9, .inl (ct 0, 4096, .inl (fun _ => 0)))] := hD
  refine va_putF (D := D) (ci := 5) (v := .ref q1) (ty := .object "FileBody$Front") (C := R_Fb) (T := T_Fb) (N := 5) hx hb hts u_Fb t_Fb t_Fb_ok n_Fb hown hK hP hD hS 0 rfl rfl 0 (by decide) (hts _ w_100) (fun _ h9 => h9) rfl hin rfl (by decide +kernel) rfl rfl (Nat.le_of_ble_eq_true rfl) d_Fb_init_12 (fun H locs hP hD hS => ?_)
  have hP : va_P D vwC [(a, .inr (5, [.ref q1, .null, .null, .null, .null])), (q1, .inr (2, [.ref u9])), (u9, .inl (ct 0, 4096, .inl (fun _ => 0)))] H := hP
  have hD : va_D A [(a, .inr (5, [.ref q1, .null, .null, .null, .null])), (q1, .inr (2, [.ref u9])), (u9, .inl (ct 0, 4096, .inl (fun _ => 0)))] := hD
  refine lv_aload_n hx hb d_Fb_init_15 rfl (lv_at hl 0 rfl) ?_
  refine va_new (ci := 1) (fs := [.null, .null, .int 0]) (C := R_Db) (T := T_Db) (N := 3) hx hb hts u_Db t_Db t_Db_ok hown (hts _ w_45) (hts _ w_46) (hts _ w_3) hK hP hD hS hA rfl (fun j hj => by rcases (show j = 0 ∨ j = 1 ∨ j = 2 by omega) with rfl | rfl | rfl <;> rfl) (show ((0 + 1) + 1) + 1 ≤ 8 by omega) (show ((0 + 1) + 4096) + 3 ≤ 4361 by omega) d_Fb_init_16 (fun q2 H hP hD hS => ?_)
  have hP : va_P D vwC [(a, .inr (5, [.ref q1, .null, .null, .null, .null])), (q1, .inr (2, [.ref u9])), (u9, .inl (ct 0, 4096, .inl (fun _ => 0))), (q2, .inr (1, [.null, .null, .int 0]))] H := hP
  have hD : va_D A [(a, .inr (5, [.ref q1, .null, .null, .null, .null])), (q1, .inr (2, [.ref u9])), (u9, .inl (ct 0, 4096, .inl (fun _ => 0))), (q2, .inr (1, [.null, .null, .int 0]))] := hD
  refine lv_dup hx hb d_Fb_init_19 rfl ?_
  have hP : va_P D vwC ([(a, .inr (5, [.ref q1, .null, .null, .null, .null])), (q1, .inr (2, [.ref u9])), (u9, .inl (ct 0, 4096, .inl (fun _ => 0)))] ++ [(q2, .inr (1, [.null, .null, .int 0]))]) H := hP
  have hD : va_D A ([(a, .inr (5, [.ref q1, .null, .null, .null, .null])), (q1, .inr (2, [.ref u9])), (u9, .inl (ct 0, 4096, .inl (fun _ => 0)))] ++ [(q2, .inr (1, [.null, .null, .int 0]))]) := hD
  refine cn_run (w0 := [(a, .inr (5, [.ref q1, .null, .null, .null, .null])), (q1, .inr (2, [.ref u9])), (u9, .inl (ct 0, 4096, .inl (fun _ => 0)))]) (va_runIN (As := []) (rest := [.ref q2, .ref a]) ⟨hx, hb, hml, hown, hts⟩ (k_Db_init l ) ⟨va_cnB 0 hts (gC w_49) rfl rfl rfl hn2 (hts _ w_3) (by decide +kernel) ⟨by decide, by decide⟩, rfl, hts _ w_48⟩ ⟨cD_blind, fun U hU hW => ⟨rfl, ⟨fun q9 hq => Or.inr (by rw [hU] at hq; exact hq), by rw [hU]; exact va_Ptl hP, va_D1, va_K.moved hW.alike hK⟩, aoK_moved hW.alike hov⟩⟩ rfl rfl hl.1 rfl (lv_room (Nat.le_of_ble_eq_true rfl)) d_Fb_init_20 ⟨show (((0 + 1) + 1) + 1) + 2 ≤ 8 by omega, show (((0 + 1) + 4096) + 3) + 256 ≤ 4361 by omega⟩) hP hD hS hA (fun u20 H locs hp9 hP hD hS => ?_)
  have hP : va_P D vwC [(a, .inr (5, [.ref q1, .null, .null, .null, .null])), (q1, .inr (2, [.ref u9])), (u9, .inl (ct 0, 4096, .inl (fun _ => 0))), (q2, .inr (1, [.ref u20.1, .ref u20.2, .int (nI 124)])), (u20.1, .inl (ct 2, 128, .inr (.inr (.inr (.inr (fun _ => none)))))), (u20.2, .inl (ct 1, 128, .inl (fun _ => 0)))] H := hP
  have hD : va_D A [(a, .inr (5, [.ref q1, .null, .null, .null, .null])), (q1, .inr (2, [.ref u9])), (u9, .inl (ct 0, 4096, .inl (fun _ => 0))), (q2, .inr (1, [.ref u20.1, .ref u20.2, .int (nI 124)])), (u20.1, .inl (ct 2, 128, .inr (.inr (.inr (.inr (fun _ => none)))))), (u20.2, .inl (ct 1, 128, .inl (fun _ => 0)))] := hD
  refine va_putF (D := D) (ci := 5) (v := .ref q2) (ty := .object "FileBody$DataBlocks") (C := R_Fb) (T := T_Fb) (N := 5) hx hb hts u_Fb t_Fb t_Fb_ok n_Fb hown hK hP hD hS 0 rfl rfl 1 (by decide) (hts _ w_101) (fun _ h9 => h9) rfl hin rfl (by decide +kernel) rfl rfl (Nat.le_of_ble_eq_true rfl) d_Fb_init_23 (fun H locs hP hD hS => ?_)
  have hP : va_P D vwC [(a, .inr (5, [.ref q1, .ref q2, .null, .null, .null])), (q1, .inr (2, [.ref u9])), (u9, .inl (ct 0, 4096, .inl (fun _ => 0))), (q2, .inr (1, [.ref u20.1, .ref u20.2, .int (nI 124)])), (u20.1, .inl (ct 2, 128, .inr (.inr (.inr (.inr (fun _ => none)))))), (u20.2, .inl (ct 1, 128, .inl (fun _ => 0)))] H := hP
  have hD : va_D A [(a, .inr (5, [.ref q1, .ref q2, .null, .null, .null])), (q1, .inr (2, [.ref u9])), (u9, .inl (ct 0, 4096, .inl (fun _ => 0))), (q2, .inr (1, [.ref u20.1, .ref u20.2, .int (nI 124)])), (u20.1, .inl (ct 2, 128, .inr (.inr (.inr (.inr (fun _ => none)))))), (u20.2, .inl (ct 1, 128, .inl (fun _ => 0)))] := hD
  refine lv_aload_n hx hb d_Fb_init_26 rfl (lv_at hl 0 rfl) ?_
  refine va_new (ci := 3) (fs := [.null]) (C := R_Re) (T := T_Re) (N := 1) hx hb hts u_Re t_Re t_Re_ok hown (hts _ w_64) (hts _ w_65) (hts _ w_4) hK hP hD hS hA rfl (fun j hj => by rcases (show j = 0 by omega) with rfl <;> rfl) (show ((((0 + 1) + 1) + 1) + 2) + 1 ≤ 8 by omega) (show ((((0 + 1) + 4096) + 3) + 256) + 1 ≤ 4361 by omega) d_Fb_init_27 (fun q3 H hP hD hS => ?_)
  have hP : va_P D vwC [(a, .inr (5, [.ref q1, .ref q2, .null, .null, .null])), (q1, .inr (2, [.ref u9])), (u9, .inl (ct 0, 4096, .inl (fun _ => 0))), (q2, .inr (1, [.ref u20.1, .ref u20.2, .int (nI 124)])), (u20.1, .inl (ct 2, 128, .inr (.inr (.inr (.inr (fun _ => none)))))), (u20.2, .inl (ct 1, 128, .inl (fun _ => 0))), (q3, .inr (3, [.null]))] H := hP
  have hD : va_D A [(a, .inr (5, [.ref q1, .ref q2, .null, .null, .null])), (q1, .inr (2, [.ref u9])), (u9, .inl (ct 0, 4096, .inl (fun _ => 0))), (q2, .inr (1, [.ref u20.1, .ref u20.2, .int (nI 124)])), (u20.1, .inl (ct 2, 128, .inr (.inr (.inr (.inr (fun _ => none)))))), (u20.2, .inl (ct 1, 128, .inl (fun _ => 0))), (q3, .inr (3, [.null]))] := hD
  refine lv_dup hx hb d_Fb_init_30 rfl ?_
  refine lv_aload_n hx hb d_Fb_init_31 rfl (lv_at hl 0 rfl) ?_
  refine va_get (D := D) (ci := 5) (v := .ref q1) (C := R_Fb) (T := T_Fb) (N := 5) hx hb hts u_Fb hown hK hP 0 rfl rfl 0 (by decide) (hts _ w_100) (fun _ h9 => h9) rfl d_Fb_init_32 ?_
  have hP : va_P D vwC ([(a, .inr (5, [.ref q1, .ref q2, .null, .null, .null])), (q1, .inr (2, [.ref u9])), (u9, .inl (ct 0, 4096, .inl (fun _ => 0))), (q2, .inr (1, [.ref u20.1, .ref u20.2, .int (nI 124)])), (u20.1, .inl (ct 2, 128, .inr (.inr (.inr (.inr (fun _ => none)))))), (u20.2, .inl (ct 1, 128, .inl (fun _ => 0)))] ++ [(q3, .inr (3, [.null]))]) H := hP
  have hD : va_D A ([(a, .inr (5, [.ref q1, .ref q2, .null, .null, .null])), (q1, .inr (2, [.ref u9])), (u9, .inl (ct 0, 4096, .inl (fun _ => 0))), (q2, .inr (1, [.ref u20.1, .ref u20.2, .int (nI 124)])), (u20.1, .inl (ct 2, 128, .inr (.inr (.inr (.inr (fun _ => none)))))), (u20.2, .inl (ct 1, 128, .inl (fun _ => 0)))] ++ [(q3, .inr (3, [.null]))]) := hD
  refine cn_run (w0 := [(a, .inr (5, [.ref q1, .ref q2, .null, .null, .null])), (q1, .inr (2, [.ref u9])), (u9, .inl (ct 0, 4096, .inl (fun _ => 0))), (q2, .inr (1, [.ref u20.1, .ref u20.2, .int (nI 124)])), (u20.1, .inl (ct 2, 128, .inr (.inr (.inr (.inr (fun _ => none)))))), (u20.2, .inl (ct 1, 128, .inl (fun _ => 0)))]) (va_runI (As := [.ref q1]) (rest := [.ref q3, .ref a]) ⟨hx, hb, hml, hown, hts⟩ (k_Re_init l (f := q1)) (cwI 1 hts (gC w_68) rfl rfl rfl (hts _ w_4) (hts _ w_66) (hts _ w_67) rfl (by decide +kernel) ⟨by decide, by decide⟩) ⟨cW_blind, fun U hU hW => ⟨rfl, fun q9 hq => Or.inr (by rw [hU] at hq; exact hq), by rw [hU]; exact va_Ptl hP, va_D1, va_K.moved hW.alike hK⟩⟩ rfl rfl hl.1 rfl (lv_room (Nat.le_of_ble_eq_true rfl)) d_Fb_init_35 ⟨show (((((0 + 1) + 1) + 1) + 2) + 1) + 0 ≤ 8 by omega, show (((((0 + 1) + 4096) + 3) + 256) + 1) + 0 ≤ 4361 by omega⟩) hP hD hS hA (fun u35 H locs hp9 hP hD hS => ?_)
  have hP : va_P D vwC [(a, .inr (5, [.ref q1, .ref q2, .null, .null, .null])), (q1, .inr (2, [.ref u9])), (u9, .inl (ct 0, 4096, .inl (fun _ => 0))), (q2, .inr (1, [.ref u20.1, .ref u20.2, .int (nI 124)])), (u20.1, .inl (ct 2, 128, .inr (.inr (.inr (.inr (fun _ => none)))))), (u20.2, .inl (ct 1, 128, .inl (fun _ => 0))), (q3, .inr (3, [.ref q1]))] H := hP
  have hD : va_D A [(a, .inr (5, [.ref q1, .ref q2, .null, .null, .null])), (q1, .inr (2, [.ref u9])), (u9, .inl (ct 0, 4096, .inl (fun _ => 0))), (q2, .inr (1, [.ref u20.1, .ref u20.2, .int (nI 124)])), (u20.1, .inl (ct 2, 128, .inr (.inr (.inr (.inr (fun _ => none)))))), (u20.2, .inl (ct 1, 128, .inl (fun _ => 0))), (q3, .inr (3, [.ref q1]))] := hD
  refine va_putF (D := D) (ci := 5) (v := .ref q3) (ty := .object "FileBody$Records") (C := R_Fb) (T := T_Fb) (N := 5) hx hb hts u_Fb t_Fb t_Fb_ok n_Fb hown hK hP hD hS 0 rfl rfl 2 (by decide) (hts _ w_102) (fun _ h9 => h9) rfl hin rfl (by decide +kernel) rfl rfl (Nat.le_of_ble_eq_true rfl) d_Fb_init_38 (fun H locs hP hD hS => ?_)
  have hP : va_P D vwC [(a, .inr (5, [.ref q1, .ref q2, .ref q3, .null, .null])), (q1, .inr (2, [.ref u9])), (u9, .inl (ct 0, 4096, .inl (fun _ => 0))), (q2, .inr (1, [.ref u20.1, .ref u20.2, .int (nI 124)])), (u20.1, .inl (ct 2, 128, .inr (.inr (.inr (.inr (fun _ => none)))))), (u20.2, .inl (ct 1, 128, .inl (fun _ => 0))), (q3, .inr (3, [.ref q1]))] H := hP
  have hD : va_D A [(a, .inr (5, [.ref q1, .ref q2, .ref q3, .null, .null])), (q1, .inr (2, [.ref u9])), (u9, .inl (ct 0, 4096, .inl (fun _ => 0))), (q2, .inr (1, [.ref u20.1, .ref u20.2, .int (nI 124)])), (u20.1, .inl (ct 2, 128, .inr (.inr (.inr (.inr (fun _ => none)))))), (u20.2, .inl (ct 1, 128, .inl (fun _ => 0))), (q3, .inr (3, [.ref q1]))] := hD
  refine lv_aload_n hx hb d_Fb_init_41 rfl (lv_at hl 0 rfl) ?_
  refine va_new (ci := 4) (fs := [.null, .null]) (C := R_Wa) (T := T_Wa) (N := 2) hx hb hts u_Wa t_Wa t_Wa_ok hown (hts _ w_74) (hts _ w_75) (hts _ w_5) hK hP hD hS hA rfl (fun j hj => by rcases (show j = 0 ∨ j = 1 by omega) with rfl | rfl <;> rfl) (show ((((((0 + 1) + 1) + 1) + 2) + 1) + 0) + 1 ≤ 8 by omega) (show ((((((0 + 1) + 4096) + 3) + 256) + 1) + 0) + 2 ≤ 4361 by omega) d_Fb_init_42 (fun q4 H hP hD hS => ?_)
  have hP : va_P D vwC [(a, .inr (5, [.ref q1, .ref q2, .ref q3, .null, .null])), (q1, .inr (2, [.ref u9])), (u9, .inl (ct 0, 4096, .inl (fun _ => 0))), (q2, .inr (1, [.ref u20.1, .ref u20.2, .int (nI 124)])), (u20.1, .inl (ct 2, 128, .inr (.inr (.inr (.inr (fun _ => none)))))), (u20.2, .inl (ct 1, 128, .inl (fun _ => 0))), (q3, .inr (3, [.ref q1])), (q4, .inr (4, [.null, .null]))] H := hP
  have hD : va_D A [(a, .inr (5, [.ref q1, .ref q2, .ref q3, .null, .null])), (q1, .inr (2, [.ref u9])), (u9, .inl (ct 0, 4096, .inl (fun _ => 0))), (q2, .inr (1, [.ref u20.1, .ref u20.2, .int (nI 124)])), (u20.1, .inl (ct 2, 128, .inr (.inr (.inr (.inr (fun _ => none)))))), (u20.2, .inl (ct 1, 128, .inl (fun _ => 0))), (q3, .inr (3, [.ref q1])), (q4, .inr (4, [.null, .null]))] := hD
  refine lv_dup hx hb d_Fb_init_45 rfl ?_
  refine lv_aload_n hx hb d_Fb_init_46 rfl (lv_at hl 0 rfl) ?_
  refine va_get (D := D) (ci := 5) (v := .ref q1) (C := R_Fb) (T := T_Fb) (N := 5) hx hb hts u_Fb hown hK hP 0 rfl rfl 0 (by decide) (hts _ w_100) (fun _ h9 => h9) rfl d_Fb_init_47 ?_
  refine lv_aload_n hx hb d_Fb_init_50 rfl (lv_at hl 0 rfl) ?_
  refine va_get (D := D) (ci := 5) (v := .ref q3) (C := R_Fb) (T := T_Fb) (N := 5) hx hb hts u_Fb hown hK hP 0 rfl rfl 2 (by decide) (hts _ w_102) (fun _ h9 => h9) rfl d_Fb_init_51 ?_
  have hP : va_P D vwC ([(a, .inr (5, [.ref q1, .ref q2, .ref q3, .null, .null])), (q1, .inr (2, [.ref u9])), (u9, .inl (ct 0, 4096, .inl (fun _ => 0))), (q2, .inr (1, [.ref u20.1, .ref u20.2, .int (nI 124)])), (u20.1, .inl (ct 2, 128, .inr (.inr (.inr (.inr (fun _ => none)))))), (u20.2, .inl (ct 1, 128, .inl (fun _ => 0))), (q3, .inr (3, [.ref q1]))] ++ [(q4, .inr (4, [.null, .null]))]) H := hP
  have hD : va_D A ([(a, .inr (5, [.ref q1, .ref q2, .ref q3, .null, .null])), (q1, .inr (2, [.ref u9])), (u9, .inl (ct 0, 4096, .inl (fun _ => 0))), (q2, .inr (1, [.ref u20.1, .ref u20.2, .int (nI 124)])), (u20.1, .inl (ct 2, 128, .inr (.inr (.inr (.inr (fun _ => none)))))), (u20.2, .inl (ct 1, 128, .inl (fun _ => 0))), (q3, .inr (3, [.ref q1]))] ++ [(q4, .inr (4, [.null, .null]))]) := hD
  refine cn_run (w0 := [(a, .inr (5, [.ref q1, .ref q2, .ref q3, .null, .null])), (q1, .inr (2, [.ref u9])), (u9, .inl (ct 0, 4096, .inl (fun _ => 0))), (q2, .inr (1, [.ref u20.1, .ref u20.2, .int (nI 124)])), (u20.1, .inl (ct 2, 128, .inr (.inr (.inr (.inr (fun _ => none)))))), (u20.2, .inl (ct 1, 128, .inl (fun _ => 0))), (q3, .inr (3, [.ref q1]))]) (va_runI (As := [.ref q1, .ref q3]) (rest := [.ref q4, .ref a]) ⟨hx, hb, hml, hown, hts⟩ (k_Wa_init l (f := q1) (r := q3)) (cwI 2 hts (gC w_78) rfl rfl rfl (hts _ w_5) (hts _ w_76) (hts _ w_77) rfl (by decide +kernel) ⟨by decide, by decide⟩) ⟨cW_blind, fun U hU hW => ⟨rfl, fun q9 hq => Or.inr (by rw [hU] at hq; exact hq), by rw [hU]; exact va_Ptl hP, va_D1, va_K.moved hW.alike hK⟩⟩ rfl rfl hl.1 rfl (lv_room (Nat.le_of_ble_eq_true rfl)) d_Fb_init_54 ⟨show (((((((0 + 1) + 1) + 1) + 2) + 1) + 0) + 1) + 0 ≤ 8 by omega, show (((((((0 + 1) + 4096) + 3) + 256) + 1) + 0) + 2) + 0 ≤ 4361 by omega⟩) hP hD hS hA (fun u54 H locs hp9 hP hD hS => ?_)
  have hP : va_P D vwC [(a, .inr (5, [.ref q1, .ref q2, .ref q3, .null, .null])), (q1, .inr (2, [.ref u9])), (u9, .inl (ct 0, 4096, .inl (fun _ => 0))), (q2, .inr (1, [.ref u20.1, .ref u20.2, .int (nI 124)])), (u20.1, .inl (ct 2, 128, .inr (.inr (.inr (.inr (fun _ => none)))))), (u20.2, .inl (ct 1, 128, .inl (fun _ => 0))), (q3, .inr (3, [.ref q1])), (q4, .inr (4, [.ref q1, .ref q3]))] H := hP
  have hD : va_D A [(a, .inr (5, [.ref q1, .ref q2, .ref q3, .null, .null])), (q1, .inr (2, [.ref u9])), (u9, .inl (ct 0, 4096, .inl (fun _ => 0))), (q2, .inr (1, [.ref u20.1, .ref u20.2, .int (nI 124)])), (u20.1, .inl (ct 2, 128, .inr (.inr (.inr (.inr (fun _ => none)))))), (u20.2, .inl (ct 1, 128, .inl (fun _ => 0))), (q3, .inr (3, [.ref q1])), (q4, .inr (4, [.ref q1, .ref q3]))] := hD
  refine va_putF (D := D) (ci := 5) (v := .ref q4) (ty := .object "FileBody$Waiting") (C := R_Fb) (T := T_Fb) (N := 5) hx hb hts u_Fb t_Fb t_Fb_ok n_Fb hown hK hP hD hS 0 rfl rfl 3 (by decide) (hts _ w_103) (fun _ h9 => h9) rfl hin rfl (by decide +kernel) rfl rfl (Nat.le_of_ble_eq_true rfl) d_Fb_init_57 (fun H locs hP hD hS => ?_)
  have hP : va_P D vwC [(a, .inr (5, [.ref q1, .ref q2, .ref q3, .ref q4, .null])), (q1, .inr (2, [.ref u9])), (u9, .inl (ct 0, 4096, .inl (fun _ => 0))), (q2, .inr (1, [.ref u20.1, .ref u20.2, .int (nI 124)])), (u20.1, .inl (ct 2, 128, .inr (.inr (.inr (.inr (fun _ => none)))))), (u20.2, .inl (ct 1, 128, .inl (fun _ => 0))), (q3, .inr (3, [.ref q1])), (q4, .inr (4, [.ref q1, .ref q3]))] H := hP
  have hD : va_D A [(a, .inr (5, [.ref q1, .ref q2, .ref q3, .ref q4, .null])), (q1, .inr (2, [.ref u9])), (u9, .inl (ct 0, 4096, .inl (fun _ => 0))), (q2, .inr (1, [.ref u20.1, .ref u20.2, .int (nI 124)])), (u20.1, .inl (ct 2, 128, .inr (.inr (.inr (.inr (fun _ => none)))))), (u20.2, .inl (ct 1, 128, .inl (fun _ => 0))), (q3, .inr (3, [.ref q1])), (q4, .inr (4, [.ref q1, .ref q3]))] := hD
  refine lv_aload_n hx hb d_Fb_init_60 rfl (lv_at hl 0 rfl) ?_
  refine va_new (ci := 0) (fs := [.null, .null]) (C := R_Bo) (T := T_Bo) (N := 2) hx hb hts u_Bo t_Bo t_Bo_ok hown (hts _ w_87) (hts _ w_88) (hts _ w_6) hK hP hD hS hA rfl (fun j hj => by rcases (show j = 0 ∨ j = 1 by omega) with rfl | rfl <;> rfl) (show ((((((((0 + 1) + 1) + 1) + 2) + 1) + 0) + 1) + 0) + 1 ≤ 8 by omega) (show ((((((((0 + 1) + 4096) + 3) + 256) + 1) + 0) + 2) + 0) + 2 ≤ 4361 by omega) d_Fb_init_61 (fun q5 H hP hD hS => ?_)
  have hP : va_P D vwC [(a, .inr (5, [.ref q1, .ref q2, .ref q3, .ref q4, .null])), (q1, .inr (2, [.ref u9])), (u9, .inl (ct 0, 4096, .inl (fun _ => 0))), (q2, .inr (1, [.ref u20.1, .ref u20.2, .int (nI 124)])), (u20.1, .inl (ct 2, 128, .inr (.inr (.inr (.inr (fun _ => none)))))), (u20.2, .inl (ct 1, 128, .inl (fun _ => 0))), (q3, .inr (3, [.ref q1])), (q4, .inr (4, [.ref q1, .ref q3])), (q5, .inr (0, [.null, .null]))] H := hP
  have hD : va_D A [(a, .inr (5, [.ref q1, .ref q2, .ref q3, .ref q4, .null])), (q1, .inr (2, [.ref u9])), (u9, .inl (ct 0, 4096, .inl (fun _ => 0))), (q2, .inr (1, [.ref u20.1, .ref u20.2, .int (nI 124)])), (u20.1, .inl (ct 2, 128, .inr (.inr (.inr (.inr (fun _ => none)))))), (u20.2, .inl (ct 1, 128, .inl (fun _ => 0))), (q3, .inr (3, [.ref q1])), (q4, .inr (4, [.ref q1, .ref q3])), (q5, .inr (0, [.null, .null]))] := hD
  refine lv_dup hx hb d_Fb_init_64 rfl ?_
  refine lv_aload_n hx hb d_Fb_init_65 rfl (lv_at hl 0 rfl) ?_
  refine va_get (D := D) (ci := 5) (v := .ref q2) (C := R_Fb) (T := T_Fb) (N := 5) hx hb hts u_Fb hown hK hP 0 rfl rfl 1 (by decide) (hts _ w_101) (fun _ h9 => h9) rfl d_Fb_init_66 ?_
  refine lv_aload_n hx hb d_Fb_init_69 rfl (lv_at hl 0 rfl) ?_
  refine va_get (D := D) (ci := 5) (v := .ref q3) (C := R_Fb) (T := T_Fb) (N := 5) hx hb hts u_Fb hown hK hP 0 rfl rfl 2 (by decide) (hts _ w_102) (fun _ h9 => h9) rfl d_Fb_init_70 ?_
  have hP : va_P D vwC ([(a, .inr (5, [.ref q1, .ref q2, .ref q3, .ref q4, .null])), (q1, .inr (2, [.ref u9])), (u9, .inl (ct 0, 4096, .inl (fun _ => 0))), (q2, .inr (1, [.ref u20.1, .ref u20.2, .int (nI 124)])), (u20.1, .inl (ct 2, 128, .inr (.inr (.inr (.inr (fun _ => none)))))), (u20.2, .inl (ct 1, 128, .inl (fun _ => 0))), (q3, .inr (3, [.ref q1])), (q4, .inr (4, [.ref q1, .ref q3]))] ++ [(q5, .inr (0, [.null, .null]))]) H := hP
  have hD : va_D A ([(a, .inr (5, [.ref q1, .ref q2, .ref q3, .ref q4, .null])), (q1, .inr (2, [.ref u9])), (u9, .inl (ct 0, 4096, .inl (fun _ => 0))), (q2, .inr (1, [.ref u20.1, .ref u20.2, .int (nI 124)])), (u20.1, .inl (ct 2, 128, .inr (.inr (.inr (.inr (fun _ => none)))))), (u20.2, .inl (ct 1, 128, .inl (fun _ => 0))), (q3, .inr (3, [.ref q1])), (q4, .inr (4, [.ref q1, .ref q3]))] ++ [(q5, .inr (0, [.null, .null]))]) := hD
  refine cn_run (w0 := [(a, .inr (5, [.ref q1, .ref q2, .ref q3, .ref q4, .null])), (q1, .inr (2, [.ref u9])), (u9, .inl (ct 0, 4096, .inl (fun _ => 0))), (q2, .inr (1, [.ref u20.1, .ref u20.2, .int (nI 124)])), (u20.1, .inl (ct 2, 128, .inr (.inr (.inr (.inr (fun _ => none)))))), (u20.2, .inl (ct 1, 128, .inl (fun _ => 0))), (q3, .inr (3, [.ref q1])), (q4, .inr (4, [.ref q1, .ref q3]))]) (va_runI (As := [.ref q2, .ref q3]) (rest := [.ref q5, .ref a]) ⟨hx, hb, hml, hown, hts⟩ (k_Bo_init l (f := q2) (r := q3)) (cwI 2 hts (gC w_91) rfl rfl rfl (hts _ w_6) (hts _ w_89) (hts _ w_90) rfl (by decide +kernel) ⟨by decide, by decide⟩) ⟨cW_blind, fun U hU hW => ⟨rfl, fun q9 hq => Or.inr (by rw [hU] at hq; exact hq), by rw [hU]; exact va_Ptl hP, va_D1, va_K.moved hW.alike hK⟩⟩ rfl rfl hl.1 rfl (lv_room (Nat.le_of_ble_eq_true rfl)) d_Fb_init_73 ⟨show (((((((((0 + 1) + 1) + 1) + 2) + 1) + 0) + 1) + 0) + 1) + 0 ≤ 8 by omega, show (((((((((0 + 1) + 4096) + 3) + 256) + 1) + 0) + 2) + 0) + 2) + 0 ≤ 4361 by omega⟩) hP hD hS hA (fun u73 H locs hp9 hP hD hS => ?_)
  have hP : va_P D vwC [(a, .inr (5, [.ref q1, .ref q2, .ref q3, .ref q4, .null])), (q1, .inr (2, [.ref u9])), (u9, .inl (ct 0, 4096, .inl (fun _ => 0))), (q2, .inr (1, [.ref u20.1, .ref u20.2, .int (nI 124)])), (u20.1, .inl (ct 2, 128, .inr (.inr (.inr (.inr (fun _ => none)))))), (u20.2, .inl (ct 1, 128, .inl (fun _ => 0))), (q3, .inr (3, [.ref q1])), (q4, .inr (4, [.ref q1, .ref q3])), (q5, .inr (0, [.ref q2, .ref q3]))] H := hP
  have hD : va_D A [(a, .inr (5, [.ref q1, .ref q2, .ref q3, .ref q4, .null])), (q1, .inr (2, [.ref u9])), (u9, .inl (ct 0, 4096, .inl (fun _ => 0))), (q2, .inr (1, [.ref u20.1, .ref u20.2, .int (nI 124)])), (u20.1, .inl (ct 2, 128, .inr (.inr (.inr (.inr (fun _ => none)))))), (u20.2, .inl (ct 1, 128, .inl (fun _ => 0))), (q3, .inr (3, [.ref q1])), (q4, .inr (4, [.ref q1, .ref q3])), (q5, .inr (0, [.ref q2, .ref q3]))] := hD
  refine va_putF (D := D) (ci := 5) (v := .ref q5) (ty := .object "FileBody$Bodies") (C := R_Fb) (T := T_Fb) (N := 5) hx hb hts u_Fb t_Fb t_Fb_ok n_Fb hown hK hP hD hS 0 rfl rfl 4 (by decide) (hts _ w_104) (fun _ h9 => h9) rfl hin rfl (by decide +kernel) rfl rfl (Nat.le_of_ble_eq_true rfl) d_Fb_init_76 (fun H locs hP hD hS => ?_)
  have hP : va_P D vwC [(a, .inr (5, [.ref q1, .ref q2, .ref q3, .ref q4, .ref q5])), (q1, .inr (2, [.ref u9])), (u9, .inl (ct 0, 4096, .inl (fun _ => 0))), (q2, .inr (1, [.ref u20.1, .ref u20.2, .int (nI 124)])), (u20.1, .inl (ct 2, 128, .inr (.inr (.inr (.inr (fun _ => none)))))), (u20.2, .inl (ct 1, 128, .inl (fun _ => 0))), (q3, .inr (3, [.ref q1])), (q4, .inr (4, [.ref q1, .ref q3])), (q5, .inr (0, [.ref q2, .ref q3]))] H := hP
  have hD : va_D A [(a, .inr (5, [.ref q1, .ref q2, .ref q3, .ref q4, .ref q5])), (q1, .inr (2, [.ref u9])), (u9, .inl (ct 0, 4096, .inl (fun _ => 0))), (q2, .inr (1, [.ref u20.1, .ref u20.2, .int (nI 124)])), (u20.1, .inl (ct 2, 128, .inr (.inr (.inr (.inr (fun _ => none)))))), (u20.2, .inl (ct 1, 128, .inl (fun _ => 0))), (q3, .inr (3, [.ref q1])), (q4, .inr (4, [.ref q1, .ref q3])), (q5, .inr (0, [.ref q2, .ref q3]))] := hD
  refine W.widen (k := 8) (n := 4361) (by omega) (by omega) ?_
  exact W.vret hx hb hr (fun t9 ht hW => ⟨adL [a, q2, q3, q1, q4, q5, u9, u20.1, u20.2], rfl, rfl, ⟨fun _ => none, [], fun _ _ => 0, rX0, by rw [ht]; exact hP.sub [0, 3, 6, 1, 7, 8, 2, 4, 5] rfl, hD.sub [0, 3, 6, 1, 7, 8, 2, 4, 5] (by decide) rfl⟩, hS.F ht⟩) hS.2.2 d_Fb_init_79
set_option maxHeartbeats 4000000 in
set_option maxRecDepth 100000 in
theorem k_Mo_init (l : Launch) {D : va_G} {ct : Nat → ClassId} {A : Nat → Prop} {a : Nat}  : Met l y_Mo_init (Cond.code y_Mo_init c_Mo_init 2 none :: wA) (rmk 2 9 132240) (va_Pc [.ref a] (cW A D (tyA ct) [(a, .inr (6, [.int 0, .null, .null, .null, .null, .null, .null, .null, .null, .null, .int 0]))])) (wE (fun _ : Nat → Nat => none) (fun u => u 0 = a) A D (fun u : Nat → Nat => wsM ct u (nI 0) (fun _ => 0) tk0 (fun _ => 0) (fun _ => 0) (fun _ => 0) (fun _ => 0) (fun _ => 0) (fun _ => 0) (fun _ => 0) (nI 0))) 9 132240 A := by
  refine Met.ofW (cc := c_Mo_init) (maxL := 2) (ret := none) (by decide +kernel) rfl ?_
  intro p e s m args below meth c s₁ B0 hml hv
  obtain ⟨rfl, hA, hP, hD, hK⟩ := hv
  have hS : va_S A s.heap s.heap [] := va_S.rf
  have hx := B0.exec
  have hb := B0.bytes
  have hr := B0.returns
  have hts := fun w (h : w ∈ wA) => atoms_spec (ws := Cond.code y_Mo_init c_Mo_init 2 none :: wA) B0.pre w (List.mem_cons_of_mem _ h)
  have hown : s.vm.findClass R_Mo = some m.cls := findClass_of_methodNamed B0.named
  have hin : meth.name = "<init>" := (name_of_methodNamed B0.named B0.method).1
  have hl := lv_entry ([.ref a]) (n := 2) (Nat.le_of_ble_eq_true rfl)
  rw [lg_entry_eq]
  generalize (lg_sl ([.ref a]) ++ List.replicate (2 - (lg_sl ([.ref a])).length) Slot.unset).toArray = ls at hl ⊢
  have hl : lv_has ls 2 [(0, .ref a)] := hl
  refine lv_aload_n hx hb d_Mo_init_0 rfl (lv_at hl 0 rfl) ?_
  refine W.objInit hx hb hown (hts _ w_837) (hts _ w_32) (hts _ w_33) rfl (by rw [hml]; exact hl.1) rfl d_Mo_init_1 (Nat.le_of_ble_eq_true rfl) (Nat.le_of_ble_eq_true rfl) ?_
  refine W.eq (g2 := F0 m 4 ls []) rfl ?_
  refine lv_aload_n hx hb d_Mo_init_4 rfl (lv_at hl 0 rfl) ?_
  refine lv_ldc (v := nI 131072) hx hb hown (hts _ w_838) d_Mo_init_5 ?_
  refine ln_newP (atype := .byte) (ty := .byte) (N := 131072) (a0 := (131072, .inl (fun _ => 0))) hx hb (by decide) (hts _ w_44) rfl hK 0 rfl (fun _ h => h) hP hD hS hA (fun cA => vp_cell_i cA _ (fun _ => 0)) (by decide) (show 0 + 1 ≤ 9 by omega) (show 0 + 131072 ≤ 132240 by omega) d_Mo_init_7 (fun q1 H hP hD hS => ?_)
  have hP : va_P D vwC [(a, .inr (6, [.int 0, .null, .null, .null, .null, .null, .null, .null, .null, .null, .int 0])), (q1, .inl (ct 0, 131072, .inl (fun _ => 0)))] H := hP
  have hD : va_D A [(a, .inr (6, [.int 0, .null, .null, .null, .null, .null, .null, .null, .null, .null, .int 0])), (q1, .inl (ct 0, 131072, .inl (fun _ => 0)))] := hD
  refine va_putF (D := D) (ci := 6) (v := .ref q1) (ty := .array .byte) (C := R_Mo) (T := T_Mo) (N := 11) hx hb hts u_Mo t_Mo t_Mo_ok n_Mo hown hK hP hD hS 0 rfl rfl 1 (by decide) (hts _ w_840) (fun _ h9 => h9) rfl hin rfl (by decide +kernel) rfl rfl (Nat.le_of_ble_eq_true rfl) d_Mo_init_9 (fun H locs hP hD hS => ?_)
  have hP : va_P D vwC [(a, .inr (6, [.int 0, .ref q1, .null, .null, .null, .null, .null, .null, .null, .null, .int 0])), (q1, .inl (ct 0, 131072, .inl (fun _ => 0)))] H := hP
  have hD : va_D A [(a, .inr (6, [.int 0, .ref q1, .null, .null, .null, .null, .null, .null, .null, .null, .int 0])), (q1, .inl (ct 0, 131072, .inl (fun _ => 0)))] := hD
  refine lv_aload_n hx hb d_Mo_init_12 rfl (lv_at hl 0 rfl) ?_
  refine lv_sipush (v := nI 128) hx hb d_Mo_init_13 (by decide) ?_
  refine ln_newP (atype := .boolean) (ty := .boolean) (N := 128) (a0 := (128, .inl (fun _ => 0))) hx hb (by decide) (hts _ w_63) rfl hK 1 rfl (fun _ h => h) hP hD hS hA (fun cA => vp_cell_i cA _ (fun _ => 0)) (by decide) (show (0 + 1) + 1 ≤ 9 by omega) (show (0 + 131072) + 128 ≤ 132240 by omega) d_Mo_init_16 (fun q2 H hP hD hS => ?_)
  have hP : va_P D vwC [(a, .inr (6, [.int 0, .ref q1, .null, .null, .null, .null, .null, .null, .null, .null, .int 0])), (q1, .inl (ct 0, 131072, .inl (fun _ => 0))), (q2, .inl (ct 1, 128, .inl (fun _ => 0)))] H := hP
  have hD : va_D A [(a, .inr (6, [.int 0, .ref q1, .null, .null, .null, .null, .null, .null, .null, .null, .int 0])), (q1, .inl (ct 0, 131072, .inl (fun _ => 0))), (q2, .inl (ct 1, 128, .inl (fun _ => 0)))] := hD
  refine va_putF (D := D) (ci := 6) (v := .ref q2) (ty := .array .boolean) (C := R_Mo) (T := T_Mo) (N := 11) hx hb hts u_Mo t_Mo t_Mo_ok n_Mo hown hK hP hD hS 0 rfl rfl 2 (by decide) (hts _ w_841) (fun _ h9 => h9) rfl hin rfl (by decide +kernel) rfl rfl (Nat.le_of_ble_eq_true rfl) d_Mo_init_18 (fun H locs hP hD hS => ?_)
  have hP : va_P D vwC [(a, .inr (6, [.int 0, .ref q1, .ref q2, .null, .null, .null, .null, .null, .null, .null, .int 0])), (q1, .inl (ct 0, 131072, .inl (fun _ => 0))), (q2, .inl (ct 1, 128, .inl (fun _ => 0)))] H := hP
  have hD : va_D A [(a, .inr (6, [.int 0, .ref q1, .ref q2, .null, .null, .null, .null, .null, .null, .null, .int 0])), (q1, .inl (ct 0, 131072, .inl (fun _ => 0))), (q2, .inl (ct 1, 128, .inl (fun _ => 0)))] := hD
  refine lv_aload_n hx hb d_Mo_init_21 rfl (lv_at hl 0 rfl) ?_
  refine lv_bipush (v := nI 13) hx hb d_Mo_init_22 (by decide) ?_
  refine ln_newP (atype := .int) (ty := .int) (N := 13) (a0 := (13, .inl (fun _ => 0))) hx hb (by decide) (hts _ w_873) rfl hK 3 rfl (fun _ h => h) hP hD hS hA (fun cA => vp_cell_i cA _ (fun _ => 0)) (by decide) (show ((0 + 1) + 1) + 1 ≤ 9 by omega) (show ((0 + 131072) + 128) + 13 ≤ 132240 by omega) d_Mo_init_24 (fun q3 H hP hD hS => ?_)
  have hP : va_P D vwC [(a, .inr (6, [.int 0, .ref q1, .ref q2, .null, .null, .null, .null, .null, .null, .null, .int 0])), (q1, .inl (ct 0, 131072, .inl (fun _ => 0))), (q2, .inl (ct 1, 128, .inl (fun _ => 0))), (q3, .inl (ct 3, 13, .inl (fun _ => 0)))] H := hP
  have hD : va_D A [(a, .inr (6, [.int 0, .ref q1, .ref q2, .null, .null, .null, .null, .null, .null, .null, .int 0])), (q1, .inl (ct 0, 131072, .inl (fun _ => 0))), (q2, .inl (ct 1, 128, .inl (fun _ => 0))), (q3, .inl (ct 3, 13, .inl (fun _ => 0)))] := hD
  refine va_putF (D := D) (ci := 6) (v := .ref q3) (ty := .array .int) (C := R_Mo) (T := T_Mo) (N := 11) hx hb hts u_Mo t_Mo t_Mo_ok n_Mo hown hK hP hD hS 0 rfl rfl 3 (by decide) (hts _ w_842) (fun _ h9 => h9) rfl hin rfl (by decide +kernel) rfl rfl (Nat.le_of_ble_eq_true rfl) d_Mo_init_26 (fun H locs hP hD hS => ?_)
  have hP : va_P D vwC [(a, .inr (6, [.int 0, .ref q1, .ref q2, .ref q3, .null, .null, .null, .null, .null, .null, .int 0])), (q1, .inl (ct 0, 131072, .inl (fun _ => 0))), (q2, .inl (ct 1, 128, .inl (fun _ => 0))), (q3, .inl (ct 3, 13, .inl (fun _ => 0)))] H := hP
  have hD : va_D A [(a, .inr (6, [.int 0, .ref q1, .ref q2, .ref q3, .null, .null, .null, .null, .null, .null, .int 0])), (q1, .inl (ct 0, 131072, .inl (fun _ => 0))), (q2, .inl (ct 1, 128, .inl (fun _ => 0))), (q3, .inl (ct 3, 13, .inl (fun _ => 0)))] := hD
  refine lv_aload_n hx hb d_Mo_init_29 rfl (lv_at hl 0 rfl) ?_
  refine lv_bipush (v := nI 13) hx hb d_Mo_init_30 (by decide) ?_
  refine ln_newP (atype := .int) (ty := .int) (N := 13) (a0 := (13, .inl (fun _ => 0))) hx hb (by decide) (hts _ w_873) rfl hK 3 rfl (fun _ h => h) hP hD hS hA (fun cA => vp_cell_i cA _ (fun _ => 0)) (by decide) (show (((0 + 1) + 1) + 1) + 1 ≤ 9 by omega) (show (((0 + 131072) + 128) + 13) + 13 ≤ 132240 by omega) d_Mo_init_32 (fun q4 H hP hD hS => ?_)
  have hP : va_P D vwC [(a, .inr (6, [.int 0, .ref q1, .ref q2, .ref q3, .null, .null, .null, .null, .null, .null, .int 0])), (q1, .inl (ct 0, 131072, .inl (fun _ => 0))), (q2, .inl (ct 1, 128, .inl (fun _ => 0))), (q3, .inl (ct 3, 13, .inl (fun _ => 0))), (q4, .inl (ct 3, 13, .inl (fun _ => 0)))] H := hP
  have hD : va_D A [(a, .inr (6, [.int 0, .ref q1, .ref q2, .ref q3, .null, .null, .null, .null, .null, .null, .int 0])), (q1, .inl (ct 0, 131072, .inl (fun _ => 0))), (q2, .inl (ct 1, 128, .inl (fun _ => 0))), (q3, .inl (ct 3, 13, .inl (fun _ => 0))), (q4, .inl (ct 3, 13, .inl (fun _ => 0)))] := hD
  refine va_putF (D := D) (ci := 6) (v := .ref q4) (ty := .array .int) (C := R_Mo) (T := T_Mo) (N := 11) hx hb hts u_Mo t_Mo t_Mo_ok n_Mo hown hK hP hD hS 0 rfl rfl 4 (by decide) (hts _ w_843) (fun _ h9 => h9) rfl hin rfl (by decide +kernel) rfl rfl (Nat.le_of_ble_eq_true rfl) d_Mo_init_34 (fun H locs hP hD hS => ?_)
  have hP : va_P D vwC [(a, .inr (6, [.int 0, .ref q1, .ref q2, .ref q3, .ref q4, .null, .null, .null, .null, .null, .int 0])), (q1, .inl (ct 0, 131072, .inl (fun _ => 0))), (q2, .inl (ct 1, 128, .inl (fun _ => 0))), (q3, .inl (ct 3, 13, .inl (fun _ => 0))), (q4, .inl (ct 3, 13, .inl (fun _ => 0)))] H := hP
  have hD : va_D A [(a, .inr (6, [.int 0, .ref q1, .ref q2, .ref q3, .ref q4, .null, .null, .null, .null, .null, .int 0])), (q1, .inl (ct 0, 131072, .inl (fun _ => 0))), (q2, .inl (ct 1, 128, .inl (fun _ => 0))), (q3, .inl (ct 3, 13, .inl (fun _ => 0))), (q4, .inl (ct 3, 13, .inl (fun _ => 0)))] := hD
  refine lv_aload_n hx hb d_Mo_init_37 rfl (lv_at hl 0 rfl) ?_
  refine lv_bipush (v := nI 13) hx hb d_Mo_init_38 (by decide) ?_
  refine ln_newP (atype := .int) (ty := .int) (N := 13) (a0 := (13, .inl (fun _ => 0))) hx hb (by decide) (hts _ w_873) rfl hK 3 rfl (fun _ h => h) hP hD hS hA (fun cA => vp_cell_i cA _ (fun _ => 0)) (by decide) (show ((((0 + 1) + 1) + 1) + 1) + 1 ≤ 9 by omega) (show ((((0 + 131072) + 128) + 13) + 13) + 13 ≤ 132240 by omega) d_Mo_init_40 (fun q5 H hP hD hS => ?_)
  have hP : va_P D vwC [(a, .inr (6, [.int 0, .ref q1, .ref q2, .ref q3, .ref q4, .null, .null, .null, .null, .null, .int 0])), (q1, .inl (ct 0, 131072, .inl (fun _ => 0))), (q2, .inl (ct 1, 128, .inl (fun _ => 0))), (q3, .inl (ct 3, 13, .inl (fun _ => 0))), (q4, .inl (ct 3, 13, .inl (fun _ => 0))), (q5, .inl (ct 3, 13, .inl (fun _ => 0)))] H := hP
  have hD : va_D A [(a, .inr (6, [.int 0, .ref q1, .ref q2, .ref q3, .ref q4, .null, .null, .null, .null, .null, .int 0])), (q1, .inl (ct 0, 131072, .inl (fun _ => 0))), (q2, .inl (ct 1, 128, .inl (fun _ => 0))), (q3, .inl (ct 3, 13, .inl (fun _ => 0))), (q4, .inl (ct 3, 13, .inl (fun _ => 0))), (q5, .inl (ct 3, 13, .inl (fun _ => 0)))] := hD
  refine va_putF (D := D) (ci := 6) (v := .ref q5) (ty := .array .int) (C := R_Mo) (T := T_Mo) (N := 11) hx hb hts u_Mo t_Mo t_Mo_ok n_Mo hown hK hP hD hS 0 rfl rfl 5 (by decide) (hts _ w_844) (fun _ h9 => h9) rfl hin rfl (by decide +kernel) rfl rfl (Nat.le_of_ble_eq_true rfl) d_Mo_init_42 (fun H locs hP hD hS => ?_)
  have hP : va_P D vwC [(a, .inr (6, [.int 0, .ref q1, .ref q2, .ref q3, .ref q4, .ref q5, .null, .null, .null, .null, .int 0])), (q1, .inl (ct 0, 131072, .inl (fun _ => 0))), (q2, .inl (ct 1, 128, .inl (fun _ => 0))), (q3, .inl (ct 3, 13, .inl (fun _ => 0))), (q4, .inl (ct 3, 13, .inl (fun _ => 0))), (q5, .inl (ct 3, 13, .inl (fun _ => 0)))] H := hP
  have hD : va_D A [(a, .inr (6, [.int 0, .ref q1, .ref q2, .ref q3, .ref q4, .ref q5, .null, .null, .null, .null, .int 0])), (q1, .inl (ct 0, 131072, .inl (fun _ => 0))), (q2, .inl (ct 1, 128, .inl (fun _ => 0))), (q3, .inl (ct 3, 13, .inl (fun _ => 0))), (q4, .inl (ct 3, 13, .inl (fun _ => 0))), (q5, .inl (ct 3, 13, .inl (fun _ => 0)))] := hD
  refine lv_aload_n hx hb d_Mo_init_45 rfl (lv_at hl 0 rfl) ?_
  refine lv_bipush (v := nI 13) hx hb d_Mo_init_46 (by decide) ?_
  refine ln_newP (atype := .int) (ty := .int) (N := 13) (a0 := (13, .inl (fun _ => 0))) hx hb (by decide) (hts _ w_873) rfl hK 3 rfl (fun _ h => h) hP hD hS hA (fun cA => vp_cell_i cA _ (fun _ => 0)) (by decide) (show (((((0 + 1) + 1) + 1) + 1) + 1) + 1 ≤ 9 by omega) (show (((((0 + 131072) + 128) + 13) + 13) + 13) + 13 ≤ 132240 by omega) d_Mo_init_48 (fun q6 H hP hD hS => ?_)
  have hP : va_P D vwC [(a, .inr (6, [.int 0, .ref q1, .ref q2, .ref q3, .ref q4, .ref q5, .null, .null, .null, .null, .int 0])), (q1, .inl (ct 0, 131072, .inl (fun _ => 0))), (q2, .inl (ct 1, 128, .inl (fun _ => 0))), (q3, .inl (ct 3, 13, .inl (fun _ => 0))), (q4, .inl (ct 3, 13, .inl (fun _ => 0))), (q5, .inl (ct 3, 13, .inl (fun _ => 0))), (q6, .inl (ct 3, 13, .inl (fun _ => 0)))] H := hP
  have hD : va_D A [(a, .inr (6, [.int 0, .ref q1, .ref q2, .ref q3, .ref q4, .ref q5, .null, .null, .null, .null, .int 0])), (q1, .inl (ct 0, 131072, .inl (fun _ => 0))), (q2, .inl (ct 1, 128, .inl (fun _ => 0))), (q3, .inl (ct 3, 13, .inl (fun _ => 0))), (q4, .inl (ct 3, 13, .inl (fun _ => 0))), (q5, .inl (ct 3, 13, .inl (fun _ => 0))), (q6, .inl (ct 3, 13, .inl (fun _ => 0)))] := hD
  refine va_putF (D := D) (ci := 6) (v := .ref q6) (ty := .array .int) (C := R_Mo) (T := T_Mo) (N := 11) hx hb hts u_Mo t_Mo t_Mo_ok n_Mo hown hK hP hD hS 0 rfl rfl 6 (by decide) (hts _ w_845) (fun _ h9 => h9) rfl hin rfl (by decide +kernel) rfl rfl (Nat.le_of_ble_eq_true rfl) d_Mo_init_50 (fun H locs hP hD hS => ?_)
  have hP : va_P D vwC [(a, .inr (6, [.int 0, .ref q1, .ref q2, .ref q3, .ref q4, .ref q5, .ref q6, .null, .null, .null, .int 0])), (q1, .inl (ct 0, 131072, .inl (fun _ => 0))), (q2, .inl (ct 1, 128, .inl (fun _ => 0))), (q3, .inl (ct 3, 13, .inl (fun _ => 0))), (q4, .inl (ct 3, 13, .inl (fun _ => 0))), (q5, .inl (ct 3, 13, .inl (fun _ => 0))), (q6, .inl (ct 3, 13, .inl (fun _ => 0)))] H := hP
  have hD : va_D A [(a, .inr (6, [.int 0, .ref q1, .ref q2, .ref q3, .ref q4, .ref q5, .ref q6, .null, .null, .null, .int 0])), (q1, .inl (ct 0, 131072, .inl (fun _ => 0))), (q2, .inl (ct 1, 128, .inl (fun _ => 0))), (q3, .inl (ct 3, 13, .inl (fun _ => 0))), (q4, .inl (ct 3, 13, .inl (fun _ => 0))), (q5, .inl (ct 3, 13, .inl (fun _ => 0))), (q6, .inl (ct 3, 13, .inl (fun _ => 0)))] := hD
  refine lv_aload_n hx hb d_Mo_init_53 rfl (lv_at hl 0 rfl) ?_
  refine lv_bipush (v := nI 13) hx hb d_Mo_init_54 (by decide) ?_
  refine ln_newP (atype := .boolean) (ty := .boolean) (N := 13) (a0 := (13, .inl (fun _ => 0))) hx hb (by decide) (hts _ w_63) rfl hK 1 rfl (fun _ h => h) hP hD hS hA (fun cA => vp_cell_i cA _ (fun _ => 0)) (by decide) (show ((((((0 + 1) + 1) + 1) + 1) + 1) + 1) + 1 ≤ 9 by omega) (show ((((((0 + 131072) + 128) + 13) + 13) + 13) + 13) + 13 ≤ 132240 by omega) d_Mo_init_56 (fun q7 H hP hD hS => ?_)
  have hP : va_P D vwC [(a, .inr (6, [.int 0, .ref q1, .ref q2, .ref q3, .ref q4, .ref q5, .ref q6, .null, .null, .null, .int 0])), (q1, .inl (ct 0, 131072, .inl (fun _ => 0))), (q2, .inl (ct 1, 128, .inl (fun _ => 0))), (q3, .inl (ct 3, 13, .inl (fun _ => 0))), (q4, .inl (ct 3, 13, .inl (fun _ => 0))), (q5, .inl (ct 3, 13, .inl (fun _ => 0))), (q6, .inl (ct 3, 13, .inl (fun _ => 0))), (q7, .inl (ct 1, 13, .inl (fun _ => 0)))] H := hP
  have hD : va_D A [(a, .inr (6, [.int 0, .ref q1, .ref q2, .ref q3, .ref q4, .ref q5, .ref q6, .null, .null, .null, .int 0])), (q1, .inl (ct 0, 131072, .inl (fun _ => 0))), (q2, .inl (ct 1, 128, .inl (fun _ => 0))), (q3, .inl (ct 3, 13, .inl (fun _ => 0))), (q4, .inl (ct 3, 13, .inl (fun _ => 0))), (q5, .inl (ct 3, 13, .inl (fun _ => 0))), (q6, .inl (ct 3, 13, .inl (fun _ => 0))), (q7, .inl (ct 1, 13, .inl (fun _ => 0)))] := hD
  refine va_putF (D := D) (ci := 6) (v := .ref q7) (ty := .array .boolean) (C := R_Mo) (T := T_Mo) (N := 11) hx hb hts u_Mo t_Mo t_Mo_ok n_Mo hown hK hP hD hS 0 rfl rfl 7 (by decide) (hts _ w_846) (fun _ h9 => h9) rfl hin rfl (by decide +kernel) rfl rfl (Nat.le_of_ble_eq_true rfl) d_Mo_init_58 (fun H locs hP hD hS => ?_)
  have hP : va_P D vwC [(a, .inr (6, [.int 0, .ref q1, .ref q2, .ref q3, .ref q4, .ref q5, .ref q6, .ref q7, .null, .null, .int 0])), (q1, .inl (ct 0, 131072, .inl (fun _ => 0))), (q2, .inl (ct 1, 128, .inl (fun _ => 0))), (q3, .inl (ct 3, 13, .inl (fun _ => 0))), (q4, .inl (ct 3, 13, .inl (fun _ => 0))), (q5, .inl (ct 3, 13, .inl (fun _ => 0))), (q6, .inl (ct 3, 13, .inl (fun _ => 0))), (q7, .inl (ct 1, 13, .inl (fun _ => 0)))] H := hP
  have hD : va_D A [(a, .inr (6, [.int 0, .ref q1, .ref q2, .ref q3, .ref q4, .ref q5, .ref q6, .ref q7, .null, .null, .int 0])), (q1, .inl (ct 0, 131072, .inl (fun _ => 0))), (q2, .inl (ct 1, 128, .inl (fun _ => 0))), (q3, .inl (ct 3, 13, .inl (fun _ => 0))), (q4, .inl (ct 3, 13, .inl (fun _ => 0))), (q5, .inl (ct 3, 13, .inl (fun _ => 0))), (q6, .inl (ct 3, 13, .inl (fun _ => 0))), (q7, .inl (ct 1, 13, .inl (fun _ => 0)))] := hD
  refine lv_aload_n hx hb d_Mo_init_61 rfl (lv_at hl 0 rfl) ?_
  refine lv_sipush (v := nI 195) hx hb d_Mo_init_62 (by decide) ?_
  refine ln_newP (atype := .int) (ty := .int) (N := 195) (a0 := (195, .inl (fun _ => 0))) hx hb (by decide) (hts _ w_873) rfl hK 3 rfl (fun _ h => h) hP hD hS hA (fun cA => vp_cell_i cA _ (fun _ => 0)) (by decide) (show (((((((0 + 1) + 1) + 1) + 1) + 1) + 1) + 1) + 1 ≤ 9 by omega) (show (((((((0 + 131072) + 128) + 13) + 13) + 13) + 13) + 13) + 195 ≤ 132240 by omega) d_Mo_init_65 (fun q8 H hP hD hS => ?_)
  have hP : va_P D vwC [(a, .inr (6, [.int 0, .ref q1, .ref q2, .ref q3, .ref q4, .ref q5, .ref q6, .ref q7, .null, .null, .int 0])), (q1, .inl (ct 0, 131072, .inl (fun _ => 0))), (q2, .inl (ct 1, 128, .inl (fun _ => 0))), (q3, .inl (ct 3, 13, .inl (fun _ => 0))), (q4, .inl (ct 3, 13, .inl (fun _ => 0))), (q5, .inl (ct 3, 13, .inl (fun _ => 0))), (q6, .inl (ct 3, 13, .inl (fun _ => 0))), (q7, .inl (ct 1, 13, .inl (fun _ => 0))), (q8, .inl (ct 3, 195, .inl (fun _ => 0)))] H := hP
  have hD : va_D A [(a, .inr (6, [.int 0, .ref q1, .ref q2, .ref q3, .ref q4, .ref q5, .ref q6, .ref q7, .null, .null, .int 0])), (q1, .inl (ct 0, 131072, .inl (fun _ => 0))), (q2, .inl (ct 1, 128, .inl (fun _ => 0))), (q3, .inl (ct 3, 13, .inl (fun _ => 0))), (q4, .inl (ct 3, 13, .inl (fun _ => 0))), (q5, .inl (ct 3, 13, .inl (fun _ => 0))), (q6, .inl (ct 3, 13, .inl (fun _ => 0))), (q7, .inl (ct 1, 13, .inl (fun _ => 0))), (q8, .inl (ct 3, 195, .inl (fun _ => 0)))] := hD
  refine va_putF (D := D) (ci := 6) (v := .ref q8) (ty := .array .int) (C := R_Mo) (T := T_Mo) (N := 11) hx hb hts u_Mo t_Mo t_Mo_ok n_Mo hown hK hP hD hS 0 rfl rfl 8 (by decide) (hts _ w_847) (fun _ h9 => h9) rfl hin rfl (by decide +kernel) rfl rfl (Nat.le_of_ble_eq_true rfl) d_Mo_init_67 (fun H locs hP hD hS => ?_)
  have hP : va_P D vwC [(a, .inr (6, [.int 0, .ref q1, .ref q2, .ref q3, .ref q4, .ref q5, .ref q6, .ref q7, .ref q8, .null, .int 0])), (q1, .inl (ct 0, 131072, .inl (fun _ => 0))), (q2, .inl (ct 1, 128, .inl (fun _ => 0))), (q3, .inl (ct 3, 13, .inl (fun _ => 0))), (q4, .inl (ct 3, 13, .inl (fun _ => 0))), (q5, .inl (ct 3, 13, .inl (fun _ => 0))), (q6, .inl (ct 3, 13, .inl (fun _ => 0))), (q7, .inl (ct 1, 13, .inl (fun _ => 0))), (q8, .inl (ct 3, 195, .inl (fun _ => 0)))] H := hP
  have hD : va_D A [(a, .inr (6, [.int 0, .ref q1, .ref q2, .ref q3, .ref q4, .ref q5, .ref q6, .ref q7, .ref q8, .null, .int 0])), (q1, .inl (ct 0, 131072, .inl (fun _ => 0))), (q2, .inl (ct 1, 128, .inl (fun _ => 0))), (q3, .inl (ct 3, 13, .inl (fun _ => 0))), (q4, .inl (ct 3, 13, .inl (fun _ => 0))), (q5, .inl (ct 3, 13, .inl (fun _ => 0))), (q6, .inl (ct 3, 13, .inl (fun _ => 0))), (q7, .inl (ct 1, 13, .inl (fun _ => 0))), (q8, .inl (ct 3, 195, .inl (fun _ => 0)))] := hD
  refine lv_aload_n hx hb d_Mo_init_70 rfl (lv_at hl 0 rfl) ?_
  refine lv_sipush (v := nI 780) hx hb d_Mo_init_71 (by decide) ?_
  refine ln_newP (atype := .byte) (ty := .byte) (N := 780) (a0 := (780, .inl (fun _ => 0))) hx hb (by decide) (hts _ w_44) rfl hK 0 rfl (fun _ h => h) hP hD hS hA (fun cA => vp_cell_i cA _ (fun _ => 0)) (by decide) (show ((((((((0 + 1) + 1) + 1) + 1) + 1) + 1) + 1) + 1) + 1 ≤ 9 by omega) (show ((((((((0 + 131072) + 128) + 13) + 13) + 13) + 13) + 13) + 195) + 780 ≤ 132240 by omega) d_Mo_init_74 (fun q9 H hP hD hS => ?_)
  have hP : va_P D vwC [(a, .inr (6, [.int 0, .ref q1, .ref q2, .ref q3, .ref q4, .ref q5, .ref q6, .ref q7, .ref q8, .null, .int 0])), (q1, .inl (ct 0, 131072, .inl (fun _ => 0))), (q2, .inl (ct 1, 128, .inl (fun _ => 0))), (q3, .inl (ct 3, 13, .inl (fun _ => 0))), (q4, .inl (ct 3, 13, .inl (fun _ => 0))), (q5, .inl (ct 3, 13, .inl (fun _ => 0))), (q6, .inl (ct 3, 13, .inl (fun _ => 0))), (q7, .inl (ct 1, 13, .inl (fun _ => 0))), (q8, .inl (ct 3, 195, .inl (fun _ => 0))), (q9, .inl (ct 0, 780, .inl (fun _ => 0)))] H := hP
  have hD : va_D A [(a, .inr (6, [.int 0, .ref q1, .ref q2, .ref q3, .ref q4, .ref q5, .ref q6, .ref q7, .ref q8, .null, .int 0])), (q1, .inl (ct 0, 131072, .inl (fun _ => 0))), (q2, .inl (ct 1, 128, .inl (fun _ => 0))), (q3, .inl (ct 3, 13, .inl (fun _ => 0))), (q4, .inl (ct 3, 13, .inl (fun _ => 0))), (q5, .inl (ct 3, 13, .inl (fun _ => 0))), (q6, .inl (ct 3, 13, .inl (fun _ => 0))), (q7, .inl (ct 1, 13, .inl (fun _ => 0))), (q8, .inl (ct 3, 195, .inl (fun _ => 0))), (q9, .inl (ct 0, 780, .inl (fun _ => 0)))] := hD
  refine va_putF (D := D) (ci := 6) (v := .ref q9) (ty := .array .byte) (C := R_Mo) (T := T_Mo) (N := 11) hx hb hts u_Mo t_Mo t_Mo_ok n_Mo hown hK hP hD hS 0 rfl rfl 9 (by decide) (hts _ w_848) (fun _ h9 => h9) rfl hin rfl (by decide +kernel) rfl rfl (Nat.le_of_ble_eq_true rfl) d_Mo_init_76 (fun H locs hP hD hS => ?_)
  have hP : va_P D vwC [(a, .inr (6, [.int 0, .ref q1, .ref q2, .ref q3, .ref q4, .ref q5, .ref q6, .ref q7, .ref q8, .ref q9, .int 0])), (q1, .inl (ct 0, 131072, .inl (fun _ => 0))), (q2, .inl (ct 1, 128, .inl (fun _ => 0))), (q3, .inl (ct 3, 13, .inl (fun _ => 0))), (q4, .inl (ct 3, 13, .inl (fun _ => 0))), (q5, .inl (ct 3, 13, .inl (fun _ => 0))), (q6, .inl (ct 3, 13, .inl (fun _ => 0))), (q7, .inl (ct 1, 13, .inl (fun _ => 0))), (q8, .inl (ct 3, 195, .inl (fun _ => 0))), (q9, .inl (ct 0, 780, .inl (fun _ => 0)))] H := hP
  have hD : va_D A [(a, .inr (6, [.int 0, .ref q1, .ref q2, .ref q3, .ref q4, .ref q5, .ref q6, .ref q7, .ref q8, .ref q9, .int 0])), (q1, .inl (ct 0, 131072, .inl (fun _ => 0))), (q2, .inl (ct 1, 128, .inl (fun _ => 0))), (q3, .inl (ct 3, 13, .inl (fun _ => 0))), (q4, .inl (ct 3, 13, .inl (fun _ => 0))), (q5, .inl (ct 3, 13, .inl (fun _ => 0))), (q6, .inl (ct 3, 13, .inl (fun _ => 0))), (q7, .inl (ct 1, 13, .inl (fun _ => 0))), (q8, .inl (ct 3, 195, .inl (fun _ => 0))), (q9, .inl (ct 0, 780, .inl (fun _ => 0)))] := hD
  refine lv_iconst (v := nI 0) hx hb d_Mo_init_79 (by decide) ?_
  refine lv_istore_n (lv' := [(1, .int (nI 0)), (0, .ref a)]) hx hb d_Mo_init_80 rfl hl (by decide) rfl (fun ls hl => ?_)
  refine lv_iload_n hx hb d_Mo_init_81 rfl (lv_at hl 0 rfl) ?_
  refine lv_iconst (v := nI 4) hx hb d_Mo_init_82 (by decide) ?_
  refine ln_icmp_ge (tgt := 99) hx hb (by omega) (by omega) d_Mo_init_83 (by decide) (fun c9 => absurd c9 (by omega)) (fun c9 => ?_)
  refine lv_aload_n hx hb d_Mo_init_86 rfl (lv_at hl 1 rfl) ?_
  refine va_get (D := D) (ci := 6) (v := .ref q2) (C := R_Mo) (T := T_Mo) (N := 11) hx hb hts u_Mo hown hK hP 0 rfl rfl 2 (by decide) (hts _ w_841) (fun _ h9 => h9) rfl d_Mo_init_87 ?_
  refine lv_iload_n hx hb d_Mo_init_90 rfl (lv_at hl 0 rfl) ?_
  refine lv_iconst (v := nI 1) hx hb d_Mo_init_91 (by decide) ?_
  refine ln_zast hx hb hK hP hD hS 2 1 rfl rfl (by omega) (by decide) d_Mo_init_92 (fun H locs hP hD hS => ?_)
  have hP : va_P D vwC [(a, .inr (6, [.int 0, .ref q1, .ref q2, .ref q3, .ref q4, .ref q5, .ref q6, .ref q7, .ref q8, .ref q9, .int 0])), (q1, .inl (ct 0, 131072, .inl (fun _ => 0))), (q2, .inl (ct 1, 128, .inl (upd (fun _ => 0) 0 (vp_nar .boolean (nI 1))))), (q3, .inl (ct 3, 13, .inl (fun _ => 0))), (q4, .inl (ct 3, 13, .inl (fun _ => 0))), (q5, .inl (ct 3, 13, .inl (fun _ => 0))), (q6, .inl (ct 3, 13, .inl (fun _ => 0))), (q7, .inl (ct 1, 13, .inl (fun _ => 0))), (q8, .inl (ct 3, 195, .inl (fun _ => 0))), (q9, .inl (ct 0, 780, .inl (fun _ => 0)))] H := hP
  have hD : va_D A [(a, .inr (6, [.int 0, .ref q1, .ref q2, .ref q3, .ref q4, .ref q5, .ref q6, .ref q7, .ref q8, .ref q9, .int 0])), (q1, .inl (ct 0, 131072, .inl (fun _ => 0))), (q2, .inl (ct 1, 128, .inl (upd (fun _ => 0) 0 (vp_nar .boolean (nI 1))))), (q3, .inl (ct 3, 13, .inl (fun _ => 0))), (q4, .inl (ct 3, 13, .inl (fun _ => 0))), (q5, .inl (ct 3, 13, .inl (fun _ => 0))), (q6, .inl (ct 3, 13, .inl (fun _ => 0))), (q7, .inl (ct 1, 13, .inl (fun _ => 0))), (q8, .inl (ct 3, 195, .inl (fun _ => 0))), (q9, .inl (ct 0, 780, .inl (fun _ => 0)))] := hD
  refine lv_iinc (v := nI 1) (lv' := [(1, .int (nI 1)), (0, .ref a)]) hx hb d_Mo_init_93 hl (k := 0) rfl (by decide) (by decide) rfl (fun ls hl => ?_)
  refine lv_goto (tgt := 81) hx hb d_Mo_init_96 (by decide) ?_
  refine lv_iload_n hx hb d_Mo_init_81 rfl (lv_at hl 0 rfl) ?_
  refine lv_iconst (v := nI 4) hx hb d_Mo_init_82 (by decide) ?_
  refine ln_icmp_ge (tgt := 99) hx hb (by omega) (by omega) d_Mo_init_83 (by decide) (fun c9 => absurd c9 (by omega)) (fun c9 => ?_)
  refine lv_aload_n hx hb d_Mo_init_86 rfl (lv_at hl 1 rfl) ?_
  refine va_get (D := D) (ci := 6) (v := .ref q2) (C := R_Mo) (T := T_Mo) (N := 11) hx hb hts u_Mo hown hK hP 0 rfl rfl 2 (by decide) (hts _ w_841) (fun _ h9 => h9) rfl d_Mo_init_87 ?_
  refine lv_iload_n hx hb d_Mo_init_90 rfl (lv_at hl 0 rfl) ?_
  refine lv_iconst (v := nI 1) hx hb d_Mo_init_91 (by decide) ?_
  refine ln_zast hx hb hK hP hD hS 2 1 rfl rfl (by omega) (by decide) d_Mo_init_92 (fun H locs hP hD hS => ?_)
  have hP : va_P D vwC [(a, .inr (6, [.int 0, .ref q1, .ref q2, .ref q3, .ref q4, .ref q5, .ref q6, .ref q7, .ref q8, .ref q9, .int 0])), (q1, .inl (ct 0, 131072, .inl (fun _ => 0))), (q2, .inl (ct 1, 128, .inl (upd (upd (fun _ => 0) 0 (vp_nar .boolean (nI 1))) 1 (vp_nar .boolean (nI 1))))), (q3, .inl (ct 3, 13, .inl (fun _ => 0))), (q4, .inl (ct 3, 13, .inl (fun _ => 0))), (q5, .inl (ct 3, 13, .inl (fun _ => 0))), (q6, .inl (ct 3, 13, .inl (fun _ => 0))), (q7, .inl (ct 1, 13, .inl (fun _ => 0))), (q8, .inl (ct 3, 195, .inl (fun _ => 0))), (q9, .inl (ct 0, 780, .inl (fun _ => 0)))] H := hP
  have hD : va_D A [(a, .inr (6, [.int 0, .ref q1, .ref q2, .ref q3, .ref q4, .ref q5, .ref q6, .ref q7, .ref q8, .ref q9, .int 0])), (q1, .inl (ct 0, 131072, .inl (fun _ => 0))), (q2, .inl (ct 1, 128, .inl (upd (upd (fun _ => 0) 0 (vp_nar .boolean (nI 1))) 1 (vp_nar .boolean (nI 1))))), (q3, .inl (ct 3, 13, .inl (fun _ => 0))), (q4, .inl (ct 3, 13, .inl (fun _ => 0))), (q5, .inl (ct 3, 13, .inl (fun _ => 0))), (q6, .inl (ct 3, 13, .inl (fun _ => 0))), (q7, .inl (ct 1, 13, .inl (fun _ => 0))), (q8, .inl (ct 3, 195, .inl (fun _ => 0))), (q9, .inl (ct 0, 780, .inl (fun _ => 0)))] := hD
  refine lv_iinc (v := nI 2) (lv' := [(1, .int (nI 2)), (0, .ref a)]) hx hb d_Mo_init_93 hl (k := 0) rfl (by decide) (by decide) rfl (fun ls hl => ?_)
  refine lv_goto (tgt := 81) hx hb d_Mo_init_96 (by decide) ?_
  refine lv_iload_n hx hb d_Mo_init_81 rfl (lv_at hl 0 rfl) ?_
  refine lv_iconst (v := nI 4) hx hb d_Mo_init_82 (by decide) ?_
  refine ln_icmp_ge (tgt := 99) hx hb (by omega) (by omega) d_Mo_init_83 (by decide) (fun c9 => absurd c9 (by omega)) (fun c9 => ?_)
  refine lv_aload_n hx hb d_Mo_init_86 rfl (lv_at hl 1 rfl) ?_
  refine va_get (D := D) (ci := 6) (v := .ref q2) (C := R_Mo) (T := T_Mo) (N := 11) hx hb hts u_Mo hown hK hP 0 rfl rfl 2 (by decide) (hts _ w_841) (fun _ h9 => h9) rfl d_Mo_init_87 ?_
  refine lv_iload_n hx hb d_Mo_init_90 rfl (lv_at hl 0 rfl) ?_
  refine lv_iconst (v := nI 1) hx hb d_Mo_init_91 (by decide) ?_
  refine ln_zast hx hb hK hP hD hS 2 1 rfl rfl (by omega) (by decide) d_Mo_init_92 (fun H locs hP hD hS => ?_)
  have hP : va_P D vwC [(a, .inr (6, [.int 0, .ref q1, .ref q2, .ref q3, .ref q4, .ref q5, .ref q6, .ref q7, .ref q8, .ref q9, .int 0])), (q1, .inl (ct 0, 131072, .inl (fun _ => 0))), (q2, .inl (ct 1, 128, .inl (upd (upd (upd (fun _ => 0) 0 (vp_nar .boolean (nI 1))) 1 (vp_nar .boolean (nI 1))) 2 (vp_nar .boolean (nI 1))))), (q3, .inl (ct 3, 13, .inl (fun _ => 0))), (q4, .inl (ct 3, 13, .inl (fun _ => 0))), (q5, .inl (ct 3, 13, .inl (fun _ => 0))), (q6, .inl (ct 3, 13, .inl (fun _ => 0))), (q7, .inl (ct 1, 13, .inl (fun _ => 0))), (q8, .inl (ct 3, 195, .inl (fun _ => 0))), (q9, .inl (ct 0, 780, .inl (fun _ => 0)))] H := hP
  have hD : va_D A [(a, .inr (6, [.int 0, .ref q1, .ref q2, .ref q3, .ref q4, .ref q5, .ref q6, .ref q7, .ref q8, .ref q9, .int 0])), (q1, .inl (ct 0, 131072, .inl (fun _ => 0))), (q2, .inl (ct 1, 128, .inl (upd (upd (upd (fun _ => 0) 0 (vp_nar .boolean (nI 1))) 1 (vp_nar .boolean (nI 1))) 2 (vp_nar .boolean (nI 1))))), (q3, .inl (ct 3, 13, .inl (fun _ => 0))), (q4, .inl (ct 3, 13, .inl (fun _ => 0))), (q5, .inl (ct 3, 13, .inl (fun _ => 0))), (q6, .inl (ct 3, 13, .inl (fun _ => 0))), (q7, .inl (ct 1, 13, .inl (fun _ => 0))), (q8, .inl (ct 3, 195, .inl (fun _ => 0))), (q9, .inl (ct 0, 780, .inl (fun _ => 0)))] := hD
  refine lv_iinc (v := nI 3) (lv' := [(1, .int (nI 3)), (0, .ref a)]) hx hb d_Mo_init_93 hl (k := 0) rfl (by decide) (by decide) rfl (fun ls hl => ?_)
  refine lv_goto (tgt := 81) hx hb d_Mo_init_96 (by decide) ?_
  refine lv_iload_n hx hb d_Mo_init_81 rfl (lv_at hl 0 rfl) ?_
  refine lv_iconst (v := nI 4) hx hb d_Mo_init_82 (by decide) ?_
  refine ln_icmp_ge (tgt := 99) hx hb (by omega) (by omega) d_Mo_init_83 (by decide) (fun c9 => absurd c9 (by omega)) (fun c9 => ?_)
  refine lv_aload_n hx hb d_Mo_init_86 rfl (lv_at hl 1 rfl) ?_
  refine va_get (D := D) (ci := 6) (v := .ref q2) (C := R_Mo) (T := T_Mo) (N := 11) hx hb hts u_Mo hown hK hP 0 rfl rfl 2 (by decide) (hts _ w_841) (fun _ h9 => h9) rfl d_Mo_init_87 ?_
  refine lv_iload_n hx hb d_Mo_init_90 rfl (lv_at hl 0 rfl) ?_
  refine lv_iconst (v := nI 1) hx hb d_Mo_init_91 (by decide) ?_
  refine ln_zast hx hb hK hP hD hS 2 1 rfl rfl (by omega) (by decide) d_Mo_init_92 (fun H locs hP hD hS => ?_)
  have hP : va_P D vwC [(a, .inr (6, [.int 0, .ref q1, .ref q2, .ref q3, .ref q4, .ref q5, .ref q6, .ref q7, .ref q8, .ref q9, .int 0])), (q1, .inl (ct 0, 131072, .inl (fun _ => 0))), (q2, .inl (ct 1, 128, .inl (upd (upd (upd (upd (fun _ => 0) 0 (vp_nar .boolean (nI 1))) 1 (vp_nar .boolean (nI 1))) 2 (vp_nar .boolean (nI 1))) 3 (vp_nar .boolean (nI 1))))), (q3, .inl (ct 3, 13, .inl (fun _ => 0))), (q4, .inl (ct 3, 13, .inl (fun _ => 0))), (q5, .inl (ct 3, 13, .inl (fun _ => 0))), (q6, .inl (ct 3, 13, .inl (fun _ => 0))), (q7, .inl (ct 1, 13, .inl (fun _ => 0))), (q8, .inl (ct 3, 195, .inl (fun _ => 0))), (q9, .inl (ct 0, 780, .inl (fun _ => 0)))] H := hP
  have hD : va_D A [(a, .inr (6, [.int 0, .ref q1, .ref q2, .ref q3, .ref q4, .ref q5, .ref q6, .ref q7, .ref q8, .ref q9, .int 0])), (q1, .inl (ct 0, 131072, .inl (fun _ => 0))), (q2, .inl (ct 1, 128, .inl (upd (upd (upd (upd (fun _ => 0) 0 (vp_nar .boolean (nI 1))) 1 (vp_nar .boolean (nI 1))) 2 (vp_nar .boolean (nI 1))) 3 (vp_nar .boolean (nI 1))))), (q3, .inl (ct 3, 13, .inl (fun _ => 0))), (q4, .inl (ct 3, 13, .inl (fun _ => 0))), (q5, .inl (ct 3, 13, .inl (fun _ => 0))), (q6, .inl (ct 3, 13, .inl (fun _ => 0))), (q7, .inl (ct 1, 13, .inl (fun _ => 0))), (q8, .inl (ct 3, 195, .inl (fun _ => 0))), (q9, .inl (ct 0, 780, .inl (fun _ => 0)))] := hD
  refine lv_iinc (v := nI 4) (lv' := [(1, .int (nI 4)), (0, .ref a)]) hx hb d_Mo_init_93 hl (k := 0) rfl (by decide) (by decide) rfl (fun ls hl => ?_)
  refine lv_goto (tgt := 81) hx hb d_Mo_init_96 (by decide) ?_
  refine lv_iload_n hx hb d_Mo_init_81 rfl (lv_at hl 0 rfl) ?_
  refine lv_iconst (v := nI 4) hx hb d_Mo_init_82 (by decide) ?_
  refine ln_icmp_ge (tgt := 99) hx hb (by omega) (by omega) d_Mo_init_83 (by decide) (fun c9 => ?_) (fun c9 => absurd c9 (by omega))
  refine W.widen (k := 9) (n := 132240) (by omega) (by omega) ?_
  exact W.vret hx hb hr (fun t9 ht hW => ⟨adL [a, q1, q2, q3, q4, q5, q6, q7, q8, q9], rfl, rfl, by rw [ht]; exact hP, hD, hS.F ht⟩) hS.2.2 d_Mo_init_99
