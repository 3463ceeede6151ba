/-! DataBlocks: what is written -/
section RWA
variable {p : Program} {l : Launch} {e : Env} {R : Room} {s : State} {m : MethodId} {args : Array Value} {below : List Frame} {meth : Method} {c : Code} {H : Heap} {locs : List Loc} {cells slots : Nat} {Q : State → Prop}
variable {cc : ByteArray} {pc : Nat} {ls : Array Slot} {rest : List Value}
variable {D : va_G} {A : Nat → Prop} {ct : Nat → ClassId} {ad : Nat → Nat} {B : Nat → Int32} {g : Nat → Option Nat} {tk : Nat → Int32} {fr : Int32} {LP : List Nat} {pr : Nat → Nat → Int32} {H0 : Heap}
theorem ln_aastA (hx : p.tables.exec = Jvm.exec) (hb : c.code = cc) {cl : List vw_C} {ws : va_W} (hP : va_P D cl ws H) (hD : va_D A ws) (hS : va_S A H0 H locs) (q0 qk : Nat) {ad0 n n2 i v : Nat} {cA cV : ClassId} {t : FieldType} {f : Nat → Option Nat} {r : Nat → Int32} (ha : ws[q0]? = some (ad0, .inl (cA, n, .inr (.inr (.inr (.inr f)))))) (hv : ws[qk]? = some (v, .inl (cV, n2, .inl r))) {kA kB : Class} (k1 : s.vm.classes[cA]? = some kA) (k2 : kA.kind = .array cV t) (ht : t.isReference = true) (k3 : s.vm.classes[cV]? = some kB) (hi : i < n) (hn : n < 2 ^ 31) (hdg : decode cc pc = .ok (.aastore, 1))
    (kk : ∀ (H1 : Heap) (locs1 : List Loc), va_P D cl (ws.set q0 (ad0, .inl (cA, n, .inr (.inr (.inr (.inr (va_up f i (some v)))))))) H1 → va_D A (ws.set q0 (ad0, .inl (cA, n, .inr (.inr (.inr (.inr (va_up f i (some v)))))))) → va_S A H0 H1 locs1 → W p l e R s m args below meth c H1 locs1 cells slots Q (F0 m (pc + 1) ls rest)) : W p l e R s m args below meth c H locs cells slots Q (F0 m pc ls (.ref v :: .int (nI i) :: .ref ad0 :: rest)) := by
  have hcl : (nI i).toNatClampNeg = i := nI_clamp (by omega)
  refine W.aast hx hb (hP q0 _ ha) (fun q h => by cases h) (fun h => by cases h) k1 k2 ht k3 ⟨nI_pos (by omega), by show _ < (arrV _ _ _).slots.size; rw [arrV_size, hcl]; exact hi⟩ (hP qk _ hv) (fun q h => by cases h) k3 (by show Vm.assignableAux _ (255 + 1) _ _ = true; rw [Vm.assignableAux, Bool.or_eq_true]; exact Or.inl (beq_iff_eq.mpr rfl)) rfl rfl hdg fun H1 e z oq => ?_
  refine kk H1 _ (hP.set hD ha ?_ oq) (hD.set ha) (hS.put z oq (hD.2 q0 _ ha))
  show H1[ad0]? = some (vp_cell _ _)
  rw [e, hcl]
  rw [vp_cell_q, vp_cell_q, arrV_store]
  congr 2
  funext j
  by_cases hj : j = i
  · subst hj
    simp [updV, va_up, va_rf]
  · simp [updV, va_up, hj]
theorem ln_aastC (hx : p.tables.exec = Jvm.exec) (hb : c.code = cc) (hR : rA ct s) (hP : va_P D vwC (wsC ct ad B g tk fr LP pr) H) (hD : va_D A (wsC ct ad B g tk fr LP pr)) (hS : va_S A H0 H locs) {i q : Nat} (hi : i < 128) (hq : q ∈ LP) (hdg : decode cc pc = .ok (.aastore, 1))
    (kk : ∀ (H1 : Heap) (locs1 : List Loc), va_P D vwC (wsC ct ad B (va_up g i (some q)) tk fr LP pr) H1 → va_D A (wsC ct ad B (va_up g i (some q)) tk fr LP pr) → va_S A H0 H1 locs1 → W p l e R s m args below meth c H1 locs1 cells slots Q (F0 m (pc + 1) ls rest)) : W p l e R s m args below meth c H locs cells slots Q (F0 m pc ls (.ref q :: .int (nI i) :: .ref (ad 7) :: rest)) := by
  obtain ⟨kA, kB, k1, k2, k3⟩ := hR
  obtain ⟨k9, hk9⟩ := wsC_row (ct := ct) (ad := ad) (B := B) (g := g) (tk := tk) (fr := fr) (pr := pr) hq
  exact ln_aastA hx hb hP hD hS 7 k9 (show (wsC ct ad B g tk fr LP pr)[7]? = some (ad 7, .inl (ct 2, 128, .inr (.inr (.inr (.inr g))))) from rfl) hk9 k1 k2 rfl k3 hi (by decide) hdg kk
theorem ln_newa8 (hx : p.tables.exec = Jvm.exec) (hb : c.code = cc) {ws : va_W} {tys : List (ClassId × FieldType)} {N : Nat} (hN : N < 2 ^ 28) (harr : (Cond.arrayClass .byte).before args s = true) (hK : va_K D vwC tys s) (hP : va_P D vwC ws H) (hD : va_D A ws) (hS : va_S A s.heap H locs) (hA : ∀ q : Nat, s.heap.size ≤ q → A q)
    (hcells : cells + 1 ≤ R.cells) (hslots : slots + N ≤ R.slots) (hdg : decode cc pc = .ok (.newarray .byte, 2))
    (kk : ∀ (q : Nat) (cA : ClassId) (H1 : Heap), va_K D vwC (tys ++ [(cA, .byte)]) s → va_P D vwC (ws ++ [(q, .inl (cA, N, .inl (fun _ => 0)))]) H1 → va_D A (ws ++ [(q, .inl (cA, N, .inl (fun _ => 0)))]) → va_S A s.heap H1 locs → W p l e R s m args below meth c H1 locs (cells + 1) (slots + N) Q (F0 m (pc + 2) ls (.ref q :: rest))) : W p l e R s m args below meth c H locs cells slots Q (F0 m pc ls (.int (nI N) :: rest)) :=
  va_newa (atype := .byte) (a0 := (N, .inl (fun _ => 0))) (ty := .byte) hx hb harr rfl hK hP hD hS hA (fun cA => vp_cell_i cA N (fun _ => 0)) (nI_pos (by omega)) (nI_clamp (by omega)) (show N * 1 ≤ 536870912 by omega) hcells hslots hdg kk
theorem ln_newb (hx : p.tables.exec = Jvm.exec) (hb : c.code = cc) (harr : (Cond.arrayClass .byte).before args s = true) (hK : va_K D vwC (tyC ct) s) (hP : va_P D vwC (wsC ct ad B g tk fr LP pr) H) (hD : va_D A (wsC ct ad B g tk fr LP pr)) (hS : va_S A s.heap H locs) (hA : ∀ q : Nat, s.heap.size ≤ q → A q)
    (hcells : cells + 1 ≤ R.cells) (hslots : slots + 1024 ≤ R.slots) (hdg : decode cc pc = .ok (.newarray .byte, 2))
    (kk : ∀ (q : Nat) (H1 : Heap), q ∉ LP → va_P D vwC (wsC ct ad B g tk fr (LP ++ [q]) (va_up pr q (fun _ => 0))) H1 → va_D A (wsC ct ad B g tk fr (LP ++ [q]) (va_up pr q (fun _ => 0))) → va_S A s.heap H1 locs → W p l e R s m args below meth c H1 locs (cells + 1) (slots + 1024) Q (F0 m (pc + 2) ls (.ref q :: rest))) : W p l e R s m args below meth c H locs cells slots Q (F0 m pc ls (.int (nI 1024) :: rest)) := by
  refine ln_newa8 hx hb (by decide) harr hK hP hD hS hA hcells hslots hdg (fun q cA H1 hK1 hP1 hD1 hS1 => ?_)
  have e1 : s.vm.findClass ("[" ++ FieldType.toString .byte) = some cA := (hK1.2 3 (cA, .byte) rfl).2
  have e2 : s.vm.findClass ("[" ++ FieldType.toString .byte) = some (ct 0) := (hK.2 0 (ct 0, .byte) rfl).2
  obtain rfl : cA = ct 0 := Option.some.inj (e1.symm.trans e2)
  have hq : q ∉ LP := va_pl_fresh2 hD1
  have e3 : wsC ct ad B g tk fr LP pr ++ [(q, .inl (ct 0, 1024, .inl (fun _ => 0)))] = wsC ct ad B g tk fr (LP ++ [q]) (va_up pr q (fun _ => 0)) := by
    unfold wsC
    rw [List.append_assoc, va_pl_push hq]
    congr 2
    funext a
    by_cases h : a = q
    · subst h; simp [va_up]
    · simp [va_up, h]
  rw [e3] at hP1 hD1
  exact kk q H1 hq hP1 hD1 hS1
end RWA
theorem db_lf_lt {tk : Nat → Int32} : ∀ (k b : Nat), k ≤ 128 - b → db_lf tk k b < 128
  | 0, _, _ => by rw [db_lf]; decide
  | k + 1, b, h => by
    rw [db_lf]
    by_cases q : tk b = 0
    · rw [if_pos q]; omega
    · rw [if_neg q]; exact db_lf_lt k (b + 1) (by omega)
/-- the block that is taken for a goal; 0 for none -/
def dx_tb (tk : Nat → Int32) (a : Int) : Nat := if db_lf tk (128 - (max a 4).toNat) (max a 4).toNat = 0 then db_lf tk 124 4 else db_lf tk (128 - (max a 4).toNat) (max a 4).toNat
def dx_tk (tk : Nat → Int32) (b : Nat) : Nat → Int32 := if b = 0 then tk else upd tk b (vp_nar .boolean (nI 1))
def dx_tf (fr : Int32) (b : Nat) : Int32 := if b = 0 then fr else fr - nI 1
def dx_tx (X : Nat → Option (Nat → Int32)) (b : Nat) : Nat → Option (Nat → Int32) := if b = 0 then X else va_up X b (some (fun _ => 0))
theorem m_Db_setByte : mV R_Db y_Db_setByte (Cond.code y_Db_setByte c_Db_setByte 4 none) 3 := ⟨⟨w_376, w_377, w_3, w_378⟩, by decide +kernel⟩
set_option maxHeartbeats 4000000 in
set_option maxRecDepth 100000 in
theorem k_Db_setByte (l : Launch) {D : va_G} {ct : Nat → ClassId} {ad : Nat → Nat} {B : Nat → Int32} {tk : Nat → Int32} {fr : Int32} {X : Nat → Option (Nat → Int32)} {A : Nat → Prop} {b : Int} {x_b : Int32} (hx_b : x_b.toInt = b) {i : Nat} {v : Int32} (h0 : i < 1024) : Met l y_Db_setByte (Cond.code y_Db_setByte c_Db_setByte 4 none :: wA) (rmk 2 0 0) (va_Pc [.ref (ad 1), .int x_b, .int (nI i), .int v] (cS A D ct ad B tk fr X)) (xQ none A D ct ad B tk fr (dx_put X b i v)) 0 0 A := by
  refine Met.ofW (cc := c_Db_setByte) (maxL := 4) (ret := none) (by decide +kernel) rfl ?_
  intro p e s m args below meth c s₁ B0 hml hv
  obtain ⟨rfl, hA, hE, hK, g, LP, pr, hrx, hP, hD⟩ := hv
  have hS : va_S A s.heap s.heap [] := va_S.rf
  have hx := B0.exec
  have hb := B0.bytes
  have hr := B0.returns
  have hts := fun w (h : w ∈ wA) => atoms_spec (ws := Cond.code y_Db_setByte c_Db_setByte 4 none :: wA) B0.pre w (List.mem_cons_of_mem _ h)
  have hown : s.vm.findClass R_Db = some m.cls := findClass_of_methodNamed B0.named
  have hlocks := B0.notSynchronized
  have hl := lv_entry ([.ref (ad 1), .int x_b, .int (nI i), .int v]) (n := 4) (Nat.le_of_ble_eq_true rfl)
  rw [lg_entry_eq]
  generalize (lg_sl ([.ref (ad 1), .int x_b, .int (nI i), .int v]) ++ List.replicate (4 - (lg_sl ([.ref (ad 1), .int x_b, .int (nI i), .int v])).length) Slot.unset).toArray = ls at hl ⊢
  have hl : lv_has ls 4 [(0, .ref (ad 1)), (1, .int x_b), (2, .int (nI i)), (3, .int v)] := hl
  have hf_b := z_lt x_b
  have hg_b := z_ge x_b
  rw [hx_b] at hf_b hg_b
  refine lv_aload_n hx hb d_Db_setByte_0 rfl (lv_at hl 0 rfl) ?_
  refine lv_iload_n hx hb d_Db_setByte_1 rfl (lv_at hl 1 rfl) ?_
  refine lv_iload_n hx hb d_Db_setByte_2 rfl (lv_at hl 2 rfl) ?_
  refine lv_iload_n hx hb d_Db_setByte_3 rfl (lv_at hl 2 rfl) ?_
  refine lv_iconst (v := nI 1) hx hb d_Db_setByte_4 (by decide) ?_
  refine ln_iadd hx hb d_Db_setByte_5 ?_
  refine rdV ⟨hx, hb, hml, hown, hts⟩ hK hP (k_Db_hasSpan l (b := b) (x_b := x_b) (u := ((i : Nat) : Int)) (x_u := (nI i)) (v := ((i + 1 : Nat) : Int)) (x_v := (nI (i + 1))) hx_b (nI_toInt (by omega)) (nI_toInt (by omega)) ) w_379 m_Db_hasSpan ⟨by decide, by decide⟩ 1 rfl rfl rfl hl.1 rfl (Nat.le_of_ble_eq_true rfl) d_Db_setByte_6 ⟨Nat.zero_le _, Nat.zero_le _⟩ ?_
  refine lb_if_eq (tgt := 22) hx hb d_Db_setByte_9 (by decide) (fun c_1 => ?_) (fun c_1 => ?_)
  · skip
    have hC9 : cX A D ct ad B tk fr X s.heap := ⟨g, LP, pr, hrx, hP, hD⟩
    have e9 : cX A D ct ad B tk fr X = cX A D ct ad B tk fr (dx_put X b i v) := (by first | exact (by unfold dx_put; rw [if_neg (by omega), Int.toNat_natCast, hX]) | exact (by congr 1; unfold dx_put; rcases Decidable.em (b < 0 ∨ 128 ≤ b) with q | q; rw [if_pos q]; rw [if_neg q, rX_none hrx (by omega) (fun w => c_1 ⟨by omega, by omega, w, by omega, by omega, by omega⟩)]))
    rw [e9] at hC9
    exact W.vret hx hb hr (fun t9 ht hW => ⟨rfl, by rw [ht]; exact hC9, hS.F ht⟩) hS.2.2 d_Db_setByte_22
  · skip
    obtain ⟨p1, p2, p3, p4, p5, p6⟩ := c_1
    obtain ⟨k, rfl⟩ := Int.eq_ofNat_of_zero_le p1
    obtain rfl : x_b = nI k := z_i hx_b (by omega)
    rw [Int.toNat_natCast] at p3
    obtain ⟨y, r0, hy, hyL, hX, hpr⟩ := rX_some hrx (show k < 128 by omega) p3
    obtain ⟨k9, hk9⟩ := wsC_row (ct := ct) (ad := ad) (B := B) (g := g) (tk := tk) (fr := fr) (pr := pr) hyL
    refine lv_aload_n hx hb d_Db_setByte_12 rfl (lv_at hl 0 rfl) ?_
    refine va_get (D := D) (ci := 1) (v := .ref (ad 7)) (C := R_Db) (T := T_Db) (N := 3) hx hb hts u_Db hown hK hP 1 rfl rfl 0 (by decide) (hts _ w_53) (fun _ h9 => h9) rfl d_Db_setByte_13 ?_
    refine lv_iload_n hx hb d_Db_setByte_16 rfl (lv_at hl 1 rfl) ?_
    refine ln_aald hx hb hK hP 7 2 rfl rfl (by omega) (by decide) d_Db_setByte_17 ?_
    refine W.eq (g2 := F0 m 18 ls [.ref y]) (by rw [hy]; rfl) ?_
    refine lv_iload_n hx hb d_Db_setByte_18 rfl (lv_at hl 2 rfl) ?_
    refine lv_iload_n hx hb d_Db_setByte_19 rfl (lv_at hl 3 rfl) ?_
    refine lv_i2b hx hb d_Db_setByte_20 rfl ?_
    refine ln_bast hx hb hK hP hD hS k9 0 hk9 rfl (by omega) (by decide) d_Db_setByte_21 (fun H locs hP8 hD8 hS => ?_)
    rw [wsC_set hD hyL hk9] at hP8 hD8
    have hP : va_P D vwC (wsC ct ad B g tk fr LP (va_up pr y (upd (pr y) i (vp_nar .byte v.toInt8.toInt32)))) H := hP8
    have hD : va_D A (wsC ct ad B g tk fr LP (va_up pr y (upd (pr y) i (vp_nar .byte v.toInt8.toInt32)))) := hD8
    have hrx : rX g LP (va_up pr y (upd (pr y) i (vp_nar .byte v.toInt8.toInt32))) (va_up X k (some (upd r0 i (vp_nar .byte v.toInt8.toInt32)))) := rX_put hrx (by omega) hy (upd_agree hpr)
    have hC9 : cX A D ct ad B tk fr (va_up X k (some (upd r0 i (vp_nar .byte v.toInt8.toInt32)))) H := ⟨g, LP, (va_up pr y (upd (pr y) i (vp_nar .byte v.toInt8.toInt32))), hrx, hP, hD⟩
    have e9 : cX A D ct ad B tk fr (va_up X k (some (upd r0 i (vp_nar .byte v.toInt8.toInt32)))) = cX A D ct ad B tk fr (dx_put X ((k : Nat) : Int) i v) := (by first | exact (by unfold dx_put; rw [if_neg (by omega), Int.toNat_natCast, hX]) | exact (by congr 1; unfold dx_put; rcases Decidable.em (b < 0 ∨ 128 ≤ b) with q | q; rw [if_pos q]; rw [if_neg q, rX_none hrx (by omega) (fun w => c_1 ⟨by omega, by omega, w, by omega, by omega, by omega⟩)]))
    rw [e9] at hC9
    exact W.vret hx hb hr (fun t9 ht hW => ⟨rfl, by rw [ht]; exact hC9, hS.F ht⟩) hS.2.2 d_Db_setByte_22
theorem m_Db_clear : mV R_Db y_Db_clear (Cond.code y_Db_clear c_Db_clear 4 none) 3 := ⟨⟨w_499, w_500, w_3, w_501⟩, by decide +kernel⟩
set_option maxHeartbeats 4000000 in
set_option maxRecDepth 100000 in
theorem k_Db_clear (l : Launch) {D : va_G} {ct : Nat → ClassId} {ad : Nat → Nat} {B : Nat → Int32} {tk : Nat → Int32} {fr : Int32} {X : Nat → Option (Nat → Int32)} {A : Nat → Prop} {b : Int} {x_b : Int32} (hx_b : x_b.toInt = b) {u : Nat} {v : Nat} (h0 : u ≤ v) (h1 : v ≤ 1024) : Met l y_Db_clear (Cond.code y_Db_clear c_Db_clear 4 none :: wA) (rmk 3 0 0) (va_Pc [.ref (ad 1), .int x_b, .int (nI u), .int (nI v)] (cS A D ct ad B tk fr X)) (xQ none A D ct ad B tk fr (dx_clr X b u v)) 0 0 A := by
  refine Met.ofW (cc := c_Db_clear) (maxL := 4) (ret := none) (by decide +kernel) rfl ?_
  intro p e s m args below meth c s₁ B0 hml hv
  obtain ⟨rfl, hA, hE, hK, g, LP, pr, hrx, hP, hD⟩ := hv
  have hS : va_S A s.heap s.heap [] := va_S.rf
  have hx := B0.exec
  have hb := B0.bytes
  have hr := B0.returns
  have hts := fun w (h : w ∈ wA) => atoms_spec (ws := Cond.code y_Db_clear c_Db_clear 4 none :: wA) B0.pre w (List.mem_cons_of_mem _ h)
  have hown : s.vm.findClass R_Db = some m.cls := findClass_of_methodNamed B0.named
  have hlocks := B0.notSynchronized
  have hl := lv_entry ([.ref (ad 1), .int x_b, .int (nI u), .int (nI v)]) (n := 4) (Nat.le_of_ble_eq_true rfl)
  rw [lg_entry_eq]
  generalize (lg_sl ([.ref (ad 1), .int x_b, .int (nI u), .int (nI v)]) ++ List.replicate (4 - (lg_sl ([.ref (ad 1), .int x_b, .int (nI u), .int (nI v)])).length) Slot.unset).toArray = ls at hl ⊢
  have hl : lv_has ls 4 [(0, .ref (ad 1)), (1, .int x_b), (2, .int (nI u)), (3, .int (nI v))] := hl
  have hf_b := z_lt x_b
  have hg_b := z_ge x_b
  rw [hx_b] at hf_b hg_b
  refine lv_aload_n hx hb d_Db_clear_0 rfl (lv_at hl 0 rfl) ?_
  refine lv_iload_n hx hb d_Db_clear_1 rfl (lv_at hl 1 rfl) ?_
  refine lv_iload_n hx hb d_Db_clear_2 rfl (lv_at hl 2 rfl) ?_
  refine lv_iload_n hx hb d_Db_clear_3 rfl (lv_at hl 3 rfl) ?_
  refine rdV ⟨hx, hb, hml, hown, hts⟩ hK hP (k_Db_hasSpan l (b := b) (x_b := x_b) (u := ((u : Nat) : Int)) (x_u := (nI u)) (v := ((v : Nat) : Int)) (x_v := (nI v)) hx_b (nI_toInt (by omega)) (nI_toInt (by omega)) ) w_379 m_Db_hasSpan ⟨by decide, by decide⟩ 1 rfl rfl rfl hl.1 rfl (Nat.le_of_ble_eq_true rfl) d_Db_clear_4 ⟨Nat.zero_le _, Nat.zero_le _⟩ ?_
  refine lb_if_eq (tgt := 22) hx hb d_Db_clear_7 (by decide) (fun c_1 => ?_) (fun c_1 => ?_)
  · skip
    have hC9 : cX A D ct ad B tk fr X s.heap := ⟨g, LP, pr, hrx, hP, hD⟩
    have e9 : cX A D ct ad B tk fr X = cX A D ct ad B tk fr (dx_clr X b u v) := (by first | exact (by unfold dx_clr; rw [if_neg (by omega), Int.toNat_natCast, hX]) | exact (by congr 1; unfold dx_clr; rcases Decidable.em (b < 0 ∨ 128 ≤ b) with q | q; rw [if_pos q]; rw [if_neg q, rX_none hrx (by omega) (fun w => c_1 ⟨by omega, by omega, w, by omega, by omega, by omega⟩)]))
    rw [e9] at hC9
    exact W.vret hx hb hr (fun t9 ht hW => ⟨rfl, by rw [ht]; exact hC9, hS.F ht⟩) hS.2.2 d_Db_clear_22
  · skip
    obtain ⟨p1, p2, p3, p4, p5, p6⟩ := c_1
    obtain ⟨k, rfl⟩ := Int.eq_ofNat_of_zero_le p1
    obtain rfl : x_b = nI k := z_i hx_b (by omega)
    rw [Int.toNat_natCast] at p3
    obtain ⟨y, r0, hy, hyL, hX, hpr⟩ := rX_some hrx (show k < 128 by omega) p3
    obtain ⟨k9, hk9⟩ := wsC_row (ct := ct) (ad := ad) (B := B) (g := g) (tk := tk) (fr := fr) (pr := pr) hyL
    refine lv_aload_n hx hb d_Db_clear_10 rfl (lv_at hl 0 rfl) ?_
    refine va_get (D := D) (ci := 1) (v := .ref (ad 7)) (C := R_Db) (T := T_Db) (N := 3) hx hb hts u_Db hown hK hP 1 rfl rfl 0 (by decide) (hts _ w_53) (fun _ h9 => h9) rfl d_Db_clear_11 ?_
    refine lv_iload_n hx hb d_Db_clear_14 rfl (lv_at hl 1 rfl) ?_
    refine ln_aald hx hb hK hP 7 2 rfl rfl (by omega) (by decide) d_Db_clear_15 ?_
    refine W.eq (g2 := F0 m 16 ls [.ref y]) (by rw [hy]; rfl) ?_
    refine lv_iload_n hx hb d_Db_clear_16 rfl (lv_at hl 2 rfl) ?_
    refine lv_iload_n hx hb d_Db_clear_17 rfl (lv_at hl 3 rfl) ?_
    refine lv_iconst (v := nI 0) hx hb d_Db_clear_18 (by decide) ?_
    refine wrS ⟨hx, hb, hml, hown, hts⟩ hK hP hD hS hA (k_Ar_fill4 l (y := y) (u := u) (v := v) (x := (nI 0)) hyL (by omega) (by omega)) w_502 m_Ar_fill4 ⟨by decide, by decide⟩ rfl hl.1 rfl (Nat.le_of_ble_eq_true rfl) d_Db_clear_19 ⟨Nat.zero_le _, Nat.zero_le _⟩ (fun H locs hP hD hS => ?_)
    have hP : va_P D vwC (wsC ct ad B g tk fr LP (va_up pr y (row_fill (nI 0) (pr y) u (v - u)))) H := hP
    have hD : va_D A (wsC ct ad B g tk fr LP (va_up pr y (row_fill (nI 0) (pr y) u (v - u)))) := hD
    refine W.eq (g2 := F0 m 22 ls []) rfl ?_
    have hrx : rX g LP (va_up pr y (row_fill (nI 0) (pr y) u (v - u))) (va_up X k (some (row_fill (nI 0) r0 u (v - u)))) := rX_put hrx (by omega) hy (row_fill_agree (nI 0) (v - u) u _ _ hpr)
    have hC9 : cX A D ct ad B tk fr (va_up X k (some (row_fill (nI 0) r0 u (v - u)))) H := ⟨g, LP, (va_up pr y (row_fill (nI 0) (pr y) u (v - u))), hrx, hP, hD⟩
    have e9 : cX A D ct ad B tk fr (va_up X k (some (row_fill (nI 0) r0 u (v - u)))) = cX A D ct ad B tk fr (dx_clr X ((k : Nat) : Int) u v) := (by first | exact (by unfold dx_clr; rw [if_neg (by omega), Int.toNat_natCast, hX]) | exact (by congr 1; unfold dx_clr; rcases Decidable.em (b < 0 ∨ 128 ≤ b) with q | q; rw [if_pos q]; rw [if_neg q, rX_none hrx (by omega) (fun w => c_1 ⟨by omega, by omega, w, by omega, by omega, by omega⟩)]))
    rw [e9] at hC9
    exact W.vret hx hb hr (fun t9 ht hW => ⟨rfl, by rw [ht]; exact hC9, hS.F ht⟩) hS.2.2 d_Db_clear_22
theorem m_Db_setPattern : mV R_Db y_Db_setPattern (Cond.code y_Db_setPattern c_Db_setPattern 8 none) 4 := ⟨⟨w_441, w_442, w_3, w_443⟩, by decide +kernel⟩
set_option maxHeartbeats 4000000 in
set_option maxRecDepth 100000 in
theorem k_Db_setPattern (l : Launch) {D : va_G} {ct : Nat → ClassId} {ad : Nat → Nat} {B : Nat → Int32} {tk : Nat → Int32} {fr : Int32} {X : Nat → Option (Nat → Int32)} {A : Nat → Prop} {b : Int} {x_b : Int32} (hx_b : x_b.toInt = b) {u : Nat} {v : Nat} {x : Int32} (h0 : u ≤ v) (h1 : v ≤ 1024) : Met l y_Db_setPattern (Cond.code y_Db_setPattern c_Db_setPattern 8 none :: wA) (rmk 2 0 0) (va_Pc [.ref (ad 1), .int x_b, .int (nI u), .int (nI v), .int x] (cS A D ct ad B tk fr X)) (xQ none A D ct ad B tk fr (dx_pat X b u v x)) 0 0 A := by
  refine Met.ofW (cc := c_Db_setPattern) (maxL := 8) (ret := none) (by decide +kernel) rfl ?_
  intro p e s m args below meth c s₁ B0 hml hv
  obtain ⟨rfl, hA, hE, hK, g, LP, pr, hrx, hP, hD⟩ := hv
  have hS : va_S A s.heap s.heap [] := va_S.rf
  have hx := B0.exec
  have hb := B0.bytes
  have hr := B0.returns
  have hts := fun w (h : w ∈ wA) => atoms_spec (ws := Cond.code y_Db_setPattern c_Db_setPattern 8 none :: wA) B0.pre w (List.mem_cons_of_mem _ h)
  have hown : s.vm.findClass R_Db = some m.cls := findClass_of_methodNamed B0.named
  have hlocks := B0.notSynchronized
  have hl := lv_entry ([.ref (ad 1), .int x_b, .int (nI u), .int (nI v), .int x]) (n := 8) (Nat.le_of_ble_eq_true rfl)
  rw [lg_entry_eq]
  generalize (lg_sl ([.ref (ad 1), .int x_b, .int (nI u), .int (nI v), .int x]) ++ List.replicate (8 - (lg_sl ([.ref (ad 1), .int x_b, .int (nI u), .int (nI v), .int x])).length) Slot.unset).toArray = ls at hl ⊢
  have hl : lv_has ls 8 [(0, .ref (ad 1)), (1, .int x_b), (2, .int (nI u)), (3, .int (nI v)), (4, .int x)] := hl
  have hf_b := z_lt x_b
  have hg_b := z_ge x_b
  rw [hx_b] at hf_b hg_b
  refine lv_aload_n hx hb d_Db_setPattern_0 rfl (lv_at hl 0 rfl) ?_
  refine lv_iload_n hx hb d_Db_setPattern_1 rfl (lv_at hl 1 rfl) ?_
  refine lv_iload_n hx hb d_Db_setPattern_2 rfl (lv_at hl 2 rfl) ?_
  refine lv_iload_n hx hb d_Db_setPattern_3 rfl (lv_at hl 3 rfl) ?_
  refine rdV ⟨hx, hb, hml, hown, hts⟩ hK hP (k_Db_hasSpan l (b := b) (x_b := x_b) (u := ((u : Nat) : Int)) (x_u := (nI u)) (v := ((v : Nat) : Int)) (x_v := (nI v)) hx_b (nI_toInt (by omega)) (nI_toInt (by omega)) ) w_379 m_Db_hasSpan ⟨by decide, by decide⟩ 1 rfl rfl rfl hl.1 rfl (Nat.le_of_ble_eq_true rfl) d_Db_setPattern_4 ⟨Nat.zero_le _, Nat.zero_le _⟩ ?_
  refine lb_if_ne (tgt := 11) hx hb d_Db_setPattern_7 (by decide) (fun c_1 => ?_) (fun c_1 => ?_)
  · skip
    obtain ⟨p1, p2, p3, p4, p5, p6⟩ := c_1
    obtain ⟨k, rfl⟩ := Int.eq_ofNat_of_zero_le p1
    obtain rfl : x_b = nI k := z_i hx_b (by omega)
    rw [Int.toNat_natCast] at p3
    obtain ⟨y, r0, hy, hyL, hX, hpr⟩ := rX_some hrx (show k < 128 by omega) p3
    obtain ⟨k9, hk9⟩ := wsC_row (ct := ct) (ad := ad) (B := B) (g := g) (tk := tk) (fr := fr) (pr := pr) hyL
    refine lv_aload_n hx hb d_Db_setPattern_11 rfl (lv_at hl 0 rfl) ?_
    refine va_get (D := D) (ci := 1) (v := .ref (ad 7)) (C := R_Db) (T := T_Db) (N := 3) hx hb hts u_Db hown hK hP 1 rfl rfl 0 (by decide) (hts _ w_53) (fun _ h9 => h9) rfl d_Db_setPattern_12 ?_
    refine lv_iload_n hx hb d_Db_setPattern_15 rfl (lv_at hl 1 rfl) ?_
    refine ln_aald hx hb hK hP 7 2 rfl rfl (by omega) (by decide) d_Db_setPattern_16 ?_
    refine W.eq (g2 := F0 m 17 ls [.ref y]) (by rw [hy]; rfl) ?_
    refine lv_astore (lv' := [(5, .ref y), (0, .ref (ad 1)), (1, .int (nI k)), (2, .int (nI u)), (3, .int (nI v)), (4, .int x)]) hx hb d_Db_setPattern_17 hl (by decide) rfl (fun ls hl => ?_)
    refine lv_iload hx hb d_Db_setPattern_19 (lv_at hl 5 rfl) ?_
    refine lv_istore (lv' := [(6, .int x), (5, .ref y), (0, .ref (ad 1)), (1, .int (nI k)), (2, .int (nI u)), (3, .int (nI v)), (4, .int x)]) hx hb d_Db_setPattern_21 hl (by decide) rfl (fun ls hl => ?_)
    refine lv_iload_n hx hb d_Db_setPattern_23 rfl (lv_at hl 4 rfl) ?_
    refine lv_istore (lv' := [(7, .int (nI u)), (6, .int x), (5, .ref y), (0, .ref (ad 1)), (1, .int (nI k)), (2, .int (nI u)), (3, .int (nI v)), (4, .int x)]) hx hb d_Db_setPattern_24 hl (by decide) rfl (fun ls hl => ?_)
    have loop26 : ∀ (n9 : Nat) (i : Nat) (r : Nat → Int32) (z : Int32), v - i < n9 → i ≤ v → row_pat (pr y) u (v - u) x = row_pat r i (v - i) z → ∀ (H : Heap) (locs : List Loc), va_P D vwC (wsC ct ad B g tk fr LP (va_up pr y r)) H → va_D A (wsC ct ad B g tk fr LP (va_up pr y r)) → va_S A s.heap H locs → ∀ ls : Array Slot, lv_has ls 8 [(0, .ref (ad 1)), (1, .int (nI k)), (2, .int (nI u)), (3, .int (nI v)), (4, .int x), (5, .ref y), (6, .int z), (7, .int (nI i))] → W p l e (headSpec (Cond.code y_Db_setPattern c_Db_setPattern 8 none :: wA) (rmk 2 0 0)).room s m ([.ref (ad 1), .int (nI k), .int (nI u), .int (nI v), .int x] : List Value).toArray below meth c H locs 0 0 (MQ below (xQ none A D ct ad B tk fr (dx_pat X ((k : Nat) : Int) u v x)) ([.ref (ad 1), .int (nI k), .int (nI u), .int (nI v), .int x] : List Value).toArray s 0 0 A) (F0 m 26 ls []) := by
      intro n9
      induction n9 with
      | zero => intro i r z h8 h9 h10 H locs hP hD hS ls hl; exact absurd h8 (by omega)
      | succ n9 ih =>
        intro i r z h8 h9 h10 H locs hP hD hS ls hl
        refine lv_iload hx hb d_Db_setPattern_26 (lv_at hl 7 rfl) ?_
        refine lv_iload_n hx hb d_Db_setPattern_28 rfl (lv_at hl 3 rfl) ?_
        refine ln_icmp_ge (tgt := 49) hx hb (by omega) (by omega) d_Db_setPattern_29 (by decide) (fun c_2 => ?_) (fun c_2 => ?_)
        · skip
          have hrx : rX g LP (va_up pr y r) (va_up X k (some (row_pat r0 u (v - u) x))) := rX_put hrx (by omega) hy (fun j hj => by rw [← row_pat_agree (v - u) u x _ _ hpr j hj, h10, show v - i = 0 by omega]; rfl)
          have hC9 : cX A D ct ad B tk fr (va_up X k (some (row_pat r0 u (v - u) x))) H := ⟨g, LP, (va_up pr y r), hrx, hP, hD⟩
          have e9 : cX A D ct ad B tk fr (va_up X k (some (row_pat r0 u (v - u) x))) = cX A D ct ad B tk fr (dx_pat X ((k : Nat) : Int) u v x) := (by first | exact (by unfold dx_pat; rw [if_neg (by omega), Int.toNat_natCast, hX]) | exact (by congr 1; unfold dx_pat; rcases Decidable.em (b < 0 ∨ 128 ≤ b) with q | q; rw [if_pos q]; rw [if_neg q, rX_none hrx (by omega) (fun w => c_1 ⟨by omega, by omega, w, by omega, by omega, by omega⟩)]))
          rw [e9] at hC9
          exact W.vret hx hb hr (fun t9 ht hW => ⟨rfl, by rw [ht]; exact hC9, hS.F ht⟩) hS.2.2 d_Db_setPattern_49
        · skip
          obtain ⟨k9, hk9⟩ := wsC_row2 (ct := ct) (ad := ad) (B := B) (g := g) (tk := tk) (fr := fr) (pr := pr) (r := r) hyL
          refine lv_aload hx hb d_Db_setPattern_32 (lv_at hl 5 rfl) ?_
          refine lv_iload hx hb d_Db_setPattern_34 (lv_at hl 7 rfl) ?_
          refine lv_iload hx hb d_Db_setPattern_36 (lv_at hl 6 rfl) ?_
          refine lv_i2b hx hb d_Db_setPattern_38 rfl ?_
          refine ln_bast hx hb hK hP hD hS k9 0 hk9 rfl (by omega) (by decide) d_Db_setPattern_39 (fun H locs hP8 hD8 hS => ?_)
          rw [wsC_set2 hD hyL hk9] at hP8 hD8
          have hP : va_P D vwC (wsC ct ad B g tk fr LP (va_up pr y (upd r i (vp_nar .byte z.toInt8.toInt32)))) H := hP8
          have hD : va_D A (wsC ct ad B g tk fr LP (va_up pr y (upd r i (vp_nar .byte z.toInt8.toInt32)))) := hD8
          refine lv_iinc (v := z + Int32.ofInt 7) (lv' := [(6, .int (z + Int32.ofInt 7)), (0, .ref (ad 1)), (1, .int (nI k)), (2, .int (nI u)), (3, .int (nI v)), (4, .int x), (5, .ref y), (7, .int (nI i))]) hx hb d_Db_setPattern_40 hl (k := 6) rfl (rfl) (by decide) rfl (fun ls hl => ?_)
          refine lv_iinc (v := nI (i + 1)) (lv' := [(7, .int (nI (i + 1))), (6, .int (z + Int32.ofInt 7)), (0, .ref (ad 1)), (1, .int (nI k)), (2, .int (nI u)), (3, .int (nI v)), (4, .int x), (5, .ref y)]) hx hb d_Db_setPattern_43 hl (k := 7) rfl (ln_inc (by decide)) (by decide) rfl (fun ls hl => ?_)
          refine lv_goto (tgt := 26) hx hb d_Db_setPattern_46 (by decide) ?_
          exact ih (i + 1) (upd r i (vp_nar .byte (z.toInt8.toInt32))) (z + Int32.ofInt 7) (by omega) (by omega) (by rw [h10, show v - i = v - (i + 1) + 1 by omega, row_pat]) _ _ hP hD hS ls (lv_sub hl [2, 3, 4, 5, 6, 7, 1, 0] rfl)
    have hP : va_P D vwC (wsC ct ad B g tk fr LP (va_up pr y (pr y))) s.heap := by rw [va_up_eta]; exact hP
    have hD : va_D A (wsC ct ad B g tk fr LP (va_up pr y (pr y))) := by rw [va_up_eta]; exact hD
    exact loop26 (v - u + 1) u (pr y) x (by omega) (by omega) rfl _ _ hP hD hS ls (lv_sub hl [3, 4, 5, 6, 7, 2, 1, 0] rfl)
  · skip
    have hC9 : cX A D ct ad B tk fr X s.heap := ⟨g, LP, pr, hrx, hP, hD⟩
    have e9 : cX A D ct ad B tk fr X = cX A D ct ad B tk fr (dx_pat X b u v x) := (by first | exact (by unfold dx_pat; rw [if_neg (by omega), Int.toNat_natCast, hX]) | exact (by congr 1; unfold dx_pat; rcases Decidable.em (b < 0 ∨ 128 ≤ b) with q | q; rw [if_pos q]; rw [if_neg q, rX_none hrx (by omega) (fun w => c_1 ⟨by omega, by omega, w, by omega, by omega, by omega⟩)]))
    rw [e9] at hC9
    exact W.vret hx hb hr (fun t9 ht hW => ⟨rfl, by rw [ht]; exact hC9, hS.F ht⟩) hS.2.2 d_Db_setPattern_10
theorem m_Db_take : mV R_Db y_Db_take (Cond.code y_Db_take c_Db_take 3 (some .int)) 1 := ⟨⟨w_358, w_359, w_3, w_360⟩, by decide +kernel⟩
set_option maxHeartbeats 4000000 in
set_option maxRecDepth 100000 in
theorem k_Db_take (l : Launch) {D : va_G} {ct : Nat → ClassId} {ad : Nat → Nat} {B : Nat → Int32} {tk : Nat → Int32} {fr : Int32} {X : Nat → Option (Nat → Int32)} {A : Nat → Prop} {a : Int} {x_a : Int32} (hx_a : x_a.toInt = a)  : Met l y_Db_take (Cond.code y_Db_take c_Db_take 3 (some .int) :: wA) (rmk 3 1 1024) (va_Pc [.ref (ad 1), .int x_a] (cS A D ct ad B tk fr X)) (xQ (some (.int (nI (dx_tb tk a)))) A D ct ad B (dx_tk tk (dx_tb tk a)) (dx_tf fr (dx_tb tk a)) (dx_tx X (dx_tb tk a))) 1 1024 A := by
  refine Met.ofW (cc := c_Db_take) (maxL := 3) (ret := (some .int)) (by decide +kernel) rfl ?_
  intro p e s m args below meth c s₁ B0 hml hv
  obtain ⟨rfl, hA, hE, hK, g, LP, pr, hrx, hP, hD⟩ := hv
  have hS : va_S A s.heap s.heap [] := va_S.rf
  have hx := B0.exec
  have hb := B0.bytes
  have hr := B0.returns
  have hts := fun w (h : w ∈ wA) => atoms_spec (ws := Cond.code y_Db_take c_Db_take 3 (some .int) :: wA) B0.pre w (List.mem_cons_of_mem _ h)
  have hown : s.vm.findClass R_Db = some m.cls := findClass_of_methodNamed B0.named
  have hlocks := B0.notSynchronized
  have hl := lv_entry ([.ref (ad 1), .int x_a]) (n := 3) (Nat.le_of_ble_eq_true rfl)
  rw [lg_entry_eq]
  generalize (lg_sl ([.ref (ad 1), .int x_a]) ++ List.replicate (3 - (lg_sl ([.ref (ad 1), .int x_a])).length) Slot.unset).toArray = ls at hl ⊢
  have hl : lv_has ls 3 [(0, .ref (ad 1)), (1, .int x_a)] := hl
  have hf_a := z_lt x_a
  have hg_a := z_ge x_a
  rw [hx_a] at hf_a hg_a
  refine lv_aload_n hx hb d_Db_take_0 rfl (lv_at hl 0 rfl) ?_
  refine lv_iload_n hx hb d_Db_take_1 rfl (lv_at hl 1 rfl) ?_
  refine rdV ⟨hx, hb, hml, hown, hts⟩ hK hP (k_Db_leastFree l (a := a) (x_a := x_a) hx_a ) w_361 m_Db_leastFree ⟨by decide, by decide⟩ 1 rfl rfl rfl hl.1 rfl (Nat.le_of_ble_eq_true rfl) d_Db_take_2 ⟨show 0 ≤ 1 by omega, show 0 ≤ 1024 by omega⟩ ?_
  obtain ⟨b1, hb1⟩ : ∃ b1 : Nat, b1 = db_lf tk (128 - (max a 4).toNat) (max a 4).toNat := ⟨_, rfl⟩
  have hl1 : b1 < 128 := by rw [hb1]; exact db_lf_lt _ _ (by omega)
  refine W.eq (g2 := F0 m 5 ls [.int (nI b1)]) (by rw [hb1]) ?_
  refine lv_istore_n (lv' := [(2, .int (nI b1)), (0, .ref (ad 1)), (1, .int x_a)]) hx hb d_Db_take_5 rfl hl (by decide) rfl (fun ls hl => ?_)
  refine lv_iload_n hx hb d_Db_take_6 rfl (lv_at hl 0 rfl) ?_
  refine ln_if_ne (tgt := 16) hx hb (by omega) d_Db_take_7 (by decide) (fun c_1 => ?_) (fun c_1 => ?_)
  · skip
    have hdx : dx_tb tk a = b1 := by unfold dx_tb; rw [← hb1, if_neg (by omega)]
    refine lv_iload_n hx hb d_Db_take_16 rfl (lv_at hl 0 rfl) ?_
    refine ln_if_ne (tgt := 22) hx hb (by omega) d_Db_take_17 (by decide) (fun c_2 => ?_) (fun c_2 => ?_)
    · skip
      refine lv_aload_n hx hb d_Db_take_22 rfl (lv_at hl 1 rfl) ?_
      refine va_get (D := D) (ci := 1) (v := .ref (ad 7)) (C := R_Db) (T := T_Db) (N := 3) hx hb hts u_Db hown hK hP 1 rfl rfl 0 (by decide) (hts _ w_53) (fun _ h9 => h9) rfl d_Db_take_23 ?_
      refine lv_iload_n hx hb d_Db_take_26 rfl (lv_at hl 0 rfl) ?_
      refine ln_aald hx hb hK hP 7 2 rfl rfl (by omega) (by decide) d_Db_take_27 ?_
      rcases y_3e : g b1 with _ | y_3
      · skip
        refine lv_ifnonnullN hx hb d_Db_take_28 ?_
        refine lv_aload_n hx hb d_Db_take_31 rfl (lv_at hl 1 rfl) ?_
        refine va_get (D := D) (ci := 1) (v := .ref (ad 7)) (C := R_Db) (T := T_Db) (N := 3) hx hb hts u_Db hown hK hP 1 rfl rfl 0 (by decide) (hts _ w_53) (fun _ h9 => h9) rfl d_Db_take_32 ?_
        refine lv_iload_n hx hb d_Db_take_35 rfl (lv_at hl 0 rfl) ?_
        refine lv_sipush (v := nI 1024) hx hb d_Db_take_36 (by decide) ?_
        refine ln_newb hx hb (hts _ w_44) hK hP hD hS hA (show 0 + 1 ≤ 1 by omega) (show 0 + 1024 ≤ 1024 by omega) d_Db_take_39 (fun q H hqn hP hD hS => ?_)
        refine ln_aastC hx hb hE.1 hP hD hS (by omega) (List.mem_append.mpr (Or.inr (List.mem_singleton.mpr rfl))) d_Db_take_41 (fun H locs hP hD hS => ?_)
        have hrx : rX (va_up g b1 (some q)) (LP ++ [q]) (va_up pr q (fun _ => 0)) (va_up X b1 (some (fun _ => 0))) := rX_new hrx (by omega) hqn (fun i hi => rfl)
        refine lv_goto (tgt := 55) hx hb d_Db_take_42 (by decide) ?_
        refine lv_aload_n hx hb d_Db_take_55 rfl (lv_at hl 1 rfl) ?_
        refine va_get (D := D) (ci := 1) (v := .ref (ad 8)) (C := R_Db) (T := T_Db) (N := 3) hx hb hts u_Db hown hK hP 1 rfl rfl 1 (by decide) (hts _ w_54) (fun _ h9 => h9) rfl d_Db_take_56 ?_
        refine lv_iload_n hx hb d_Db_take_59 rfl (lv_at hl 0 rfl) ?_
        refine lv_iconst (v := nI 1) hx hb d_Db_take_60 (by decide) ?_
        refine ln_zast hx hb hK hP hD hS 8 1 rfl rfl (by omega) (by decide) d_Db_take_61 (fun H locs hP hD hS => ?_)
        have hP : va_P D vwC (wsC ct ad B (va_up g b1 (some q)) (upd tk b1 (vp_nar .boolean (nI 1))) fr (LP ++ [q]) (va_up pr q (fun _ => 0))) H := hP
        have hD : va_D A (wsC ct ad B (va_up g b1 (some q)) (upd tk b1 (vp_nar .boolean (nI 1))) fr (LP ++ [q]) (va_up pr q (fun _ => 0))) := hD
        refine lv_aload_n hx hb d_Db_take_62 rfl (lv_at hl 1 rfl) ?_
        refine lv_dup hx hb d_Db_take_63 rfl ?_
        refine va_get (D := D) (ci := 1) (v := .int fr) (C := R_Db) (T := T_Db) (N := 3) hx hb hts u_Db hown hK hP 1 rfl rfl 2 (by decide) (hts _ w_55) (fun _ h9 => h9) rfl d_Db_take_64 ?_
        refine lv_iconst (v := nI 1) hx hb d_Db_take_67 (by decide) ?_
        refine lv_isub hx hb d_Db_take_68 ?_
        refine va_put (D := D) (ci := 1) (v := .int (fr - (nI 1))) (ty := .int) (C := R_Db) (T := T_Db) (N := 3) hx hb hts u_Db t_Db t_Db_ok n_Db hown hK hP hD hS 1 rfl rfl 2 (by decide) (hts _ w_55) (fun _ h9 => h9) rfl (by decide +kernel) rfl rfl (Nat.le_of_ble_eq_true rfl) d_Db_take_69 (fun H locs hP hD hS => ?_)
        have hP : va_P D vwC (wsC ct ad B (va_up g b1 (some q)) (upd tk b1 (vp_nar .boolean (nI 1))) (fr - (nI 1)) (LP ++ [q]) (va_up pr q (fun _ => 0))) H := hP
        have hD : va_D A (wsC ct ad B (va_up g b1 (some q)) (upd tk b1 (vp_nar .boolean (nI 1))) (fr - (nI 1)) (LP ++ [q]) (va_up pr q (fun _ => 0))) := hD
        refine lv_iload_n hx hb d_Db_take_72 rfl (lv_at hl 0 rfl) ?_
        have hC9 : cX A D ct ad B (upd tk b1 (vp_nar .boolean (nI 1))) (fr - (nI 1)) (va_up X b1 (some (fun _ => 0))) H := ⟨(va_up g b1 (some q)), (LP ++ [q]), (va_up pr q (fun _ => 0)), hrx, hP, hD⟩
        have e9 : cX A D ct ad B (upd tk b1 (vp_nar .boolean (nI 1))) (fr - (nI 1)) (va_up X b1 (some (fun _ => 0))) = cX A D ct ad B (dx_tk tk (dx_tb tk a)) (dx_tf fr (dx_tb tk a)) (dx_tx X (dx_tb tk a)) := (by rw [hdx]; unfold dx_tk dx_tf dx_tx; first | (rw [if_neg (by omega), if_neg (by omega), if_neg (by omega)]; done) | rw [if_pos (by omega), if_pos (by omega), if_pos (by omega)])
        rw [e9] at hC9
        refine W.widen (k := 1) (n := 1024) (by omega) (by omega) ?_
        exact W.iret (v := nI b1) hx hb hr (fun t9 ht hW => ⟨congrArg (fun z => Outcome.returned (some (Value.int z))) (show nI b1 = (nI (dx_tb tk a)) from (by first | (rw [hdx]; done) | (rw [hdx]; exact congrArg nI (by omega)))), by rw [ht]; exact hC9, hS.F ht⟩) hS.2.2 d_Db_take_73
      · skip
        refine lv_ifnonnull (tgt := 45) hx hb d_Db_take_28 (by decide) ?_
        have yy := ‹g _ = some _›
        refine lv_aload_n hx hb d_Db_take_45 rfl (lv_at hl 1 rfl) ?_
        refine va_get (D := D) (ci := 1) (v := .ref (ad 7)) (C := R_Db) (T := T_Db) (N := 3) hx hb hts u_Db hown hK hP 1 rfl rfl 0 (by decide) (hts _ w_53) (fun _ h9 => h9) rfl d_Db_take_46 ?_
        refine lv_iload_n hx hb d_Db_take_49 rfl (lv_at hl 0 rfl) ?_
        refine ln_aald hx hb hK hP 7 2 rfl rfl (by omega) (by decide) d_Db_take_50 ?_
        obtain ⟨y, r0, hy, hyL, hX, hpr⟩ := rX_some hrx (show b1 < 128 by omega) (fun w => by rw [w] at yy; cases yy)
        obtain ⟨k9, hk9⟩ := wsC_row (ct := ct) (ad := ad) (B := B) (g := g) (tk := tk) (fr := fr) (pr := pr) hyL
        refine W.eq (g2 := F0 m 51 ls [.ref y]) (by rw [hy]; rfl) ?_
        refine lv_iconst (v := nI 0) hx hb d_Db_take_51 (by decide) ?_
        refine wrS ⟨hx, hb, hml, hown, hts⟩ hK hP hD hS hA (k_Ar_fill l (y := y) (x := (nI 0)) hyL ) w_368 m_Ar_fill ⟨by decide, by decide⟩ rfl hl.1 rfl (Nat.le_of_ble_eq_true rfl) d_Db_take_52 ⟨show 0 + 0 ≤ 1 by omega, show 0 + 0 ≤ 1024 by omega⟩ (fun H locs hP hD hS => ?_)
        have hP : va_P D vwC (wsC ct ad B g tk fr LP (va_up pr y (row_fill (nI 0) (pr y) 0 1024))) H := hP
        have hD : va_D A (wsC ct ad B g tk fr LP (va_up pr y (row_fill (nI 0) (pr y) 0 1024))) := hD
        refine W.eq (g2 := F0 m 55 ls []) rfl ?_
        have hrx : rX g LP (va_up pr y (row_fill (nI 0) (pr y) 0 1024)) (va_up X b1 (some (fun _ => 0))) := rX_put hrx (by omega) hy (fun i hi => by rw [row_fill_in (nI 0) 1024 0 _ i (by omega) (by omega)]; rfl)
        refine lv_aload_n hx hb d_Db_take_55 rfl (lv_at hl 1 rfl) ?_
        refine va_get (D := D) (ci := 1) (v := .ref (ad 8)) (C := R_Db) (T := T_Db) (N := 3) hx hb hts u_Db hown hK hP 1 rfl rfl 1 (by decide) (hts _ w_54) (fun _ h9 => h9) rfl d_Db_take_56 ?_
        refine lv_iload_n hx hb d_Db_take_59 rfl (lv_at hl 0 rfl) ?_
        refine lv_iconst (v := nI 1) hx hb d_Db_take_60 (by decide) ?_
        refine ln_zast hx hb hK hP hD hS 8 1 rfl rfl (by omega) (by decide) d_Db_take_61 (fun H locs hP hD hS => ?_)
        have hP : va_P D vwC (wsC ct ad B g (upd tk b1 (vp_nar .boolean (nI 1))) fr LP (va_up pr y (row_fill (nI 0) (pr y) 0 1024))) H := hP
        have hD : va_D A (wsC ct ad B g (upd tk b1 (vp_nar .boolean (nI 1))) fr LP (va_up pr y (row_fill (nI 0) (pr y) 0 1024))) := hD
        refine lv_aload_n hx hb d_Db_take_62 rfl (lv_at hl 1 rfl) ?_
        refine lv_dup hx hb d_Db_take_63 rfl ?_
        refine va_get (D := D) (ci := 1) (v := .int fr) (C := R_Db) (T := T_Db) (N := 3) hx hb hts u_Db hown hK hP 1 rfl rfl 2 (by decide) (hts _ w_55) (fun _ h9 => h9) rfl d_Db_take_64 ?_
        refine lv_iconst (v := nI 1) hx hb d_Db_take_67 (by decide) ?_
        refine lv_isub hx hb d_Db_take_68 ?_
        refine va_put (D := D) (ci := 1) (v := .int (fr - (nI 1))) (ty := .int) (C := R_Db) (T := T_Db) (N := 3) hx hb hts u_Db t_Db t_Db_ok n_Db hown hK hP hD hS 1 rfl rfl 2 (by decide) (hts _ w_55) (fun _ h9 => h9) rfl (by decide +kernel) rfl rfl (Nat.le_of_ble_eq_true rfl) d_Db_take_69 (fun H locs hP hD hS => ?_)
        have hP : va_P D vwC (wsC ct ad B g (upd tk b1 (vp_nar .boolean (nI 1))) (fr - (nI 1)) LP (va_up pr y (row_fill (nI 0) (pr y) 0 1024))) H := hP
        have hD : va_D A (wsC ct ad B g (upd tk b1 (vp_nar .boolean (nI 1))) (fr - (nI 1)) LP (va_up pr y (row_fill (nI 0) (pr y) 0 1024))) := hD
        refine lv_iload_n hx hb d_Db_take_72 rfl (lv_at hl 0 rfl) ?_
        have hC9 : cX A D ct ad B (upd tk b1 (vp_nar .boolean (nI 1))) (fr - (nI 1)) (va_up X b1 (some (fun _ => 0))) H := ⟨g, LP, (va_up pr y (row_fill (nI 0) (pr y) 0 1024)), hrx, hP, hD⟩
        have e9 : cX A D ct ad B (upd tk b1 (vp_nar .boolean (nI 1))) (fr - (nI 1)) (va_up X b1 (some (fun _ => 0))) = cX A D ct ad B (dx_tk tk (dx_tb tk a)) (dx_tf fr (dx_tb tk a)) (dx_tx X (dx_tb tk a)) := (by rw [hdx]; unfold dx_tk dx_tf dx_tx; first | (rw [if_neg (by omega), if_neg (by omega), if_neg (by omega)]; done) | rw [if_pos (by omega), if_pos (by omega), if_pos (by omega)])
        rw [e9] at hC9
        refine W.widen (k := 1) (n := 1024) (by omega) (by omega) ?_
        exact W.iret (v := nI b1) hx hb hr (fun t9 ht hW => ⟨congrArg (fun z => Outcome.returned (some (Value.int z))) (show nI b1 = (nI (dx_tb tk a)) from (by first | (rw [hdx]; done) | (rw [hdx]; exact congrArg nI (by omega)))), by rw [ht]; exact hC9, hS.F ht⟩) hS.2.2 d_Db_take_73
    · skip
      refine lv_iconst (v := nI 0) hx hb d_Db_take_20 (by decide) ?_
      have hC9 : cX A D ct ad B tk fr X s.heap := ⟨g, LP, pr, hrx, hP, hD⟩
      have e9 : cX A D ct ad B tk fr X = cX A D ct ad B (dx_tk tk (dx_tb tk a)) (dx_tf fr (dx_tb tk a)) (dx_tx X (dx_tb tk a)) := (by rw [hdx]; unfold dx_tk dx_tf dx_tx; first | (rw [if_neg (by omega), if_neg (by omega), if_neg (by omega)]; done) | rw [if_pos (by omega), if_pos (by omega), if_pos (by omega)])
      rw [e9] at hC9
      refine W.widen (k := 1) (n := 1024) (by omega) (by omega) ?_
      exact W.iret (v := nI 0) hx hb hr (fun t9 ht hW => ⟨congrArg (fun z => Outcome.returned (some (Value.int z))) (show nI 0 = (nI (dx_tb tk a)) from (by first | (rw [hdx]; done) | (rw [hdx]; exact congrArg nI (by omega)))), by rw [ht]; exact hC9, hS.F ht⟩) hS.2.2 d_Db_take_21
  · skip
    refine lv_aload_n hx hb d_Db_take_10 rfl (lv_at hl 1 rfl) ?_
    refine lv_iconst (v := nI 4) hx hb d_Db_take_11 (by decide) ?_
    refine rdV ⟨hx, hb, hml, hown, hts⟩ hK hP (k_Db_leastFree l (a := ((4 : Nat) : Int)) (x_a := (nI 4)) (nI_toInt (by omega)) ) w_361 m_Db_leastFree ⟨by decide, by decide⟩ 1 rfl rfl rfl hl.1 rfl (Nat.le_of_ble_eq_true rfl) d_Db_take_12 ⟨show 0 ≤ 1 by omega, show 0 ≤ 1024 by omega⟩ ?_
    obtain ⟨b2, hb2⟩ : ∃ b2 : Nat, b2 = db_lf tk 124 4 := ⟨_, rfl⟩
    have hl2 : b2 < 128 := by rw [hb2]; exact db_lf_lt _ _ (by omega)
    refine W.eq (g2 := F0 m 15 ls [.int (nI b2)]) (by rw [hb2]; rfl) ?_
    refine lv_istore_n (lv' := [(2, .int (nI b2)), (0, .ref (ad 1)), (1, .int x_a)]) hx hb d_Db_take_15 rfl hl (by decide) rfl (fun ls hl => ?_)
    have hdx : dx_tb tk a = b2 := by unfold dx_tb; rw [← hb1, if_pos (by omega), ← hb2]
    refine lv_iload_n hx hb d_Db_take_16 rfl (lv_at hl 0 rfl) ?_
    refine ln_if_ne (tgt := 22) hx hb (by omega) d_Db_take_17 (by decide) (fun c_4 => ?_) (fun c_4 => ?_)
    · skip
      refine lv_aload_n hx hb d_Db_take_22 rfl (lv_at hl 1 rfl) ?_
      refine va_get (D := D) (ci := 1) (v := .ref (ad 7)) (C := R_Db) (T := T_Db) (N := 3) hx hb hts u_Db hown hK hP 1 rfl rfl 0 (by decide) (hts _ w_53) (fun _ h9 => h9) rfl d_Db_take_23 ?_
      refine lv_iload_n hx hb d_Db_take_26 rfl (lv_at hl 0 rfl) ?_
      refine ln_aald hx hb hK hP 7 2 rfl rfl (by omega) (by decide) d_Db_take_27 ?_
      rcases y_5e : g b2 with _ | y_5
      · skip
        refine lv_ifnonnullN hx hb d_Db_take_28 ?_
        refine lv_aload_n hx hb d_Db_take_31 rfl (lv_at hl 1 rfl) ?_
        refine va_get (D := D) (ci := 1) (v := .ref (ad 7)) (C := R_Db) (T := T_Db) (N := 3) hx hb hts u_Db hown hK hP 1 rfl rfl 0 (by decide) (hts _ w_53) (fun _ h9 => h9) rfl d_Db_take_32 ?_
        refine lv_iload_n hx hb d_Db_take_35 rfl (lv_at hl 0 rfl) ?_
        refine lv_sipush (v := nI 1024) hx hb d_Db_take_36 (by decide) ?_
        refine ln_newb hx hb (hts _ w_44) hK hP hD hS hA (show 0 + 1 ≤ 1 by omega) (show 0 + 1024 ≤ 1024 by omega) d_Db_take_39 (fun q H hqn hP hD hS => ?_)
        refine ln_aastC hx hb hE.1 hP hD hS (by omega) (List.mem_append.mpr (Or.inr (List.mem_singleton.mpr rfl))) d_Db_take_41 (fun H locs hP hD hS => ?_)
        have hrx : rX (va_up g b2 (some q)) (LP ++ [q]) (va_up pr q (fun _ => 0)) (va_up X b2 (some (fun _ => 0))) := rX_new hrx (by omega) hqn (fun i hi => rfl)
        refine lv_goto (tgt := 55) hx hb d_Db_take_42 (by decide) ?_
        refine lv_aload_n hx hb d_Db_take_55 rfl (lv_at hl 1 rfl) ?_
        refine va_get (D := D) (ci := 1) (v := .ref (ad 8)) (C := R_Db) (T := T_Db) (N := 3) hx hb hts u_Db hown hK hP 1 rfl rfl 1 (by decide) (hts _ w_54) (fun _ h9 => h9) rfl d_Db_take_56 ?_
        refine lv_iload_n hx hb d_Db_take_59 rfl (lv_at hl 0 rfl) ?_
        refine lv_iconst (v := nI 1) hx hb d_Db_take_60 (by decide) ?_
        refine ln_zast hx hb hK hP hD hS 8 1 rfl rfl (by omega) (by decide) d_Db_take_61 (fun H locs hP hD hS => ?_)
        have hP : va_P D vwC (wsC ct ad B (va_up g b2 (some q)) (upd tk b2 (vp_nar .boolean (nI 1))) fr (LP ++ [q]) (va_up pr q (fun _ => 0))) H := hP
        have hD : va_D A (wsC ct ad B (va_up g b2 (some q)) (upd tk b2 (vp_nar .boolean (nI 1))) fr (LP ++ [q]) (va_up pr q (fun _ => 0))) := hD
        refine lv_aload_n hx hb d_Db_take_62 rfl (lv_at hl 1 rfl) ?_
        refine lv_dup hx hb d_Db_take_63 rfl ?_
        refine va_get (D := D) (ci := 1) (v := .int fr) (C := R_Db) (T := T_Db) (N := 3) hx hb hts u_Db hown hK hP 1 rfl rfl 2 (by decide) (hts _ w_55) (fun _ h9 => h9) rfl d_Db_take_64 ?_
        refine lv_iconst (v := nI 1) hx hb d_Db_take_67 (by decide) ?_
        refine lv_isub hx hb d_Db_take_68 ?_
        refine va_put (D := D) (ci := 1) (v := .int (fr - (nI 1))) (ty := .int) (C := R_Db) (T := T_Db) (N := 3) hx hb hts u_Db t_Db t_Db_ok n_Db hown hK hP hD hS 1 rfl rfl 2 (by decide) (hts _ w_55) (fun _ h9 => h9) rfl (by decide +kernel) rfl rfl (Nat.le_of_ble_eq_true rfl) d_Db_take_69 (fun H locs hP hD hS => ?_)
        have hP : va_P D vwC (wsC ct ad B (va_up g b2 (some q)) (upd tk b2 (vp_nar .boolean (nI 1))) (fr - (nI 1)) (LP ++ [q]) (va_up pr q (fun _ => 0))) H := hP
        have hD : va_D A (wsC ct ad B (va_up g b2 (some q)) (upd tk b2 (vp_nar .boolean (nI 1))) (fr - (nI 1)) (LP ++ [q]) (va_up pr q (fun _ => 0))) := hD
        refine lv_iload_n hx hb d_Db_take_72 rfl (lv_at hl 0 rfl) ?_
        have hC9 : cX A D ct ad B (upd tk b2 (vp_nar .boolean (nI 1))) (fr - (nI 1)) (va_up X b2 (some (fun _ => 0))) H := ⟨(va_up g b2 (some q)), (LP ++ [q]), (va_up pr q (fun _ => 0)), hrx, hP, hD⟩
        have e9 : cX A D ct ad B (upd tk b2 (vp_nar .boolean (nI 1))) (fr - (nI 1)) (va_up X b2 (some (fun _ => 0))) = cX A D ct ad B (dx_tk tk (dx_tb tk a)) (dx_tf fr (dx_tb tk a)) (dx_tx X (dx_tb tk a)) := (by rw [hdx]; unfold dx_tk dx_tf dx_tx; first | (rw [if_neg (by omega), if_neg (by omega), if_neg (by omega)]; done) | rw [if_pos (by omega), if_pos (by omega), if_pos (by omega)])
        rw [e9] at hC9
        refine W.widen (k := 1) (n := 1024) (by omega) (by omega) ?_
        exact W.iret (v := nI b2) hx hb hr (fun t9 ht hW => ⟨congrArg (fun z => Outcome.returned (some (Value.int z))) (show nI b2 = (nI (dx_tb tk a)) from (by first | (rw [hdx]; done) | (rw [hdx]; exact congrArg nI (by omega)))), by rw [ht]; exact hC9, hS.F ht⟩) hS.2.2 d_Db_take_73
      · skip
        refine lv_ifnonnull (tgt := 45) hx hb d_Db_take_28 (by decide) ?_
        have yy := ‹g _ = some _›
        refine lv_aload_n hx hb d_Db_take_45 rfl (lv_at hl 1 rfl) ?_
        refine va_get (D := D) (ci := 1) (v := .ref (ad 7)) (C := R_Db) (T := T_Db) (N := 3) hx hb hts u_Db hown hK hP 1 rfl rfl 0 (by decide) (hts _ w_53) (fun _ h9 => h9) rfl d_Db_take_46 ?_
        refine lv_iload_n hx hb d_Db_take_49 rfl (lv_at hl 0 rfl) ?_
        refine ln_aald hx hb hK hP 7 2 rfl rfl (by omega) (by decide) d_Db_take_50 ?_
        obtain ⟨y, r0, hy, hyL, hX, hpr⟩ := rX_some hrx (show b2 < 128 by omega) (fun w => by rw [w] at yy; cases yy)
        obtain ⟨k9, hk9⟩ := wsC_row (ct := ct) (ad := ad) (B := B) (g := g) (tk := tk) (fr := fr) (pr := pr) hyL
        refine W.eq (g2 := F0 m 51 ls [.ref y]) (by rw [hy]; rfl) ?_
        refine lv_iconst (v := nI 0) hx hb d_Db_take_51 (by decide) ?_
        refine wrS ⟨hx, hb, hml, hown, hts⟩ hK hP hD hS hA (k_Ar_fill l (y := y) (x := (nI 0)) hyL ) w_368 m_Ar_fill ⟨by decide, by decide⟩ rfl hl.1 rfl (Nat.le_of_ble_eq_true rfl) d_Db_take_52 ⟨show 0 + 0 ≤ 1 by omega, show 0 + 0 ≤ 1024 by omega⟩ (fun H locs hP hD hS => ?_)
        have hP : va_P D vwC (wsC ct ad B g tk fr LP (va_up pr y (row_fill (nI 0) (pr y) 0 1024))) H := hP
        have hD : va_D A (wsC ct ad B g tk fr LP (va_up pr y (row_fill (nI 0) (pr y) 0 1024))) := hD
        refine W.eq (g2 := F0 m 55 ls []) rfl ?_
        have hrx : rX g LP (va_up pr y (row_fill (nI 0) (pr y) 0 1024)) (va_up X b2 (some (fun _ => 0))) := rX_put hrx (by omega) hy (fun i hi => by rw [row_fill_in (nI 0) 1024 0 _ i (by omega) (by omega)]; rfl)
        refine lv_aload_n hx hb d_Db_take_55 rfl (lv_at hl 1 rfl) ?_
        refine va_get (D := D) (ci := 1) (v := .ref (ad 8)) (C := R_Db) (T := T_Db) (N := 3) hx hb hts u_Db hown hK hP 1 rfl rfl 1 (by decide) (hts _ w_54) (fun _ h9 => h9) rfl d_Db_take_56 ?_
        refine lv_iload_n hx hb d_Db_take_59 rfl (lv_at hl 0 rfl) ?_
        refine lv_iconst (v := nI 1) hx hb d_Db_take_60 (by decide) ?_
        refine ln_zast hx hb hK hP hD hS 8 1 rfl rfl (by omega) (by decide) d_Db_take_61 (fun H locs hP hD hS => ?_)
        have hP : va_P D vwC (wsC ct ad B g (upd tk b2 (vp_nar .boolean (nI 1))) fr LP (va_up pr y (row_fill (nI 0) (pr y) 0 1024))) H := hP
        have hD : va_D A (wsC ct ad B g (upd tk b2 (vp_nar .boolean (nI 1))) fr LP (va_up pr y (row_fill (nI 0) (pr y) 0 1024))) := hD
        refine lv_aload_n hx hb d_Db_take_62 rfl (lv_at hl 1 rfl) ?_
        refine lv_dup hx hb d_Db_take_63 rfl ?_
        refine va_get (D := D) (ci := 1) (v := .int fr) (C := R_Db) (T := T_Db) (N := 3) hx hb hts u_Db hown hK hP 1 rfl rfl 2 (by decide) (hts _ w_55) (fun _ h9 => h9) rfl d_Db_take_64 ?_
        refine lv_iconst (v := nI 1) hx hb d_Db_take_67 (by decide) ?_
        refine lv_isub hx hb d_Db_take_68 ?_
        refine va_put (D := D) (ci := 1) (v := .int (fr - (nI 1))) (ty := .int) (C := R_Db) (T := T_Db) (N := 3) hx hb hts u_Db t_Db t_Db_ok n_Db hown hK hP hD hS 1 rfl rfl 2 (by decide) (hts _ w_55) (fun _ h9 => h9) rfl (by decide +kernel) rfl rfl (Nat.le_of_ble_eq_true rfl) d_Db_take_69 (fun H locs hP hD hS => ?_)
        have hP : va_P D vwC (wsC ct ad B g (upd tk b2 (vp_nar .boolean (nI 1))) (fr - (nI 1)) LP (va_up pr y (row_fill (nI 0) (pr y) 0 1024))) H := hP
        have hD : va_D A (wsC ct ad B g (upd tk b2 (vp_nar .boolean (nI 1))) (fr - (nI 1)) LP (va_up pr y (row_fill (nI 0) (pr y) 0 1024))) := hD
        refine lv_iload_n hx hb d_Db_take_72 rfl (lv_at hl 0 rfl) ?_
        have hC9 : cX A D ct ad B (upd tk b2 (vp_nar .boolean (nI 1))) (fr - (nI 1)) (va_up X b2 (some (fun _ => 0))) H := ⟨g, LP, (va_up pr y (row_fill (nI 0) (pr y) 0 1024)), hrx, hP, hD⟩
        have e9 : cX A D ct ad B (upd tk b2 (vp_nar .boolean (nI 1))) (fr - (nI 1)) (va_up X b2 (some (fun _ => 0))) = cX A D ct ad B (dx_tk tk (dx_tb tk a)) (dx_tf fr (dx_tb tk a)) (dx_tx X (dx_tb tk a)) := (by rw [hdx]; unfold dx_tk dx_tf dx_tx; first | (rw [if_neg (by omega), if_neg (by omega), if_neg (by omega)]; done) | rw [if_pos (by omega), if_pos (by omega), if_pos (by omega)])
        rw [e9] at hC9
        refine W.widen (k := 1) (n := 1024) (by omega) (by omega) ?_
        exact W.iret (v := nI b2) hx hb hr (fun t9 ht hW => ⟨congrArg (fun z => Outcome.returned (some (Value.int z))) (show nI b2 = (nI (dx_tb tk a)) from (by first | (rw [hdx]; done) | (rw [hdx]; exact congrArg nI (by omega)))), by rw [ht]; exact hC9, hS.F ht⟩) hS.2.2 d_Db_take_73
    · skip
      refine lv_iconst (v := nI 0) hx hb d_Db_take_20 (by decide) ?_
      have hC9 : cX A D ct ad B tk fr X s.heap := ⟨g, LP, pr, hrx, hP, hD⟩
      have e9 : cX A D ct ad B tk fr X = cX A D ct ad B (dx_tk tk (dx_tb tk a)) (dx_tf fr (dx_tb tk a)) (dx_tx X (dx_tb tk a)) := (by rw [hdx]; unfold dx_tk dx_tf dx_tx; first | (rw [if_neg (by omega), if_neg (by omega), if_neg (by omega)]; done) | rw [if_pos (by omega), if_pos (by omega), if_pos (by omega)])
      rw [e9] at hC9
      refine W.widen (k := 1) (n := 1024) (by omega) (by omega) ?_
      exact W.iret (v := nI 0) hx hb hr (fun t9 ht hW => ⟨congrArg (fun z => Outcome.returned (some (Value.int z))) (show nI 0 = (nI (dx_tb tk a)) from (by first | (rw [hdx]; done) | (rw [hdx]; exact congrArg nI (by omega)))), by rw [ht]; exact hC9, hS.F ht⟩) hS.2.2 d_Db_take_21
