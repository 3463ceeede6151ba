/-! Bodies: what is written -/
abbrev cs : Type := (Nat → Int32) × (Nat → Int32) × Int32 × (Nat → Option (Nat → Int32))
abbrev c3 : Type := (Nat → Int32) × (Nat → Int32) × Int32
def bo_goal (B : Nat → Int32) (f k : Nat) : Int32 := if re_blk B f (((k : Nat) : Int) - ((1 : Nat) : Int)) = 0 then nI 4 else re_blk B f (((k : Nat) : Int) - ((1 : Nat) : Int)) + nI 1
def tb_b (S : cs) (f k : Nat) : Nat := dx_tb S.2.1 (bo_goal S.1 f k).toInt
def tbS (S : cs) (f k : Nat) : cs := (if tb_b S f k = 0 then S.1 else re_add S.1 f k (nI (tb_b S f k)), dx_tk S.2.1 (tb_b S f k), dx_tf S.2.2.1 (tb_b S f k), dx_tx S.2.2.2 (tb_b S f k))
theorem dx_tb_lt (tk : Nat → Int32) (a : Int) : dx_tb tk a < 128 := by
  unfold dx_tb
  by_cases h : db_lf tk (128 - (max a 4).toNat) (max a 4).toNat = 0
  · rw [if_pos h]; exact db_lf_lt _ _ (by omega)
  · rw [if_neg h]; exact db_lf_lt _ _ (by omega)
/-- pieces from q on give their blocks back -/
def gbS (f : Nat) : Nat → Nat → c3 → c3
  | 0, _, S => S
  | n + 1, q, S => gbS f n (q + 1) (if re_blk S.1 f ((q : Nat) : Int) = 0 then S else (re_rem S.1 f q, db_gt S.2.1 (re_blk S.1 f ((q : Nat) : Int)).toInt, db_gf S.2.1 S.2.2 (re_blk S.1 f ((q : Nat) : Int)).toInt))
def prS (f : Nat) : Nat → Nat → cs → cs
  | 0, _, S => S
  | n + 1, q, S => prS f n (q + 1) (if re_blk S.1 f ((q : Nat) : Int) = 0 then tbS S f q else S)
def imx (x y : Int32) : Int32 := if x < y then y else x
def pr_S (S : cs) (f a n : Nat) : cs := prS f ((a + n - 1) / 1024 + 1 - a / 1024) (a / 1024) S
def pr_B (S : cs) (f a n : Nat) : Nat → Int32 := re_set (pr_S S f a n).1 f 4 4 (imx (re_f (pr_S S f a n).1 f 4 4) (nI (a + n)))
/-- n bytes are set, the last one first -/
def sbX (B : Nat → Int32) (f a : Nat) : Nat → (Nat → Option (Nat → Int32)) → Int64 → (Nat → Option (Nat → Int32))
  | 0, X, _ => X
  | n + 1, X, r => sbX B f a n (dx_put X (re_blk B f (((a + n) / 1024 : Nat) : Int)).toInt ((a + n) % 1024) r.toInt32) ((r.toUInt64 >>> ((nI 8).toInt64.toUInt64 &&& Int64.toUInt64 63)).toInt64)
def ptX (B : Nat → Int32) (f a n : Nat) (x : Int32) : Nat → Nat → (Nat → Option (Nat → Int32)) → (Nat → Option (Nat → Int32))
  | 0, _, X => X
  | k + 1, q, X => ptX B f a n x k (q + 1) (dx_pat X (re_blk B f ((q : Nat) : Int)).toInt (a - q * 1024) (min (a + n - q * 1024) 1024) (x + nI (7 * (q * 1024 + (a - q * 1024) - a))))
theorem zmax {x : Int32} {z : Int} (h : x.toInt = z) (hz : z < 2147483648) : (if x < nI 0 then nI 0 else x) = nI z.toNat := by
  rcases Int.lt_or_le z 0 with q | q
  · rw [if_pos (Int32.lt_iff_toInt_lt.mpr (by rw [h, nI_toInt (by decide)]; exact q)), show z.toNat = 0 by omega]
  · rw [if_neg (fun w => absurd (Int32.lt_iff_toInt_lt.mp w) (by rw [h, nI_toInt (by decide)]; omega))]; exact z_i (by rw [h]; omega) (by omega)
theorem zmin {x : Int32} {z : Int} (h : x.toInt = z) (h0 : 0 ≤ z) (hz : z < 2147483648) : (if nI 1024 < x then nI 1024 else x) = nI (min z.toNat 1024) := by
  rcases Int.lt_or_le 1024 z with q | q
  · rw [if_pos (Int32.lt_iff_toInt_lt.mpr (by rw [h, nI_toInt (by decide)]; exact q)), show min z.toNat 1024 = 1024 by omega]
  · rw [if_neg (fun w => absurd (Int32.lt_iff_toInt_lt.mp w) (by rw [h, nI_toInt (by decide)]; omega)), show min z.toNat 1024 = z.toNat by omega]; exact z_i (by rw [h]; omega) (by omega)
def rs_q (z : Nat) : Nat := if z % 1024 = 0 then z / 1024 else z / 1024 + 1
def rs_S (S : cs) (f z : Nat) : c3 := gbS f (15 - rs_q z) (rs_q z) (S.1, S.2.1, S.2.2.1)
def rs_X (S : cs) (f z : Nat) : Nat → Option (Nat → Int32) := if re_blk (rs_S S f z).1 f ((z / 1024 : Nat) : Int) = 0 then S.2.2.2 else dx_clr S.2.2.2 (re_blk (rs_S S f z).1 f ((z / 1024 : Nat) : Int)).toInt (z % 1024) 1024
/-- a short target goes to the record -/
def tgB (f : Nat) (x : Int32) : Nat → Nat → (Nat → Int32) → (Nat → Int32)
  | 0, _, B => B
  | k + 1, i, B => tgB f x k (i + 1) (re_set B f (40 + i) 1 (bo_tb x i))
def tgX (z : Int) (x : Int32) : Nat → Nat → (Nat → Option (Nat → Int32)) → (Nat → Option (Nat → Int32))
  | 0, _, X => X
  | k + 1, i, X => tgX z x k (i + 1) (dx_put X z i (bo_tb x i))
def tg_S (S : cs) (f n : Nat) (x : Int32) : cs := if re_kind S.1 f = nI 3 ∧ ¬ nI 59 < re_f S.1 f 4 4 then (tgB f x n 0 S.1, S.2.1, S.2.2.1, S.2.2.2) else ((tbS S f 0).1, (tbS S f 0).2.1, (tbS S f 0).2.2.1, tgX (re_blk (tbS S f 0).1 f ((0 : Nat) : Int)).toInt x n 0 (tbS S f 0).2.2.2)
theorem m_Bo_takeBlock : mV R_Bo y_Bo_takeBlock (Cond.code y_Bo_takeBlock c_Bo_takeBlock 6 none) 2 := ⟨⟨w_355, wp_6, w_6, w_356⟩, by decide +kernel⟩
set_option maxHeartbeats 4000000 in
set_option maxRecDepth 100000 in
theorem k_Bo_takeBlock (l : Launch) {D : va_G} {ct : Nat → ClassId} {ad : Nat → Nat} {B : Nat → Int32} {tk : Nat → Int32} {fr : Int32} {X : Nat → Option (Nat → Int32)} {A : Nat → Prop} {f : Nat} {x_f : Int32} (hx_f : x_f.toNatClampNeg = f) {k : Nat} (h0 : k < 15) : Met l y_Bo_takeBlock (Cond.code y_Bo_takeBlock c_Bo_takeBlock 6 none :: wA) (rmk 5 1 1024) (va_Pc [.ref (ad 5), .int x_f, .int (nI k)] (cS A D ct ad B tk fr X)) (xQ none A D ct ad ((tbS (B, tk, fr, X) f k).1) ((tbS (B, tk, fr, X) f k).2.1) ((tbS (B, tk, fr, X) f k).2.2.1) ((tbS (B, tk, fr, X) f k).2.2.2)) 1 1024 A := by
  refine Met.ofW (cc := c_Bo_takeBlock) (maxL := 6) (ret := none) (by decide +kernel) rfl ?_
  intro p e s m args below meth c s₁ B0 hml hv
  obtain ⟨rfl, hA, hE, hK, g, LP, pr, hrx, hP, hD⟩ := hv
  have hS : va_S A s.heap s.heap [] := va_S.rf
  have hx := B0.exec
  have hb := B0.bytes
  have hr := B0.returns
  have hts := fun w (h : w ∈ wA) => atoms_spec (ws := Cond.code y_Bo_takeBlock c_Bo_takeBlock 6 none :: wA) B0.pre w (List.mem_cons_of_mem _ h)
  have hown : s.vm.findClass R_Bo = some m.cls := findClass_of_methodNamed B0.named
  have hlocks := B0.notSynchronized
  have hl := lv_entry ([.ref (ad 5), .int x_f, .int (nI k)]) (n := 6) (Nat.le_of_ble_eq_true rfl)
  rw [lg_entry_eq]
  generalize (lg_sl ([.ref (ad 5), .int x_f, .int (nI k)]) ++ List.replicate (6 - (lg_sl ([.ref (ad 5), .int x_f, .int (nI k)])).length) Slot.unset).toArray = ls at hl ⊢
  have hl : lv_has ls 6 [(0, .ref (ad 5)), (1, .int x_f), (2, .int (nI k))] := hl
  have hf_f : x_f.toInt.toNat = f := hx_f
  have hg_f := z_lt x_f
  refine lv_aload_n hx hb d_Bo_takeBlock_0 rfl (lv_at hl 0 rfl) ?_
  refine va_get (D := D) (ci := 0) (v := .ref (ad 2)) (C := R_Bo) (T := T_Bo) (N := 2) hx hb hts u_Bo hown hK hP 5 rfl rfl 1 (by decide) (hts _ w_94) (fun _ h9 => h9) rfl d_Bo_takeBlock_1 ?_
  refine lv_iload_n hx hb d_Bo_takeBlock_4 rfl (lv_at hl 1 rfl) ?_
  refine lv_iload_n hx hb d_Bo_takeBlock_5 rfl (lv_at hl 2 rfl) ?_
  refine lv_iconst (v := nI 1) hx hb d_Bo_takeBlock_6 (by decide) ?_
  refine lv_isub hx hb d_Bo_takeBlock_7 ?_
  have z_1 : ((nI k) - (nI 1)).toInt = ((k : Nat) : Int) - ((1 : Nat) : Int) := z_sub (nI_toInt (by omega)) (nI_toInt (by omega)) (by omega) (by omega)
  refine rdV ⟨hx, hb, hml, hown, hts⟩ hK hP (k_Re_blockOf l (f := f) (x_f := x_f) (z := (((k : Nat) : Int) - ((1 : Nat) : Int))) (x_z := ((nI k) - (nI 1))) hx_f z_1 ) w_182 m_Re_blockOf ⟨by decide, by decide⟩ 2 rfl rfl rfl hl.1 rfl (Nat.le_of_ble_eq_true rfl) d_Bo_takeBlock_8 ⟨show 0 ≤ 1 by omega, show 0 ≤ 1024 by omega⟩ ?_
  refine lv_istore_n (lv' := [(3, .int (re_blk B f (((k : Nat) : Int) - ((1 : Nat) : Int)))), (0, .ref (ad 5)), (1, .int x_f), (2, .int (nI k))]) hx hb d_Bo_takeBlock_11 rfl hl (by decide) rfl (fun ls hl => ?_)
  refine lv_iload_n hx hb d_Bo_takeBlock_12 rfl (lv_at hl 0 rfl) ?_
  refine lv_if_ne (tgt := 20) hx hb d_Bo_takeBlock_13 (by decide) (fun c_2 => ?_) (fun c_2 => ?_)
  · skip
    refine lv_iload_n hx hb d_Bo_takeBlock_20 rfl (lv_at hl 0 rfl) ?_
    refine lv_iconst (v := nI 1) hx hb d_Bo_takeBlock_21 (by decide) ?_
    refine lv_iadd hx hb d_Bo_takeBlock_22 ?_
    refine W.eq (g2 := F0 m 23 ls [.int (bo_goal B f k)]) (by unfold bo_goal; first | rw [if_pos (by assumption)] | rw [if_neg (by assumption)]) ?_
    refine lv_istore (lv' := [(4, .int (bo_goal B f k)), (3, .int (re_blk B f (((k : Nat) : Int) - ((1 : Nat) : Int)))), (0, .ref (ad 5)), (1, .int x_f), (2, .int (nI k))]) hx hb d_Bo_takeBlock_23 hl (by decide) rfl (fun ls hl => ?_)
    refine lv_aload_n hx hb d_Bo_takeBlock_25 rfl (lv_at hl 2 rfl) ?_
    refine va_get (D := D) (ci := 0) (v := .ref (ad 1)) (C := R_Bo) (T := T_Bo) (N := 2) hx hb hts u_Bo hown hK hP 5 rfl rfl 0 (by decide) (hts _ w_93) (fun _ h9 => h9) rfl d_Bo_takeBlock_26 ?_
    refine lv_iload hx hb d_Bo_takeBlock_29 (lv_at hl 0 rfl) ?_
    refine wrX ⟨hx, hb, hml, hown, hts⟩ hE hK hrx hP hD hS hA (k_Db_take l (a := ((bo_goal B f k).toInt)) (x_a := (bo_goal B f k)) rfl ) w_357 m_Db_take ⟨by decide, by decide⟩ 1 rfl rfl rfl hl.1 rfl (Nat.le_of_ble_eq_true rfl) d_Bo_takeBlock_31 ⟨show 0 + 1 ≤ 1 by omega, show 0 + 1024 ≤ 1024 by omega⟩ (fun H locs g LP pr hrx hP hD hS => ?_)
    refine W.eq (g2 := F0 m 34 ls [.int (nI (dx_tb tk ((bo_goal B f k).toInt)))]) rfl ?_
    have hlt := dx_tb_lt tk (bo_goal B f k).toInt
    refine lv_istore (lv' := [(5, .int (nI (dx_tb tk ((bo_goal B f k).toInt)))), (4, .int (bo_goal B f k)), (3, .int (re_blk B f (((k : Nat) : Int) - ((1 : Nat) : Int)))), (0, .ref (ad 5)), (1, .int x_f), (2, .int (nI k))]) hx hb d_Bo_takeBlock_34 hl (by decide) rfl (fun ls hl => ?_)
    refine lv_iload hx hb d_Bo_takeBlock_36 (lv_at hl 0 rfl) ?_
    refine ln_if_eq (tgt := 52) hx hb (by omega) d_Bo_takeBlock_38 (by decide) (fun c_3 => ?_) (fun c_3 => ?_)
    · skip
      have hC9 : cX A D ct ad B (dx_tk tk (dx_tb tk ((bo_goal B f k).toInt))) (dx_tf fr (dx_tb tk ((bo_goal B f k).toInt))) (dx_tx X (dx_tb tk ((bo_goal B f k).toInt))) H := ⟨g, LP, pr, hrx, hP, hD⟩
      have e9 : cX A D ct ad B (dx_tk tk (dx_tb tk ((bo_goal B f k).toInt))) (dx_tf fr (dx_tb tk ((bo_goal B f k).toInt))) (dx_tx X (dx_tb tk ((bo_goal B f k).toInt))) = cX A D ct ad ((tbS (B, tk, fr, X) f k).1) ((tbS (B, tk, fr, X) f k).2.1) ((tbS (B, tk, fr, X) f k).2.2.1) ((tbS (B, tk, fr, X) f k).2.2.2) := (by unfold tbS tb_b; dsimp only; first | (rw [if_neg (by omega)]; done) | rw [if_pos (by omega)])
      rw [e9] at hC9
      refine W.widen (k := 1) (n := 1024) (by omega) (by omega) ?_
      exact W.vret hx hb hr (fun t9 ht hW => ⟨rfl, by rw [ht]; exact hC9, hS.F ht⟩) hS.2.2 d_Bo_takeBlock_52
    · skip
      refine lv_aload_n hx hb d_Bo_takeBlock_41 rfl (lv_at hl 3 rfl) ?_
      refine va_get (D := D) (ci := 0) (v := .ref (ad 2)) (C := R_Bo) (T := T_Bo) (N := 2) hx hb hts u_Bo hown hK hP 5 rfl rfl 1 (by decide) (hts _ w_94) (fun _ h9 => h9) rfl d_Bo_takeBlock_42 ?_
      refine lv_iload_n hx hb d_Bo_takeBlock_45 rfl (lv_at hl 4 rfl) ?_
      refine lv_iload_n hx hb d_Bo_takeBlock_46 rfl (lv_at hl 5 rfl) ?_
      refine lv_iload hx hb d_Bo_takeBlock_47 (lv_at hl 0 rfl) ?_
      refine wrV ⟨hx, hb, hml, hown, hts⟩ hK hP hD hS hA (k_Re_addBlock l (f := f) (x_f := x_f) (k := k) (v := (nI (dx_tb tk ((bo_goal B f k).toInt)))) hx_f (by omega)) w_371 m_Re_addBlock ⟨by decide, by decide⟩ 2 rfl rfl rfl hl.1 rfl (Nat.le_of_ble_eq_true rfl) d_Bo_takeBlock_49 ⟨show (0 + 1) + 0 ≤ 1 by omega, show (0 + 1024) + 0 ≤ 1024 by omega⟩ (fun H locs hP hD hS => ?_)
      have hP : va_P D vwC (wsC ct ad (re_add B f k (nI (dx_tb tk ((bo_goal B f k).toInt)))) g (dx_tk tk (dx_tb tk ((bo_goal B f k).toInt))) (dx_tf fr (dx_tb tk ((bo_goal B f k).toInt))) LP pr) H := hP
      have hD : va_D A (wsC ct ad (re_add B f k (nI (dx_tb tk ((bo_goal B f k).toInt)))) g (dx_tk tk (dx_tb tk ((bo_goal B f k).toInt))) (dx_tf fr (dx_tb tk ((bo_goal B f k).toInt))) LP pr) := hD
      refine W.eq (g2 := F0 m 52 ls []) rfl ?_
      have hC9 : cX A D ct ad (re_add B f k (nI (dx_tb tk ((bo_goal B f k).toInt)))) (dx_tk tk (dx_tb tk ((bo_goal B f k).toInt))) (dx_tf fr (dx_tb tk ((bo_goal B f k).toInt))) (dx_tx X (dx_tb tk ((bo_goal B f k).toInt))) H := ⟨g, LP, pr, hrx, hP, hD⟩
      have e9 : cX A D ct ad (re_add B f k (nI (dx_tb tk ((bo_goal B f k).toInt)))) (dx_tk tk (dx_tb tk ((bo_goal B f k).toInt))) (dx_tf fr (dx_tb tk ((bo_goal B f k).toInt))) (dx_tx X (dx_tb tk ((bo_goal B f k).toInt))) = cX A D ct ad ((tbS (B, tk, fr, X) f k).1) ((tbS (B, tk, fr, X) f k).2.1) ((tbS (B, tk, fr, X) f k).2.2.1) ((tbS (B, tk, fr, X) f k).2.2.2) := (by unfold tbS tb_b; dsimp only; first | (rw [if_neg (by omega)]; done) | rw [if_pos (by omega)])
      rw [e9] at hC9
      refine W.widen (k := 1) (n := 1024) (by omega) (by omega) ?_
      exact W.vret hx hb hr (fun t9 ht hW => ⟨rfl, by rw [ht]; exact hC9, hS.F ht⟩) hS.2.2 d_Bo_takeBlock_52
  · skip
    refine lv_iconst (v := nI 4) hx hb d_Bo_takeBlock_16 (by decide) ?_
    refine lv_goto (tgt := 23) hx hb d_Bo_takeBlock_17 (by decide) ?_
    refine W.eq (g2 := F0 m 23 ls [.int (bo_goal B f k)]) (by unfold bo_goal; first | rw [if_pos (by assumption)] | rw [if_neg (by assumption)]) ?_
    refine lv_istore (lv' := [(4, .int (bo_goal B f k)), (3, .int (re_blk B f (((k : Nat) : Int) - ((1 : Nat) : Int)))), (0, .ref (ad 5)), (1, .int x_f), (2, .int (nI k))]) hx hb d_Bo_takeBlock_23 hl (by decide) rfl (fun ls hl => ?_)
    refine lv_aload_n hx hb d_Bo_takeBlock_25 rfl (lv_at hl 2 rfl) ?_
    refine va_get (D := D) (ci := 0) (v := .ref (ad 1)) (C := R_Bo) (T := T_Bo) (N := 2) hx hb hts u_Bo hown hK hP 5 rfl rfl 0 (by decide) (hts _ w_93) (fun _ h9 => h9) rfl d_Bo_takeBlock_26 ?_
    refine lv_iload hx hb d_Bo_takeBlock_29 (lv_at hl 0 rfl) ?_
    refine wrX ⟨hx, hb, hml, hown, hts⟩ hE hK hrx hP hD hS hA (k_Db_take l (a := ((bo_goal B f k).toInt)) (x_a := (bo_goal B f k)) rfl ) w_357 m_Db_take ⟨by decide, by decide⟩ 1 rfl rfl rfl hl.1 rfl (Nat.le_of_ble_eq_true rfl) d_Bo_takeBlock_31 ⟨show 0 + 1 ≤ 1 by omega, show 0 + 1024 ≤ 1024 by omega⟩ (fun H locs g LP pr hrx hP hD hS => ?_)
    refine W.eq (g2 := F0 m 34 ls [.int (nI (dx_tb tk ((bo_goal B f k).toInt)))]) rfl ?_
    have hlt := dx_tb_lt tk (bo_goal B f k).toInt
    refine lv_istore (lv' := [(5, .int (nI (dx_tb tk ((bo_goal B f k).toInt)))), (4, .int (bo_goal B f k)), (3, .int (re_blk B f (((k : Nat) : Int) - ((1 : Nat) : Int)))), (0, .ref (ad 5)), (1, .int x_f), (2, .int (nI k))]) hx hb d_Bo_takeBlock_34 hl (by decide) rfl (fun ls hl => ?_)
    refine lv_iload hx hb d_Bo_takeBlock_36 (lv_at hl 0 rfl) ?_
    refine ln_if_eq (tgt := 52) hx hb (by omega) d_Bo_takeBlock_38 (by decide) (fun c_4 => ?_) (fun c_4 => ?_)
    · skip
      have hC9 : cX A D ct ad B (dx_tk tk (dx_tb tk ((bo_goal B f k).toInt))) (dx_tf fr (dx_tb tk ((bo_goal B f k).toInt))) (dx_tx X (dx_tb tk ((bo_goal B f k).toInt))) H := ⟨g, LP, pr, hrx, hP, hD⟩
      have e9 : cX A D ct ad B (dx_tk tk (dx_tb tk ((bo_goal B f k).toInt))) (dx_tf fr (dx_tb tk ((bo_goal B f k).toInt))) (dx_tx X (dx_tb tk ((bo_goal B f k).toInt))) = cX A D ct ad ((tbS (B, tk, fr, X) f k).1) ((tbS (B, tk, fr, X) f k).2.1) ((tbS (B, tk, fr, X) f k).2.2.1) ((tbS (B, tk, fr, X) f k).2.2.2) := (by unfold tbS tb_b; dsimp only; first | (rw [if_neg (by omega)]; done) | rw [if_pos (by omega)])
      rw [e9] at hC9
      refine W.widen (k := 1) (n := 1024) (by omega) (by omega) ?_
      exact W.vret hx hb hr (fun t9 ht hW => ⟨rfl, by rw [ht]; exact hC9, hS.F ht⟩) hS.2.2 d_Bo_takeBlock_52
    · skip
      refine lv_aload_n hx hb d_Bo_takeBlock_41 rfl (lv_at hl 3 rfl) ?_
      refine va_get (D := D) (ci := 0) (v := .ref (ad 2)) (C := R_Bo) (T := T_Bo) (N := 2) hx hb hts u_Bo hown hK hP 5 rfl rfl 1 (by decide) (hts _ w_94) (fun _ h9 => h9) rfl d_Bo_takeBlock_42 ?_
      refine lv_iload_n hx hb d_Bo_takeBlock_45 rfl (lv_at hl 4 rfl) ?_
      refine lv_iload_n hx hb d_Bo_takeBlock_46 rfl (lv_at hl 5 rfl) ?_
      refine lv_iload hx hb d_Bo_takeBlock_47 (lv_at hl 0 rfl) ?_
      refine wrV ⟨hx, hb, hml, hown, hts⟩ hK hP hD hS hA (k_Re_addBlock l (f := f) (x_f := x_f) (k := k) (v := (nI (dx_tb tk ((bo_goal B f k).toInt)))) hx_f (by omega)) w_371 m_Re_addBlock ⟨by decide, by decide⟩ 2 rfl rfl rfl hl.1 rfl (Nat.le_of_ble_eq_true rfl) d_Bo_takeBlock_49 ⟨show (0 + 1) + 0 ≤ 1 by omega, show (0 + 1024) + 0 ≤ 1024 by omega⟩ (fun H locs hP hD hS => ?_)
      have hP : va_P D vwC (wsC ct ad (re_add B f k (nI (dx_tb tk ((bo_goal B f k).toInt)))) g (dx_tk tk (dx_tb tk ((bo_goal B f k).toInt))) (dx_tf fr (dx_tb tk ((bo_goal B f k).toInt))) LP pr) H := hP
      have hD : va_D A (wsC ct ad (re_add B f k (nI (dx_tb tk ((bo_goal B f k).toInt)))) g (dx_tk tk (dx_tb tk ((bo_goal B f k).toInt))) (dx_tf fr (dx_tb tk ((bo_goal B f k).toInt))) LP pr) := hD
      refine W.eq (g2 := F0 m 52 ls []) rfl ?_
      have hC9 : cX A D ct ad (re_add B f k (nI (dx_tb tk ((bo_goal B f k).toInt)))) (dx_tk tk (dx_tb tk ((bo_goal B f k).toInt))) (dx_tf fr (dx_tb tk ((bo_goal B f k).toInt))) (dx_tx X (dx_tb tk ((bo_goal B f k).toInt))) H := ⟨g, LP, pr, hrx, hP, hD⟩
      have e9 : cX A D ct ad (re_add B f k (nI (dx_tb tk ((bo_goal B f k).toInt)))) (dx_tk tk (dx_tb tk ((bo_goal B f k).toInt))) (dx_tf fr (dx_tb tk ((bo_goal B f k).toInt))) (dx_tx X (dx_tb tk ((bo_goal B f k).toInt))) = cX A D ct ad ((tbS (B, tk, fr, X) f k).1) ((tbS (B, tk, fr, X) f k).2.1) ((tbS (B, tk, fr, X) f k).2.2.1) ((tbS (B, tk, fr, X) f k).2.2.2) := (by unfold tbS tb_b; dsimp only; first | (rw [if_neg (by omega)]; done) | rw [if_pos (by omega)])
      rw [e9] at hC9
      refine W.widen (k := 1) (n := 1024) (by omega) (by omega) ?_
      exact W.vret hx hb hr (fun t9 ht hW => ⟨rfl, by rw [ht]; exact hC9, hS.F ht⟩) hS.2.2 d_Bo_takeBlock_52
theorem m_Bo_giveBack : mV R_Bo y_Bo_giveBack (Cond.code y_Bo_giveBack c_Bo_giveBack 5 none) 2 := ⟨⟨w_179, w_180, w_6, w_181⟩, by decide +kernel⟩
set_option maxHeartbeats 4000000 in
set_option maxRecDepth 100000 in
theorem k_Bo_giveBack (l : Launch) {D : va_G} {ct : Nat → ClassId} {ad : Nat → Nat} {B : Nat → Int32} {g : Nat → Option Nat} {tk : Nat → Int32} {fr : Int32} {LP : List Nat} {pr : Nat → Nat → Int32} {A : Nat → Prop} {f : Nat} {x_f : Int32} (hx_f : x_f.toNatClampNeg = f) {k : Nat} (h0 : k ≤ 15) : Met l y_Bo_giveBack (Cond.code y_Bo_giveBack c_Bo_giveBack 5 none :: wA) (rmk 5 0 0) (va_Pc [.ref (ad 5), .int x_f, .int (nI k)] (cW A D (tyC ct) (wsC ct ad B g tk fr LP pr))) (wQ none A D (wsC ct ad ((gbS f (15 - k) k (B, tk, fr)).1) g ((gbS f (15 - k) k (B, tk, fr)).2.1) ((gbS f (15 - k) k (B, tk, fr)).2.2) LP pr)) 0 0 A := by
  refine Met.ofW (cc := c_Bo_giveBack) (maxL := 5) (ret := none) (by decide +kernel) rfl ?_
  intro p e s m args below meth c s₁ B0 hml hv
  obtain ⟨rfl, hA, hP, hD, hK⟩ := hv
  have hS : va_S A s.heap s.heap [] := va_S.rf
  have hx := B0.exec
  have hb := B0.bytes
  have hr := B0.returns
  have hts := fun w (h : w ∈ wA) => atoms_spec (ws := Cond.code y_Bo_giveBack c_Bo_giveBack 5 none :: wA) B0.pre w (List.mem_cons_of_mem _ h)
  have hown : s.vm.findClass R_Bo = some m.cls := findClass_of_methodNamed B0.named
  have hlocks := B0.notSynchronized
  have hl := lv_entry ([.ref (ad 5), .int x_f, .int (nI k)]) (n := 5) (Nat.le_of_ble_eq_true rfl)
  rw [lg_entry_eq]
  generalize (lg_sl ([.ref (ad 5), .int x_f, .int (nI k)]) ++ List.replicate (5 - (lg_sl ([.ref (ad 5), .int x_f, .int (nI k)])).length) Slot.unset).toArray = ls at hl ⊢
  have hl : lv_has ls 5 [(0, .ref (ad 5)), (1, .int x_f), (2, .int (nI k))] := hl
  have hf_f : x_f.toInt.toNat = f := hx_f
  have hg_f := z_lt x_f
  refine lv_iload_n hx hb d_Bo_giveBack_0 rfl (lv_at hl 2 rfl) ?_
  refine lv_istore_n (lv' := [(3, .int (nI k)), (0, .ref (ad 5)), (1, .int x_f), (2, .int (nI k))]) hx hb d_Bo_giveBack_1 rfl hl (by decide) rfl (fun ls hl => ?_)
  have loop2 : ∀ (n9 : Nat) (q : Nat) (S : c3), 15 - q < n9 → q ≤ 15 → gbS f (15 - k) k (B, tk, fr) = gbS f (15 - q) q S → ∀ (H : Heap) (locs : List Loc), va_P D vwC (wsC ct ad S.1 g S.2.1 S.2.2 LP pr) H → va_D A (wsC ct ad S.1 g S.2.1 S.2.2 LP pr) → va_S A s.heap H locs → ∀ ls : Array Slot, lv_has ls 5 [(0, .ref (ad 5)), (1, .int x_f), (2, .int (nI k)), (3, .int (nI q))] → W p l e (headSpec (Cond.code y_Bo_giveBack c_Bo_giveBack 5 none :: wA) (rmk 5 0 0)).room s m ([.ref (ad 5), .int x_f, .int (nI k)] : List Value).toArray below meth c H locs 0 0 (MQ below (wQ none A D (wsC ct ad ((gbS f (15 - k) k (B, tk, fr)).1) g ((gbS f (15 - k) k (B, tk, fr)).2.1) ((gbS f (15 - k) k (B, tk, fr)).2.2) LP pr)) ([.ref (ad 5), .int x_f, .int (nI k)] : List Value).toArray s 0 0 A) (F0 m 2 ls []) := by
    intro n9
    induction n9 with
    | zero => intro q S h8 h9 h10 H locs hP hD hS ls hl; exact absurd h8 (by omega)
    | succ n9 ih =>
      intro q S h8 h9 h10 H locs hP hD hS ls hl
      refine lv_iload_n hx hb d_Bo_giveBack_2 rfl (lv_at hl 3 rfl) ?_
      refine lv_bipush (v := nI 15) hx hb d_Bo_giveBack_3 (by decide) ?_
      refine ln_icmp_ge (tgt := 48) hx hb (by omega) (by omega) d_Bo_giveBack_5 (by decide) (fun c_1 => ?_) (fun c_1 => ?_)
      · skip
        have e9 : wsC ct ad S.1 g S.2.1 S.2.2 LP pr = wsC ct ad ((gbS f (15 - k) k (B, tk, fr)).1) g ((gbS f (15 - k) k (B, tk, fr)).2.1) ((gbS f (15 - k) k (B, tk, fr)).2.2) LP pr := (by rw [h10, show 15 - q = 0 by omega]; rfl)
        rw [e9] at hP hD
        exact W.vret hx hb hr (fun t9 ht hW => ⟨rfl, by rw [ht]; exact hP, hD, hS.F ht⟩) hS.2.2 d_Bo_giveBack_48
      · skip
        refine lv_aload_n hx hb d_Bo_giveBack_8 rfl (lv_at hl 0 rfl) ?_
        refine va_get (D := D) (ci := 0) (v := .ref (ad 2)) (C := R_Bo) (T := T_Bo) (N := 2) hx hb hts u_Bo hown hK hP 5 rfl rfl 1 (by decide) (hts _ w_94) (fun _ h9 => h9) rfl d_Bo_giveBack_9 ?_
        refine lv_iload_n hx hb d_Bo_giveBack_12 rfl (lv_at hl 1 rfl) ?_
        refine lv_iload_n hx hb d_Bo_giveBack_13 rfl (lv_at hl 3 rfl) ?_
        refine rdV ⟨hx, hb, hml, hown, hts⟩ hK hP (k_Re_blockOf l (f := f) (x_f := x_f) (z := ((q : Nat) : Int)) (x_z := (nI q)) hx_f (nI_toInt (by omega)) ) w_182 m_Re_blockOf ⟨by decide, by decide⟩ 2 rfl rfl rfl hl.1 rfl (Nat.le_of_ble_eq_true rfl) d_Bo_giveBack_14 ⟨Nat.zero_le _, Nat.zero_le _⟩ ?_
        refine lv_istore (lv' := [(4, .int (re_blk S.1 f ((q : Nat) : Int))), (0, .ref (ad 5)), (1, .int x_f), (2, .int (nI k)), (3, .int (nI q))]) hx hb d_Bo_giveBack_17 hl (by decide) rfl (fun ls hl => ?_)
        refine lv_iload hx hb d_Bo_giveBack_19 (lv_at hl 0 rfl) ?_
        refine lv_if_eq (tgt := 42) hx hb d_Bo_giveBack_21 (by decide) (fun c_2 => ?_) (fun c_2 => ?_)
        · skip
          refine lv_iinc (v := nI (q + 1)) (lv' := [(3, .int (nI (q + 1))), (4, .int (re_blk S.1 f ((q : Nat) : Int))), (0, .ref (ad 5)), (1, .int x_f), (2, .int (nI k))]) hx hb d_Bo_giveBack_42 hl (k := 4) rfl (ln_inc (by decide)) (by decide) rfl (fun ls hl => ?_)
          refine lv_goto (tgt := 2) hx hb d_Bo_giveBack_45 (by decide) ?_
          exact ih (q + 1) (S.1, S.2.1, S.2.2) (by omega) (by omega) (by rw [h10, show 15 - q = 15 - (q + 1) + 1 by omega, gbS]; first | rw [if_pos (by assumption)] | rw [if_neg (by assumption)]) _ _ hP hD hS ls (lv_sub hl [2, 3, 4, 0] rfl)
        · skip
          refine lv_aload_n hx hb d_Bo_giveBack_24 rfl (lv_at hl 1 rfl) ?_
          refine va_get (D := D) (ci := 0) (v := .ref (ad 1)) (C := R_Bo) (T := T_Bo) (N := 2) hx hb hts u_Bo hown hK hP 5 rfl rfl 0 (by decide) (hts _ w_93) (fun _ h9 => h9) rfl d_Bo_giveBack_25 ?_
          refine lv_iload hx hb d_Bo_giveBack_28 (lv_at hl 0 rfl) ?_
          refine wrV ⟨hx, hb, hml, hown, hts⟩ hK hP hD hS hA (k_Db_give l (b := ((re_blk S.1 f ((q : Nat) : Int)).toInt)) (x_b := (re_blk S.1 f ((q : Nat) : Int))) rfl ) w_187 m_Db_give ⟨by decide, by decide⟩ 1 rfl rfl rfl hl.1 rfl (Nat.le_of_ble_eq_true rfl) d_Bo_giveBack_30 ⟨Nat.zero_le _, Nat.zero_le _⟩ (fun H locs hP hD hS => ?_)
          have hP : va_P D vwC (wsC ct ad S.1 g (db_gt S.2.1 ((re_blk S.1 f ((q : Nat) : Int)).toInt)) (db_gf S.2.1 S.2.2 ((re_blk S.1 f ((q : Nat) : Int)).toInt)) LP pr) H := hP
          have hD : va_D A (wsC ct ad S.1 g (db_gt S.2.1 ((re_blk S.1 f ((q : Nat) : Int)).toInt)) (db_gf S.2.1 S.2.2 ((re_blk S.1 f ((q : Nat) : Int)).toInt)) LP pr) := hD
          refine W.eq (g2 := F0 m 33 ls []) rfl ?_
          refine lv_aload_n hx hb d_Bo_giveBack_33 rfl (lv_at hl 1 rfl) ?_
          refine va_get (D := D) (ci := 0) (v := .ref (ad 2)) (C := R_Bo) (T := T_Bo) (N := 2) hx hb hts u_Bo hown hK hP 5 rfl rfl 1 (by decide) (hts _ w_94) (fun _ h9 => h9) rfl d_Bo_giveBack_34 ?_
          refine lv_iload_n hx hb d_Bo_giveBack_37 rfl (lv_at hl 2 rfl) ?_
          refine lv_iload_n hx hb d_Bo_giveBack_38 rfl (lv_at hl 4 rfl) ?_
          refine wrV ⟨hx, hb, hml, hown, hts⟩ hK hP hD hS hA (k_Re_removeBlock l (f := f) (x_f := x_f) (k := q) hx_f (by omega)) w_191 m_Re_removeBlock ⟨by decide, by decide⟩ 2 rfl rfl rfl hl.1 rfl (Nat.le_of_ble_eq_true rfl) d_Bo_giveBack_39 ⟨Nat.zero_le _, Nat.zero_le _⟩ (fun H locs hP hD hS => ?_)
          have hP : va_P D vwC (wsC ct ad (re_rem S.1 f q) g (db_gt S.2.1 ((re_blk S.1 f ((q : Nat) : Int)).toInt)) (db_gf S.2.1 S.2.2 ((re_blk S.1 f ((q : Nat) : Int)).toInt)) LP pr) H := hP
          have hD : va_D A (wsC ct ad (re_rem S.1 f q) g (db_gt S.2.1 ((re_blk S.1 f ((q : Nat) : Int)).toInt)) (db_gf S.2.1 S.2.2 ((re_blk S.1 f ((q : Nat) : Int)).toInt)) LP pr) := hD
          refine W.eq (g2 := F0 m 42 ls []) rfl ?_
          refine lv_iinc (v := nI (q + 1)) (lv' := [(3, .int (nI (q + 1))), (4, .int (re_blk S.1 f ((q : Nat) : Int))), (0, .ref (ad 5)), (1, .int x_f), (2, .int (nI k))]) hx hb d_Bo_giveBack_42 hl (k := 4) rfl (ln_inc (by decide)) (by decide) rfl (fun ls hl => ?_)
          refine lv_goto (tgt := 2) hx hb d_Bo_giveBack_45 (by decide) ?_
          exact ih (q + 1) ((re_rem S.1 f q), (db_gt S.2.1 ((re_blk S.1 f ((q : Nat) : Int)).toInt)), (db_gf S.2.1 S.2.2 ((re_blk S.1 f ((q : Nat) : Int)).toInt))) (by omega) (by omega) (by rw [h10, show 15 - q = 15 - (q + 1) + 1 by omega, gbS]; first | rw [if_pos (by assumption)] | rw [if_neg (by assumption)]) _ _ hP hD hS ls (lv_sub hl [2, 3, 4, 0] rfl)
  exact loop2 (15 - k + 1) k (B, tk, fr) (by omega) (by omega) rfl _ _ hP hD hS ls (lv_sub hl [1, 2, 3, 0] rfl)
theorem m_Bo_prepare : mV R_Bo y_Bo_prepare (Cond.code y_Bo_prepare c_Bo_prepare 5 none) 3 := ⟨⟨w_415, w_416, w_6, w_417⟩, by decide +kernel⟩
set_option maxHeartbeats 4000000 in
set_option maxRecDepth 100000 in
theorem k_Bo_prepare (l : Launch) {D : va_G} {ct : Nat → ClassId} {ad : Nat → Nat} {B : Nat → Int32} {tk : Nat → Int32} {fr : Int32} {X : Nat → Option (Nat → Int32)} {A : Nat → Prop} {f : Nat} {x_f : Int32} (hx_f : x_f.toNatClampNeg = f) {a : Nat} {n : Nat} (h0 : a + n ≤ 15360) (h1 : 1 ≤ n) (h2 : n ≤ 4000) : Met l y_Bo_prepare (Cond.code y_Bo_prepare c_Bo_prepare 5 none :: wA) (rmk 6 5 5120) (va_Pc [.ref (ad 5), .int x_f, .int (nI a), .int (nI n)] (cS A D ct ad B tk fr X)) (xQ none A D ct ad (pr_B (B, tk, fr, X) f a n) ((pr_S (B, tk, fr, X) f a n).2.1) ((pr_S (B, tk, fr, X) f a n).2.2.1) ((pr_S (B, tk, fr, X) f a n).2.2.2)) 5 5120 A := by
  refine Met.ofW (cc := c_Bo_prepare) (maxL := 5) (ret := none) (by decide +kernel) rfl ?_
  intro p e s m args below meth c s₁ B0 hml hv
  obtain ⟨rfl, hA, hE, hK, g, LP, pr, hrx, hP, hD⟩ := hv
  have hS : va_S A s.heap s.heap [] := va_S.rf
  have hx := B0.exec
  have hb := B0.bytes
  have hr := B0.returns
  have hts := fun w (h : w ∈ wA) => atoms_spec (ws := Cond.code y_Bo_prepare c_Bo_prepare 5 none :: wA) B0.pre w (List.mem_cons_of_mem _ h)
  have hown : s.vm.findClass R_Bo = some m.cls := findClass_of_methodNamed B0.named
  have hlocks := B0.notSynchronized
  have hl := lv_entry ([.ref (ad 5), .int x_f, .int (nI a), .int (nI n)]) (n := 5) (Nat.le_of_ble_eq_true rfl)
  rw [lg_entry_eq]
  generalize (lg_sl ([.ref (ad 5), .int x_f, .int (nI a), .int (nI n)]) ++ List.replicate (5 - (lg_sl ([.ref (ad 5), .int x_f, .int (nI a), .int (nI n)])).length) Slot.unset).toArray = ls at hl ⊢
  have hl : lv_has ls 5 [(0, .ref (ad 5)), (1, .int x_f), (2, .int (nI a)), (3, .int (nI n))] := hl
  have hf_f : x_f.toInt.toNat = f := hx_f
  have hg_f := z_lt x_f
  refine lv_iload_n hx hb d_Bo_prepare_0 rfl (lv_at hl 2 rfl) ?_
  refine lv_sipush (v := nI 1024) hx hb d_Bo_prepare_1 (by decide) ?_
  refine ln_idiv hx hb d_Bo_prepare_4 (by omega) (by omega) (by omega) ?_
  refine lv_istore (lv' := [(4, .int (nI (a / 1024))), (0, .ref (ad 5)), (1, .int x_f), (2, .int (nI a)), (3, .int (nI n))]) hx hb d_Bo_prepare_5 hl (by decide) rfl (fun ls hl => ?_)
  have loop7 : ∀ (n9 : Nat) (q : Nat) (S : cs) (cs9 : Nat) (sl9 : Nat), (a + n - 1) / 1024 + 1 - q < n9 → q ≤ (a + n - 1) / 1024 + 1 → cs9 + ((a + n - 1) / 1024 + 1 - q) ≤ 5 → sl9 + 1024 * ((a + n - 1) / 1024 + 1 - q) ≤ 5120 → pr_S (B, tk, fr, X) f a n = prS f ((a + n - 1) / 1024 + 1 - q) q S → ∀ (g : Nat → Option Nat) (LP : List Nat) (pr : Nat → Nat → Int32), rX g LP pr S.2.2.2 → ∀ (H : Heap) (locs : List Loc), va_P D vwC (wsC ct ad S.1 g S.2.1 S.2.2.1 LP pr) H → va_D A (wsC ct ad S.1 g S.2.1 S.2.2.1 LP pr) → va_S A s.heap H locs → ∀ ls : Array Slot, lv_has ls 5 [(0, .ref (ad 5)), (1, .int x_f), (2, .int (nI a)), (3, .int (nI n)), (4, .int (nI q))] → W p l e (headSpec (Cond.code y_Bo_prepare c_Bo_prepare 5 none :: wA) (rmk 6 5 5120)).room s m ([.ref (ad 5), .int x_f, .int (nI a), .int (nI n)] : List Value).toArray below meth c H locs cs9 sl9 (MQ below (xQ none A D ct ad (pr_B (B, tk, fr, X) f a n) ((pr_S (B, tk, fr, X) f a n).2.1) ((pr_S (B, tk, fr, X) f a n).2.2.1) ((pr_S (B, tk, fr, X) f a n).2.2.2)) ([.ref (ad 5), .int x_f, .int (nI a), .int (nI n)] : List Value).toArray s 5 5120 A) (F0 m 7 ls []) := by
    intro n9
    induction n9 with
    | zero => intro q S cs9 sl9 h8 h9 h11 h12 h10 g LP pr hrx H locs hP hD hS ls hl; exact absurd h8 (by omega)
    | succ n9 ih =>
      intro q S cs9 sl9 h8 h9 h11 h12 h10 g LP pr hrx H locs hP hD hS ls hl
      refine lv_iload hx hb d_Bo_prepare_7 (lv_at hl 4 rfl) ?_
      refine lv_iload_n hx hb d_Bo_prepare_9 rfl (lv_at hl 2 rfl) ?_
      refine lv_iload_n hx hb d_Bo_prepare_10 rfl (lv_at hl 3 rfl) ?_
      refine rdS ⟨hx, hb, hml, hown, hts⟩ hK hP (k_Bo_lastPiece l (a := a) (n := n) (by omega) (by omega)) w_410 m_Bo_lastPiece ⟨by decide, by decide⟩ rfl hl.1 rfl (Nat.le_of_ble_eq_true rfl) d_Bo_prepare_11 ⟨show cs9 ≤ 5 by omega, show sl9 ≤ 5120 by omega⟩ ?_
      refine ln_icmp_gt (tgt := 43) hx hb (by omega) (by omega) d_Bo_prepare_14 (by decide) (fun c_1 => ?_) (fun c_1 => ?_)
      · skip
        refine lv_aload_n hx hb d_Bo_prepare_43 rfl (lv_at hl 0 rfl) ?_
        refine va_get (D := D) (ci := 0) (v := .ref (ad 2)) (C := R_Bo) (T := T_Bo) (N := 2) hx hb hts u_Bo hown hK hP 5 rfl rfl 1 (by decide) (hts _ w_94) (fun _ h9 => h9) rfl d_Bo_prepare_44 ?_
        refine lv_iload_n hx hb d_Bo_prepare_47 rfl (lv_at hl 1 rfl) ?_
        refine lv_aload_n hx hb d_Bo_prepare_48 rfl (lv_at hl 0 rfl) ?_
        refine va_get (D := D) (ci := 0) (v := .ref (ad 2)) (C := R_Bo) (T := T_Bo) (N := 2) hx hb hts u_Bo hown hK hP 5 rfl rfl 1 (by decide) (hts _ w_94) (fun _ h9 => h9) rfl d_Bo_prepare_49 ?_
        refine lv_iload_n hx hb d_Bo_prepare_52 rfl (lv_at hl 1 rfl) ?_
        refine rdV ⟨hx, hb, hml, hown, hts⟩ hK hP (k_Re_sizeOf l (f := f) (x_f := x_f) hx_f ) w_418 m_Re_sizeOf ⟨by decide, by decide⟩ 2 rfl rfl rfl hl.1 rfl (Nat.le_of_ble_eq_true rfl) d_Bo_prepare_53 ⟨show cs9 ≤ 5 by omega, show sl9 ≤ 5120 by omega⟩ ?_
        refine lv_iload_n hx hb d_Bo_prepare_56 rfl (lv_at hl 2 rfl) ?_
        refine lv_iload_n hx hb d_Bo_prepare_57 rfl (lv_at hl 3 rfl) ?_
        refine ln_iadd hx hb d_Bo_prepare_58 ?_
        refine va_mmax hx hb (hml.trans hl.1.symm) hown (hts _ w_419) (hts _ w_366) (hts _ w_13) (hts _ w_367) (Nat.le_of_ble_eq_true rfl) (Nat.le_of_ble_eq_true rfl) (show cs9 ≤ 5 by omega) (show sl9 ≤ 5120 by omega) d_Bo_prepare_59 ?_
        refine wrV ⟨hx, hb, hml, hown, hts⟩ hK hP hD hS hA (k_Re_setSize l (f := f) (x_f := x_f) (v := (if re_f S.1 f 4 4 < nI (a + n) then nI (a + n) else re_f S.1 f 4 4)) hx_f ) w_420 m_Re_setSize ⟨by decide, by decide⟩ 2 rfl rfl rfl hl.1 rfl (Nat.le_of_ble_eq_true rfl) d_Bo_prepare_62 ⟨show cs9 + 0 ≤ 5 by omega, show sl9 + 0 ≤ 5120 by omega⟩ (fun H locs hP hD hS => ?_)
        have hP : va_P D vwC (wsC ct ad (re_set S.1 f 4 4 (if re_f S.1 f 4 4 < nI (a + n) then nI (a + n) else re_f S.1 f 4 4)) g S.2.1 S.2.2.1 LP pr) H := hP
        have hD : va_D A (wsC ct ad (re_set S.1 f 4 4 (if re_f S.1 f 4 4 < nI (a + n) then nI (a + n) else re_f S.1 f 4 4)) g S.2.1 S.2.2.1 LP pr) := hD
        refine W.eq (g2 := F0 m 65 ls []) rfl ?_
        have hC9 : cX A D ct ad (re_set S.1 f 4 4 (if re_f S.1 f 4 4 < nI (a + n) then nI (a + n) else re_f S.1 f 4 4)) S.2.1 S.2.2.1 S.2.2.2 H := ⟨g, LP, pr, hrx, hP, hD⟩
        have e9 : cX A D ct ad (re_set S.1 f 4 4 (if re_f S.1 f 4 4 < nI (a + n) then nI (a + n) else re_f S.1 f 4 4)) S.2.1 S.2.2.1 S.2.2.2 = cX A D ct ad (pr_B (B, tk, fr, X) f a n) ((pr_S (B, tk, fr, X) f a n).2.1) ((pr_S (B, tk, fr, X) f a n).2.2.1) ((pr_S (B, tk, fr, X) f a n).2.2.2) := (by unfold pr_B; rw [h10, show (a + n - 1) / 1024 + 1 - q = 0 by omega]; rfl)
        rw [e9] at hC9
        refine W.widen (k := 5) (n := 5120) (by omega) (by omega) ?_
        exact W.vret hx hb hr (fun t9 ht hW => ⟨rfl, by rw [ht]; exact hC9, hS.F ht⟩) hS.2.2 d_Bo_prepare_65
      · skip
        refine lv_aload_n hx hb d_Bo_prepare_17 rfl (lv_at hl 0 rfl) ?_
        refine va_get (D := D) (ci := 0) (v := .ref (ad 2)) (C := R_Bo) (T := T_Bo) (N := 2) hx hb hts u_Bo hown hK hP 5 rfl rfl 1 (by decide) (hts _ w_94) (fun _ h9 => h9) rfl d_Bo_prepare_18 ?_
        refine lv_iload_n hx hb d_Bo_prepare_21 rfl (lv_at hl 1 rfl) ?_
        refine lv_iload hx hb d_Bo_prepare_22 (lv_at hl 4 rfl) ?_
        refine rdV ⟨hx, hb, hml, hown, hts⟩ hK hP (k_Re_blockOf l (f := f) (x_f := x_f) (z := ((q : Nat) : Int)) (x_z := (nI q)) hx_f (nI_toInt (by omega)) ) w_182 m_Re_blockOf ⟨by decide, by decide⟩ 2 rfl rfl rfl hl.1 rfl (Nat.le_of_ble_eq_true rfl) d_Bo_prepare_24 ⟨show cs9 ≤ 5 by omega, show sl9 ≤ 5120 by omega⟩ ?_
        refine lv_if_ne (tgt := 37) hx hb d_Bo_prepare_27 (by decide) (fun c_2 => ?_) (fun c_2 => ?_)
        · skip
          refine lv_iinc (v := nI (q + 1)) (lv' := [(4, .int (nI (q + 1))), (0, .ref (ad 5)), (1, .int x_f), (2, .int (nI a)), (3, .int (nI n))]) hx hb d_Bo_prepare_37 hl (k := 4) rfl (ln_inc (by decide)) (by decide) rfl (fun ls hl => ?_)
          refine lv_goto (tgt := 7) hx hb d_Bo_prepare_40 (by decide) ?_
          exact ih (q + 1) (S.1, S.2.1, S.2.2.1, S.2.2.2) cs9 sl9 (by omega) (by omega) (by omega) (by omega) (by rw [h10, show (a + n - 1) / 1024 + 1 - q = (a + n - 1) / 1024 + 1 - (q + 1) + 1 by omega, prS]; first | rw [if_pos (by assumption)] | rw [if_neg (by assumption)]) _ _ _ hrx _ _ hP hD hS ls (lv_sub hl [1, 2, 3, 4, 0] rfl)
        · skip
          refine lv_aload_n hx hb d_Bo_prepare_30 rfl (lv_at hl 0 rfl) ?_
          refine lv_iload_n hx hb d_Bo_prepare_31 rfl (lv_at hl 1 rfl) ?_
          refine lv_iload hx hb d_Bo_prepare_32 (lv_at hl 4 rfl) ?_
          refine wrX ⟨hx, hb, hml, hown, hts⟩ hE hK hrx hP hD hS hA (k_Bo_takeBlock l (f := f) (x_f := x_f) (k := q) hx_f (by omega)) w_353 m_Bo_takeBlock ⟨by decide, by decide⟩ 5 rfl rfl rfl hl.1 rfl (Nat.le_of_ble_eq_true rfl) d_Bo_prepare_34 ⟨show cs9 + 1 ≤ 5 by omega, show sl9 + 1024 ≤ 5120 by omega⟩ (fun H locs g LP pr hrx hP hD hS => ?_)
          refine W.eq (g2 := F0 m 37 ls []) rfl ?_
          refine lv_iinc (v := nI (q + 1)) (lv' := [(4, .int (nI (q + 1))), (0, .ref (ad 5)), (1, .int x_f), (2, .int (nI a)), (3, .int (nI n))]) hx hb d_Bo_prepare_37 hl (k := 4) rfl (ln_inc (by decide)) (by decide) rfl (fun ls hl => ?_)
          refine lv_goto (tgt := 7) hx hb d_Bo_prepare_40 (by decide) ?_
          exact ih (q + 1) (((tbS (S.1, S.2.1, S.2.2.1, S.2.2.2) f q).1), ((tbS (S.1, S.2.1, S.2.2.1, S.2.2.2) f q).2.1), ((tbS (S.1, S.2.1, S.2.2.1, S.2.2.2) f q).2.2.1), ((tbS (S.1, S.2.1, S.2.2.1, S.2.2.2) f q).2.2.2)) (cs9 + 1) (sl9 + 1024) (by omega) (by omega) (by omega) (by omega) (by rw [h10, show (a + n - 1) / 1024 + 1 - q = (a + n - 1) / 1024 + 1 - (q + 1) + 1 by omega, prS]; first | rw [if_pos (by assumption)] | rw [if_neg (by assumption)]) _ _ _ hrx _ _ hP hD hS ls (lv_sub hl [1, 2, 3, 4, 0] rfl)
  exact loop7 ((a + n - 1) / 1024 + 2) (a / 1024) (B, tk, fr, X) 0 0 (by omega) (by omega) (by omega) (by omega) rfl _ _ _ hrx _ _ hP hD hS ls (lv_sub hl [1, 2, 3, 4, 0] rfl)
theorem m_Bo_setBytes : mV R_Bo y_Bo_setBytes (Cond.code y_Bo_setBytes c_Bo_setBytes 10 none) 4 := ⟨⟨w_422, w_423, w_6, w_424⟩, by decide +kernel⟩
set_option maxHeartbeats 4000000 in
set_option maxRecDepth 100000 in
theorem k_Bo_setBytes (l : Launch) {D : va_G} {ct : Nat → ClassId} {ad : Nat → Nat} {B : Nat → Int32} {tk : Nat → Int32} {fr : Int32} {X : Nat → Option (Nat → Int32)} {A : Nat → Prop} {f : Nat} {x_f : Int32} (hx_f : x_f.toNatClampNeg = f) {a : Nat} {r : Int64} {n : Nat} (h0 : a + n ≤ 15360) (h1 : 1 ≤ n) : Met l y_Bo_setBytes (Cond.code y_Bo_setBytes c_Bo_setBytes 10 none :: wA) (rmk 5 0 0) (va_Pc [.ref (ad 5), .int x_f, .int (nI a), .long r, .int (nI n)] (cS A D ct ad B tk fr X)) (xQ none A D ct ad B tk fr (sbX B f a n X r)) 0 0 A := by
  refine Met.ofW (cc := c_Bo_setBytes) (maxL := 10) (ret := none) (by decide +kernel) rfl ?_
  intro p e s m args below meth c s₁ B0 hml hv
  obtain ⟨rfl, hA, hE, hK, g, LP, pr, hrx, hP, hD⟩ := hv
  have hS : va_S A s.heap s.heap [] := va_S.rf
  have hx := B0.exec
  have hb := B0.bytes
  have hr := B0.returns
  have hts := fun w (h : w ∈ wA) => atoms_spec (ws := Cond.code y_Bo_setBytes c_Bo_setBytes 10 none :: wA) B0.pre w (List.mem_cons_of_mem _ h)
  have hown : s.vm.findClass R_Bo = some m.cls := findClass_of_methodNamed B0.named
  have hlocks := B0.notSynchronized
  have hl := lv_entry ([.ref (ad 5), .int x_f, .int (nI a), .long r, .int (nI n)]) (n := 10) (Nat.le_of_ble_eq_true rfl)
  rw [lg_entry_eq]
  generalize (lg_sl ([.ref (ad 5), .int x_f, .int (nI a), .long r, .int (nI n)]) ++ List.replicate (10 - (lg_sl ([.ref (ad 5), .int x_f, .int (nI a), .long r, .int (nI n)])).length) Slot.unset).toArray = ls at hl ⊢
  have hl : lv_has ls 10 [(0, .ref (ad 5)), (1, .int x_f), (2, .int (nI a)), (3, .long r), (5, .int (nI n))] := hl
  have hf_f : x_f.toInt.toNat = f := hx_f
  have hg_f := z_lt x_f
  refine lv_lload_n hx hb d_Bo_setBytes_0 rfl (lv_at hl 3 rfl) ?_
  refine lv_lstore (lv' := [(6, .long r), (0, .ref (ad 5)), (1, .int x_f), (2, .int (nI a)), (3, .long r), (5, .int (nI n))]) hx hb d_Bo_setBytes_1 hl (by decide) rfl (fun ls hl => ?_)
  refine lv_iload_n hx hb d_Bo_setBytes_3 rfl (lv_at hl 3 rfl) ?_
  refine lv_iload hx hb d_Bo_setBytes_4 (lv_at hl 5 rfl) ?_
  refine ln_iadd hx hb d_Bo_setBytes_6 ?_
  refine lv_iconst (v := nI 1) hx hb d_Bo_setBytes_7 (by decide) ?_
  refine lv_isub hx hb d_Bo_setBytes_8 ?_
  have z_1 : ((nI (a + n)) - (nI 1)).toInt = ((a + n : Nat) : Int) - ((1 : Nat) : Int) := z_sub (nI_toInt (by omega)) (nI_toInt (by omega)) (by omega) (by omega)
  refine lv_istore (lv' := [(8, .int ((nI (a + n)) - (nI 1))), (6, .long r), (0, .ref (ad 5)), (1, .int x_f), (2, .int (nI a)), (3, .long r), (5, .int (nI n))]) hx hb d_Bo_setBytes_9 hl (by decide) rfl (fun ls hl => ?_)
  have loop11 : ∀ (n9 : Nat) (j : Nat) (i : Int32) (r1 : Int64) (X1 : Nat → Option (Nat → Int32)), j < n9 → j ≤ n → i.toInt = ((a + j : Nat) : Int) - 1 → sbX B f a n X r = sbX B f a j X1 r1 → ∀ (g : Nat → Option Nat) (LP : List Nat) (pr : Nat → Nat → Int32), rX g LP pr X1 → ∀ (H : Heap) (locs : List Loc), va_P D vwC (wsC ct ad B g tk fr LP pr) H → va_D A (wsC ct ad B g tk fr LP pr) → va_S A s.heap H locs → ∀ ls : Array Slot, lv_has ls 10 [(0, .ref (ad 5)), (1, .int x_f), (2, .int (nI a)), (3, .long r), (5, .int (nI n)), (6, .long r1), (8, .int i)] → W p l e (headSpec (Cond.code y_Bo_setBytes c_Bo_setBytes 10 none :: wA) (rmk 5 0 0)).room s m ([.ref (ad 5), .int x_f, .int (nI a), .long r, .int (nI n)] : List Value).toArray below meth c H locs 0 0 (MQ below (xQ none A D ct ad B tk fr (sbX B f a n X r)) ([.ref (ad 5), .int x_f, .int (nI a), .long r, .int (nI n)] : List Value).toArray s 0 0 A) (F0 m 11 ls []) := by
    intro n9
    induction n9 with
    | zero => intro j i r1 X1 h8 h9 hi h10 g LP pr hrx H locs hP hD hS ls hl; exact absurd h8 (by omega)
    | succ n9 ih =>
      intro j i r1 X1 h8 h9 hi h10 g LP pr hrx H locs hP hD hS ls hl
      refine lv_iload hx hb d_Bo_setBytes_11 (lv_at hl 6 rfl) ?_
      refine lv_iload_n hx hb d_Bo_setBytes_13 rfl (lv_at hl 2 rfl) ?_
      refine lz_icmp_lt (tgt := 64) hx hb hi (nI_toInt (by omega)) d_Bo_setBytes_14 (by decide) (fun c_2 => ?_) (fun c_2 => ?_)
      · skip
        have hC9 : cX A D ct ad B tk fr X1 H := ⟨g, LP, pr, hrx, hP, hD⟩
        have e9 : cX A D ct ad B tk fr X1 = cX A D ct ad B tk fr (sbX B f a n X r) := (by rw [h10, show j = 0 by omega]; rfl)
        rw [e9] at hC9
        exact W.vret hx hb hr (fun t9 ht hW => ⟨rfl, by rw [ht]; exact hC9, hS.F ht⟩) hS.2.2 d_Bo_setBytes_64
      · skip
        have hj : ∃ j9, j = j9 + 1 := ⟨j - 1, by omega⟩
        obtain ⟨j9, rfl⟩ := hj
        obtain rfl : i = nI (a + j9) := z_i (by rw [hi]; omega) (by omega)
        refine lv_aload_n hx hb d_Bo_setBytes_17 rfl (lv_at hl 0 rfl) ?_
        refine va_get (D := D) (ci := 0) (v := .ref (ad 2)) (C := R_Bo) (T := T_Bo) (N := 2) hx hb hts u_Bo hown hK hP 5 rfl rfl 1 (by decide) (hts _ w_94) (fun _ h9 => h9) rfl d_Bo_setBytes_18 ?_
        refine lv_iload_n hx hb d_Bo_setBytes_21 rfl (lv_at hl 1 rfl) ?_
        refine lv_iload hx hb d_Bo_setBytes_22 (lv_at hl 6 rfl) ?_
        refine lv_sipush (v := nI 1024) hx hb d_Bo_setBytes_24 (by decide) ?_
        refine ln_idiv hx hb d_Bo_setBytes_27 (by omega) (by omega) (by omega) ?_
        refine rdV ⟨hx, hb, hml, hown, hts⟩ hK hP (k_Re_blockOf l (f := f) (x_f := x_f) (z := (((a + j9) / 1024 : Nat) : Int)) (x_z := (nI ((a + j9) / 1024))) hx_f (nI_toInt (by omega)) ) w_182 m_Re_blockOf ⟨by decide, by decide⟩ 2 rfl rfl rfl hl.1 rfl (Nat.le_of_ble_eq_true rfl) d_Bo_setBytes_28 ⟨Nat.zero_le _, Nat.zero_le _⟩ ?_
        refine lv_istore (lv' := [(9, .int (re_blk B f (((a + j9) / 1024 : Nat) : Int))), (0, .ref (ad 5)), (1, .int x_f), (2, .int (nI a)), (3, .long r), (5, .int (nI n)), (6, .long r1), (8, .int (nI (a + j9)))]) hx hb d_Bo_setBytes_31 hl (by decide) rfl (fun ls hl => ?_)
        refine lv_aload_n hx hb d_Bo_setBytes_33 rfl (lv_at hl 1 rfl) ?_
        refine va_get (D := D) (ci := 0) (v := .ref (ad 1)) (C := R_Bo) (T := T_Bo) (N := 2) hx hb hts u_Bo hown hK hP 5 rfl rfl 0 (by decide) (hts _ w_93) (fun _ h9 => h9) rfl d_Bo_setBytes_34 ?_
        refine lv_iload hx hb d_Bo_setBytes_37 (lv_at hl 0 rfl) ?_
        refine lv_iload hx hb d_Bo_setBytes_39 (lv_at hl 7 rfl) ?_
        refine lv_sipush (v := nI 1024) hx hb d_Bo_setBytes_41 (by decide) ?_
        refine ln_irem hx hb d_Bo_setBytes_44 (by omega) (by omega) (by omega) ?_
        refine lv_lload hx hb d_Bo_setBytes_45 (lv_at hl 6 rfl) ?_
        refine lv_l2i hx hb d_Bo_setBytes_47 rfl ?_
        refine wrX ⟨hx, hb, hml, hown, hts⟩ hE hK hrx hP hD hS hA (k_Db_setByte l (b := ((re_blk B f (((a + j9) / 1024 : Nat) : Int)).toInt)) (x_b := (re_blk B f (((a + j9) / 1024 : Nat) : Int))) (i := ((a + j9) % 1024)) (v := r1.toInt32) rfl (by omega)) w_375 m_Db_setByte ⟨by decide, by decide⟩ 1 rfl rfl rfl hl.1 rfl (Nat.le_of_ble_eq_true rfl) d_Bo_setBytes_48 ⟨Nat.zero_le _, Nat.zero_le _⟩ (fun H locs g LP pr hrx hP hD hS => ?_)
        refine W.eq (g2 := F0 m 51 ls []) rfl ?_
        refine lv_lload hx hb d_Bo_setBytes_51 (lv_at hl 6 rfl) ?_
        refine lv_bipush (v := nI 8) hx hb d_Bo_setBytes_53 (by decide) ?_
        refine lv_lushr hx hb d_Bo_setBytes_55 rfl ?_
        refine lv_lstore (lv' := [(6, .long ((r1.toUInt64 >>> ((nI 8).toInt64.toUInt64 &&& Int64.toUInt64 63)).toInt64)), (9, .int (re_blk B f (((a + j9) / 1024 : Nat) : Int))), (0, .ref (ad 5)), (1, .int x_f), (2, .int (nI a)), (3, .long r), (5, .int (nI n)), (8, .int (nI (a + j9)))]) hx hb d_Bo_setBytes_56 hl (by decide) rfl (fun ls hl => ?_)
        refine lv_iinc (v := (nI (a + j9)) + Int32.ofInt (-1)) (lv' := [(8, .int ((nI (a + j9)) + Int32.ofInt (-1))), (6, .long ((r1.toUInt64 >>> ((nI 8).toInt64.toUInt64 &&& Int64.toUInt64 63)).toInt64)), (9, .int (re_blk B f (((a + j9) / 1024 : Nat) : Int))), (0, .ref (ad 5)), (1, .int x_f), (2, .int (nI a)), (3, .long r), (5, .int (nI n))]) hx hb d_Bo_setBytes_58 hl (k := 7) rfl (rfl) (by decide) rfl (fun ls hl => ?_)
        refine lv_goto (tgt := 11) hx hb d_Bo_setBytes_61 (by decide) ?_
        exact ih j9 ((nI (a + j9)) + Int32.ofInt (-1)) ((r1.toUInt64 >>> ((nI 8).toInt64.toUInt64 &&& Int64.toUInt64 63)).toInt64) (dx_put X1 ((re_blk B f (((a + j9) / 1024 : Nat) : Int)).toInt) ((a + j9) % 1024) r1.toInt32) (by omega) (by omega) (i_dec (by omega)) (by rw [h10, sbX]) _ _ _ hrx _ _ hP hD hS ls (lv_sub hl [3, 4, 5, 6, 7, 1, 0] rfl)
  exact loop11 (n + 1) n (nI (a + n) - nI 1) r X (by omega) (by omega) (i_sub1 (by omega)) rfl _ _ _ hrx _ _ hP hD hS ls (lv_sub hl [2, 3, 4, 5, 6, 1, 0] rfl)
theorem m_Bo_setPattern : mV R_Bo y_Bo_setPattern (Cond.code y_Bo_setPattern c_Bo_setPattern 10 none) 4 := ⟨⟨w_434, w_435, w_6, w_436⟩, by decide +kernel⟩
set_option maxHeartbeats 4000000 in
set_option maxRecDepth 100000 in
theorem k_Bo_setPattern (l : Launch) {D : va_G} {ct : Nat → ClassId} {ad : Nat → Nat} {B : Nat → Int32} {tk : Nat → Int32} {fr : Int32} {X : Nat → Option (Nat → Int32)} {A : Nat → Prop} {f : Nat} {x_f : Int32} (hx_f : x_f.toNatClampNeg = f) {a : Nat} {n : Nat} {x : Int32} (h0 : a + n ≤ 15360) (h1 : 1 ≤ n) : Met l y_Bo_setPattern (Cond.code y_Bo_setPattern c_Bo_setPattern 10 none :: wA) (rmk 5 0 0) (va_Pc [.ref (ad 5), .int x_f, .int (nI a), .int (nI n), .int x] (cS A D ct ad B tk fr X)) (xQ none A D ct ad B tk fr (ptX B f a n x ((a + n - 1) / 1024 + 1 - a / 1024) (a / 1024) X)) 0 0 A := by
  refine Met.ofW (cc := c_Bo_setPattern) (maxL := 10) (ret := none) (by decide +kernel) rfl ?_
  intro p e s m args below meth c s₁ B0 hml hv
  obtain ⟨rfl, hA, hE, hK, g, LP, pr, hrx, hP, hD⟩ := hv
  have hS : va_S A s.heap s.heap [] := va_S.rf
  have hx := B0.exec
  have hb := B0.bytes
  have hr := B0.returns
  have hts := fun w (h : w ∈ wA) => atoms_spec (ws := Cond.code y_Bo_setPattern c_Bo_setPattern 10 none :: wA) B0.pre w (List.mem_cons_of_mem _ h)
  have hown : s.vm.findClass R_Bo = some m.cls := findClass_of_methodNamed B0.named
  have hlocks := B0.notSynchronized
  have hl := lv_entry ([.ref (ad 5), .int x_f, .int (nI a), .int (nI n), .int x]) (n := 10) (Nat.le_of_ble_eq_true rfl)
  rw [lg_entry_eq]
  generalize (lg_sl ([.ref (ad 5), .int x_f, .int (nI a), .int (nI n), .int x]) ++ List.replicate (10 - (lg_sl ([.ref (ad 5), .int x_f, .int (nI a), .int (nI n), .int x])).length) Slot.unset).toArray = ls at hl ⊢
  have hl : lv_has ls 10 [(0, .ref (ad 5)), (1, .int x_f), (2, .int (nI a)), (3, .int (nI n)), (4, .int x)] := hl
  have hf_f : x_f.toInt.toNat = f := hx_f
  have hg_f := z_lt x_f
  refine lv_iload_n hx hb d_Bo_setPattern_0 rfl (lv_at hl 2 rfl) ?_
  refine lv_sipush (v := nI 1024) hx hb d_Bo_setPattern_1 (by decide) ?_
  refine ln_idiv hx hb d_Bo_setPattern_4 (by omega) (by omega) (by omega) ?_
  refine lv_istore (lv' := [(5, .int (nI (a / 1024))), (0, .ref (ad 5)), (1, .int x_f), (2, .int (nI a)), (3, .int (nI n)), (4, .int x)]) hx hb d_Bo_setPattern_5 hl (by decide) rfl (fun ls hl => ?_)
  have loop7 : ∀ (n9 : Nat) (q : Nat) (X1 : Nat → Option (Nat → Int32)), (a + n - 1) / 1024 + 1 - q < n9 → q ≤ (a + n - 1) / 1024 + 1 → a / 1024 ≤ q → ptX B f a n x ((a + n - 1) / 1024 + 1 - a / 1024) (a / 1024) X = ptX B f a n x ((a + n - 1) / 1024 + 1 - q) q X1 → ∀ (g : Nat → Option Nat) (LP : List Nat) (pr : Nat → Nat → Int32), rX g LP pr X1 → ∀ (H : Heap) (locs : List Loc), va_P D vwC (wsC ct ad B g tk fr LP pr) H → va_D A (wsC ct ad B g tk fr LP pr) → va_S A s.heap H locs → ∀ ls : Array Slot, lv_has ls 10 [(0, .ref (ad 5)), (1, .int x_f), (2, .int (nI a)), (3, .int (nI n)), (4, .int x), (5, .int (nI q))] → W p l e (headSpec (Cond.code y_Bo_setPattern c_Bo_setPattern 10 none :: wA) (rmk 5 0 0)).room s m ([.ref (ad 5), .int x_f, .int (nI a), .int (nI n), .int x] : List Value).toArray below meth c H locs 0 0 (MQ below (xQ none A D ct ad B tk fr (ptX B f a n x ((a + n - 1) / 1024 + 1 - a / 1024) (a / 1024) X)) ([.ref (ad 5), .int x_f, .int (nI a), .int (nI n), .int x] : List Value).toArray s 0 0 A) (F0 m 7 ls []) := by
    intro n9
    induction n9 with
    | zero => intro q X1 h8 h9 h11 h10 g LP pr hrx H locs hP hD hS ls hl; exact absurd h8 (by omega)
    | succ n9 ih =>
      intro q X1 h8 h9 h11 h10 g LP pr hrx H locs hP hD hS ls hl
      refine lv_iload hx hb d_Bo_setPattern_7 (lv_at hl 5 rfl) ?_
      refine lv_iload_n hx hb d_Bo_setPattern_9 rfl (lv_at hl 2 rfl) ?_
      refine lv_iload_n hx hb d_Bo_setPattern_10 rfl (lv_at hl 3 rfl) ?_
      refine rdS ⟨hx, hb, hml, hown, hts⟩ hK hP (k_Bo_lastPiece l (a := a) (n := n) (by omega) (by omega)) w_410 m_Bo_lastPiece ⟨by decide, by decide⟩ rfl hl.1 rfl (Nat.le_of_ble_eq_true rfl) d_Bo_setPattern_11 ⟨Nat.zero_le _, Nat.zero_le _⟩ ?_
      refine ln_icmp_gt (tgt := 93) hx hb (by omega) (by omega) d_Bo_setPattern_14 (by decide) (fun c_1 => ?_) (fun c_1 => ?_)
      · skip
        have hC9 : cX A D ct ad B tk fr X1 H := ⟨g, LP, pr, hrx, hP, hD⟩
        have e9 : cX A D ct ad B tk fr X1 = cX A D ct ad B tk fr (ptX B f a n x ((a + n - 1) / 1024 + 1 - a / 1024) (a / 1024) X) := (by rw [h10, show (a + n - 1) / 1024 + 1 - q = 0 by omega]; rfl)
        rw [e9] at hC9
        exact W.vret hx hb hr (fun t9 ht hW => ⟨rfl, by rw [ht]; exact hC9, hS.F ht⟩) hS.2.2 d_Bo_setPattern_93
      · skip
        refine lv_iload hx hb d_Bo_setPattern_17 (lv_at hl 5 rfl) ?_
        refine lv_sipush (v := nI 1024) hx hb d_Bo_setPattern_19 (by decide) ?_
        refine ln_imul hx hb d_Bo_setPattern_22 ?_
        refine lv_istore (lv' := [(6, .int (nI (q * 1024))), (0, .ref (ad 5)), (1, .int x_f), (2, .int (nI a)), (3, .int (nI n)), (4, .int x), (5, .int (nI q))]) hx hb d_Bo_setPattern_23 hl (by decide) rfl (fun ls hl => ?_)
        refine lv_iload_n hx hb d_Bo_setPattern_25 rfl (lv_at hl 3 rfl) ?_
        refine lv_iload hx hb d_Bo_setPattern_26 (lv_at hl 0 rfl) ?_
        refine lv_isub hx hb d_Bo_setPattern_28 ?_
        have z_2 : ((nI a) - (nI (q * 1024))).toInt = ((a : Nat) : Int) - ((q * 1024 : Nat) : Int) := z_sub (nI_toInt (by omega)) (nI_toInt (by omega)) (by omega) (by omega)
        refine lv_iconst (v := nI 0) hx hb d_Bo_setPattern_29 (by decide) ?_
        refine va_mmax hx hb (hml.trans hl.1.symm) hown (hts _ w_419) (hts _ w_366) (hts _ w_13) (hts _ w_367) (Nat.le_of_ble_eq_true rfl) (Nat.le_of_ble_eq_true rfl) (Nat.zero_le _) (Nat.zero_le _) d_Bo_setPattern_30 ?_
        obtain ⟨u, hu⟩ : ∃ u : Nat, u = a - q * 1024 := ⟨_, rfl⟩
        refine W.eq (g2 := F0 m 33 ls [.int (nI u)]) (by rw [zmax z_2 (by omega), hu]; congr 4; omega) ?_
        refine lv_istore (lv' := [(7, .int (nI u)), (6, .int (nI (q * 1024))), (0, .ref (ad 5)), (1, .int x_f), (2, .int (nI a)), (3, .int (nI n)), (4, .int x), (5, .int (nI q))]) hx hb d_Bo_setPattern_33 hl (by decide) rfl (fun ls hl => ?_)
        refine lv_iload_n hx hb d_Bo_setPattern_35 rfl (lv_at hl 4 rfl) ?_
        refine lv_iload_n hx hb d_Bo_setPattern_36 rfl (lv_at hl 5 rfl) ?_
        refine ln_iadd hx hb d_Bo_setPattern_37 ?_
        refine lv_iload hx hb d_Bo_setPattern_38 (lv_at hl 1 rfl) ?_
        refine lv_isub hx hb d_Bo_setPattern_40 ?_
        have z_3 : ((nI (a + n)) - (nI (q * 1024))).toInt = ((a + n : Nat) : Int) - ((q * 1024 : Nat) : Int) := z_sub (nI_toInt (by omega)) (nI_toInt (by omega)) (by omega) (by omega)
        refine lv_sipush (v := nI 1024) hx hb d_Bo_setPattern_41 (by decide) ?_
        refine va_mmin hx hb (hml.trans hl.1.symm) hown (hts _ w_437) (hts _ w_438) (hts _ w_13) (hts _ w_439) (Nat.le_of_ble_eq_true rfl) (Nat.le_of_ble_eq_true rfl) (Nat.zero_le _) (Nat.zero_le _) d_Bo_setPattern_44 ?_
        obtain ⟨v, hv⟩ : ∃ v : Nat, v = min (a + n - q * 1024) 1024 := ⟨_, rfl⟩
        refine W.eq (g2 := F0 m 47 ls [.int (nI v)]) (by rw [zmin z_3 (by omega) (by omega), hv]; congr 4; omega) ?_
        refine lv_istore (lv' := [(8, .int (nI v)), (7, .int (nI u)), (6, .int (nI (q * 1024))), (0, .ref (ad 5)), (1, .int x_f), (2, .int (nI a)), (3, .int (nI n)), (4, .int x), (5, .int (nI q))]) hx hb d_Bo_setPattern_47 hl (by decide) rfl (fun ls hl => ?_)
        refine lv_iload hx hb d_Bo_setPattern_49 (lv_at hl 7 rfl) ?_
        refine lv_bipush (v := nI 7) hx hb d_Bo_setPattern_51 (by decide) ?_
        refine lv_iload hx hb d_Bo_setPattern_53 (lv_at hl 2 rfl) ?_
        refine lv_iload hx hb d_Bo_setPattern_55 (lv_at hl 1 rfl) ?_
        refine ln_iadd hx hb d_Bo_setPattern_57 ?_
        refine lv_iload_n hx hb d_Bo_setPattern_58 rfl (lv_at hl 5 rfl) ?_
        refine ln_isub hx hb d_Bo_setPattern_59 (by omega) ?_
        refine ln_imul hx hb d_Bo_setPattern_60 ?_
        refine lv_iadd hx hb d_Bo_setPattern_61 ?_
        refine lv_istore (lv' := [(9, .int (x + (nI (7 * (((q * 1024) + u) - a))))), (8, .int (nI v)), (7, .int (nI u)), (6, .int (nI (q * 1024))), (0, .ref (ad 5)), (1, .int x_f), (2, .int (nI a)), (3, .int (nI n)), (4, .int x), (5, .int (nI q))]) hx hb d_Bo_setPattern_62 hl (by decide) rfl (fun ls hl => ?_)
        refine lv_aload_n hx hb d_Bo_setPattern_64 rfl (lv_at hl 4 rfl) ?_
        refine va_get (D := D) (ci := 0) (v := .ref (ad 1)) (C := R_Bo) (T := T_Bo) (N := 2) hx hb hts u_Bo hown hK hP 5 rfl rfl 0 (by decide) (hts _ w_93) (fun _ h9 => h9) rfl d_Bo_setPattern_65 ?_
        refine lv_aload_n hx hb d_Bo_setPattern_68 rfl (lv_at hl 4 rfl) ?_
        refine va_get (D := D) (ci := 0) (v := .ref (ad 2)) (C := R_Bo) (T := T_Bo) (N := 2) hx hb hts u_Bo hown hK hP 5 rfl rfl 1 (by decide) (hts _ w_94) (fun _ h9 => h9) rfl d_Bo_setPattern_69 ?_
        refine lv_iload_n hx hb d_Bo_setPattern_72 rfl (lv_at hl 5 rfl) ?_
        refine lv_iload hx hb d_Bo_setPattern_73 (lv_at hl 9 rfl) ?_
        refine rdV ⟨hx, hb, hml, hown, hts⟩ hK hP (k_Re_blockOf l (f := f) (x_f := x_f) (z := ((q : Nat) : Int)) (x_z := (nI q)) hx_f (nI_toInt (by omega)) ) w_182 m_Re_blockOf ⟨by decide, by decide⟩ 2 rfl rfl rfl hl.1 rfl (Nat.le_of_ble_eq_true rfl) d_Bo_setPattern_75 ⟨Nat.zero_le _, Nat.zero_le _⟩ ?_
        refine lv_iload hx hb d_Bo_setPattern_78 (lv_at hl 2 rfl) ?_
        refine lv_iload hx hb d_Bo_setPattern_80 (lv_at hl 1 rfl) ?_
        refine lv_iload hx hb d_Bo_setPattern_82 (lv_at hl 0 rfl) ?_
        refine wrX ⟨hx, hb, hml, hown, hts⟩ hE hK hrx hP hD hS hA (k_Db_setPattern l (b := ((re_blk B f ((q : Nat) : Int)).toInt)) (x_b := (re_blk B f ((q : Nat) : Int))) (u := u) (v := v) (x := (x + (nI (7 * (((q * 1024) + u) - a))))) rfl (by omega) (by omega)) w_440 m_Db_setPattern ⟨by decide, by decide⟩ 1 rfl rfl rfl hl.1 rfl (Nat.le_of_ble_eq_true rfl) d_Bo_setPattern_84 ⟨Nat.zero_le _, Nat.zero_le _⟩ (fun H locs g LP pr hrx hP hD hS => ?_)
        refine W.eq (g2 := F0 m 87 ls []) rfl ?_
        refine lv_iinc (v := nI (q + 1)) (lv' := [(5, .int (nI (q + 1))), (9, .int (x + (nI (7 * (((q * 1024) + u) - a))))), (8, .int (nI v)), (7, .int (nI u)), (6, .int (nI (q * 1024))), (0, .ref (ad 5)), (1, .int x_f), (2, .int (nI a)), (3, .int (nI n)), (4, .int x)]) hx hb d_Bo_setPattern_87 hl (k := 9) rfl (ln_inc (by decide)) (by decide) rfl (fun ls hl => ?_)
        refine lv_goto (tgt := 7) hx hb d_Bo_setPattern_90 (by decide) ?_
        subst hu
        subst hv
        exact ih (q + 1) (dx_pat X1 ((re_blk B f ((q : Nat) : Int)).toInt) (a - q * 1024) (min (a + n - q * 1024) 1024) (x + (nI (7 * (((q * 1024) + (a - q * 1024)) - a))))) (by omega) (by omega) (by omega) (by rw [h10, show (a + n - 1) / 1024 + 1 - q = (a + n - 1) / 1024 + 1 - (q + 1) + 1 by omega, ptX]) _ _ _ hrx _ _ hP hD hS ls (lv_sub hl [5, 6, 7, 8, 9, 0] rfl)
  exact loop7 ((a + n - 1) / 1024 + 2) (a / 1024) X (by omega) (by omega) (by omega) rfl _ _ _ hrx _ _ hP hD hS ls (lv_sub hl [1, 2, 3, 4, 5, 0] rfl)
theorem m_Bo_resize : mV R_Bo y_Bo_resize (Cond.code y_Bo_resize c_Bo_resize 6 none) 2 := ⟨⟨w_494, w_495, w_6, w_496⟩, by decide +kernel⟩
set_option maxHeartbeats 4000000 in
set_option maxRecDepth 100000 in
theorem k_Bo_resize (l : Launch) {D : va_G} {ct : Nat → ClassId} {ad : Nat → Nat} {B : Nat → Int32} {tk : Nat → Int32} {fr : Int32} {X : Nat → Option (Nat → Int32)} {A : Nat → Prop} {f : Nat} {x_f : Int32} (hx_f : x_f.toNatClampNeg = f) {z : Nat} (h0 : z ≤ 15360) : Met l y_Bo_resize (Cond.code y_Bo_resize c_Bo_resize 6 none :: wA) (rmk 6 0 0) (va_Pc [.ref (ad 5), .int x_f, .int (nI z)] (cS A D ct ad B tk fr X)) (xQ none A D ct ad (re_set (rs_S (B, tk, fr, X) f z).1 f 4 4 (nI z)) ((rs_S (B, tk, fr, X) f z).2.1) ((rs_S (B, tk, fr, X) f z).2.2) (rs_X (B, tk, fr, X) f z)) 0 0 A := by
  refine Met.ofW (cc := c_Bo_resize) (maxL := 6) (ret := none) (by decide +kernel) rfl ?_
  intro p e s m args below meth c s₁ B0 hml hv
  obtain ⟨rfl, hA, hE, hK, g, LP, pr, hrx, hP, hD⟩ := hv
  have hS : va_S A s.heap s.heap [] := va_S.rf
  have hx := B0.exec
  have hb := B0.bytes
  have hr := B0.returns
  have hts := fun w (h : w ∈ wA) => atoms_spec (ws := Cond.code y_Bo_resize c_Bo_resize 6 none :: wA) B0.pre w (List.mem_cons_of_mem _ h)
  have hown : s.vm.findClass R_Bo = some m.cls := findClass_of_methodNamed B0.named
  have hlocks := B0.notSynchronized
  have hl := lv_entry ([.ref (ad 5), .int x_f, .int (nI z)]) (n := 6) (Nat.le_of_ble_eq_true rfl)
  rw [lg_entry_eq]
  generalize (lg_sl ([.ref (ad 5), .int x_f, .int (nI z)]) ++ List.replicate (6 - (lg_sl ([.ref (ad 5), .int x_f, .int (nI z)])).length) Slot.unset).toArray = ls at hl ⊢
  have hl : lv_has ls 6 [(0, .ref (ad 5)), (1, .int x_f), (2, .int (nI z))] := hl
  have hf_f : x_f.toInt.toNat = f := hx_f
  have hg_f := z_lt x_f
  refine lv_iload_n hx hb d_Bo_resize_0 rfl (lv_at hl 2 rfl) ?_
  refine lv_sipush (v := nI 1024) hx hb d_Bo_resize_1 (by decide) ?_
  refine ln_idiv hx hb d_Bo_resize_4 (by omega) (by omega) (by omega) ?_
  refine lv_istore_n (lv' := [(3, .int (nI (z / 1024))), (0, .ref (ad 5)), (1, .int x_f), (2, .int (nI z))]) hx hb d_Bo_resize_5 rfl hl (by decide) rfl (fun ls hl => ?_)
  refine lv_iload_n hx hb d_Bo_resize_6 rfl (lv_at hl 3 rfl) ?_
  refine lv_sipush (v := nI 1024) hx hb d_Bo_resize_7 (by decide) ?_
  refine ln_irem hx hb d_Bo_resize_10 (by omega) (by omega) (by omega) ?_
  refine lv_istore (lv' := [(4, .int (nI (z % 1024))), (3, .int (nI (z / 1024))), (0, .ref (ad 5)), (1, .int x_f), (2, .int (nI z))]) hx hb d_Bo_resize_11 hl (by decide) rfl (fun ls hl => ?_)
  refine lv_aload_n hx hb d_Bo_resize_13 rfl (lv_at hl 2 rfl) ?_
  refine lv_iload_n hx hb d_Bo_resize_14 rfl (lv_at hl 3 rfl) ?_
  refine lv_iload hx hb d_Bo_resize_15 (lv_at hl 0 rfl) ?_
  refine ln_if_ne (tgt := 24) hx hb (by omega) d_Bo_resize_17 (by decide) (fun c_1 => ?_) (fun c_1 => ?_)
  · skip
    refine lv_iload_n hx hb d_Bo_resize_24 rfl (lv_at hl 1 rfl) ?_
    refine lv_iconst (v := nI 1) hx hb d_Bo_resize_25 (by decide) ?_
    refine ln_iadd hx hb d_Bo_resize_26 ?_
    have hq9 : rs_q z ≤ 15 := by unfold rs_q; by_cases w : z % 1024 = 0; rw [if_pos w]; omega; rw [if_neg w]; omega
    refine W.eq (g2 := F0 m 27 ls [.int (nI (rs_q z)), .int x_f, .ref (ad 5)]) (by unfold rs_q; first | rw [if_pos (by omega)] | rw [if_neg (by omega)]) ?_
    refine wrV ⟨hx, hb, hml, hown, hts⟩ hK hP hD hS hA (k_Bo_giveBack l (f := f) (x_f := x_f) (k := (rs_q z)) hx_f (by omega)) w_497 m_Bo_giveBack ⟨by decide, by decide⟩ 5 rfl rfl rfl hl.1 rfl (Nat.le_of_ble_eq_true rfl) d_Bo_resize_27 ⟨Nat.zero_le _, Nat.zero_le _⟩ (fun H locs hP hD hS => ?_)
    have hP : va_P D vwC (wsC ct ad ((gbS f (15 - (rs_q z)) (rs_q z) (B, tk, fr)).1) g ((gbS f (15 - (rs_q z)) (rs_q z) (B, tk, fr)).2.1) ((gbS f (15 - (rs_q z)) (rs_q z) (B, tk, fr)).2.2) LP pr) H := hP
    have hD : va_D A (wsC ct ad ((gbS f (15 - (rs_q z)) (rs_q z) (B, tk, fr)).1) g ((gbS f (15 - (rs_q z)) (rs_q z) (B, tk, fr)).2.1) ((gbS f (15 - (rs_q z)) (rs_q z) (B, tk, fr)).2.2) LP pr) := hD
    refine W.eq (g2 := F0 m 30 ls []) rfl ?_
    refine lv_aload_n hx hb d_Bo_resize_30 rfl (lv_at hl 2 rfl) ?_
    refine va_get (D := D) (ci := 0) (v := .ref (ad 2)) (C := R_Bo) (T := T_Bo) (N := 2) hx hb hts u_Bo hown hK hP 5 rfl rfl 1 (by decide) (hts _ w_94) (fun _ h9 => h9) rfl d_Bo_resize_31 ?_
    refine lv_iload_n hx hb d_Bo_resize_34 rfl (lv_at hl 3 rfl) ?_
    refine lv_iload_n hx hb d_Bo_resize_35 rfl (lv_at hl 1 rfl) ?_
    refine rdV ⟨hx, hb, hml, hown, hts⟩ hK hP (k_Re_blockOf l (f := f) (x_f := x_f) (z := ((z / 1024 : Nat) : Int)) (x_z := (nI (z / 1024))) hx_f (nI_toInt (by omega)) ) w_182 m_Re_blockOf ⟨by decide, by decide⟩ 2 rfl rfl rfl hl.1 rfl (Nat.le_of_ble_eq_true rfl) d_Bo_resize_36 ⟨Nat.zero_le _, Nat.zero_le _⟩ ?_
    refine lv_istore (lv' := [(5, .int (re_blk ((gbS f (15 - (rs_q z)) (rs_q z) (B, tk, fr)).1) f ((z / 1024 : Nat) : Int))), (4, .int (nI (z % 1024))), (3, .int (nI (z / 1024))), (0, .ref (ad 5)), (1, .int x_f), (2, .int (nI z))]) hx hb d_Bo_resize_39 hl (by decide) rfl (fun ls hl => ?_)
    refine lv_iload hx hb d_Bo_resize_41 (lv_at hl 0 rfl) ?_
    refine lv_if_eq (tgt := 60) hx hb d_Bo_resize_43 (by decide) (fun c_2 => ?_) (fun c_2 => ?_)
    · skip
      refine lv_aload_n hx hb d_Bo_resize_60 rfl (lv_at hl 3 rfl) ?_
      refine va_get (D := D) (ci := 0) (v := .ref (ad 2)) (C := R_Bo) (T := T_Bo) (N := 2) hx hb hts u_Bo hown hK hP 5 rfl rfl 1 (by decide) (hts _ w_94) (fun _ h9 => h9) rfl d_Bo_resize_61 ?_
      refine lv_iload_n hx hb d_Bo_resize_64 rfl (lv_at hl 4 rfl) ?_
      refine lv_iload_n hx hb d_Bo_resize_65 rfl (lv_at hl 5 rfl) ?_
      refine wrV ⟨hx, hb, hml, hown, hts⟩ hK hP hD hS hA (k_Re_setSize l (f := f) (x_f := x_f) (v := (nI z)) hx_f ) w_420 m_Re_setSize ⟨by decide, by decide⟩ 2 rfl rfl rfl hl.1 rfl (Nat.le_of_ble_eq_true rfl) d_Bo_resize_66 ⟨Nat.zero_le _, Nat.zero_le _⟩ (fun H locs hP hD hS => ?_)
      have hP : va_P D vwC (wsC ct ad (re_set ((gbS f (15 - (rs_q z)) (rs_q z) (B, tk, fr)).1) f 4 4 (nI z)) g ((gbS f (15 - (rs_q z)) (rs_q z) (B, tk, fr)).2.1) ((gbS f (15 - (rs_q z)) (rs_q z) (B, tk, fr)).2.2) LP pr) H := hP
      have hD : va_D A (wsC ct ad (re_set ((gbS f (15 - (rs_q z)) (rs_q z) (B, tk, fr)).1) f 4 4 (nI z)) g ((gbS f (15 - (rs_q z)) (rs_q z) (B, tk, fr)).2.1) ((gbS f (15 - (rs_q z)) (rs_q z) (B, tk, fr)).2.2) LP pr) := hD
      refine W.eq (g2 := F0 m 69 ls []) rfl ?_
      have hC9 : cX A D ct ad (re_set ((gbS f (15 - (rs_q z)) (rs_q z) (B, tk, fr)).1) f 4 4 (nI z)) ((gbS f (15 - (rs_q z)) (rs_q z) (B, tk, fr)).2.1) ((gbS f (15 - (rs_q z)) (rs_q z) (B, tk, fr)).2.2) X H := ⟨g, LP, pr, hrx, hP, hD⟩
      have e9 : cX A D ct ad (re_set ((gbS f (15 - (rs_q z)) (rs_q z) (B, tk, fr)).1) f 4 4 (nI z)) ((gbS f (15 - (rs_q z)) (rs_q z) (B, tk, fr)).2.1) ((gbS f (15 - (rs_q z)) (rs_q z) (B, tk, fr)).2.2) X = cX A D ct ad (re_set (rs_S (B, tk, fr, X) f z).1 f 4 4 (nI z)) ((rs_S (B, tk, fr, X) f z).2.1) ((rs_S (B, tk, fr, X) f z).2.2) (rs_X (B, tk, fr, X) f z) := (by unfold rs_X; first | (rw [if_pos (by assumption)]; rfl) | (rw [if_neg (by assumption)]; rfl))
      rw [e9] at hC9
      exact W.vret hx hb hr (fun t9 ht hW => ⟨rfl, by rw [ht]; exact hC9, hS.F ht⟩) hS.2.2 d_Bo_resize_69
    · skip
      refine lv_aload_n hx hb d_Bo_resize_46 rfl (lv_at hl 3 rfl) ?_
      refine va_get (D := D) (ci := 0) (v := .ref (ad 1)) (C := R_Bo) (T := T_Bo) (N := 2) hx hb hts u_Bo hown hK hP 5 rfl rfl 0 (by decide) (hts _ w_93) (fun _ h9 => h9) rfl d_Bo_resize_47 ?_
      refine lv_iload hx hb d_Bo_resize_50 (lv_at hl 0 rfl) ?_
      refine lv_iload hx hb d_Bo_resize_52 (lv_at hl 1 rfl) ?_
      refine lv_sipush (v := nI 1024) hx hb d_Bo_resize_54 (by decide) ?_
      refine wrX ⟨hx, hb, hml, hown, hts⟩ hE hK hrx hP hD hS hA (k_Db_clear l (b := ((re_blk ((gbS f (15 - (rs_q z)) (rs_q z) (B, tk, fr)).1) f ((z / 1024 : Nat) : Int)).toInt)) (x_b := (re_blk ((gbS f (15 - (rs_q z)) (rs_q z) (B, tk, fr)).1) f ((z / 1024 : Nat) : Int))) (u := (z % 1024)) (v := 1024) rfl (by omega) (by omega)) w_498 m_Db_clear ⟨by decide, by decide⟩ 1 rfl rfl rfl hl.1 rfl (Nat.le_of_ble_eq_true rfl) d_Bo_resize_57 ⟨Nat.zero_le _, Nat.zero_le _⟩ (fun H locs g LP pr hrx hP hD hS => ?_)
      refine W.eq (g2 := F0 m 60 ls []) rfl ?_
      refine lv_aload_n hx hb d_Bo_resize_60 rfl (lv_at hl 3 rfl) ?_
      refine va_get (D := D) (ci := 0) (v := .ref (ad 2)) (C := R_Bo) (T := T_Bo) (N := 2) hx hb hts u_Bo hown hK hP 5 rfl rfl 1 (by decide) (hts _ w_94) (fun _ h9 => h9) rfl d_Bo_resize_61 ?_
      refine lv_iload_n hx hb d_Bo_resize_64 rfl (lv_at hl 4 rfl) ?_
      refine lv_iload_n hx hb d_Bo_resize_65 rfl (lv_at hl 5 rfl) ?_
      refine wrV ⟨hx, hb, hml, hown, hts⟩ hK hP hD hS hA (k_Re_setSize l (f := f) (x_f := x_f) (v := (nI z)) hx_f ) w_420 m_Re_setSize ⟨by decide, by decide⟩ 2 rfl rfl rfl hl.1 rfl (Nat.le_of_ble_eq_true rfl) d_Bo_resize_66 ⟨Nat.zero_le _, Nat.zero_le _⟩ (fun H locs hP hD hS => ?_)
      have hP : va_P D vwC (wsC ct ad (re_set ((gbS f (15 - (rs_q z)) (rs_q z) (B, tk, fr)).1) f 4 4 (nI z)) g ((gbS f (15 - (rs_q z)) (rs_q z) (B, tk, fr)).2.1) ((gbS f (15 - (rs_q z)) (rs_q z) (B, tk, fr)).2.2) LP pr) H := hP
      have hD : va_D A (wsC ct ad (re_set ((gbS f (15 - (rs_q z)) (rs_q z) (B, tk, fr)).1) f 4 4 (nI z)) g ((gbS f (15 - (rs_q z)) (rs_q z) (B, tk, fr)).2.1) ((gbS f (15 - (rs_q z)) (rs_q z) (B, tk, fr)).2.2) LP pr) := hD
      refine W.eq (g2 := F0 m 69 ls []) rfl ?_
      have hC9 : cX A D ct ad (re_set ((gbS f (15 - (rs_q z)) (rs_q z) (B, tk, fr)).1) f 4 4 (nI z)) ((gbS f (15 - (rs_q z)) (rs_q z) (B, tk, fr)).2.1) ((gbS f (15 - (rs_q z)) (rs_q z) (B, tk, fr)).2.2) (dx_clr X ((re_blk ((gbS f (15 - (rs_q z)) (rs_q z) (B, tk, fr)).1) f ((z / 1024 : Nat) : Int)).toInt) (z % 1024) 1024) H := ⟨g, LP, pr, hrx, hP, hD⟩
      have e9 : cX A D ct ad (re_set ((gbS f (15 - (rs_q z)) (rs_q z) (B, tk, fr)).1) f 4 4 (nI z)) ((gbS f (15 - (rs_q z)) (rs_q z) (B, tk, fr)).2.1) ((gbS f (15 - (rs_q z)) (rs_q z) (B, tk, fr)).2.2) (dx_clr X ((re_blk ((gbS f (15 - (rs_q z)) (rs_q z) (B, tk, fr)).1) f ((z / 1024 : Nat) : Int)).toInt) (z % 1024) 1024) = cX A D ct ad (re_set (rs_S (B, tk, fr, X) f z).1 f 4 4 (nI z)) ((rs_S (B, tk, fr, X) f z).2.1) ((rs_S (B, tk, fr, X) f z).2.2) (rs_X (B, tk, fr, X) f z) := (by unfold rs_X; first | (rw [if_pos (by assumption)]; rfl) | (rw [if_neg (by assumption)]; rfl))
      rw [e9] at hC9
      exact W.vret hx hb hr (fun t9 ht hW => ⟨rfl, by rw [ht]; exact hC9, hS.F ht⟩) hS.2.2 d_Bo_resize_69
  · skip
    refine lv_iload_n hx hb d_Bo_resize_20 rfl (lv_at hl 1 rfl) ?_
    refine lv_goto (tgt := 27) hx hb d_Bo_resize_21 (by decide) ?_
    have hq9 : rs_q z ≤ 15 := by unfold rs_q; by_cases w : z % 1024 = 0; rw [if_pos w]; omega; rw [if_neg w]; omega
    refine W.eq (g2 := F0 m 27 ls [.int (nI (rs_q z)), .int x_f, .ref (ad 5)]) (by unfold rs_q; first | rw [if_pos (by omega)] | rw [if_neg (by omega)]) ?_
    refine wrV ⟨hx, hb, hml, hown, hts⟩ hK hP hD hS hA (k_Bo_giveBack l (f := f) (x_f := x_f) (k := (rs_q z)) hx_f (by omega)) w_497 m_Bo_giveBack ⟨by decide, by decide⟩ 5 rfl rfl rfl hl.1 rfl (Nat.le_of_ble_eq_true rfl) d_Bo_resize_27 ⟨Nat.zero_le _, Nat.zero_le _⟩ (fun H locs hP hD hS => ?_)
    have hP : va_P D vwC (wsC ct ad ((gbS f (15 - (rs_q z)) (rs_q z) (B, tk, fr)).1) g ((gbS f (15 - (rs_q z)) (rs_q z) (B, tk, fr)).2.1) ((gbS f (15 - (rs_q z)) (rs_q z) (B, tk, fr)).2.2) LP pr) H := hP
    have hD : va_D A (wsC ct ad ((gbS f (15 - (rs_q z)) (rs_q z) (B, tk, fr)).1) g ((gbS f (15 - (rs_q z)) (rs_q z) (B, tk, fr)).2.1) ((gbS f (15 - (rs_q z)) (rs_q z) (B, tk, fr)).2.2) LP pr) := hD
    refine W.eq (g2 := F0 m 30 ls []) rfl ?_
    refine lv_aload_n hx hb d_Bo_resize_30 rfl (lv_at hl 2 rfl) ?_
    refine va_get (D := D) (ci := 0) (v := .ref (ad 2)) (C := R_Bo) (T := T_Bo) (N := 2) hx hb hts u_Bo hown hK hP 5 rfl rfl 1 (by decide) (hts _ w_94) (fun _ h9 => h9) rfl d_Bo_resize_31 ?_
    refine lv_iload_n hx hb d_Bo_resize_34 rfl (lv_at hl 3 rfl) ?_
    refine lv_iload_n hx hb d_Bo_resize_35 rfl (lv_at hl 1 rfl) ?_
    refine rdV ⟨hx, hb, hml, hown, hts⟩ hK hP (k_Re_blockOf l (f := f) (x_f := x_f) (z := ((z / 1024 : Nat) : Int)) (x_z := (nI (z / 1024))) hx_f (nI_toInt (by omega)) ) w_182 m_Re_blockOf ⟨by decide, by decide⟩ 2 rfl rfl rfl hl.1 rfl (Nat.le_of_ble_eq_true rfl) d_Bo_resize_36 ⟨Nat.zero_le _, Nat.zero_le _⟩ ?_
    refine lv_istore (lv' := [(5, .int (re_blk ((gbS f (15 - (rs_q z)) (rs_q z) (B, tk, fr)).1) f ((z / 1024 : Nat) : Int))), (4, .int (nI (z % 1024))), (3, .int (nI (z / 1024))), (0, .ref (ad 5)), (1, .int x_f), (2, .int (nI z))]) hx hb d_Bo_resize_39 hl (by decide) rfl (fun ls hl => ?_)
    refine lv_iload hx hb d_Bo_resize_41 (lv_at hl 0 rfl) ?_
    refine lv_if_eq (tgt := 60) hx hb d_Bo_resize_43 (by decide) (fun c_3 => ?_) (fun c_3 => ?_)
    · skip
      refine lv_aload_n hx hb d_Bo_resize_60 rfl (lv_at hl 3 rfl) ?_
      refine va_get (D := D) (ci := 0) (v := .ref (ad 2)) (C := R_Bo) (T := T_Bo) (N := 2) hx hb hts u_Bo hown hK hP 5 rfl rfl 1 (by decide) (hts _ w_94) (fun _ h9 => h9) rfl d_Bo_resize_61 ?_
      refine lv_iload_n hx hb d_Bo_resize_64 rfl (lv_at hl 4 rfl) ?_
      refine lv_iload_n hx hb d_Bo_resize_65 rfl (lv_at hl 5 rfl) ?_
      refine wrV ⟨hx, hb, hml, hown, hts⟩ hK hP hD hS hA (k_Re_setSize l (f := f) (x_f := x_f) (v := (nI z)) hx_f ) w_420 m_Re_setSize ⟨by decide, by decide⟩ 2 rfl rfl rfl hl.1 rfl (Nat.le_of_ble_eq_true rfl) d_Bo_resize_66 ⟨Nat.zero_le _, Nat.zero_le _⟩ (fun H locs hP hD hS => ?_)
      have hP : va_P D vwC (wsC ct ad (re_set ((gbS f (15 - (rs_q z)) (rs_q z) (B, tk, fr)).1) f 4 4 (nI z)) g ((gbS f (15 - (rs_q z)) (rs_q z) (B, tk, fr)).2.1) ((gbS f (15 - (rs_q z)) (rs_q z) (B, tk, fr)).2.2) LP pr) H := hP
      have hD : va_D A (wsC ct ad (re_set ((gbS f (15 - (rs_q z)) (rs_q z) (B, tk, fr)).1) f 4 4 (nI z)) g ((gbS f (15 - (rs_q z)) (rs_q z) (B, tk, fr)).2.1) ((gbS f (15 - (rs_q z)) (rs_q z) (B, tk, fr)).2.2) LP pr) := hD
      refine W.eq (g2 := F0 m 69 ls []) rfl ?_
      have hC9 : cX A D ct ad (re_set ((gbS f (15 - (rs_q z)) (rs_q z) (B, tk, fr)).1) f 4 4 (nI z)) ((gbS f (15 - (rs_q z)) (rs_q z) (B, tk, fr)).2.1) ((gbS f (15 - (rs_q z)) (rs_q z) (B, tk, fr)).2.2) X H := ⟨g, LP, pr, hrx, hP, hD⟩
      have e9 : cX A D ct ad (re_set ((gbS f (15 - (rs_q z)) (rs_q z) (B, tk, fr)).1) f 4 4 (nI z)) ((gbS f (15 - (rs_q z)) (rs_q z) (B, tk, fr)).2.1) ((gbS f (15 - (rs_q z)) (rs_q z) (B, tk, fr)).2.2) X = cX A D ct ad (re_set (rs_S (B, tk, fr, X) f z).1 f 4 4 (nI z)) ((rs_S (B, tk, fr, X) f z).2.1) ((rs_S (B, tk, fr, X) f z).2.2) (rs_X (B, tk, fr, X) f z) := (by unfold rs_X; first | (rw [if_pos (by assumption)]; rfl) | (rw [if_neg (by assumption)]; rfl))
      rw [e9] at hC9
      exact W.vret hx hb hr (fun t9 ht hW => ⟨rfl, by rw [ht]; exact hC9, hS.F ht⟩) hS.2.2 d_Bo_resize_69
    · skip
      refine lv_aload_n hx hb d_Bo_resize_46 rfl (lv_at hl 3 rfl) ?_
      refine va_get (D := D) (ci := 0) (v := .ref (ad 1)) (C := R_Bo) (T := T_Bo) (N := 2) hx hb hts u_Bo hown hK hP 5 rfl rfl 0 (by decide) (hts _ w_93) (fun _ h9 => h9) rfl d_Bo_resize_47 ?_
      refine lv_iload hx hb d_Bo_resize_50 (lv_at hl 0 rfl) ?_
      refine lv_iload hx hb d_Bo_resize_52 (lv_at hl 1 rfl) ?_
      refine lv_sipush (v := nI 1024) hx hb d_Bo_resize_54 (by decide) ?_
      refine wrX ⟨hx, hb, hml, hown, hts⟩ hE hK hrx hP hD hS hA (k_Db_clear l (b := ((re_blk ((gbS f (15 - (rs_q z)) (rs_q z) (B, tk, fr)).1) f ((z / 1024 : Nat) : Int)).toInt)) (x_b := (re_blk ((gbS f (15 - (rs_q z)) (rs_q z) (B, tk, fr)).1) f ((z / 1024 : Nat) : Int))) (u := (z % 1024)) (v := 1024) rfl (by omega) (by omega)) w_498 m_Db_clear ⟨by decide, by decide⟩ 1 rfl rfl rfl hl.1 rfl (Nat.le_of_ble_eq_true rfl) d_Bo_resize_57 ⟨Nat.zero_le _, Nat.zero_le _⟩ (fun H locs g LP pr hrx hP hD hS => ?_)
      refine W.eq (g2 := F0 m 60 ls []) rfl ?_
      refine lv_aload_n hx hb d_Bo_resize_60 rfl (lv_at hl 3 rfl) ?_
      refine va_get (D := D) (ci := 0) (v := .ref (ad 2)) (C := R_Bo) (T := T_Bo) (N := 2) hx hb hts u_Bo hown hK hP 5 rfl rfl 1 (by decide) (hts _ w_94) (fun _ h9 => h9) rfl d_Bo_resize_61 ?_
      refine lv_iload_n hx hb d_Bo_resize_64 rfl (lv_at hl 4 rfl) ?_
      refine lv_iload_n hx hb d_Bo_resize_65 rfl (lv_at hl 5 rfl) ?_
      refine wrV ⟨hx, hb, hml, hown, hts⟩ hK hP hD hS hA (k_Re_setSize l (f := f) (x_f := x_f) (v := (nI z)) hx_f ) w_420 m_Re_setSize ⟨by decide, by decide⟩ 2 rfl rfl rfl hl.1 rfl (Nat.le_of_ble_eq_true rfl) d_Bo_resize_66 ⟨Nat.zero_le _, Nat.zero_le _⟩ (fun H locs hP hD hS => ?_)
      have hP : va_P D vwC (wsC ct ad (re_set ((gbS f (15 - (rs_q z)) (rs_q z) (B, tk, fr)).1) f 4 4 (nI z)) g ((gbS f (15 - (rs_q z)) (rs_q z) (B, tk, fr)).2.1) ((gbS f (15 - (rs_q z)) (rs_q z) (B, tk, fr)).2.2) LP pr) H := hP
      have hD : va_D A (wsC ct ad (re_set ((gbS f (15 - (rs_q z)) (rs_q z) (B, tk, fr)).1) f 4 4 (nI z)) g ((gbS f (15 - (rs_q z)) (rs_q z) (B, tk, fr)).2.1) ((gbS f (15 - (rs_q z)) (rs_q z) (B, tk, fr)).2.2) LP pr) := hD
      refine W.eq (g2 := F0 m 69 ls []) rfl ?_
      have hC9 : cX A D ct ad (re_set ((gbS f (15 - (rs_q z)) (rs_q z) (B, tk, fr)).1) f 4 4 (nI z)) ((gbS f (15 - (rs_q z)) (rs_q z) (B, tk, fr)).2.1) ((gbS f (15 - (rs_q z)) (rs_q z) (B, tk, fr)).2.2) (dx_clr X ((re_blk ((gbS f (15 - (rs_q z)) (rs_q z) (B, tk, fr)).1) f ((z / 1024 : Nat) : Int)).toInt) (z % 1024) 1024) H := ⟨g, LP, pr, hrx, hP, hD⟩
      have e9 : cX A D ct ad (re_set ((gbS f (15 - (rs_q z)) (rs_q z) (B, tk, fr)).1) f 4 4 (nI z)) ((gbS f (15 - (rs_q z)) (rs_q z) (B, tk, fr)).2.1) ((gbS f (15 - (rs_q z)) (rs_q z) (B, tk, fr)).2.2) (dx_clr X ((re_blk ((gbS f (15 - (rs_q z)) (rs_q z) (B, tk, fr)).1) f ((z / 1024 : Nat) : Int)).toInt) (z % 1024) 1024) = cX A D ct ad (re_set (rs_S (B, tk, fr, X) f z).1 f 4 4 (nI z)) ((rs_S (B, tk, fr, X) f z).2.1) ((rs_S (B, tk, fr, X) f z).2.2) (rs_X (B, tk, fr, X) f z) := (by unfold rs_X; first | (rw [if_pos (by assumption)]; rfl) | (rw [if_neg (by assumption)]; rfl))
      rw [e9] at hC9
      exact W.vret hx hb hr (fun t9 ht hW => ⟨rfl, by rw [ht]; exact hC9, hS.F ht⟩) hS.2.2 d_Bo_resize_69
theorem m_Bo_setTarget : mV R_Bo y_Bo_setTarget (Cond.code y_Bo_setTarget c_Bo_setTarget 6 none) 3 := ⟨⟨w_332, w_333, w_6, w_334⟩, by decide +kernel⟩
set_option maxHeartbeats 4000000 in
set_option maxRecDepth 100000 in
theorem k_Bo_setTarget (l : Launch) {D : va_G} {ct : Nat → ClassId} {ad : Nat → Nat} {B : Nat → Int32} {tk : Nat → Int32} {fr : Int32} {X : Nat → Option (Nat → Int32)} {A : Nat → Prop} {f : Nat} {x_f : Int32} (hx_f : x_f.toNatClampNeg = f) {n : Nat} {x : Int32} (h0 : n ≤ 1000) (h1 : (re_kind B f = nI 3 ∧ ¬ nI 59 < re_f B f 4 4) → n < 60) : Met l y_Bo_setTarget (Cond.code y_Bo_setTarget c_Bo_setTarget 6 none :: wA) (rmk 6 1 1024) (va_Pc [.ref (ad 5), .int x_f, .int (nI n), .int x] (cS A D ct ad B tk fr X)) (xQ none A D ct ad ((tg_S (B, tk, fr, X) f n x).1) ((tg_S (B, tk, fr, X) f n x).2.1) ((tg_S (B, tk, fr, X) f n x).2.2.1) ((tg_S (B, tk, fr, X) f n x).2.2.2)) 1 1024 A := by
  refine Met.ofW (cc := c_Bo_setTarget) (maxL := 6) (ret := none) (by decide +kernel) rfl ?_
  intro p e s m args below meth c s₁ B0 hml hv
  obtain ⟨rfl, hA, hE, hK, g, LP, pr, hrx, hP, hD⟩ := hv
  have hS : va_S A s.heap s.heap [] := va_S.rf
  have hx := B0.exec
  have hb := B0.bytes
  have hr := B0.returns
  have hts := fun w (h : w ∈ wA) => atoms_spec (ws := Cond.code y_Bo_setTarget c_Bo_setTarget 6 none :: wA) B0.pre w (List.mem_cons_of_mem _ h)
  have hown : s.vm.findClass R_Bo = some m.cls := findClass_of_methodNamed B0.named
  have hlocks := B0.notSynchronized
  have hl := lv_entry ([.ref (ad 5), .int x_f, .int (nI n), .int x]) (n := 6) (Nat.le_of_ble_eq_true rfl)
  rw [lg_entry_eq]
  generalize (lg_sl ([.ref (ad 5), .int x_f, .int (nI n), .int x]) ++ List.replicate (6 - (lg_sl ([.ref (ad 5), .int x_f, .int (nI n), .int x])).length) Slot.unset).toArray = ls at hl ⊢
  have hl : lv_has ls 6 [(0, .ref (ad 5)), (1, .int x_f), (2, .int (nI n)), (3, .int x)] := hl
  have hf_f : x_f.toInt.toNat = f := hx_f
  have hg_f := z_lt x_f
  refine lv_aload_n hx hb d_Bo_setTarget_0 rfl (lv_at hl 0 rfl) ?_
  refine va_get (D := D) (ci := 0) (v := .ref (ad 2)) (C := R_Bo) (T := T_Bo) (N := 2) hx hb hts u_Bo hown hK hP 5 rfl rfl 1 (by decide) (hts _ w_94) (fun _ h9 => h9) rfl d_Bo_setTarget_1 ?_
  refine lv_iload_n hx hb d_Bo_setTarget_4 rfl (lv_at hl 1 rfl) ?_
  refine rdV ⟨hx, hb, hml, hown, hts⟩ hK hP (k_Re_hasTarget l (f := f) (x_f := x_f) hx_f ) w_335 m_Re_hasTarget ⟨by decide, by decide⟩ 2 rfl rfl rfl hl.1 rfl (Nat.le_of_ble_eq_true rfl) d_Bo_setTarget_5 ⟨show 0 ≤ 1 by omega, show 0 ≤ 1024 by omega⟩ ?_
  refine lb_if_eq (tgt := 43) hx hb d_Bo_setTarget_8 (by decide) (fun c_1 => ?_) (fun c_1 => ?_)
  · skip
    refine lv_aload_n hx hb d_Bo_setTarget_43 rfl (lv_at hl 0 rfl) ?_
    refine lv_iload_n hx hb d_Bo_setTarget_44 rfl (lv_at hl 1 rfl) ?_
    refine lv_iconst (v := nI 0) hx hb d_Bo_setTarget_45 (by decide) ?_
    refine wrX ⟨hx, hb, hml, hown, hts⟩ hE hK hrx hP hD hS hA (k_Bo_takeBlock l (f := f) (x_f := x_f) (k := 0) hx_f (by omega)) w_353 m_Bo_takeBlock ⟨by decide, by decide⟩ 5 rfl rfl rfl hl.1 rfl (Nat.le_of_ble_eq_true rfl) d_Bo_setTarget_46 ⟨show 0 + 1 ≤ 1 by omega, show 0 + 1024 ≤ 1024 by omega⟩ (fun H locs g LP pr hrx hP hD hS => ?_)
    refine W.eq (g2 := F0 m 49 ls []) rfl ?_
    refine lv_aload_n hx hb d_Bo_setTarget_49 rfl (lv_at hl 0 rfl) ?_
    refine va_get (D := D) (ci := 0) (v := .ref (ad 2)) (C := R_Bo) (T := T_Bo) (N := 2) hx hb hts u_Bo hown hK hP 5 rfl rfl 1 (by decide) (hts _ w_94) (fun _ h9 => h9) rfl d_Bo_setTarget_50 ?_
    refine lv_iload_n hx hb d_Bo_setTarget_53 rfl (lv_at hl 1 rfl) ?_
    refine lv_iconst (v := nI 0) hx hb d_Bo_setTarget_54 (by decide) ?_
    refine rdV ⟨hx, hb, hml, hown, hts⟩ hK hP (k_Re_blockOf l (f := f) (x_f := x_f) (z := ((0 : Nat) : Int)) (x_z := (nI 0)) hx_f (nI_toInt (by omega)) ) w_182 m_Re_blockOf ⟨by decide, by decide⟩ 2 rfl rfl rfl hl.1 rfl (Nat.le_of_ble_eq_true rfl) d_Bo_setTarget_55 ⟨show (0 + 1) ≤ 1 by omega, show (0 + 1024) ≤ 1024 by omega⟩ ?_
    refine lv_istore (lv' := [(4, .int (re_blk ((tbS (B, tk, fr, X) f 0).1) f ((0 : Nat) : Int))), (0, .ref (ad 5)), (1, .int x_f), (2, .int (nI n)), (3, .int x)]) hx hb d_Bo_setTarget_58 hl (by decide) rfl (fun ls hl => ?_)
    refine lv_iconst (v := nI 0) hx hb d_Bo_setTarget_60 (by decide) ?_
    refine lv_istore (lv' := [(5, .int (nI 0)), (4, .int (re_blk ((tbS (B, tk, fr, X) f 0).1) f ((0 : Nat) : Int))), (0, .ref (ad 5)), (1, .int x_f), (2, .int (nI n)), (3, .int x)]) hx hb d_Bo_setTarget_61 hl (by decide) rfl (fun ls hl => ?_)
    have loop63 : ∀ (n9 : Nat) (i : Nat) (X1 : Nat → Option (Nat → Int32)), n - i < n9 → i ≤ n → tgX (re_blk (tbS (B, tk, fr, X) f 0).1 f ((0 : Nat) : Int)).toInt x n 0 (tbS (B, tk, fr, X) f 0).2.2.2 = tgX (re_blk (tbS (B, tk, fr, X) f 0).1 f ((0 : Nat) : Int)).toInt x (n - i) i X1 → ∀ (g : Nat → Option Nat) (LP : List Nat) (pr : Nat → Nat → Int32), rX g LP pr X1 → ∀ (H : Heap) (locs : List Loc), va_P D vwC (wsC ct ad ((tbS (B, tk, fr, X) f 0).1) g ((tbS (B, tk, fr, X) f 0).2.1) ((tbS (B, tk, fr, X) f 0).2.2.1) LP pr) H → va_D A (wsC ct ad ((tbS (B, tk, fr, X) f 0).1) g ((tbS (B, tk, fr, X) f 0).2.1) ((tbS (B, tk, fr, X) f 0).2.2.1) LP pr) → va_S A s.heap H locs → ∀ ls : Array Slot, lv_has ls 6 [(0, .ref (ad 5)), (1, .int x_f), (2, .int (nI n)), (3, .int x), (4, .int (re_blk ((tbS (B, tk, fr, X) f 0).1) f ((0 : Nat) : Int))), (5, .int (nI i))] → W p l e (headSpec (Cond.code y_Bo_setTarget c_Bo_setTarget 6 none :: wA) (rmk 6 1 1024)).room s m ([.ref (ad 5), .int x_f, .int (nI n), .int x] : List Value).toArray below meth c H locs 1 1024 (MQ below (xQ none A D ct ad ((tg_S (B, tk, fr, X) f n x).1) ((tg_S (B, tk, fr, X) f n x).2.1) ((tg_S (B, tk, fr, X) f n x).2.2.1) ((tg_S (B, tk, fr, X) f n x).2.2.2)) ([.ref (ad 5), .int x_f, .int (nI n), .int x] : List Value).toArray s 1 1024 A) (F0 m 63 ls []) := by
      intro n9
      induction n9 with
      | zero => intro i X1 h8 h9 h10 g LP pr hrx H locs hP hD hS ls hl; exact absurd h8 (by omega)
      | succ n9 ih =>
        intro i X1 h8 h9 h10 g LP pr hrx H locs hP hD hS ls hl
        refine lv_iload hx hb d_Bo_setTarget_63 (lv_at hl 5 rfl) ?_
        refine lv_iload_n hx hb d_Bo_setTarget_65 rfl (lv_at hl 2 rfl) ?_
        refine ln_icmp_ge (tgt := 92) hx hb (by omega) (by omega) d_Bo_setTarget_66 (by decide) (fun c_2 => ?_) (fun c_2 => ?_)
        · skip
          have hC9 : cX A D ct ad ((tbS (B, tk, fr, X) f 0).1) ((tbS (B, tk, fr, X) f 0).2.1) ((tbS (B, tk, fr, X) f 0).2.2.1) X1 H := ⟨g, LP, pr, hrx, hP, hD⟩
          have e9 : cX A D ct ad ((tbS (B, tk, fr, X) f 0).1) ((tbS (B, tk, fr, X) f 0).2.1) ((tbS (B, tk, fr, X) f 0).2.2.1) X1 = cX A D ct ad ((tg_S (B, tk, fr, X) f n x).1) ((tg_S (B, tk, fr, X) f n x).2.1) ((tg_S (B, tk, fr, X) f n x).2.2.1) ((tg_S (B, tk, fr, X) f n x).2.2.2) := (by unfold tg_S; first | (rw [if_pos (by assumption), h10, show n - i = 0 by omega]; rfl) | (rw [if_neg (by assumption), h10, show n - i = 0 by omega]; rfl))
          rw [e9] at hC9
          refine W.widen (k := 1) (n := 1024) (by omega) (by omega) ?_
          exact W.vret hx hb hr (fun t9 ht hW => ⟨rfl, by rw [ht]; exact hC9, hS.F ht⟩) hS.2.2 d_Bo_setTarget_92
        · skip
          refine lv_aload_n hx hb d_Bo_setTarget_69 rfl (lv_at hl 0 rfl) ?_
          refine va_get (D := D) (ci := 0) (v := .ref (ad 1)) (C := R_Bo) (T := T_Bo) (N := 2) hx hb hts u_Bo hown hK hP 5 rfl rfl 0 (by decide) (hts _ w_93) (fun _ h9 => h9) rfl d_Bo_setTarget_70 ?_
          refine lv_iload hx hb d_Bo_setTarget_73 (lv_at hl 4 rfl) ?_
          refine lv_iload hx hb d_Bo_setTarget_75 (lv_at hl 5 rfl) ?_
          refine lv_iload_n hx hb d_Bo_setTarget_77 rfl (lv_at hl 3 rfl) ?_
          refine lv_iload hx hb d_Bo_setTarget_78 (lv_at hl 5 rfl) ?_
          refine rdS ⟨hx, hb, hml, hown, hts⟩ hK hP (k_Bo_targetByte l (x := x) (i := i) ) w_343 m_Bo_targetByte ⟨by decide, by decide⟩ rfl hl.1 rfl (Nat.le_of_ble_eq_true rfl) d_Bo_setTarget_80 ⟨show 1 ≤ 1 by omega, show 1024 ≤ 1024 by omega⟩ ?_
          refine wrX ⟨hx, hb, hml, hown, hts⟩ hE hK hrx hP hD hS hA (k_Db_setByte l (b := ((re_blk ((tbS (B, tk, fr, X) f 0).1) f ((0 : Nat) : Int)).toInt)) (x_b := (re_blk ((tbS (B, tk, fr, X) f 0).1) f ((0 : Nat) : Int))) (i := i) (v := (bo_tb x i)) rfl (by omega)) w_375 m_Db_setByte ⟨by decide, by decide⟩ 1 rfl rfl rfl hl.1 rfl (Nat.le_of_ble_eq_true rfl) d_Bo_setTarget_83 ⟨show 1 + 0 ≤ 1 by omega, show 1024 + 0 ≤ 1024 by omega⟩ (fun H locs g LP pr hrx hP hD hS => ?_)
          refine W.eq (g2 := F0 m 86 ls []) rfl ?_
          refine lv_iinc (v := nI (i + 1)) (lv' := [(5, .int (nI (i + 1))), (0, .ref (ad 5)), (1, .int x_f), (2, .int (nI n)), (3, .int x), (4, .int (re_blk ((tbS (B, tk, fr, X) f 0).1) f ((0 : Nat) : Int)))]) hx hb d_Bo_setTarget_86 hl (k := 5) rfl (ln_inc (by decide)) (by decide) rfl (fun ls hl => ?_)
          refine lv_goto (tgt := 63) hx hb d_Bo_setTarget_89 (by decide) ?_
          exact ih (i + 1) (dx_put X1 ((re_blk ((tbS (B, tk, fr, X) f 0).1) f ((0 : Nat) : Int)).toInt) i (bo_tb x i)) (by omega) (by omega) (by rw [h10, show n - i = n - (i + 1) + 1 by omega, tgX]) _ _ _ hrx _ _ hP hD hS ls (lv_sub hl [1, 2, 3, 4, 5, 0] rfl)
    exact loop63 (n + 1) 0 ((tbS (B, tk, fr, X) f 0).2.2.2) (by omega) (by omega) rfl _ _ _ hrx _ _ hP hD hS ls (lv_sub hl [2, 3, 4, 5, 1, 0] rfl)
  · skip
    have hn9 := h1 c_1
    refine lv_iconst (v := nI 0) hx hb d_Bo_setTarget_11 (by decide) ?_
    refine lv_istore (lv' := [(4, .int (nI 0)), (0, .ref (ad 5)), (1, .int x_f), (2, .int (nI n)), (3, .int x)]) hx hb d_Bo_setTarget_12 hl (by decide) rfl (fun ls hl => ?_)
    have loop14 : ∀ (n9 : Nat) (i : Nat) (b : Nat → Int32), n - i < n9 → i ≤ n → tgB f x n 0 B = tgB f x (n - i) i b → ∀ (H : Heap) (locs : List Loc), va_P D vwC (wsC ct ad b g tk fr LP pr) H → va_D A (wsC ct ad b g tk fr LP pr) → va_S A s.heap H locs → ∀ ls : Array Slot, lv_has ls 6 [(0, .ref (ad 5)), (1, .int x_f), (2, .int (nI n)), (3, .int x), (4, .int (nI i))] → W p l e (headSpec (Cond.code y_Bo_setTarget c_Bo_setTarget 6 none :: wA) (rmk 6 1 1024)).room s m ([.ref (ad 5), .int x_f, .int (nI n), .int x] : List Value).toArray below meth c H locs 0 0 (MQ below (xQ none A D ct ad ((tg_S (B, tk, fr, X) f n x).1) ((tg_S (B, tk, fr, X) f n x).2.1) ((tg_S (B, tk, fr, X) f n x).2.2.1) ((tg_S (B, tk, fr, X) f n x).2.2.2)) ([.ref (ad 5), .int x_f, .int (nI n), .int x] : List Value).toArray s 1 1024 A) (F0 m 14 ls []) := by
      intro n9
      induction n9 with
      | zero => intro i b h8 h9 h10 H locs hP hD hS ls hl; exact absurd h8 (by omega)
      | succ n9 ih =>
        intro i b h8 h9 h10 H locs hP hD hS ls hl
        refine lv_iload hx hb d_Bo_setTarget_14 (lv_at hl 4 rfl) ?_
        refine lv_iload_n hx hb d_Bo_setTarget_16 rfl (lv_at hl 2 rfl) ?_
        refine ln_icmp_ge (tgt := 42) hx hb (by omega) (by omega) d_Bo_setTarget_17 (by decide) (fun c_3 => ?_) (fun c_3 => ?_)
        · skip
          have hC9 : cX A D ct ad b tk fr X H := ⟨g, LP, pr, hrx, hP, hD⟩
          have e9 : cX A D ct ad b tk fr X = cX A D ct ad ((tg_S (B, tk, fr, X) f n x).1) ((tg_S (B, tk, fr, X) f n x).2.1) ((tg_S (B, tk, fr, X) f n x).2.2.1) ((tg_S (B, tk, fr, X) f n x).2.2.2) := (by unfold tg_S; first | (rw [if_pos (by assumption), h10, show n - i = 0 by omega]; rfl) | (rw [if_neg (by assumption), h10, show n - i = 0 by omega]; rfl))
          rw [e9] at hC9
          refine W.widen (k := 1) (n := 1024) (by omega) (by omega) ?_
          exact W.vret hx hb hr (fun t9 ht hW => ⟨rfl, by rw [ht]; exact hC9, hS.F ht⟩) hS.2.2 d_Bo_setTarget_42
        · skip
          refine lv_aload_n hx hb d_Bo_setTarget_20 rfl (lv_at hl 0 rfl) ?_
          refine va_get (D := D) (ci := 0) (v := .ref (ad 2)) (C := R_Bo) (T := T_Bo) (N := 2) hx hb hts u_Bo hown hK hP 5 rfl rfl 1 (by decide) (hts _ w_94) (fun _ h9 => h9) rfl d_Bo_setTarget_21 ?_
          refine lv_iload_n hx hb d_Bo_setTarget_24 rfl (lv_at hl 1 rfl) ?_
          refine lv_iload hx hb d_Bo_setTarget_25 (lv_at hl 4 rfl) ?_
          refine lv_iload_n hx hb d_Bo_setTarget_27 rfl (lv_at hl 3 rfl) ?_
          refine lv_iload hx hb d_Bo_setTarget_28 (lv_at hl 4 rfl) ?_
          refine rdS ⟨hx, hb, hml, hown, hts⟩ hK hP (k_Bo_targetByte l (x := x) (i := i) ) w_343 m_Bo_targetByte ⟨by decide, by decide⟩ rfl hl.1 rfl (Nat.le_of_ble_eq_true rfl) d_Bo_setTarget_30 ⟨show 0 ≤ 1 by omega, show 0 ≤ 1024 by omega⟩ ?_
          refine wrV ⟨hx, hb, hml, hown, hts⟩ hK hP hD hS hA (k_Re_setTargetByte l (f := f) (x_f := x_f) (i := i) (v := (bo_tb x i)) hx_f (by omega)) w_349 m_Re_setTargetByte ⟨by decide, by decide⟩ 2 rfl rfl rfl hl.1 rfl (Nat.le_of_ble_eq_true rfl) d_Bo_setTarget_33 ⟨show 0 + 0 ≤ 1 by omega, show 0 + 0 ≤ 1024 by omega⟩ (fun H locs hP hD hS => ?_)
          have hP : va_P D vwC (wsC ct ad (re_set b f (40 + i) 1 (bo_tb x i)) g tk fr LP pr) H := hP
          have hD : va_D A (wsC ct ad (re_set b f (40 + i) 1 (bo_tb x i)) g tk fr LP pr) := hD
          refine W.eq (g2 := F0 m 36 ls []) rfl ?_
          refine lv_iinc (v := nI (i + 1)) (lv' := [(4, .int (nI (i + 1))), (0, .ref (ad 5)), (1, .int x_f), (2, .int (nI n)), (3, .int x)]) hx hb d_Bo_setTarget_36 hl (k := 4) rfl (ln_inc (by decide)) (by decide) rfl (fun ls hl => ?_)
          refine lv_goto (tgt := 14) hx hb d_Bo_setTarget_39 (by decide) ?_
          exact ih (i + 1) (re_set b f (40 + i) 1 (bo_tb x i)) (by omega) (by omega) (by rw [h10, show n - i = n - (i + 1) + 1 by omega, tgB]) _ _ hP hD hS ls (lv_sub hl [1, 2, 3, 4, 0] rfl)
    exact loop14 (n + 1) 0 B (by omega) (by omega) rfl _ _ hP hD hS ls (lv_sub hl [1, 2, 3, 4, 0] rfl)
