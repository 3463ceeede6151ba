/-! the reference: public methods, second part -/
def mlk_c (S : mst) (n : Int) : Nat := if 1 ≤ n ∧ n ≤ 1000 then (if mff (pj_kd S) 12 1 = 0 ∨ (59 < n ∧ mf1 (pj_tk S) 128 0 0 = 0) then 2 else 0) else 1
def mrb (x : Int32) (i : Nat) : Int32 := if 0 ≤ (x + nI i) - (x + nI i) / nI 255 * nI 255 then nI 1 + ((x + nI i) - (x + nI i) / nI 255 * nI 255) else nI 1 + (((x + nI i) - (x + nI i) / nI 255 * nI 255) + nI 255)
def mlkd (b : Nat) (x : Int32) : Nat → Nat → (Nat → Int32) → (Nat → Int32)
  | 0, _, d => d
  | k + 1, i, d => mlkd b x k (i + 1) (upd d (1024 * b + i) (vp_nar .byte ((mrb x i).toInt8.toInt32)))
def mlkt (f : Nat) (x : Int32) : Nat → Nat → (Nat → Int32) → (Nat → Int32)
  | 0, _, d => d
  | k + 1, i, d => mlkt f x k (i + 1) (upd d (60 * f + i) (vp_nar .byte ((mrb x i).toInt8.toInt32)))
def mssz (S : mst) (f : Nat) (x : Int32) : mst := (pj_cd S, pj_dk S, pj_tk S, pj_kd S, pj_lc S, upd (pj_sz S) f x, S.2.2.2.2.2.2)
def mtkM (S : mst) (f k : Nat) : mst := (pj_cd S, (mtk (pj_dk S, pj_tk S, pj_bl S) f k).1, (mtk (pj_dk S, pj_tk S, pj_bl S) f k).2.1, pj_kd S, pj_lc S, pj_sz S, pj_bh S, pj_wt S, (mtk (pj_dk S, pj_tk S, pj_bl S) f k).2.2, pj_tg S, pj_fs S)
def mstg (S : mst) (t : Nat → Int32) : mst := (pj_cd S, pj_dk S, pj_tk S, pj_kd S, pj_lc S, pj_sz S, pj_bh S, pj_wt S, pj_bl S, t, pj_fs S)
def mlk1 (S : mst) (n f : Nat) : mst := mssz (mbeg (mcod S 0) (nI 3) (nI 1)) f (nI n)
def mlkF (S : mst) (n : Nat) (x : Int32) (f : Nat) : mst := if 59 < n then msdk (mtkM (mlk1 S n f) f 0) (mlkd (pj_bl (mtkM (mlk1 S n f) f 0) (15 * f)) x n 0 (pj_dk (mtkM (mlk1 S n f) f 0))) else mstg (mlk1 S n f) (mlkt f x n 0 (pj_tg (mlk1 S n f)))
def mlk (S : mst) (n : Int) (x : Int32) : mst := if mlk_c S n = 0 then mlkF S n.toNat x (mff (pj_kd S) 12 1) else mcod S (mlk_c S n)
def zOK (sz : Nat → Int32) : Prop := ∀ f, 0 ≤ (sz f).toInt ∧ (sz f).toInt ≤ 15360
def mrd_c (S : mst) (f : Nat) (z : Int) : Nat := if (f ≠ 0 ∧ f ≤ 12) ∧ ¬ pj_kd S f ≤ 0 then (if 0 ≤ z ∧ z ≤ (pj_sz S f - nI 1).toInt then 0 else 2) else 1
def mrd_r (S : mst) (f i : Nat) : Int32 := if pj_kd S f = nI 3 ∧ ¬ nI 60 ≤ pj_sz S f then pj_tg S (60 * f + i) &&& nI 255 else if pj_bl S (15 * f + i / 1024) = 0 then nI 0 else pj_dk S (1024 * pj_bl S (15 * f + i / 1024) + i % 1024) &&& nI 255
def mcu_c (S : mst) (f : Nat) (z : Int) : Nat := if (((f ≠ 0 ∧ f ≤ 12) ∧ ¬ pj_kd S f ≤ 0) ∧ pj_kd S f = nI 1) ∧ 0 ≤ z ∧ z ≤ 15360 then 0 else 1
def mcl1 (f z : Nat) : Nat → Nat → (Nat → Int32) × (Nat → Nat) → (Nat → Int32) × (Nat → Nat)
  | 0, _, S => S
  | n + 1, k, S => mcl1 f z n (k + 1) (if 1024 * k < z then S else (mgT S.1 S.2 f k, mgB S.2 f k))
theorem mcl1_ok {f z : Nat} : ∀ n k (S : (Nat → Int32) × (Nat → Nat)), bOK S.2 → bOK (mcl1 f z n k S).2
  | 0, _, _, h => h
  | n + 1, k, S, h => by
    rw [mcl1]
    apply mcl1_ok n
    by_cases q : 1024 * k < z
    · rw [if_pos q]; exact h
    · rw [if_neg q]; exact mgB_ok h
def mcl2 (bl : Nat → Nat) (f : Nat) (h : Int32) : Nat → Nat → (Nat → Int32) → (Nat → Int32)
  | 0, _, d => d
  | n + 1, i, d => if h ≤ nI i then d else if i % 1024 = 0 then d else mcl2 bl f h n (i + 1) (if bl (15 * f + i / 1024) = 0 then d else upd d (1024 * bl (15 * f + i / 1024) + i % 1024) (vp_nar .byte (nI 0)))
def mcu (S : mst) (f : Nat) (z : Int) : mst := if mcu_c S f z = 0 then (nI 0, mcl2 (mcl1 f z.toNat 15 0 (pj_tk S, pj_bl S)).2 f (pj_sz S f) 1024 z.toNat (pj_dk S), (mcl1 f z.toNat 15 0 (pj_tk S, pj_bl S)).1, pj_kd S, pj_lc S, upd (pj_sz S) f (nI z.toNat), pj_bh S, pj_wt S, (mcl1 f z.toNat 15 0 (pj_tk S, pj_bl S)).2, pj_tg S, pj_fs S) else mcod S (mcu_c S f z)
def mli_c (S : mst) (f : Nat) (x : Int32) : Nat := if ((f ≠ 0 ∧ f ≤ 12) ∧ ¬ pj_kd S f ≤ 0) ∧ 0 ≤ (pj_lc S f).toInt + x.toInt ∧ (pj_lc S f).toInt + x.toInt ≤ 1000 then 0 else 1
def mli (S : mst) (f : Nat) (x : Int32) : mst := if mli_c S f x = 0 then (nI 0, pj_dk S, pj_tk S, pj_kd S, upd (pj_lc S) f (pj_lc S f + x), pj_sz S, (mrst (pj_bh S, pj_wt S, pj_fs S) f (mby (upd (pj_lc S) f (pj_lc S f + x) f))).1, (mrst (pj_bh S, pj_wt S, pj_fs S) f (mby (upd (pj_lc S) f (pj_lc S f + x) f))).2.1, pj_bl S, pj_tg S, (mrst (pj_bh S, pj_wt S, pj_fs S) f (mby (upd (pj_lc S) f (pj_lc S f + x) f))).2.2) else mcod S (mli_c S f x)
def mab_c (f z : Int) : Nat := if (1 ≤ f ∧ f ≤ 12) ∧ 0 ≤ z ∧ z ≤ 5 then 0 else 1
def mab_r (S : mst) (f : Nat) (z : Int) : Int32 := if pj_kd S f = 0 then nI 0 else if z = 0 then pj_kd S f else if z = 1 then pj_lc S f else if z = 2 then pj_sz S f else if z = 3 then nI (mbo (pj_bl S) f 15 0 0) else if z = 4 then nI (pj_bl S (15 * f)) else pj_bh S f
def mbk_c (S : mst) (f : Nat) (z : Int) : Nat := if ((f ≠ 0 ∧ f ≤ 12) ∧ ¬ pj_kd S f ≤ 0) ∧ 0 ≤ z ∧ z ≤ 14 then 0 else 1
def mco_c (z : Int) : Nat := if 0 ≤ z ∧ z ≤ 3 then 0 else 1
def mcn (kd wt : Nat → Int32) : Nat → Nat → Nat → Nat → Nat × Nat
  | 0, _, a, b => (a, b)
  | k + 1, f, a, b => mcn kd wt k (f + 1) (if kd f ≤ 0 then a else a + 1) (if wt f = 0 then b else b + 1)
def mco_r (S : mst) (z : Int) : Int32 := if z = 0 then nI (mf1 (pj_tk S) 128 0 0) else if z = 1 then nI (mcn (pj_kd S) (pj_wt S) 12 1 0 0).1 else if z = 2 then nI (mcn (pj_kd S) (pj_wt S) 12 1 0 0).2 else pj_fs S
def mrec (S : mst) (f i : Nat) : Int32 := if pj_kd S f = 0 then nI 0 else if 40 ≤ i ∧ i < 100 then (if pj_kd S f = nI 3 ∧ ¬ nI 60 ≤ pj_sz S f then (if pj_sz S f ≤ nI (i - 40) then nI 0 else pj_tg S (60 * f + (i - 40)) &&& nI 255) else mpt (nI (pj_bl S (15 * f + (i - 40) / 4))) (((i - 40) % 4 : Nat) : Int) ((4 : Nat) : Int)) else mpt (if pj_kd S f = nI 1 then nI 32768 else nI 40960) ((i : Nat) : Int) ((2 : Nat) : Int) + mpt (pj_sz S f) (((i : Nat) : Int) - ((4 : Nat) : Int)) ((4 : Nat) : Int) + mpt (pj_bh S f) (((i : Nat) : Int) - ((20 : Nat) : Int)) ((4 : Nat) : Int) + mpt (pj_lc S f) (((i : Nat) : Int) - ((26 : Nat) : Int)) ((2 : Nat) : Int) + mpt (nI (2 * mbo (pj_bl S) f 15 0 0)) (((i : Nat) : Int) - ((28 : Nat) : Int)) ((4 : Nat) : Int)
def mby_c (z u : Int) : Nat := if (0 ≤ z ∧ z ≤ 3) ∧ 0 ≤ u ∧ u ≤ 1023 then 0 else 1
def mby_r (S : mst) (z u : Nat) : Int32 := if z = 0 then mpt (pj_fs S) (((u : Nat) : Int) - ((232 : Nat) : Int)) ((4 : Nat) : Int) else mrec S (1 + 4 * (z - 1) + u / 256) (u % 256)
theorem m_Mo_block : mV R_Mo y_Mo_block (Cond.code y_Mo_block c_Mo_block 3 (some .int)) 2 := ⟨⟨w_982, w_983, w_7, w_984⟩, by decide +kernel⟩
set_option maxHeartbeats 4000000 in
set_option maxRecDepth 100000 in
theorem k_Mo_block (l : Launch) {D : va_G} {ct : Nat → ClassId} {ad : Nat → Nat} {cd : Int32} {dk : Nat → Int32} {tk kd lc sz bh wt : Nat → Int32} {bl : Nat → Nat} {tg : Nat → Int32} {fs : Int32} {A : Nat → Prop} {f : Nat} {x_f : Int32} (hx_f : x_f.toNatClampNeg = f) {z : Int} {x_z : Int32} (hx_z : x_z.toInt = z) (h0 : bOK bl) : Met l y_Mo_block (Cond.code y_Mo_block c_Mo_block 3 (some .int) :: wA) (rmk 3 0 0) (va_Pc [.ref (ad 0), .int x_f, .int x_z] (cW A D (tyM ct) (wsM ct ad cd dk tk kd lc sz bh wt bl tg fs))) (wQ (some (.int (if mbk_c (cd, dk, tk, kd, lc, sz, bh, wt, bl, tg, fs) f z = 0 then nI (bl (15 * f + z.toNat)) else nI 0))) A D (wsM ct ad (nI (mbk_c (cd, dk, tk, kd, lc, sz, bh, wt, bl, tg, fs) f z)) dk tk kd lc sz bh wt bl tg fs)) 0 0 A := by
  refine Met.ofW (cc := c_Mo_block) (maxL := 3) (ret := (some .int)) (by decide +kernel) rfl ?_
  intro p e s m args below meth c s₁ B0 hml hv
  obtain ⟨rfl, hA, hP, hD, hK⟩ := hv
  have hS : va_S A s.heap s.heap [] := va_S.rf
  have hx := B0.exec
  have hb := B0.bytes
  have hr := B0.returns
  have hts := fun w (h : w ∈ wA) => atoms_spec (ws := Cond.code y_Mo_block c_Mo_block 3 (some .int) :: wA) B0.pre w (List.mem_cons_of_mem _ h)
  have hown : s.vm.findClass R_Mo = some m.cls := findClass_of_methodNamed B0.named
  have hlocks := B0.notSynchronized
  have hl := lv_entry ([.ref (ad 0), .int x_f, .int x_z]) (n := 3) (Nat.le_of_ble_eq_true rfl)
  rw [lg_entry_eq]
  generalize (lg_sl ([.ref (ad 0), .int x_f, .int x_z]) ++ List.replicate (3 - (lg_sl ([.ref (ad 0), .int x_f, .int x_z])).length) Slot.unset).toArray = ls at hl ⊢
  have hl : lv_has ls 3 [(0, .ref (ad 0)), (1, .int x_f), (2, .int x_z)] := hl
  have hf_f : x_f.toInt.toNat = f := hx_f
  have hg_f := z_lt x_f
  have hf_z := z_lt x_z
  have hg_z := z_ge x_z
  rw [hx_z] at hf_z hg_z
  have hbl := h0
  refine lv_aload_n hx hb d_Mo_block_0 rfl (lv_at hl 0 rfl) ?_
  refine lv_aload_n hx hb d_Mo_block_1 rfl (lv_at hl 0 rfl) ?_
  refine lv_iload_n hx hb d_Mo_block_2 rfl (lv_at hl 1 rfl) ?_
  refine rdV ⟨hx, hb, hml, hown, hts⟩ hK hP (k_Mo_isFile l (f := f) (x_f := x_f) hx_f ) w_922 m_Mo_isFile ⟨by decide, by decide⟩ 0 rfl rfl rfl hl.1 rfl (Nat.le_of_ble_eq_true rfl) d_Mo_block_3 ⟨Nat.zero_le _, Nat.zero_le _⟩ ?_
  refine lb_if_eq (tgt := 25) hx hb d_Mo_block_6 (by decide) (fun c_1 => ?_) (fun c_1 => ?_)
  · skip
    refine lv_iconst (v := nI 1) hx hb d_Mo_block_25 (by decide) ?_
    refine va_put (D := D) (ci := 6) (v := .int (nI 1)) (ty := .int) (C := R_Mo) (T := T_Mo) (N := 11) hx hb hts u_Mo t_Mo t_Mo_ok n_Mo hown hK hP hD hS 0 rfl rfl 0 (by decide) (hts _ w_839) (fun _ h9 => h9) rfl (by decide +kernel) rfl rfl (Nat.le_of_ble_eq_true rfl) d_Mo_block_26 (fun H locs hP hD hS => ?_)
    have hP : va_P D vwC (wsM ct ad (nI 1) dk tk kd lc sz bh wt bl tg fs) H := hP
    have hD : va_D A (wsM ct ad (nI 1) dk tk kd lc sz bh wt bl tg fs) := hD
    refine lv_aload_n hx hb d_Mo_block_29 rfl (lv_at hl 0 rfl) ?_
    refine va_get (D := D) (ci := 6) (v := .int (nI 1)) (C := R_Mo) (T := T_Mo) (N := 11) hx hb hts u_Mo hown hK hP 0 rfl rfl 0 (by decide) (hts _ w_839) (fun _ h9 => h9) rfl d_Mo_block_30 ?_
    refine ln_if_le (tgt := 40) hx hb (by omega) d_Mo_block_33 (by decide) (fun c_2 => ?_) (fun c_2 => ?_)
    · exact absurd c_2 (by omega)
    · skip
      refine lv_iconst (v := nI 0) hx hb d_Mo_block_36 (by decide) ?_
      refine lv_goto (tgt := 51) hx hb d_Mo_block_37 (by decide) ?_
      have e9 : wsM ct ad (nI 1) dk tk kd lc sz bh wt bl tg fs = wsM ct ad (nI (mbk_c (cd, dk, tk, kd, lc, sz, bh, wt, bl, tg, fs) f z)) dk tk kd lc sz bh wt bl tg fs := (by rw [(show mbk_c (cd, dk, tk, kd, lc, sz, bh, wt, bl, tg, fs) f z = 1 from (by unfold mbk_c; (try dsimp only [pj_kd, pj_bl, pj_bh, pj_wt, pj_fs, pj_cd, pj_dk, pj_tk, pj_lc, pj_sz, pj_tg]); first | (rw [if_neg (fun q => absurd q.1 (by assumption))]; done) | (rw [if_neg (fun q => absurd q.2 (by omega))]; done) | (rw [if_pos ⟨by assumption, by omega⟩]; done)))])
      rw [e9] at hP hD
      exact W.iret (v := nI 0) hx hb hr (fun t9 ht hW => ⟨congrArg (fun z => Outcome.returned (some (Value.int z))) (show nI 0 = (if mbk_c (cd, dk, tk, kd, lc, sz, bh, wt, bl, tg, fs) f z = 0 then nI (bl (15 * f + z.toNat)) else nI 0) from (by rw [(show mbk_c (cd, dk, tk, kd, lc, sz, bh, wt, bl, tg, fs) f z = 1 from (by unfold mbk_c; (try dsimp only [pj_kd, pj_bl, pj_bh, pj_wt, pj_fs, pj_cd, pj_dk, pj_tk, pj_lc, pj_sz, pj_tg]); first | (rw [if_neg (fun q => absurd q.1 (by assumption))]; done) | (rw [if_neg (fun q => absurd q.2 (by omega))]; done) | (rw [if_pos ⟨by assumption, by omega⟩]; done)))]; rfl)), by rw [ht]; exact hP, hD, hS.F ht⟩) hS.2.2 d_Mo_block_51
  · skip
    obtain ⟨⟨f1, f2⟩, f3⟩ := id c_1
    obtain rfl : x_f = nI f := z_cl hx_f (by omega)
    refine lv_iload_n hx hb d_Mo_block_9 rfl (lv_at hl 2 rfl) ?_
    refine lv_i2l hx hb d_Mo_block_10 rfl ?_
    refine lv_lconst (v := 0) hx hb d_Mo_block_11 (by decide) ?_
    refine lv_ldc2 (v := 14) hx hb hown (hts _ w_985) d_Mo_block_12 ?_
    refine rdS ⟨hx, hb, hml, hown, hts⟩ hK hP (k_Mo_in l (v := z) (x_v := x_z.toInt64) (u := 0) (x_u := 0) (w := 14) (x_w := 14) ((Int32.toInt_toInt64 _).trans hx_z) (show Int64.toInt 0 = 0 by decide) (show Int64.toInt 14 = 14 by decide) ) w_883 m_Mo_in ⟨by decide, by decide⟩ rfl hl.1 rfl (Nat.le_of_ble_eq_true rfl) d_Mo_block_15 ⟨Nat.zero_le _, Nat.zero_le _⟩ ?_
    refine lb_if_eq (tgt := 25) hx hb d_Mo_block_18 (by decide) (fun c_3 => ?_) (fun c_3 => ?_)
    · skip
      refine lv_iconst (v := nI 1) hx hb d_Mo_block_25 (by decide) ?_
      refine va_put (D := D) (ci := 6) (v := .int (nI 1)) (ty := .int) (C := R_Mo) (T := T_Mo) (N := 11) hx hb hts u_Mo t_Mo t_Mo_ok n_Mo hown hK hP hD hS 0 rfl rfl 0 (by decide) (hts _ w_839) (fun _ h9 => h9) rfl (by decide +kernel) rfl rfl (Nat.le_of_ble_eq_true rfl) d_Mo_block_26 (fun H locs hP hD hS => ?_)
      have hP : va_P D vwC (wsM ct ad (nI 1) dk tk kd lc sz bh wt bl tg fs) H := hP
      have hD : va_D A (wsM ct ad (nI 1) dk tk kd lc sz bh wt bl tg fs) := hD
      refine lv_aload_n hx hb d_Mo_block_29 rfl (lv_at hl 0 rfl) ?_
      refine va_get (D := D) (ci := 6) (v := .int (nI 1)) (C := R_Mo) (T := T_Mo) (N := 11) hx hb hts u_Mo hown hK hP 0 rfl rfl 0 (by decide) (hts _ w_839) (fun _ h9 => h9) rfl d_Mo_block_30 ?_
      refine ln_if_le (tgt := 40) hx hb (by omega) d_Mo_block_33 (by decide) (fun c_4 => ?_) (fun c_4 => ?_)
      · exact absurd c_4 (by omega)
      · skip
        refine lv_iconst (v := nI 0) hx hb d_Mo_block_36 (by decide) ?_
        refine lv_goto (tgt := 51) hx hb d_Mo_block_37 (by decide) ?_
        have e9 : wsM ct ad (nI 1) dk tk kd lc sz bh wt bl tg fs = wsM ct ad (nI (mbk_c (cd, dk, tk, kd, lc, sz, bh, wt, bl, tg, fs) f z)) dk tk kd lc sz bh wt bl tg fs := (by rw [(show mbk_c (cd, dk, tk, kd, lc, sz, bh, wt, bl, tg, fs) f z = 1 from (by unfold mbk_c; (try dsimp only [pj_kd, pj_bl, pj_bh, pj_wt, pj_fs, pj_cd, pj_dk, pj_tk, pj_lc, pj_sz, pj_tg]); first | (rw [if_neg (fun q => absurd q.1 (by assumption))]; done) | (rw [if_neg (fun q => absurd q.2 (by omega))]; done) | (rw [if_pos ⟨by assumption, by omega⟩]; done)))])
        rw [e9] at hP hD
        exact W.iret (v := nI 0) hx hb hr (fun t9 ht hW => ⟨congrArg (fun z => Outcome.returned (some (Value.int z))) (show nI 0 = (if mbk_c (cd, dk, tk, kd, lc, sz, bh, wt, bl, tg, fs) f z = 0 then nI (bl (15 * f + z.toNat)) else nI 0) from (by rw [(show mbk_c (cd, dk, tk, kd, lc, sz, bh, wt, bl, tg, fs) f z = 1 from (by unfold mbk_c; (try dsimp only [pj_kd, pj_bl, pj_bh, pj_wt, pj_fs, pj_cd, pj_dk, pj_tk, pj_lc, pj_sz, pj_tg]); first | (rw [if_neg (fun q => absurd q.1 (by assumption))]; done) | (rw [if_neg (fun q => absurd q.2 (by omega))]; done) | (rw [if_pos ⟨by assumption, by omega⟩]; done)))]; rfl)), by rw [ht]; exact hP, hD, hS.F ht⟩) hS.2.2 d_Mo_block_51
    · skip
      obtain ⟨z1, rfl⟩ := Int.eq_ofNat_of_zero_le (show 0 ≤ z by omega)
      obtain rfl : x_z = nI z1 := z_i hx_z (by omega)
      refine lv_iconst (v := nI 0) hx hb d_Mo_block_21 (by decide) ?_
      refine lv_goto (tgt := 26) hx hb d_Mo_block_22 (by decide) ?_
      refine va_put (D := D) (ci := 6) (v := .int (nI 0)) (ty := .int) (C := R_Mo) (T := T_Mo) (N := 11) hx hb hts u_Mo t_Mo t_Mo_ok n_Mo hown hK hP hD hS 0 rfl rfl 0 (by decide) (hts _ w_839) (fun _ h9 => h9) rfl (by decide +kernel) rfl rfl (Nat.le_of_ble_eq_true rfl) d_Mo_block_26 (fun H locs hP hD hS => ?_)
      have hP : va_P D vwC (wsM ct ad (nI 0) dk tk kd lc sz bh wt bl tg fs) H := hP
      have hD : va_D A (wsM ct ad (nI 0) dk tk kd lc sz bh wt bl tg fs) := hD
      refine lv_aload_n hx hb d_Mo_block_29 rfl (lv_at hl 0 rfl) ?_
      refine va_get (D := D) (ci := 6) (v := .int (nI 0)) (C := R_Mo) (T := T_Mo) (N := 11) hx hb hts u_Mo hown hK hP 0 rfl rfl 0 (by decide) (hts _ w_839) (fun _ h9 => h9) rfl d_Mo_block_30 ?_
      refine ln_if_le (tgt := 40) hx hb (by omega) d_Mo_block_33 (by decide) (fun c_5 => ?_) (fun c_5 => ?_)
      · skip
        refine lv_aload_n hx hb d_Mo_block_40 rfl (lv_at hl 0 rfl) ?_
        refine va_get (D := D) (ci := 6) (v := .ref (ad 8)) (C := R_Mo) (T := T_Mo) (N := 11) hx hb hts u_Mo hown hK hP 0 rfl rfl 8 (by decide) (hts _ w_847) (fun _ h9 => h9) rfl d_Mo_block_41 ?_
        refine lv_bipush (v := nI 15) hx hb d_Mo_block_44 (by decide) ?_
        refine lv_iload_n hx hb d_Mo_block_46 rfl (lv_at hl 1 rfl) ?_
        refine ln_imul hx hb d_Mo_block_47 ?_
        refine lv_iload_n hx hb d_Mo_block_48 rfl (lv_at hl 2 rfl) ?_
        refine ln_iadd hx hb d_Mo_block_49 ?_
        refine ln_iald hx hb hK hP 8 2 rfl rfl (by omega) (by decide) d_Mo_block_50 ?_
        refine W.eq (g2 := F0 m 51 ls [.int (nI (bl ((15 * f) + z1)))]) rfl ?_
        have b_6 := hbl ((15 * f) + z1)
        have e9 : wsM ct ad (nI 0) dk tk kd lc sz bh wt bl tg fs = wsM ct ad (nI (mbk_c (cd, dk, tk, kd, lc, sz, bh, wt, bl, tg, fs) f ((z1 : Nat) : Int))) dk tk kd lc sz bh wt bl tg fs := (by rw [(show mbk_c (cd, dk, tk, kd, lc, sz, bh, wt, bl, tg, fs) f ((z1 : Nat) : Int) = 0 from (by unfold mbk_c; (try dsimp only [pj_kd, pj_bl, pj_bh, pj_wt, pj_fs, pj_cd, pj_dk, pj_tk, pj_lc, pj_sz, pj_tg]); first | (rw [if_neg (fun q => absurd q.1 (by assumption))]; done) | (rw [if_neg (fun q => absurd q.2 (by omega))]; done) | (rw [if_pos ⟨by assumption, by omega⟩]; done)))])
        rw [e9] at hP hD
        exact W.iret (v := nI (bl ((15 * f) + z1))) hx hb hr (fun t9 ht hW => ⟨congrArg (fun z => Outcome.returned (some (Value.int z))) (show nI (bl ((15 * f) + z1)) = (if mbk_c (cd, dk, tk, kd, lc, sz, bh, wt, bl, tg, fs) f ((z1 : Nat) : Int) = 0 then nI (bl (15 * f + ((z1 : Nat) : Int).toNat)) else nI 0) from (by rw [(show mbk_c (cd, dk, tk, kd, lc, sz, bh, wt, bl, tg, fs) f ((z1 : Nat) : Int) = 0 from (by unfold mbk_c; (try dsimp only [pj_kd, pj_bl, pj_bh, pj_wt, pj_fs, pj_cd, pj_dk, pj_tk, pj_lc, pj_sz, pj_tg]); first | (rw [if_neg (fun q => absurd q.1 (by assumption))]; done) | (rw [if_neg (fun q => absurd q.2 (by omega))]; done) | (rw [if_pos ⟨by assumption, by omega⟩]; done)))]; rfl)), by rw [ht]; exact hP, hD, hS.F ht⟩) hS.2.2 d_Mo_block_51
      · exact absurd c_5 (by omega)
theorem m_Mo_about : mV R_Mo y_Mo_about (Cond.code y_Mo_about c_Mo_about 3 (some .int)) 2 := ⟨⟨w_977, w_978, w_7, w_979⟩, by decide +kernel⟩
set_option maxHeartbeats 4000000 in
set_option maxRecDepth 100000 in
theorem k_Mo_about (l : Launch) {D : va_G} {ct : Nat → ClassId} {ad : Nat → Nat} {cd : Int32} {dk : Nat → Int32} {tk kd lc sz bh wt : Nat → Int32} {bl : Nat → Nat} {tg : Nat → Int32} {fs : Int32} {A : Nat → Prop} {f : Int} {x_f : Int32} (hx_f : x_f.toInt = f) {z : Int} {x_z : Int32} (hx_z : x_z.toInt = z) (h0 : bOK bl) : Met l y_Mo_about (Cond.code y_Mo_about c_Mo_about 3 (some .int) :: wA) (rmk 3 0 0) (va_Pc [.ref (ad 0), .int x_f, .int x_z] (cW A D (tyM ct) (wsM ct ad cd dk tk kd lc sz bh wt bl tg fs))) (wQ (some (.int (if mab_c f z = 0 then mab_r (cd, dk, tk, kd, lc, sz, bh, wt, bl, tg, fs) f.toNat z else nI 0))) A D (wsM ct ad (nI (mab_c f z)) dk tk kd lc sz bh wt bl tg fs)) 0 0 A := by
  refine Met.ofW (cc := c_Mo_about) (maxL := 3) (ret := (some .int)) (by decide +kernel) rfl ?_
  intro p e s m args below meth c s₁ B0 hml hv
  obtain ⟨rfl, hA, hP, hD, hK⟩ := hv
  have hS : va_S A s.heap s.heap [] := va_S.rf
  have hx := B0.exec
  have hb := B0.bytes
  have hr := B0.returns
  have hts := fun w (h : w ∈ wA) => atoms_spec (ws := Cond.code y_Mo_about c_Mo_about 3 (some .int) :: wA) B0.pre w (List.mem_cons_of_mem _ h)
  have hown : s.vm.findClass R_Mo = some m.cls := findClass_of_methodNamed B0.named
  have hlocks := B0.notSynchronized
  have hl := lv_entry ([.ref (ad 0), .int x_f, .int x_z]) (n := 3) (Nat.le_of_ble_eq_true rfl)
  rw [lg_entry_eq]
  generalize (lg_sl ([.ref (ad 0), .int x_f, .int x_z]) ++ List.replicate (3 - (lg_sl ([.ref (ad 0), .int x_f, .int x_z])).length) Slot.unset).toArray = ls at hl ⊢
  have hl : lv_has ls 3 [(0, .ref (ad 0)), (1, .int x_f), (2, .int x_z)] := hl
  have hf_f := z_lt x_f
  have hg_f := z_ge x_f
  rw [hx_f] at hf_f hg_f
  have hf_z := z_lt x_z
  have hg_z := z_ge x_z
  rw [hx_z] at hf_z hg_z
  have hbl := h0
  refine lv_aload_n hx hb d_Mo_about_0 rfl (lv_at hl 0 rfl) ?_
  refine lv_iload_n hx hb d_Mo_about_1 rfl (lv_at hl 1 rfl) ?_
  refine lv_i2l hx hb d_Mo_about_2 rfl ?_
  refine lv_lconst (v := 1) hx hb d_Mo_about_3 (by decide) ?_
  refine lv_ldc2 (v := 12) hx hb hown (hts _ w_926) d_Mo_about_4 ?_
  refine rdS ⟨hx, hb, hml, hown, hts⟩ hK hP (k_Mo_in l (v := f) (x_v := x_f.toInt64) (u := 1) (x_u := 1) (w := 12) (x_w := 12) ((Int32.toInt_toInt64 _).trans hx_f) (show Int64.toInt 1 = 1 by decide) (show Int64.toInt 12 = 12 by decide) ) w_883 m_Mo_in ⟨by decide, by decide⟩ rfl hl.1 rfl (Nat.le_of_ble_eq_true rfl) d_Mo_about_7 ⟨Nat.zero_le _, Nat.zero_le _⟩ ?_
  refine lb_if_eq (tgt := 29) hx hb d_Mo_about_10 (by decide) (fun c_1 => ?_) (fun c_1 => ?_)
  · skip
    refine lv_iconst (v := nI 1) hx hb d_Mo_about_29 (by decide) ?_
    refine va_put (D := D) (ci := 6) (v := .int (nI 1)) (ty := .int) (C := R_Mo) (T := T_Mo) (N := 11) hx hb hts u_Mo t_Mo t_Mo_ok n_Mo hown hK hP hD hS 0 rfl rfl 0 (by decide) (hts _ w_839) (fun _ h9 => h9) rfl (by decide +kernel) rfl rfl (Nat.le_of_ble_eq_true rfl) d_Mo_about_30 (fun H locs hP hD hS => ?_)
    have hP : va_P D vwC (wsM ct ad (nI 1) dk tk kd lc sz bh wt bl tg fs) H := hP
    have hD : va_D A (wsM ct ad (nI 1) dk tk kd lc sz bh wt bl tg fs) := hD
    refine lv_aload_n hx hb d_Mo_about_33 rfl (lv_at hl 0 rfl) ?_
    refine va_get (D := D) (ci := 6) (v := .int (nI 1)) (C := R_Mo) (T := T_Mo) (N := 11) hx hb hts u_Mo hown hK hP 0 rfl rfl 0 (by decide) (hts _ w_839) (fun _ h9 => h9) rfl d_Mo_about_34 ?_
    refine ln_if_gt (tgt := 49) hx hb (by omega) d_Mo_about_37 (by decide) (fun c_2 => ?_) (fun c_2 => ?_)
    · skip
      refine lv_iconst (v := nI 0) hx hb d_Mo_about_49 (by decide) ?_
      have e9 : wsM ct ad (nI 1) dk tk kd lc sz bh wt bl tg fs = wsM ct ad (nI (mab_c f z)) dk tk kd lc sz bh wt bl tg fs := (by rw [(show mab_c f z = 1 from (by unfold mab_c; (try dsimp only [pj_kd, pj_bl, pj_bh, pj_wt, pj_fs, pj_cd, pj_dk, pj_tk, pj_lc, pj_sz, pj_tg]); first | (rw [if_pos (by omega)]; done) | (rw [if_neg (by omega)]; done)))])
      rw [e9] at hP hD
      exact W.iret (v := nI 0) hx hb hr (fun t9 ht hW => ⟨congrArg (fun z => Outcome.returned (some (Value.int z))) (show nI 0 = (if mab_c f z = 0 then mab_r (cd, dk, tk, kd, lc, sz, bh, wt, bl, tg, fs) f.toNat z else nI 0) from (by rw [(show mab_c f z = 1 from (by unfold mab_c; (try dsimp only [pj_kd, pj_bl, pj_bh, pj_wt, pj_fs, pj_cd, pj_dk, pj_tk, pj_lc, pj_sz, pj_tg]); first | (rw [if_pos (by omega)]; done) | (rw [if_neg (by omega)]; done)))]; first | rfl | (rw [if_pos rfl]; unfold mab_r; dsimp only [pj_kd, pj_bl, pj_bh, pj_wt, pj_fs, pj_cd, pj_dk, pj_tk, pj_lc, pj_sz, pj_tg]; rw [← hf1]; first | (rw [if_pos (by assumption)]; done) | (rw [if_neg (by assumption)]; first | rfl | (rw [if_neg (by omega), if_neg (by omega), if_neg (by omega), if_neg (by omega), if_neg (by omega)]))))), by rw [ht]; exact hP, hD, hS.F ht⟩) hS.2.2 d_Mo_about_50
    · exact absurd c_2 (by omega)
  · skip
    obtain ⟨f1, hf1⟩ : ∃ f1 : Nat, f1 = f.toNat := ⟨_, rfl⟩
    obtain rfl : x_f = nI f1 := z_i (by rw [hx_f]; omega) (by omega)
    refine lv_iload_n hx hb d_Mo_about_13 rfl (lv_at hl 2 rfl) ?_
    refine lv_i2l hx hb d_Mo_about_14 rfl ?_
    refine lv_lconst (v := 0) hx hb d_Mo_about_15 (by decide) ?_
    refine lv_ldc2 (v := 5) hx hb hown (hts _ w_980) d_Mo_about_16 ?_
    refine rdS ⟨hx, hb, hml, hown, hts⟩ hK hP (k_Mo_in l (v := z) (x_v := x_z.toInt64) (u := 0) (x_u := 0) (w := 5) (x_w := 5) ((Int32.toInt_toInt64 _).trans hx_z) (show Int64.toInt 0 = 0 by decide) (show Int64.toInt 5 = 5 by decide) ) w_883 m_Mo_in ⟨by decide, by decide⟩ rfl hl.1 rfl (Nat.le_of_ble_eq_true rfl) d_Mo_about_19 ⟨Nat.zero_le _, Nat.zero_le _⟩ ?_
    refine lb_if_eq (tgt := 29) hx hb d_Mo_about_22 (by decide) (fun c_3 => ?_) (fun c_3 => ?_)
    · skip
      refine lv_iconst (v := nI 1) hx hb d_Mo_about_29 (by decide) ?_
      refine va_put (D := D) (ci := 6) (v := .int (nI 1)) (ty := .int) (C := R_Mo) (T := T_Mo) (N := 11) hx hb hts u_Mo t_Mo t_Mo_ok n_Mo hown hK hP hD hS 0 rfl rfl 0 (by decide) (hts _ w_839) (fun _ h9 => h9) rfl (by decide +kernel) rfl rfl (Nat.le_of_ble_eq_true rfl) d_Mo_about_30 (fun H locs hP hD hS => ?_)
      have hP : va_P D vwC (wsM ct ad (nI 1) dk tk kd lc sz bh wt bl tg fs) H := hP
      have hD : va_D A (wsM ct ad (nI 1) dk tk kd lc sz bh wt bl tg fs) := hD
      refine lv_aload_n hx hb d_Mo_about_33 rfl (lv_at hl 0 rfl) ?_
      refine va_get (D := D) (ci := 6) (v := .int (nI 1)) (C := R_Mo) (T := T_Mo) (N := 11) hx hb hts u_Mo hown hK hP 0 rfl rfl 0 (by decide) (hts _ w_839) (fun _ h9 => h9) rfl d_Mo_about_34 ?_
      refine ln_if_gt (tgt := 49) hx hb (by omega) d_Mo_about_37 (by decide) (fun c_4 => ?_) (fun c_4 => ?_)
      · skip
        refine lv_iconst (v := nI 0) hx hb d_Mo_about_49 (by decide) ?_
        have e9 : wsM ct ad (nI 1) dk tk kd lc sz bh wt bl tg fs = wsM ct ad (nI (mab_c f z)) dk tk kd lc sz bh wt bl tg fs := (by rw [(show mab_c f z = 1 from (by unfold mab_c; (try dsimp only [pj_kd, pj_bl, pj_bh, pj_wt, pj_fs, pj_cd, pj_dk, pj_tk, pj_lc, pj_sz, pj_tg]); first | (rw [if_pos (by omega)]; done) | (rw [if_neg (by omega)]; done)))])
        rw [e9] at hP hD
        exact W.iret (v := nI 0) hx hb hr (fun t9 ht hW => ⟨congrArg (fun z => Outcome.returned (some (Value.int z))) (show nI 0 = (if mab_c f z = 0 then mab_r (cd, dk, tk, kd, lc, sz, bh, wt, bl, tg, fs) f.toNat z else nI 0) from (by rw [(show mab_c f z = 1 from (by unfold mab_c; (try dsimp only [pj_kd, pj_bl, pj_bh, pj_wt, pj_fs, pj_cd, pj_dk, pj_tk, pj_lc, pj_sz, pj_tg]); first | (rw [if_pos (by omega)]; done) | (rw [if_neg (by omega)]; done)))]; first | rfl | (rw [if_pos rfl]; unfold mab_r; dsimp only [pj_kd, pj_bl, pj_bh, pj_wt, pj_fs, pj_cd, pj_dk, pj_tk, pj_lc, pj_sz, pj_tg]; rw [← hf1]; first | (rw [if_pos (by assumption)]; done) | (rw [if_neg (by assumption)]; first | rfl | (rw [if_neg (by omega), if_neg (by omega), if_neg (by omega), if_neg (by omega), if_neg (by omega)]))))), by rw [ht]; exact hP, hD, hS.F ht⟩) hS.2.2 d_Mo_about_50
      · exact absurd c_4 (by omega)
    · skip
      refine lv_iconst (v := nI 0) hx hb d_Mo_about_25 (by decide) ?_
      refine lv_goto (tgt := 30) hx hb d_Mo_about_26 (by decide) ?_
      refine va_put (D := D) (ci := 6) (v := .int (nI 0)) (ty := .int) (C := R_Mo) (T := T_Mo) (N := 11) hx hb hts u_Mo t_Mo t_Mo_ok n_Mo hown hK hP hD hS 0 rfl rfl 0 (by decide) (hts _ w_839) (fun _ h9 => h9) rfl (by decide +kernel) rfl rfl (Nat.le_of_ble_eq_true rfl) d_Mo_about_30 (fun H locs hP hD hS => ?_)
      have hP : va_P D vwC (wsM ct ad (nI 0) dk tk kd lc sz bh wt bl tg fs) H := hP
      have hD : va_D A (wsM ct ad (nI 0) dk tk kd lc sz bh wt bl tg fs) := hD
      refine lv_aload_n hx hb d_Mo_about_33 rfl (lv_at hl 0 rfl) ?_
      refine va_get (D := D) (ci := 6) (v := .int (nI 0)) (C := R_Mo) (T := T_Mo) (N := 11) hx hb hts u_Mo hown hK hP 0 rfl rfl 0 (by decide) (hts _ w_839) (fun _ h9 => h9) rfl d_Mo_about_34 ?_
      refine ln_if_gt (tgt := 49) hx hb (by omega) d_Mo_about_37 (by decide) (fun c_5 => ?_) (fun c_5 => ?_)
      · exact absurd c_5 (by omega)
      · skip
        refine lv_aload_n hx hb d_Mo_about_40 rfl (lv_at hl 0 rfl) ?_
        refine va_get (D := D) (ci := 6) (v := .ref (ad 3)) (C := R_Mo) (T := T_Mo) (N := 11) hx hb hts u_Mo hown hK hP 0 rfl rfl 3 (by decide) (hts _ w_842) (fun _ h9 => h9) rfl d_Mo_about_41 ?_
        refine lv_iload_n hx hb d_Mo_about_44 rfl (lv_at hl 1 rfl) ?_
        refine ln_iald hx hb hK hP 3 2 rfl rfl (by omega) (by decide) d_Mo_about_45 ?_
        refine lv_if_ne (tgt := 51) hx hb d_Mo_about_46 (by decide) (fun c_6 => ?_) (fun c_6 => ?_)
        · skip
          refine lv_iload_n hx hb d_Mo_about_51 rfl (lv_at hl 2 rfl) ?_
          rcases (show z < 0 ∨ 4 < z ∨ z = 0 ∨ z = 1 ∨ z = 2 ∨ z = 3 ∨ z = 4 by omega) with s9 | s9 | rfl | rfl | rfl | rfl | rfl
          · refine lv_tableOut (tgt := 125) hx hb d_Mo_about_52 (Or.inl (by rw [hx_z]; exact s9)) (by decide) ?_
            refine lv_aload_n hx hb d_Mo_about_125 rfl (lv_at hl 0 rfl) ?_
            refine va_get (D := D) (ci := 6) (v := .ref (ad 6)) (C := R_Mo) (T := T_Mo) (N := 11) hx hb hts u_Mo hown hK hP 0 rfl rfl 6 (by decide) (hts _ w_845) (fun _ h9 => h9) rfl d_Mo_about_126 ?_
            refine lv_iload_n hx hb d_Mo_about_129 rfl (lv_at hl 1 rfl) ?_
            refine ln_iald hx hb hK hP 6 2 rfl rfl (by omega) (by decide) d_Mo_about_130 ?_
            have e9 : wsM ct ad (nI 0) dk tk kd lc sz bh wt bl tg fs = wsM ct ad (nI (mab_c f z)) dk tk kd lc sz bh wt bl tg fs := (by rw [(show mab_c f z = 0 from (by unfold mab_c; (try dsimp only [pj_kd, pj_bl, pj_bh, pj_wt, pj_fs, pj_cd, pj_dk, pj_tk, pj_lc, pj_sz, pj_tg]); first | (rw [if_pos (by omega)]; done) | (rw [if_neg (by omega)]; done)))])
            rw [e9] at hP hD
            exact W.iret (v := bh f1) hx hb hr (fun t9 ht hW => ⟨congrArg (fun z => Outcome.returned (some (Value.int z))) (show bh f1 = (if mab_c f z = 0 then mab_r (cd, dk, tk, kd, lc, sz, bh, wt, bl, tg, fs) f.toNat z else nI 0) from (by rw [(show mab_c f z = 0 from (by unfold mab_c; (try dsimp only [pj_kd, pj_bl, pj_bh, pj_wt, pj_fs, pj_cd, pj_dk, pj_tk, pj_lc, pj_sz, pj_tg]); first | (rw [if_pos (by omega)]; done) | (rw [if_neg (by omega)]; done)))]; first | rfl | (rw [if_pos rfl]; unfold mab_r; dsimp only [pj_kd, pj_bl, pj_bh, pj_wt, pj_fs, pj_cd, pj_dk, pj_tk, pj_lc, pj_sz, pj_tg]; rw [← hf1]; first | (rw [if_pos (by assumption)]; done) | (rw [if_neg (by assumption)]; first | rfl | (rw [if_neg (by omega), if_neg (by omega), if_neg (by omega), if_neg (by omega), if_neg (by omega)]))))), by rw [ht]; exact hP, hD, hS.F ht⟩) hS.2.2 d_Mo_about_131
          · refine lv_tableOut (tgt := 125) hx hb d_Mo_about_52 (Or.inr (by rw [hx_z]; exact s9)) (by decide) ?_
            refine lv_aload_n hx hb d_Mo_about_125 rfl (lv_at hl 0 rfl) ?_
            refine va_get (D := D) (ci := 6) (v := .ref (ad 6)) (C := R_Mo) (T := T_Mo) (N := 11) hx hb hts u_Mo hown hK hP 0 rfl rfl 6 (by decide) (hts _ w_845) (fun _ h9 => h9) rfl d_Mo_about_126 ?_
            refine lv_iload_n hx hb d_Mo_about_129 rfl (lv_at hl 1 rfl) ?_
            refine ln_iald hx hb hK hP 6 2 rfl rfl (by omega) (by decide) d_Mo_about_130 ?_
            have e9 : wsM ct ad (nI 0) dk tk kd lc sz bh wt bl tg fs = wsM ct ad (nI (mab_c f z)) dk tk kd lc sz bh wt bl tg fs := (by rw [(show mab_c f z = 0 from (by unfold mab_c; (try dsimp only [pj_kd, pj_bl, pj_bh, pj_wt, pj_fs, pj_cd, pj_dk, pj_tk, pj_lc, pj_sz, pj_tg]); first | (rw [if_pos (by omega)]; done) | (rw [if_neg (by omega)]; done)))])
            rw [e9] at hP hD
            exact W.iret (v := bh f1) hx hb hr (fun t9 ht hW => ⟨congrArg (fun z => Outcome.returned (some (Value.int z))) (show bh f1 = (if mab_c f z = 0 then mab_r (cd, dk, tk, kd, lc, sz, bh, wt, bl, tg, fs) f.toNat z else nI 0) from (by rw [(show mab_c f z = 0 from (by unfold mab_c; (try dsimp only [pj_kd, pj_bl, pj_bh, pj_wt, pj_fs, pj_cd, pj_dk, pj_tk, pj_lc, pj_sz, pj_tg]); first | (rw [if_pos (by omega)]; done) | (rw [if_neg (by omega)]; done)))]; first | rfl | (rw [if_pos rfl]; unfold mab_r; dsimp only [pj_kd, pj_bl, pj_bh, pj_wt, pj_fs, pj_cd, pj_dk, pj_tk, pj_lc, pj_sz, pj_tg]; rw [← hf1]; first | (rw [if_pos (by assumption)]; done) | (rw [if_neg (by assumption)]; first | rfl | (rw [if_neg (by omega), if_neg (by omega), if_neg (by omega), if_neg (by omega), if_neg (by omega)]))))), by rw [ht]; exact hP, hD, hS.F ht⟩) hS.2.2 d_Mo_about_131
          · refine lv_tableIn (off := 36) (tgt := 88) hx hb d_Mo_about_52 (by rw [hx_z]; decide) (by rw [hx_z]; decide) (by rw [hx_z]; rfl) (by decide) ?_
            refine lv_aload_n hx hb d_Mo_about_88 rfl (lv_at hl 0 rfl) ?_
            refine va_get (D := D) (ci := 6) (v := .ref (ad 3)) (C := R_Mo) (T := T_Mo) (N := 11) hx hb hts u_Mo hown hK hP 0 rfl rfl 3 (by decide) (hts _ w_842) (fun _ h9 => h9) rfl d_Mo_about_89 ?_
            refine lv_iload_n hx hb d_Mo_about_92 rfl (lv_at hl 1 rfl) ?_
            refine ln_iald hx hb hK hP 3 2 rfl rfl (by omega) (by decide) d_Mo_about_93 ?_
            have e9 : wsM ct ad (nI 0) dk tk kd lc sz bh wt bl tg fs = wsM ct ad (nI (mab_c f (0 : Int))) dk tk kd lc sz bh wt bl tg fs := (by rw [(show mab_c f (0 : Int) = 0 from (by unfold mab_c; (try dsimp only [pj_kd, pj_bl, pj_bh, pj_wt, pj_fs, pj_cd, pj_dk, pj_tk, pj_lc, pj_sz, pj_tg]); first | (rw [if_pos (by omega)]; done) | (rw [if_neg (by omega)]; done)))])
            rw [e9] at hP hD
            exact W.iret (v := kd f1) hx hb hr (fun t9 ht hW => ⟨congrArg (fun z => Outcome.returned (some (Value.int z))) (show kd f1 = (if mab_c f (0 : Int) = 0 then mab_r (cd, dk, tk, kd, lc, sz, bh, wt, bl, tg, fs) f.toNat (0 : Int) else nI 0) from (by rw [(show mab_c f (0 : Int) = 0 from (by unfold mab_c; (try dsimp only [pj_kd, pj_bl, pj_bh, pj_wt, pj_fs, pj_cd, pj_dk, pj_tk, pj_lc, pj_sz, pj_tg]); first | (rw [if_pos (by omega)]; done) | (rw [if_neg (by omega)]; done)))]; first | rfl | (rw [if_pos rfl]; unfold mab_r; dsimp only [pj_kd, pj_bl, pj_bh, pj_wt, pj_fs, pj_cd, pj_dk, pj_tk, pj_lc, pj_sz, pj_tg]; rw [← hf1]; first | (rw [if_pos (by assumption)]; done) | (rw [if_neg (by assumption)]; first | rfl | (rw [if_neg (by omega), if_neg (by omega), if_neg (by omega), if_neg (by omega), if_neg (by omega)]))))), by rw [ht]; exact hP, hD, hS.F ht⟩) hS.2.2 d_Mo_about_94
          · refine lv_tableIn (off := 43) (tgt := 95) hx hb d_Mo_about_52 (by rw [hx_z]; decide) (by rw [hx_z]; decide) (by rw [hx_z]; rfl) (by decide) ?_
            refine lv_aload_n hx hb d_Mo_about_95 rfl (lv_at hl 0 rfl) ?_
            refine va_get (D := D) (ci := 6) (v := .ref (ad 4)) (C := R_Mo) (T := T_Mo) (N := 11) hx hb hts u_Mo hown hK hP 0 rfl rfl 4 (by decide) (hts _ w_843) (fun _ h9 => h9) rfl d_Mo_about_96 ?_
            refine lv_iload_n hx hb d_Mo_about_99 rfl (lv_at hl 1 rfl) ?_
            refine ln_iald hx hb hK hP 4 2 rfl rfl (by omega) (by decide) d_Mo_about_100 ?_
            have e9 : wsM ct ad (nI 0) dk tk kd lc sz bh wt bl tg fs = wsM ct ad (nI (mab_c f (1 : Int))) dk tk kd lc sz bh wt bl tg fs := (by rw [(show mab_c f (1 : Int) = 0 from (by unfold mab_c; (try dsimp only [pj_kd, pj_bl, pj_bh, pj_wt, pj_fs, pj_cd, pj_dk, pj_tk, pj_lc, pj_sz, pj_tg]); first | (rw [if_pos (by omega)]; done) | (rw [if_neg (by omega)]; done)))])
            rw [e9] at hP hD
            exact W.iret (v := lc f1) hx hb hr (fun t9 ht hW => ⟨congrArg (fun z => Outcome.returned (some (Value.int z))) (show lc f1 = (if mab_c f (1 : Int) = 0 then mab_r (cd, dk, tk, kd, lc, sz, bh, wt, bl, tg, fs) f.toNat (1 : Int) else nI 0) from (by rw [(show mab_c f (1 : Int) = 0 from (by unfold mab_c; (try dsimp only [pj_kd, pj_bl, pj_bh, pj_wt, pj_fs, pj_cd, pj_dk, pj_tk, pj_lc, pj_sz, pj_tg]); first | (rw [if_pos (by omega)]; done) | (rw [if_neg (by omega)]; done)))]; first | rfl | (rw [if_pos rfl]; unfold mab_r; dsimp only [pj_kd, pj_bl, pj_bh, pj_wt, pj_fs, pj_cd, pj_dk, pj_tk, pj_lc, pj_sz, pj_tg]; rw [← hf1]; first | (rw [if_pos (by assumption)]; done) | (rw [if_neg (by assumption)]; first | rfl | (rw [if_neg (by omega), if_neg (by omega), if_neg (by omega), if_neg (by omega), if_neg (by omega)]))))), by rw [ht]; exact hP, hD, hS.F ht⟩) hS.2.2 d_Mo_about_101
          · refine lv_tableIn (off := 50) (tgt := 102) hx hb d_Mo_about_52 (by rw [hx_z]; decide) (by rw [hx_z]; decide) (by rw [hx_z]; rfl) (by decide) ?_
            refine lv_aload_n hx hb d_Mo_about_102 rfl (lv_at hl 0 rfl) ?_
            refine va_get (D := D) (ci := 6) (v := .ref (ad 5)) (C := R_Mo) (T := T_Mo) (N := 11) hx hb hts u_Mo hown hK hP 0 rfl rfl 5 (by decide) (hts _ w_844) (fun _ h9 => h9) rfl d_Mo_about_103 ?_
            refine lv_iload_n hx hb d_Mo_about_106 rfl (lv_at hl 1 rfl) ?_
            refine ln_iald hx hb hK hP 5 2 rfl rfl (by omega) (by decide) d_Mo_about_107 ?_
            have e9 : wsM ct ad (nI 0) dk tk kd lc sz bh wt bl tg fs = wsM ct ad (nI (mab_c f (2 : Int))) dk tk kd lc sz bh wt bl tg fs := (by rw [(show mab_c f (2 : Int) = 0 from (by unfold mab_c; (try dsimp only [pj_kd, pj_bl, pj_bh, pj_wt, pj_fs, pj_cd, pj_dk, pj_tk, pj_lc, pj_sz, pj_tg]); first | (rw [if_pos (by omega)]; done) | (rw [if_neg (by omega)]; done)))])
            rw [e9] at hP hD
            exact W.iret (v := sz f1) hx hb hr (fun t9 ht hW => ⟨congrArg (fun z => Outcome.returned (some (Value.int z))) (show sz f1 = (if mab_c f (2 : Int) = 0 then mab_r (cd, dk, tk, kd, lc, sz, bh, wt, bl, tg, fs) f.toNat (2 : Int) else nI 0) from (by rw [(show mab_c f (2 : Int) = 0 from (by unfold mab_c; (try dsimp only [pj_kd, pj_bl, pj_bh, pj_wt, pj_fs, pj_cd, pj_dk, pj_tk, pj_lc, pj_sz, pj_tg]); first | (rw [if_pos (by omega)]; done) | (rw [if_neg (by omega)]; done)))]; first | rfl | (rw [if_pos rfl]; unfold mab_r; dsimp only [pj_kd, pj_bl, pj_bh, pj_wt, pj_fs, pj_cd, pj_dk, pj_tk, pj_lc, pj_sz, pj_tg]; rw [← hf1]; first | (rw [if_pos (by assumption)]; done) | (rw [if_neg (by assumption)]; first | rfl | (rw [if_neg (by omega), if_neg (by omega), if_neg (by omega), if_neg (by omega), if_neg (by omega)]))))), by rw [ht]; exact hP, hD, hS.F ht⟩) hS.2.2 d_Mo_about_108
          · refine lv_tableIn (off := 57) (tgt := 109) hx hb d_Mo_about_52 (by rw [hx_z]; decide) (by rw [hx_z]; decide) (by rw [hx_z]; rfl) (by decide) ?_
            refine lv_aload_n hx hb d_Mo_about_109 rfl (lv_at hl 0 rfl) ?_
            refine lv_iload_n hx hb d_Mo_about_110 rfl (lv_at hl 1 rfl) ?_
            refine rdV ⟨hx, hb, hml, hown, hts⟩ hK hP (k_Mo_blocksOf l (f := f1) hbl (by omega)) w_968 m_Mo_blocksOf ⟨by decide, by decide⟩ 0 rfl rfl rfl hl.1 rfl (Nat.le_of_ble_eq_true rfl) d_Mo_about_111 ⟨Nat.zero_le _, Nat.zero_le _⟩ ?_
            have e9 : wsM ct ad (nI 0) dk tk kd lc sz bh wt bl tg fs = wsM ct ad (nI (mab_c f (3 : Int))) dk tk kd lc sz bh wt bl tg fs := (by rw [(show mab_c f (3 : Int) = 0 from (by unfold mab_c; (try dsimp only [pj_kd, pj_bl, pj_bh, pj_wt, pj_fs, pj_cd, pj_dk, pj_tk, pj_lc, pj_sz, pj_tg]); first | (rw [if_pos (by omega)]; done) | (rw [if_neg (by omega)]; done)))])
            rw [e9] at hP hD
            exact W.iret (v := nI (mbo bl f1 15 0 0)) hx hb hr (fun t9 ht hW => ⟨congrArg (fun z => Outcome.returned (some (Value.int z))) (show nI (mbo bl f1 15 0 0) = (if mab_c f (3 : Int) = 0 then mab_r (cd, dk, tk, kd, lc, sz, bh, wt, bl, tg, fs) f.toNat (3 : Int) else nI 0) from (by rw [(show mab_c f (3 : Int) = 0 from (by unfold mab_c; (try dsimp only [pj_kd, pj_bl, pj_bh, pj_wt, pj_fs, pj_cd, pj_dk, pj_tk, pj_lc, pj_sz, pj_tg]); first | (rw [if_pos (by omega)]; done) | (rw [if_neg (by omega)]; done)))]; first | rfl | (rw [if_pos rfl]; unfold mab_r; dsimp only [pj_kd, pj_bl, pj_bh, pj_wt, pj_fs, pj_cd, pj_dk, pj_tk, pj_lc, pj_sz, pj_tg]; rw [← hf1]; first | (rw [if_pos (by assumption)]; done) | (rw [if_neg (by assumption)]; first | rfl | (rw [if_neg (by omega), if_neg (by omega), if_neg (by omega), if_neg (by omega), if_neg (by omega)]))))), by rw [ht]; exact hP, hD, hS.F ht⟩) hS.2.2 d_Mo_about_114
          · refine lv_tableIn (off := 63) (tgt := 115) hx hb d_Mo_about_52 (by rw [hx_z]; decide) (by rw [hx_z]; decide) (by rw [hx_z]; rfl) (by decide) ?_
            refine lv_aload_n hx hb d_Mo_about_115 rfl (lv_at hl 0 rfl) ?_
            refine va_get (D := D) (ci := 6) (v := .ref (ad 8)) (C := R_Mo) (T := T_Mo) (N := 11) hx hb hts u_Mo hown hK hP 0 rfl rfl 8 (by decide) (hts _ w_847) (fun _ h9 => h9) rfl d_Mo_about_116 ?_
            refine lv_bipush (v := nI 15) hx hb d_Mo_about_119 (by decide) ?_
            refine lv_iload_n hx hb d_Mo_about_121 rfl (lv_at hl 1 rfl) ?_
            refine ln_imul hx hb d_Mo_about_122 ?_
            refine ln_iald hx hb hK hP 8 2 rfl rfl (by omega) (by decide) d_Mo_about_123 ?_
            refine W.eq (g2 := F0 m 124 ls [.int (nI (bl (15 * f1)))]) rfl ?_
            have b_7 := hbl (15 * f1)
            have e9 : wsM ct ad (nI 0) dk tk kd lc sz bh wt bl tg fs = wsM ct ad (nI (mab_c f (4 : Int))) dk tk kd lc sz bh wt bl tg fs := (by rw [(show mab_c f (4 : Int) = 0 from (by unfold mab_c; (try dsimp only [pj_kd, pj_bl, pj_bh, pj_wt, pj_fs, pj_cd, pj_dk, pj_tk, pj_lc, pj_sz, pj_tg]); first | (rw [if_pos (by omega)]; done) | (rw [if_neg (by omega)]; done)))])
            rw [e9] at hP hD
            exact W.iret (v := nI (bl (15 * f1))) hx hb hr (fun t9 ht hW => ⟨congrArg (fun z => Outcome.returned (some (Value.int z))) (show nI (bl (15 * f1)) = (if mab_c f (4 : Int) = 0 then mab_r (cd, dk, tk, kd, lc, sz, bh, wt, bl, tg, fs) f.toNat (4 : Int) else nI 0) from (by rw [(show mab_c f (4 : Int) = 0 from (by unfold mab_c; (try dsimp only [pj_kd, pj_bl, pj_bh, pj_wt, pj_fs, pj_cd, pj_dk, pj_tk, pj_lc, pj_sz, pj_tg]); first | (rw [if_pos (by omega)]; done) | (rw [if_neg (by omega)]; done)))]; first | rfl | (rw [if_pos rfl]; unfold mab_r; dsimp only [pj_kd, pj_bl, pj_bh, pj_wt, pj_fs, pj_cd, pj_dk, pj_tk, pj_lc, pj_sz, pj_tg]; rw [← hf1]; first | (rw [if_pos (by assumption)]; done) | (rw [if_neg (by assumption)]; first | rfl | (rw [if_neg (by omega), if_neg (by omega), if_neg (by omega), if_neg (by omega), if_neg (by omega)]))))), by rw [ht]; exact hP, hD, hS.F ht⟩) hS.2.2 d_Mo_about_124
        · skip
          refine lv_iconst (v := nI 0) hx hb d_Mo_about_49 (by decide) ?_
          have e9 : wsM ct ad (nI 0) dk tk kd lc sz bh wt bl tg fs = wsM ct ad (nI (mab_c f z)) dk tk kd lc sz bh wt bl tg fs := (by rw [(show mab_c f z = 0 from (by unfold mab_c; (try dsimp only [pj_kd, pj_bl, pj_bh, pj_wt, pj_fs, pj_cd, pj_dk, pj_tk, pj_lc, pj_sz, pj_tg]); first | (rw [if_pos (by omega)]; done) | (rw [if_neg (by omega)]; done)))])
          rw [e9] at hP hD
          exact W.iret (v := nI 0) hx hb hr (fun t9 ht hW => ⟨congrArg (fun z => Outcome.returned (some (Value.int z))) (show nI 0 = (if mab_c f z = 0 then mab_r (cd, dk, tk, kd, lc, sz, bh, wt, bl, tg, fs) f.toNat z else nI 0) from (by rw [(show mab_c f z = 0 from (by unfold mab_c; (try dsimp only [pj_kd, pj_bl, pj_bh, pj_wt, pj_fs, pj_cd, pj_dk, pj_tk, pj_lc, pj_sz, pj_tg]); first | (rw [if_pos (by omega)]; done) | (rw [if_neg (by omega)]; done)))]; first | rfl | (rw [if_pos rfl]; unfold mab_r; dsimp only [pj_kd, pj_bl, pj_bh, pj_wt, pj_fs, pj_cd, pj_dk, pj_tk, pj_lc, pj_sz, pj_tg]; rw [← hf1]; first | (rw [if_pos (by assumption)]; done) | (rw [if_neg (by assumption)]; first | rfl | (rw [if_neg (by omega), if_neg (by omega), if_neg (by omega), if_neg (by omega), if_neg (by omega)]))))), by rw [ht]; exact hP, hD, hS.F ht⟩) hS.2.2 d_Mo_about_50
theorem m_Mo_read : mV R_Mo y_Mo_read (Cond.code y_Mo_read c_Mo_read 4 (some .int)) 2 := ⟨⟨w_945, w_946, w_7, w_947⟩, by decide +kernel⟩
set_option maxHeartbeats 4000000 in
set_option maxRecDepth 100000 in
theorem k_Mo_read (l : Launch) {D : va_G} {ct : Nat → ClassId} {ad : Nat → Nat} {cd : Int32} {dk : Nat → Int32} {tk kd lc sz bh wt : Nat → Int32} {bl : Nat → Nat} {tg : Nat → Int32} {fs : Int32} {A : Nat → Prop} {f : Nat} {x_f : Int32} (hx_f : x_f.toNatClampNeg = f) {z : Int} {x_z : Int32} (hx_z : x_z.toInt = z) (h0 : bOK bl) (h1 : zOK sz) : Met l y_Mo_read (Cond.code y_Mo_read c_Mo_read 4 (some .int) :: wA) (rmk 3 0 0) (va_Pc [.ref (ad 0), .int x_f, .int x_z] (cW A D (tyM ct) (wsM ct ad cd dk tk kd lc sz bh wt bl tg fs))) (wQ (some (.int (if mrd_c (cd, dk, tk, kd, lc, sz, bh, wt, bl, tg, fs) f z = 0 then mrd_r (cd, dk, tk, kd, lc, sz, bh, wt, bl, tg, fs) f z.toNat else nI 0))) A D (wsM ct ad (nI (mrd_c (cd, dk, tk, kd, lc, sz, bh, wt, bl, tg, fs) f z)) dk tk kd lc sz bh wt bl tg fs)) 0 0 A := by
  refine Met.ofW (cc := c_Mo_read) (maxL := 4) (ret := (some .int)) (by decide +kernel) rfl ?_
  intro p e s m args below meth c s₁ B0 hml hv
  obtain ⟨rfl, hA, hP, hD, hK⟩ := hv
  have hS : va_S A s.heap s.heap [] := va_S.rf
  have hx := B0.exec
  have hb := B0.bytes
  have hr := B0.returns
  have hts := fun w (h : w ∈ wA) => atoms_spec (ws := Cond.code y_Mo_read c_Mo_read 4 (some .int) :: wA) B0.pre w (List.mem_cons_of_mem _ h)
  have hown : s.vm.findClass R_Mo = some m.cls := findClass_of_methodNamed B0.named
  have hlocks := B0.notSynchronized
  have hl := lv_entry ([.ref (ad 0), .int x_f, .int x_z]) (n := 4) (Nat.le_of_ble_eq_true rfl)
  rw [lg_entry_eq]
  generalize (lg_sl ([.ref (ad 0), .int x_f, .int x_z]) ++ List.replicate (4 - (lg_sl ([.ref (ad 0), .int x_f, .int x_z])).length) Slot.unset).toArray = ls at hl ⊢
  have hl : lv_has ls 4 [(0, .ref (ad 0)), (1, .int x_f), (2, .int x_z)] := hl
  have hf_f : x_f.toInt.toNat = f := hx_f
  have hg_f := z_lt x_f
  have hf_z := z_lt x_z
  have hg_z := z_ge x_z
  rw [hx_z] at hf_z hg_z
  have hbl := h0
  refine lv_aload_n hx hb d_Mo_read_0 rfl (lv_at hl 0 rfl) ?_
  refine lv_aload_n hx hb d_Mo_read_1 rfl (lv_at hl 0 rfl) ?_
  refine lv_iload_n hx hb d_Mo_read_2 rfl (lv_at hl 1 rfl) ?_
  refine rdV ⟨hx, hb, hml, hown, hts⟩ hK hP (k_Mo_isFile l (f := f) (x_f := x_f) hx_f ) w_922 m_Mo_isFile ⟨by decide, by decide⟩ 0 rfl rfl rfl hl.1 rfl (Nat.le_of_ble_eq_true rfl) d_Mo_read_3 ⟨Nat.zero_le _, Nat.zero_le _⟩ ?_
  refine lb_if_ne (tgt := 13) hx hb d_Mo_read_6 (by decide) (fun c_1 => ?_) (fun c_1 => ?_)
  · skip
    obtain ⟨⟨f1, f2⟩, f3⟩ := id c_1
    obtain rfl : x_f = nI f := z_cl hx_f (by omega)
    refine lv_iload_n hx hb d_Mo_read_13 rfl (lv_at hl 2 rfl) ?_
    refine lv_i2l hx hb d_Mo_read_14 rfl ?_
    refine lv_lconst (v := 0) hx hb d_Mo_read_15 (by decide) ?_
    refine lv_aload_n hx hb d_Mo_read_16 rfl (lv_at hl 0 rfl) ?_
    refine va_get (D := D) (ci := 6) (v := .ref (ad 5)) (C := R_Mo) (T := T_Mo) (N := 11) hx hb hts u_Mo hown hK hP 0 rfl rfl 5 (by decide) (hts _ w_844) (fun _ h9 => h9) rfl d_Mo_read_17 ?_
    refine lv_aload_n hx hb d_Mo_read_20 rfl (lv_at hl 0 rfl) ?_
    refine lv_iload_n hx hb d_Mo_read_21 rfl (lv_at hl 1 rfl) ?_
    refine rdV ⟨hx, hb, hml, hown, hts⟩ hK hP (k_Mo_isFile l (f := f) (x_f := nI f) (nI_clamp (by omega)) ) w_922 m_Mo_isFile ⟨by decide, by decide⟩ 0 rfl rfl rfl hl.1 rfl (Nat.le_of_ble_eq_true rfl) d_Mo_read_22 ⟨Nat.zero_le _, Nat.zero_le _⟩ ?_
    refine lb_if_eq (tgt := 32) hx hb d_Mo_read_25 (by decide) (fun c_2 => ?_) (fun c_2 => ?_)
    · exact absurd c_1 c_2
    · skip
      refine lv_iload_n hx hb d_Mo_read_28 rfl (lv_at hl 1 rfl) ?_
      refine lv_goto (tgt := 33) hx hb d_Mo_read_29 (by decide) ?_
      refine ln_iald hx hb hK hP 5 2 rfl rfl (by omega) (by decide) d_Mo_read_33 ?_
      refine lv_iconst (v := nI 1) hx hb d_Mo_read_34 (by decide) ?_
      refine lv_isub hx hb d_Mo_read_35 ?_
      refine lv_i2l hx hb d_Mo_read_36 rfl ?_
      refine rdS ⟨hx, hb, hml, hown, hts⟩ hK hP (k_Mo_in l (v := z) (x_v := x_z.toInt64) (u := 0) (x_u := 0) (w := (((sz f) - (nI 1)).toInt)) (x_w := (((sz f) - (nI 1)).toInt64)) ((Int32.toInt_toInt64 _).trans hx_z) (show Int64.toInt 0 = 0 by decide) ((Int32.toInt_toInt64 _).trans rfl) ) w_883 m_Mo_in ⟨by decide, by decide⟩ rfl hl.1 rfl (Nat.le_of_ble_eq_true rfl) d_Mo_read_37 ⟨Nat.zero_le _, Nat.zero_le _⟩ ?_
      refine lb_if_ne (tgt := 47) hx hb d_Mo_read_40 (by decide) (fun c_3 => ?_) (fun c_3 => ?_)
      · skip
        have hz9 := h1 f
        have hs9 : (sz f - nI 1).toInt = (sz f).toInt - 1 := z_sub rfl (nI_toInt (by decide)) (by omega) (by omega)
        obtain ⟨z1, rfl⟩ := Int.eq_ofNat_of_zero_le (show 0 ≤ z by omega)
        obtain rfl : x_z = nI z1 := z_i hx_z (by omega)
        refine lv_iconst (v := nI 0) hx hb d_Mo_read_47 (by decide) ?_
        refine va_put (D := D) (ci := 6) (v := .int (nI 0)) (ty := .int) (C := R_Mo) (T := T_Mo) (N := 11) hx hb hts u_Mo t_Mo t_Mo_ok n_Mo hown hK hP hD hS 0 rfl rfl 0 (by decide) (hts _ w_839) (fun _ h9 => h9) rfl (by decide +kernel) rfl rfl (Nat.le_of_ble_eq_true rfl) d_Mo_read_48 (fun H locs hP hD hS => ?_)
        have hP : va_P D vwC (wsM ct ad (nI 0) dk tk kd lc sz bh wt bl tg fs) H := hP
        have hD : va_D A (wsM ct ad (nI 0) dk tk kd lc sz bh wt bl tg fs) := hD
        refine lv_aload_n hx hb d_Mo_read_51 rfl (lv_at hl 0 rfl) ?_
        refine va_get (D := D) (ci := 6) (v := .int (nI 0)) (C := R_Mo) (T := T_Mo) (N := 11) hx hb hts u_Mo hown hK hP 0 rfl rfl 0 (by decide) (hts _ w_839) (fun _ h9 => h9) rfl d_Mo_read_52 ?_
        refine ln_if_le (tgt := 60) hx hb (by omega) d_Mo_read_55 (by decide) (fun c_4 => ?_) (fun c_4 => ?_)
        · skip
          refine lv_aload_n hx hb d_Mo_read_60 rfl (lv_at hl 0 rfl) ?_
          refine va_get (D := D) (ci := 6) (v := .ref (ad 3)) (C := R_Mo) (T := T_Mo) (N := 11) hx hb hts u_Mo hown hK hP 0 rfl rfl 3 (by decide) (hts _ w_842) (fun _ h9 => h9) rfl d_Mo_read_61 ?_
          refine lv_iload_n hx hb d_Mo_read_64 rfl (lv_at hl 1 rfl) ?_
          refine ln_iald hx hb hK hP 3 2 rfl rfl (by omega) (by decide) d_Mo_read_65 ?_
          refine lv_iconst (v := nI 3) hx hb d_Mo_read_66 (by decide) ?_
          refine lv_icmp_ne (tgt := 97) hx hb d_Mo_read_67 (by decide) (fun c_5 => ?_) (fun c_5 => ?_)
          · skip
            refine lv_aload_n hx hb d_Mo_read_97 rfl (lv_at hl 0 rfl) ?_
            refine va_get (D := D) (ci := 6) (v := .ref (ad 8)) (C := R_Mo) (T := T_Mo) (N := 11) hx hb hts u_Mo hown hK hP 0 rfl rfl 8 (by decide) (hts _ w_847) (fun _ h9 => h9) rfl d_Mo_read_98 ?_
            refine lv_bipush (v := nI 15) hx hb d_Mo_read_101 (by decide) ?_
            refine lv_iload_n hx hb d_Mo_read_103 rfl (lv_at hl 1 rfl) ?_
            refine ln_imul hx hb d_Mo_read_104 ?_
            refine lv_iload_n hx hb d_Mo_read_105 rfl (lv_at hl 2 rfl) ?_
            refine lv_sipush (v := nI 1024) hx hb d_Mo_read_106 (by decide) ?_
            refine ln_idiv hx hb d_Mo_read_109 (by omega) (by omega) (by omega) ?_
            refine ln_iadd hx hb d_Mo_read_110 ?_
            refine ln_iald hx hb hK hP 8 2 rfl rfl (by omega) (by decide) d_Mo_read_111 ?_
            refine W.eq (g2 := F0 m 112 ls [.int (nI (bl ((15 * f) + (z1 / 1024))))]) rfl ?_
            have b_6 := hbl ((15 * f) + (z1 / 1024))
            refine lv_istore_n (lv' := [(3, .int (nI (bl ((15 * f) + (z1 / 1024))))), (0, .ref (ad 0)), (1, .int (nI f)), (2, .int (nI z1))]) hx hb d_Mo_read_112 rfl hl (by decide) rfl (fun ls hl => ?_)
            refine lv_iload_n hx hb d_Mo_read_113 rfl (lv_at hl 0 rfl) ?_
            refine ln_if_ne (tgt := 121) hx hb (by omega) d_Mo_read_114 (by decide) (fun c_7 => ?_) (fun c_7 => ?_)
            · skip
              refine lv_aload_n hx hb d_Mo_read_121 rfl (lv_at hl 1 rfl) ?_
              refine va_get (D := D) (ci := 6) (v := .ref (ad 1)) (C := R_Mo) (T := T_Mo) (N := 11) hx hb hts u_Mo hown hK hP 0 rfl rfl 1 (by decide) (hts _ w_840) (fun _ h9 => h9) rfl d_Mo_read_122 ?_
              refine lv_sipush (v := nI 1024) hx hb d_Mo_read_125 (by decide) ?_
              refine lv_iload_n hx hb d_Mo_read_128 rfl (lv_at hl 0 rfl) ?_
              refine ln_imul hx hb d_Mo_read_129 ?_
              refine lv_iload_n hx hb d_Mo_read_130 rfl (lv_at hl 3 rfl) ?_
              refine lv_sipush (v := nI 1024) hx hb d_Mo_read_131 (by decide) ?_
              refine ln_irem hx hb d_Mo_read_134 (by omega) (by omega) (by omega) ?_
              refine ln_iadd hx hb d_Mo_read_135 ?_
              refine ln_bald hx hb hK hP 1 0 rfl rfl (by omega) (by decide) d_Mo_read_136 ?_
              refine lv_sipush (v := nI 255) hx hb d_Mo_read_137 (by decide) ?_
              refine lv_iand hx hb d_Mo_read_140 ?_
              have e9 : wsM ct ad (nI 0) dk tk kd lc sz bh wt bl tg fs = wsM ct ad (nI (mrd_c (cd, dk, tk, kd, lc, sz, bh, wt, bl, tg, fs) f ((z1 : Nat) : Int))) dk tk kd lc sz bh wt bl tg fs := (by rw [(show mrd_c (cd, dk, tk, kd, lc, sz, bh, wt, bl, tg, fs) f ((z1 : Nat) : Int) = 0 from (by unfold mrd_c; (try dsimp only [pj_kd, pj_bl, pj_bh, pj_wt, pj_fs, pj_cd, pj_dk, pj_tk, pj_lc, pj_sz, pj_tg]); first | (rw [if_neg (by assumption)]; done) | (rw [if_pos (by assumption), if_pos (by assumption)]; done) | (rw [if_pos (by assumption), if_neg (by assumption)]; done)))])
              rw [e9] at hP hD
              exact W.iret (v := (dk ((1024 * (bl ((15 * f) + (z1 / 1024)))) + (z1 % 1024))) &&& (nI 255)) hx hb hr (fun t9 ht hW => ⟨congrArg (fun z => Outcome.returned (some (Value.int z))) (show (dk ((1024 * (bl ((15 * f) + (z1 / 1024)))) + (z1 % 1024))) &&& (nI 255) = (if mrd_c (cd, dk, tk, kd, lc, sz, bh, wt, bl, tg, fs) f ((z1 : Nat) : Int) = 0 then mrd_r (cd, dk, tk, kd, lc, sz, bh, wt, bl, tg, fs) f ((z1 : Nat) : Int).toNat else nI 0) from (by rw [(show mrd_c (cd, dk, tk, kd, lc, sz, bh, wt, bl, tg, fs) f ((z1 : Nat) : Int) = 0 from (by unfold mrd_c; (try dsimp only [pj_kd, pj_bl, pj_bh, pj_wt, pj_fs, pj_cd, pj_dk, pj_tk, pj_lc, pj_sz, pj_tg]); first | (rw [if_neg (by assumption)]; done) | (rw [if_pos (by assumption), if_pos (by assumption)]; done) | (rw [if_pos (by assumption), if_neg (by assumption)]; done)))]; first | rfl | (rw [if_pos rfl, Int.toNat_natCast]; unfold mrd_r; dsimp only [pj_kd, pj_bl, pj_bh, pj_wt, pj_fs, pj_cd, pj_dk, pj_tk, pj_lc, pj_sz, pj_tg]; first | (rw [if_pos ⟨by assumption, by assumption⟩]; done) | (rw [if_neg (fun q => absurd q.1 (by assumption))]; first | (rw [if_pos (by omega)]; done) | (rw [if_pos (by omega)]; rfl) | (rw [if_neg (by omega)]; done) | (rw [if_neg (by omega)]; rfl)) | (rw [if_neg (fun q => q.2 (by assumption))]; first | (rw [if_pos (by omega)]; done) | (rw [if_pos (by omega)]; rfl) | (rw [if_neg (by omega)]; done) | (rw [if_neg (by omega)]; rfl))))), by rw [ht]; exact hP, hD, hS.F ht⟩) hS.2.2 d_Mo_read_141
            · skip
              refine lv_iconst (v := nI 0) hx hb d_Mo_read_117 (by decide) ?_
              refine lv_goto (tgt := 141) hx hb d_Mo_read_118 (by decide) ?_
              have e9 : wsM ct ad (nI 0) dk tk kd lc sz bh wt bl tg fs = wsM ct ad (nI (mrd_c (cd, dk, tk, kd, lc, sz, bh, wt, bl, tg, fs) f ((z1 : Nat) : Int))) dk tk kd lc sz bh wt bl tg fs := (by rw [(show mrd_c (cd, dk, tk, kd, lc, sz, bh, wt, bl, tg, fs) f ((z1 : Nat) : Int) = 0 from (by unfold mrd_c; (try dsimp only [pj_kd, pj_bl, pj_bh, pj_wt, pj_fs, pj_cd, pj_dk, pj_tk, pj_lc, pj_sz, pj_tg]); first | (rw [if_neg (by assumption)]; done) | (rw [if_pos (by assumption), if_pos (by assumption)]; done) | (rw [if_pos (by assumption), if_neg (by assumption)]; done)))])
              rw [e9] at hP hD
              exact W.iret (v := nI 0) hx hb hr (fun t9 ht hW => ⟨congrArg (fun z => Outcome.returned (some (Value.int z))) (show nI 0 = (if mrd_c (cd, dk, tk, kd, lc, sz, bh, wt, bl, tg, fs) f ((z1 : Nat) : Int) = 0 then mrd_r (cd, dk, tk, kd, lc, sz, bh, wt, bl, tg, fs) f ((z1 : Nat) : Int).toNat else nI 0) from (by rw [(show mrd_c (cd, dk, tk, kd, lc, sz, bh, wt, bl, tg, fs) f ((z1 : Nat) : Int) = 0 from (by unfold mrd_c; (try dsimp only [pj_kd, pj_bl, pj_bh, pj_wt, pj_fs, pj_cd, pj_dk, pj_tk, pj_lc, pj_sz, pj_tg]); first | (rw [if_neg (by assumption)]; done) | (rw [if_pos (by assumption), if_pos (by assumption)]; done) | (rw [if_pos (by assumption), if_neg (by assumption)]; done)))]; first | rfl | (rw [if_pos rfl, Int.toNat_natCast]; unfold mrd_r; dsimp only [pj_kd, pj_bl, pj_bh, pj_wt, pj_fs, pj_cd, pj_dk, pj_tk, pj_lc, pj_sz, pj_tg]; first | (rw [if_pos ⟨by assumption, by assumption⟩]; done) | (rw [if_neg (fun q => absurd q.1 (by assumption))]; first | (rw [if_pos (by omega)]; done) | (rw [if_pos (by omega)]; rfl) | (rw [if_neg (by omega)]; done) | (rw [if_neg (by omega)]; rfl)) | (rw [if_neg (fun q => q.2 (by assumption))]; first | (rw [if_pos (by omega)]; done) | (rw [if_pos (by omega)]; rfl) | (rw [if_neg (by omega)]; done) | (rw [if_neg (by omega)]; rfl))))), by rw [ht]; exact hP, hD, hS.F ht⟩) hS.2.2 d_Mo_read_141
          · skip
            refine lv_aload_n hx hb d_Mo_read_70 rfl (lv_at hl 0 rfl) ?_
            refine va_get (D := D) (ci := 6) (v := .ref (ad 5)) (C := R_Mo) (T := T_Mo) (N := 11) hx hb hts u_Mo hown hK hP 0 rfl rfl 5 (by decide) (hts _ w_844) (fun _ h9 => h9) rfl d_Mo_read_71 ?_
            refine lv_iload_n hx hb d_Mo_read_74 rfl (lv_at hl 1 rfl) ?_
            refine ln_iald hx hb hK hP 5 2 rfl rfl (by omega) (by decide) d_Mo_read_75 ?_
            refine lv_bipush (v := nI 60) hx hb d_Mo_read_76 (by decide) ?_
            refine lv_icmp_ge (tgt := 97) hx hb d_Mo_read_78 (by decide) (fun c_8 => ?_) (fun c_8 => ?_)
            · skip
              refine lv_aload_n hx hb d_Mo_read_97 rfl (lv_at hl 0 rfl) ?_
              refine va_get (D := D) (ci := 6) (v := .ref (ad 8)) (C := R_Mo) (T := T_Mo) (N := 11) hx hb hts u_Mo hown hK hP 0 rfl rfl 8 (by decide) (hts _ w_847) (fun _ h9 => h9) rfl d_Mo_read_98 ?_
              refine lv_bipush (v := nI 15) hx hb d_Mo_read_101 (by decide) ?_
              refine lv_iload_n hx hb d_Mo_read_103 rfl (lv_at hl 1 rfl) ?_
              refine ln_imul hx hb d_Mo_read_104 ?_
              refine lv_iload_n hx hb d_Mo_read_105 rfl (lv_at hl 2 rfl) ?_
              refine lv_sipush (v := nI 1024) hx hb d_Mo_read_106 (by decide) ?_
              refine ln_idiv hx hb d_Mo_read_109 (by omega) (by omega) (by omega) ?_
              refine ln_iadd hx hb d_Mo_read_110 ?_
              refine ln_iald hx hb hK hP 8 2 rfl rfl (by omega) (by decide) d_Mo_read_111 ?_
              refine W.eq (g2 := F0 m 112 ls [.int (nI (bl ((15 * f) + (z1 / 1024))))]) rfl ?_
              have b_9 := hbl ((15 * f) + (z1 / 1024))
              refine lv_istore_n (lv' := [(3, .int (nI (bl ((15 * f) + (z1 / 1024))))), (0, .ref (ad 0)), (1, .int (nI f)), (2, .int (nI z1))]) hx hb d_Mo_read_112 rfl hl (by decide) rfl (fun ls hl => ?_)
              refine lv_iload_n hx hb d_Mo_read_113 rfl (lv_at hl 0 rfl) ?_
              refine ln_if_ne (tgt := 121) hx hb (by omega) d_Mo_read_114 (by decide) (fun c_10 => ?_) (fun c_10 => ?_)
              · skip
                refine lv_aload_n hx hb d_Mo_read_121 rfl (lv_at hl 1 rfl) ?_
                refine va_get (D := D) (ci := 6) (v := .ref (ad 1)) (C := R_Mo) (T := T_Mo) (N := 11) hx hb hts u_Mo hown hK hP 0 rfl rfl 1 (by decide) (hts _ w_840) (fun _ h9 => h9) rfl d_Mo_read_122 ?_
                refine lv_sipush (v := nI 1024) hx hb d_Mo_read_125 (by decide) ?_
                refine lv_iload_n hx hb d_Mo_read_128 rfl (lv_at hl 0 rfl) ?_
                refine ln_imul hx hb d_Mo_read_129 ?_
                refine lv_iload_n hx hb d_Mo_read_130 rfl (lv_at hl 3 rfl) ?_
                refine lv_sipush (v := nI 1024) hx hb d_Mo_read_131 (by decide) ?_
                refine ln_irem hx hb d_Mo_read_134 (by omega) (by omega) (by omega) ?_
                refine ln_iadd hx hb d_Mo_read_135 ?_
                refine ln_bald hx hb hK hP 1 0 rfl rfl (by omega) (by decide) d_Mo_read_136 ?_
                refine lv_sipush (v := nI 255) hx hb d_Mo_read_137 (by decide) ?_
                refine lv_iand hx hb d_Mo_read_140 ?_
                have e9 : wsM ct ad (nI 0) dk tk kd lc sz bh wt bl tg fs = wsM ct ad (nI (mrd_c (cd, dk, tk, kd, lc, sz, bh, wt, bl, tg, fs) f ((z1 : Nat) : Int))) dk tk kd lc sz bh wt bl tg fs := (by rw [(show mrd_c (cd, dk, tk, kd, lc, sz, bh, wt, bl, tg, fs) f ((z1 : Nat) : Int) = 0 from (by unfold mrd_c; (try dsimp only [pj_kd, pj_bl, pj_bh, pj_wt, pj_fs, pj_cd, pj_dk, pj_tk, pj_lc, pj_sz, pj_tg]); first | (rw [if_neg (by assumption)]; done) | (rw [if_pos (by assumption), if_pos (by assumption)]; done) | (rw [if_pos (by assumption), if_neg (by assumption)]; done)))])
                rw [e9] at hP hD
                exact W.iret (v := (dk ((1024 * (bl ((15 * f) + (z1 / 1024)))) + (z1 % 1024))) &&& (nI 255)) hx hb hr (fun t9 ht hW => ⟨congrArg (fun z => Outcome.returned (some (Value.int z))) (show (dk ((1024 * (bl ((15 * f) + (z1 / 1024)))) + (z1 % 1024))) &&& (nI 255) = (if mrd_c (cd, dk, tk, kd, lc, sz, bh, wt, bl, tg, fs) f ((z1 : Nat) : Int) = 0 then mrd_r (cd, dk, tk, kd, lc, sz, bh, wt, bl, tg, fs) f ((z1 : Nat) : Int).toNat else nI 0) from (by rw [(show mrd_c (cd, dk, tk, kd, lc, sz, bh, wt, bl, tg, fs) f ((z1 : Nat) : Int) = 0 from (by unfold mrd_c; (try dsimp only [pj_kd, pj_bl, pj_bh, pj_wt, pj_fs, pj_cd, pj_dk, pj_tk, pj_lc, pj_sz, pj_tg]); first | (rw [if_neg (by assumption)]; done) | (rw [if_pos (by assumption), if_pos (by assumption)]; done) | (rw [if_pos (by assumption), if_neg (by assumption)]; done)))]; first | rfl | (rw [if_pos rfl, Int.toNat_natCast]; unfold mrd_r; dsimp only [pj_kd, pj_bl, pj_bh, pj_wt, pj_fs, pj_cd, pj_dk, pj_tk, pj_lc, pj_sz, pj_tg]; first | (rw [if_pos ⟨by assumption, by assumption⟩]; done) | (rw [if_neg (fun q => absurd q.1 (by assumption))]; first | (rw [if_pos (by omega)]; done) | (rw [if_pos (by omega)]; rfl) | (rw [if_neg (by omega)]; done) | (rw [if_neg (by omega)]; rfl)) | (rw [if_neg (fun q => q.2 (by assumption))]; first | (rw [if_pos (by omega)]; done) | (rw [if_pos (by omega)]; rfl) | (rw [if_neg (by omega)]; done) | (rw [if_neg (by omega)]; rfl))))), by rw [ht]; exact hP, hD, hS.F ht⟩) hS.2.2 d_Mo_read_141
              · skip
                refine lv_iconst (v := nI 0) hx hb d_Mo_read_117 (by decide) ?_
                refine lv_goto (tgt := 141) hx hb d_Mo_read_118 (by decide) ?_
                have e9 : wsM ct ad (nI 0) dk tk kd lc sz bh wt bl tg fs = wsM ct ad (nI (mrd_c (cd, dk, tk, kd, lc, sz, bh, wt, bl, tg, fs) f ((z1 : Nat) : Int))) dk tk kd lc sz bh wt bl tg fs := (by rw [(show mrd_c (cd, dk, tk, kd, lc, sz, bh, wt, bl, tg, fs) f ((z1 : Nat) : Int) = 0 from (by unfold mrd_c; (try dsimp only [pj_kd, pj_bl, pj_bh, pj_wt, pj_fs, pj_cd, pj_dk, pj_tk, pj_lc, pj_sz, pj_tg]); first | (rw [if_neg (by assumption)]; done) | (rw [if_pos (by assumption), if_pos (by assumption)]; done) | (rw [if_pos (by assumption), if_neg (by assumption)]; done)))])
                rw [e9] at hP hD
                exact W.iret (v := nI 0) hx hb hr (fun t9 ht hW => ⟨congrArg (fun z => Outcome.returned (some (Value.int z))) (show nI 0 = (if mrd_c (cd, dk, tk, kd, lc, sz, bh, wt, bl, tg, fs) f ((z1 : Nat) : Int) = 0 then mrd_r (cd, dk, tk, kd, lc, sz, bh, wt, bl, tg, fs) f ((z1 : Nat) : Int).toNat else nI 0) from (by rw [(show mrd_c (cd, dk, tk, kd, lc, sz, bh, wt, bl, tg, fs) f ((z1 : Nat) : Int) = 0 from (by unfold mrd_c; (try dsimp only [pj_kd, pj_bl, pj_bh, pj_wt, pj_fs, pj_cd, pj_dk, pj_tk, pj_lc, pj_sz, pj_tg]); first | (rw [if_neg (by assumption)]; done) | (rw [if_pos (by assumption), if_pos (by assumption)]; done) | (rw [if_pos (by assumption), if_neg (by assumption)]; done)))]; first | rfl | (rw [if_pos rfl, Int.toNat_natCast]; unfold mrd_r; dsimp only [pj_kd, pj_bl, pj_bh, pj_wt, pj_fs, pj_cd, pj_dk, pj_tk, pj_lc, pj_sz, pj_tg]; first | (rw [if_pos ⟨by assumption, by assumption⟩]; done) | (rw [if_neg (fun q => absurd q.1 (by assumption))]; first | (rw [if_pos (by omega)]; done) | (rw [if_pos (by omega)]; rfl) | (rw [if_neg (by omega)]; done) | (rw [if_neg (by omega)]; rfl)) | (rw [if_neg (fun q => q.2 (by assumption))]; first | (rw [if_pos (by omega)]; done) | (rw [if_pos (by omega)]; rfl) | (rw [if_neg (by omega)]; done) | (rw [if_neg (by omega)]; rfl))))), by rw [ht]; exact hP, hD, hS.F ht⟩) hS.2.2 d_Mo_read_141
            · skip
              have hw9 := mt Int32.le_iff_toInt_le.mpr c_8
              rw [nI_toInt (by decide)] at hw9
              refine lv_aload_n hx hb d_Mo_read_81 rfl (lv_at hl 0 rfl) ?_
              refine va_get (D := D) (ci := 6) (v := .ref (ad 9)) (C := R_Mo) (T := T_Mo) (N := 11) hx hb hts u_Mo hown hK hP 0 rfl rfl 9 (by decide) (hts _ w_848) (fun _ h9 => h9) rfl d_Mo_read_82 ?_
              refine lv_bipush (v := nI 60) hx hb d_Mo_read_85 (by decide) ?_
              refine lv_iload_n hx hb d_Mo_read_87 rfl (lv_at hl 1 rfl) ?_
              refine ln_imul hx hb d_Mo_read_88 ?_
              refine lv_iload_n hx hb d_Mo_read_89 rfl (lv_at hl 2 rfl) ?_
              refine ln_iadd hx hb d_Mo_read_90 ?_
              refine ln_bald hx hb hK hP 9 0 rfl rfl (by omega) (by decide) d_Mo_read_91 ?_
              refine lv_sipush (v := nI 255) hx hb d_Mo_read_92 (by decide) ?_
              refine lv_iand hx hb d_Mo_read_95 ?_
              have e9 : wsM ct ad (nI 0) dk tk kd lc sz bh wt bl tg fs = wsM ct ad (nI (mrd_c (cd, dk, tk, kd, lc, sz, bh, wt, bl, tg, fs) f ((z1 : Nat) : Int))) dk tk kd lc sz bh wt bl tg fs := (by rw [(show mrd_c (cd, dk, tk, kd, lc, sz, bh, wt, bl, tg, fs) f ((z1 : Nat) : Int) = 0 from (by unfold mrd_c; (try dsimp only [pj_kd, pj_bl, pj_bh, pj_wt, pj_fs, pj_cd, pj_dk, pj_tk, pj_lc, pj_sz, pj_tg]); first | (rw [if_neg (by assumption)]; done) | (rw [if_pos (by assumption), if_pos (by assumption)]; done) | (rw [if_pos (by assumption), if_neg (by assumption)]; done)))])
              rw [e9] at hP hD
              exact W.iret (v := (tg ((60 * f) + z1)) &&& (nI 255)) hx hb hr (fun t9 ht hW => ⟨congrArg (fun z => Outcome.returned (some (Value.int z))) (show (tg ((60 * f) + z1)) &&& (nI 255) = (if mrd_c (cd, dk, tk, kd, lc, sz, bh, wt, bl, tg, fs) f ((z1 : Nat) : Int) = 0 then mrd_r (cd, dk, tk, kd, lc, sz, bh, wt, bl, tg, fs) f ((z1 : Nat) : Int).toNat else nI 0) from (by rw [(show mrd_c (cd, dk, tk, kd, lc, sz, bh, wt, bl, tg, fs) f ((z1 : Nat) : Int) = 0 from (by unfold mrd_c; (try dsimp only [pj_kd, pj_bl, pj_bh, pj_wt, pj_fs, pj_cd, pj_dk, pj_tk, pj_lc, pj_sz, pj_tg]); first | (rw [if_neg (by assumption)]; done) | (rw [if_pos (by assumption), if_pos (by assumption)]; done) | (rw [if_pos (by assumption), if_neg (by assumption)]; done)))]; first | rfl | (rw [if_pos rfl, Int.toNat_natCast]; unfold mrd_r; dsimp only [pj_kd, pj_bl, pj_bh, pj_wt, pj_fs, pj_cd, pj_dk, pj_tk, pj_lc, pj_sz, pj_tg]; first | (rw [if_pos ⟨by assumption, by assumption⟩]; done) | (rw [if_neg (fun q => absurd q.1 (by assumption))]; first | (rw [if_pos (by omega)]; done) | (rw [if_pos (by omega)]; rfl) | (rw [if_neg (by omega)]; done) | (rw [if_neg (by omega)]; rfl)) | (rw [if_neg (fun q => q.2 (by assumption))]; first | (rw [if_pos (by omega)]; done) | (rw [if_pos (by omega)]; rfl) | (rw [if_neg (by omega)]; done) | (rw [if_neg (by omega)]; rfl))))), by rw [ht]; exact hP, hD, hS.F ht⟩) hS.2.2 d_Mo_read_96
        · exact absurd c_4 (by omega)
      · skip
        refine lv_iconst (v := nI 2) hx hb d_Mo_read_43 (by decide) ?_
        refine lv_goto (tgt := 48) hx hb d_Mo_read_44 (by decide) ?_
        refine va_put (D := D) (ci := 6) (v := .int (nI 2)) (ty := .int) (C := R_Mo) (T := T_Mo) (N := 11) hx hb hts u_Mo t_Mo t_Mo_ok n_Mo hown hK hP hD hS 0 rfl rfl 0 (by decide) (hts _ w_839) (fun _ h9 => h9) rfl (by decide +kernel) rfl rfl (Nat.le_of_ble_eq_true rfl) d_Mo_read_48 (fun H locs hP hD hS => ?_)
        have hP : va_P D vwC (wsM ct ad (nI 2) dk tk kd lc sz bh wt bl tg fs) H := hP
        have hD : va_D A (wsM ct ad (nI 2) dk tk kd lc sz bh wt bl tg fs) := hD
        refine lv_aload_n hx hb d_Mo_read_51 rfl (lv_at hl 0 rfl) ?_
        refine va_get (D := D) (ci := 6) (v := .int (nI 2)) (C := R_Mo) (T := T_Mo) (N := 11) hx hb hts u_Mo hown hK hP 0 rfl rfl 0 (by decide) (hts _ w_839) (fun _ h9 => h9) rfl d_Mo_read_52 ?_
        refine ln_if_le (tgt := 60) hx hb (by omega) d_Mo_read_55 (by decide) (fun c_11 => ?_) (fun c_11 => ?_)
        · exact absurd c_11 (by omega)
        · skip
          refine lv_iconst (v := nI 0) hx hb d_Mo_read_58 (by decide) ?_
          have e9 : wsM ct ad (nI 2) dk tk kd lc sz bh wt bl tg fs = wsM ct ad (nI (mrd_c (cd, dk, tk, kd, lc, sz, bh, wt, bl, tg, fs) f z)) dk tk kd lc sz bh wt bl tg fs := (by rw [(show mrd_c (cd, dk, tk, kd, lc, sz, bh, wt, bl, tg, fs) f z = 2 from (by unfold mrd_c; (try dsimp only [pj_kd, pj_bl, pj_bh, pj_wt, pj_fs, pj_cd, pj_dk, pj_tk, pj_lc, pj_sz, pj_tg]); first | (rw [if_neg (by assumption)]; done) | (rw [if_pos (by assumption), if_pos (by assumption)]; done) | (rw [if_pos (by assumption), if_neg (by assumption)]; done)))])
          rw [e9] at hP hD
          exact W.iret (v := nI 0) hx hb hr (fun t9 ht hW => ⟨congrArg (fun z => Outcome.returned (some (Value.int z))) (show nI 0 = (if mrd_c (cd, dk, tk, kd, lc, sz, bh, wt, bl, tg, fs) f z = 0 then mrd_r (cd, dk, tk, kd, lc, sz, bh, wt, bl, tg, fs) f z.toNat else nI 0) from (by rw [(show mrd_c (cd, dk, tk, kd, lc, sz, bh, wt, bl, tg, fs) f z = 2 from (by unfold mrd_c; (try dsimp only [pj_kd, pj_bl, pj_bh, pj_wt, pj_fs, pj_cd, pj_dk, pj_tk, pj_lc, pj_sz, pj_tg]); first | (rw [if_neg (by assumption)]; done) | (rw [if_pos (by assumption), if_pos (by assumption)]; done) | (rw [if_pos (by assumption), if_neg (by assumption)]; done)))]; first | rfl | (rw [if_pos rfl, Int.toNat_natCast]; unfold mrd_r; dsimp only [pj_kd, pj_bl, pj_bh, pj_wt, pj_fs, pj_cd, pj_dk, pj_tk, pj_lc, pj_sz, pj_tg]; first | (rw [if_pos ⟨by assumption, by assumption⟩]; done) | (rw [if_neg (fun q => absurd q.1 (by assumption))]; first | (rw [if_pos (by omega)]; done) | (rw [if_pos (by omega)]; rfl) | (rw [if_neg (by omega)]; done) | (rw [if_neg (by omega)]; rfl)) | (rw [if_neg (fun q => q.2 (by assumption))]; first | (rw [if_pos (by omega)]; done) | (rw [if_pos (by omega)]; rfl) | (rw [if_neg (by omega)]; done) | (rw [if_neg (by omega)]; rfl))))), by rw [ht]; exact hP, hD, hS.F ht⟩) hS.2.2 d_Mo_read_59
  · skip
    refine lv_iconst (v := nI 1) hx hb d_Mo_read_9 (by decide) ?_
    refine lv_goto (tgt := 48) hx hb d_Mo_read_10 (by decide) ?_
    refine va_put (D := D) (ci := 6) (v := .int (nI 1)) (ty := .int) (C := R_Mo) (T := T_Mo) (N := 11) hx hb hts u_Mo t_Mo t_Mo_ok n_Mo hown hK hP hD hS 0 rfl rfl 0 (by decide) (hts _ w_839) (fun _ h9 => h9) rfl (by decide +kernel) rfl rfl (Nat.le_of_ble_eq_true rfl) d_Mo_read_48 (fun H locs hP hD hS => ?_)
    have hP : va_P D vwC (wsM ct ad (nI 1) dk tk kd lc sz bh wt bl tg fs) H := hP
    have hD : va_D A (wsM ct ad (nI 1) dk tk kd lc sz bh wt bl tg fs) := hD
    refine lv_aload_n hx hb d_Mo_read_51 rfl (lv_at hl 0 rfl) ?_
    refine va_get (D := D) (ci := 6) (v := .int (nI 1)) (C := R_Mo) (T := T_Mo) (N := 11) hx hb hts u_Mo hown hK hP 0 rfl rfl 0 (by decide) (hts _ w_839) (fun _ h9 => h9) rfl d_Mo_read_52 ?_
    refine ln_if_le (tgt := 60) hx hb (by omega) d_Mo_read_55 (by decide) (fun c_12 => ?_) (fun c_12 => ?_)
    · exact absurd c_12 (by omega)
    · skip
      refine lv_iconst (v := nI 0) hx hb d_Mo_read_58 (by decide) ?_
      have e9 : wsM ct ad (nI 1) dk tk kd lc sz bh wt bl tg fs = wsM ct ad (nI (mrd_c (cd, dk, tk, kd, lc, sz, bh, wt, bl, tg, fs) f z)) dk tk kd lc sz bh wt bl tg fs := (by rw [(show mrd_c (cd, dk, tk, kd, lc, sz, bh, wt, bl, tg, fs) f z = 1 from (by unfold mrd_c; (try dsimp only [pj_kd, pj_bl, pj_bh, pj_wt, pj_fs, pj_cd, pj_dk, pj_tk, pj_lc, pj_sz, pj_tg]); first | (rw [if_neg (by assumption)]; done) | (rw [if_pos (by assumption), if_pos (by assumption)]; done) | (rw [if_pos (by assumption), if_neg (by assumption)]; done)))])
      rw [e9] at hP hD
      exact W.iret (v := nI 0) hx hb hr (fun t9 ht hW => ⟨congrArg (fun z => Outcome.returned (some (Value.int z))) (show nI 0 = (if mrd_c (cd, dk, tk, kd, lc, sz, bh, wt, bl, tg, fs) f z = 0 then mrd_r (cd, dk, tk, kd, lc, sz, bh, wt, bl, tg, fs) f z.toNat else nI 0) from (by rw [(show mrd_c (cd, dk, tk, kd, lc, sz, bh, wt, bl, tg, fs) f z = 1 from (by unfold mrd_c; (try dsimp only [pj_kd, pj_bl, pj_bh, pj_wt, pj_fs, pj_cd, pj_dk, pj_tk, pj_lc, pj_sz, pj_tg]); first | (rw [if_neg (by assumption)]; done) | (rw [if_pos (by assumption), if_pos (by assumption)]; done) | (rw [if_pos (by assumption), if_neg (by assumption)]; done)))]; first | rfl | (rw [if_pos rfl, Int.toNat_natCast]; unfold mrd_r; dsimp only [pj_kd, pj_bl, pj_bh, pj_wt, pj_fs, pj_cd, pj_dk, pj_tk, pj_lc, pj_sz, pj_tg]; first | (rw [if_pos ⟨by assumption, by assumption⟩]; done) | (rw [if_neg (fun q => absurd q.1 (by assumption))]; first | (rw [if_pos (by omega)]; done) | (rw [if_pos (by omega)]; rfl) | (rw [if_neg (by omega)]; done) | (rw [if_neg (by omega)]; rfl)) | (rw [if_neg (fun q => q.2 (by assumption))]; first | (rw [if_pos (by omega)]; done) | (rw [if_pos (by omega)]; rfl) | (rw [if_neg (by omega)]; done) | (rw [if_neg (by omega)]; rfl))))), by rw [ht]; exact hP, hD, hS.F ht⟩) hS.2.2 d_Mo_read_59
theorem m_Mo_links : mV R_Mo y_Mo_links (Cond.code y_Mo_links c_Mo_links 3 (some .int)) 2 := ⟨⟨w_957, w_958, w_7, w_959⟩, by decide +kernel⟩
set_option maxHeartbeats 4000000 in
set_option maxRecDepth 100000 in
theorem k_Mo_links (l : Launch) {D : va_G} {ct : Nat → ClassId} {ad : Nat → Nat} {cd : Int32} {dk : Nat → Int32} {tk kd lc sz bh wt : Nat → Int32} {bl : Nat → Nat} {tg : Nat → Int32} {fs : Int32} {A : Nat → Prop} {f : Nat} {x_f : Int32} (hx_f : x_f.toNatClampNeg = f) {x : Int32}  : Met l y_Mo_links (Cond.code y_Mo_links c_Mo_links 3 (some .int) :: wA) (rmk 3 0 0) (va_Pc [.ref (ad 0), .int x_f, .int x] (cW A D (tyM ct) (wsM ct ad cd dk tk kd lc sz bh wt bl tg fs))) (wQ (some (.int (if mli_c (cd, dk, tk, kd, lc, sz, bh, wt, bl, tg, fs) f x = 0 then upd lc f (lc f + x) f else nI 0))) A D (wsM ct ad (pj_cd (mli (cd, dk, tk, kd, lc, sz, bh, wt, bl, tg, fs) f x)) (pj_dk (mli (cd, dk, tk, kd, lc, sz, bh, wt, bl, tg, fs) f x)) (pj_tk (mli (cd, dk, tk, kd, lc, sz, bh, wt, bl, tg, fs) f x)) (pj_kd (mli (cd, dk, tk, kd, lc, sz, bh, wt, bl, tg, fs) f x)) (pj_lc (mli (cd, dk, tk, kd, lc, sz, bh, wt, bl, tg, fs) f x)) (pj_sz (mli (cd, dk, tk, kd, lc, sz, bh, wt, bl, tg, fs) f x)) (pj_bh (mli (cd, dk, tk, kd, lc, sz, bh, wt, bl, tg, fs) f x)) (pj_wt (mli (cd, dk, tk, kd, lc, sz, bh, wt, bl, tg, fs) f x)) (pj_bl (mli (cd, dk, tk, kd, lc, sz, bh, wt, bl, tg, fs) f x)) (pj_tg (mli (cd, dk, tk, kd, lc, sz, bh, wt, bl, tg, fs) f x)) (pj_fs (mli (cd, dk, tk, kd, lc, sz, bh, wt, bl, tg, fs) f x)))) 0 0 A := by
  refine Met.ofW (cc := c_Mo_links) (maxL := 3) (ret := (some .int)) (by decide +kernel) rfl ?_
  intro p e s m args below meth c s₁ B0 hml hv
  obtain ⟨rfl, hA, hP, hD, hK⟩ := hv
  have hS : va_S A s.heap s.heap [] := va_S.rf
  have hx := B0.exec
  have hb := B0.bytes
  have hr := B0.returns
  have hts := fun w (h : w ∈ wA) => atoms_spec (ws := Cond.code y_Mo_links c_Mo_links 3 (some .int) :: wA) B0.pre w (List.mem_cons_of_mem _ h)
  have hown : s.vm.findClass R_Mo = some m.cls := findClass_of_methodNamed B0.named
  have hlocks := B0.notSynchronized
  have hl := lv_entry ([.ref (ad 0), .int x_f, .int x]) (n := 3) (Nat.le_of_ble_eq_true rfl)
  rw [lg_entry_eq]
  generalize (lg_sl ([.ref (ad 0), .int x_f, .int x]) ++ List.replicate (3 - (lg_sl ([.ref (ad 0), .int x_f, .int x])).length) Slot.unset).toArray = ls at hl ⊢
  have hl : lv_has ls 3 [(0, .ref (ad 0)), (1, .int x_f), (2, .int x)] := hl
  have hf_f : x_f.toInt.toNat = f := hx_f
  have hg_f := z_lt x_f
  refine lv_aload_n hx hb d_Mo_links_0 rfl (lv_at hl 0 rfl) ?_
  refine lv_aload_n hx hb d_Mo_links_1 rfl (lv_at hl 0 rfl) ?_
  refine lv_iload_n hx hb d_Mo_links_2 rfl (lv_at hl 1 rfl) ?_
  refine rdV ⟨hx, hb, hml, hown, hts⟩ hK hP (k_Mo_isFile l (f := f) (x_f := x_f) hx_f ) w_922 m_Mo_isFile ⟨by decide, by decide⟩ 0 rfl rfl rfl hl.1 rfl (Nat.le_of_ble_eq_true rfl) d_Mo_links_3 ⟨Nat.zero_le _, Nat.zero_le _⟩ ?_
  refine lb_if_eq (tgt := 45) hx hb d_Mo_links_6 (by decide) (fun c_1 => ?_) (fun c_1 => ?_)
  · skip
    refine lv_iconst (v := nI 1) hx hb d_Mo_links_45 (by decide) ?_
    refine va_put (D := D) (ci := 6) (v := .int (nI 1)) (ty := .int) (C := R_Mo) (T := T_Mo) (N := 11) hx hb hts u_Mo t_Mo t_Mo_ok n_Mo hown hK hP hD hS 0 rfl rfl 0 (by decide) (hts _ w_839) (fun _ h9 => h9) rfl (by decide +kernel) rfl rfl (Nat.le_of_ble_eq_true rfl) d_Mo_links_46 (fun H locs hP hD hS => ?_)
    have hP : va_P D vwC (wsM ct ad (nI 1) dk tk kd lc sz bh wt bl tg fs) H := hP
    have hD : va_D A (wsM ct ad (nI 1) dk tk kd lc sz bh wt bl tg fs) := hD
    refine lv_aload_n hx hb d_Mo_links_49 rfl (lv_at hl 0 rfl) ?_
    refine va_get (D := D) (ci := 6) (v := .int (nI 1)) (C := R_Mo) (T := T_Mo) (N := 11) hx hb hts u_Mo hown hK hP 0 rfl rfl 0 (by decide) (hts _ w_839) (fun _ h9 => h9) rfl d_Mo_links_50 ?_
    refine ln_if_le (tgt := 58) hx hb (by omega) d_Mo_links_53 (by decide) (fun c_2 => ?_) (fun c_2 => ?_)
    · exact absurd c_2 (by omega)
    · skip
      refine lv_iconst (v := nI 0) hx hb d_Mo_links_56 (by decide) ?_
      have e9 : wsM ct ad (nI 1) dk tk kd lc sz bh wt bl tg fs = wsM ct ad (pj_cd (mli (cd, dk, tk, kd, lc, sz, bh, wt, bl, tg, fs) f x)) (pj_dk (mli (cd, dk, tk, kd, lc, sz, bh, wt, bl, tg, fs) f x)) (pj_tk (mli (cd, dk, tk, kd, lc, sz, bh, wt, bl, tg, fs) f x)) (pj_kd (mli (cd, dk, tk, kd, lc, sz, bh, wt, bl, tg, fs) f x)) (pj_lc (mli (cd, dk, tk, kd, lc, sz, bh, wt, bl, tg, fs) f x)) (pj_sz (mli (cd, dk, tk, kd, lc, sz, bh, wt, bl, tg, fs) f x)) (pj_bh (mli (cd, dk, tk, kd, lc, sz, bh, wt, bl, tg, fs) f x)) (pj_wt (mli (cd, dk, tk, kd, lc, sz, bh, wt, bl, tg, fs) f x)) (pj_bl (mli (cd, dk, tk, kd, lc, sz, bh, wt, bl, tg, fs) f x)) (pj_tg (mli (cd, dk, tk, kd, lc, sz, bh, wt, bl, tg, fs) f x)) (pj_fs (mli (cd, dk, tk, kd, lc, sz, bh, wt, bl, tg, fs) f x)) := (by have e7 := (show mli_c (cd, dk, tk, kd, lc, sz, bh, wt, bl, tg, fs) f x = 1 from (by unfold mli_c; (try dsimp only [pj_kd, pj_bl, pj_bh, pj_wt, pj_fs, pj_cd, pj_dk, pj_tk, pj_lc, pj_sz, pj_tg]); first | (rw [if_neg (fun q => absurd q.1 (by assumption))]; done) | (rw [if_neg (fun q => absurd q.2 (by omega))]; done) | (rw [if_pos ⟨by assumption, by omega⟩]; done))); unfold mli; rw [e7]; rfl)
      rw [e9] at hP hD
      exact W.iret (v := nI 0) hx hb hr (fun t9 ht hW => ⟨congrArg (fun z => Outcome.returned (some (Value.int z))) (show nI 0 = (if mli_c (cd, dk, tk, kd, lc, sz, bh, wt, bl, tg, fs) f x = 0 then upd lc f (lc f + x) f else nI 0) from (by rw [(show mli_c (cd, dk, tk, kd, lc, sz, bh, wt, bl, tg, fs) f x = 1 from (by unfold mli_c; (try dsimp only [pj_kd, pj_bl, pj_bh, pj_wt, pj_fs, pj_cd, pj_dk, pj_tk, pj_lc, pj_sz, pj_tg]); first | (rw [if_neg (fun q => absurd q.1 (by assumption))]; done) | (rw [if_neg (fun q => absurd q.2 (by omega))]; done) | (rw [if_pos ⟨by assumption, by omega⟩]; done)))]; rfl)), by rw [ht]; exact hP, hD, hS.F ht⟩) hS.2.2 d_Mo_links_57
  · skip
    obtain ⟨⟨f1, f2⟩, f3⟩ := id c_1
    obtain rfl : x_f = nI f := z_cl hx_f (by omega)
    refine lv_aload_n hx hb d_Mo_links_9 rfl (lv_at hl 0 rfl) ?_
    refine va_get (D := D) (ci := 6) (v := .ref (ad 4)) (C := R_Mo) (T := T_Mo) (N := 11) hx hb hts u_Mo hown hK hP 0 rfl rfl 4 (by decide) (hts _ w_843) (fun _ h9 => h9) rfl d_Mo_links_10 ?_
    refine lv_aload_n hx hb d_Mo_links_13 rfl (lv_at hl 0 rfl) ?_
    refine lv_iload_n hx hb d_Mo_links_14 rfl (lv_at hl 1 rfl) ?_
    refine rdV ⟨hx, hb, hml, hown, hts⟩ hK hP (k_Mo_isFile l (f := f) (x_f := nI f) (nI_clamp (by omega)) ) w_922 m_Mo_isFile ⟨by decide, by decide⟩ 0 rfl rfl rfl hl.1 rfl (Nat.le_of_ble_eq_true rfl) d_Mo_links_15 ⟨Nat.zero_le _, Nat.zero_le _⟩ ?_
    refine lb_if_eq (tgt := 25) hx hb d_Mo_links_18 (by decide) (fun c_3 => ?_) (fun c_3 => ?_)
    · exact absurd c_1 c_3
    · skip
      refine lv_iload_n hx hb d_Mo_links_21 rfl (lv_at hl 1 rfl) ?_
      refine lv_goto (tgt := 26) hx hb d_Mo_links_22 (by decide) ?_
      refine ln_iald hx hb hK hP 4 2 rfl rfl (by omega) (by decide) d_Mo_links_26 ?_
      refine lv_i2l hx hb d_Mo_links_27 rfl ?_
      refine lv_iload_n hx hb d_Mo_links_28 rfl (lv_at hl 2 rfl) ?_
      refine lv_i2l hx hb d_Mo_links_29 rfl ?_
      have y1 := z_lt x
      have y2 := z_ge x
      have y3 := z_lt (lc f)
      have y4 := z_ge (lc f)
      refine lv_ladd hx hb d_Mo_links_30 ?_
      have z_4 : (((lc f).toInt64) + x.toInt64).toInt = ((lc f).toInt) + x.toInt := zl_add ((Int32.toInt_toInt64 _).trans rfl) ((Int32.toInt_toInt64 _).trans rfl) (by omega) (by omega)
      refine lv_lconst (v := 0) hx hb d_Mo_links_31 (by decide) ?_
      refine lv_ldc2 (v := 1000) hx hb hown (hts _ w_882) d_Mo_links_32 ?_
      refine rdS ⟨hx, hb, hml, hown, hts⟩ hK hP (k_Mo_in l (v := (((lc f).toInt) + x.toInt)) (x_v := (((lc f).toInt64) + x.toInt64)) (u := 0) (x_u := 0) (w := 1000) (x_w := 1000) z_4 (show Int64.toInt 0 = 0 by decide) (show Int64.toInt 1000 = 1000 by decide) ) w_883 m_Mo_in ⟨by decide, by decide⟩ rfl hl.1 rfl (Nat.le_of_ble_eq_true rfl) d_Mo_links_35 ⟨Nat.zero_le _, Nat.zero_le _⟩ ?_
      refine lb_if_eq (tgt := 45) hx hb d_Mo_links_38 (by decide) (fun c_5 => ?_) (fun c_5 => ?_)
      · skip
        refine lv_iconst (v := nI 1) hx hb d_Mo_links_45 (by decide) ?_
        refine va_put (D := D) (ci := 6) (v := .int (nI 1)) (ty := .int) (C := R_Mo) (T := T_Mo) (N := 11) hx hb hts u_Mo t_Mo t_Mo_ok n_Mo hown hK hP hD hS 0 rfl rfl 0 (by decide) (hts _ w_839) (fun _ h9 => h9) rfl (by decide +kernel) rfl rfl (Nat.le_of_ble_eq_true rfl) d_Mo_links_46 (fun H locs hP hD hS => ?_)
        have hP : va_P D vwC (wsM ct ad (nI 1) dk tk kd lc sz bh wt bl tg fs) H := hP
        have hD : va_D A (wsM ct ad (nI 1) dk tk kd lc sz bh wt bl tg fs) := hD
        refine lv_aload_n hx hb d_Mo_links_49 rfl (lv_at hl 0 rfl) ?_
        refine va_get (D := D) (ci := 6) (v := .int (nI 1)) (C := R_Mo) (T := T_Mo) (N := 11) hx hb hts u_Mo hown hK hP 0 rfl rfl 0 (by decide) (hts _ w_839) (fun _ h9 => h9) rfl d_Mo_links_50 ?_
        refine ln_if_le (tgt := 58) hx hb (by omega) d_Mo_links_53 (by decide) (fun c_6 => ?_) (fun c_6 => ?_)
        · exact absurd c_6 (by omega)
        · skip
          refine lv_iconst (v := nI 0) hx hb d_Mo_links_56 (by decide) ?_
          have e9 : wsM ct ad (nI 1) dk tk kd lc sz bh wt bl tg fs = wsM ct ad (pj_cd (mli (cd, dk, tk, kd, lc, sz, bh, wt, bl, tg, fs) f x)) (pj_dk (mli (cd, dk, tk, kd, lc, sz, bh, wt, bl, tg, fs) f x)) (pj_tk (mli (cd, dk, tk, kd, lc, sz, bh, wt, bl, tg, fs) f x)) (pj_kd (mli (cd, dk, tk, kd, lc, sz, bh, wt, bl, tg, fs) f x)) (pj_lc (mli (cd, dk, tk, kd, lc, sz, bh, wt, bl, tg, fs) f x)) (pj_sz (mli (cd, dk, tk, kd, lc, sz, bh, wt, bl, tg, fs) f x)) (pj_bh (mli (cd, dk, tk, kd, lc, sz, bh, wt, bl, tg, fs) f x)) (pj_wt (mli (cd, dk, tk, kd, lc, sz, bh, wt, bl, tg, fs) f x)) (pj_bl (mli (cd, dk, tk, kd, lc, sz, bh, wt, bl, tg, fs) f x)) (pj_tg (mli (cd, dk, tk, kd, lc, sz, bh, wt, bl, tg, fs) f x)) (pj_fs (mli (cd, dk, tk, kd, lc, sz, bh, wt, bl, tg, fs) f x)) := (by have e7 := (show mli_c (cd, dk, tk, kd, lc, sz, bh, wt, bl, tg, fs) f x = 1 from (by unfold mli_c; (try dsimp only [pj_kd, pj_bl, pj_bh, pj_wt, pj_fs, pj_cd, pj_dk, pj_tk, pj_lc, pj_sz, pj_tg]); first | (rw [if_neg (fun q => absurd q.1 (by assumption))]; done) | (rw [if_neg (fun q => absurd q.2 (by omega))]; done) | (rw [if_pos ⟨by assumption, by omega⟩]; done))); unfold mli; rw [e7]; rfl)
          rw [e9] at hP hD
          exact W.iret (v := nI 0) hx hb hr (fun t9 ht hW => ⟨congrArg (fun z => Outcome.returned (some (Value.int z))) (show nI 0 = (if mli_c (cd, dk, tk, kd, lc, sz, bh, wt, bl, tg, fs) f x = 0 then upd lc f (lc f + x) f else nI 0) from (by rw [(show mli_c (cd, dk, tk, kd, lc, sz, bh, wt, bl, tg, fs) f x = 1 from (by unfold mli_c; (try dsimp only [pj_kd, pj_bl, pj_bh, pj_wt, pj_fs, pj_cd, pj_dk, pj_tk, pj_lc, pj_sz, pj_tg]); first | (rw [if_neg (fun q => absurd q.1 (by assumption))]; done) | (rw [if_neg (fun q => absurd q.2 (by omega))]; done) | (rw [if_pos ⟨by assumption, by omega⟩]; done)))]; rfl)), by rw [ht]; exact hP, hD, hS.F ht⟩) hS.2.2 d_Mo_links_57
      · skip
        refine lv_iconst (v := nI 0) hx hb d_Mo_links_41 (by decide) ?_
        refine lv_goto (tgt := 46) hx hb d_Mo_links_42 (by decide) ?_
        refine va_put (D := D) (ci := 6) (v := .int (nI 0)) (ty := .int) (C := R_Mo) (T := T_Mo) (N := 11) hx hb hts u_Mo t_Mo t_Mo_ok n_Mo hown hK hP hD hS 0 rfl rfl 0 (by decide) (hts _ w_839) (fun _ h9 => h9) rfl (by decide +kernel) rfl rfl (Nat.le_of_ble_eq_true rfl) d_Mo_links_46 (fun H locs hP hD hS => ?_)
        have hP : va_P D vwC (wsM ct ad (nI 0) dk tk kd lc sz bh wt bl tg fs) H := hP
        have hD : va_D A (wsM ct ad (nI 0) dk tk kd lc sz bh wt bl tg fs) := hD
        refine lv_aload_n hx hb d_Mo_links_49 rfl (lv_at hl 0 rfl) ?_
        refine va_get (D := D) (ci := 6) (v := .int (nI 0)) (C := R_Mo) (T := T_Mo) (N := 11) hx hb hts u_Mo hown hK hP 0 rfl rfl 0 (by decide) (hts _ w_839) (fun _ h9 => h9) rfl d_Mo_links_50 ?_
        refine ln_if_le (tgt := 58) hx hb (by omega) d_Mo_links_53 (by decide) (fun c_7 => ?_) (fun c_7 => ?_)
        · skip
          refine lv_aload_n hx hb d_Mo_links_58 rfl (lv_at hl 0 rfl) ?_
          refine va_get (D := D) (ci := 6) (v := .ref (ad 4)) (C := R_Mo) (T := T_Mo) (N := 11) hx hb hts u_Mo hown hK hP 0 rfl rfl 4 (by decide) (hts _ w_843) (fun _ h9 => h9) rfl d_Mo_links_59 ?_
          refine lv_iload_n hx hb d_Mo_links_62 rfl (lv_at hl 1 rfl) ?_
          refine lv_dup2_11 hx hb d_Mo_links_63 rfl rfl ?_
          refine ln_iald hx hb hK hP 4 2 rfl rfl (by omega) (by decide) d_Mo_links_64 ?_
          refine lv_iload_n hx hb d_Mo_links_65 rfl (lv_at hl 2 rfl) ?_
          refine lv_iadd hx hb d_Mo_links_66 ?_
          refine ln_iast hx hb hK hP hD hS 4 2 rfl rfl (by omega) (by decide) d_Mo_links_67 (fun H locs hP hD hS => ?_)
          have hP : va_P D vwC (wsM ct ad (nI 0) dk tk kd (upd lc f ((lc f) + x)) sz bh wt bl tg fs) H := hP
          have hD : va_D A (wsM ct ad (nI 0) dk tk kd (upd lc f ((lc f) + x)) sz bh wt bl tg fs) := hD
          refine lv_aload_n hx hb d_Mo_links_68 rfl (lv_at hl 0 rfl) ?_
          refine lv_iload_n hx hb d_Mo_links_69 rfl (lv_at hl 1 rfl) ?_
          refine lv_aload_n hx hb d_Mo_links_70 rfl (lv_at hl 0 rfl) ?_
          refine va_get (D := D) (ci := 6) (v := .ref (ad 4)) (C := R_Mo) (T := T_Mo) (N := 11) hx hb hts u_Mo hown hK hP 0 rfl rfl 4 (by decide) (hts _ w_843) (fun _ h9 => h9) rfl d_Mo_links_71 ?_
          refine lv_iload_n hx hb d_Mo_links_74 rfl (lv_at hl 1 rfl) ?_
          refine ln_iald hx hb hK hP 4 2 rfl rfl (by omega) (by decide) d_Mo_links_75 ?_
          refine lv_if_ne (tgt := 83) hx hb d_Mo_links_76 (by decide) (fun c_8 => ?_) (fun c_8 => ?_)
          · skip
            refine lv_iconst (v := nI 0) hx hb d_Mo_links_83 (by decide) ?_
            refine W.eq (g2 := F0 m 84 ls [.int (mby (upd lc f (lc f + x) f)), .int (nI f), .ref (ad 0)]) (by unfold mby; first | (rw [if_pos (by assumption)]; done) | (rw [if_neg (by assumption)]; done)) ?_
            refine wrV ⟨hx, hb, hml, hown, hts⟩ hK hP hD hS hA (k_Mo_rest l (f := f) (y := (mby (upd lc f (lc f + x) f))) (by omega) (by omega)) w_894 m_Mo_rest ⟨by decide, by decide⟩ 0 rfl rfl rfl hl.1 rfl (Nat.le_of_ble_eq_true rfl) d_Mo_links_84 ⟨Nat.zero_le _, Nat.zero_le _⟩ (fun H locs hP hD hS => ?_)
            have hP : va_P D vwC (wsM ct ad (nI 0) dk tk kd (upd lc f ((lc f) + x)) sz ((mrst (bh, wt, fs) f (mby (upd lc f (lc f + x) f))).1) ((mrst (bh, wt, fs) f (mby (upd lc f (lc f + x) f))).2.1) bl tg ((mrst (bh, wt, fs) f (mby (upd lc f (lc f + x) f))).2.2)) H := hP
            have hD : va_D A (wsM ct ad (nI 0) dk tk kd (upd lc f ((lc f) + x)) sz ((mrst (bh, wt, fs) f (mby (upd lc f (lc f + x) f))).1) ((mrst (bh, wt, fs) f (mby (upd lc f (lc f + x) f))).2.1) bl tg ((mrst (bh, wt, fs) f (mby (upd lc f (lc f + x) f))).2.2)) := hD
            refine W.eq (g2 := F0 m 87 ls []) rfl ?_
            refine lv_aload_n hx hb d_Mo_links_87 rfl (lv_at hl 0 rfl) ?_
            refine va_get (D := D) (ci := 6) (v := .ref (ad 4)) (C := R_Mo) (T := T_Mo) (N := 11) hx hb hts u_Mo hown hK hP 0 rfl rfl 4 (by decide) (hts _ w_843) (fun _ h9 => h9) rfl d_Mo_links_88 ?_
            refine lv_iload_n hx hb d_Mo_links_91 rfl (lv_at hl 1 rfl) ?_
            refine ln_iald hx hb hK hP 4 2 rfl rfl (by omega) (by decide) d_Mo_links_92 ?_
            have e9 : wsM ct ad (nI 0) dk tk kd (upd lc f ((lc f) + x)) sz ((mrst (bh, wt, fs) f (mby (upd lc f (lc f + x) f))).1) ((mrst (bh, wt, fs) f (mby (upd lc f (lc f + x) f))).2.1) bl tg ((mrst (bh, wt, fs) f (mby (upd lc f (lc f + x) f))).2.2) = wsM ct ad (pj_cd (mli (cd, dk, tk, kd, lc, sz, bh, wt, bl, tg, fs) f x)) (pj_dk (mli (cd, dk, tk, kd, lc, sz, bh, wt, bl, tg, fs) f x)) (pj_tk (mli (cd, dk, tk, kd, lc, sz, bh, wt, bl, tg, fs) f x)) (pj_kd (mli (cd, dk, tk, kd, lc, sz, bh, wt, bl, tg, fs) f x)) (pj_lc (mli (cd, dk, tk, kd, lc, sz, bh, wt, bl, tg, fs) f x)) (pj_sz (mli (cd, dk, tk, kd, lc, sz, bh, wt, bl, tg, fs) f x)) (pj_bh (mli (cd, dk, tk, kd, lc, sz, bh, wt, bl, tg, fs) f x)) (pj_wt (mli (cd, dk, tk, kd, lc, sz, bh, wt, bl, tg, fs) f x)) (pj_bl (mli (cd, dk, tk, kd, lc, sz, bh, wt, bl, tg, fs) f x)) (pj_tg (mli (cd, dk, tk, kd, lc, sz, bh, wt, bl, tg, fs) f x)) (pj_fs (mli (cd, dk, tk, kd, lc, sz, bh, wt, bl, tg, fs) f x)) := (by have e7 := (show mli_c (cd, dk, tk, kd, lc, sz, bh, wt, bl, tg, fs) f x = 0 from (by unfold mli_c; (try dsimp only [pj_kd, pj_bl, pj_bh, pj_wt, pj_fs, pj_cd, pj_dk, pj_tk, pj_lc, pj_sz, pj_tg]); first | (rw [if_neg (fun q => absurd q.1 (by assumption))]; done) | (rw [if_neg (fun q => absurd q.2 (by omega))]; done) | (rw [if_pos ⟨by assumption, by omega⟩]; done))); unfold mli; rw [e7]; rfl)
            rw [e9] at hP hD
            exact W.iret (v := (upd lc f ((lc f) + x)) f) hx hb hr (fun t9 ht hW => ⟨congrArg (fun z => Outcome.returned (some (Value.int z))) (show (upd lc f ((lc f) + x)) f = (if mli_c (cd, dk, tk, kd, lc, sz, bh, wt, bl, tg, fs) f x = 0 then upd lc f (lc f + x) f else nI 0) from (by rw [(show mli_c (cd, dk, tk, kd, lc, sz, bh, wt, bl, tg, fs) f x = 0 from (by unfold mli_c; (try dsimp only [pj_kd, pj_bl, pj_bh, pj_wt, pj_fs, pj_cd, pj_dk, pj_tk, pj_lc, pj_sz, pj_tg]); first | (rw [if_neg (fun q => absurd q.1 (by assumption))]; done) | (rw [if_neg (fun q => absurd q.2 (by omega))]; done) | (rw [if_pos ⟨by assumption, by omega⟩]; done)))]; rfl)), by rw [ht]; exact hP, hD, hS.F ht⟩) hS.2.2 d_Mo_links_93
          · skip
            refine lv_iconst (v := nI 1) hx hb d_Mo_links_79 (by decide) ?_
            refine lv_goto (tgt := 84) hx hb d_Mo_links_80 (by decide) ?_
            refine W.eq (g2 := F0 m 84 ls [.int (mby (upd lc f (lc f + x) f)), .int (nI f), .ref (ad 0)]) (by unfold mby; first | (rw [if_pos (by assumption)]; done) | (rw [if_neg (by assumption)]; done)) ?_
            refine wrV ⟨hx, hb, hml, hown, hts⟩ hK hP hD hS hA (k_Mo_rest l (f := f) (y := (mby (upd lc f (lc f + x) f))) (by omega) (by omega)) w_894 m_Mo_rest ⟨by decide, by decide⟩ 0 rfl rfl rfl hl.1 rfl (Nat.le_of_ble_eq_true rfl) d_Mo_links_84 ⟨Nat.zero_le _, Nat.zero_le _⟩ (fun H locs hP hD hS => ?_)
            have hP : va_P D vwC (wsM ct ad (nI 0) dk tk kd (upd lc f ((lc f) + x)) sz ((mrst (bh, wt, fs) f (mby (upd lc f (lc f + x) f))).1) ((mrst (bh, wt, fs) f (mby (upd lc f (lc f + x) f))).2.1) bl tg ((mrst (bh, wt, fs) f (mby (upd lc f (lc f + x) f))).2.2)) H := hP
            have hD : va_D A (wsM ct ad (nI 0) dk tk kd (upd lc f ((lc f) + x)) sz ((mrst (bh, wt, fs) f (mby (upd lc f (lc f + x) f))).1) ((mrst (bh, wt, fs) f (mby (upd lc f (lc f + x) f))).2.1) bl tg ((mrst (bh, wt, fs) f (mby (upd lc f (lc f + x) f))).2.2)) := hD
            refine W.eq (g2 := F0 m 87 ls []) rfl ?_
            refine lv_aload_n hx hb d_Mo_links_87 rfl (lv_at hl 0 rfl) ?_
            refine va_get (D := D) (ci := 6) (v := .ref (ad 4)) (C := R_Mo) (T := T_Mo) (N := 11) hx hb hts u_Mo hown hK hP 0 rfl rfl 4 (by decide) (hts _ w_843) (fun _ h9 => h9) rfl d_Mo_links_88 ?_
            refine lv_iload_n hx hb d_Mo_links_91 rfl (lv_at hl 1 rfl) ?_
            refine ln_iald hx hb hK hP 4 2 rfl rfl (by omega) (by decide) d_Mo_links_92 ?_
            have e9 : wsM ct ad (nI 0) dk tk kd (upd lc f ((lc f) + x)) sz ((mrst (bh, wt, fs) f (mby (upd lc f (lc f + x) f))).1) ((mrst (bh, wt, fs) f (mby (upd lc f (lc f + x) f))).2.1) bl tg ((mrst (bh, wt, fs) f (mby (upd lc f (lc f + x) f))).2.2) = wsM ct ad (pj_cd (mli (cd, dk, tk, kd, lc, sz, bh, wt, bl, tg, fs) f x)) (pj_dk (mli (cd, dk, tk, kd, lc, sz, bh, wt, bl, tg, fs) f x)) (pj_tk (mli (cd, dk, tk, kd, lc, sz, bh, wt, bl, tg, fs) f x)) (pj_kd (mli (cd, dk, tk, kd, lc, sz, bh, wt, bl, tg, fs) f x)) (pj_lc (mli (cd, dk, tk, kd, lc, sz, bh, wt, bl, tg, fs) f x)) (pj_sz (mli (cd, dk, tk, kd, lc, sz, bh, wt, bl, tg, fs) f x)) (pj_bh (mli (cd, dk, tk, kd, lc, sz, bh, wt, bl, tg, fs) f x)) (pj_wt (mli (cd, dk, tk, kd, lc, sz, bh, wt, bl, tg, fs) f x)) (pj_bl (mli (cd, dk, tk, kd, lc, sz, bh, wt, bl, tg, fs) f x)) (pj_tg (mli (cd, dk, tk, kd, lc, sz, bh, wt, bl, tg, fs) f x)) (pj_fs (mli (cd, dk, tk, kd, lc, sz, bh, wt, bl, tg, fs) f x)) := (by have e7 := (show mli_c (cd, dk, tk, kd, lc, sz, bh, wt, bl, tg, fs) f x = 0 from (by unfold mli_c; (try dsimp only [pj_kd, pj_bl, pj_bh, pj_wt, pj_fs, pj_cd, pj_dk, pj_tk, pj_lc, pj_sz, pj_tg]); first | (rw [if_neg (fun q => absurd q.1 (by assumption))]; done) | (rw [if_neg (fun q => absurd q.2 (by omega))]; done) | (rw [if_pos ⟨by assumption, by omega⟩]; done))); unfold mli; rw [e7]; rfl)
            rw [e9] at hP hD
            exact W.iret (v := (upd lc f ((lc f) + x)) f) hx hb hr (fun t9 ht hW => ⟨congrArg (fun z => Outcome.returned (some (Value.int z))) (show (upd lc f ((lc f) + x)) f = (if mli_c (cd, dk, tk, kd, lc, sz, bh, wt, bl, tg, fs) f x = 0 then upd lc f (lc f + x) f else nI 0) from (by rw [(show mli_c (cd, dk, tk, kd, lc, sz, bh, wt, bl, tg, fs) f x = 0 from (by unfold mli_c; (try dsimp only [pj_kd, pj_bl, pj_bh, pj_wt, pj_fs, pj_cd, pj_dk, pj_tk, pj_lc, pj_sz, pj_tg]); first | (rw [if_neg (fun q => absurd q.1 (by assumption))]; done) | (rw [if_neg (fun q => absurd q.2 (by omega))]; done) | (rw [if_pos ⟨by assumption, by omega⟩]; done)))]; rfl)), by rw [ht]; exact hP, hD, hS.F ht⟩) hS.2.2 d_Mo_links_93
        · exact absurd c_7 (by omega)
theorem m_Mo_count : mV R_Mo y_Mo_count (Cond.code y_Mo_count c_Mo_count 5 (some .int)) 1 := ⟨⟨w_987, w_988, w_7, w_989⟩, by decide +kernel⟩
set_option maxHeartbeats 4000000 in
set_option maxRecDepth 100000 in
theorem k_Mo_count (l : Launch) {D : va_G} {ct : Nat → ClassId} {ad : Nat → Nat} {cd : Int32} {dk : Nat → Int32} {tk kd lc sz bh wt : Nat → Int32} {bl : Nat → Nat} {tg : Nat → Int32} {fs : Int32} {A : Nat → Prop} {z : Int} {x_z : Int32} (hx_z : x_z.toInt = z)  : Met l y_Mo_count (Cond.code y_Mo_count c_Mo_count 5 (some .int) :: wA) (rmk 3 0 0) (va_Pc [.ref (ad 0), .int x_z] (cW A D (tyM ct) (wsM ct ad cd dk tk kd lc sz bh wt bl tg fs))) (wQ (some (.int (if mco_c z = 0 then mco_r (cd, dk, tk, kd, lc, sz, bh, wt, bl, tg, fs) z else nI 0))) A D (wsM ct ad (nI (mco_c z)) dk tk kd lc sz bh wt bl tg fs)) 0 0 A := by
  refine Met.ofW (cc := c_Mo_count) (maxL := 5) (ret := (some .int)) (by decide +kernel) rfl ?_
  intro p e s m args below meth c s₁ B0 hml hv
  obtain ⟨rfl, hA, hP, hD, hK⟩ := hv
  have hS : va_S A s.heap s.heap [] := va_S.rf
  have hx := B0.exec
  have hb := B0.bytes
  have hr := B0.returns
  have hts := fun w (h : w ∈ wA) => atoms_spec (ws := Cond.code y_Mo_count c_Mo_count 5 (some .int) :: wA) B0.pre w (List.mem_cons_of_mem _ h)
  have hown : s.vm.findClass R_Mo = some m.cls := findClass_of_methodNamed B0.named
  have hlocks := B0.notSynchronized
  have hl := lv_entry ([.ref (ad 0), .int x_z]) (n := 5) (Nat.le_of_ble_eq_true rfl)
  rw [lg_entry_eq]
  generalize (lg_sl ([.ref (ad 0), .int x_z]) ++ List.replicate (5 - (lg_sl ([.ref (ad 0), .int x_z])).length) Slot.unset).toArray = ls at hl ⊢
  have hl : lv_has ls 5 [(0, .ref (ad 0)), (1, .int x_z)] := hl
  have hf_z := z_lt x_z
  have hg_z := z_ge x_z
  rw [hx_z] at hf_z hg_z
  refine lv_aload_n hx hb d_Mo_count_0 rfl (lv_at hl 0 rfl) ?_
  refine lv_iload_n hx hb d_Mo_count_1 rfl (lv_at hl 1 rfl) ?_
  refine lv_i2l hx hb d_Mo_count_2 rfl ?_
  refine lv_lconst (v := 0) hx hb d_Mo_count_3 (by decide) ?_
  refine lv_ldc2 (v := 3) hx hb hown (hts _ w_990) d_Mo_count_4 ?_
  refine rdS ⟨hx, hb, hml, hown, hts⟩ hK hP (k_Mo_in l (v := z) (x_v := x_z.toInt64) (u := 0) (x_u := 0) (w := 3) (x_w := 3) ((Int32.toInt_toInt64 _).trans hx_z) (show Int64.toInt 0 = 0 by decide) (show Int64.toInt 3 = 3 by decide) ) w_883 m_Mo_in ⟨by decide, by decide⟩ rfl hl.1 rfl (Nat.le_of_ble_eq_true rfl) d_Mo_count_7 ⟨Nat.zero_le _, Nat.zero_le _⟩ ?_
  refine lb_if_eq (tgt := 17) hx hb d_Mo_count_10 (by decide) (fun c_1 => ?_) (fun c_1 => ?_)
  · skip
    refine lv_iconst (v := nI 1) hx hb d_Mo_count_17 (by decide) ?_
    refine va_put (D := D) (ci := 6) (v := .int (nI 1)) (ty := .int) (C := R_Mo) (T := T_Mo) (N := 11) hx hb hts u_Mo t_Mo t_Mo_ok n_Mo hown hK hP hD hS 0 rfl rfl 0 (by decide) (hts _ w_839) (fun _ h9 => h9) rfl (by decide +kernel) rfl rfl (Nat.le_of_ble_eq_true rfl) d_Mo_count_18 (fun H locs hP hD hS => ?_)
    have hP : va_P D vwC (wsM ct ad (nI 1) dk tk kd lc sz bh wt bl tg fs) H := hP
    have hD : va_D A (wsM ct ad (nI 1) dk tk kd lc sz bh wt bl tg fs) := hD
    refine lv_aload_n hx hb d_Mo_count_21 rfl (lv_at hl 0 rfl) ?_
    refine va_get (D := D) (ci := 6) (v := .int (nI 1)) (C := R_Mo) (T := T_Mo) (N := 11) hx hb hts u_Mo hown hK hP 0 rfl rfl 0 (by decide) (hts _ w_839) (fun _ h9 => h9) rfl d_Mo_count_22 ?_
    refine ln_if_le (tgt := 30) hx hb (by omega) d_Mo_count_25 (by decide) (fun c_2 => ?_) (fun c_2 => ?_)
    · exact absurd c_2 (by omega)
    · skip
      refine lv_iconst (v := nI 0) hx hb d_Mo_count_28 (by decide) ?_
      have e9 : wsM ct ad (nI 1) dk tk kd lc sz bh wt bl tg fs = wsM ct ad (nI (mco_c z)) dk tk kd lc sz bh wt bl tg fs := (by rw [(show mco_c z = 1 from (by unfold mco_c; (try dsimp only [pj_kd, pj_bl, pj_bh, pj_wt, pj_fs, pj_cd, pj_dk, pj_tk, pj_lc, pj_sz, pj_tg]); first | (rw [if_pos (by omega)]; done) | (rw [if_neg (by omega)]; done)))])
      rw [e9] at hP hD
      exact W.iret (v := nI 0) hx hb hr (fun t9 ht hW => ⟨congrArg (fun z => Outcome.returned (some (Value.int z))) (show nI 0 = (if mco_c z = 0 then mco_r (cd, dk, tk, kd, lc, sz, bh, wt, bl, tg, fs) z else nI 0) from (by rw [(show mco_c z = 1 from (by unfold mco_c; (try dsimp only [pj_kd, pj_bl, pj_bh, pj_wt, pj_fs, pj_cd, pj_dk, pj_tk, pj_lc, pj_sz, pj_tg]); first | (rw [if_pos (by omega)]; done) | (rw [if_neg (by omega)]; done)))]; first | rfl | (rw [if_pos rfl]; unfold mco_r; dsimp only [pj_kd, pj_bl, pj_bh, pj_wt, pj_fs, pj_cd, pj_dk, pj_tk, pj_lc, pj_sz, pj_tg]; have h11 : mcn kd wt 12 1 0 0 = (a, b) := (by rw [h10, show 13 - k = 0 by omega]; rfl); rw [h11]; first | (rw [if_pos (by omega)]; done) | (rw [if_neg (by omega), if_pos (by omega)]; done) | (rw [if_neg (by omega), if_neg (by omega), if_pos (by omega)]; done) | (rw [if_neg (by omega), if_neg (by omega), if_neg (by omega)]; done)))), by rw [ht]; exact hP, hD, hS.F ht⟩) hS.2.2 d_Mo_count_29
  · skip
    refine lv_iconst (v := nI 0) hx hb d_Mo_count_13 (by decide) ?_
    refine lv_goto (tgt := 18) hx hb d_Mo_count_14 (by decide) ?_
    refine va_put (D := D) (ci := 6) (v := .int (nI 0)) (ty := .int) (C := R_Mo) (T := T_Mo) (N := 11) hx hb hts u_Mo t_Mo t_Mo_ok n_Mo hown hK hP hD hS 0 rfl rfl 0 (by decide) (hts _ w_839) (fun _ h9 => h9) rfl (by decide +kernel) rfl rfl (Nat.le_of_ble_eq_true rfl) d_Mo_count_18 (fun H locs hP hD hS => ?_)
    have hP : va_P D vwC (wsM ct ad (nI 0) dk tk kd lc sz bh wt bl tg fs) H := hP
    have hD : va_D A (wsM ct ad (nI 0) dk tk kd lc sz bh wt bl tg fs) := hD
    refine lv_aload_n hx hb d_Mo_count_21 rfl (lv_at hl 0 rfl) ?_
    refine va_get (D := D) (ci := 6) (v := .int (nI 0)) (C := R_Mo) (T := T_Mo) (N := 11) hx hb hts u_Mo hown hK hP 0 rfl rfl 0 (by decide) (hts _ w_839) (fun _ h9 => h9) rfl d_Mo_count_22 ?_
    refine ln_if_le (tgt := 30) hx hb (by omega) d_Mo_count_25 (by decide) (fun c_3 => ?_) (fun c_3 => ?_)
    · skip
      refine lv_iconst (v := nI 0) hx hb d_Mo_count_30 (by decide) ?_
      refine lv_istore_n (lv' := [(2, .int (nI 0)), (0, .ref (ad 0)), (1, .int x_z)]) hx hb d_Mo_count_31 rfl hl (by decide) rfl (fun ls hl => ?_)
      refine lv_iconst (v := nI 0) hx hb d_Mo_count_32 (by decide) ?_
      refine lv_istore_n (lv' := [(3, .int (nI 0)), (2, .int (nI 0)), (0, .ref (ad 0)), (1, .int x_z)]) hx hb d_Mo_count_33 rfl hl (by decide) rfl (fun ls hl => ?_)
      refine lv_iconst (v := nI 1) hx hb d_Mo_count_34 (by decide) ?_
      refine lv_istore (lv' := [(4, .int (nI 1)), (3, .int (nI 0)), (2, .int (nI 0)), (0, .ref (ad 0)), (1, .int x_z)]) hx hb d_Mo_count_35 hl (by decide) rfl (fun ls hl => ?_)
      have loop37 : ∀ (n9 : Nat) (k : Nat) (a : Nat) (b : Nat), 13 - k < n9 → 1 ≤ k ∧ k ≤ 13 → mcn kd wt 12 1 0 0 = mcn kd wt (13 - k) k a b → ∀ (H : Heap) (locs : List Loc), va_P D vwC (wsM ct ad (nI 0) dk tk kd lc sz bh wt bl tg fs) H → va_D A (wsM ct ad (nI 0) dk tk kd lc sz bh wt bl tg fs) → va_S A s.heap H locs → ∀ ls : Array Slot, lv_has ls 5 [(0, .ref (ad 0)), (1, .int x_z), (2, .int (nI a)), (3, .int (nI b)), (4, .int (nI k))] → W p l e (headSpec (Cond.code y_Mo_count c_Mo_count 5 (some .int) :: wA) (rmk 3 0 0)).room s m ([.ref (ad 0), .int x_z] : List Value).toArray below meth c H locs 0 0 (MQ below (wQ (some (.int (if mco_c z = 0 then mco_r (cd, dk, tk, kd, lc, sz, bh, wt, bl, tg, fs) z else nI 0))) A D (wsM ct ad (nI (mco_c z)) dk tk kd lc sz bh wt bl tg fs)) ([.ref (ad 0), .int x_z] : List Value).toArray s 0 0 A) (F0 m 37 ls []) := by
        intro n9
        induction n9 with
        | zero => intro k a b h8 h9 h10 H locs hP hD hS ls hl; exact absurd h8 (by omega)
        | succ n9 ih =>
          intro k a b h8 h9 h10 H locs hP hD hS ls hl
          refine lv_iload hx hb d_Mo_count_37 (lv_at hl 4 rfl) ?_
          refine lv_bipush (v := nI 12) hx hb d_Mo_count_39 (by decide) ?_
          refine ln_icmp_gt (tgt := 86) hx hb (by omega) (by omega) d_Mo_count_41 (by decide) (fun c_4 => ?_) (fun c_4 => ?_)
          · skip
            refine lv_iload_n hx hb d_Mo_count_86 rfl (lv_at hl 1 rfl) ?_
            refine lz_if_ne (tgt := 97) hx hb hx_z d_Mo_count_87 (by decide) (fun c_5 => ?_) (fun c_5 => ?_)
            · skip
              refine lv_iload_n hx hb d_Mo_count_97 rfl (lv_at hl 1 rfl) ?_
              refine lv_iconst (v := nI 1) hx hb d_Mo_count_98 (by decide) ?_
              refine lz_icmp_ne (tgt := 106) hx hb hx_z (nI_toInt (by omega)) d_Mo_count_99 (by decide) (fun c_6 => ?_) (fun c_6 => ?_)
              · skip
                refine lv_iload_n hx hb d_Mo_count_106 rfl (lv_at hl 1 rfl) ?_
                refine lv_iconst (v := nI 2) hx hb d_Mo_count_107 (by decide) ?_
                refine lz_icmp_ne (tgt := 115) hx hb hx_z (nI_toInt (by omega)) d_Mo_count_108 (by decide) (fun c_7 => ?_) (fun c_7 => ?_)
                · skip
                  refine lv_aload_n hx hb d_Mo_count_115 rfl (lv_at hl 0 rfl) ?_
                  refine va_get (D := D) (ci := 6) (v := .int fs) (C := R_Mo) (T := T_Mo) (N := 11) hx hb hts u_Mo hown hK hP 0 rfl rfl 10 (by decide) (hts _ w_849) (fun _ h9 => h9) rfl d_Mo_count_116 ?_
                  have e9 : wsM ct ad (nI 0) dk tk kd lc sz bh wt bl tg fs = wsM ct ad (nI (mco_c z)) dk tk kd lc sz bh wt bl tg fs := (by rw [(show mco_c z = 0 from (by unfold mco_c; (try dsimp only [pj_kd, pj_bl, pj_bh, pj_wt, pj_fs, pj_cd, pj_dk, pj_tk, pj_lc, pj_sz, pj_tg]); first | (rw [if_pos (by omega)]; done) | (rw [if_neg (by omega)]; done)))])
                  rw [e9] at hP hD
                  exact W.iret (v := fs) hx hb hr (fun t9 ht hW => ⟨congrArg (fun z => Outcome.returned (some (Value.int z))) (show fs = (if mco_c z = 0 then mco_r (cd, dk, tk, kd, lc, sz, bh, wt, bl, tg, fs) z else nI 0) from (by rw [(show mco_c z = 0 from (by unfold mco_c; (try dsimp only [pj_kd, pj_bl, pj_bh, pj_wt, pj_fs, pj_cd, pj_dk, pj_tk, pj_lc, pj_sz, pj_tg]); first | (rw [if_pos (by omega)]; done) | (rw [if_neg (by omega)]; done)))]; first | rfl | (rw [if_pos rfl]; unfold mco_r; dsimp only [pj_kd, pj_bl, pj_bh, pj_wt, pj_fs, pj_cd, pj_dk, pj_tk, pj_lc, pj_sz, pj_tg]; have h11 : mcn kd wt 12 1 0 0 = (a, b) := (by rw [h10, show 13 - k = 0 by omega]; rfl); rw [h11]; first | (rw [if_pos (by omega)]; done) | (rw [if_neg (by omega), if_pos (by omega)]; done) | (rw [if_neg (by omega), if_neg (by omega), if_pos (by omega)]; done) | (rw [if_neg (by omega), if_neg (by omega), if_neg (by omega)]; done)))), by rw [ht]; exact hP, hD, hS.F ht⟩) hS.2.2 d_Mo_count_119
                · skip
                  refine lv_iload_n hx hb d_Mo_count_111 rfl (lv_at hl 3 rfl) ?_
                  refine lv_goto (tgt := 119) hx hb d_Mo_count_112 (by decide) ?_
                  have e9 : wsM ct ad (nI 0) dk tk kd lc sz bh wt bl tg fs = wsM ct ad (nI (mco_c z)) dk tk kd lc sz bh wt bl tg fs := (by rw [(show mco_c z = 0 from (by unfold mco_c; (try dsimp only [pj_kd, pj_bl, pj_bh, pj_wt, pj_fs, pj_cd, pj_dk, pj_tk, pj_lc, pj_sz, pj_tg]); first | (rw [if_pos (by omega)]; done) | (rw [if_neg (by omega)]; done)))])
                  rw [e9] at hP hD
                  exact W.iret (v := nI b) hx hb hr (fun t9 ht hW => ⟨congrArg (fun z => Outcome.returned (some (Value.int z))) (show nI b = (if mco_c z = 0 then mco_r (cd, dk, tk, kd, lc, sz, bh, wt, bl, tg, fs) z else nI 0) from (by rw [(show mco_c z = 0 from (by unfold mco_c; (try dsimp only [pj_kd, pj_bl, pj_bh, pj_wt, pj_fs, pj_cd, pj_dk, pj_tk, pj_lc, pj_sz, pj_tg]); first | (rw [if_pos (by omega)]; done) | (rw [if_neg (by omega)]; done)))]; first | rfl | (rw [if_pos rfl]; unfold mco_r; dsimp only [pj_kd, pj_bl, pj_bh, pj_wt, pj_fs, pj_cd, pj_dk, pj_tk, pj_lc, pj_sz, pj_tg]; have h11 : mcn kd wt 12 1 0 0 = (a, b) := (by rw [h10, show 13 - k = 0 by omega]; rfl); rw [h11]; first | (rw [if_pos (by omega)]; done) | (rw [if_neg (by omega), if_pos (by omega)]; done) | (rw [if_neg (by omega), if_neg (by omega), if_pos (by omega)]; done) | (rw [if_neg (by omega), if_neg (by omega), if_neg (by omega)]; done)))), by rw [ht]; exact hP, hD, hS.F ht⟩) hS.2.2 d_Mo_count_119
              · skip
                refine lv_iload_n hx hb d_Mo_count_102 rfl (lv_at hl 2 rfl) ?_
                refine lv_goto (tgt := 119) hx hb d_Mo_count_103 (by decide) ?_
                have e9 : wsM ct ad (nI 0) dk tk kd lc sz bh wt bl tg fs = wsM ct ad (nI (mco_c z)) dk tk kd lc sz bh wt bl tg fs := (by rw [(show mco_c z = 0 from (by unfold mco_c; (try dsimp only [pj_kd, pj_bl, pj_bh, pj_wt, pj_fs, pj_cd, pj_dk, pj_tk, pj_lc, pj_sz, pj_tg]); first | (rw [if_pos (by omega)]; done) | (rw [if_neg (by omega)]; done)))])
                rw [e9] at hP hD
                exact W.iret (v := nI a) hx hb hr (fun t9 ht hW => ⟨congrArg (fun z => Outcome.returned (some (Value.int z))) (show nI a = (if mco_c z = 0 then mco_r (cd, dk, tk, kd, lc, sz, bh, wt, bl, tg, fs) z else nI 0) from (by rw [(show mco_c z = 0 from (by unfold mco_c; (try dsimp only [pj_kd, pj_bl, pj_bh, pj_wt, pj_fs, pj_cd, pj_dk, pj_tk, pj_lc, pj_sz, pj_tg]); first | (rw [if_pos (by omega)]; done) | (rw [if_neg (by omega)]; done)))]; first | rfl | (rw [if_pos rfl]; unfold mco_r; dsimp only [pj_kd, pj_bl, pj_bh, pj_wt, pj_fs, pj_cd, pj_dk, pj_tk, pj_lc, pj_sz, pj_tg]; have h11 : mcn kd wt 12 1 0 0 = (a, b) := (by rw [h10, show 13 - k = 0 by omega]; rfl); rw [h11]; first | (rw [if_pos (by omega)]; done) | (rw [if_neg (by omega), if_pos (by omega)]; done) | (rw [if_neg (by omega), if_neg (by omega), if_pos (by omega)]; done) | (rw [if_neg (by omega), if_neg (by omega), if_neg (by omega)]; done)))), by rw [ht]; exact hP, hD, hS.F ht⟩) hS.2.2 d_Mo_count_119
            · skip
              refine lv_aload_n hx hb d_Mo_count_90 rfl (lv_at hl 0 rfl) ?_
              refine rdV ⟨hx, hb, hml, hown, hts⟩ hK hP (k_Mo_freeOnes l  ) w_902 m_Mo_freeOnes ⟨by decide, by decide⟩ 0 rfl rfl rfl hl.1 rfl (Nat.le_of_ble_eq_true rfl) d_Mo_count_91 ⟨Nat.zero_le _, Nat.zero_le _⟩ ?_
              refine lv_goto (tgt := 119) hx hb d_Mo_count_94 (by decide) ?_
              have e9 : wsM ct ad (nI 0) dk tk kd lc sz bh wt bl tg fs = wsM ct ad (nI (mco_c z)) dk tk kd lc sz bh wt bl tg fs := (by rw [(show mco_c z = 0 from (by unfold mco_c; (try dsimp only [pj_kd, pj_bl, pj_bh, pj_wt, pj_fs, pj_cd, pj_dk, pj_tk, pj_lc, pj_sz, pj_tg]); first | (rw [if_pos (by omega)]; done) | (rw [if_neg (by omega)]; done)))])
              rw [e9] at hP hD
              exact W.iret (v := nI (mf1 tk 128 0 0)) hx hb hr (fun t9 ht hW => ⟨congrArg (fun z => Outcome.returned (some (Value.int z))) (show nI (mf1 tk 128 0 0) = (if mco_c z = 0 then mco_r (cd, dk, tk, kd, lc, sz, bh, wt, bl, tg, fs) z else nI 0) from (by rw [(show mco_c z = 0 from (by unfold mco_c; (try dsimp only [pj_kd, pj_bl, pj_bh, pj_wt, pj_fs, pj_cd, pj_dk, pj_tk, pj_lc, pj_sz, pj_tg]); first | (rw [if_pos (by omega)]; done) | (rw [if_neg (by omega)]; done)))]; first | rfl | (rw [if_pos rfl]; unfold mco_r; dsimp only [pj_kd, pj_bl, pj_bh, pj_wt, pj_fs, pj_cd, pj_dk, pj_tk, pj_lc, pj_sz, pj_tg]; have h11 : mcn kd wt 12 1 0 0 = (a, b) := (by rw [h10, show 13 - k = 0 by omega]; rfl); rw [h11]; first | (rw [if_pos (by omega)]; done) | (rw [if_neg (by omega), if_pos (by omega)]; done) | (rw [if_neg (by omega), if_neg (by omega), if_pos (by omega)]; done) | (rw [if_neg (by omega), if_neg (by omega), if_neg (by omega)]; done)))), by rw [ht]; exact hP, hD, hS.F ht⟩) hS.2.2 d_Mo_count_119
          · skip
            refine lv_iload_n hx hb d_Mo_count_44 rfl (lv_at hl 2 rfl) ?_
            refine lv_aload_n hx hb d_Mo_count_45 rfl (lv_at hl 0 rfl) ?_
            refine va_get (D := D) (ci := 6) (v := .ref (ad 3)) (C := R_Mo) (T := T_Mo) (N := 11) hx hb hts u_Mo hown hK hP 0 rfl rfl 3 (by decide) (hts _ w_842) (fun _ h9 => h9) rfl d_Mo_count_46 ?_
            refine lv_iload hx hb d_Mo_count_49 (lv_at hl 4 rfl) ?_
            refine ln_iald hx hb hK hP 3 2 rfl rfl (by omega) (by decide) d_Mo_count_51 ?_
            refine lv_if_le (tgt := 59) hx hb d_Mo_count_52 (by decide) (fun c_8 => ?_) (fun c_8 => ?_)
            · skip
              refine lv_iconst (v := nI 0) hx hb d_Mo_count_59 (by decide) ?_
              refine ln_iadd hx hb d_Mo_count_60 ?_
              refine lv_istore_n (lv' := [(2, .int (nI (a + 0))), (0, .ref (ad 0)), (1, .int x_z), (3, .int (nI b)), (4, .int (nI k))]) hx hb d_Mo_count_61 rfl hl (by decide) rfl (fun ls hl => ?_)
              refine lv_iload_n hx hb d_Mo_count_62 rfl (lv_at hl 3 rfl) ?_
              refine lv_aload_n hx hb d_Mo_count_63 rfl (lv_at hl 1 rfl) ?_
              refine va_get (D := D) (ci := 6) (v := .ref (ad 7)) (C := R_Mo) (T := T_Mo) (N := 11) hx hb hts u_Mo hown hK hP 0 rfl rfl 7 (by decide) (hts _ w_846) (fun _ h9 => h9) rfl d_Mo_count_64 ?_
              refine lv_iload hx hb d_Mo_count_67 (lv_at hl 4 rfl) ?_
              refine ln_zald hx hb hK hP 7 1 rfl rfl (by omega) (by decide) d_Mo_count_69 ?_
              refine lv_if_eq (tgt := 77) hx hb d_Mo_count_70 (by decide) (fun c_9 => ?_) (fun c_9 => ?_)
              · skip
                refine lv_iconst (v := nI 0) hx hb d_Mo_count_77 (by decide) ?_
                refine ln_iadd hx hb d_Mo_count_78 ?_
                refine lv_istore_n (lv' := [(3, .int (nI (b + 0))), (2, .int (nI (a + 0))), (0, .ref (ad 0)), (1, .int x_z), (4, .int (nI k))]) hx hb d_Mo_count_79 rfl hl (by decide) rfl (fun ls hl => ?_)
                refine lv_iinc (v := nI (k + 1)) (lv' := [(4, .int (nI (k + 1))), (3, .int (nI (b + 0))), (2, .int (nI (a + 0))), (0, .ref (ad 0)), (1, .int x_z)]) hx hb d_Mo_count_80 hl (k := 4) rfl (ln_inc (by decide)) (by decide) rfl (fun ls hl => ?_)
                refine lv_goto (tgt := 37) hx hb d_Mo_count_83 (by decide) ?_
                exact ih (k + 1) (a + 0) (b + 0) (by omega) (by omega) (by rw [h10, show 13 - k = 13 - (k + 1) + 1 by omega, mcn]; first | (rw [if_pos (by assumption), if_pos (by assumption)]; done) | (rw [if_pos (by assumption), if_pos (by assumption)]; rfl) | (rw [if_pos (by assumption), if_neg (by assumption)]; done) | (rw [if_pos (by assumption), if_neg (by assumption)]; rfl) | (rw [if_neg (by assumption), if_pos (by assumption)]; done) | (rw [if_neg (by assumption), if_pos (by assumption)]; rfl) | (rw [if_neg (by assumption), if_neg (by assumption)]; done) | (rw [if_neg (by assumption), if_neg (by assumption)]; rfl)) _ _ hP hD hS ls (lv_sub hl [3, 4, 2, 1, 0] rfl)
              · skip
                refine lv_iconst (v := nI 1) hx hb d_Mo_count_73 (by decide) ?_
                refine lv_goto (tgt := 78) hx hb d_Mo_count_74 (by decide) ?_
                refine ln_iadd hx hb d_Mo_count_78 ?_
                refine lv_istore_n (lv' := [(3, .int (nI (b + 1))), (2, .int (nI (a + 0))), (0, .ref (ad 0)), (1, .int x_z), (4, .int (nI k))]) hx hb d_Mo_count_79 rfl hl (by decide) rfl (fun ls hl => ?_)
                refine lv_iinc (v := nI (k + 1)) (lv' := [(4, .int (nI (k + 1))), (3, .int (nI (b + 1))), (2, .int (nI (a + 0))), (0, .ref (ad 0)), (1, .int x_z)]) hx hb d_Mo_count_80 hl (k := 4) rfl (ln_inc (by decide)) (by decide) rfl (fun ls hl => ?_)
                refine lv_goto (tgt := 37) hx hb d_Mo_count_83 (by decide) ?_
                exact ih (k + 1) (a + 0) (b + 1) (by omega) (by omega) (by rw [h10, show 13 - k = 13 - (k + 1) + 1 by omega, mcn]; first | (rw [if_pos (by assumption), if_pos (by assumption)]; done) | (rw [if_pos (by assumption), if_pos (by assumption)]; rfl) | (rw [if_pos (by assumption), if_neg (by assumption)]; done) | (rw [if_pos (by assumption), if_neg (by assumption)]; rfl) | (rw [if_neg (by assumption), if_pos (by assumption)]; done) | (rw [if_neg (by assumption), if_pos (by assumption)]; rfl) | (rw [if_neg (by assumption), if_neg (by assumption)]; done) | (rw [if_neg (by assumption), if_neg (by assumption)]; rfl)) _ _ hP hD hS ls (lv_sub hl [3, 4, 2, 1, 0] rfl)
            · skip
              refine lv_iconst (v := nI 1) hx hb d_Mo_count_55 (by decide) ?_
              refine lv_goto (tgt := 60) hx hb d_Mo_count_56 (by decide) ?_
              refine ln_iadd hx hb d_Mo_count_60 ?_
              refine lv_istore_n (lv' := [(2, .int (nI (a + 1))), (0, .ref (ad 0)), (1, .int x_z), (3, .int (nI b)), (4, .int (nI k))]) hx hb d_Mo_count_61 rfl hl (by decide) rfl (fun ls hl => ?_)
              refine lv_iload_n hx hb d_Mo_count_62 rfl (lv_at hl 3 rfl) ?_
              refine lv_aload_n hx hb d_Mo_count_63 rfl (lv_at hl 1 rfl) ?_
              refine va_get (D := D) (ci := 6) (v := .ref (ad 7)) (C := R_Mo) (T := T_Mo) (N := 11) hx hb hts u_Mo hown hK hP 0 rfl rfl 7 (by decide) (hts _ w_846) (fun _ h9 => h9) rfl d_Mo_count_64 ?_
              refine lv_iload hx hb d_Mo_count_67 (lv_at hl 4 rfl) ?_
              refine ln_zald hx hb hK hP 7 1 rfl rfl (by omega) (by decide) d_Mo_count_69 ?_
              refine lv_if_eq (tgt := 77) hx hb d_Mo_count_70 (by decide) (fun c_10 => ?_) (fun c_10 => ?_)
              · skip
                refine lv_iconst (v := nI 0) hx hb d_Mo_count_77 (by decide) ?_
                refine ln_iadd hx hb d_Mo_count_78 ?_
                refine lv_istore_n (lv' := [(3, .int (nI (b + 0))), (2, .int (nI (a + 1))), (0, .ref (ad 0)), (1, .int x_z), (4, .int (nI k))]) hx hb d_Mo_count_79 rfl hl (by decide) rfl (fun ls hl => ?_)
                refine lv_iinc (v := nI (k + 1)) (lv' := [(4, .int (nI (k + 1))), (3, .int (nI (b + 0))), (2, .int (nI (a + 1))), (0, .ref (ad 0)), (1, .int x_z)]) hx hb d_Mo_count_80 hl (k := 4) rfl (ln_inc (by decide)) (by decide) rfl (fun ls hl => ?_)
                refine lv_goto (tgt := 37) hx hb d_Mo_count_83 (by decide) ?_
                exact ih (k + 1) (a + 1) (b + 0) (by omega) (by omega) (by rw [h10, show 13 - k = 13 - (k + 1) + 1 by omega, mcn]; first | (rw [if_pos (by assumption), if_pos (by assumption)]; done) | (rw [if_pos (by assumption), if_pos (by assumption)]; rfl) | (rw [if_pos (by assumption), if_neg (by assumption)]; done) | (rw [if_pos (by assumption), if_neg (by assumption)]; rfl) | (rw [if_neg (by assumption), if_pos (by assumption)]; done) | (rw [if_neg (by assumption), if_pos (by assumption)]; rfl) | (rw [if_neg (by assumption), if_neg (by assumption)]; done) | (rw [if_neg (by assumption), if_neg (by assumption)]; rfl)) _ _ hP hD hS ls (lv_sub hl [3, 4, 2, 1, 0] rfl)
              · skip
                refine lv_iconst (v := nI 1) hx hb d_Mo_count_73 (by decide) ?_
                refine lv_goto (tgt := 78) hx hb d_Mo_count_74 (by decide) ?_
                refine ln_iadd hx hb d_Mo_count_78 ?_
                refine lv_istore_n (lv' := [(3, .int (nI (b + 1))), (2, .int (nI (a + 1))), (0, .ref (ad 0)), (1, .int x_z), (4, .int (nI k))]) hx hb d_Mo_count_79 rfl hl (by decide) rfl (fun ls hl => ?_)
                refine lv_iinc (v := nI (k + 1)) (lv' := [(4, .int (nI (k + 1))), (3, .int (nI (b + 1))), (2, .int (nI (a + 1))), (0, .ref (ad 0)), (1, .int x_z)]) hx hb d_Mo_count_80 hl (k := 4) rfl (ln_inc (by decide)) (by decide) rfl (fun ls hl => ?_)
                refine lv_goto (tgt := 37) hx hb d_Mo_count_83 (by decide) ?_
                exact ih (k + 1) (a + 1) (b + 1) (by omega) (by omega) (by rw [h10, show 13 - k = 13 - (k + 1) + 1 by omega, mcn]; first | (rw [if_pos (by assumption), if_pos (by assumption)]; done) | (rw [if_pos (by assumption), if_pos (by assumption)]; rfl) | (rw [if_pos (by assumption), if_neg (by assumption)]; done) | (rw [if_pos (by assumption), if_neg (by assumption)]; rfl) | (rw [if_neg (by assumption), if_pos (by assumption)]; done) | (rw [if_neg (by assumption), if_pos (by assumption)]; rfl) | (rw [if_neg (by assumption), if_neg (by assumption)]; done) | (rw [if_neg (by assumption), if_neg (by assumption)]; rfl)) _ _ hP hD hS ls (lv_sub hl [3, 4, 2, 1, 0] rfl)
      exact loop37 13 1 0 0 (by omega) (by omega) rfl _ _ hP hD hS ls (lv_sub hl [3, 4, 2, 1, 0] rfl)
    · exact absurd c_3 (by omega)
theorem m_Mo_recordByte : mV R_Mo y_Mo_recordByte (Cond.code y_Mo_recordByte c_Mo_recordByte 5 (some .int)) 2 := ⟨⟨w_1001, wp_27, w_7, w_1002⟩, by decide +kernel⟩
set_option maxHeartbeats 4000000 in
set_option maxRecDepth 100000 in
theorem k_Mo_recordByte (l : Launch) {D : va_G} {ct : Nat → ClassId} {ad : Nat → Nat} {cd : Int32} {dk : Nat → Int32} {tk kd lc sz bh wt : Nat → Int32} {bl : Nat → Nat} {tg : Nat → Int32} {fs : Int32} {f : Nat} {i : Nat} (h0 : bOK bl) (h1 : f ≤ 12) (h2 : i < 256) : Met l y_Mo_recordByte (Cond.code y_Mo_recordByte c_Mo_recordByte 5 (some .int) :: wA) (rmk 3 0 0) (va_Pc [.ref (ad 0), .int (nI f), .int (nI i)] (cR D (tyM ct) (wsM ct ad cd dk tk kd lc sz bh wt bl tg fs))) (QcRead (mrec (cd, dk, tk, kd, lc, sz, bh, wt, bl, tg, fs) f i)) 0 0 (fun _ => False) := by
  refine Met.ofW (cc := c_Mo_recordByte) (maxL := 5) (ret := (some .int)) (by decide +kernel) rfl ?_
  intro p e s m args below meth c s₁ B0 hml hv
  obtain ⟨rfl, hP, hK⟩ := hv
  have hx := B0.exec
  have hb := B0.bytes
  have hr := B0.returns
  have hts := fun w (h : w ∈ wA) => atoms_spec (ws := Cond.code y_Mo_recordByte c_Mo_recordByte 5 (some .int) :: wA) B0.pre w (List.mem_cons_of_mem _ h)
  have hown : s.vm.findClass R_Mo = some m.cls := findClass_of_methodNamed B0.named
  have hlocks := B0.notSynchronized
  have hl := lv_entry ([.ref (ad 0), .int (nI f), .int (nI i)]) (n := 5) (Nat.le_of_ble_eq_true rfl)
  rw [lg_entry_eq]
  generalize (lg_sl ([.ref (ad 0), .int (nI f), .int (nI i)]) ++ List.replicate (5 - (lg_sl ([.ref (ad 0), .int (nI f), .int (nI i)])).length) Slot.unset).toArray = ls at hl ⊢
  have hl : lv_has ls 5 [(0, .ref (ad 0)), (1, .int (nI f)), (2, .int (nI i))] := hl
  have hbl := h0
  refine lv_aload_n hx hb d_Mo_recordByte_0 rfl (lv_at hl 0 rfl) ?_
  refine va_get (D := D) (ci := 6) (v := .ref (ad 3)) (C := R_Mo) (T := T_Mo) (N := 11) hx hb hts u_Mo hown hK hP 0 rfl rfl 3 (by decide) (hts _ w_842) (fun _ h9 => h9) rfl d_Mo_recordByte_1 ?_
  refine lv_iload_n hx hb d_Mo_recordByte_4 rfl (lv_at hl 1 rfl) ?_
  refine ln_iald hx hb hK hP 3 2 rfl rfl (by omega) (by decide) d_Mo_recordByte_5 ?_
  refine lv_if_ne (tgt := 11) hx hb d_Mo_recordByte_6 (by decide) (fun c_1 => ?_) (fun c_1 => ?_)
  · skip
    refine lv_iload_n hx hb d_Mo_recordByte_11 rfl (lv_at hl 2 rfl) ?_
    refine lv_bipush (v := nI 40) hx hb d_Mo_recordByte_12 (by decide) ?_
    refine ln_icmp_lt (tgt := 114) hx hb (by omega) (by omega) d_Mo_recordByte_14 (by decide) (fun c_2 => ?_) (fun c_2 => ?_)
    · skip
      refine lv_aload_n hx hb d_Mo_recordByte_114 rfl (lv_at hl 0 rfl) ?_
      refine va_get (D := D) (ci := 6) (v := .ref (ad 3)) (C := R_Mo) (T := T_Mo) (N := 11) hx hb hts u_Mo hown hK hP 0 rfl rfl 3 (by decide) (hts _ w_842) (fun _ h9 => h9) rfl d_Mo_recordByte_115 ?_
      refine lv_iload_n hx hb d_Mo_recordByte_118 rfl (lv_at hl 1 rfl) ?_
      refine ln_iald hx hb hK hP 3 2 rfl rfl (by omega) (by decide) d_Mo_recordByte_119 ?_
      refine lv_iconst (v := nI 1) hx hb d_Mo_recordByte_120 (by decide) ?_
      refine lv_icmp_ne (tgt := 129) hx hb d_Mo_recordByte_121 (by decide) (fun c_3 => ?_) (fun c_3 => ?_)
      · skip
        refine lv_ldc (v := nI 40960) hx hb hown (hts _ w_1004) d_Mo_recordByte_129 ?_
        refine lv_iload_n hx hb d_Mo_recordByte_131 rfl (lv_at hl 2 rfl) ?_
        refine lv_iconst (v := nI 2) hx hb d_Mo_recordByte_132 (by decide) ?_
        refine rdS ⟨hx, hb, hml, hown, hts⟩ hK hP (k_Mo_part l (v := (nI 40960)) (z := ((i : Nat) : Int)) (x_z := (nI i)) (n := ((2 : Nat) : Int)) (x_n := (nI 2)) (nI_toInt (by omega)) (nI_toInt (by omega)) ) w_996 m_Mo_part ⟨by decide, by decide⟩ rfl hl.1 rfl (Nat.le_of_ble_eq_true rfl) d_Mo_recordByte_133 ⟨Nat.zero_le _, Nat.zero_le _⟩ ?_
        refine lv_aload_n hx hb d_Mo_recordByte_136 rfl (lv_at hl 0 rfl) ?_
        refine va_get (D := D) (ci := 6) (v := .ref (ad 5)) (C := R_Mo) (T := T_Mo) (N := 11) hx hb hts u_Mo hown hK hP 0 rfl rfl 5 (by decide) (hts _ w_844) (fun _ h9 => h9) rfl d_Mo_recordByte_137 ?_
        refine lv_iload_n hx hb d_Mo_recordByte_140 rfl (lv_at hl 1 rfl) ?_
        refine ln_iald hx hb hK hP 5 2 rfl rfl (by omega) (by decide) d_Mo_recordByte_141 ?_
        refine lv_iload_n hx hb d_Mo_recordByte_142 rfl (lv_at hl 2 rfl) ?_
        refine lv_iconst (v := nI 4) hx hb d_Mo_recordByte_143 (by decide) ?_
        refine lv_isub hx hb d_Mo_recordByte_144 ?_
        have z_4 : ((nI i) - (nI 4)).toInt = ((i : Nat) : Int) - ((4 : Nat) : Int) := z_sub (nI_toInt (by omega)) (nI_toInt (by omega)) (by omega) (by omega)
        refine lv_iconst (v := nI 4) hx hb d_Mo_recordByte_145 (by decide) ?_
        refine rdS ⟨hx, hb, hml, hown, hts⟩ hK hP (k_Mo_part l (v := (sz f)) (z := (((i : Nat) : Int) - ((4 : Nat) : Int))) (x_z := ((nI i) - (nI 4))) (n := ((4 : Nat) : Int)) (x_n := (nI 4)) z_4 (nI_toInt (by omega)) ) w_996 m_Mo_part ⟨by decide, by decide⟩ rfl hl.1 rfl (Nat.le_of_ble_eq_true rfl) d_Mo_recordByte_146 ⟨Nat.zero_le _, Nat.zero_le _⟩ ?_
        refine lv_iadd hx hb d_Mo_recordByte_149 ?_
        refine lv_aload_n hx hb d_Mo_recordByte_150 rfl (lv_at hl 0 rfl) ?_
        refine va_get (D := D) (ci := 6) (v := .ref (ad 6)) (C := R_Mo) (T := T_Mo) (N := 11) hx hb hts u_Mo hown hK hP 0 rfl rfl 6 (by decide) (hts _ w_845) (fun _ h9 => h9) rfl d_Mo_recordByte_151 ?_
        refine lv_iload_n hx hb d_Mo_recordByte_154 rfl (lv_at hl 1 rfl) ?_
        refine ln_iald hx hb hK hP 6 2 rfl rfl (by omega) (by decide) d_Mo_recordByte_155 ?_
        refine lv_iload_n hx hb d_Mo_recordByte_156 rfl (lv_at hl 2 rfl) ?_
        refine lv_bipush (v := nI 20) hx hb d_Mo_recordByte_157 (by decide) ?_
        refine lv_isub hx hb d_Mo_recordByte_159 ?_
        have z_5 : ((nI i) - (nI 20)).toInt = ((i : Nat) : Int) - ((20 : Nat) : Int) := z_sub (nI_toInt (by omega)) (nI_toInt (by omega)) (by omega) (by omega)
        refine lv_iconst (v := nI 4) hx hb d_Mo_recordByte_160 (by decide) ?_
        refine rdS ⟨hx, hb, hml, hown, hts⟩ hK hP (k_Mo_part l (v := (bh f)) (z := (((i : Nat) : Int) - ((20 : Nat) : Int))) (x_z := ((nI i) - (nI 20))) (n := ((4 : Nat) : Int)) (x_n := (nI 4)) z_5 (nI_toInt (by omega)) ) w_996 m_Mo_part ⟨by decide, by decide⟩ rfl hl.1 rfl (Nat.le_of_ble_eq_true rfl) d_Mo_recordByte_161 ⟨Nat.zero_le _, Nat.zero_le _⟩ ?_
        refine lv_iadd hx hb d_Mo_recordByte_164 ?_
        refine lv_aload_n hx hb d_Mo_recordByte_165 rfl (lv_at hl 0 rfl) ?_
        refine va_get (D := D) (ci := 6) (v := .ref (ad 4)) (C := R_Mo) (T := T_Mo) (N := 11) hx hb hts u_Mo hown hK hP 0 rfl rfl 4 (by decide) (hts _ w_843) (fun _ h9 => h9) rfl d_Mo_recordByte_166 ?_
        refine lv_iload_n hx hb d_Mo_recordByte_169 rfl (lv_at hl 1 rfl) ?_
        refine ln_iald hx hb hK hP 4 2 rfl rfl (by omega) (by decide) d_Mo_recordByte_170 ?_
        refine lv_iload_n hx hb d_Mo_recordByte_171 rfl (lv_at hl 2 rfl) ?_
        refine lv_bipush (v := nI 26) hx hb d_Mo_recordByte_172 (by decide) ?_
        refine lv_isub hx hb d_Mo_recordByte_174 ?_
        have z_6 : ((nI i) - (nI 26)).toInt = ((i : Nat) : Int) - ((26 : Nat) : Int) := z_sub (nI_toInt (by omega)) (nI_toInt (by omega)) (by omega) (by omega)
        refine lv_iconst (v := nI 2) hx hb d_Mo_recordByte_175 (by decide) ?_
        refine rdS ⟨hx, hb, hml, hown, hts⟩ hK hP (k_Mo_part l (v := (lc f)) (z := (((i : Nat) : Int) - ((26 : Nat) : Int))) (x_z := ((nI i) - (nI 26))) (n := ((2 : Nat) : Int)) (x_n := (nI 2)) z_6 (nI_toInt (by omega)) ) w_996 m_Mo_part ⟨by decide, by decide⟩ rfl hl.1 rfl (Nat.le_of_ble_eq_true rfl) d_Mo_recordByte_176 ⟨Nat.zero_le _, Nat.zero_le _⟩ ?_
        refine lv_iadd hx hb d_Mo_recordByte_179 ?_
        refine lv_iconst (v := nI 2) hx hb d_Mo_recordByte_180 (by decide) ?_
        refine lv_aload_n hx hb d_Mo_recordByte_181 rfl (lv_at hl 0 rfl) ?_
        refine lv_iload_n hx hb d_Mo_recordByte_182 rfl (lv_at hl 1 rfl) ?_
        refine rdV ⟨hx, hb, hml, hown, hts⟩ hK hP (k_Mo_blocksOf l (f := f) hbl (by omega)) w_968 m_Mo_blocksOf ⟨by decide, by decide⟩ 0 rfl rfl rfl hl.1 rfl (Nat.le_of_ble_eq_true rfl) d_Mo_recordByte_183 ⟨Nat.zero_le _, Nat.zero_le _⟩ ?_
        refine ln_imul hx hb d_Mo_recordByte_186 ?_
        refine lv_iload_n hx hb d_Mo_recordByte_187 rfl (lv_at hl 2 rfl) ?_
        refine lv_bipush (v := nI 28) hx hb d_Mo_recordByte_188 (by decide) ?_
        refine lv_isub hx hb d_Mo_recordByte_190 ?_
        have z_7 : ((nI i) - (nI 28)).toInt = ((i : Nat) : Int) - ((28 : Nat) : Int) := z_sub (nI_toInt (by omega)) (nI_toInt (by omega)) (by omega) (by omega)
        refine lv_iconst (v := nI 4) hx hb d_Mo_recordByte_191 (by decide) ?_
        refine rdS ⟨hx, hb, hml, hown, hts⟩ hK hP (k_Mo_part l (v := (nI (2 * (mbo bl f 15 0 0)))) (z := (((i : Nat) : Int) - ((28 : Nat) : Int))) (x_z := ((nI i) - (nI 28))) (n := ((4 : Nat) : Int)) (x_n := (nI 4)) z_7 (nI_toInt (by omega)) ) w_996 m_Mo_part ⟨by decide, by decide⟩ rfl hl.1 rfl (Nat.le_of_ble_eq_true rfl) d_Mo_recordByte_192 ⟨Nat.zero_le _, Nat.zero_le _⟩ ?_
        refine lv_iadd hx hb d_Mo_recordByte_195 ?_
        exact W.iret (v := ((((mpt (nI 40960) ((i : Nat) : Int) ((2 : Nat) : Int)) + (mpt (sz f) (((i : Nat) : Int) - ((4 : Nat) : Int)) ((4 : Nat) : Int))) + (mpt (bh f) (((i : Nat) : Int) - ((20 : Nat) : Int)) ((4 : Nat) : Int))) + (mpt (lc f) (((i : Nat) : Int) - ((26 : Nat) : Int)) ((2 : Nat) : Int))) + (mpt (nI (2 * (mbo bl f 15 0 0))) (((i : Nat) : Int) - ((28 : Nat) : Int)) ((4 : Nat) : Int))) hx hb hr (fun t9 ht hW => ⟨congrArg (fun z => Outcome.returned (some (Value.int z))) (show ((((mpt (nI 40960) ((i : Nat) : Int) ((2 : Nat) : Int)) + (mpt (sz f) (((i : Nat) : Int) - ((4 : Nat) : Int)) ((4 : Nat) : Int))) + (mpt (bh f) (((i : Nat) : Int) - ((20 : Nat) : Int)) ((4 : Nat) : Int))) + (mpt (lc f) (((i : Nat) : Int) - ((26 : Nat) : Int)) ((2 : Nat) : Int))) + (mpt (nI (2 * (mbo bl f 15 0 0))) (((i : Nat) : Int) - ((28 : Nat) : Int)) ((4 : Nat) : Int)) = (mrec (cd, dk, tk, kd, lc, sz, bh, wt, bl, tg, fs) f i) from (by unfold mrec; dsimp only [pj_kd, pj_bl, pj_bh, pj_wt, pj_fs, pj_cd, pj_dk, pj_tk, pj_lc, pj_sz, pj_tg]; first | (rw [if_pos (by assumption)]; done) | (rw [if_neg (by assumption), if_pos (by omega)]; first | (rw [if_pos ⟨by assumption, by assumption⟩]; first | (rw [if_pos (by assumption)]; done) | (rw [if_pos (by assumption)]; rfl) | (rw [if_neg (by assumption)]; done) | (rw [if_neg (by assumption)]; rfl)) | (rw [if_neg (fun q => absurd q.1 (by assumption))]; done) | (rw [if_neg (fun q => q.2 (by assumption))]; done)) | (rw [if_neg (by assumption), if_neg (by omega)]; first | (rw [if_pos (by assumption)]; done) | (rw [if_pos (by assumption)]; rfl) | (rw [if_neg (by assumption)]; done) | (rw [if_neg (by assumption)]; rfl)))), ht⟩) (fun q h => nomatch h) d_Mo_recordByte_196
      · skip
        refine lv_ldc (v := nI 32768) hx hb hown (hts _ w_1003) d_Mo_recordByte_124 ?_
        refine lv_goto (tgt := 131) hx hb d_Mo_recordByte_126 (by decide) ?_
        refine lv_iload_n hx hb d_Mo_recordByte_131 rfl (lv_at hl 2 rfl) ?_
        refine lv_iconst (v := nI 2) hx hb d_Mo_recordByte_132 (by decide) ?_
        refine rdS ⟨hx, hb, hml, hown, hts⟩ hK hP (k_Mo_part l (v := (nI 32768)) (z := ((i : Nat) : Int)) (x_z := (nI i)) (n := ((2 : Nat) : Int)) (x_n := (nI 2)) (nI_toInt (by omega)) (nI_toInt (by omega)) ) w_996 m_Mo_part ⟨by decide, by decide⟩ rfl hl.1 rfl (Nat.le_of_ble_eq_true rfl) d_Mo_recordByte_133 ⟨Nat.zero_le _, Nat.zero_le _⟩ ?_
        refine lv_aload_n hx hb d_Mo_recordByte_136 rfl (lv_at hl 0 rfl) ?_
        refine va_get (D := D) (ci := 6) (v := .ref (ad 5)) (C := R_Mo) (T := T_Mo) (N := 11) hx hb hts u_Mo hown hK hP 0 rfl rfl 5 (by decide) (hts _ w_844) (fun _ h9 => h9) rfl d_Mo_recordByte_137 ?_
        refine lv_iload_n hx hb d_Mo_recordByte_140 rfl (lv_at hl 1 rfl) ?_
        refine ln_iald hx hb hK hP 5 2 rfl rfl (by omega) (by decide) d_Mo_recordByte_141 ?_
        refine lv_iload_n hx hb d_Mo_recordByte_142 rfl (lv_at hl 2 rfl) ?_
        refine lv_iconst (v := nI 4) hx hb d_Mo_recordByte_143 (by decide) ?_
        refine lv_isub hx hb d_Mo_recordByte_144 ?_
        have z_8 : ((nI i) - (nI 4)).toInt = ((i : Nat) : Int) - ((4 : Nat) : Int) := z_sub (nI_toInt (by omega)) (nI_toInt (by omega)) (by omega) (by omega)
        refine lv_iconst (v := nI 4) hx hb d_Mo_recordByte_145 (by decide) ?_
        refine rdS ⟨hx, hb, hml, hown, hts⟩ hK hP (k_Mo_part l (v := (sz f)) (z := (((i : Nat) : Int) - ((4 : Nat) : Int))) (x_z := ((nI i) - (nI 4))) (n := ((4 : Nat) : Int)) (x_n := (nI 4)) z_8 (nI_toInt (by omega)) ) w_996 m_Mo_part ⟨by decide, by decide⟩ rfl hl.1 rfl (Nat.le_of_ble_eq_true rfl) d_Mo_recordByte_146 ⟨Nat.zero_le _, Nat.zero_le _⟩ ?_
        refine lv_iadd hx hb d_Mo_recordByte_149 ?_
        refine lv_aload_n hx hb d_Mo_recordByte_150 rfl (lv_at hl 0 rfl) ?_
        refine va_get (D := D) (ci := 6) (v := .ref (ad 6)) (C := R_Mo) (T := T_Mo) (N := 11) hx hb hts u_Mo hown hK hP 0 rfl rfl 6 (by decide) (hts _ w_845) (fun _ h9 => h9) rfl d_Mo_recordByte_151 ?_
        refine lv_iload_n hx hb d_Mo_recordByte_154 rfl (lv_at hl 1 rfl) ?_
        refine ln_iald hx hb hK hP 6 2 rfl rfl (by omega) (by decide) d_Mo_recordByte_155 ?_
        refine lv_iload_n hx hb d_Mo_recordByte_156 rfl (lv_at hl 2 rfl) ?_
        refine lv_bipush (v := nI 20) hx hb d_Mo_recordByte_157 (by decide) ?_
        refine lv_isub hx hb d_Mo_recordByte_159 ?_
        have z_9 : ((nI i) - (nI 20)).toInt = ((i : Nat) : Int) - ((20 : Nat) : Int) := z_sub (nI_toInt (by omega)) (nI_toInt (by omega)) (by omega) (by omega)
        refine lv_iconst (v := nI 4) hx hb d_Mo_recordByte_160 (by decide) ?_
        refine rdS ⟨hx, hb, hml, hown, hts⟩ hK hP (k_Mo_part l (v := (bh f)) (z := (((i : Nat) : Int) - ((20 : Nat) : Int))) (x_z := ((nI i) - (nI 20))) (n := ((4 : Nat) : Int)) (x_n := (nI 4)) z_9 (nI_toInt (by omega)) ) w_996 m_Mo_part ⟨by decide, by decide⟩ rfl hl.1 rfl (Nat.le_of_ble_eq_true rfl) d_Mo_recordByte_161 ⟨Nat.zero_le _, Nat.zero_le _⟩ ?_
        refine lv_iadd hx hb d_Mo_recordByte_164 ?_
        refine lv_aload_n hx hb d_Mo_recordByte_165 rfl (lv_at hl 0 rfl) ?_
        refine va_get (D := D) (ci := 6) (v := .ref (ad 4)) (C := R_Mo) (T := T_Mo) (N := 11) hx hb hts u_Mo hown hK hP 0 rfl rfl 4 (by decide) (hts _ w_843) (fun _ h9 => h9) rfl d_Mo_recordByte_166 ?_
        refine lv_iload_n hx hb d_Mo_recordByte_169 rfl (lv_at hl 1 rfl) ?_
        refine ln_iald hx hb hK hP 4 2 rfl rfl (by omega) (by decide) d_Mo_recordByte_170 ?_
        refine lv_iload_n hx hb d_Mo_recordByte_171 rfl (lv_at hl 2 rfl) ?_
        refine lv_bipush (v := nI 26) hx hb d_Mo_recordByte_172 (by decide) ?_
        refine lv_isub hx hb d_Mo_recordByte_174 ?_
        have z_10 : ((nI i) - (nI 26)).toInt = ((i : Nat) : Int) - ((26 : Nat) : Int) := z_sub (nI_toInt (by omega)) (nI_toInt (by omega)) (by omega) (by omega)
        refine lv_iconst (v := nI 2) hx hb d_Mo_recordByte_175 (by decide) ?_
        refine rdS ⟨hx, hb, hml, hown, hts⟩ hK hP (k_Mo_part l (v := (lc f)) (z := (((i : Nat) : Int) - ((26 : Nat) : Int))) (x_z := ((nI i) - (nI 26))) (n := ((2 : Nat) : Int)) (x_n := (nI 2)) z_10 (nI_toInt (by omega)) ) w_996 m_Mo_part ⟨by decide, by decide⟩ rfl hl.1 rfl (Nat.le_of_ble_eq_true rfl) d_Mo_recordByte_176 ⟨Nat.zero_le _, Nat.zero_le _⟩ ?_
        refine lv_iadd hx hb d_Mo_recordByte_179 ?_
        refine lv_iconst (v := nI 2) hx hb d_Mo_recordByte_180 (by decide) ?_
        refine lv_aload_n hx hb d_Mo_recordByte_181 rfl (lv_at hl 0 rfl) ?_
        refine lv_iload_n hx hb d_Mo_recordByte_182 rfl (lv_at hl 1 rfl) ?_
        refine rdV ⟨hx, hb, hml, hown, hts⟩ hK hP (k_Mo_blocksOf l (f := f) hbl (by omega)) w_968 m_Mo_blocksOf ⟨by decide, by decide⟩ 0 rfl rfl rfl hl.1 rfl (Nat.le_of_ble_eq_true rfl) d_Mo_recordByte_183 ⟨Nat.zero_le _, Nat.zero_le _⟩ ?_
        refine ln_imul hx hb d_Mo_recordByte_186 ?_
        refine lv_iload_n hx hb d_Mo_recordByte_187 rfl (lv_at hl 2 rfl) ?_
        refine lv_bipush (v := nI 28) hx hb d_Mo_recordByte_188 (by decide) ?_
        refine lv_isub hx hb d_Mo_recordByte_190 ?_
        have z_11 : ((nI i) - (nI 28)).toInt = ((i : Nat) : Int) - ((28 : Nat) : Int) := z_sub (nI_toInt (by omega)) (nI_toInt (by omega)) (by omega) (by omega)
        refine lv_iconst (v := nI 4) hx hb d_Mo_recordByte_191 (by decide) ?_
        refine rdS ⟨hx, hb, hml, hown, hts⟩ hK hP (k_Mo_part l (v := (nI (2 * (mbo bl f 15 0 0)))) (z := (((i : Nat) : Int) - ((28 : Nat) : Int))) (x_z := ((nI i) - (nI 28))) (n := ((4 : Nat) : Int)) (x_n := (nI 4)) z_11 (nI_toInt (by omega)) ) w_996 m_Mo_part ⟨by decide, by decide⟩ rfl hl.1 rfl (Nat.le_of_ble_eq_true rfl) d_Mo_recordByte_192 ⟨Nat.zero_le _, Nat.zero_le _⟩ ?_
        refine lv_iadd hx hb d_Mo_recordByte_195 ?_
        exact W.iret (v := ((((mpt (nI 32768) ((i : Nat) : Int) ((2 : Nat) : Int)) + (mpt (sz f) (((i : Nat) : Int) - ((4 : Nat) : Int)) ((4 : Nat) : Int))) + (mpt (bh f) (((i : Nat) : Int) - ((20 : Nat) : Int)) ((4 : Nat) : Int))) + (mpt (lc f) (((i : Nat) : Int) - ((26 : Nat) : Int)) ((2 : Nat) : Int))) + (mpt (nI (2 * (mbo bl f 15 0 0))) (((i : Nat) : Int) - ((28 : Nat) : Int)) ((4 : Nat) : Int))) hx hb hr (fun t9 ht hW => ⟨congrArg (fun z => Outcome.returned (some (Value.int z))) (show ((((mpt (nI 32768) ((i : Nat) : Int) ((2 : Nat) : Int)) + (mpt (sz f) (((i : Nat) : Int) - ((4 : Nat) : Int)) ((4 : Nat) : Int))) + (mpt (bh f) (((i : Nat) : Int) - ((20 : Nat) : Int)) ((4 : Nat) : Int))) + (mpt (lc f) (((i : Nat) : Int) - ((26 : Nat) : Int)) ((2 : Nat) : Int))) + (mpt (nI (2 * (mbo bl f 15 0 0))) (((i : Nat) : Int) - ((28 : Nat) : Int)) ((4 : Nat) : Int)) = (mrec (cd, dk, tk, kd, lc, sz, bh, wt, bl, tg, fs) f i) from (by unfold mrec; dsimp only [pj_kd, pj_bl, pj_bh, pj_wt, pj_fs, pj_cd, pj_dk, pj_tk, pj_lc, pj_sz, pj_tg]; first | (rw [if_pos (by assumption)]; done) | (rw [if_neg (by assumption), if_pos (by omega)]; first | (rw [if_pos ⟨by assumption, by assumption⟩]; first | (rw [if_pos (by assumption)]; done) | (rw [if_pos (by assumption)]; rfl) | (rw [if_neg (by assumption)]; done) | (rw [if_neg (by assumption)]; rfl)) | (rw [if_neg (fun q => absurd q.1 (by assumption))]; done) | (rw [if_neg (fun q => q.2 (by assumption))]; done)) | (rw [if_neg (by assumption), if_neg (by omega)]; first | (rw [if_pos (by assumption)]; done) | (rw [if_pos (by assumption)]; rfl) | (rw [if_neg (by assumption)]; done) | (rw [if_neg (by assumption)]; rfl)))), ht⟩) (fun q h => nomatch h) d_Mo_recordByte_196
    · skip
      refine lv_iload_n hx hb d_Mo_recordByte_17 rfl (lv_at hl 2 rfl) ?_
      refine lv_bipush (v := nI 100) hx hb d_Mo_recordByte_18 (by decide) ?_
      refine ln_icmp_ge (tgt := 114) hx hb (by omega) (by omega) d_Mo_recordByte_20 (by decide) (fun c_12 => ?_) (fun c_12 => ?_)
      · skip
        refine lv_aload_n hx hb d_Mo_recordByte_114 rfl (lv_at hl 0 rfl) ?_
        refine va_get (D := D) (ci := 6) (v := .ref (ad 3)) (C := R_Mo) (T := T_Mo) (N := 11) hx hb hts u_Mo hown hK hP 0 rfl rfl 3 (by decide) (hts _ w_842) (fun _ h9 => h9) rfl d_Mo_recordByte_115 ?_
        refine lv_iload_n hx hb d_Mo_recordByte_118 rfl (lv_at hl 1 rfl) ?_
        refine ln_iald hx hb hK hP 3 2 rfl rfl (by omega) (by decide) d_Mo_recordByte_119 ?_
        refine lv_iconst (v := nI 1) hx hb d_Mo_recordByte_120 (by decide) ?_
        refine lv_icmp_ne (tgt := 129) hx hb d_Mo_recordByte_121 (by decide) (fun c_13 => ?_) (fun c_13 => ?_)
        · skip
          refine lv_ldc (v := nI 40960) hx hb hown (hts _ w_1004) d_Mo_recordByte_129 ?_
          refine lv_iload_n hx hb d_Mo_recordByte_131 rfl (lv_at hl 2 rfl) ?_
          refine lv_iconst (v := nI 2) hx hb d_Mo_recordByte_132 (by decide) ?_
          refine rdS ⟨hx, hb, hml, hown, hts⟩ hK hP (k_Mo_part l (v := (nI 40960)) (z := ((i : Nat) : Int)) (x_z := (nI i)) (n := ((2 : Nat) : Int)) (x_n := (nI 2)) (nI_toInt (by omega)) (nI_toInt (by omega)) ) w_996 m_Mo_part ⟨by decide, by decide⟩ rfl hl.1 rfl (Nat.le_of_ble_eq_true rfl) d_Mo_recordByte_133 ⟨Nat.zero_le _, Nat.zero_le _⟩ ?_
          refine lv_aload_n hx hb d_Mo_recordByte_136 rfl (lv_at hl 0 rfl) ?_
          refine va_get (D := D) (ci := 6) (v := .ref (ad 5)) (C := R_Mo) (T := T_Mo) (N := 11) hx hb hts u_Mo hown hK hP 0 rfl rfl 5 (by decide) (hts _ w_844) (fun _ h9 => h9) rfl d_Mo_recordByte_137 ?_
          refine lv_iload_n hx hb d_Mo_recordByte_140 rfl (lv_at hl 1 rfl) ?_
          refine ln_iald hx hb hK hP 5 2 rfl rfl (by omega) (by decide) d_Mo_recordByte_141 ?_
          refine lv_iload_n hx hb d_Mo_recordByte_142 rfl (lv_at hl 2 rfl) ?_
          refine lv_iconst (v := nI 4) hx hb d_Mo_recordByte_143 (by decide) ?_
          refine lv_isub hx hb d_Mo_recordByte_144 ?_
          have z_14 : ((nI i) - (nI 4)).toInt = ((i : Nat) : Int) - ((4 : Nat) : Int) := z_sub (nI_toInt (by omega)) (nI_toInt (by omega)) (by omega) (by omega)
          refine lv_iconst (v := nI 4) hx hb d_Mo_recordByte_145 (by decide) ?_
          refine rdS ⟨hx, hb, hml, hown, hts⟩ hK hP (k_Mo_part l (v := (sz f)) (z := (((i : Nat) : Int) - ((4 : Nat) : Int))) (x_z := ((nI i) - (nI 4))) (n := ((4 : Nat) : Int)) (x_n := (nI 4)) z_14 (nI_toInt (by omega)) ) w_996 m_Mo_part ⟨by decide, by decide⟩ rfl hl.1 rfl (Nat.le_of_ble_eq_true rfl) d_Mo_recordByte_146 ⟨Nat.zero_le _, Nat.zero_le _⟩ ?_
          refine lv_iadd hx hb d_Mo_recordByte_149 ?_
          refine lv_aload_n hx hb d_Mo_recordByte_150 rfl (lv_at hl 0 rfl) ?_
          refine va_get (D := D) (ci := 6) (v := .ref (ad 6)) (C := R_Mo) (T := T_Mo) (N := 11) hx hb hts u_Mo hown hK hP 0 rfl rfl 6 (by decide) (hts _ w_845) (fun _ h9 => h9) rfl d_Mo_recordByte_151 ?_
          refine lv_iload_n hx hb d_Mo_recordByte_154 rfl (lv_at hl 1 rfl) ?_
          refine ln_iald hx hb hK hP 6 2 rfl rfl (by omega) (by decide) d_Mo_recordByte_155 ?_
          refine lv_iload_n hx hb d_Mo_recordByte_156 rfl (lv_at hl 2 rfl) ?_
          refine lv_bipush (v := nI 20) hx hb d_Mo_recordByte_157 (by decide) ?_
          refine lv_isub hx hb d_Mo_recordByte_159 ?_
          have z_15 : ((nI i) - (nI 20)).toInt = ((i : Nat) : Int) - ((20 : Nat) : Int) := z_sub (nI_toInt (by omega)) (nI_toInt (by omega)) (by omega) (by omega)
          refine lv_iconst (v := nI 4) hx hb d_Mo_recordByte_160 (by decide) ?_
          refine rdS ⟨hx, hb, hml, hown, hts⟩ hK hP (k_Mo_part l (v := (bh f)) (z := (((i : Nat) : Int) - ((20 : Nat) : Int))) (x_z := ((nI i) - (nI 20))) (n := ((4 : Nat) : Int)) (x_n := (nI 4)) z_15 (nI_toInt (by omega)) ) w_996 m_Mo_part ⟨by decide, by decide⟩ rfl hl.1 rfl (Nat.le_of_ble_eq_true rfl) d_Mo_recordByte_161 ⟨Nat.zero_le _, Nat.zero_le _⟩ ?_
          refine lv_iadd hx hb d_Mo_recordByte_164 ?_
          refine lv_aload_n hx hb d_Mo_recordByte_165 rfl (lv_at hl 0 rfl) ?_
          refine va_get (D := D) (ci := 6) (v := .ref (ad 4)) (C := R_Mo) (T := T_Mo) (N := 11) hx hb hts u_Mo hown hK hP 0 rfl rfl 4 (by decide) (hts _ w_843) (fun _ h9 => h9) rfl d_Mo_recordByte_166 ?_
          refine lv_iload_n hx hb d_Mo_recordByte_169 rfl (lv_at hl 1 rfl) ?_
          refine ln_iald hx hb hK hP 4 2 rfl rfl (by omega) (by decide) d_Mo_recordByte_170 ?_
          refine lv_iload_n hx hb d_Mo_recordByte_171 rfl (lv_at hl 2 rfl) ?_
          refine lv_bipush (v := nI 26) hx hb d_Mo_recordByte_172 (by decide) ?_
          refine lv_isub hx hb d_Mo_recordByte_174 ?_
          have z_16 : ((nI i) - (nI 26)).toInt = ((i : Nat) : Int) - ((26 : Nat) : Int) := z_sub (nI_toInt (by omega)) (nI_toInt (by omega)) (by omega) (by omega)
          refine lv_iconst (v := nI 2) hx hb d_Mo_recordByte_175 (by decide) ?_
          refine rdS ⟨hx, hb, hml, hown, hts⟩ hK hP (k_Mo_part l (v := (lc f)) (z := (((i : Nat) : Int) - ((26 : Nat) : Int))) (x_z := ((nI i) - (nI 26))) (n := ((2 : Nat) : Int)) (x_n := (nI 2)) z_16 (nI_toInt (by omega)) ) w_996 m_Mo_part ⟨by decide, by decide⟩ rfl hl.1 rfl (Nat.le_of_ble_eq_true rfl) d_Mo_recordByte_176 ⟨Nat.zero_le _, Nat.zero_le _⟩ ?_
          refine lv_iadd hx hb d_Mo_recordByte_179 ?_
          refine lv_iconst (v := nI 2) hx hb d_Mo_recordByte_180 (by decide) ?_
          refine lv_aload_n hx hb d_Mo_recordByte_181 rfl (lv_at hl 0 rfl) ?_
          refine lv_iload_n hx hb d_Mo_recordByte_182 rfl (lv_at hl 1 rfl) ?_
          refine rdV ⟨hx, hb, hml, hown, hts⟩ hK hP (k_Mo_blocksOf l (f := f) hbl (by omega)) w_968 m_Mo_blocksOf ⟨by decide, by decide⟩ 0 rfl rfl rfl hl.1 rfl (Nat.le_of_ble_eq_true rfl) d_Mo_recordByte_183 ⟨Nat.zero_le _, Nat.zero_le _⟩ ?_
          refine ln_imul hx hb d_Mo_recordByte_186 ?_
          refine lv_iload_n hx hb d_Mo_recordByte_187 rfl (lv_at hl 2 rfl) ?_
          refine lv_bipush (v := nI 28) hx hb d_Mo_recordByte_188 (by decide) ?_
          refine lv_isub hx hb d_Mo_recordByte_190 ?_
          have z_17 : ((nI i) - (nI 28)).toInt = ((i : Nat) : Int) - ((28 : Nat) : Int) := z_sub (nI_toInt (by omega)) (nI_toInt (by omega)) (by omega) (by omega)
          refine lv_iconst (v := nI 4) hx hb d_Mo_recordByte_191 (by decide) ?_
          refine rdS ⟨hx, hb, hml, hown, hts⟩ hK hP (k_Mo_part l (v := (nI (2 * (mbo bl f 15 0 0)))) (z := (((i : Nat) : Int) - ((28 : Nat) : Int))) (x_z := ((nI i) - (nI 28))) (n := ((4 : Nat) : Int)) (x_n := (nI 4)) z_17 (nI_toInt (by omega)) ) w_996 m_Mo_part ⟨by decide, by decide⟩ rfl hl.1 rfl (Nat.le_of_ble_eq_true rfl) d_Mo_recordByte_192 ⟨Nat.zero_le _, Nat.zero_le _⟩ ?_
          refine lv_iadd hx hb d_Mo_recordByte_195 ?_
          exact W.iret (v := ((((mpt (nI 40960) ((i : Nat) : Int) ((2 : Nat) : Int)) + (mpt (sz f) (((i : Nat) : Int) - ((4 : Nat) : Int)) ((4 : Nat) : Int))) + (mpt (bh f) (((i : Nat) : Int) - ((20 : Nat) : Int)) ((4 : Nat) : Int))) + (mpt (lc f) (((i : Nat) : Int) - ((26 : Nat) : Int)) ((2 : Nat) : Int))) + (mpt (nI (2 * (mbo bl f 15 0 0))) (((i : Nat) : Int) - ((28 : Nat) : Int)) ((4 : Nat) : Int))) hx hb hr (fun t9 ht hW => ⟨congrArg (fun z => Outcome.returned (some (Value.int z))) (show ((((mpt (nI 40960) ((i : Nat) : Int) ((2 : Nat) : Int)) + (mpt (sz f) (((i : Nat) : Int) - ((4 : Nat) : Int)) ((4 : Nat) : Int))) + (mpt (bh f) (((i : Nat) : Int) - ((20 : Nat) : Int)) ((4 : Nat) : Int))) + (mpt (lc f) (((i : Nat) : Int) - ((26 : Nat) : Int)) ((2 : Nat) : Int))) + (mpt (nI (2 * (mbo bl f 15 0 0))) (((i : Nat) : Int) - ((28 : Nat) : Int)) ((4 : Nat) : Int)) = (mrec (cd, dk, tk, kd, lc, sz, bh, wt, bl, tg, fs) f i) from (by unfold mrec; dsimp only [pj_kd, pj_bl, pj_bh, pj_wt, pj_fs, pj_cd, pj_dk, pj_tk, pj_lc, pj_sz, pj_tg]; first | (rw [if_pos (by assumption)]; done) | (rw [if_neg (by assumption), if_pos (by omega)]; first | (rw [if_pos ⟨by assumption, by assumption⟩]; first | (rw [if_pos (by assumption)]; done) | (rw [if_pos (by assumption)]; rfl) | (rw [if_neg (by assumption)]; done) | (rw [if_neg (by assumption)]; rfl)) | (rw [if_neg (fun q => absurd q.1 (by assumption))]; done) | (rw [if_neg (fun q => q.2 (by assumption))]; done)) | (rw [if_neg (by assumption), if_neg (by omega)]; first | (rw [if_pos (by assumption)]; done) | (rw [if_pos (by assumption)]; rfl) | (rw [if_neg (by assumption)]; done) | (rw [if_neg (by assumption)]; rfl)))), ht⟩) (fun q h => nomatch h) d_Mo_recordByte_196
        · skip
          refine lv_ldc (v := nI 32768) hx hb hown (hts _ w_1003) d_Mo_recordByte_124 ?_
          refine lv_goto (tgt := 131) hx hb d_Mo_recordByte_126 (by decide) ?_
          refine lv_iload_n hx hb d_Mo_recordByte_131 rfl (lv_at hl 2 rfl) ?_
          refine lv_iconst (v := nI 2) hx hb d_Mo_recordByte_132 (by decide) ?_
          refine rdS ⟨hx, hb, hml, hown, hts⟩ hK hP (k_Mo_part l (v := (nI 32768)) (z := ((i : Nat) : Int)) (x_z := (nI i)) (n := ((2 : Nat) : Int)) (x_n := (nI 2)) (nI_toInt (by omega)) (nI_toInt (by omega)) ) w_996 m_Mo_part ⟨by decide, by decide⟩ rfl hl.1 rfl (Nat.le_of_ble_eq_true rfl) d_Mo_recordByte_133 ⟨Nat.zero_le _, Nat.zero_le _⟩ ?_
          refine lv_aload_n hx hb d_Mo_recordByte_136 rfl (lv_at hl 0 rfl) ?_
          refine va_get (D := D) (ci := 6) (v := .ref (ad 5)) (C := R_Mo) (T := T_Mo) (N := 11) hx hb hts u_Mo hown hK hP 0 rfl rfl 5 (by decide) (hts _ w_844) (fun _ h9 => h9) rfl d_Mo_recordByte_137 ?_
          refine lv_iload_n hx hb d_Mo_recordByte_140 rfl (lv_at hl 1 rfl) ?_
          refine ln_iald hx hb hK hP 5 2 rfl rfl (by omega) (by decide) d_Mo_recordByte_141 ?_
          refine lv_iload_n hx hb d_Mo_recordByte_142 rfl (lv_at hl 2 rfl) ?_
          refine lv_iconst (v := nI 4) hx hb d_Mo_recordByte_143 (by decide) ?_
          refine lv_isub hx hb d_Mo_recordByte_144 ?_
          have z_18 : ((nI i) - (nI 4)).toInt = ((i : Nat) : Int) - ((4 : Nat) : Int) := z_sub (nI_toInt (by omega)) (nI_toInt (by omega)) (by omega) (by omega)
          refine lv_iconst (v := nI 4) hx hb d_Mo_recordByte_145 (by decide) ?_
          refine rdS ⟨hx, hb, hml, hown, hts⟩ hK hP (k_Mo_part l (v := (sz f)) (z := (((i : Nat) : Int) - ((4 : Nat) : Int))) (x_z := ((nI i) - (nI 4))) (n := ((4 : Nat) : Int)) (x_n := (nI 4)) z_18 (nI_toInt (by omega)) ) w_996 m_Mo_part ⟨by decide, by decide⟩ rfl hl.1 rfl (Nat.le_of_ble_eq_true rfl) d_Mo_recordByte_146 ⟨Nat.zero_le _, Nat.zero_le _⟩ ?_
          refine lv_iadd hx hb d_Mo_recordByte_149 ?_
          refine lv_aload_n hx hb d_Mo_recordByte_150 rfl (lv_at hl 0 rfl) ?_
          refine va_get (D := D) (ci := 6) (v := .ref (ad 6)) (C := R_Mo) (T := T_Mo) (N := 11) hx hb hts u_Mo hown hK hP 0 rfl rfl 6 (by decide) (hts _ w_845) (fun _ h9 => h9) rfl d_Mo_recordByte_151 ?_
          refine lv_iload_n hx hb d_Mo_recordByte_154 rfl (lv_at hl 1 rfl) ?_
          refine ln_iald hx hb hK hP 6 2 rfl rfl (by omega) (by decide) d_Mo_recordByte_155 ?_
          refine lv_iload_n hx hb d_Mo_recordByte_156 rfl (lv_at hl 2 rfl) ?_
          refine lv_bipush (v := nI 20) hx hb d_Mo_recordByte_157 (by decide) ?_
          refine lv_isub hx hb d_Mo_recordByte_159 ?_
          have z_19 : ((nI i) - (nI 20)).toInt = ((i : Nat) : Int) - ((20 : Nat) : Int) := z_sub (nI_toInt (by omega)) (nI_toInt (by omega)) (by omega) (by omega)
          refine lv_iconst (v := nI 4) hx hb d_Mo_recordByte_160 (by decide) ?_
          refine rdS ⟨hx, hb, hml, hown, hts⟩ hK hP (k_Mo_part l (v := (bh f)) (z := (((i : Nat) : Int) - ((20 : Nat) : Int))) (x_z := ((nI i) - (nI 20))) (n := ((4 : Nat) : Int)) (x_n := (nI 4)) z_19 (nI_toInt (by omega)) ) w_996 m_Mo_part ⟨by decide, by decide⟩ rfl hl.1 rfl (Nat.le_of_ble_eq_true rfl) d_Mo_recordByte_161 ⟨Nat.zero_le _, Nat.zero_le _⟩ ?_
          refine lv_iadd hx hb d_Mo_recordByte_164 ?_
          refine lv_aload_n hx hb d_Mo_recordByte_165 rfl (lv_at hl 0 rfl) ?_
          refine va_get (D := D) (ci := 6) (v := .ref (ad 4)) (C := R_Mo) (T := T_Mo) (N := 11) hx hb hts u_Mo hown hK hP 0 rfl rfl 4 (by decide) (hts _ w_843) (fun _ h9 => h9) rfl d_Mo_recordByte_166 ?_
          refine lv_iload_n hx hb d_Mo_recordByte_169 rfl (lv_at hl 1 rfl) ?_
          refine ln_iald hx hb hK hP 4 2 rfl rfl (by omega) (by decide) d_Mo_recordByte_170 ?_
          refine lv_iload_n hx hb d_Mo_recordByte_171 rfl (lv_at hl 2 rfl) ?_
          refine lv_bipush (v := nI 26) hx hb d_Mo_recordByte_172 (by decide) ?_
          refine lv_isub hx hb d_Mo_recordByte_174 ?_
          have z_20 : ((nI i) - (nI 26)).toInt = ((i : Nat) : Int) - ((26 : Nat) : Int) := z_sub (nI_toInt (by omega)) (nI_toInt (by omega)) (by omega) (by omega)
          refine lv_iconst (v := nI 2) hx hb d_Mo_recordByte_175 (by decide) ?_
          refine rdS ⟨hx, hb, hml, hown, hts⟩ hK hP (k_Mo_part l (v := (lc f)) (z := (((i : Nat) : Int) - ((26 : Nat) : Int))) (x_z := ((nI i) - (nI 26))) (n := ((2 : Nat) : Int)) (x_n := (nI 2)) z_20 (nI_toInt (by omega)) ) w_996 m_Mo_part ⟨by decide, by decide⟩ rfl hl.1 rfl (Nat.le_of_ble_eq_true rfl) d_Mo_recordByte_176 ⟨Nat.zero_le _, Nat.zero_le _⟩ ?_
          refine lv_iadd hx hb d_Mo_recordByte_179 ?_
          refine lv_iconst (v := nI 2) hx hb d_Mo_recordByte_180 (by decide) ?_
          refine lv_aload_n hx hb d_Mo_recordByte_181 rfl (lv_at hl 0 rfl) ?_
          refine lv_iload_n hx hb d_Mo_recordByte_182 rfl (lv_at hl 1 rfl) ?_
          refine rdV ⟨hx, hb, hml, hown, hts⟩ hK hP (k_Mo_blocksOf l (f := f) hbl (by omega)) w_968 m_Mo_blocksOf ⟨by decide, by decide⟩ 0 rfl rfl rfl hl.1 rfl (Nat.le_of_ble_eq_true rfl) d_Mo_recordByte_183 ⟨Nat.zero_le _, Nat.zero_le _⟩ ?_
          refine ln_imul hx hb d_Mo_recordByte_186 ?_
          refine lv_iload_n hx hb d_Mo_recordByte_187 rfl (lv_at hl 2 rfl) ?_
          refine lv_bipush (v := nI 28) hx hb d_Mo_recordByte_188 (by decide) ?_
          refine lv_isub hx hb d_Mo_recordByte_190 ?_
          have z_21 : ((nI i) - (nI 28)).toInt = ((i : Nat) : Int) - ((28 : Nat) : Int) := z_sub (nI_toInt (by omega)) (nI_toInt (by omega)) (by omega) (by omega)
          refine lv_iconst (v := nI 4) hx hb d_Mo_recordByte_191 (by decide) ?_
          refine rdS ⟨hx, hb, hml, hown, hts⟩ hK hP (k_Mo_part l (v := (nI (2 * (mbo bl f 15 0 0)))) (z := (((i : Nat) : Int) - ((28 : Nat) : Int))) (x_z := ((nI i) - (nI 28))) (n := ((4 : Nat) : Int)) (x_n := (nI 4)) z_21 (nI_toInt (by omega)) ) w_996 m_Mo_part ⟨by decide, by decide⟩ rfl hl.1 rfl (Nat.le_of_ble_eq_true rfl) d_Mo_recordByte_192 ⟨Nat.zero_le _, Nat.zero_le _⟩ ?_
          refine lv_iadd hx hb d_Mo_recordByte_195 ?_
          exact W.iret (v := ((((mpt (nI 32768) ((i : Nat) : Int) ((2 : Nat) : Int)) + (mpt (sz f) (((i : Nat) : Int) - ((4 : Nat) : Int)) ((4 : Nat) : Int))) + (mpt (bh f) (((i : Nat) : Int) - ((20 : Nat) : Int)) ((4 : Nat) : Int))) + (mpt (lc f) (((i : Nat) : Int) - ((26 : Nat) : Int)) ((2 : Nat) : Int))) + (mpt (nI (2 * (mbo bl f 15 0 0))) (((i : Nat) : Int) - ((28 : Nat) : Int)) ((4 : Nat) : Int))) hx hb hr (fun t9 ht hW => ⟨congrArg (fun z => Outcome.returned (some (Value.int z))) (show ((((mpt (nI 32768) ((i : Nat) : Int) ((2 : Nat) : Int)) + (mpt (sz f) (((i : Nat) : Int) - ((4 : Nat) : Int)) ((4 : Nat) : Int))) + (mpt (bh f) (((i : Nat) : Int) - ((20 : Nat) : Int)) ((4 : Nat) : Int))) + (mpt (lc f) (((i : Nat) : Int) - ((26 : Nat) : Int)) ((2 : Nat) : Int))) + (mpt (nI (2 * (mbo bl f 15 0 0))) (((i : Nat) : Int) - ((28 : Nat) : Int)) ((4 : Nat) : Int)) = (mrec (cd, dk, tk, kd, lc, sz, bh, wt, bl, tg, fs) f i) from (by unfold mrec; dsimp only [pj_kd, pj_bl, pj_bh, pj_wt, pj_fs, pj_cd, pj_dk, pj_tk, pj_lc, pj_sz, pj_tg]; first | (rw [if_pos (by assumption)]; done) | (rw [if_neg (by assumption), if_pos (by omega)]; first | (rw [if_pos ⟨by assumption, by assumption⟩]; first | (rw [if_pos (by assumption)]; done) | (rw [if_pos (by assumption)]; rfl) | (rw [if_neg (by assumption)]; done) | (rw [if_neg (by assumption)]; rfl)) | (rw [if_neg (fun q => absurd q.1 (by assumption))]; done) | (rw [if_neg (fun q => q.2 (by assumption))]; done)) | (rw [if_neg (by assumption), if_neg (by omega)]; first | (rw [if_pos (by assumption)]; done) | (rw [if_pos (by assumption)]; rfl) | (rw [if_neg (by assumption)]; done) | (rw [if_neg (by assumption)]; rfl)))), ht⟩) (fun q h => nomatch h) d_Mo_recordByte_196
      · skip
        refine lv_iload_n hx hb d_Mo_recordByte_23 rfl (lv_at hl 2 rfl) ?_
        refine lv_bipush (v := nI 40) hx hb d_Mo_recordByte_24 (by decide) ?_
        refine ln_isub hx hb d_Mo_recordByte_26 (by omega) ?_
        refine lv_istore_n (lv' := [(3, .int (nI (i - 40))), (0, .ref (ad 0)), (1, .int (nI f)), (2, .int (nI i))]) hx hb d_Mo_recordByte_27 rfl hl (by decide) rfl (fun ls hl => ?_)
        refine lv_aload_n hx hb d_Mo_recordByte_28 rfl (lv_at hl 1 rfl) ?_
        refine va_get (D := D) (ci := 6) (v := .ref (ad 3)) (C := R_Mo) (T := T_Mo) (N := 11) hx hb hts u_Mo hown hK hP 0 rfl rfl 3 (by decide) (hts _ w_842) (fun _ h9 => h9) rfl d_Mo_recordByte_29 ?_
        refine lv_iload_n hx hb d_Mo_recordByte_32 rfl (lv_at hl 2 rfl) ?_
        refine ln_iald hx hb hK hP 3 2 rfl rfl (by omega) (by decide) d_Mo_recordByte_33 ?_
        refine lv_iconst (v := nI 3) hx hb d_Mo_recordByte_34 (by decide) ?_
        refine lv_icmp_ne (tgt := 53) hx hb d_Mo_recordByte_35 (by decide) (fun c_22 => ?_) (fun c_22 => ?_)
        · skip
          refine lv_iconst (v := nI 0) hx hb d_Mo_recordByte_53 (by decide) ?_
          refine lv_istore (lv' := [(4, .int (nI 0)), (3, .int (nI (i - 40))), (0, .ref (ad 0)), (1, .int (nI f)), (2, .int (nI i))]) hx hb d_Mo_recordByte_54 hl (by decide) rfl (fun ls hl => ?_)
          refine lv_iload hx hb d_Mo_recordByte_56 (lv_at hl 0 rfl) ?_
          refine ln_if_eq (tgt := 93) hx hb (by omega) d_Mo_recordByte_58 (by decide) (fun c_23 => ?_) (fun c_23 => ?_)
          · skip
            refine lv_aload_n hx hb d_Mo_recordByte_93 rfl (lv_at hl 2 rfl) ?_
            refine va_get (D := D) (ci := 6) (v := .ref (ad 8)) (C := R_Mo) (T := T_Mo) (N := 11) hx hb hts u_Mo hown hK hP 0 rfl rfl 8 (by decide) (hts _ w_847) (fun _ h9 => h9) rfl d_Mo_recordByte_94 ?_
            refine lv_bipush (v := nI 15) hx hb d_Mo_recordByte_97 (by decide) ?_
            refine lv_iload_n hx hb d_Mo_recordByte_99 rfl (lv_at hl 3 rfl) ?_
            refine ln_imul hx hb d_Mo_recordByte_100 ?_
            refine lv_iload_n hx hb d_Mo_recordByte_101 rfl (lv_at hl 1 rfl) ?_
            refine lv_iconst (v := nI 4) hx hb d_Mo_recordByte_102 (by decide) ?_
            refine ln_idiv hx hb d_Mo_recordByte_103 (by omega) (by omega) (by omega) ?_
            refine ln_iadd hx hb d_Mo_recordByte_104 ?_
            refine ln_iald hx hb hK hP 8 2 rfl rfl (by omega) (by decide) d_Mo_recordByte_105 ?_
            refine W.eq (g2 := F0 m 106 ls [.int (nI (bl ((15 * f) + ((i - 40) / 4))))]) rfl ?_
            have b_24 := hbl ((15 * f) + ((i - 40) / 4))
            refine lv_iload_n hx hb d_Mo_recordByte_106 rfl (lv_at hl 1 rfl) ?_
            refine lv_iconst (v := nI 4) hx hb d_Mo_recordByte_107 (by decide) ?_
            refine ln_irem hx hb d_Mo_recordByte_108 (by omega) (by omega) (by omega) ?_
            refine lv_iconst (v := nI 4) hx hb d_Mo_recordByte_109 (by decide) ?_
            refine rdS ⟨hx, hb, hml, hown, hts⟩ hK hP (k_Mo_part l (v := (nI (bl ((15 * f) + ((i - 40) / 4))))) (z := (((i - 40) % 4 : Nat) : Int)) (x_z := (nI ((i - 40) % 4))) (n := ((4 : Nat) : Int)) (x_n := (nI 4)) (nI_toInt (by omega)) (nI_toInt (by omega)) ) w_996 m_Mo_part ⟨by decide, by decide⟩ rfl hl.1 rfl (Nat.le_of_ble_eq_true rfl) d_Mo_recordByte_110 ⟨Nat.zero_le _, Nat.zero_le _⟩ ?_
            exact W.iret (v := mpt (nI (bl ((15 * f) + ((i - 40) / 4)))) (((i - 40) % 4 : Nat) : Int) ((4 : Nat) : Int)) hx hb hr (fun t9 ht hW => ⟨congrArg (fun z => Outcome.returned (some (Value.int z))) (show mpt (nI (bl ((15 * f) + ((i - 40) / 4)))) (((i - 40) % 4 : Nat) : Int) ((4 : Nat) : Int) = (mrec (cd, dk, tk, kd, lc, sz, bh, wt, bl, tg, fs) f i) from (by unfold mrec; dsimp only [pj_kd, pj_bl, pj_bh, pj_wt, pj_fs, pj_cd, pj_dk, pj_tk, pj_lc, pj_sz, pj_tg]; first | (rw [if_pos (by assumption)]; done) | (rw [if_neg (by assumption), if_pos (by omega)]; first | (rw [if_pos ⟨by assumption, by assumption⟩]; first | (rw [if_pos (by assumption)]; done) | (rw [if_pos (by assumption)]; rfl) | (rw [if_neg (by assumption)]; done) | (rw [if_neg (by assumption)]; rfl)) | (rw [if_neg (fun q => absurd q.1 (by assumption))]; done) | (rw [if_neg (fun q => q.2 (by assumption))]; done)) | (rw [if_neg (by assumption), if_neg (by omega)]; first | (rw [if_pos (by assumption)]; done) | (rw [if_pos (by assumption)]; rfl) | (rw [if_neg (by assumption)]; done) | (rw [if_neg (by assumption)]; rfl)))), ht⟩) (fun q h => nomatch h) d_Mo_recordByte_113
          · exact absurd c_23 (by omega)
        · skip
          refine lv_aload_n hx hb d_Mo_recordByte_38 rfl (lv_at hl 1 rfl) ?_
          refine va_get (D := D) (ci := 6) (v := .ref (ad 5)) (C := R_Mo) (T := T_Mo) (N := 11) hx hb hts u_Mo hown hK hP 0 rfl rfl 5 (by decide) (hts _ w_844) (fun _ h9 => h9) rfl d_Mo_recordByte_39 ?_
          refine lv_iload_n hx hb d_Mo_recordByte_42 rfl (lv_at hl 2 rfl) ?_
          refine ln_iald hx hb hK hP 5 2 rfl rfl (by omega) (by decide) d_Mo_recordByte_43 ?_
          refine lv_bipush (v := nI 60) hx hb d_Mo_recordByte_44 (by decide) ?_
          refine lv_icmp_ge (tgt := 53) hx hb d_Mo_recordByte_46 (by decide) (fun c_25 => ?_) (fun c_25 => ?_)
          · skip
            refine lv_iconst (v := nI 0) hx hb d_Mo_recordByte_53 (by decide) ?_
            refine lv_istore (lv' := [(4, .int (nI 0)), (3, .int (nI (i - 40))), (0, .ref (ad 0)), (1, .int (nI f)), (2, .int (nI i))]) hx hb d_Mo_recordByte_54 hl (by decide) rfl (fun ls hl => ?_)
            refine lv_iload hx hb d_Mo_recordByte_56 (lv_at hl 0 rfl) ?_
            refine ln_if_eq (tgt := 93) hx hb (by omega) d_Mo_recordByte_58 (by decide) (fun c_26 => ?_) (fun c_26 => ?_)
            · skip
              refine lv_aload_n hx hb d_Mo_recordByte_93 rfl (lv_at hl 2 rfl) ?_
              refine va_get (D := D) (ci := 6) (v := .ref (ad 8)) (C := R_Mo) (T := T_Mo) (N := 11) hx hb hts u_Mo hown hK hP 0 rfl rfl 8 (by decide) (hts _ w_847) (fun _ h9 => h9) rfl d_Mo_recordByte_94 ?_
              refine lv_bipush (v := nI 15) hx hb d_Mo_recordByte_97 (by decide) ?_
              refine lv_iload_n hx hb d_Mo_recordByte_99 rfl (lv_at hl 3 rfl) ?_
              refine ln_imul hx hb d_Mo_recordByte_100 ?_
              refine lv_iload_n hx hb d_Mo_recordByte_101 rfl (lv_at hl 1 rfl) ?_
              refine lv_iconst (v := nI 4) hx hb d_Mo_recordByte_102 (by decide) ?_
              refine ln_idiv hx hb d_Mo_recordByte_103 (by omega) (by omega) (by omega) ?_
              refine ln_iadd hx hb d_Mo_recordByte_104 ?_
              refine ln_iald hx hb hK hP 8 2 rfl rfl (by omega) (by decide) d_Mo_recordByte_105 ?_
              refine W.eq (g2 := F0 m 106 ls [.int (nI (bl ((15 * f) + ((i - 40) / 4))))]) rfl ?_
              have b_27 := hbl ((15 * f) + ((i - 40) / 4))
              refine lv_iload_n hx hb d_Mo_recordByte_106 rfl (lv_at hl 1 rfl) ?_
              refine lv_iconst (v := nI 4) hx hb d_Mo_recordByte_107 (by decide) ?_
              refine ln_irem hx hb d_Mo_recordByte_108 (by omega) (by omega) (by omega) ?_
              refine lv_iconst (v := nI 4) hx hb d_Mo_recordByte_109 (by decide) ?_
              refine rdS ⟨hx, hb, hml, hown, hts⟩ hK hP (k_Mo_part l (v := (nI (bl ((15 * f) + ((i - 40) / 4))))) (z := (((i - 40) % 4 : Nat) : Int)) (x_z := (nI ((i - 40) % 4))) (n := ((4 : Nat) : Int)) (x_n := (nI 4)) (nI_toInt (by omega)) (nI_toInt (by omega)) ) w_996 m_Mo_part ⟨by decide, by decide⟩ rfl hl.1 rfl (Nat.le_of_ble_eq_true rfl) d_Mo_recordByte_110 ⟨Nat.zero_le _, Nat.zero_le _⟩ ?_
              exact W.iret (v := mpt (nI (bl ((15 * f) + ((i - 40) / 4)))) (((i - 40) % 4 : Nat) : Int) ((4 : Nat) : Int)) hx hb hr (fun t9 ht hW => ⟨congrArg (fun z => Outcome.returned (some (Value.int z))) (show mpt (nI (bl ((15 * f) + ((i - 40) / 4)))) (((i - 40) % 4 : Nat) : Int) ((4 : Nat) : Int) = (mrec (cd, dk, tk, kd, lc, sz, bh, wt, bl, tg, fs) f i) from (by unfold mrec; dsimp only [pj_kd, pj_bl, pj_bh, pj_wt, pj_fs, pj_cd, pj_dk, pj_tk, pj_lc, pj_sz, pj_tg]; first | (rw [if_pos (by assumption)]; done) | (rw [if_neg (by assumption), if_pos (by omega)]; first | (rw [if_pos ⟨by assumption, by assumption⟩]; first | (rw [if_pos (by assumption)]; done) | (rw [if_pos (by assumption)]; rfl) | (rw [if_neg (by assumption)]; done) | (rw [if_neg (by assumption)]; rfl)) | (rw [if_neg (fun q => absurd q.1 (by assumption))]; done) | (rw [if_neg (fun q => q.2 (by assumption))]; done)) | (rw [if_neg (by assumption), if_neg (by omega)]; first | (rw [if_pos (by assumption)]; done) | (rw [if_pos (by assumption)]; rfl) | (rw [if_neg (by assumption)]; done) | (rw [if_neg (by assumption)]; rfl)))), ht⟩) (fun q h => nomatch h) d_Mo_recordByte_113
            · exact absurd c_26 (by omega)
          · skip
            refine lv_iconst (v := nI 1) hx hb d_Mo_recordByte_49 (by decide) ?_
            refine lv_goto (tgt := 54) hx hb d_Mo_recordByte_50 (by decide) ?_
            refine lv_istore (lv' := [(4, .int (nI 1)), (3, .int (nI (i - 40))), (0, .ref (ad 0)), (1, .int (nI f)), (2, .int (nI i))]) hx hb d_Mo_recordByte_54 hl (by decide) rfl (fun ls hl => ?_)
            refine lv_iload hx hb d_Mo_recordByte_56 (lv_at hl 0 rfl) ?_
            refine ln_if_eq (tgt := 93) hx hb (by omega) d_Mo_recordByte_58 (by decide) (fun c_28 => ?_) (fun c_28 => ?_)
            · exact absurd c_28 (by omega)
            · skip
              refine lv_iload_n hx hb d_Mo_recordByte_61 rfl (lv_at hl 1 rfl) ?_
              refine lv_aload_n hx hb d_Mo_recordByte_62 rfl (lv_at hl 2 rfl) ?_
              refine va_get (D := D) (ci := 6) (v := .ref (ad 5)) (C := R_Mo) (T := T_Mo) (N := 11) hx hb hts u_Mo hown hK hP 0 rfl rfl 5 (by decide) (hts _ w_844) (fun _ h9 => h9) rfl d_Mo_recordByte_63 ?_
              refine lv_iload_n hx hb d_Mo_recordByte_66 rfl (lv_at hl 3 rfl) ?_
              refine ln_iald hx hb hK hP 5 2 rfl rfl (by omega) (by decide) d_Mo_recordByte_67 ?_
              refine lv_icmp_ge (tgt := 89) hx hb d_Mo_recordByte_68 (by decide) (fun c_29 => ?_) (fun c_29 => ?_)
              · skip
                refine lv_iconst (v := nI 0) hx hb d_Mo_recordByte_89 (by decide) ?_
                refine lv_goto (tgt := 113) hx hb d_Mo_recordByte_90 (by decide) ?_
                exact W.iret (v := nI 0) hx hb hr (fun t9 ht hW => ⟨congrArg (fun z => Outcome.returned (some (Value.int z))) (show nI 0 = (mrec (cd, dk, tk, kd, lc, sz, bh, wt, bl, tg, fs) f i) from (by unfold mrec; dsimp only [pj_kd, pj_bl, pj_bh, pj_wt, pj_fs, pj_cd, pj_dk, pj_tk, pj_lc, pj_sz, pj_tg]; first | (rw [if_pos (by assumption)]; done) | (rw [if_neg (by assumption), if_pos (by omega)]; first | (rw [if_pos ⟨by assumption, by assumption⟩]; first | (rw [if_pos (by assumption)]; done) | (rw [if_pos (by assumption)]; rfl) | (rw [if_neg (by assumption)]; done) | (rw [if_neg (by assumption)]; rfl)) | (rw [if_neg (fun q => absurd q.1 (by assumption))]; done) | (rw [if_neg (fun q => q.2 (by assumption))]; done)) | (rw [if_neg (by assumption), if_neg (by omega)]; first | (rw [if_pos (by assumption)]; done) | (rw [if_pos (by assumption)]; rfl) | (rw [if_neg (by assumption)]; done) | (rw [if_neg (by assumption)]; rfl)))), ht⟩) (fun q h => nomatch h) d_Mo_recordByte_113
              · skip
                refine lv_aload_n hx hb d_Mo_recordByte_71 rfl (lv_at hl 2 rfl) ?_
                refine va_get (D := D) (ci := 6) (v := .ref (ad 9)) (C := R_Mo) (T := T_Mo) (N := 11) hx hb hts u_Mo hown hK hP 0 rfl rfl 9 (by decide) (hts _ w_848) (fun _ h9 => h9) rfl d_Mo_recordByte_72 ?_
                refine lv_bipush (v := nI 60) hx hb d_Mo_recordByte_75 (by decide) ?_
                refine lv_iload_n hx hb d_Mo_recordByte_77 rfl (lv_at hl 3 rfl) ?_
                refine ln_imul hx hb d_Mo_recordByte_78 ?_
                refine lv_iload_n hx hb d_Mo_recordByte_79 rfl (lv_at hl 1 rfl) ?_
                refine ln_iadd hx hb d_Mo_recordByte_80 ?_
                refine ln_bald hx hb hK hP 9 0 rfl rfl (by omega) (by decide) d_Mo_recordByte_81 ?_
                refine lv_sipush (v := nI 255) hx hb d_Mo_recordByte_82 (by decide) ?_
                refine lv_iand hx hb d_Mo_recordByte_85 ?_
                refine lv_goto (tgt := 113) hx hb d_Mo_recordByte_86 (by decide) ?_
                exact W.iret (v := (tg ((60 * f) + (i - 40))) &&& (nI 255)) hx hb hr (fun t9 ht hW => ⟨congrArg (fun z => Outcome.returned (some (Value.int z))) (show (tg ((60 * f) + (i - 40))) &&& (nI 255) = (mrec (cd, dk, tk, kd, lc, sz, bh, wt, bl, tg, fs) f i) from (by unfold mrec; dsimp only [pj_kd, pj_bl, pj_bh, pj_wt, pj_fs, pj_cd, pj_dk, pj_tk, pj_lc, pj_sz, pj_tg]; first | (rw [if_pos (by assumption)]; done) | (rw [if_neg (by assumption), if_pos (by omega)]; first | (rw [if_pos ⟨by assumption, by assumption⟩]; first | (rw [if_pos (by assumption)]; done) | (rw [if_pos (by assumption)]; rfl) | (rw [if_neg (by assumption)]; done) | (rw [if_neg (by assumption)]; rfl)) | (rw [if_neg (fun q => absurd q.1 (by assumption))]; done) | (rw [if_neg (fun q => q.2 (by assumption))]; done)) | (rw [if_neg (by assumption), if_neg (by omega)]; first | (rw [if_pos (by assumption)]; done) | (rw [if_pos (by assumption)]; rfl) | (rw [if_neg (by assumption)]; done) | (rw [if_neg (by assumption)]; rfl)))), ht⟩) (fun q h => nomatch h) d_Mo_recordByte_113
  · skip
    refine lv_iconst (v := nI 0) hx hb d_Mo_recordByte_9 (by decide) ?_
    exact W.iret (v := nI 0) hx hb hr (fun t9 ht hW => ⟨congrArg (fun z => Outcome.returned (some (Value.int z))) (show nI 0 = (mrec (cd, dk, tk, kd, lc, sz, bh, wt, bl, tg, fs) f i) from (by unfold mrec; dsimp only [pj_kd, pj_bl, pj_bh, pj_wt, pj_fs, pj_cd, pj_dk, pj_tk, pj_lc, pj_sz, pj_tg]; first | (rw [if_pos (by assumption)]; done) | (rw [if_neg (by assumption), if_pos (by omega)]; first | (rw [if_pos ⟨by assumption, by assumption⟩]; first | (rw [if_pos (by assumption)]; done) | (rw [if_pos (by assumption)]; rfl) | (rw [if_neg (by assumption)]; done) | (rw [if_neg (by assumption)]; rfl)) | (rw [if_neg (fun q => absurd q.1 (by assumption))]; done) | (rw [if_neg (fun q => q.2 (by assumption))]; done)) | (rw [if_neg (by assumption), if_neg (by omega)]; first | (rw [if_pos (by assumption)]; done) | (rw [if_pos (by assumption)]; rfl) | (rw [if_neg (by assumption)]; done) | (rw [if_neg (by assumption)]; rfl)))), ht⟩) (fun q h => nomatch h) d_Mo_recordByte_10
theorem m_Mo_byteOf : mV R_Mo y_Mo_byteOf (Cond.code y_Mo_byteOf c_Mo_byteOf 3 (some .int)) 2 := ⟨⟨w_992, w_993, w_7, w_994⟩, by decide +kernel⟩
set_option maxHeartbeats 4000000 in
set_option maxRecDepth 100000 in
theorem k_Mo_byteOf (l : Launch) {D : va_G} {ct : Nat → ClassId} {ad : Nat → Nat} {cd : Int32} {dk : Nat → Int32} {tk kd lc sz bh wt : Nat → Int32} {bl : Nat → Nat} {tg : Nat → Int32} {fs : Int32} {A : Nat → Prop} {z : Int} {x_z : Int32} (hx_z : x_z.toInt = z) {u : Int} {x_u : Int32} (hx_u : x_u.toInt = u) (h0 : bOK bl) : Met l y_Mo_byteOf (Cond.code y_Mo_byteOf c_Mo_byteOf 3 (some .int) :: wA) (rmk 4 0 0) (va_Pc [.ref (ad 0), .int x_z, .int x_u] (cW A D (tyM ct) (wsM ct ad cd dk tk kd lc sz bh wt bl tg fs))) (wQ (some (.int (if mby_c z u = 0 then mby_r (cd, dk, tk, kd, lc, sz, bh, wt, bl, tg, fs) z.toNat u.toNat else nI 0))) A D (wsM ct ad (nI (mby_c z u)) dk tk kd lc sz bh wt bl tg fs)) 0 0 A := by
  refine Met.ofW (cc := c_Mo_byteOf) (maxL := 3) (ret := (some .int)) (by decide +kernel) rfl ?_
  intro p e s m args below meth c s₁ B0 hml hv
  obtain ⟨rfl, hA, hP, hD, hK⟩ := hv
  have hS : va_S A s.heap s.heap [] := va_S.rf
  have hx := B0.exec
  have hb := B0.bytes
  have hr := B0.returns
  have hts := fun w (h : w ∈ wA) => atoms_spec (ws := Cond.code y_Mo_byteOf c_Mo_byteOf 3 (some .int) :: wA) B0.pre w (List.mem_cons_of_mem _ h)
  have hown : s.vm.findClass R_Mo = some m.cls := findClass_of_methodNamed B0.named
  have hlocks := B0.notSynchronized
  have hl := lv_entry ([.ref (ad 0), .int x_z, .int x_u]) (n := 3) (Nat.le_of_ble_eq_true rfl)
  rw [lg_entry_eq]
  generalize (lg_sl ([.ref (ad 0), .int x_z, .int x_u]) ++ List.replicate (3 - (lg_sl ([.ref (ad 0), .int x_z, .int x_u])).length) Slot.unset).toArray = ls at hl ⊢
  have hl : lv_has ls 3 [(0, .ref (ad 0)), (1, .int x_z), (2, .int x_u)] := hl
  have hf_z := z_lt x_z
  have hg_z := z_ge x_z
  rw [hx_z] at hf_z hg_z
  have hf_u := z_lt x_u
  have hg_u := z_ge x_u
  rw [hx_u] at hf_u hg_u
  have hbl := h0
  refine lv_aload_n hx hb d_Mo_byteOf_0 rfl (lv_at hl 0 rfl) ?_
  refine lv_iload_n hx hb d_Mo_byteOf_1 rfl (lv_at hl 1 rfl) ?_
  refine lv_i2l hx hb d_Mo_byteOf_2 rfl ?_
  refine lv_lconst (v := 0) hx hb d_Mo_byteOf_3 (by decide) ?_
  refine lv_ldc2 (v := 3) hx hb hown (hts _ w_990) d_Mo_byteOf_4 ?_
  refine rdS ⟨hx, hb, hml, hown, hts⟩ hK hP (k_Mo_in l (v := z) (x_v := x_z.toInt64) (u := 0) (x_u := 0) (w := 3) (x_w := 3) ((Int32.toInt_toInt64 _).trans hx_z) (show Int64.toInt 0 = 0 by decide) (show Int64.toInt 3 = 3 by decide) ) w_883 m_Mo_in ⟨by decide, by decide⟩ rfl hl.1 rfl (Nat.le_of_ble_eq_true rfl) d_Mo_byteOf_7 ⟨Nat.zero_le _, Nat.zero_le _⟩ ?_
  refine lb_if_eq (tgt := 29) hx hb d_Mo_byteOf_10 (by decide) (fun c_1 => ?_) (fun c_1 => ?_)
  · skip
    refine lv_iconst (v := nI 1) hx hb d_Mo_byteOf_29 (by decide) ?_
    refine va_put (D := D) (ci := 6) (v := .int (nI 1)) (ty := .int) (C := R_Mo) (T := T_Mo) (N := 11) hx hb hts u_Mo t_Mo t_Mo_ok n_Mo hown hK hP hD hS 0 rfl rfl 0 (by decide) (hts _ w_839) (fun _ h9 => h9) rfl (by decide +kernel) rfl rfl (Nat.le_of_ble_eq_true rfl) d_Mo_byteOf_30 (fun H locs hP hD hS => ?_)
    have hP : va_P D vwC (wsM ct ad (nI 1) dk tk kd lc sz bh wt bl tg fs) H := hP
    have hD : va_D A (wsM ct ad (nI 1) dk tk kd lc sz bh wt bl tg fs) := hD
    refine lv_aload_n hx hb d_Mo_byteOf_33 rfl (lv_at hl 0 rfl) ?_
    refine va_get (D := D) (ci := 6) (v := .int (nI 1)) (C := R_Mo) (T := T_Mo) (N := 11) hx hb hts u_Mo hown hK hP 0 rfl rfl 0 (by decide) (hts _ w_839) (fun _ h9 => h9) rfl d_Mo_byteOf_34 ?_
    refine ln_if_le (tgt := 42) hx hb (by omega) d_Mo_byteOf_37 (by decide) (fun c_2 => ?_) (fun c_2 => ?_)
    · exact absurd c_2 (by omega)
    · skip
      refine lv_iconst (v := nI 0) hx hb d_Mo_byteOf_40 (by decide) ?_
      have e9 : wsM ct ad (nI 1) dk tk kd lc sz bh wt bl tg fs = wsM ct ad (nI (mby_c z u)) dk tk kd lc sz bh wt bl tg fs := (by rw [(show mby_c z u = 1 from (by unfold mby_c; (try dsimp only [pj_kd, pj_bl, pj_bh, pj_wt, pj_fs, pj_cd, pj_dk, pj_tk, pj_lc, pj_sz, pj_tg]); first | (rw [if_pos (by omega)]; done) | (rw [if_neg (by omega)]; done)))])
      rw [e9] at hP hD
      exact W.iret (v := nI 0) hx hb hr (fun t9 ht hW => ⟨congrArg (fun z => Outcome.returned (some (Value.int z))) (show nI 0 = (if mby_c z u = 0 then mby_r (cd, dk, tk, kd, lc, sz, bh, wt, bl, tg, fs) z.toNat u.toNat else nI 0) from (by rw [(show mby_c z u = 1 from (by unfold mby_c; (try dsimp only [pj_kd, pj_bl, pj_bh, pj_wt, pj_fs, pj_cd, pj_dk, pj_tk, pj_lc, pj_sz, pj_tg]); first | (rw [if_pos (by omega)]; done) | (rw [if_neg (by omega)]; done)))]; first | rfl | (rw [if_pos rfl, Int.toNat_natCast, Int.toNat_natCast]; unfold mby_r; first | (rw [if_pos (by omega)]; done) | (rw [if_pos (by omega)]; rfl) | (rw [if_neg (by omega)]; done) | (rw [if_neg (by omega)]; rfl)))), by rw [ht]; exact hP, hD, hS.F ht⟩) hS.2.2 d_Mo_byteOf_41
  · skip
    refine lv_iload_n hx hb d_Mo_byteOf_13 rfl (lv_at hl 2 rfl) ?_
    refine lv_i2l hx hb d_Mo_byteOf_14 rfl ?_
    refine lv_lconst (v := 0) hx hb d_Mo_byteOf_15 (by decide) ?_
    refine lv_ldc2 (v := 1023) hx hb hown (hts _ w_995) d_Mo_byteOf_16 ?_
    refine rdS ⟨hx, hb, hml, hown, hts⟩ hK hP (k_Mo_in l (v := u) (x_v := x_u.toInt64) (u := 0) (x_u := 0) (w := 1023) (x_w := 1023) ((Int32.toInt_toInt64 _).trans hx_u) (show Int64.toInt 0 = 0 by decide) (show Int64.toInt 1023 = 1023 by decide) ) w_883 m_Mo_in ⟨by decide, by decide⟩ rfl hl.1 rfl (Nat.le_of_ble_eq_true rfl) d_Mo_byteOf_19 ⟨Nat.zero_le _, Nat.zero_le _⟩ ?_
    refine lb_if_eq (tgt := 29) hx hb d_Mo_byteOf_22 (by decide) (fun c_3 => ?_) (fun c_3 => ?_)
    · skip
      refine lv_iconst (v := nI 1) hx hb d_Mo_byteOf_29 (by decide) ?_
      refine va_put (D := D) (ci := 6) (v := .int (nI 1)) (ty := .int) (C := R_Mo) (T := T_Mo) (N := 11) hx hb hts u_Mo t_Mo t_Mo_ok n_Mo hown hK hP hD hS 0 rfl rfl 0 (by decide) (hts _ w_839) (fun _ h9 => h9) rfl (by decide +kernel) rfl rfl (Nat.le_of_ble_eq_true rfl) d_Mo_byteOf_30 (fun H locs hP hD hS => ?_)
      have hP : va_P D vwC (wsM ct ad (nI 1) dk tk kd lc sz bh wt bl tg fs) H := hP
      have hD : va_D A (wsM ct ad (nI 1) dk tk kd lc sz bh wt bl tg fs) := hD
      refine lv_aload_n hx hb d_Mo_byteOf_33 rfl (lv_at hl 0 rfl) ?_
      refine va_get (D := D) (ci := 6) (v := .int (nI 1)) (C := R_Mo) (T := T_Mo) (N := 11) hx hb hts u_Mo hown hK hP 0 rfl rfl 0 (by decide) (hts _ w_839) (fun _ h9 => h9) rfl d_Mo_byteOf_34 ?_
      refine ln_if_le (tgt := 42) hx hb (by omega) d_Mo_byteOf_37 (by decide) (fun c_4 => ?_) (fun c_4 => ?_)
      · exact absurd c_4 (by omega)
      · skip
        refine lv_iconst (v := nI 0) hx hb d_Mo_byteOf_40 (by decide) ?_
        have e9 : wsM ct ad (nI 1) dk tk kd lc sz bh wt bl tg fs = wsM ct ad (nI (mby_c z u)) dk tk kd lc sz bh wt bl tg fs := (by rw [(show mby_c z u = 1 from (by unfold mby_c; (try dsimp only [pj_kd, pj_bl, pj_bh, pj_wt, pj_fs, pj_cd, pj_dk, pj_tk, pj_lc, pj_sz, pj_tg]); first | (rw [if_pos (by omega)]; done) | (rw [if_neg (by omega)]; done)))])
        rw [e9] at hP hD
        exact W.iret (v := nI 0) hx hb hr (fun t9 ht hW => ⟨congrArg (fun z => Outcome.returned (some (Value.int z))) (show nI 0 = (if mby_c z u = 0 then mby_r (cd, dk, tk, kd, lc, sz, bh, wt, bl, tg, fs) z.toNat u.toNat else nI 0) from (by rw [(show mby_c z u = 1 from (by unfold mby_c; (try dsimp only [pj_kd, pj_bl, pj_bh, pj_wt, pj_fs, pj_cd, pj_dk, pj_tk, pj_lc, pj_sz, pj_tg]); first | (rw [if_pos (by omega)]; done) | (rw [if_neg (by omega)]; done)))]; first | rfl | (rw [if_pos rfl, Int.toNat_natCast, Int.toNat_natCast]; unfold mby_r; first | (rw [if_pos (by omega)]; done) | (rw [if_pos (by omega)]; rfl) | (rw [if_neg (by omega)]; done) | (rw [if_neg (by omega)]; rfl)))), by rw [ht]; exact hP, hD, hS.F ht⟩) hS.2.2 d_Mo_byteOf_41
    · skip
      obtain ⟨z1, rfl⟩ := Int.eq_ofNat_of_zero_le (show 0 ≤ z by omega)
      obtain rfl : x_z = nI z1 := z_i hx_z (by omega)
      obtain ⟨u1, rfl⟩ := Int.eq_ofNat_of_zero_le (show 0 ≤ u by omega)
      obtain rfl : x_u = nI u1 := z_i hx_u (by omega)
      refine lv_iconst (v := nI 0) hx hb d_Mo_byteOf_25 (by decide) ?_
      refine lv_goto (tgt := 30) hx hb d_Mo_byteOf_26 (by decide) ?_
      refine va_put (D := D) (ci := 6) (v := .int (nI 0)) (ty := .int) (C := R_Mo) (T := T_Mo) (N := 11) hx hb hts u_Mo t_Mo t_Mo_ok n_Mo hown hK hP hD hS 0 rfl rfl 0 (by decide) (hts _ w_839) (fun _ h9 => h9) rfl (by decide +kernel) rfl rfl (Nat.le_of_ble_eq_true rfl) d_Mo_byteOf_30 (fun H locs hP hD hS => ?_)
      have hP : va_P D vwC (wsM ct ad (nI 0) dk tk kd lc sz bh wt bl tg fs) H := hP
      have hD : va_D A (wsM ct ad (nI 0) dk tk kd lc sz bh wt bl tg fs) := hD
      refine lv_aload_n hx hb d_Mo_byteOf_33 rfl (lv_at hl 0 rfl) ?_
      refine va_get (D := D) (ci := 6) (v := .int (nI 0)) (C := R_Mo) (T := T_Mo) (N := 11) hx hb hts u_Mo hown hK hP 0 rfl rfl 0 (by decide) (hts _ w_839) (fun _ h9 => h9) rfl d_Mo_byteOf_34 ?_
      refine ln_if_le (tgt := 42) hx hb (by omega) d_Mo_byteOf_37 (by decide) (fun c_5 => ?_) (fun c_5 => ?_)
      · skip
        refine lv_iload_n hx hb d_Mo_byteOf_42 rfl (lv_at hl 1 rfl) ?_
        refine ln_if_ne (tgt := 62) hx hb (by omega) d_Mo_byteOf_43 (by decide) (fun c_6 => ?_) (fun c_6 => ?_)
        · skip
          refine lv_aload_n hx hb d_Mo_byteOf_62 rfl (lv_at hl 0 rfl) ?_
          refine lv_iconst (v := nI 1) hx hb d_Mo_byteOf_63 (by decide) ?_
          refine lv_iconst (v := nI 4) hx hb d_Mo_byteOf_64 (by decide) ?_
          refine lv_iload_n hx hb d_Mo_byteOf_65 rfl (lv_at hl 1 rfl) ?_
          refine lv_iconst (v := nI 1) hx hb d_Mo_byteOf_66 (by decide) ?_
          refine ln_isub hx hb d_Mo_byteOf_67 (by omega) ?_
          refine ln_imul hx hb d_Mo_byteOf_68 ?_
          refine ln_iadd hx hb d_Mo_byteOf_69 ?_
          refine lv_iload_n hx hb d_Mo_byteOf_70 rfl (lv_at hl 2 rfl) ?_
          refine lv_sipush (v := nI 256) hx hb d_Mo_byteOf_71 (by decide) ?_
          refine ln_idiv hx hb d_Mo_byteOf_74 (by omega) (by omega) (by omega) ?_
          refine ln_iadd hx hb d_Mo_byteOf_75 ?_
          refine lv_iload_n hx hb d_Mo_byteOf_76 rfl (lv_at hl 2 rfl) ?_
          refine lv_sipush (v := nI 256) hx hb d_Mo_byteOf_77 (by decide) ?_
          refine ln_irem hx hb d_Mo_byteOf_80 (by omega) (by omega) (by omega) ?_
          refine rdV ⟨hx, hb, hml, hown, hts⟩ hK hP (k_Mo_recordByte l (f := ((1 + (4 * (z1 - 1))) + (u1 / 256))) (i := (u1 % 256)) hbl (by omega) (by omega)) w_999 m_Mo_recordByte ⟨by decide, by decide⟩ 0 rfl rfl rfl hl.1 rfl (Nat.le_of_ble_eq_true rfl) d_Mo_byteOf_81 ⟨Nat.zero_le _, Nat.zero_le _⟩ ?_
          have e9 : wsM ct ad (nI 0) dk tk kd lc sz bh wt bl tg fs = wsM ct ad (nI (mby_c ((z1 : Nat) : Int) ((u1 : Nat) : Int))) dk tk kd lc sz bh wt bl tg fs := (by rw [(show mby_c ((z1 : Nat) : Int) ((u1 : Nat) : Int) = 0 from (by unfold mby_c; (try dsimp only [pj_kd, pj_bl, pj_bh, pj_wt, pj_fs, pj_cd, pj_dk, pj_tk, pj_lc, pj_sz, pj_tg]); first | (rw [if_pos (by omega)]; done) | (rw [if_neg (by omega)]; done)))])
          rw [e9] at hP hD
          exact W.iret (v := mrec ((nI 0), dk, tk, kd, lc, sz, bh, wt, bl, tg, fs) ((1 + (4 * (z1 - 1))) + (u1 / 256)) (u1 % 256)) hx hb hr (fun t9 ht hW => ⟨congrArg (fun z => Outcome.returned (some (Value.int z))) (show mrec ((nI 0), dk, tk, kd, lc, sz, bh, wt, bl, tg, fs) ((1 + (4 * (z1 - 1))) + (u1 / 256)) (u1 % 256) = (if mby_c ((z1 : Nat) : Int) ((u1 : Nat) : Int) = 0 then mby_r (cd, dk, tk, kd, lc, sz, bh, wt, bl, tg, fs) ((z1 : Nat) : Int).toNat ((u1 : Nat) : Int).toNat else nI 0) from (by rw [(show mby_c ((z1 : Nat) : Int) ((u1 : Nat) : Int) = 0 from (by unfold mby_c; (try dsimp only [pj_kd, pj_bl, pj_bh, pj_wt, pj_fs, pj_cd, pj_dk, pj_tk, pj_lc, pj_sz, pj_tg]); first | (rw [if_pos (by omega)]; done) | (rw [if_neg (by omega)]; done)))]; first | rfl | (rw [if_pos rfl, Int.toNat_natCast, Int.toNat_natCast]; unfold mby_r; first | (rw [if_pos (by omega)]; done) | (rw [if_pos (by omega)]; rfl) | (rw [if_neg (by omega)]; done) | (rw [if_neg (by omega)]; rfl)))), by rw [ht]; exact hP, hD, hS.F ht⟩) hS.2.2 d_Mo_byteOf_84
        · skip
          refine lv_aload_n hx hb d_Mo_byteOf_46 rfl (lv_at hl 0 rfl) ?_
          refine va_get (D := D) (ci := 6) (v := .int fs) (C := R_Mo) (T := T_Mo) (N := 11) hx hb hts u_Mo hown hK hP 0 rfl rfl 10 (by decide) (hts _ w_849) (fun _ h9 => h9) rfl d_Mo_byteOf_47 ?_
          refine lv_iload_n hx hb d_Mo_byteOf_50 rfl (lv_at hl 2 rfl) ?_
          refine lv_sipush (v := nI 232) hx hb d_Mo_byteOf_51 (by decide) ?_
          refine lv_isub hx hb d_Mo_byteOf_54 ?_
          have z_7 : ((nI u1) - (nI 232)).toInt = ((u1 : Nat) : Int) - ((232 : Nat) : Int) := z_sub (nI_toInt (by omega)) (nI_toInt (by omega)) (by omega) (by omega)
          refine lv_iconst (v := nI 4) hx hb d_Mo_byteOf_55 (by decide) ?_
          refine rdS ⟨hx, hb, hml, hown, hts⟩ hK hP (k_Mo_part l (v := fs) (z := (((u1 : Nat) : Int) - ((232 : Nat) : Int))) (x_z := ((nI u1) - (nI 232))) (n := ((4 : Nat) : Int)) (x_n := (nI 4)) z_7 (nI_toInt (by omega)) ) w_996 m_Mo_part ⟨by decide, by decide⟩ rfl hl.1 rfl (Nat.le_of_ble_eq_true rfl) d_Mo_byteOf_56 ⟨Nat.zero_le _, Nat.zero_le _⟩ ?_
          refine lv_goto (tgt := 84) hx hb d_Mo_byteOf_59 (by decide) ?_
          have e9 : wsM ct ad (nI 0) dk tk kd lc sz bh wt bl tg fs = wsM ct ad (nI (mby_c ((z1 : Nat) : Int) ((u1 : Nat) : Int))) dk tk kd lc sz bh wt bl tg fs := (by rw [(show mby_c ((z1 : Nat) : Int) ((u1 : Nat) : Int) = 0 from (by unfold mby_c; (try dsimp only [pj_kd, pj_bl, pj_bh, pj_wt, pj_fs, pj_cd, pj_dk, pj_tk, pj_lc, pj_sz, pj_tg]); first | (rw [if_pos (by omega)]; done) | (rw [if_neg (by omega)]; done)))])
          rw [e9] at hP hD
          exact W.iret (v := mpt fs (((u1 : Nat) : Int) - ((232 : Nat) : Int)) ((4 : Nat) : Int)) hx hb hr (fun t9 ht hW => ⟨congrArg (fun z => Outcome.returned (some (Value.int z))) (show mpt fs (((u1 : Nat) : Int) - ((232 : Nat) : Int)) ((4 : Nat) : Int) = (if mby_c ((z1 : Nat) : Int) ((u1 : Nat) : Int) = 0 then mby_r (cd, dk, tk, kd, lc, sz, bh, wt, bl, tg, fs) ((z1 : Nat) : Int).toNat ((u1 : Nat) : Int).toNat else nI 0) from (by rw [(show mby_c ((z1 : Nat) : Int) ((u1 : Nat) : Int) = 0 from (by unfold mby_c; (try dsimp only [pj_kd, pj_bl, pj_bh, pj_wt, pj_fs, pj_cd, pj_dk, pj_tk, pj_lc, pj_sz, pj_tg]); first | (rw [if_pos (by omega)]; done) | (rw [if_neg (by omega)]; done)))]; first | rfl | (rw [if_pos rfl, Int.toNat_natCast, Int.toNat_natCast]; unfold mby_r; first | (rw [if_pos (by omega)]; done) | (rw [if_pos (by omega)]; rfl) | (rw [if_neg (by omega)]; done) | (rw [if_neg (by omega)]; rfl)))), by rw [ht]; exact hP, hD, hS.F ht⟩) hS.2.2 d_Mo_byteOf_84
      · exact absurd c_5 (by omega)
theorem m_Mo_cut : mV R_Mo y_Mo_cut (Cond.code y_Mo_cut c_Mo_cut 6 (some .int)) 2 := ⟨⟨w_949, w_950, w_7, w_951⟩, by decide +kernel⟩
set_option maxHeartbeats 4000000 in
set_option maxRecDepth 100000 in
theorem k_Mo_cut (l : Launch) {D : va_G} {ct : Nat → ClassId} {ad : Nat → Nat} {cd : Int32} {dk : Nat → Int32} {tk kd lc sz bh wt : Nat → Int32} {bl : Nat → Nat} {tg : Nat → Int32} {fs : Int32} {A : Nat → Prop} {f : Nat} {x_f : Int32} (hx_f : x_f.toNatClampNeg = f) {z : Int} {x_z : Int32} (hx_z : x_z.toInt = z) (h0 : bOK bl) (h1 : zOK sz) : Met l y_Mo_cut (Cond.code y_Mo_cut c_Mo_cut 6 (some .int) :: wA) (rmk 4 0 0) (va_Pc [.ref (ad 0), .int x_f, .int x_z] (cW A D (tyM ct) (wsM ct ad cd dk tk kd lc sz bh wt bl tg fs))) (wQ (some (.int (if mcu_c (cd, dk, tk, kd, lc, sz, bh, wt, bl, tg, fs) f z = 0 then sz f else nI 0))) A D (wsM ct ad (pj_cd (mcu (cd, dk, tk, kd, lc, sz, bh, wt, bl, tg, fs) f z)) (pj_dk (mcu (cd, dk, tk, kd, lc, sz, bh, wt, bl, tg, fs) f z)) (pj_tk (mcu (cd, dk, tk, kd, lc, sz, bh, wt, bl, tg, fs) f z)) (pj_kd (mcu (cd, dk, tk, kd, lc, sz, bh, wt, bl, tg, fs) f z)) (pj_lc (mcu (cd, dk, tk, kd, lc, sz, bh, wt, bl, tg, fs) f z)) (pj_sz (mcu (cd, dk, tk, kd, lc, sz, bh, wt, bl, tg, fs) f z)) (pj_bh (mcu (cd, dk, tk, kd, lc, sz, bh, wt, bl, tg, fs) f z)) (pj_wt (mcu (cd, dk, tk, kd, lc, sz, bh, wt, bl, tg, fs) f z)) (pj_bl (mcu (cd, dk, tk, kd, lc, sz, bh, wt, bl, tg, fs) f z)) (pj_tg (mcu (cd, dk, tk, kd, lc, sz, bh, wt, bl, tg, fs) f z)) (pj_fs (mcu (cd, dk, tk, kd, lc, sz, bh, wt, bl, tg, fs) f z)))) 0 0 A := by
  refine Met.ofW (cc := c_Mo_cut) (maxL := 6) (ret := (some .int)) (by decide +kernel) rfl ?_
  intro p e s m args below meth c s₁ B0 hml hv
  obtain ⟨rfl, hA, hP, hD, hK⟩ := hv
  have hS : va_S A s.heap s.heap [] := va_S.rf
  have hx := B0.exec
  have hb := B0.bytes
  have hr := B0.returns
  have hts := fun w (h : w ∈ wA) => atoms_spec (ws := Cond.code y_Mo_cut c_Mo_cut 6 (some .int) :: wA) B0.pre w (List.mem_cons_of_mem _ h)
  have hown : s.vm.findClass R_Mo = some m.cls := findClass_of_methodNamed B0.named
  have hlocks := B0.notSynchronized
  have hl := lv_entry ([.ref (ad 0), .int x_f, .int x_z]) (n := 6) (Nat.le_of_ble_eq_true rfl)
  rw [lg_entry_eq]
  generalize (lg_sl ([.ref (ad 0), .int x_f, .int x_z]) ++ List.replicate (6 - (lg_sl ([.ref (ad 0), .int x_f, .int x_z])).length) Slot.unset).toArray = ls at hl ⊢
  have hl : lv_has ls 6 [(0, .ref (ad 0)), (1, .int x_f), (2, .int x_z)] := hl
  have hf_f : x_f.toInt.toNat = f := hx_f
  have hg_f := z_lt x_f
  have hf_z := z_lt x_z
  have hg_z := z_ge x_z
  rw [hx_z] at hf_z hg_z
  have hbl := h0
  refine lv_aload_n hx hb d_Mo_cut_0 rfl (lv_at hl 0 rfl) ?_
  refine lv_aload_n hx hb d_Mo_cut_1 rfl (lv_at hl 0 rfl) ?_
  refine lv_iload_n hx hb d_Mo_cut_2 rfl (lv_at hl 1 rfl) ?_
  refine rdV ⟨hx, hb, hml, hown, hts⟩ hK hP (k_Mo_isPlain l (f := f) (x_f := x_f) hx_f ) w_918 m_Mo_isPlain ⟨by decide, by decide⟩ 0 rfl rfl rfl hl.1 rfl (Nat.le_of_ble_eq_true rfl) d_Mo_cut_3 ⟨Nat.zero_le _, Nat.zero_le _⟩ ?_
  refine lb_if_eq (tgt := 25) hx hb d_Mo_cut_6 (by decide) (fun c_1 => ?_) (fun c_1 => ?_)
  · skip
    refine lv_iconst (v := nI 1) hx hb d_Mo_cut_25 (by decide) ?_
    refine va_put (D := D) (ci := 6) (v := .int (nI 1)) (ty := .int) (C := R_Mo) (T := T_Mo) (N := 11) hx hb hts u_Mo t_Mo t_Mo_ok n_Mo hown hK hP hD hS 0 rfl rfl 0 (by decide) (hts _ w_839) (fun _ h9 => h9) rfl (by decide +kernel) rfl rfl (Nat.le_of_ble_eq_true rfl) d_Mo_cut_26 (fun H locs hP hD hS => ?_)
    have hP : va_P D vwC (wsM ct ad (nI 1) dk tk kd lc sz bh wt bl tg fs) H := hP
    have hD : va_D A (wsM ct ad (nI 1) dk tk kd lc sz bh wt bl tg fs) := hD
    refine lv_aload_n hx hb d_Mo_cut_29 rfl (lv_at hl 0 rfl) ?_
    refine va_get (D := D) (ci := 6) (v := .int (nI 1)) (C := R_Mo) (T := T_Mo) (N := 11) hx hb hts u_Mo hown hK hP 0 rfl rfl 0 (by decide) (hts _ w_839) (fun _ h9 => h9) rfl d_Mo_cut_30 ?_
    refine ln_if_le (tgt := 38) hx hb (by omega) d_Mo_cut_33 (by decide) (fun c_2 => ?_) (fun c_2 => ?_)
    · exact absurd c_2 (by omega)
    · skip
      refine lv_iconst (v := nI 0) hx hb d_Mo_cut_36 (by decide) ?_
      have e9 : wsM ct ad (nI 1) dk tk kd lc sz bh wt bl tg fs = wsM ct ad (pj_cd (mcu (cd, dk, tk, kd, lc, sz, bh, wt, bl, tg, fs) f z)) (pj_dk (mcu (cd, dk, tk, kd, lc, sz, bh, wt, bl, tg, fs) f z)) (pj_tk (mcu (cd, dk, tk, kd, lc, sz, bh, wt, bl, tg, fs) f z)) (pj_kd (mcu (cd, dk, tk, kd, lc, sz, bh, wt, bl, tg, fs) f z)) (pj_lc (mcu (cd, dk, tk, kd, lc, sz, bh, wt, bl, tg, fs) f z)) (pj_sz (mcu (cd, dk, tk, kd, lc, sz, bh, wt, bl, tg, fs) f z)) (pj_bh (mcu (cd, dk, tk, kd, lc, sz, bh, wt, bl, tg, fs) f z)) (pj_wt (mcu (cd, dk, tk, kd, lc, sz, bh, wt, bl, tg, fs) f z)) (pj_bl (mcu (cd, dk, tk, kd, lc, sz, bh, wt, bl, tg, fs) f z)) (pj_tg (mcu (cd, dk, tk, kd, lc, sz, bh, wt, bl, tg, fs) f z)) (pj_fs (mcu (cd, dk, tk, kd, lc, sz, bh, wt, bl, tg, fs) f z)) := (by have e7 := (show mcu_c (cd, dk, tk, kd, lc, sz, bh, wt, bl, tg, fs) f z = 1 from (by unfold mcu_c; (try dsimp only [pj_kd, pj_bl, pj_bh, pj_wt, pj_fs, pj_cd, pj_dk, pj_tk, pj_lc, pj_sz, pj_tg]); first | (rw [if_neg (fun q => absurd q.1 (by assumption))]; done) | (rw [if_neg (fun q => absurd q.2 (by omega))]; done) | (rw [if_pos ⟨by assumption, by omega⟩]; done))); unfold mcu; rw [e7]; rfl)
      rw [e9] at hP hD
      exact W.iret (v := nI 0) hx hb hr (fun t9 ht hW => ⟨congrArg (fun z => Outcome.returned (some (Value.int z))) (show nI 0 = (if mcu_c (cd, dk, tk, kd, lc, sz, bh, wt, bl, tg, fs) f z = 0 then sz f else nI 0) from (by rw [(show mcu_c (cd, dk, tk, kd, lc, sz, bh, wt, bl, tg, fs) f z = 1 from (by unfold mcu_c; (try dsimp only [pj_kd, pj_bl, pj_bh, pj_wt, pj_fs, pj_cd, pj_dk, pj_tk, pj_lc, pj_sz, pj_tg]); first | (rw [if_neg (fun q => absurd q.1 (by assumption))]; done) | (rw [if_neg (fun q => absurd q.2 (by omega))]; done) | (rw [if_pos ⟨by assumption, by omega⟩]; done)))]; rfl)), by rw [ht]; exact hP, hD, hS.F ht⟩) hS.2.2 d_Mo_cut_37
  · skip
    obtain ⟨⟨⟨f1, f2⟩, f3⟩, f4⟩ := id c_1
    obtain rfl : x_f = nI f := z_cl hx_f (by omega)
    refine lv_iload_n hx hb d_Mo_cut_9 rfl (lv_at hl 2 rfl) ?_
    refine lv_i2l hx hb d_Mo_cut_10 rfl ?_
    refine lv_lconst (v := 0) hx hb d_Mo_cut_11 (by decide) ?_
    refine lv_ldc2 (v := 15360) hx hb hown (hts _ w_927) d_Mo_cut_12 ?_
    refine rdS ⟨hx, hb, hml, hown, hts⟩ hK hP (k_Mo_in l (v := z) (x_v := x_z.toInt64) (u := 0) (x_u := 0) (w := 15360) (x_w := 15360) ((Int32.toInt_toInt64 _).trans hx_z) (show Int64.toInt 0 = 0 by decide) (show Int64.toInt 15360 = 15360 by decide) ) w_883 m_Mo_in ⟨by decide, by decide⟩ rfl hl.1 rfl (Nat.le_of_ble_eq_true rfl) d_Mo_cut_15 ⟨Nat.zero_le _, Nat.zero_le _⟩ ?_
    refine lb_if_eq (tgt := 25) hx hb d_Mo_cut_18 (by decide) (fun c_3 => ?_) (fun c_3 => ?_)
    · skip
      refine lv_iconst (v := nI 1) hx hb d_Mo_cut_25 (by decide) ?_
      refine va_put (D := D) (ci := 6) (v := .int (nI 1)) (ty := .int) (C := R_Mo) (T := T_Mo) (N := 11) hx hb hts u_Mo t_Mo t_Mo_ok n_Mo hown hK hP hD hS 0 rfl rfl 0 (by decide) (hts _ w_839) (fun _ h9 => h9) rfl (by decide +kernel) rfl rfl (Nat.le_of_ble_eq_true rfl) d_Mo_cut_26 (fun H locs hP hD hS => ?_)
      have hP : va_P D vwC (wsM ct ad (nI 1) dk tk kd lc sz bh wt bl tg fs) H := hP
      have hD : va_D A (wsM ct ad (nI 1) dk tk kd lc sz bh wt bl tg fs) := hD
      refine lv_aload_n hx hb d_Mo_cut_29 rfl (lv_at hl 0 rfl) ?_
      refine va_get (D := D) (ci := 6) (v := .int (nI 1)) (C := R_Mo) (T := T_Mo) (N := 11) hx hb hts u_Mo hown hK hP 0 rfl rfl 0 (by decide) (hts _ w_839) (fun _ h9 => h9) rfl d_Mo_cut_30 ?_
      refine ln_if_le (tgt := 38) hx hb (by omega) d_Mo_cut_33 (by decide) (fun c_4 => ?_) (fun c_4 => ?_)
      · exact absurd c_4 (by omega)
      · skip
        refine lv_iconst (v := nI 0) hx hb d_Mo_cut_36 (by decide) ?_
        have e9 : wsM ct ad (nI 1) dk tk kd lc sz bh wt bl tg fs = wsM ct ad (pj_cd (mcu (cd, dk, tk, kd, lc, sz, bh, wt, bl, tg, fs) f z)) (pj_dk (mcu (cd, dk, tk, kd, lc, sz, bh, wt, bl, tg, fs) f z)) (pj_tk (mcu (cd, dk, tk, kd, lc, sz, bh, wt, bl, tg, fs) f z)) (pj_kd (mcu (cd, dk, tk, kd, lc, sz, bh, wt, bl, tg, fs) f z)) (pj_lc (mcu (cd, dk, tk, kd, lc, sz, bh, wt, bl, tg, fs) f z)) (pj_sz (mcu (cd, dk, tk, kd, lc, sz, bh, wt, bl, tg, fs) f z)) (pj_bh (mcu (cd, dk, tk, kd, lc, sz, bh, wt, bl, tg, fs) f z)) (pj_wt (mcu (cd, dk, tk, kd, lc, sz, bh, wt, bl, tg, fs) f z)) (pj_bl (mcu (cd, dk, tk, kd, lc, sz, bh, wt, bl, tg, fs) f z)) (pj_tg (mcu (cd, dk, tk, kd, lc, sz, bh, wt, bl, tg, fs) f z)) (pj_fs (mcu (cd, dk, tk, kd, lc, sz, bh, wt, bl, tg, fs) f z)) := (by have e7 := (show mcu_c (cd, dk, tk, kd, lc, sz, bh, wt, bl, tg, fs) f z = 1 from (by unfold mcu_c; (try dsimp only [pj_kd, pj_bl, pj_bh, pj_wt, pj_fs, pj_cd, pj_dk, pj_tk, pj_lc, pj_sz, pj_tg]); first | (rw [if_neg (fun q => absurd q.1 (by assumption))]; done) | (rw [if_neg (fun q => absurd q.2 (by omega))]; done) | (rw [if_pos ⟨by assumption, by omega⟩]; done))); unfold mcu; rw [e7]; rfl)
        rw [e9] at hP hD
        exact W.iret (v := nI 0) hx hb hr (fun t9 ht hW => ⟨congrArg (fun z => Outcome.returned (some (Value.int z))) (show nI 0 = (if mcu_c (cd, dk, tk, kd, lc, sz, bh, wt, bl, tg, fs) f z = 0 then sz f else nI 0) from (by rw [(show mcu_c (cd, dk, tk, kd, lc, sz, bh, wt, bl, tg, fs) f z = 1 from (by unfold mcu_c; (try dsimp only [pj_kd, pj_bl, pj_bh, pj_wt, pj_fs, pj_cd, pj_dk, pj_tk, pj_lc, pj_sz, pj_tg]); first | (rw [if_neg (fun q => absurd q.1 (by assumption))]; done) | (rw [if_neg (fun q => absurd q.2 (by omega))]; done) | (rw [if_pos ⟨by assumption, by omega⟩]; done)))]; rfl)), by rw [ht]; exact hP, hD, hS.F ht⟩) hS.2.2 d_Mo_cut_37
    · skip
      obtain ⟨z1, rfl⟩ := Int.eq_ofNat_of_zero_le (show 0 ≤ z by omega)
      obtain rfl : x_z = nI z1 := z_i hx_z (by omega)
      refine lv_iconst (v := nI 0) hx hb d_Mo_cut_21 (by decide) ?_
      refine lv_goto (tgt := 26) hx hb d_Mo_cut_22 (by decide) ?_
      refine va_put (D := D) (ci := 6) (v := .int (nI 0)) (ty := .int) (C := R_Mo) (T := T_Mo) (N := 11) hx hb hts u_Mo t_Mo t_Mo_ok n_Mo hown hK hP hD hS 0 rfl rfl 0 (by decide) (hts _ w_839) (fun _ h9 => h9) rfl (by decide +kernel) rfl rfl (Nat.le_of_ble_eq_true rfl) d_Mo_cut_26 (fun H locs hP hD hS => ?_)
      have hP : va_P D vwC (wsM ct ad (nI 0) dk tk kd lc sz bh wt bl tg fs) H := hP
      have hD : va_D A (wsM ct ad (nI 0) dk tk kd lc sz bh wt bl tg fs) := hD
      refine lv_aload_n hx hb d_Mo_cut_29 rfl (lv_at hl 0 rfl) ?_
      refine va_get (D := D) (ci := 6) (v := .int (nI 0)) (C := R_Mo) (T := T_Mo) (N := 11) hx hb hts u_Mo hown hK hP 0 rfl rfl 0 (by decide) (hts _ w_839) (fun _ h9 => h9) rfl d_Mo_cut_30 ?_
      refine ln_if_le (tgt := 38) hx hb (by omega) d_Mo_cut_33 (by decide) (fun c_5 => ?_) (fun c_5 => ?_)
      · skip
        refine lv_aload_n hx hb d_Mo_cut_38 rfl (lv_at hl 0 rfl) ?_
        refine va_get (D := D) (ci := 6) (v := .ref (ad 5)) (C := R_Mo) (T := T_Mo) (N := 11) hx hb hts u_Mo hown hK hP 0 rfl rfl 5 (by decide) (hts _ w_844) (fun _ h9 => h9) rfl d_Mo_cut_39 ?_
        refine lv_iload_n hx hb d_Mo_cut_42 rfl (lv_at hl 1 rfl) ?_
        refine ln_iald hx hb hK hP 5 2 rfl rfl (by omega) (by decide) d_Mo_cut_43 ?_
        refine lv_istore_n (lv' := [(3, .int (sz f)), (0, .ref (ad 0)), (1, .int (nI f)), (2, .int (nI z1))]) hx hb d_Mo_cut_44 rfl hl (by decide) rfl (fun ls hl => ?_)
        refine lv_iconst (v := nI 0) hx hb d_Mo_cut_45 (by decide) ?_
        refine lv_istore (lv' := [(4, .int (nI 0)), (3, .int (sz f)), (0, .ref (ad 0)), (1, .int (nI f)), (2, .int (nI z1))]) hx hb d_Mo_cut_46 hl (by decide) rfl (fun ls hl => ?_)
        have loop48 : ∀ (n9 : Nat) (q : Nat) (G : (Nat → Int32) × (Nat → Nat)), 15 - q < n9 → q ≤ 15 → bOK G.2 → mcl1 f z1 15 0 (tk, bl) = mcl1 f z1 (15 - q) q G → ∀ (H : Heap) (locs : List Loc), va_P D vwC (wsM ct ad (nI 0) dk G.1 kd lc sz bh wt G.2 tg fs) H → va_D A (wsM ct ad (nI 0) dk G.1 kd lc sz bh wt G.2 tg fs) → va_S A s.heap H locs → ∀ ls : Array Slot, lv_has ls 6 [(0, .ref (ad 0)), (1, .int (nI f)), (2, .int (nI z1)), (3, .int (sz f)), (4, .int (nI q))] → W p l e (headSpec (Cond.code y_Mo_cut c_Mo_cut 6 (some .int) :: wA) (rmk 4 0 0)).room s m ([.ref (ad 0), .int (nI f), .int (nI z1)] : List Value).toArray below meth c H locs 0 0 (MQ below (wQ (some (.int (if mcu_c (cd, dk, tk, kd, lc, sz, bh, wt, bl, tg, fs) f ((z1 : Nat) : Int) = 0 then sz f else nI 0))) A D (wsM ct ad (pj_cd (mcu (cd, dk, tk, kd, lc, sz, bh, wt, bl, tg, fs) f ((z1 : Nat) : Int))) (pj_dk (mcu (cd, dk, tk, kd, lc, sz, bh, wt, bl, tg, fs) f ((z1 : Nat) : Int))) (pj_tk (mcu (cd, dk, tk, kd, lc, sz, bh, wt, bl, tg, fs) f ((z1 : Nat) : Int))) (pj_kd (mcu (cd, dk, tk, kd, lc, sz, bh, wt, bl, tg, fs) f ((z1 : Nat) : Int))) (pj_lc (mcu (cd, dk, tk, kd, lc, sz, bh, wt, bl, tg, fs) f ((z1 : Nat) : Int))) (pj_sz (mcu (cd, dk, tk, kd, lc, sz, bh, wt, bl, tg, fs) f ((z1 : Nat) : Int))) (pj_bh (mcu (cd, dk, tk, kd, lc, sz, bh, wt, bl, tg, fs) f ((z1 : Nat) : Int))) (pj_wt (mcu (cd, dk, tk, kd, lc, sz, bh, wt, bl, tg, fs) f ((z1 : Nat) : Int))) (pj_bl (mcu (cd, dk, tk, kd, lc, sz, bh, wt, bl, tg, fs) f ((z1 : Nat) : Int))) (pj_tg (mcu (cd, dk, tk, kd, lc, sz, bh, wt, bl, tg, fs) f ((z1 : Nat) : Int))) (pj_fs (mcu (cd, dk, tk, kd, lc, sz, bh, wt, bl, tg, fs) f ((z1 : Nat) : Int))))) ([.ref (ad 0), .int (nI f), .int (nI z1)] : List Value).toArray s 0 0 A) (F0 m 48 ls []) := by
          intro n9
          induction n9 with
          | zero => intro q G h8 h9 hbl h10 H locs hP hD hS ls hl; exact absurd h8 (by omega)
          | succ n9 ih =>
            intro q G h8 h9 hbl h10 H locs hP hD hS ls hl
            refine lv_iload hx hb d_Mo_cut_48 (lv_at hl 4 rfl) ?_
            refine lv_bipush (v := nI 15) hx hb d_Mo_cut_50 (by decide) ?_
            refine ln_icmp_ge (tgt := 78) hx hb (by omega) (by omega) d_Mo_cut_52 (by decide) (fun c_6 => ?_) (fun c_6 => ?_)
            · skip
              refine lv_iload_n hx hb d_Mo_cut_78 rfl (lv_at hl 2 rfl) ?_
              refine lv_istore (lv' := [(4, .int (nI z1)), (0, .ref (ad 0)), (1, .int (nI f)), (2, .int (nI z1)), (3, .int (sz f))]) hx hb d_Mo_cut_79 hl (by decide) rfl (fun ls hl => ?_)
              have loop81 : ∀ (n9 : Nat) (i : Nat) (d : Nat → Int32) (k : Nat), k < n9 → z1 ≤ i ∧ i + k = z1 + 1024 ∧ (i / 1024 = z1 / 1024 ∨ i % 1024 = 0) → mcl2 G.2 f (sz f) 1024 z1 dk = mcl2 G.2 f (sz f) k i d → ∀ (H : Heap) (locs : List Loc), va_P D vwC (wsM ct ad (nI 0) d G.1 kd lc sz bh wt G.2 tg fs) H → va_D A (wsM ct ad (nI 0) d G.1 kd lc sz bh wt G.2 tg fs) → va_S A s.heap H locs → ∀ ls : Array Slot, lv_has ls 6 [(0, .ref (ad 0)), (1, .int (nI f)), (2, .int (nI z1)), (3, .int (sz f)), (4, .int (nI i))] → W p l e (headSpec (Cond.code y_Mo_cut c_Mo_cut 6 (some .int) :: wA) (rmk 4 0 0)).room s m ([.ref (ad 0), .int (nI f), .int (nI z1)] : List Value).toArray below meth c H locs 0 0 (MQ below (wQ (some (.int (if mcu_c (cd, dk, tk, kd, lc, sz, bh, wt, bl, tg, fs) f ((z1 : Nat) : Int) = 0 then sz f else nI 0))) A D (wsM ct ad (pj_cd (mcu (cd, dk, tk, kd, lc, sz, bh, wt, bl, tg, fs) f ((z1 : Nat) : Int))) (pj_dk (mcu (cd, dk, tk, kd, lc, sz, bh, wt, bl, tg, fs) f ((z1 : Nat) : Int))) (pj_tk (mcu (cd, dk, tk, kd, lc, sz, bh, wt, bl, tg, fs) f ((z1 : Nat) : Int))) (pj_kd (mcu (cd, dk, tk, kd, lc, sz, bh, wt, bl, tg, fs) f ((z1 : Nat) : Int))) (pj_lc (mcu (cd, dk, tk, kd, lc, sz, bh, wt, bl, tg, fs) f ((z1 : Nat) : Int))) (pj_sz (mcu (cd, dk, tk, kd, lc, sz, bh, wt, bl, tg, fs) f ((z1 : Nat) : Int))) (pj_bh (mcu (cd, dk, tk, kd, lc, sz, bh, wt, bl, tg, fs) f ((z1 : Nat) : Int))) (pj_wt (mcu (cd, dk, tk, kd, lc, sz, bh, wt, bl, tg, fs) f ((z1 : Nat) : Int))) (pj_bl (mcu (cd, dk, tk, kd, lc, sz, bh, wt, bl, tg, fs) f ((z1 : Nat) : Int))) (pj_tg (mcu (cd, dk, tk, kd, lc, sz, bh, wt, bl, tg, fs) f ((z1 : Nat) : Int))) (pj_fs (mcu (cd, dk, tk, kd, lc, sz, bh, wt, bl, tg, fs) f ((z1 : Nat) : Int))))) ([.ref (ad 0), .int (nI f), .int (nI z1)] : List Value).toArray s 0 0 A) (F0 m 81 ls []) := by
                intro n9
                induction n9 with
                | zero => intro i d k h18 h19 h20 H locs hP hD hS ls hl; exact absurd h18 (by omega)
                | succ n9 ih =>
                  intro i d k h18 h19 h20 H locs hP hD hS ls hl
                  refine lv_iload hx hb d_Mo_cut_81 (lv_at hl 4 rfl) ?_
                  refine lv_iload_n hx hb d_Mo_cut_83 rfl (lv_at hl 3 rfl) ?_
                  refine lv_icmp_ge (tgt := 144) hx hb d_Mo_cut_84 (by decide) (fun c_7 => ?_) (fun c_7 => ?_)
                  · skip
                    refine lv_aload_n hx hb d_Mo_cut_144 rfl (lv_at hl 0 rfl) ?_
                    refine va_get (D := D) (ci := 6) (v := .ref (ad 5)) (C := R_Mo) (T := T_Mo) (N := 11) hx hb hts u_Mo hown hK hP 0 rfl rfl 5 (by decide) (hts _ w_844) (fun _ h9 => h9) rfl d_Mo_cut_145 ?_
                    refine lv_iload_n hx hb d_Mo_cut_148 rfl (lv_at hl 1 rfl) ?_
                    refine lv_iload_n hx hb d_Mo_cut_149 rfl (lv_at hl 2 rfl) ?_
                    refine ln_iast hx hb hK hP hD hS 5 2 rfl rfl (by omega) (by decide) d_Mo_cut_150 (fun H locs hP hD hS => ?_)
                    have hP : va_P D vwC (wsM ct ad (nI 0) d G.1 kd lc (upd sz f (nI z1)) bh wt G.2 tg fs) H := hP
                    have hD : va_D A (wsM ct ad (nI 0) d G.1 kd lc (upd sz f (nI z1)) bh wt G.2 tg fs) := hD
                    refine lv_iload_n hx hb d_Mo_cut_151 rfl (lv_at hl 3 rfl) ?_
                    have e9 : wsM ct ad (nI 0) d G.1 kd lc (upd sz f (nI z1)) bh wt G.2 tg fs = wsM ct ad (pj_cd (mcu (cd, dk, tk, kd, lc, sz, bh, wt, bl, tg, fs) f ((z1 : Nat) : Int))) (pj_dk (mcu (cd, dk, tk, kd, lc, sz, bh, wt, bl, tg, fs) f ((z1 : Nat) : Int))) (pj_tk (mcu (cd, dk, tk, kd, lc, sz, bh, wt, bl, tg, fs) f ((z1 : Nat) : Int))) (pj_kd (mcu (cd, dk, tk, kd, lc, sz, bh, wt, bl, tg, fs) f ((z1 : Nat) : Int))) (pj_lc (mcu (cd, dk, tk, kd, lc, sz, bh, wt, bl, tg, fs) f ((z1 : Nat) : Int))) (pj_sz (mcu (cd, dk, tk, kd, lc, sz, bh, wt, bl, tg, fs) f ((z1 : Nat) : Int))) (pj_bh (mcu (cd, dk, tk, kd, lc, sz, bh, wt, bl, tg, fs) f ((z1 : Nat) : Int))) (pj_wt (mcu (cd, dk, tk, kd, lc, sz, bh, wt, bl, tg, fs) f ((z1 : Nat) : Int))) (pj_bl (mcu (cd, dk, tk, kd, lc, sz, bh, wt, bl, tg, fs) f ((z1 : Nat) : Int))) (pj_tg (mcu (cd, dk, tk, kd, lc, sz, bh, wt, bl, tg, fs) f ((z1 : Nat) : Int))) (pj_fs (mcu (cd, dk, tk, kd, lc, sz, bh, wt, bl, tg, fs) f ((z1 : Nat) : Int))) := (by have e7 := (show mcu_c (cd, dk, tk, kd, lc, sz, bh, wt, bl, tg, fs) f ((z1 : Nat) : Int) = 0 from (by unfold mcu_c; (try dsimp only [pj_kd, pj_bl, pj_bh, pj_wt, pj_fs, pj_cd, pj_dk, pj_tk, pj_lc, pj_sz, pj_tg]); first | (rw [if_neg (fun q => absurd q.1 (by assumption))]; done) | (rw [if_neg (fun q => absurd q.2 (by omega))]; done) | (rw [if_pos ⟨by assumption, by omega⟩]; done))); unfold mcu; rw [e7, if_pos rfl, Int.toNat_natCast]; dsimp only [pj_kd, pj_bl, pj_bh, pj_wt, pj_fs, pj_cd, pj_dk, pj_tk, pj_lc, pj_sz, pj_tg]; rw [h10, show 15 - q = 0 by omega, mcl1, h20]; rcases k with _ | k; rfl; rw [mcl2]; first | (rw [if_pos (by assumption)]; done) | (rw [if_neg (by assumption), if_pos (by omega)]; done))
                    rw [e9] at hP hD
                    exact W.iret (v := sz f) hx hb hr (fun t9 ht hW => ⟨congrArg (fun z => Outcome.returned (some (Value.int z))) (show sz f = (if mcu_c (cd, dk, tk, kd, lc, sz, bh, wt, bl, tg, fs) f ((z1 : Nat) : Int) = 0 then sz f else nI 0) from (by rw [(show mcu_c (cd, dk, tk, kd, lc, sz, bh, wt, bl, tg, fs) f ((z1 : Nat) : Int) = 0 from (by unfold mcu_c; (try dsimp only [pj_kd, pj_bl, pj_bh, pj_wt, pj_fs, pj_cd, pj_dk, pj_tk, pj_lc, pj_sz, pj_tg]); first | (rw [if_neg (fun q => absurd q.1 (by assumption))]; done) | (rw [if_neg (fun q => absurd q.2 (by omega))]; done) | (rw [if_pos ⟨by assumption, by omega⟩]; done)))]; rfl)), by rw [ht]; exact hP, hD, hS.F ht⟩) hS.2.2 d_Mo_cut_152
                  · skip
                    have hz9 := h1 f
                    have hw9 := mt Int32.le_iff_toInt_le.mpr c_7
                    have hw8 := c_7
                    rw [nI_toInt (by omega)] at hw9
                    refine lv_iload hx hb d_Mo_cut_87 (lv_at hl 4 rfl) ?_
                    refine lv_sipush (v := nI 1024) hx hb d_Mo_cut_89 (by decide) ?_
                    refine ln_irem hx hb d_Mo_cut_92 (by omega) (by omega) (by omega) ?_
                    refine ln_if_eq (tgt := 144) hx hb (by omega) d_Mo_cut_93 (by decide) (fun c_8 => ?_) (fun c_8 => ?_)
                    · skip
                      refine lv_aload_n hx hb d_Mo_cut_144 rfl (lv_at hl 0 rfl) ?_
                      refine va_get (D := D) (ci := 6) (v := .ref (ad 5)) (C := R_Mo) (T := T_Mo) (N := 11) hx hb hts u_Mo hown hK hP 0 rfl rfl 5 (by decide) (hts _ w_844) (fun _ h9 => h9) rfl d_Mo_cut_145 ?_
                      refine lv_iload_n hx hb d_Mo_cut_148 rfl (lv_at hl 1 rfl) ?_
                      refine lv_iload_n hx hb d_Mo_cut_149 rfl (lv_at hl 2 rfl) ?_
                      refine ln_iast hx hb hK hP hD hS 5 2 rfl rfl (by omega) (by decide) d_Mo_cut_150 (fun H locs hP hD hS => ?_)
                      have hP : va_P D vwC (wsM ct ad (nI 0) d G.1 kd lc (upd sz f (nI z1)) bh wt G.2 tg fs) H := hP
                      have hD : va_D A (wsM ct ad (nI 0) d G.1 kd lc (upd sz f (nI z1)) bh wt G.2 tg fs) := hD
                      refine lv_iload_n hx hb d_Mo_cut_151 rfl (lv_at hl 3 rfl) ?_
                      have e9 : wsM ct ad (nI 0) d G.1 kd lc (upd sz f (nI z1)) bh wt G.2 tg fs = wsM ct ad (pj_cd (mcu (cd, dk, tk, kd, lc, sz, bh, wt, bl, tg, fs) f ((z1 : Nat) : Int))) (pj_dk (mcu (cd, dk, tk, kd, lc, sz, bh, wt, bl, tg, fs) f ((z1 : Nat) : Int))) (pj_tk (mcu (cd, dk, tk, kd, lc, sz, bh, wt, bl, tg, fs) f ((z1 : Nat) : Int))) (pj_kd (mcu (cd, dk, tk, kd, lc, sz, bh, wt, bl, tg, fs) f ((z1 : Nat) : Int))) (pj_lc (mcu (cd, dk, tk, kd, lc, sz, bh, wt, bl, tg, fs) f ((z1 : Nat) : Int))) (pj_sz (mcu (cd, dk, tk, kd, lc, sz, bh, wt, bl, tg, fs) f ((z1 : Nat) : Int))) (pj_bh (mcu (cd, dk, tk, kd, lc, sz, bh, wt, bl, tg, fs) f ((z1 : Nat) : Int))) (pj_wt (mcu (cd, dk, tk, kd, lc, sz, bh, wt, bl, tg, fs) f ((z1 : Nat) : Int))) (pj_bl (mcu (cd, dk, tk, kd, lc, sz, bh, wt, bl, tg, fs) f ((z1 : Nat) : Int))) (pj_tg (mcu (cd, dk, tk, kd, lc, sz, bh, wt, bl, tg, fs) f ((z1 : Nat) : Int))) (pj_fs (mcu (cd, dk, tk, kd, lc, sz, bh, wt, bl, tg, fs) f ((z1 : Nat) : Int))) := (by have e7 := (show mcu_c (cd, dk, tk, kd, lc, sz, bh, wt, bl, tg, fs) f ((z1 : Nat) : Int) = 0 from (by unfold mcu_c; (try dsimp only [pj_kd, pj_bl, pj_bh, pj_wt, pj_fs, pj_cd, pj_dk, pj_tk, pj_lc, pj_sz, pj_tg]); first | (rw [if_neg (fun q => absurd q.1 (by assumption))]; done) | (rw [if_neg (fun q => absurd q.2 (by omega))]; done) | (rw [if_pos ⟨by assumption, by omega⟩]; done))); unfold mcu; rw [e7, if_pos rfl, Int.toNat_natCast]; dsimp only [pj_kd, pj_bl, pj_bh, pj_wt, pj_fs, pj_cd, pj_dk, pj_tk, pj_lc, pj_sz, pj_tg]; rw [h10, show 15 - q = 0 by omega, mcl1, h20]; rcases k with _ | k; rfl; rw [mcl2]; first | (rw [if_pos (by assumption)]; done) | (rw [if_neg (by assumption), if_pos (by omega)]; done))
                      rw [e9] at hP hD
                      exact W.iret (v := sz f) hx hb hr (fun t9 ht hW => ⟨congrArg (fun z => Outcome.returned (some (Value.int z))) (show sz f = (if mcu_c (cd, dk, tk, kd, lc, sz, bh, wt, bl, tg, fs) f ((z1 : Nat) : Int) = 0 then sz f else nI 0) from (by rw [(show mcu_c (cd, dk, tk, kd, lc, sz, bh, wt, bl, tg, fs) f ((z1 : Nat) : Int) = 0 from (by unfold mcu_c; (try dsimp only [pj_kd, pj_bl, pj_bh, pj_wt, pj_fs, pj_cd, pj_dk, pj_tk, pj_lc, pj_sz, pj_tg]); first | (rw [if_neg (fun q => absurd q.1 (by assumption))]; done) | (rw [if_neg (fun q => absurd q.2 (by omega))]; done) | (rw [if_pos ⟨by assumption, by omega⟩]; done)))]; rfl)), by rw [ht]; exact hP, hD, hS.F ht⟩) hS.2.2 d_Mo_cut_152
                    · skip
                      rcases k with _ | k
                      · exact absurd h19 (by omega)
                      refine lv_aload_n hx hb d_Mo_cut_96 rfl (lv_at hl 0 rfl) ?_
                      refine va_get (D := D) (ci := 6) (v := .ref (ad 8)) (C := R_Mo) (T := T_Mo) (N := 11) hx hb hts u_Mo hown hK hP 0 rfl rfl 8 (by decide) (hts _ w_847) (fun _ h9 => h9) rfl d_Mo_cut_97 ?_
                      refine lv_bipush (v := nI 15) hx hb d_Mo_cut_100 (by decide) ?_
                      refine lv_iload_n hx hb d_Mo_cut_102 rfl (lv_at hl 1 rfl) ?_
                      refine ln_imul hx hb d_Mo_cut_103 ?_
                      refine lv_iload hx hb d_Mo_cut_104 (lv_at hl 4 rfl) ?_
                      refine lv_sipush (v := nI 1024) hx hb d_Mo_cut_106 (by decide) ?_
                      refine ln_idiv hx hb d_Mo_cut_109 (by omega) (by omega) (by omega) ?_
                      refine ln_iadd hx hb d_Mo_cut_110 ?_
                      refine ln_iald hx hb hK hP 8 2 rfl rfl (by omega) (by decide) d_Mo_cut_111 ?_
                      refine W.eq (g2 := F0 m 112 ls [.int (nI (G.2 ((15 * f) + (i / 1024))))]) rfl ?_
                      have b_9 := hbl ((15 * f) + (i / 1024))
                      refine lv_istore (lv' := [(5, .int (nI (G.2 ((15 * f) + (i / 1024))))), (0, .ref (ad 0)), (1, .int (nI f)), (2, .int (nI z1)), (3, .int (sz f)), (4, .int (nI i))]) hx hb d_Mo_cut_112 hl (by decide) rfl (fun ls hl => ?_)
                      refine lv_iload hx hb d_Mo_cut_114 (lv_at hl 0 rfl) ?_
                      refine ln_if_le (tgt := 138) hx hb (by omega) d_Mo_cut_116 (by decide) (fun c_10 => ?_) (fun c_10 => ?_)
                      · skip
                        refine lv_iinc (v := nI (i + 1)) (lv' := [(4, .int (nI (i + 1))), (5, .int (nI (G.2 ((15 * f) + (i / 1024))))), (0, .ref (ad 0)), (1, .int (nI f)), (2, .int (nI z1)), (3, .int (sz f))]) hx hb d_Mo_cut_138 hl (k := 5) rfl (ln_inc (by decide)) (by decide) rfl (fun ls hl => ?_)
                        refine lv_goto (tgt := 81) hx hb d_Mo_cut_141 (by decide) ?_
                        exact ih (i + 1) d k (by omega) (by omega) (by rw [h20, mcl2, if_neg hw8, if_neg (by omega)]; first | (rw [if_pos (by omega)]; done) | (rw [if_pos (by omega)]; rfl) | (rw [if_neg (by omega)]; done) | (rw [if_neg (by omega)]; rfl)) _ _ hP hD hS ls (lv_sub hl [2, 3, 4, 5, 0] rfl)
                      · skip
                        refine lv_aload_n hx hb d_Mo_cut_119 rfl (lv_at hl 1 rfl) ?_
                        refine va_get (D := D) (ci := 6) (v := .ref (ad 1)) (C := R_Mo) (T := T_Mo) (N := 11) hx hb hts u_Mo hown hK hP 0 rfl rfl 1 (by decide) (hts _ w_840) (fun _ h9 => h9) rfl d_Mo_cut_120 ?_
                        refine lv_sipush (v := nI 1024) hx hb d_Mo_cut_123 (by decide) ?_
                        refine lv_iload hx hb d_Mo_cut_126 (lv_at hl 0 rfl) ?_
                        refine ln_imul hx hb d_Mo_cut_128 ?_
                        refine lv_iload hx hb d_Mo_cut_129 (lv_at hl 5 rfl) ?_
                        refine lv_sipush (v := nI 1024) hx hb d_Mo_cut_131 (by decide) ?_
                        refine ln_irem hx hb d_Mo_cut_134 (by omega) (by omega) (by omega) ?_
                        refine ln_iadd hx hb d_Mo_cut_135 ?_
                        refine lv_iconst (v := nI 0) hx hb d_Mo_cut_136 (by decide) ?_
                        refine ln_bast hx hb hK hP hD hS 1 0 rfl rfl (by omega) (by decide) d_Mo_cut_137 (fun H locs hP hD hS => ?_)
                        have hP : va_P D vwC (wsM ct ad (nI 0) (upd d ((1024 * (G.2 ((15 * f) + (i / 1024)))) + (i % 1024)) (vp_nar .byte (nI 0))) G.1 kd lc sz bh wt G.2 tg fs) H := hP
                        have hD : va_D A (wsM ct ad (nI 0) (upd d ((1024 * (G.2 ((15 * f) + (i / 1024)))) + (i % 1024)) (vp_nar .byte (nI 0))) G.1 kd lc sz bh wt G.2 tg fs) := hD
                        refine lv_iinc (v := nI (i + 1)) (lv' := [(4, .int (nI (i + 1))), (5, .int (nI (G.2 ((15 * f) + (i / 1024))))), (0, .ref (ad 0)), (1, .int (nI f)), (2, .int (nI z1)), (3, .int (sz f))]) hx hb d_Mo_cut_138 hl (k := 5) rfl (ln_inc (by decide)) (by decide) rfl (fun ls hl => ?_)
                        refine lv_goto (tgt := 81) hx hb d_Mo_cut_141 (by decide) ?_
                        exact ih (i + 1) (upd d ((1024 * (G.2 ((15 * f) + (i / 1024)))) + (i % 1024)) (vp_nar .byte (nI 0))) k (by omega) (by omega) (by rw [h20, mcl2, if_neg hw8, if_neg (by omega)]; first | (rw [if_pos (by omega)]; done) | (rw [if_pos (by omega)]; rfl) | (rw [if_neg (by omega)]; done) | (rw [if_neg (by omega)]; rfl)) _ _ hP hD hS ls (lv_sub hl [2, 3, 4, 5, 0] rfl)
              exact loop81 1025 z1 dk 1024 (by omega) (by omega) rfl _ _ hP hD hS ls (lv_sub hl [1, 2, 3, 4, 0] rfl)
            · skip
              refine lv_sipush (v := nI 1024) hx hb d_Mo_cut_55 (by decide) ?_
              refine lv_iload hx hb d_Mo_cut_58 (lv_at hl 4 rfl) ?_
              refine ln_imul hx hb d_Mo_cut_60 ?_
              refine lv_iload_n hx hb d_Mo_cut_61 rfl (lv_at hl 2 rfl) ?_
              refine ln_icmp_lt (tgt := 72) hx hb (by omega) (by omega) d_Mo_cut_62 (by decide) (fun c_11 => ?_) (fun c_11 => ?_)
              · skip
                refine lv_iinc (v := nI (q + 1)) (lv' := [(4, .int (nI (q + 1))), (0, .ref (ad 0)), (1, .int (nI f)), (2, .int (nI z1)), (3, .int (sz f))]) hx hb d_Mo_cut_72 hl (k := 4) rfl (ln_inc (by decide)) (by decide) rfl (fun ls hl => ?_)
                refine lv_goto (tgt := 48) hx hb d_Mo_cut_75 (by decide) ?_
                exact ih (q + 1) (G.1, G.2) (by omega) (by omega) hbl (by rw [h10, show 15 - q = 15 - (q + 1) + 1 by omega, mcl1]; first | (rw [if_pos (by omega)]; done) | (rw [if_pos (by omega)]; rfl) | (rw [if_neg (by omega)]; done) | (rw [if_neg (by omega)]; rfl)) _ _ hP hD hS ls (lv_sub hl [1, 2, 3, 4, 0] rfl)
              · skip
                refine lv_aload_n hx hb d_Mo_cut_65 rfl (lv_at hl 0 rfl) ?_
                refine lv_iload_n hx hb d_Mo_cut_66 rfl (lv_at hl 1 rfl) ?_
                refine lv_iload hx hb d_Mo_cut_67 (lv_at hl 4 rfl) ?_
                refine wrV ⟨hx, hb, hml, hown, hts⟩ hK hP hD hS hA (k_Mo_giveBack l (f := f) (k := q) hbl (by omega) (by omega)) w_952 m_Mo_giveBack ⟨by decide, by decide⟩ 0 rfl rfl rfl hl.1 rfl (Nat.le_of_ble_eq_true rfl) d_Mo_cut_69 ⟨Nat.zero_le _, Nat.zero_le _⟩ (fun H locs hP hD hS => ?_)
                have hbl : bOK (mgB G.2 f q) := mgB_ok hbl
                have hP : va_P D vwC (wsM ct ad (nI 0) dk (mgT G.1 G.2 f q) kd lc sz bh wt (mgB G.2 f q) tg fs) H := hP
                have hD : va_D A (wsM ct ad (nI 0) dk (mgT G.1 G.2 f q) kd lc sz bh wt (mgB G.2 f q) tg fs) := hD
                refine W.eq (g2 := F0 m 72 ls []) rfl ?_
                refine lv_iinc (v := nI (q + 1)) (lv' := [(4, .int (nI (q + 1))), (0, .ref (ad 0)), (1, .int (nI f)), (2, .int (nI z1)), (3, .int (sz f))]) hx hb d_Mo_cut_72 hl (k := 4) rfl (ln_inc (by decide)) (by decide) rfl (fun ls hl => ?_)
                refine lv_goto (tgt := 48) hx hb d_Mo_cut_75 (by decide) ?_
                exact ih (q + 1) ((mgT G.1 G.2 f q), (mgB G.2 f q)) (by omega) (by omega) hbl (by rw [h10, show 15 - q = 15 - (q + 1) + 1 by omega, mcl1]; first | (rw [if_pos (by omega)]; done) | (rw [if_pos (by omega)]; rfl) | (rw [if_neg (by omega)]; done) | (rw [if_neg (by omega)]; rfl)) _ _ hP hD hS ls (lv_sub hl [1, 2, 3, 4, 0] rfl)
        exact loop48 16 0 (tk, bl) (by omega) (by omega) hbl rfl _ _ hP hD hS ls (lv_sub hl [2, 3, 4, 1, 0] rfl)
      · exact absurd c_5 (by omega)
theorem m_Mo_link : mV R_Mo y_Mo_link (Cond.code y_Mo_link c_Mo_link 7 (some .int)) 2 := ⟨⟨w_899, w_900, w_7, w_901⟩, by decide +kernel⟩
set_option maxHeartbeats 4000000 in
set_option maxRecDepth 100000 in
theorem k_Mo_link (l : Launch) {D : va_G} {ct : Nat → ClassId} {ad : Nat → Nat} {cd : Int32} {dk : Nat → Int32} {tk kd lc sz bh wt : Nat → Int32} {bl : Nat → Nat} {tg : Nat → Int32} {fs : Int32} {A : Nat → Prop} {z : Int} {x_z : Int32} (hx_z : x_z.toInt = z) {x : Int32} (h0 : bOK bl) : Met l y_Mo_link (Cond.code y_Mo_link c_Mo_link 7 (some .int) :: wA) (rmk 4 0 0) (va_Pc [.ref (ad 0), .int x_z, .int x] (cW A D (tyM ct) (wsM ct ad cd dk tk kd lc sz bh wt bl tg fs))) (wQ (some (.int (if mlk_c (cd, dk, tk, kd, lc, sz, bh, wt, bl, tg, fs) z = 0 then nI (mff kd 12 1) else nI 0))) A D (wsM ct ad (pj_cd (mlk (cd, dk, tk, kd, lc, sz, bh, wt, bl, tg, fs) z x)) (pj_dk (mlk (cd, dk, tk, kd, lc, sz, bh, wt, bl, tg, fs) z x)) (pj_tk (mlk (cd, dk, tk, kd, lc, sz, bh, wt, bl, tg, fs) z x)) (pj_kd (mlk (cd, dk, tk, kd, lc, sz, bh, wt, bl, tg, fs) z x)) (pj_lc (mlk (cd, dk, tk, kd, lc, sz, bh, wt, bl, tg, fs) z x)) (pj_sz (mlk (cd, dk, tk, kd, lc, sz, bh, wt, bl, tg, fs) z x)) (pj_bh (mlk (cd, dk, tk, kd, lc, sz, bh, wt, bl, tg, fs) z x)) (pj_wt (mlk (cd, dk, tk, kd, lc, sz, bh, wt, bl, tg, fs) z x)) (pj_bl (mlk (cd, dk, tk, kd, lc, sz, bh, wt, bl, tg, fs) z x)) (pj_tg (mlk (cd, dk, tk, kd, lc, sz, bh, wt, bl, tg, fs) z x)) (pj_fs (mlk (cd, dk, tk, kd, lc, sz, bh, wt, bl, tg, fs) z x)))) 0 0 A := by
  refine Met.ofW (cc := c_Mo_link) (maxL := 7) (ret := (some .int)) (by decide +kernel) rfl ?_
  intro p e s m args below meth c s₁ B0 hml hv
  obtain ⟨rfl, hA, hP, hD, hK⟩ := hv
  have hS : va_S A s.heap s.heap [] := va_S.rf
  have hx := B0.exec
  have hb := B0.bytes
  have hr := B0.returns
  have hts := fun w (h : w ∈ wA) => atoms_spec (ws := Cond.code y_Mo_link c_Mo_link 7 (some .int) :: wA) B0.pre w (List.mem_cons_of_mem _ h)
  have hown : s.vm.findClass R_Mo = some m.cls := findClass_of_methodNamed B0.named
  have hlocks := B0.notSynchronized
  have hl := lv_entry ([.ref (ad 0), .int x_z, .int x]) (n := 7) (Nat.le_of_ble_eq_true rfl)
  rw [lg_entry_eq]
  generalize (lg_sl ([.ref (ad 0), .int x_z, .int x]) ++ List.replicate (7 - (lg_sl ([.ref (ad 0), .int x_z, .int x])).length) Slot.unset).toArray = ls at hl ⊢
  have hl : lv_has ls 7 [(0, .ref (ad 0)), (1, .int x_z), (2, .int x)] := hl
  have hf_z := z_lt x_z
  have hg_z := z_ge x_z
  rw [hx_z] at hf_z hg_z
  have hbl := h0
  refine lv_aload_n hx hb d_Mo_link_0 rfl (lv_at hl 0 rfl) ?_
  refine lv_iload_n hx hb d_Mo_link_1 rfl (lv_at hl 1 rfl) ?_
  refine lv_i2l hx hb d_Mo_link_2 rfl ?_
  refine lv_lconst (v := 1) hx hb d_Mo_link_3 (by decide) ?_
  refine lv_ldc2 (v := 1000) hx hb hown (hts _ w_882) d_Mo_link_4 ?_
  refine rdS ⟨hx, hb, hml, hown, hts⟩ hK hP (k_Mo_in l (v := z) (x_v := x_z.toInt64) (u := 1) (x_u := 1) (w := 1000) (x_w := 1000) ((Int32.toInt_toInt64 _).trans hx_z) (show Int64.toInt 1 = 1 by decide) (show Int64.toInt 1000 = 1000 by decide) ) w_883 m_Mo_in ⟨by decide, by decide⟩ rfl hl.1 rfl (Nat.le_of_ble_eq_true rfl) d_Mo_link_7 ⟨Nat.zero_le _, Nat.zero_le _⟩ ?_
  refine lb_if_ne (tgt := 17) hx hb d_Mo_link_10 (by decide) (fun c_1 => ?_) (fun c_1 => ?_)
  · skip
    refine lv_aload_n hx hb d_Mo_link_17 rfl (lv_at hl 0 rfl) ?_
    refine rdV ⟨hx, hb, hml, hown, hts⟩ hK hP (k_Mo_freeFile l  ) w_886 m_Mo_freeFile ⟨by decide, by decide⟩ 0 rfl rfl rfl hl.1 rfl (Nat.le_of_ble_eq_true rfl) d_Mo_link_18 ⟨Nat.zero_le _, Nat.zero_le _⟩ ?_
    obtain ⟨f, hf9⟩ : ∃ f : Nat, f = mff kd 12 1 := ⟨_, rfl⟩
    have hl9f : f ≤ 12 := by have := mff_le (kd := kd) 12 1 (by omega); omega
    refine W.eq (g2 := F0 m 21 ls [.int (nI f), .ref (ad 0)]) (by rw [hf9]) ?_
    refine ln_if_eq (tgt := 37) hx hb (by omega) d_Mo_link_21 (by decide) (fun c_2 => ?_) (fun c_2 => ?_)
    · skip
      refine lv_iconst (v := nI 2) hx hb d_Mo_link_37 (by decide) ?_
      refine lv_goto (tgt := 42) hx hb d_Mo_link_38 (by decide) ?_
      refine va_put (D := D) (ci := 6) (v := .int (nI 2)) (ty := .int) (C := R_Mo) (T := T_Mo) (N := 11) hx hb hts u_Mo t_Mo t_Mo_ok n_Mo hown hK hP hD hS 0 rfl rfl 0 (by decide) (hts _ w_839) (fun _ h9 => h9) rfl (by decide +kernel) rfl rfl (Nat.le_of_ble_eq_true rfl) d_Mo_link_42 (fun H locs hP hD hS => ?_)
      have hP : va_P D vwC (wsM ct ad (nI 2) dk tk kd lc sz bh wt bl tg fs) H := hP
      have hD : va_D A (wsM ct ad (nI 2) dk tk kd lc sz bh wt bl tg fs) := hD
      refine lv_aload_n hx hb d_Mo_link_45 rfl (lv_at hl 0 rfl) ?_
      refine va_get (D := D) (ci := 6) (v := .int (nI 2)) (C := R_Mo) (T := T_Mo) (N := 11) hx hb hts u_Mo hown hK hP 0 rfl rfl 0 (by decide) (hts _ w_839) (fun _ h9 => h9) rfl d_Mo_link_46 ?_
      refine ln_if_le (tgt := 54) hx hb (by omega) d_Mo_link_49 (by decide) (fun c_3 => ?_) (fun c_3 => ?_)
      · exact absurd c_3 (by omega)
      · skip
        refine lv_iconst (v := nI 0) hx hb d_Mo_link_52 (by decide) ?_
        have e9 : wsM ct ad (nI 2) dk tk kd lc sz bh wt bl tg fs = wsM ct ad (pj_cd (mlk (cd, dk, tk, kd, lc, sz, bh, wt, bl, tg, fs) z x)) (pj_dk (mlk (cd, dk, tk, kd, lc, sz, bh, wt, bl, tg, fs) z x)) (pj_tk (mlk (cd, dk, tk, kd, lc, sz, bh, wt, bl, tg, fs) z x)) (pj_kd (mlk (cd, dk, tk, kd, lc, sz, bh, wt, bl, tg, fs) z x)) (pj_lc (mlk (cd, dk, tk, kd, lc, sz, bh, wt, bl, tg, fs) z x)) (pj_sz (mlk (cd, dk, tk, kd, lc, sz, bh, wt, bl, tg, fs) z x)) (pj_bh (mlk (cd, dk, tk, kd, lc, sz, bh, wt, bl, tg, fs) z x)) (pj_wt (mlk (cd, dk, tk, kd, lc, sz, bh, wt, bl, tg, fs) z x)) (pj_bl (mlk (cd, dk, tk, kd, lc, sz, bh, wt, bl, tg, fs) z x)) (pj_tg (mlk (cd, dk, tk, kd, lc, sz, bh, wt, bl, tg, fs) z x)) (pj_fs (mlk (cd, dk, tk, kd, lc, sz, bh, wt, bl, tg, fs) z x)) := (by have e7 := (show mlk_c (cd, dk, tk, kd, lc, sz, bh, wt, bl, tg, fs) z = 2 from (by unfold mlk_c; (try dsimp only [pj_kd, pj_bl, pj_bh, pj_wt, pj_fs, pj_cd, pj_dk, pj_tk, pj_lc, pj_sz, pj_tg]); first | (rw [if_neg (by omega)]; done) | (rw [if_pos (by omega), if_pos (by omega)]; done) | (rw [if_pos (by omega), if_neg (by omega)]; done))); unfold mlk; rw [e7]; rfl)
        rw [e9] at hP hD
        exact W.iret (v := nI 0) hx hb hr (fun t9 ht hW => ⟨congrArg (fun z => Outcome.returned (some (Value.int z))) (show nI 0 = (if mlk_c (cd, dk, tk, kd, lc, sz, bh, wt, bl, tg, fs) z = 0 then nI (mff kd 12 1) else nI 0) from (by rw [(show mlk_c (cd, dk, tk, kd, lc, sz, bh, wt, bl, tg, fs) z = 2 from (by unfold mlk_c; (try dsimp only [pj_kd, pj_bl, pj_bh, pj_wt, pj_fs, pj_cd, pj_dk, pj_tk, pj_lc, pj_sz, pj_tg]); first | (rw [if_neg (by omega)]; done) | (rw [if_pos (by omega), if_pos (by omega)]; done) | (rw [if_pos (by omega), if_neg (by omega)]; done)))]; first | rfl | (rw [if_pos rfl, ← hf9]))), by rw [ht]; exact hP, hD, hS.F ht⟩) hS.2.2 d_Mo_link_53
    · skip
      refine lv_iload_n hx hb d_Mo_link_24 rfl (lv_at hl 1 rfl) ?_
      refine lv_bipush (v := nI 59) hx hb d_Mo_link_25 (by decide) ?_
      refine lz_icmp_le (tgt := 41) hx hb hx_z (nI_toInt (by omega)) d_Mo_link_27 (by decide) (fun c_4 => ?_) (fun c_4 => ?_)
      · skip
        refine lv_iconst (v := nI 0) hx hb d_Mo_link_41 (by decide) ?_
        refine va_put (D := D) (ci := 6) (v := .int (nI 0)) (ty := .int) (C := R_Mo) (T := T_Mo) (N := 11) hx hb hts u_Mo t_Mo t_Mo_ok n_Mo hown hK hP hD hS 0 rfl rfl 0 (by decide) (hts _ w_839) (fun _ h9 => h9) rfl (by decide +kernel) rfl rfl (Nat.le_of_ble_eq_true rfl) d_Mo_link_42 (fun H locs hP hD hS => ?_)
        have hP : va_P D vwC (wsM ct ad (nI 0) dk tk kd lc sz bh wt bl tg fs) H := hP
        have hD : va_D A (wsM ct ad (nI 0) dk tk kd lc sz bh wt bl tg fs) := hD
        refine lv_aload_n hx hb d_Mo_link_45 rfl (lv_at hl 0 rfl) ?_
        refine va_get (D := D) (ci := 6) (v := .int (nI 0)) (C := R_Mo) (T := T_Mo) (N := 11) hx hb hts u_Mo hown hK hP 0 rfl rfl 0 (by decide) (hts _ w_839) (fun _ h9 => h9) rfl d_Mo_link_46 ?_
        refine ln_if_le (tgt := 54) hx hb (by omega) d_Mo_link_49 (by decide) (fun c_5 => ?_) (fun c_5 => ?_)
        · skip
          obtain ⟨z1, rfl⟩ := Int.eq_ofNat_of_zero_le (show 0 ≤ z by omega)
          obtain rfl : x_z = nI z1 := z_i hx_z (by omega)
          refine lv_aload_n hx hb d_Mo_link_54 rfl (lv_at hl 0 rfl) ?_
          refine lv_iconst (v := nI 3) hx hb d_Mo_link_55 (by decide) ?_
          refine lv_iconst (v := nI 1) hx hb d_Mo_link_56 (by decide) ?_
          refine wrV ⟨hx, hb, hml, hown, hts⟩ hK hP hD hS hA (k_Mo_begin l (k := (nI 3)) (v := (nI 1)) hbl (by omega)) w_890 m_Mo_begin ⟨by decide, by decide⟩ 0 rfl rfl rfl hl.1 rfl (Nat.le_of_ble_eq_true rfl) d_Mo_link_57 ⟨Nat.zero_le _, Nat.zero_le _⟩ (fun H locs hP hD hS => ?_)
          have hbl : bOK (pj_bl (mbeg ((nI 0), dk, tk, kd, lc, sz, bh, wt, bl, tg, fs) (nI 3) (nI 1))) := mbeg_ok hbl
          have hP : va_P D vwC (wsM ct ad (pj_cd (mbeg ((nI 0), dk, tk, kd, lc, sz, bh, wt, bl, tg, fs) (nI 3) (nI 1))) (pj_dk (mbeg ((nI 0), dk, tk, kd, lc, sz, bh, wt, bl, tg, fs) (nI 3) (nI 1))) (pj_tk (mbeg ((nI 0), dk, tk, kd, lc, sz, bh, wt, bl, tg, fs) (nI 3) (nI 1))) (pj_kd (mbeg ((nI 0), dk, tk, kd, lc, sz, bh, wt, bl, tg, fs) (nI 3) (nI 1))) (pj_lc (mbeg ((nI 0), dk, tk, kd, lc, sz, bh, wt, bl, tg, fs) (nI 3) (nI 1))) (pj_sz (mbeg ((nI 0), dk, tk, kd, lc, sz, bh, wt, bl, tg, fs) (nI 3) (nI 1))) (pj_bh (mbeg ((nI 0), dk, tk, kd, lc, sz, bh, wt, bl, tg, fs) (nI 3) (nI 1))) (pj_wt (mbeg ((nI 0), dk, tk, kd, lc, sz, bh, wt, bl, tg, fs) (nI 3) (nI 1))) (pj_bl (mbeg ((nI 0), dk, tk, kd, lc, sz, bh, wt, bl, tg, fs) (nI 3) (nI 1))) (pj_tg (mbeg ((nI 0), dk, tk, kd, lc, sz, bh, wt, bl, tg, fs) (nI 3) (nI 1))) (pj_fs (mbeg ((nI 0), dk, tk, kd, lc, sz, bh, wt, bl, tg, fs) (nI 3) (nI 1)))) H := hP
          have hD : va_D A (wsM ct ad (pj_cd (mbeg ((nI 0), dk, tk, kd, lc, sz, bh, wt, bl, tg, fs) (nI 3) (nI 1))) (pj_dk (mbeg ((nI 0), dk, tk, kd, lc, sz, bh, wt, bl, tg, fs) (nI 3) (nI 1))) (pj_tk (mbeg ((nI 0), dk, tk, kd, lc, sz, bh, wt, bl, tg, fs) (nI 3) (nI 1))) (pj_kd (mbeg ((nI 0), dk, tk, kd, lc, sz, bh, wt, bl, tg, fs) (nI 3) (nI 1))) (pj_lc (mbeg ((nI 0), dk, tk, kd, lc, sz, bh, wt, bl, tg, fs) (nI 3) (nI 1))) (pj_sz (mbeg ((nI 0), dk, tk, kd, lc, sz, bh, wt, bl, tg, fs) (nI 3) (nI 1))) (pj_bh (mbeg ((nI 0), dk, tk, kd, lc, sz, bh, wt, bl, tg, fs) (nI 3) (nI 1))) (pj_wt (mbeg ((nI 0), dk, tk, kd, lc, sz, bh, wt, bl, tg, fs) (nI 3) (nI 1))) (pj_bl (mbeg ((nI 0), dk, tk, kd, lc, sz, bh, wt, bl, tg, fs) (nI 3) (nI 1))) (pj_tg (mbeg ((nI 0), dk, tk, kd, lc, sz, bh, wt, bl, tg, fs) (nI 3) (nI 1))) (pj_fs (mbeg ((nI 0), dk, tk, kd, lc, sz, bh, wt, bl, tg, fs) (nI 3) (nI 1)))) := hD
          refine W.eq (g2 := F0 m 60 ls [.int (nI (mff kd 12 1))]) rfl ?_
          refine W.eq (g2 := F0 m 60 ls [.int (nI f)]) (by rw [hf9]) ?_
          refine lv_istore_n (lv' := [(3, .int (nI f)), (0, .ref (ad 0)), (1, .int (nI z1)), (2, .int x)]) hx hb d_Mo_link_60 rfl hl (by decide) rfl (fun ls hl => ?_)
          refine lv_aload_n hx hb d_Mo_link_61 rfl (lv_at hl 1 rfl) ?_
          refine va_get (D := D) (ci := 6) (v := .ref (ad 5)) (C := R_Mo) (T := T_Mo) (N := 11) hx hb hts u_Mo hown hK hP 0 rfl rfl 5 (by decide) (hts _ w_844) (fun _ h9 => h9) rfl d_Mo_link_62 ?_
          refine lv_iload_n hx hb d_Mo_link_65 rfl (lv_at hl 0 rfl) ?_
          refine lv_iload_n hx hb d_Mo_link_66 rfl (lv_at hl 2 rfl) ?_
          refine ln_iast hx hb hK hP hD hS 5 2 rfl rfl (by omega) (by decide) d_Mo_link_67 (fun H locs hP hD hS => ?_)
          have hP : va_P D vwC (wsM ct ad (pj_cd (mbeg ((nI 0), dk, tk, kd, lc, sz, bh, wt, bl, tg, fs) (nI 3) (nI 1))) (pj_dk (mbeg ((nI 0), dk, tk, kd, lc, sz, bh, wt, bl, tg, fs) (nI 3) (nI 1))) (pj_tk (mbeg ((nI 0), dk, tk, kd, lc, sz, bh, wt, bl, tg, fs) (nI 3) (nI 1))) (pj_kd (mbeg ((nI 0), dk, tk, kd, lc, sz, bh, wt, bl, tg, fs) (nI 3) (nI 1))) (pj_lc (mbeg ((nI 0), dk, tk, kd, lc, sz, bh, wt, bl, tg, fs) (nI 3) (nI 1))) (upd (pj_sz (mbeg ((nI 0), dk, tk, kd, lc, sz, bh, wt, bl, tg, fs) (nI 3) (nI 1))) f (nI z1)) (pj_bh (mbeg ((nI 0), dk, tk, kd, lc, sz, bh, wt, bl, tg, fs) (nI 3) (nI 1))) (pj_wt (mbeg ((nI 0), dk, tk, kd, lc, sz, bh, wt, bl, tg, fs) (nI 3) (nI 1))) (pj_bl (mbeg ((nI 0), dk, tk, kd, lc, sz, bh, wt, bl, tg, fs) (nI 3) (nI 1))) (pj_tg (mbeg ((nI 0), dk, tk, kd, lc, sz, bh, wt, bl, tg, fs) (nI 3) (nI 1))) (pj_fs (mbeg ((nI 0), dk, tk, kd, lc, sz, bh, wt, bl, tg, fs) (nI 3) (nI 1)))) H := hP
          have hD : va_D A (wsM ct ad (pj_cd (mbeg ((nI 0), dk, tk, kd, lc, sz, bh, wt, bl, tg, fs) (nI 3) (nI 1))) (pj_dk (mbeg ((nI 0), dk, tk, kd, lc, sz, bh, wt, bl, tg, fs) (nI 3) (nI 1))) (pj_tk (mbeg ((nI 0), dk, tk, kd, lc, sz, bh, wt, bl, tg, fs) (nI 3) (nI 1))) (pj_kd (mbeg ((nI 0), dk, tk, kd, lc, sz, bh, wt, bl, tg, fs) (nI 3) (nI 1))) (pj_lc (mbeg ((nI 0), dk, tk, kd, lc, sz, bh, wt, bl, tg, fs) (nI 3) (nI 1))) (upd (pj_sz (mbeg ((nI 0), dk, tk, kd, lc, sz, bh, wt, bl, tg, fs) (nI 3) (nI 1))) f (nI z1)) (pj_bh (mbeg ((nI 0), dk, tk, kd, lc, sz, bh, wt, bl, tg, fs) (nI 3) (nI 1))) (pj_wt (mbeg ((nI 0), dk, tk, kd, lc, sz, bh, wt, bl, tg, fs) (nI 3) (nI 1))) (pj_bl (mbeg ((nI 0), dk, tk, kd, lc, sz, bh, wt, bl, tg, fs) (nI 3) (nI 1))) (pj_tg (mbeg ((nI 0), dk, tk, kd, lc, sz, bh, wt, bl, tg, fs) (nI 3) (nI 1))) (pj_fs (mbeg ((nI 0), dk, tk, kd, lc, sz, bh, wt, bl, tg, fs) (nI 3) (nI 1)))) := hD
          refine lv_iload_n hx hb d_Mo_link_68 rfl (lv_at hl 2 rfl) ?_
          refine lv_bipush (v := nI 59) hx hb d_Mo_link_69 (by decide) ?_
          refine ln_icmp_le (tgt := 80) hx hb (by omega) (by omega) d_Mo_link_71 (by decide) (fun c_6 => ?_) (fun c_6 => ?_)
          · skip
            refine lv_iconst (v := nI 0) hx hb d_Mo_link_80 (by decide) ?_
            refine lv_istore (lv' := [(4, .int (nI 0)), (3, .int (nI f)), (0, .ref (ad 0)), (1, .int (nI z1)), (2, .int x)]) hx hb d_Mo_link_81 hl (by decide) rfl (fun ls hl => ?_)
            have loop83 : ∀ (n9 : Nat) (i : Nat) (d : Nat → Int32), z1 - i < n9 → i ≤ z1 → mlkt f x z1 0 (pj_tg (mlk1 (cd, dk, tk, kd, lc, sz, bh, wt, bl, tg, fs) z1 f)) = mlkt f x (z1 - i) i d → ∀ (H : Heap) (locs : List Loc), va_P D vwC (wsM ct ad (pj_cd (mbeg ((nI 0), dk, tk, kd, lc, sz, bh, wt, bl, tg, fs) (nI 3) (nI 1))) (pj_dk (mbeg ((nI 0), dk, tk, kd, lc, sz, bh, wt, bl, tg, fs) (nI 3) (nI 1))) (pj_tk (mbeg ((nI 0), dk, tk, kd, lc, sz, bh, wt, bl, tg, fs) (nI 3) (nI 1))) (pj_kd (mbeg ((nI 0), dk, tk, kd, lc, sz, bh, wt, bl, tg, fs) (nI 3) (nI 1))) (pj_lc (mbeg ((nI 0), dk, tk, kd, lc, sz, bh, wt, bl, tg, fs) (nI 3) (nI 1))) (upd (pj_sz (mbeg ((nI 0), dk, tk, kd, lc, sz, bh, wt, bl, tg, fs) (nI 3) (nI 1))) f (nI z1)) (pj_bh (mbeg ((nI 0), dk, tk, kd, lc, sz, bh, wt, bl, tg, fs) (nI 3) (nI 1))) (pj_wt (mbeg ((nI 0), dk, tk, kd, lc, sz, bh, wt, bl, tg, fs) (nI 3) (nI 1))) (pj_bl (mbeg ((nI 0), dk, tk, kd, lc, sz, bh, wt, bl, tg, fs) (nI 3) (nI 1))) d (pj_fs (mbeg ((nI 0), dk, tk, kd, lc, sz, bh, wt, bl, tg, fs) (nI 3) (nI 1)))) H → va_D A (wsM ct ad (pj_cd (mbeg ((nI 0), dk, tk, kd, lc, sz, bh, wt, bl, tg, fs) (nI 3) (nI 1))) (pj_dk (mbeg ((nI 0), dk, tk, kd, lc, sz, bh, wt, bl, tg, fs) (nI 3) (nI 1))) (pj_tk (mbeg ((nI 0), dk, tk, kd, lc, sz, bh, wt, bl, tg, fs) (nI 3) (nI 1))) (pj_kd (mbeg ((nI 0), dk, tk, kd, lc, sz, bh, wt, bl, tg, fs) (nI 3) (nI 1))) (pj_lc (mbeg ((nI 0), dk, tk, kd, lc, sz, bh, wt, bl, tg, fs) (nI 3) (nI 1))) (upd (pj_sz (mbeg ((nI 0), dk, tk, kd, lc, sz, bh, wt, bl, tg, fs) (nI 3) (nI 1))) f (nI z1)) (pj_bh (mbeg ((nI 0), dk, tk, kd, lc, sz, bh, wt, bl, tg, fs) (nI 3) (nI 1))) (pj_wt (mbeg ((nI 0), dk, tk, kd, lc, sz, bh, wt, bl, tg, fs) (nI 3) (nI 1))) (pj_bl (mbeg ((nI 0), dk, tk, kd, lc, sz, bh, wt, bl, tg, fs) (nI 3) (nI 1))) d (pj_fs (mbeg ((nI 0), dk, tk, kd, lc, sz, bh, wt, bl, tg, fs) (nI 3) (nI 1)))) → va_S A s.heap H locs → ∀ ls : Array Slot, lv_has ls 7 [(0, .ref (ad 0)), (1, .int (nI z1)), (2, .int x), (3, .int (nI f)), (4, .int (nI i))] → W p l e (headSpec (Cond.code y_Mo_link c_Mo_link 7 (some .int) :: wA) (rmk 4 0 0)).room s m ([.ref (ad 0), .int (nI z1), .int x] : List Value).toArray below meth c H locs 0 0 (MQ below (wQ (some (.int (if mlk_c (cd, dk, tk, kd, lc, sz, bh, wt, bl, tg, fs) ((z1 : Nat) : Int) = 0 then nI (mff kd 12 1) else nI 0))) A D (wsM ct ad (pj_cd (mlk (cd, dk, tk, kd, lc, sz, bh, wt, bl, tg, fs) ((z1 : Nat) : Int) x)) (pj_dk (mlk (cd, dk, tk, kd, lc, sz, bh, wt, bl, tg, fs) ((z1 : Nat) : Int) x)) (pj_tk (mlk (cd, dk, tk, kd, lc, sz, bh, wt, bl, tg, fs) ((z1 : Nat) : Int) x)) (pj_kd (mlk (cd, dk, tk, kd, lc, sz, bh, wt, bl, tg, fs) ((z1 : Nat) : Int) x)) (pj_lc (mlk (cd, dk, tk, kd, lc, sz, bh, wt, bl, tg, fs) ((z1 : Nat) : Int) x)) (pj_sz (mlk (cd, dk, tk, kd, lc, sz, bh, wt, bl, tg, fs) ((z1 : Nat) : Int) x)) (pj_bh (mlk (cd, dk, tk, kd, lc, sz, bh, wt, bl, tg, fs) ((z1 : Nat) : Int) x)) (pj_wt (mlk (cd, dk, tk, kd, lc, sz, bh, wt, bl, tg, fs) ((z1 : Nat) : Int) x)) (pj_bl (mlk (cd, dk, tk, kd, lc, sz, bh, wt, bl, tg, fs) ((z1 : Nat) : Int) x)) (pj_tg (mlk (cd, dk, tk, kd, lc, sz, bh, wt, bl, tg, fs) ((z1 : Nat) : Int) x)) (pj_fs (mlk (cd, dk, tk, kd, lc, sz, bh, wt, bl, tg, fs) ((z1 : Nat) : Int) x)))) ([.ref (ad 0), .int (nI z1), .int x] : List Value).toArray s 0 0 A) (F0 m 83 ls []) := by
              intro n9
              induction n9 with
              | zero => intro i d h8 h9 h10 H locs hP hD hS ls hl; exact absurd h8 (by omega)
              | succ n9 ih =>
                intro i d h8 h9 h10 H locs hP hD hS ls hl
                refine lv_iload hx hb d_Mo_link_83 (lv_at hl 4 rfl) ?_
                refine lv_iload_n hx hb d_Mo_link_85 rfl (lv_at hl 1 rfl) ?_
                refine ln_icmp_ge (tgt := 173) hx hb (by omega) (by omega) d_Mo_link_86 (by decide) (fun c_7 => ?_) (fun c_7 => ?_)
                · skip
                  refine lv_iload_n hx hb d_Mo_link_173 rfl (lv_at hl 3 rfl) ?_
                  have e9 : wsM ct ad (pj_cd (mbeg ((nI 0), dk, tk, kd, lc, sz, bh, wt, bl, tg, fs) (nI 3) (nI 1))) (pj_dk (mbeg ((nI 0), dk, tk, kd, lc, sz, bh, wt, bl, tg, fs) (nI 3) (nI 1))) (pj_tk (mbeg ((nI 0), dk, tk, kd, lc, sz, bh, wt, bl, tg, fs) (nI 3) (nI 1))) (pj_kd (mbeg ((nI 0), dk, tk, kd, lc, sz, bh, wt, bl, tg, fs) (nI 3) (nI 1))) (pj_lc (mbeg ((nI 0), dk, tk, kd, lc, sz, bh, wt, bl, tg, fs) (nI 3) (nI 1))) (upd (pj_sz (mbeg ((nI 0), dk, tk, kd, lc, sz, bh, wt, bl, tg, fs) (nI 3) (nI 1))) f (nI z1)) (pj_bh (mbeg ((nI 0), dk, tk, kd, lc, sz, bh, wt, bl, tg, fs) (nI 3) (nI 1))) (pj_wt (mbeg ((nI 0), dk, tk, kd, lc, sz, bh, wt, bl, tg, fs) (nI 3) (nI 1))) (pj_bl (mbeg ((nI 0), dk, tk, kd, lc, sz, bh, wt, bl, tg, fs) (nI 3) (nI 1))) d (pj_fs (mbeg ((nI 0), dk, tk, kd, lc, sz, bh, wt, bl, tg, fs) (nI 3) (nI 1))) = wsM ct ad (pj_cd (mlk (cd, dk, tk, kd, lc, sz, bh, wt, bl, tg, fs) ((z1 : Nat) : Int) x)) (pj_dk (mlk (cd, dk, tk, kd, lc, sz, bh, wt, bl, tg, fs) ((z1 : Nat) : Int) x)) (pj_tk (mlk (cd, dk, tk, kd, lc, sz, bh, wt, bl, tg, fs) ((z1 : Nat) : Int) x)) (pj_kd (mlk (cd, dk, tk, kd, lc, sz, bh, wt, bl, tg, fs) ((z1 : Nat) : Int) x)) (pj_lc (mlk (cd, dk, tk, kd, lc, sz, bh, wt, bl, tg, fs) ((z1 : Nat) : Int) x)) (pj_sz (mlk (cd, dk, tk, kd, lc, sz, bh, wt, bl, tg, fs) ((z1 : Nat) : Int) x)) (pj_bh (mlk (cd, dk, tk, kd, lc, sz, bh, wt, bl, tg, fs) ((z1 : Nat) : Int) x)) (pj_wt (mlk (cd, dk, tk, kd, lc, sz, bh, wt, bl, tg, fs) ((z1 : Nat) : Int) x)) (pj_bl (mlk (cd, dk, tk, kd, lc, sz, bh, wt, bl, tg, fs) ((z1 : Nat) : Int) x)) (pj_tg (mlk (cd, dk, tk, kd, lc, sz, bh, wt, bl, tg, fs) ((z1 : Nat) : Int) x)) (pj_fs (mlk (cd, dk, tk, kd, lc, sz, bh, wt, bl, tg, fs) ((z1 : Nat) : Int) x)) := (by have e7 := (show mlk_c (cd, dk, tk, kd, lc, sz, bh, wt, bl, tg, fs) ((z1 : Nat) : Int) = 0 from (by unfold mlk_c; (try dsimp only [pj_kd, pj_bl, pj_bh, pj_wt, pj_fs, pj_cd, pj_dk, pj_tk, pj_lc, pj_sz, pj_tg]); first | (rw [if_neg (by omega)]; done) | (rw [if_pos (by omega), if_pos (by omega)]; done) | (rw [if_pos (by omega), if_neg (by omega)]; done))); unfold mlk; rw [e7, if_pos rfl, Int.toNat_natCast, ← hf9]; unfold mlkF; first | (rw [if_pos (by omega), h10, show z1 - i = 0 by omega]; rfl) | (rw [if_neg (by omega), h10, show z1 - i = 0 by omega]; rfl))
                  rw [e9] at hP hD
                  exact W.iret (v := nI f) hx hb hr (fun t9 ht hW => ⟨congrArg (fun z => Outcome.returned (some (Value.int z))) (show nI f = (if mlk_c (cd, dk, tk, kd, lc, sz, bh, wt, bl, tg, fs) ((z1 : Nat) : Int) = 0 then nI (mff kd 12 1) else nI 0) from (by rw [(show mlk_c (cd, dk, tk, kd, lc, sz, bh, wt, bl, tg, fs) ((z1 : Nat) : Int) = 0 from (by unfold mlk_c; (try dsimp only [pj_kd, pj_bl, pj_bh, pj_wt, pj_fs, pj_cd, pj_dk, pj_tk, pj_lc, pj_sz, pj_tg]); first | (rw [if_neg (by omega)]; done) | (rw [if_pos (by omega), if_pos (by omega)]; done) | (rw [if_pos (by omega), if_neg (by omega)]; done)))]; first | rfl | (rw [if_pos rfl, ← hf9]))), by rw [ht]; exact hP, hD, hS.F ht⟩) hS.2.2 d_Mo_link_174
                · skip
                  refine lv_iload_n hx hb d_Mo_link_89 rfl (lv_at hl 2 rfl) ?_
                  refine lv_iload hx hb d_Mo_link_90 (lv_at hl 4 rfl) ?_
                  refine lv_iadd hx hb d_Mo_link_92 ?_
                  refine lv_sipush (v := nI 255) hx hb d_Mo_link_93 (by decide) ?_
                  refine lv_irem hx hb d_Mo_link_96 (by decide) ?_
                  refine lv_istore (lv' := [(5, .int ((x + (nI i)) - (x + (nI i)) / (nI 255) * (nI 255))), (0, .ref (ad 0)), (1, .int (nI z1)), (2, .int x), (3, .int (nI f)), (4, .int (nI i))]) hx hb d_Mo_link_97 hl (by decide) rfl (fun ls hl => ?_)
                  refine lv_iconst (v := nI 1) hx hb d_Mo_link_99 (by decide) ?_
                  refine lv_iload hx hb d_Mo_link_100 (lv_at hl 0 rfl) ?_
                  refine lv_if_ge (tgt := 114) hx hb d_Mo_link_102 (by decide) (fun c_8 => ?_) (fun c_8 => ?_)
                  · skip
                    refine lv_iload hx hb d_Mo_link_114 (lv_at hl 0 rfl) ?_
                    refine lv_iadd hx hb d_Mo_link_116 ?_
                    refine lv_istore (lv' := [(6, .int ((nI 1) + ((x + (nI i)) - (x + (nI i)) / (nI 255) * (nI 255)))), (5, .int ((x + (nI i)) - (x + (nI i)) / (nI 255) * (nI 255))), (0, .ref (ad 0)), (1, .int (nI z1)), (2, .int x), (3, .int (nI f)), (4, .int (nI i))]) hx hb d_Mo_link_117 hl (by decide) rfl (fun ls hl => ?_)
                    refine lv_iload_n hx hb d_Mo_link_119 rfl (lv_at hl 3 rfl) ?_
                    refine lv_bipush (v := nI 59) hx hb d_Mo_link_120 (by decide) ?_
                    refine ln_icmp_le (tgt := 152) hx hb (by omega) (by omega) d_Mo_link_122 (by decide) (fun c_9 => ?_) (fun c_9 => ?_)
                    · skip
                      refine lv_aload_n hx hb d_Mo_link_152 rfl (lv_at hl 2 rfl) ?_
                      refine va_get (D := D) (ci := 6) (v := .ref (ad 9)) (C := R_Mo) (T := T_Mo) (N := 11) hx hb hts u_Mo hown hK hP 0 rfl rfl 9 (by decide) (hts _ w_848) (fun _ h9 => h9) rfl d_Mo_link_153 ?_
                      refine lv_bipush (v := nI 60) hx hb d_Mo_link_156 (by decide) ?_
                      refine lv_iload_n hx hb d_Mo_link_158 rfl (lv_at hl 5 rfl) ?_
                      refine ln_imul hx hb d_Mo_link_159 ?_
                      refine lv_iload hx hb d_Mo_link_160 (lv_at hl 6 rfl) ?_
                      refine ln_iadd hx hb d_Mo_link_162 ?_
                      refine lv_iload hx hb d_Mo_link_163 (lv_at hl 0 rfl) ?_
                      refine lv_i2b hx hb d_Mo_link_165 rfl ?_
                      refine ln_bast hx hb hK hP hD hS 9 0 rfl rfl (by omega) (by decide) d_Mo_link_166 (fun H locs hP hD hS => ?_)
                      have hP : va_P D vwC (wsM ct ad (pj_cd (mbeg ((nI 0), dk, tk, kd, lc, sz, bh, wt, bl, tg, fs) (nI 3) (nI 1))) (pj_dk (mbeg ((nI 0), dk, tk, kd, lc, sz, bh, wt, bl, tg, fs) (nI 3) (nI 1))) (pj_tk (mbeg ((nI 0), dk, tk, kd, lc, sz, bh, wt, bl, tg, fs) (nI 3) (nI 1))) (pj_kd (mbeg ((nI 0), dk, tk, kd, lc, sz, bh, wt, bl, tg, fs) (nI 3) (nI 1))) (pj_lc (mbeg ((nI 0), dk, tk, kd, lc, sz, bh, wt, bl, tg, fs) (nI 3) (nI 1))) (upd (pj_sz (mbeg ((nI 0), dk, tk, kd, lc, sz, bh, wt, bl, tg, fs) (nI 3) (nI 1))) f (nI z1)) (pj_bh (mbeg ((nI 0), dk, tk, kd, lc, sz, bh, wt, bl, tg, fs) (nI 3) (nI 1))) (pj_wt (mbeg ((nI 0), dk, tk, kd, lc, sz, bh, wt, bl, tg, fs) (nI 3) (nI 1))) (pj_bl (mbeg ((nI 0), dk, tk, kd, lc, sz, bh, wt, bl, tg, fs) (nI 3) (nI 1))) (upd d ((60 * f) + i) (vp_nar .byte (((nI 1) + ((x + (nI i)) - (x + (nI i)) / (nI 255) * (nI 255))).toInt8.toInt32))) (pj_fs (mbeg ((nI 0), dk, tk, kd, lc, sz, bh, wt, bl, tg, fs) (nI 3) (nI 1)))) H := hP
                      have hD : va_D A (wsM ct ad (pj_cd (mbeg ((nI 0), dk, tk, kd, lc, sz, bh, wt, bl, tg, fs) (nI 3) (nI 1))) (pj_dk (mbeg ((nI 0), dk, tk, kd, lc, sz, bh, wt, bl, tg, fs) (nI 3) (nI 1))) (pj_tk (mbeg ((nI 0), dk, tk, kd, lc, sz, bh, wt, bl, tg, fs) (nI 3) (nI 1))) (pj_kd (mbeg ((nI 0), dk, tk, kd, lc, sz, bh, wt, bl, tg, fs) (nI 3) (nI 1))) (pj_lc (mbeg ((nI 0), dk, tk, kd, lc, sz, bh, wt, bl, tg, fs) (nI 3) (nI 1))) (upd (pj_sz (mbeg ((nI 0), dk, tk, kd, lc, sz, bh, wt, bl, tg, fs) (nI 3) (nI 1))) f (nI z1)) (pj_bh (mbeg ((nI 0), dk, tk, kd, lc, sz, bh, wt, bl, tg, fs) (nI 3) (nI 1))) (pj_wt (mbeg ((nI 0), dk, tk, kd, lc, sz, bh, wt, bl, tg, fs) (nI 3) (nI 1))) (pj_bl (mbeg ((nI 0), dk, tk, kd, lc, sz, bh, wt, bl, tg, fs) (nI 3) (nI 1))) (upd d ((60 * f) + i) (vp_nar .byte (((nI 1) + ((x + (nI i)) - (x + (nI i)) / (nI 255) * (nI 255))).toInt8.toInt32))) (pj_fs (mbeg ((nI 0), dk, tk, kd, lc, sz, bh, wt, bl, tg, fs) (nI 3) (nI 1)))) := hD
                      refine lv_iinc (v := nI (i + 1)) (lv' := [(4, .int (nI (i + 1))), (6, .int ((nI 1) + ((x + (nI i)) - (x + (nI i)) / (nI 255) * (nI 255)))), (5, .int ((x + (nI i)) - (x + (nI i)) / (nI 255) * (nI 255))), (0, .ref (ad 0)), (1, .int (nI z1)), (2, .int x), (3, .int (nI f))]) hx hb d_Mo_link_167 hl (k := 6) rfl (ln_inc (by decide)) (by decide) rfl (fun ls hl => ?_)
                      refine lv_goto (tgt := 83) hx hb d_Mo_link_170 (by decide) ?_
                      exact ih (i + 1) (upd d ((60 * f) + i) (vp_nar .byte (((nI 1) + ((x + (nI i)) - (x + (nI i)) / (nI 255) * (nI 255))).toInt8.toInt32))) (by omega) (by omega) (by rw [h10, show z1 - i = z1 - (i + 1) + 1 by omega, mlkt]; unfold mrb; first | (rw [if_pos (by assumption)]; rfl) | (rw [if_pos (by assumption)]; done) | (rw [if_neg (by assumption)]; rfl) | (rw [if_neg (by assumption)]; done)) _ _ hP hD hS ls (lv_sub hl [3, 4, 5, 6, 0] rfl)
                    · exact absurd c_9 (by omega)
                  · skip
                    refine lv_iload hx hb d_Mo_link_105 (lv_at hl 0 rfl) ?_
                    refine lv_sipush (v := nI 255) hx hb d_Mo_link_107 (by decide) ?_
                    refine lv_iadd hx hb d_Mo_link_110 ?_
                    refine lv_goto (tgt := 116) hx hb d_Mo_link_111 (by decide) ?_
                    refine lv_iadd hx hb d_Mo_link_116 ?_
                    refine lv_istore (lv' := [(6, .int ((nI 1) + (((x + (nI i)) - (x + (nI i)) / (nI 255) * (nI 255)) + (nI 255)))), (5, .int ((x + (nI i)) - (x + (nI i)) / (nI 255) * (nI 255))), (0, .ref (ad 0)), (1, .int (nI z1)), (2, .int x), (3, .int (nI f)), (4, .int (nI i))]) hx hb d_Mo_link_117 hl (by decide) rfl (fun ls hl => ?_)
                    refine lv_iload_n hx hb d_Mo_link_119 rfl (lv_at hl 3 rfl) ?_
                    refine lv_bipush (v := nI 59) hx hb d_Mo_link_120 (by decide) ?_
                    refine ln_icmp_le (tgt := 152) hx hb (by omega) (by omega) d_Mo_link_122 (by decide) (fun c_10 => ?_) (fun c_10 => ?_)
                    · skip
                      refine lv_aload_n hx hb d_Mo_link_152 rfl (lv_at hl 2 rfl) ?_
                      refine va_get (D := D) (ci := 6) (v := .ref (ad 9)) (C := R_Mo) (T := T_Mo) (N := 11) hx hb hts u_Mo hown hK hP 0 rfl rfl 9 (by decide) (hts _ w_848) (fun _ h9 => h9) rfl d_Mo_link_153 ?_
                      refine lv_bipush (v := nI 60) hx hb d_Mo_link_156 (by decide) ?_
                      refine lv_iload_n hx hb d_Mo_link_158 rfl (lv_at hl 5 rfl) ?_
                      refine ln_imul hx hb d_Mo_link_159 ?_
                      refine lv_iload hx hb d_Mo_link_160 (lv_at hl 6 rfl) ?_
                      refine ln_iadd hx hb d_Mo_link_162 ?_
                      refine lv_iload hx hb d_Mo_link_163 (lv_at hl 0 rfl) ?_
                      refine lv_i2b hx hb d_Mo_link_165 rfl ?_
                      refine ln_bast hx hb hK hP hD hS 9 0 rfl rfl (by omega) (by decide) d_Mo_link_166 (fun H locs hP hD hS => ?_)
                      have hP : va_P D vwC (wsM ct ad (pj_cd (mbeg ((nI 0), dk, tk, kd, lc, sz, bh, wt, bl, tg, fs) (nI 3) (nI 1))) (pj_dk (mbeg ((nI 0), dk, tk, kd, lc, sz, bh, wt, bl, tg, fs) (nI 3) (nI 1))) (pj_tk (mbeg ((nI 0), dk, tk, kd, lc, sz, bh, wt, bl, tg, fs) (nI 3) (nI 1))) (pj_kd (mbeg ((nI 0), dk, tk, kd, lc, sz, bh, wt, bl, tg, fs) (nI 3) (nI 1))) (pj_lc (mbeg ((nI 0), dk, tk, kd, lc, sz, bh, wt, bl, tg, fs) (nI 3) (nI 1))) (upd (pj_sz (mbeg ((nI 0), dk, tk, kd, lc, sz, bh, wt, bl, tg, fs) (nI 3) (nI 1))) f (nI z1)) (pj_bh (mbeg ((nI 0), dk, tk, kd, lc, sz, bh, wt, bl, tg, fs) (nI 3) (nI 1))) (pj_wt (mbeg ((nI 0), dk, tk, kd, lc, sz, bh, wt, bl, tg, fs) (nI 3) (nI 1))) (pj_bl (mbeg ((nI 0), dk, tk, kd, lc, sz, bh, wt, bl, tg, fs) (nI 3) (nI 1))) (upd d ((60 * f) + i) (vp_nar .byte (((nI 1) + (((x + (nI i)) - (x + (nI i)) / (nI 255) * (nI 255)) + (nI 255))).toInt8.toInt32))) (pj_fs (mbeg ((nI 0), dk, tk, kd, lc, sz, bh, wt, bl, tg, fs) (nI 3) (nI 1)))) H := hP
                      have hD : va_D A (wsM ct ad (pj_cd (mbeg ((nI 0), dk, tk, kd, lc, sz, bh, wt, bl, tg, fs) (nI 3) (nI 1))) (pj_dk (mbeg ((nI 0), dk, tk, kd, lc, sz, bh, wt, bl, tg, fs) (nI 3) (nI 1))) (pj_tk (mbeg ((nI 0), dk, tk, kd, lc, sz, bh, wt, bl, tg, fs) (nI 3) (nI 1))) (pj_kd (mbeg ((nI 0), dk, tk, kd, lc, sz, bh, wt, bl, tg, fs) (nI 3) (nI 1))) (pj_lc (mbeg ((nI 0), dk, tk, kd, lc, sz, bh, wt, bl, tg, fs) (nI 3) (nI 1))) (upd (pj_sz (mbeg ((nI 0), dk, tk, kd, lc, sz, bh, wt, bl, tg, fs) (nI 3) (nI 1))) f (nI z1)) (pj_bh (mbeg ((nI 0), dk, tk, kd, lc, sz, bh, wt, bl, tg, fs) (nI 3) (nI 1))) (pj_wt (mbeg ((nI 0), dk, tk, kd, lc, sz, bh, wt, bl, tg, fs) (nI 3) (nI 1))) (pj_bl (mbeg ((nI 0), dk, tk, kd, lc, sz, bh, wt, bl, tg, fs) (nI 3) (nI 1))) (upd d ((60 * f) + i) (vp_nar .byte (((nI 1) + (((x + (nI i)) - (x + (nI i)) / (nI 255) * (nI 255)) + (nI 255))).toInt8.toInt32))) (pj_fs (mbeg ((nI 0), dk, tk, kd, lc, sz, bh, wt, bl, tg, fs) (nI 3) (nI 1)))) := hD
                      refine lv_iinc (v := nI (i + 1)) (lv' := [(4, .int (nI (i + 1))), (6, .int ((nI 1) + (((x + (nI i)) - (x + (nI i)) / (nI 255) * (nI 255)) + (nI 255)))), (5, .int ((x + (nI i)) - (x + (nI i)) / (nI 255) * (nI 255))), (0, .ref (ad 0)), (1, .int (nI z1)), (2, .int x), (3, .int (nI f))]) hx hb d_Mo_link_167 hl (k := 6) rfl (ln_inc (by decide)) (by decide) rfl (fun ls hl => ?_)
                      refine lv_goto (tgt := 83) hx hb d_Mo_link_170 (by decide) ?_
                      exact ih (i + 1) (upd d ((60 * f) + i) (vp_nar .byte (((nI 1) + (((x + (nI i)) - (x + (nI i)) / (nI 255) * (nI 255)) + (nI 255))).toInt8.toInt32))) (by omega) (by omega) (by rw [h10, show z1 - i = z1 - (i + 1) + 1 by omega, mlkt]; unfold mrb; first | (rw [if_pos (by assumption)]; rfl) | (rw [if_pos (by assumption)]; done) | (rw [if_neg (by assumption)]; rfl) | (rw [if_neg (by assumption)]; done)) _ _ hP hD hS ls (lv_sub hl [3, 4, 5, 6, 0] rfl)
                    · exact absurd c_10 (by omega)
            exact loop83 (z1 + 1) 0 (pj_tg (mbeg ((nI 0), dk, tk, kd, lc, sz, bh, wt, bl, tg, fs) (nI 3) (nI 1))) (by omega) (by omega) rfl _ _ hP hD hS ls (lv_sub hl [2, 3, 4, 1, 0] rfl)
          · exact absurd c_6 (by omega)
        · exact absurd c_5 (by omega)
      · skip
        refine lv_aload_n hx hb d_Mo_link_30 rfl (lv_at hl 0 rfl) ?_
        have hm1 := mf1_le (tk := tk) 128 0 0
        refine rdV ⟨hx, hb, hml, hown, hts⟩ hK hP (k_Mo_freeOnes l  ) w_902 m_Mo_freeOnes ⟨by decide, by decide⟩ 0 rfl rfl rfl hl.1 rfl (Nat.le_of_ble_eq_true rfl) d_Mo_link_31 ⟨Nat.zero_le _, Nat.zero_le _⟩ ?_
        refine ln_if_ne (tgt := 41) hx hb (by omega) d_Mo_link_34 (by decide) (fun c_11 => ?_) (fun c_11 => ?_)
        · skip
          refine lv_iconst (v := nI 0) hx hb d_Mo_link_41 (by decide) ?_
          refine va_put (D := D) (ci := 6) (v := .int (nI 0)) (ty := .int) (C := R_Mo) (T := T_Mo) (N := 11) hx hb hts u_Mo t_Mo t_Mo_ok n_Mo hown hK hP hD hS 0 rfl rfl 0 (by decide) (hts _ w_839) (fun _ h9 => h9) rfl (by decide +kernel) rfl rfl (Nat.le_of_ble_eq_true rfl) d_Mo_link_42 (fun H locs hP hD hS => ?_)
          have hP : va_P D vwC (wsM ct ad (nI 0) dk tk kd lc sz bh wt bl tg fs) H := hP
          have hD : va_D A (wsM ct ad (nI 0) dk tk kd lc sz bh wt bl tg fs) := hD
          refine lv_aload_n hx hb d_Mo_link_45 rfl (lv_at hl 0 rfl) ?_
          refine va_get (D := D) (ci := 6) (v := .int (nI 0)) (C := R_Mo) (T := T_Mo) (N := 11) hx hb hts u_Mo hown hK hP 0 rfl rfl 0 (by decide) (hts _ w_839) (fun _ h9 => h9) rfl d_Mo_link_46 ?_
          refine ln_if_le (tgt := 54) hx hb (by omega) d_Mo_link_49 (by decide) (fun c_12 => ?_) (fun c_12 => ?_)
          · skip
            obtain ⟨z1, rfl⟩ := Int.eq_ofNat_of_zero_le (show 0 ≤ z by omega)
            obtain rfl : x_z = nI z1 := z_i hx_z (by omega)
            refine lv_aload_n hx hb d_Mo_link_54 rfl (lv_at hl 0 rfl) ?_
            refine lv_iconst (v := nI 3) hx hb d_Mo_link_55 (by decide) ?_
            refine lv_iconst (v := nI 1) hx hb d_Mo_link_56 (by decide) ?_
            refine wrV ⟨hx, hb, hml, hown, hts⟩ hK hP hD hS hA (k_Mo_begin l (k := (nI 3)) (v := (nI 1)) hbl (by omega)) w_890 m_Mo_begin ⟨by decide, by decide⟩ 0 rfl rfl rfl hl.1 rfl (Nat.le_of_ble_eq_true rfl) d_Mo_link_57 ⟨Nat.zero_le _, Nat.zero_le _⟩ (fun H locs hP hD hS => ?_)
            have hbl : bOK (pj_bl (mbeg ((nI 0), dk, tk, kd, lc, sz, bh, wt, bl, tg, fs) (nI 3) (nI 1))) := mbeg_ok hbl
            have hP : va_P D vwC (wsM ct ad (pj_cd (mbeg ((nI 0), dk, tk, kd, lc, sz, bh, wt, bl, tg, fs) (nI 3) (nI 1))) (pj_dk (mbeg ((nI 0), dk, tk, kd, lc, sz, bh, wt, bl, tg, fs) (nI 3) (nI 1))) (pj_tk (mbeg ((nI 0), dk, tk, kd, lc, sz, bh, wt, bl, tg, fs) (nI 3) (nI 1))) (pj_kd (mbeg ((nI 0), dk, tk, kd, lc, sz, bh, wt, bl, tg, fs) (nI 3) (nI 1))) (pj_lc (mbeg ((nI 0), dk, tk, kd, lc, sz, bh, wt, bl, tg, fs) (nI 3) (nI 1))) (pj_sz (mbeg ((nI 0), dk, tk, kd, lc, sz, bh, wt, bl, tg, fs) (nI 3) (nI 1))) (pj_bh (mbeg ((nI 0), dk, tk, kd, lc, sz, bh, wt, bl, tg, fs) (nI 3) (nI 1))) (pj_wt (mbeg ((nI 0), dk, tk, kd, lc, sz, bh, wt, bl, tg, fs) (nI 3) (nI 1))) (pj_bl (mbeg ((nI 0), dk, tk, kd, lc, sz, bh, wt, bl, tg, fs) (nI 3) (nI 1))) (pj_tg (mbeg ((nI 0), dk, tk, kd, lc, sz, bh, wt, bl, tg, fs) (nI 3) (nI 1))) (pj_fs (mbeg ((nI 0), dk, tk, kd, lc, sz, bh, wt, bl, tg, fs) (nI 3) (nI 1)))) H := hP
            have hD : va_D A (wsM ct ad (pj_cd (mbeg ((nI 0), dk, tk, kd, lc, sz, bh, wt, bl, tg, fs) (nI 3) (nI 1))) (pj_dk (mbeg ((nI 0), dk, tk, kd, lc, sz, bh, wt, bl, tg, fs) (nI 3) (nI 1))) (pj_tk (mbeg ((nI 0), dk, tk, kd, lc, sz, bh, wt, bl, tg, fs) (nI 3) (nI 1))) (pj_kd (mbeg ((nI 0), dk, tk, kd, lc, sz, bh, wt, bl, tg, fs) (nI 3) (nI 1))) (pj_lc (mbeg ((nI 0), dk, tk, kd, lc, sz, bh, wt, bl, tg, fs) (nI 3) (nI 1))) (pj_sz (mbeg ((nI 0), dk, tk, kd, lc, sz, bh, wt, bl, tg, fs) (nI 3) (nI 1))) (pj_bh (mbeg ((nI 0), dk, tk, kd, lc, sz, bh, wt, bl, tg, fs) (nI 3) (nI 1))) (pj_wt (mbeg ((nI 0), dk, tk, kd, lc, sz, bh, wt, bl, tg, fs) (nI 3) (nI 1))) (pj_bl (mbeg ((nI 0), dk, tk, kd, lc, sz, bh, wt, bl, tg, fs) (nI 3) (nI 1))) (pj_tg (mbeg ((nI 0), dk, tk, kd, lc, sz, bh, wt, bl, tg, fs) (nI 3) (nI 1))) (pj_fs (mbeg ((nI 0), dk, tk, kd, lc, sz, bh, wt, bl, tg, fs) (nI 3) (nI 1)))) := hD
            refine W.eq (g2 := F0 m 60 ls [.int (nI (mff kd 12 1))]) rfl ?_
            refine W.eq (g2 := F0 m 60 ls [.int (nI f)]) (by rw [hf9]) ?_
            refine lv_istore_n (lv' := [(3, .int (nI f)), (0, .ref (ad 0)), (1, .int (nI z1)), (2, .int x)]) hx hb d_Mo_link_60 rfl hl (by decide) rfl (fun ls hl => ?_)
            refine lv_aload_n hx hb d_Mo_link_61 rfl (lv_at hl 1 rfl) ?_
            refine va_get (D := D) (ci := 6) (v := .ref (ad 5)) (C := R_Mo) (T := T_Mo) (N := 11) hx hb hts u_Mo hown hK hP 0 rfl rfl 5 (by decide) (hts _ w_844) (fun _ h9 => h9) rfl d_Mo_link_62 ?_
            refine lv_iload_n hx hb d_Mo_link_65 rfl (lv_at hl 0 rfl) ?_
            refine lv_iload_n hx hb d_Mo_link_66 rfl (lv_at hl 2 rfl) ?_
            refine ln_iast hx hb hK hP hD hS 5 2 rfl rfl (by omega) (by decide) d_Mo_link_67 (fun H locs hP hD hS => ?_)
            have hP : va_P D vwC (wsM ct ad (pj_cd (mbeg ((nI 0), dk, tk, kd, lc, sz, bh, wt, bl, tg, fs) (nI 3) (nI 1))) (pj_dk (mbeg ((nI 0), dk, tk, kd, lc, sz, bh, wt, bl, tg, fs) (nI 3) (nI 1))) (pj_tk (mbeg ((nI 0), dk, tk, kd, lc, sz, bh, wt, bl, tg, fs) (nI 3) (nI 1))) (pj_kd (mbeg ((nI 0), dk, tk, kd, lc, sz, bh, wt, bl, tg, fs) (nI 3) (nI 1))) (pj_lc (mbeg ((nI 0), dk, tk, kd, lc, sz, bh, wt, bl, tg, fs) (nI 3) (nI 1))) (upd (pj_sz (mbeg ((nI 0), dk, tk, kd, lc, sz, bh, wt, bl, tg, fs) (nI 3) (nI 1))) f (nI z1)) (pj_bh (mbeg ((nI 0), dk, tk, kd, lc, sz, bh, wt, bl, tg, fs) (nI 3) (nI 1))) (pj_wt (mbeg ((nI 0), dk, tk, kd, lc, sz, bh, wt, bl, tg, fs) (nI 3) (nI 1))) (pj_bl (mbeg ((nI 0), dk, tk, kd, lc, sz, bh, wt, bl, tg, fs) (nI 3) (nI 1))) (pj_tg (mbeg ((nI 0), dk, tk, kd, lc, sz, bh, wt, bl, tg, fs) (nI 3) (nI 1))) (pj_fs (mbeg ((nI 0), dk, tk, kd, lc, sz, bh, wt, bl, tg, fs) (nI 3) (nI 1)))) H := hP
            have hD : va_D A (wsM ct ad (pj_cd (mbeg ((nI 0), dk, tk, kd, lc, sz, bh, wt, bl, tg, fs) (nI 3) (nI 1))) (pj_dk (mbeg ((nI 0), dk, tk, kd, lc, sz, bh, wt, bl, tg, fs) (nI 3) (nI 1))) (pj_tk (mbeg ((nI 0), dk, tk, kd, lc, sz, bh, wt, bl, tg, fs) (nI 3) (nI 1))) (pj_kd (mbeg ((nI 0), dk, tk, kd, lc, sz, bh, wt, bl, tg, fs) (nI 3) (nI 1))) (pj_lc (mbeg ((nI 0), dk, tk, kd, lc, sz, bh, wt, bl, tg, fs) (nI 3) (nI 1))) (upd (pj_sz (mbeg ((nI 0), dk, tk, kd, lc, sz, bh, wt, bl, tg, fs) (nI 3) (nI 1))) f (nI z1)) (pj_bh (mbeg ((nI 0), dk, tk, kd, lc, sz, bh, wt, bl, tg, fs) (nI 3) (nI 1))) (pj_wt (mbeg ((nI 0), dk, tk, kd, lc, sz, bh, wt, bl, tg, fs) (nI 3) (nI 1))) (pj_bl (mbeg ((nI 0), dk, tk, kd, lc, sz, bh, wt, bl, tg, fs) (nI 3) (nI 1))) (pj_tg (mbeg ((nI 0), dk, tk, kd, lc, sz, bh, wt, bl, tg, fs) (nI 3) (nI 1))) (pj_fs (mbeg ((nI 0), dk, tk, kd, lc, sz, bh, wt, bl, tg, fs) (nI 3) (nI 1)))) := hD
            refine lv_iload_n hx hb d_Mo_link_68 rfl (lv_at hl 2 rfl) ?_
            refine lv_bipush (v := nI 59) hx hb d_Mo_link_69 (by decide) ?_
            refine ln_icmp_le (tgt := 80) hx hb (by omega) (by omega) d_Mo_link_71 (by decide) (fun c_13 => ?_) (fun c_13 => ?_)
            · exact absurd c_13 (by omega)
            · skip
              refine lv_aload_n hx hb d_Mo_link_74 rfl (lv_at hl 1 rfl) ?_
              refine lv_iload_n hx hb d_Mo_link_75 rfl (lv_at hl 0 rfl) ?_
              refine lv_iconst (v := nI 0) hx hb d_Mo_link_76 (by decide) ?_
              refine wrV ⟨hx, hb, hml, hown, hts⟩ hK hP hD hS hA (k_Mo_take l (f := f) (k := 0) hbl (by omega) (by omega)) w_906 m_Mo_take ⟨by decide, by decide⟩ 0 rfl rfl rfl hl.1 rfl (Nat.le_of_ble_eq_true rfl) d_Mo_link_77 ⟨Nat.zero_le _, Nat.zero_le _⟩ (fun H locs hP hD hS => ?_)
              have hbl : bOK ((mtk ((pj_dk (mbeg ((nI 0), dk, tk, kd, lc, sz, bh, wt, bl, tg, fs) (nI 3) (nI 1))), (pj_tk (mbeg ((nI 0), dk, tk, kd, lc, sz, bh, wt, bl, tg, fs) (nI 3) (nI 1))), (pj_bl (mbeg ((nI 0), dk, tk, kd, lc, sz, bh, wt, bl, tg, fs) (nI 3) (nI 1)))) f 0).2.2) := mtk_ok hbl
              have hP : va_P D vwC (wsM ct ad (pj_cd (mbeg ((nI 0), dk, tk, kd, lc, sz, bh, wt, bl, tg, fs) (nI 3) (nI 1))) ((mtk ((pj_dk (mbeg ((nI 0), dk, tk, kd, lc, sz, bh, wt, bl, tg, fs) (nI 3) (nI 1))), (pj_tk (mbeg ((nI 0), dk, tk, kd, lc, sz, bh, wt, bl, tg, fs) (nI 3) (nI 1))), (pj_bl (mbeg ((nI 0), dk, tk, kd, lc, sz, bh, wt, bl, tg, fs) (nI 3) (nI 1)))) f 0).1) ((mtk ((pj_dk (mbeg ((nI 0), dk, tk, kd, lc, sz, bh, wt, bl, tg, fs) (nI 3) (nI 1))), (pj_tk (mbeg ((nI 0), dk, tk, kd, lc, sz, bh, wt, bl, tg, fs) (nI 3) (nI 1))), (pj_bl (mbeg ((nI 0), dk, tk, kd, lc, sz, bh, wt, bl, tg, fs) (nI 3) (nI 1)))) f 0).2.1) (pj_kd (mbeg ((nI 0), dk, tk, kd, lc, sz, bh, wt, bl, tg, fs) (nI 3) (nI 1))) (pj_lc (mbeg ((nI 0), dk, tk, kd, lc, sz, bh, wt, bl, tg, fs) (nI 3) (nI 1))) (upd (pj_sz (mbeg ((nI 0), dk, tk, kd, lc, sz, bh, wt, bl, tg, fs) (nI 3) (nI 1))) f (nI z1)) (pj_bh (mbeg ((nI 0), dk, tk, kd, lc, sz, bh, wt, bl, tg, fs) (nI 3) (nI 1))) (pj_wt (mbeg ((nI 0), dk, tk, kd, lc, sz, bh, wt, bl, tg, fs) (nI 3) (nI 1))) ((mtk ((pj_dk (mbeg ((nI 0), dk, tk, kd, lc, sz, bh, wt, bl, tg, fs) (nI 3) (nI 1))), (pj_tk (mbeg ((nI 0), dk, tk, kd, lc, sz, bh, wt, bl, tg, fs) (nI 3) (nI 1))), (pj_bl (mbeg ((nI 0), dk, tk, kd, lc, sz, bh, wt, bl, tg, fs) (nI 3) (nI 1)))) f 0).2.2) (pj_tg (mbeg ((nI 0), dk, tk, kd, lc, sz, bh, wt, bl, tg, fs) (nI 3) (nI 1))) (pj_fs (mbeg ((nI 0), dk, tk, kd, lc, sz, bh, wt, bl, tg, fs) (nI 3) (nI 1)))) H := hP
              have hD : va_D A (wsM ct ad (pj_cd (mbeg ((nI 0), dk, tk, kd, lc, sz, bh, wt, bl, tg, fs) (nI 3) (nI 1))) ((mtk ((pj_dk (mbeg ((nI 0), dk, tk, kd, lc, sz, bh, wt, bl, tg, fs) (nI 3) (nI 1))), (pj_tk (mbeg ((nI 0), dk, tk, kd, lc, sz, bh, wt, bl, tg, fs) (nI 3) (nI 1))), (pj_bl (mbeg ((nI 0), dk, tk, kd, lc, sz, bh, wt, bl, tg, fs) (nI 3) (nI 1)))) f 0).1) ((mtk ((pj_dk (mbeg ((nI 0), dk, tk, kd, lc, sz, bh, wt, bl, tg, fs) (nI 3) (nI 1))), (pj_tk (mbeg ((nI 0), dk, tk, kd, lc, sz, bh, wt, bl, tg, fs) (nI 3) (nI 1))), (pj_bl (mbeg ((nI 0), dk, tk, kd, lc, sz, bh, wt, bl, tg, fs) (nI 3) (nI 1)))) f 0).2.1) (pj_kd (mbeg ((nI 0), dk, tk, kd, lc, sz, bh, wt, bl, tg, fs) (nI 3) (nI 1))) (pj_lc (mbeg ((nI 0), dk, tk, kd, lc, sz, bh, wt, bl, tg, fs) (nI 3) (nI 1))) (upd (pj_sz (mbeg ((nI 0), dk, tk, kd, lc, sz, bh, wt, bl, tg, fs) (nI 3) (nI 1))) f (nI z1)) (pj_bh (mbeg ((nI 0), dk, tk, kd, lc, sz, bh, wt, bl, tg, fs) (nI 3) (nI 1))) (pj_wt (mbeg ((nI 0), dk, tk, kd, lc, sz, bh, wt, bl, tg, fs) (nI 3) (nI 1))) ((mtk ((pj_dk (mbeg ((nI 0), dk, tk, kd, lc, sz, bh, wt, bl, tg, fs) (nI 3) (nI 1))), (pj_tk (mbeg ((nI 0), dk, tk, kd, lc, sz, bh, wt, bl, tg, fs) (nI 3) (nI 1))), (pj_bl (mbeg ((nI 0), dk, tk, kd, lc, sz, bh, wt, bl, tg, fs) (nI 3) (nI 1)))) f 0).2.2) (pj_tg (mbeg ((nI 0), dk, tk, kd, lc, sz, bh, wt, bl, tg, fs) (nI 3) (nI 1))) (pj_fs (mbeg ((nI 0), dk, tk, kd, lc, sz, bh, wt, bl, tg, fs) (nI 3) (nI 1)))) := hD
              refine W.eq (g2 := F0 m 80 ls []) rfl ?_
              refine lv_iconst (v := nI 0) hx hb d_Mo_link_80 (by decide) ?_
              refine lv_istore (lv' := [(4, .int (nI 0)), (3, .int (nI f)), (0, .ref (ad 0)), (1, .int (nI z1)), (2, .int x)]) hx hb d_Mo_link_81 hl (by decide) rfl (fun ls hl => ?_)
              have loop83 : ∀ (n9 : Nat) (i : Nat) (d : Nat → Int32), z1 - i < n9 → i ≤ z1 → mlkd (pj_bl (mtkM (mlk1 (cd, dk, tk, kd, lc, sz, bh, wt, bl, tg, fs) z1 f) f 0) (15 * f)) x z1 0 (pj_dk (mtkM (mlk1 (cd, dk, tk, kd, lc, sz, bh, wt, bl, tg, fs) z1 f) f 0)) = mlkd (pj_bl (mtkM (mlk1 (cd, dk, tk, kd, lc, sz, bh, wt, bl, tg, fs) z1 f) f 0) (15 * f)) x (z1 - i) i d → ∀ (H : Heap) (locs : List Loc), va_P D vwC (wsM ct ad (pj_cd (mbeg ((nI 0), dk, tk, kd, lc, sz, bh, wt, bl, tg, fs) (nI 3) (nI 1))) d ((mtk ((pj_dk (mbeg ((nI 0), dk, tk, kd, lc, sz, bh, wt, bl, tg, fs) (nI 3) (nI 1))), (pj_tk (mbeg ((nI 0), dk, tk, kd, lc, sz, bh, wt, bl, tg, fs) (nI 3) (nI 1))), (pj_bl (mbeg ((nI 0), dk, tk, kd, lc, sz, bh, wt, bl, tg, fs) (nI 3) (nI 1)))) f 0).2.1) (pj_kd (mbeg ((nI 0), dk, tk, kd, lc, sz, bh, wt, bl, tg, fs) (nI 3) (nI 1))) (pj_lc (mbeg ((nI 0), dk, tk, kd, lc, sz, bh, wt, bl, tg, fs) (nI 3) (nI 1))) (upd (pj_sz (mbeg ((nI 0), dk, tk, kd, lc, sz, bh, wt, bl, tg, fs) (nI 3) (nI 1))) f (nI z1)) (pj_bh (mbeg ((nI 0), dk, tk, kd, lc, sz, bh, wt, bl, tg, fs) (nI 3) (nI 1))) (pj_wt (mbeg ((nI 0), dk, tk, kd, lc, sz, bh, wt, bl, tg, fs) (nI 3) (nI 1))) ((mtk ((pj_dk (mbeg ((nI 0), dk, tk, kd, lc, sz, bh, wt, bl, tg, fs) (nI 3) (nI 1))), (pj_tk (mbeg ((nI 0), dk, tk, kd, lc, sz, bh, wt, bl, tg, fs) (nI 3) (nI 1))), (pj_bl (mbeg ((nI 0), dk, tk, kd, lc, sz, bh, wt, bl, tg, fs) (nI 3) (nI 1)))) f 0).2.2) (pj_tg (mbeg ((nI 0), dk, tk, kd, lc, sz, bh, wt, bl, tg, fs) (nI 3) (nI 1))) (pj_fs (mbeg ((nI 0), dk, tk, kd, lc, sz, bh, wt, bl, tg, fs) (nI 3) (nI 1)))) H → va_D A (wsM ct ad (pj_cd (mbeg ((nI 0), dk, tk, kd, lc, sz, bh, wt, bl, tg, fs) (nI 3) (nI 1))) d ((mtk ((pj_dk (mbeg ((nI 0), dk, tk, kd, lc, sz, bh, wt, bl, tg, fs) (nI 3) (nI 1))), (pj_tk (mbeg ((nI 0), dk, tk, kd, lc, sz, bh, wt, bl, tg, fs) (nI 3) (nI 1))), (pj_bl (mbeg ((nI 0), dk, tk, kd, lc, sz, bh, wt, bl, tg, fs) (nI 3) (nI 1)))) f 0).2.1) (pj_kd (mbeg ((nI 0), dk, tk, kd, lc, sz, bh, wt, bl, tg, fs) (nI 3) (nI 1))) (pj_lc (mbeg ((nI 0), dk, tk, kd, lc, sz, bh, wt, bl, tg, fs) (nI 3) (nI 1))) (upd (pj_sz (mbeg ((nI 0), dk, tk, kd, lc, sz, bh, wt, bl, tg, fs) (nI 3) (nI 1))) f (nI z1)) (pj_bh (mbeg ((nI 0), dk, tk, kd, lc, sz, bh, wt, bl, tg, fs) (nI 3) (nI 1))) (pj_wt (mbeg ((nI 0), dk, tk, kd, lc, sz, bh, wt, bl, tg, fs) (nI 3) (nI 1))) ((mtk ((pj_dk (mbeg ((nI 0), dk, tk, kd, lc, sz, bh, wt, bl, tg, fs) (nI 3) (nI 1))), (pj_tk (mbeg ((nI 0), dk, tk, kd, lc, sz, bh, wt, bl, tg, fs) (nI 3) (nI 1))), (pj_bl (mbeg ((nI 0), dk, tk, kd, lc, sz, bh, wt, bl, tg, fs) (nI 3) (nI 1)))) f 0).2.2) (pj_tg (mbeg ((nI 0), dk, tk, kd, lc, sz, bh, wt, bl, tg, fs) (nI 3) (nI 1))) (pj_fs (mbeg ((nI 0), dk, tk, kd, lc, sz, bh, wt, bl, tg, fs) (nI 3) (nI 1)))) → va_S A s.heap H locs → ∀ ls : Array Slot, lv_has ls 7 [(0, .ref (ad 0)), (1, .int (nI z1)), (2, .int x), (3, .int (nI f)), (4, .int (nI i))] → W p l e (headSpec (Cond.code y_Mo_link c_Mo_link 7 (some .int) :: wA) (rmk 4 0 0)).room s m ([.ref (ad 0), .int (nI z1), .int x] : List Value).toArray below meth c H locs 0 0 (MQ below (wQ (some (.int (if mlk_c (cd, dk, tk, kd, lc, sz, bh, wt, bl, tg, fs) ((z1 : Nat) : Int) = 0 then nI (mff kd 12 1) else nI 0))) A D (wsM ct ad (pj_cd (mlk (cd, dk, tk, kd, lc, sz, bh, wt, bl, tg, fs) ((z1 : Nat) : Int) x)) (pj_dk (mlk (cd, dk, tk, kd, lc, sz, bh, wt, bl, tg, fs) ((z1 : Nat) : Int) x)) (pj_tk (mlk (cd, dk, tk, kd, lc, sz, bh, wt, bl, tg, fs) ((z1 : Nat) : Int) x)) (pj_kd (mlk (cd, dk, tk, kd, lc, sz, bh, wt, bl, tg, fs) ((z1 : Nat) : Int) x)) (pj_lc (mlk (cd, dk, tk, kd, lc, sz, bh, wt, bl, tg, fs) ((z1 : Nat) : Int) x)) (pj_sz (mlk (cd, dk, tk, kd, lc, sz, bh, wt, bl, tg, fs) ((z1 : Nat) : Int) x)) (pj_bh (mlk (cd, dk, tk, kd, lc, sz, bh, wt, bl, tg, fs) ((z1 : Nat) : Int) x)) (pj_wt (mlk (cd, dk, tk, kd, lc, sz, bh, wt, bl, tg, fs) ((z1 : Nat) : Int) x)) (pj_bl (mlk (cd, dk, tk, kd, lc, sz, bh, wt, bl, tg, fs) ((z1 : Nat) : Int) x)) (pj_tg (mlk (cd, dk, tk, kd, lc, sz, bh, wt, bl, tg, fs) ((z1 : Nat) : Int) x)) (pj_fs (mlk (cd, dk, tk, kd, lc, sz, bh, wt, bl, tg, fs) ((z1 : Nat) : Int) x)))) ([.ref (ad 0), .int (nI z1), .int x] : List Value).toArray s 0 0 A) (F0 m 83 ls []) := by
                intro n9
                induction n9 with
                | zero => intro i d h8 h9 h10 H locs hP hD hS ls hl; exact absurd h8 (by omega)
                | succ n9 ih =>
                  intro i d h8 h9 h10 H locs hP hD hS ls hl
                  refine lv_iload hx hb d_Mo_link_83 (lv_at hl 4 rfl) ?_
                  refine lv_iload_n hx hb d_Mo_link_85 rfl (lv_at hl 1 rfl) ?_
                  refine ln_icmp_ge (tgt := 173) hx hb (by omega) (by omega) d_Mo_link_86 (by decide) (fun c_14 => ?_) (fun c_14 => ?_)
                  · skip
                    refine lv_iload_n hx hb d_Mo_link_173 rfl (lv_at hl 3 rfl) ?_
                    have e9 : wsM ct ad (pj_cd (mbeg ((nI 0), dk, tk, kd, lc, sz, bh, wt, bl, tg, fs) (nI 3) (nI 1))) d ((mtk ((pj_dk (mbeg ((nI 0), dk, tk, kd, lc, sz, bh, wt, bl, tg, fs) (nI 3) (nI 1))), (pj_tk (mbeg ((nI 0), dk, tk, kd, lc, sz, bh, wt, bl, tg, fs) (nI 3) (nI 1))), (pj_bl (mbeg ((nI 0), dk, tk, kd, lc, sz, bh, wt, bl, tg, fs) (nI 3) (nI 1)))) f 0).2.1) (pj_kd (mbeg ((nI 0), dk, tk, kd, lc, sz, bh, wt, bl, tg, fs) (nI 3) (nI 1))) (pj_lc (mbeg ((nI 0), dk, tk, kd, lc, sz, bh, wt, bl, tg, fs) (nI 3) (nI 1))) (upd (pj_sz (mbeg ((nI 0), dk, tk, kd, lc, sz, bh, wt, bl, tg, fs) (nI 3) (nI 1))) f (nI z1)) (pj_bh (mbeg ((nI 0), dk, tk, kd, lc, sz, bh, wt, bl, tg, fs) (nI 3) (nI 1))) (pj_wt (mbeg ((nI 0), dk, tk, kd, lc, sz, bh, wt, bl, tg, fs) (nI 3) (nI 1))) ((mtk ((pj_dk (mbeg ((nI 0), dk, tk, kd, lc, sz, bh, wt, bl, tg, fs) (nI 3) (nI 1))), (pj_tk (mbeg ((nI 0), dk, tk, kd, lc, sz, bh, wt, bl, tg, fs) (nI 3) (nI 1))), (pj_bl (mbeg ((nI 0), dk, tk, kd, lc, sz, bh, wt, bl, tg, fs) (nI 3) (nI 1)))) f 0).2.2) (pj_tg (mbeg ((nI 0), dk, tk, kd, lc, sz, bh, wt, bl, tg, fs) (nI 3) (nI 1))) (pj_fs (mbeg ((nI 0), dk, tk, kd, lc, sz, bh, wt, bl, tg, fs) (nI 3) (nI 1))) = wsM ct ad (pj_cd (mlk (cd, dk, tk, kd, lc, sz, bh, wt, bl, tg, fs) ((z1 : Nat) : Int) x)) (pj_dk (mlk (cd, dk, tk, kd, lc, sz, bh, wt, bl, tg, fs) ((z1 : Nat) : Int) x)) (pj_tk (mlk (cd, dk, tk, kd, lc, sz, bh, wt, bl, tg, fs) ((z1 : Nat) : Int) x)) (pj_kd (mlk (cd, dk, tk, kd, lc, sz, bh, wt, bl, tg, fs) ((z1 : Nat) : Int) x)) (pj_lc (mlk (cd, dk, tk, kd, lc, sz, bh, wt, bl, tg, fs) ((z1 : Nat) : Int) x)) (pj_sz (mlk (cd, dk, tk, kd, lc, sz, bh, wt, bl, tg, fs) ((z1 : Nat) : Int) x)) (pj_bh (mlk (cd, dk, tk, kd, lc, sz, bh, wt, bl, tg, fs) ((z1 : Nat) : Int) x)) (pj_wt (mlk (cd, dk, tk, kd, lc, sz, bh, wt, bl, tg, fs) ((z1 : Nat) : Int) x)) (pj_bl (mlk (cd, dk, tk, kd, lc, sz, bh, wt, bl, tg, fs) ((z1 : Nat) : Int) x)) (pj_tg (mlk (cd, dk, tk, kd, lc, sz, bh, wt, bl, tg, fs) ((z1 : Nat) : Int) x)) (pj_fs (mlk (cd, dk, tk, kd, lc, sz, bh, wt, bl, tg, fs) ((z1 : Nat) : Int) x)) := (by have e7 := (show mlk_c (cd, dk, tk, kd, lc, sz, bh, wt, bl, tg, fs) ((z1 : Nat) : Int) = 0 from (by unfold mlk_c; (try dsimp only [pj_kd, pj_bl, pj_bh, pj_wt, pj_fs, pj_cd, pj_dk, pj_tk, pj_lc, pj_sz, pj_tg]); first | (rw [if_neg (by omega)]; done) | (rw [if_pos (by omega), if_pos (by omega)]; done) | (rw [if_pos (by omega), if_neg (by omega)]; done))); unfold mlk; rw [e7, if_pos rfl, Int.toNat_natCast, ← hf9]; unfold mlkF; first | (rw [if_pos (by omega), h10, show z1 - i = 0 by omega]; rfl) | (rw [if_neg (by omega), h10, show z1 - i = 0 by omega]; rfl))
                    rw [e9] at hP hD
                    exact W.iret (v := nI f) hx hb hr (fun t9 ht hW => ⟨congrArg (fun z => Outcome.returned (some (Value.int z))) (show nI f = (if mlk_c (cd, dk, tk, kd, lc, sz, bh, wt, bl, tg, fs) ((z1 : Nat) : Int) = 0 then nI (mff kd 12 1) else nI 0) from (by rw [(show mlk_c (cd, dk, tk, kd, lc, sz, bh, wt, bl, tg, fs) ((z1 : Nat) : Int) = 0 from (by unfold mlk_c; (try dsimp only [pj_kd, pj_bl, pj_bh, pj_wt, pj_fs, pj_cd, pj_dk, pj_tk, pj_lc, pj_sz, pj_tg]); first | (rw [if_neg (by omega)]; done) | (rw [if_pos (by omega), if_pos (by omega)]; done) | (rw [if_pos (by omega), if_neg (by omega)]; done)))]; first | rfl | (rw [if_pos rfl, ← hf9]))), by rw [ht]; exact hP, hD, hS.F ht⟩) hS.2.2 d_Mo_link_174
                  · skip
                    refine lv_iload_n hx hb d_Mo_link_89 rfl (lv_at hl 2 rfl) ?_
                    refine lv_iload hx hb d_Mo_link_90 (lv_at hl 4 rfl) ?_
                    refine lv_iadd hx hb d_Mo_link_92 ?_
                    refine lv_sipush (v := nI 255) hx hb d_Mo_link_93 (by decide) ?_
                    refine lv_irem hx hb d_Mo_link_96 (by decide) ?_
                    refine lv_istore (lv' := [(5, .int ((x + (nI i)) - (x + (nI i)) / (nI 255) * (nI 255))), (0, .ref (ad 0)), (1, .int (nI z1)), (2, .int x), (3, .int (nI f)), (4, .int (nI i))]) hx hb d_Mo_link_97 hl (by decide) rfl (fun ls hl => ?_)
                    refine lv_iconst (v := nI 1) hx hb d_Mo_link_99 (by decide) ?_
                    refine lv_iload hx hb d_Mo_link_100 (lv_at hl 0 rfl) ?_
                    refine lv_if_ge (tgt := 114) hx hb d_Mo_link_102 (by decide) (fun c_15 => ?_) (fun c_15 => ?_)
                    · skip
                      refine lv_iload hx hb d_Mo_link_114 (lv_at hl 0 rfl) ?_
                      refine lv_iadd hx hb d_Mo_link_116 ?_
                      refine lv_istore (lv' := [(6, .int ((nI 1) + ((x + (nI i)) - (x + (nI i)) / (nI 255) * (nI 255)))), (5, .int ((x + (nI i)) - (x + (nI i)) / (nI 255) * (nI 255))), (0, .ref (ad 0)), (1, .int (nI z1)), (2, .int x), (3, .int (nI f)), (4, .int (nI i))]) hx hb d_Mo_link_117 hl (by decide) rfl (fun ls hl => ?_)
                      refine lv_iload_n hx hb d_Mo_link_119 rfl (lv_at hl 3 rfl) ?_
                      refine lv_bipush (v := nI 59) hx hb d_Mo_link_120 (by decide) ?_
                      refine ln_icmp_le (tgt := 152) hx hb (by omega) (by omega) d_Mo_link_122 (by decide) (fun c_16 => ?_) (fun c_16 => ?_)
                      · exact absurd c_16 (by omega)
                      · skip
                        refine lv_aload_n hx hb d_Mo_link_125 rfl (lv_at hl 2 rfl) ?_
                        refine va_get (D := D) (ci := 6) (v := .ref (ad 1)) (C := R_Mo) (T := T_Mo) (N := 11) hx hb hts u_Mo hown hK hP 0 rfl rfl 1 (by decide) (hts _ w_840) (fun _ h9 => h9) rfl d_Mo_link_126 ?_
                        refine lv_sipush (v := nI 1024) hx hb d_Mo_link_129 (by decide) ?_
                        refine lv_aload_n hx hb d_Mo_link_132 rfl (lv_at hl 2 rfl) ?_
                        refine va_get (D := D) (ci := 6) (v := .ref (ad 8)) (C := R_Mo) (T := T_Mo) (N := 11) hx hb hts u_Mo hown hK hP 0 rfl rfl 8 (by decide) (hts _ w_847) (fun _ h9 => h9) rfl d_Mo_link_133 ?_
                        refine lv_bipush (v := nI 15) hx hb d_Mo_link_136 (by decide) ?_
                        refine lv_iload_n hx hb d_Mo_link_138 rfl (lv_at hl 5 rfl) ?_
                        refine ln_imul hx hb d_Mo_link_139 ?_
                        refine ln_iald hx hb hK hP 8 2 rfl rfl (by omega) (by decide) d_Mo_link_140 ?_
                        refine W.eq (g2 := F0 m 141 ls [.int (nI (((mtk ((pj_dk (mbeg ((nI 0), dk, tk, kd, lc, sz, bh, wt, bl, tg, fs) (nI 3) (nI 1))), (pj_tk (mbeg ((nI 0), dk, tk, kd, lc, sz, bh, wt, bl, tg, fs) (nI 3) (nI 1))), (pj_bl (mbeg ((nI 0), dk, tk, kd, lc, sz, bh, wt, bl, tg, fs) (nI 3) (nI 1)))) f 0).2.2) (15 * f))), .int (nI 1024), .ref (ad 1)]) rfl ?_
                        have b_17 := hbl (15 * f)
                        refine ln_imul hx hb d_Mo_link_141 ?_
                        refine lv_iload hx hb d_Mo_link_142 (lv_at hl 6 rfl) ?_
                        refine ln_iadd hx hb d_Mo_link_144 ?_
                        refine lv_iload hx hb d_Mo_link_145 (lv_at hl 0 rfl) ?_
                        refine lv_i2b hx hb d_Mo_link_147 rfl ?_
                        refine ln_bast hx hb hK hP hD hS 1 0 rfl rfl (by omega) (by decide) d_Mo_link_148 (fun H locs hP hD hS => ?_)
                        have hP : va_P D vwC (wsM ct ad (pj_cd (mbeg ((nI 0), dk, tk, kd, lc, sz, bh, wt, bl, tg, fs) (nI 3) (nI 1))) (upd d ((1024 * (((mtk ((pj_dk (mbeg ((nI 0), dk, tk, kd, lc, sz, bh, wt, bl, tg, fs) (nI 3) (nI 1))), (pj_tk (mbeg ((nI 0), dk, tk, kd, lc, sz, bh, wt, bl, tg, fs) (nI 3) (nI 1))), (pj_bl (mbeg ((nI 0), dk, tk, kd, lc, sz, bh, wt, bl, tg, fs) (nI 3) (nI 1)))) f 0).2.2) (15 * f))) + i) (vp_nar .byte (((nI 1) + ((x + (nI i)) - (x + (nI i)) / (nI 255) * (nI 255))).toInt8.toInt32))) ((mtk ((pj_dk (mbeg ((nI 0), dk, tk, kd, lc, sz, bh, wt, bl, tg, fs) (nI 3) (nI 1))), (pj_tk (mbeg ((nI 0), dk, tk, kd, lc, sz, bh, wt, bl, tg, fs) (nI 3) (nI 1))), (pj_bl (mbeg ((nI 0), dk, tk, kd, lc, sz, bh, wt, bl, tg, fs) (nI 3) (nI 1)))) f 0).2.1) (pj_kd (mbeg ((nI 0), dk, tk, kd, lc, sz, bh, wt, bl, tg, fs) (nI 3) (nI 1))) (pj_lc (mbeg ((nI 0), dk, tk, kd, lc, sz, bh, wt, bl, tg, fs) (nI 3) (nI 1))) (upd (pj_sz (mbeg ((nI 0), dk, tk, kd, lc, sz, bh, wt, bl, tg, fs) (nI 3) (nI 1))) f (nI z1)) (pj_bh (mbeg ((nI 0), dk, tk, kd, lc, sz, bh, wt, bl, tg, fs) (nI 3) (nI 1))) (pj_wt (mbeg ((nI 0), dk, tk, kd, lc, sz, bh, wt, bl, tg, fs) (nI 3) (nI 1))) ((mtk ((pj_dk (mbeg ((nI 0), dk, tk, kd, lc, sz, bh, wt, bl, tg, fs) (nI 3) (nI 1))), (pj_tk (mbeg ((nI 0), dk, tk, kd, lc, sz, bh, wt, bl, tg, fs) (nI 3) (nI 1))), (pj_bl (mbeg ((nI 0), dk, tk, kd, lc, sz, bh, wt, bl, tg, fs) (nI 3) (nI 1)))) f 0).2.2) (pj_tg (mbeg ((nI 0), dk, tk, kd, lc, sz, bh, wt, bl, tg, fs) (nI 3) (nI 1))) (pj_fs (mbeg ((nI 0), dk, tk, kd, lc, sz, bh, wt, bl, tg, fs) (nI 3) (nI 1)))) H := hP
                        have hD : va_D A (wsM ct ad (pj_cd (mbeg ((nI 0), dk, tk, kd, lc, sz, bh, wt, bl, tg, fs) (nI 3) (nI 1))) (upd d ((1024 * (((mtk ((pj_dk (mbeg ((nI 0), dk, tk, kd, lc, sz, bh, wt, bl, tg, fs) (nI 3) (nI 1))), (pj_tk (mbeg ((nI 0), dk, tk, kd, lc, sz, bh, wt, bl, tg, fs) (nI 3) (nI 1))), (pj_bl (mbeg ((nI 0), dk, tk, kd, lc, sz, bh, wt, bl, tg, fs) (nI 3) (nI 1)))) f 0).2.2) (15 * f))) + i) (vp_nar .byte (((nI 1) + ((x + (nI i)) - (x + (nI i)) / (nI 255) * (nI 255))).toInt8.toInt32))) ((mtk ((pj_dk (mbeg ((nI 0), dk, tk, kd, lc, sz, bh, wt, bl, tg, fs) (nI 3) (nI 1))), (pj_tk (mbeg ((nI 0), dk, tk, kd, lc, sz, bh, wt, bl, tg, fs) (nI 3) (nI 1))), (pj_bl (mbeg ((nI 0), dk, tk, kd, lc, sz, bh, wt, bl, tg, fs) (nI 3) (nI 1)))) f 0).2.1) (pj_kd (mbeg ((nI 0), dk, tk, kd, lc, sz, bh, wt, bl, tg, fs) (nI 3) (nI 1))) (pj_lc (mbeg ((nI 0), dk, tk, kd, lc, sz, bh, wt, bl, tg, fs) (nI 3) (nI 1))) (upd (pj_sz (mbeg ((nI 0), dk, tk, kd, lc, sz, bh, wt, bl, tg, fs) (nI 3) (nI 1))) f (nI z1)) (pj_bh (mbeg ((nI 0), dk, tk, kd, lc, sz, bh, wt, bl, tg, fs) (nI 3) (nI 1))) (pj_wt (mbeg ((nI 0), dk, tk, kd, lc, sz, bh, wt, bl, tg, fs) (nI 3) (nI 1))) ((mtk ((pj_dk (mbeg ((nI 0), dk, tk, kd, lc, sz, bh, wt, bl, tg, fs) (nI 3) (nI 1))), (pj_tk (mbeg ((nI 0), dk, tk, kd, lc, sz, bh, wt, bl, tg, fs) (nI 3) (nI 1))), (pj_bl (mbeg ((nI 0), dk, tk, kd, lc, sz, bh, wt, bl, tg, fs) (nI 3) (nI 1)))) f 0).2.2) (pj_tg (mbeg ((nI 0), dk, tk, kd, lc, sz, bh, wt, bl, tg, fs) (nI 3) (nI 1))) (pj_fs (mbeg ((nI 0), dk, tk, kd, lc, sz, bh, wt, bl, tg, fs) (nI 3) (nI 1)))) := hD
                        refine lv_goto (tgt := 167) hx hb d_Mo_link_149 (by decide) ?_
                        refine lv_iinc (v := nI (i + 1)) (lv' := [(4, .int (nI (i + 1))), (6, .int ((nI 1) + ((x + (nI i)) - (x + (nI i)) / (nI 255) * (nI 255)))), (5, .int ((x + (nI i)) - (x + (nI i)) / (nI 255) * (nI 255))), (0, .ref (ad 0)), (1, .int (nI z1)), (2, .int x), (3, .int (nI f))]) hx hb d_Mo_link_167 hl (k := 6) rfl (ln_inc (by decide)) (by decide) rfl (fun ls hl => ?_)
                        refine lv_goto (tgt := 83) hx hb d_Mo_link_170 (by decide) ?_
                        exact ih (i + 1) (upd d ((1024 * (((mtk ((pj_dk (mbeg ((nI 0), dk, tk, kd, lc, sz, bh, wt, bl, tg, fs) (nI 3) (nI 1))), (pj_tk (mbeg ((nI 0), dk, tk, kd, lc, sz, bh, wt, bl, tg, fs) (nI 3) (nI 1))), (pj_bl (mbeg ((nI 0), dk, tk, kd, lc, sz, bh, wt, bl, tg, fs) (nI 3) (nI 1)))) f 0).2.2) (15 * f))) + i) (vp_nar .byte (((nI 1) + ((x + (nI i)) - (x + (nI i)) / (nI 255) * (nI 255))).toInt8.toInt32))) (by omega) (by omega) (by rw [h10, show z1 - i = z1 - (i + 1) + 1 by omega, mlkd]; unfold mrb; first | (rw [if_pos (by assumption)]; rfl) | (rw [if_pos (by assumption)]; done) | (rw [if_neg (by assumption)]; rfl) | (rw [if_neg (by assumption)]; done)) _ _ hP hD hS ls (lv_sub hl [3, 4, 5, 6, 0] rfl)
                    · skip
                      refine lv_iload hx hb d_Mo_link_105 (lv_at hl 0 rfl) ?_
                      refine lv_sipush (v := nI 255) hx hb d_Mo_link_107 (by decide) ?_
                      refine lv_iadd hx hb d_Mo_link_110 ?_
                      refine lv_goto (tgt := 116) hx hb d_Mo_link_111 (by decide) ?_
                      refine lv_iadd hx hb d_Mo_link_116 ?_
                      refine lv_istore (lv' := [(6, .int ((nI 1) + (((x + (nI i)) - (x + (nI i)) / (nI 255) * (nI 255)) + (nI 255)))), (5, .int ((x + (nI i)) - (x + (nI i)) / (nI 255) * (nI 255))), (0, .ref (ad 0)), (1, .int (nI z1)), (2, .int x), (3, .int (nI f)), (4, .int (nI i))]) hx hb d_Mo_link_117 hl (by decide) rfl (fun ls hl => ?_)
                      refine lv_iload_n hx hb d_Mo_link_119 rfl (lv_at hl 3 rfl) ?_
                      refine lv_bipush (v := nI 59) hx hb d_Mo_link_120 (by decide) ?_
                      refine ln_icmp_le (tgt := 152) hx hb (by omega) (by omega) d_Mo_link_122 (by decide) (fun c_18 => ?_) (fun c_18 => ?_)
                      · exact absurd c_18 (by omega)
                      · skip
                        refine lv_aload_n hx hb d_Mo_link_125 rfl (lv_at hl 2 rfl) ?_
                        refine va_get (D := D) (ci := 6) (v := .ref (ad 1)) (C := R_Mo) (T := T_Mo) (N := 11) hx hb hts u_Mo hown hK hP 0 rfl rfl 1 (by decide) (hts _ w_840) (fun _ h9 => h9) rfl d_Mo_link_126 ?_
                        refine lv_sipush (v := nI 1024) hx hb d_Mo_link_129 (by decide) ?_
                        refine lv_aload_n hx hb d_Mo_link_132 rfl (lv_at hl 2 rfl) ?_
                        refine va_get (D := D) (ci := 6) (v := .ref (ad 8)) (C := R_Mo) (T := T_Mo) (N := 11) hx hb hts u_Mo hown hK hP 0 rfl rfl 8 (by decide) (hts _ w_847) (fun _ h9 => h9) rfl d_Mo_link_133 ?_
                        refine lv_bipush (v := nI 15) hx hb d_Mo_link_136 (by decide) ?_
                        refine lv_iload_n hx hb d_Mo_link_138 rfl (lv_at hl 5 rfl) ?_
                        refine ln_imul hx hb d_Mo_link_139 ?_
                        refine ln_iald hx hb hK hP 8 2 rfl rfl (by omega) (by decide) d_Mo_link_140 ?_
                        refine W.eq (g2 := F0 m 141 ls [.int (nI (((mtk ((pj_dk (mbeg ((nI 0), dk, tk, kd, lc, sz, bh, wt, bl, tg, fs) (nI 3) (nI 1))), (pj_tk (mbeg ((nI 0), dk, tk, kd, lc, sz, bh, wt, bl, tg, fs) (nI 3) (nI 1))), (pj_bl (mbeg ((nI 0), dk, tk, kd, lc, sz, bh, wt, bl, tg, fs) (nI 3) (nI 1)))) f 0).2.2) (15 * f))), .int (nI 1024), .ref (ad 1)]) rfl ?_
                        have b_19 := hbl (15 * f)
                        refine ln_imul hx hb d_Mo_link_141 ?_
                        refine lv_iload hx hb d_Mo_link_142 (lv_at hl 6 rfl) ?_
                        refine ln_iadd hx hb d_Mo_link_144 ?_
                        refine lv_iload hx hb d_Mo_link_145 (lv_at hl 0 rfl) ?_
                        refine lv_i2b hx hb d_Mo_link_147 rfl ?_
                        refine ln_bast hx hb hK hP hD hS 1 0 rfl rfl (by omega) (by decide) d_Mo_link_148 (fun H locs hP hD hS => ?_)
                        have hP : va_P D vwC (wsM ct ad (pj_cd (mbeg ((nI 0), dk, tk, kd, lc, sz, bh, wt, bl, tg, fs) (nI 3) (nI 1))) (upd d ((1024 * (((mtk ((pj_dk (mbeg ((nI 0), dk, tk, kd, lc, sz, bh, wt, bl, tg, fs) (nI 3) (nI 1))), (pj_tk (mbeg ((nI 0), dk, tk, kd, lc, sz, bh, wt, bl, tg, fs) (nI 3) (nI 1))), (pj_bl (mbeg ((nI 0), dk, tk, kd, lc, sz, bh, wt, bl, tg, fs) (nI 3) (nI 1)))) f 0).2.2) (15 * f))) + i) (vp_nar .byte (((nI 1) + (((x + (nI i)) - (x + (nI i)) / (nI 255) * (nI 255)) + (nI 255))).toInt8.toInt32))) ((mtk ((pj_dk (mbeg ((nI 0), dk, tk, kd, lc, sz, bh, wt, bl, tg, fs) (nI 3) (nI 1))), (pj_tk (mbeg ((nI 0), dk, tk, kd, lc, sz, bh, wt, bl, tg, fs) (nI 3) (nI 1))), (pj_bl (mbeg ((nI 0), dk, tk, kd, lc, sz, bh, wt, bl, tg, fs) (nI 3) (nI 1)))) f 0).2.1) (pj_kd (mbeg ((nI 0), dk, tk, kd, lc, sz, bh, wt, bl, tg, fs) (nI 3) (nI 1))) (pj_lc (mbeg ((nI 0), dk, tk, kd, lc, sz, bh, wt, bl, tg, fs) (nI 3) (nI 1))) (upd (pj_sz (mbeg ((nI 0), dk, tk, kd, lc, sz, bh, wt, bl, tg, fs) (nI 3) (nI 1))) f (nI z1)) (pj_bh (mbeg ((nI 0), dk, tk, kd, lc, sz, bh, wt, bl, tg, fs) (nI 3) (nI 1))) (pj_wt (mbeg ((nI 0), dk, tk, kd, lc, sz, bh, wt, bl, tg, fs) (nI 3) (nI 1))) ((mtk ((pj_dk (mbeg ((nI 0), dk, tk, kd, lc, sz, bh, wt, bl, tg, fs) (nI 3) (nI 1))), (pj_tk (mbeg ((nI 0), dk, tk, kd, lc, sz, bh, wt, bl, tg, fs) (nI 3) (nI 1))), (pj_bl (mbeg ((nI 0), dk, tk, kd, lc, sz, bh, wt, bl, tg, fs) (nI 3) (nI 1)))) f 0).2.2) (pj_tg (mbeg ((nI 0), dk, tk, kd, lc, sz, bh, wt, bl, tg, fs) (nI 3) (nI 1))) (pj_fs (mbeg ((nI 0), dk, tk, kd, lc, sz, bh, wt, bl, tg, fs) (nI 3) (nI 1)))) H := hP
                        have hD : va_D A (wsM ct ad (pj_cd (mbeg ((nI 0), dk, tk, kd, lc, sz, bh, wt, bl, tg, fs) (nI 3) (nI 1))) (upd d ((1024 * (((mtk ((pj_dk (mbeg ((nI 0), dk, tk, kd, lc, sz, bh, wt, bl, tg, fs) (nI 3) (nI 1))), (pj_tk (mbeg ((nI 0), dk, tk, kd, lc, sz, bh, wt, bl, tg, fs) (nI 3) (nI 1))), (pj_bl (mbeg ((nI 0), dk, tk, kd, lc, sz, bh, wt, bl, tg, fs) (nI 3) (nI 1)))) f 0).2.2) (15 * f))) + i) (vp_nar .byte (((nI 1) + (((x + (nI i)) - (x + (nI i)) / (nI 255) * (nI 255)) + (nI 255))).toInt8.toInt32))) ((mtk ((pj_dk (mbeg ((nI 0), dk, tk, kd, lc, sz, bh, wt, bl, tg, fs) (nI 3) (nI 1))), (pj_tk (mbeg ((nI 0), dk, tk, kd, lc, sz, bh, wt, bl, tg, fs) (nI 3) (nI 1))), (pj_bl (mbeg ((nI 0), dk, tk, kd, lc, sz, bh, wt, bl, tg, fs) (nI 3) (nI 1)))) f 0).2.1) (pj_kd (mbeg ((nI 0), dk, tk, kd, lc, sz, bh, wt, bl, tg, fs) (nI 3) (nI 1))) (pj_lc (mbeg ((nI 0), dk, tk, kd, lc, sz, bh, wt, bl, tg, fs) (nI 3) (nI 1))) (upd (pj_sz (mbeg ((nI 0), dk, tk, kd, lc, sz, bh, wt, bl, tg, fs) (nI 3) (nI 1))) f (nI z1)) (pj_bh (mbeg ((nI 0), dk, tk, kd, lc, sz, bh, wt, bl, tg, fs) (nI 3) (nI 1))) (pj_wt (mbeg ((nI 0), dk, tk, kd, lc, sz, bh, wt, bl, tg, fs) (nI 3) (nI 1))) ((mtk ((pj_dk (mbeg ((nI 0), dk, tk, kd, lc, sz, bh, wt, bl, tg, fs) (nI 3) (nI 1))), (pj_tk (mbeg ((nI 0), dk, tk, kd, lc, sz, bh, wt, bl, tg, fs) (nI 3) (nI 1))), (pj_bl (mbeg ((nI 0), dk, tk, kd, lc, sz, bh, wt, bl, tg, fs) (nI 3) (nI 1)))) f 0).2.2) (pj_tg (mbeg ((nI 0), dk, tk, kd, lc, sz, bh, wt, bl, tg, fs) (nI 3) (nI 1))) (pj_fs (mbeg ((nI 0), dk, tk, kd, lc, sz, bh, wt, bl, tg, fs) (nI 3) (nI 1)))) := hD
                        refine lv_goto (tgt := 167) hx hb d_Mo_link_149 (by decide) ?_
                        refine lv_iinc (v := nI (i + 1)) (lv' := [(4, .int (nI (i + 1))), (6, .int ((nI 1) + (((x + (nI i)) - (x + (nI i)) / (nI 255) * (nI 255)) + (nI 255)))), (5, .int ((x + (nI i)) - (x + (nI i)) / (nI 255) * (nI 255))), (0, .ref (ad 0)), (1, .int (nI z1)), (2, .int x), (3, .int (nI f))]) hx hb d_Mo_link_167 hl (k := 6) rfl (ln_inc (by decide)) (by decide) rfl (fun ls hl => ?_)
                        refine lv_goto (tgt := 83) hx hb d_Mo_link_170 (by decide) ?_
                        exact ih (i + 1) (upd d ((1024 * (((mtk ((pj_dk (mbeg ((nI 0), dk, tk, kd, lc, sz, bh, wt, bl, tg, fs) (nI 3) (nI 1))), (pj_tk (mbeg ((nI 0), dk, tk, kd, lc, sz, bh, wt, bl, tg, fs) (nI 3) (nI 1))), (pj_bl (mbeg ((nI 0), dk, tk, kd, lc, sz, bh, wt, bl, tg, fs) (nI 3) (nI 1)))) f 0).2.2) (15 * f))) + i) (vp_nar .byte (((nI 1) + (((x + (nI i)) - (x + (nI i)) / (nI 255) * (nI 255)) + (nI 255))).toInt8.toInt32))) (by omega) (by omega) (by rw [h10, show z1 - i = z1 - (i + 1) + 1 by omega, mlkd]; unfold mrb; first | (rw [if_pos (by assumption)]; rfl) | (rw [if_pos (by assumption)]; done) | (rw [if_neg (by assumption)]; rfl) | (rw [if_neg (by assumption)]; done)) _ _ hP hD hS ls (lv_sub hl [3, 4, 5, 6, 0] rfl)
              exact loop83 (z1 + 1) 0 ((mtk ((pj_dk (mbeg ((nI 0), dk, tk, kd, lc, sz, bh, wt, bl, tg, fs) (nI 3) (nI 1))), (pj_tk (mbeg ((nI 0), dk, tk, kd, lc, sz, bh, wt, bl, tg, fs) (nI 3) (nI 1))), (pj_bl (mbeg ((nI 0), dk, tk, kd, lc, sz, bh, wt, bl, tg, fs) (nI 3) (nI 1)))) f 0).1) (by omega) (by omega) rfl _ _ hP hD hS ls (lv_sub hl [2, 3, 4, 1, 0] rfl)
          · exact absurd c_12 (by omega)
        · skip
          refine lv_iconst (v := nI 2) hx hb d_Mo_link_37 (by decide) ?_
          refine lv_goto (tgt := 42) hx hb d_Mo_link_38 (by decide) ?_
          refine va_put (D := D) (ci := 6) (v := .int (nI 2)) (ty := .int) (C := R_Mo) (T := T_Mo) (N := 11) hx hb hts u_Mo t_Mo t_Mo_ok n_Mo hown hK hP hD hS 0 rfl rfl 0 (by decide) (hts _ w_839) (fun _ h9 => h9) rfl (by decide +kernel) rfl rfl (Nat.le_of_ble_eq_true rfl) d_Mo_link_42 (fun H locs hP hD hS => ?_)
          have hP : va_P D vwC (wsM ct ad (nI 2) dk tk kd lc sz bh wt bl tg fs) H := hP
          have hD : va_D A (wsM ct ad (nI 2) dk tk kd lc sz bh wt bl tg fs) := hD
          refine lv_aload_n hx hb d_Mo_link_45 rfl (lv_at hl 0 rfl) ?_
          refine va_get (D := D) (ci := 6) (v := .int (nI 2)) (C := R_Mo) (T := T_Mo) (N := 11) hx hb hts u_Mo hown hK hP 0 rfl rfl 0 (by decide) (hts _ w_839) (fun _ h9 => h9) rfl d_Mo_link_46 ?_
          refine ln_if_le (tgt := 54) hx hb (by omega) d_Mo_link_49 (by decide) (fun c_20 => ?_) (fun c_20 => ?_)
          · exact absurd c_20 (by omega)
          · skip
            refine lv_iconst (v := nI 0) hx hb d_Mo_link_52 (by decide) ?_
            have e9 : wsM ct ad (nI 2) dk tk kd lc sz bh wt bl tg fs = wsM ct ad (pj_cd (mlk (cd, dk, tk, kd, lc, sz, bh, wt, bl, tg, fs) z x)) (pj_dk (mlk (cd, dk, tk, kd, lc, sz, bh, wt, bl, tg, fs) z x)) (pj_tk (mlk (cd, dk, tk, kd, lc, sz, bh, wt, bl, tg, fs) z x)) (pj_kd (mlk (cd, dk, tk, kd, lc, sz, bh, wt, bl, tg, fs) z x)) (pj_lc (mlk (cd, dk, tk, kd, lc, sz, bh, wt, bl, tg, fs) z x)) (pj_sz (mlk (cd, dk, tk, kd, lc, sz, bh, wt, bl, tg, fs) z x)) (pj_bh (mlk (cd, dk, tk, kd, lc, sz, bh, wt, bl, tg, fs) z x)) (pj_wt (mlk (cd, dk, tk, kd, lc, sz, bh, wt, bl, tg, fs) z x)) (pj_bl (mlk (cd, dk, tk, kd, lc, sz, bh, wt, bl, tg, fs) z x)) (pj_tg (mlk (cd, dk, tk, kd, lc, sz, bh, wt, bl, tg, fs) z x)) (pj_fs (mlk (cd, dk, tk, kd, lc, sz, bh, wt, bl, tg, fs) z x)) := (by have e7 := (show mlk_c (cd, dk, tk, kd, lc, sz, bh, wt, bl, tg, fs) z = 2 from (by unfold mlk_c; (try dsimp only [pj_kd, pj_bl, pj_bh, pj_wt, pj_fs, pj_cd, pj_dk, pj_tk, pj_lc, pj_sz, pj_tg]); first | (rw [if_neg (by omega)]; done) | (rw [if_pos (by omega), if_pos (by omega)]; done) | (rw [if_pos (by omega), if_neg (by omega)]; done))); unfold mlk; rw [e7]; rfl)
            rw [e9] at hP hD
            exact W.iret (v := nI 0) hx hb hr (fun t9 ht hW => ⟨congrArg (fun z => Outcome.returned (some (Value.int z))) (show nI 0 = (if mlk_c (cd, dk, tk, kd, lc, sz, bh, wt, bl, tg, fs) z = 0 then nI (mff kd 12 1) else nI 0) from (by rw [(show mlk_c (cd, dk, tk, kd, lc, sz, bh, wt, bl, tg, fs) z = 2 from (by unfold mlk_c; (try dsimp only [pj_kd, pj_bl, pj_bh, pj_wt, pj_fs, pj_cd, pj_dk, pj_tk, pj_lc, pj_sz, pj_tg]); first | (rw [if_neg (by omega)]; done) | (rw [if_pos (by omega), if_pos (by omega)]; done) | (rw [if_pos (by omega), if_neg (by omega)]; done)))]; first | rfl | (rw [if_pos rfl, ← hf9]))), by rw [ht]; exact hP, hD, hS.F ht⟩) hS.2.2 d_Mo_link_53
  · skip
    refine lv_iconst (v := nI 1) hx hb d_Mo_link_13 (by decide) ?_
    refine lv_goto (tgt := 42) hx hb d_Mo_link_14 (by decide) ?_
    refine va_put (D := D) (ci := 6) (v := .int (nI 1)) (ty := .int) (C := R_Mo) (T := T_Mo) (N := 11) hx hb hts u_Mo t_Mo t_Mo_ok n_Mo hown hK hP hD hS 0 rfl rfl 0 (by decide) (hts _ w_839) (fun _ h9 => h9) rfl (by decide +kernel) rfl rfl (Nat.le_of_ble_eq_true rfl) d_Mo_link_42 (fun H locs hP hD hS => ?_)
    have hP : va_P D vwC (wsM ct ad (nI 1) dk tk kd lc sz bh wt bl tg fs) H := hP
    have hD : va_D A (wsM ct ad (nI 1) dk tk kd lc sz bh wt bl tg fs) := hD
    refine lv_aload_n hx hb d_Mo_link_45 rfl (lv_at hl 0 rfl) ?_
    refine va_get (D := D) (ci := 6) (v := .int (nI 1)) (C := R_Mo) (T := T_Mo) (N := 11) hx hb hts u_Mo hown hK hP 0 rfl rfl 0 (by decide) (hts _ w_839) (fun _ h9 => h9) rfl d_Mo_link_46 ?_
    refine ln_if_le (tgt := 54) hx hb (by omega) d_Mo_link_49 (by decide) (fun c_21 => ?_) (fun c_21 => ?_)
    · exact absurd c_21 (by omega)
    · skip
      refine lv_iconst (v := nI 0) hx hb d_Mo_link_52 (by decide) ?_
      have e9 : wsM ct ad (nI 1) dk tk kd lc sz bh wt bl tg fs = wsM ct ad (pj_cd (mlk (cd, dk, tk, kd, lc, sz, bh, wt, bl, tg, fs) z x)) (pj_dk (mlk (cd, dk, tk, kd, lc, sz, bh, wt, bl, tg, fs) z x)) (pj_tk (mlk (cd, dk, tk, kd, lc, sz, bh, wt, bl, tg, fs) z x)) (pj_kd (mlk (cd, dk, tk, kd, lc, sz, bh, wt, bl, tg, fs) z x)) (pj_lc (mlk (cd, dk, tk, kd, lc, sz, bh, wt, bl, tg, fs) z x)) (pj_sz (mlk (cd, dk, tk, kd, lc, sz, bh, wt, bl, tg, fs) z x)) (pj_bh (mlk (cd, dk, tk, kd, lc, sz, bh, wt, bl, tg, fs) z x)) (pj_wt (mlk (cd, dk, tk, kd, lc, sz, bh, wt, bl, tg, fs) z x)) (pj_bl (mlk (cd, dk, tk, kd, lc, sz, bh, wt, bl, tg, fs) z x)) (pj_tg (mlk (cd, dk, tk, kd, lc, sz, bh, wt, bl, tg, fs) z x)) (pj_fs (mlk (cd, dk, tk, kd, lc, sz, bh, wt, bl, tg, fs) z x)) := (by have e7 := (show mlk_c (cd, dk, tk, kd, lc, sz, bh, wt, bl, tg, fs) z = 1 from (by unfold mlk_c; (try dsimp only [pj_kd, pj_bl, pj_bh, pj_wt, pj_fs, pj_cd, pj_dk, pj_tk, pj_lc, pj_sz, pj_tg]); first | (rw [if_neg (by omega)]; done) | (rw [if_pos (by omega), if_pos (by omega)]; done) | (rw [if_pos (by omega), if_neg (by omega)]; done))); unfold mlk; rw [e7]; rfl)
      rw [e9] at hP hD
      exact W.iret (v := nI 0) hx hb hr (fun t9 ht hW => ⟨congrArg (fun z => Outcome.returned (some (Value.int z))) (show nI 0 = (if mlk_c (cd, dk, tk, kd, lc, sz, bh, wt, bl, tg, fs) z = 0 then nI (mff kd 12 1) else nI 0) from (by rw [(show mlk_c (cd, dk, tk, kd, lc, sz, bh, wt, bl, tg, fs) z = 1 from (by unfold mlk_c; (try dsimp only [pj_kd, pj_bl, pj_bh, pj_wt, pj_fs, pj_cd, pj_dk, pj_tk, pj_lc, pj_sz, pj_tg]); first | (rw [if_neg (by omega)]; done) | (rw [if_pos (by omega), if_pos (by omega)]; done) | (rw [if_pos (by omega), if_neg (by omega)]; done)))]; first | rfl | (rw [if_pos rfl, ← hf9]))), by rw [ht]; exact hP, hD, hS.F ht⟩) hS.2.2 d_Mo_link_53
