/-! the reference: public methods, second part -/
def mlk_c (S : mst) (n : Int) : Nat := if 1 ≤ n ∧ n ≤ 1000 then (if mff (pj_kd S) 12 1 = 0 ∨ (59 < n ∧ mf1 (pj_tk S) 128 0 0 = 0) then 2 else 0) else 1
def mrb (x : Int32) (i : Nat) : Int32 := if 0 ≤ (x + nI i) - (x + nI i) / nI 255 * nI 255 then nI 1 + ((x + nI i) - (x + nI i) / nI 255 * nI 255) else nI 1 + (((x + nI i) - (x + nI i) / nI 255 * nI 255) + nI 255)
def mlkd (b : Nat) (x : Int32) : Nat → Nat → (Nat → Int32) → (Nat → Int32)
  | 0, _, d => d
  | k + 1, i, d => mlkd b x k (i + 1) (upd d (1024 * b + i) (vp_nar .byte ((mrb x i).toInt8.toInt32)))
def mlkt (f : Nat) (x : Int32) : Nat → Nat → (Nat → Int32) → (Nat → Int32)
  | 0, _, d => d
  | k + 1, i, d => mlkt f x k (i + 1) (upd d (60 * f + i) (vp_nar .byte ((mrb x i).toInt8.toInt32)))
def mssz (S : mst) (f : Nat) (x : Int32) : mst := (pj_cd S, pj_dk S, pj_tk S, pj_kd S, pj_lc S, upd (pj_sz S) f x, S.2.2.2.2.2.2)
def mtkM (S : mst) (f k : Nat) : mst := (pj_cd S, (mtk (pj_dk S, pj_tk S, pj_bl S) f k).1, (mtk (pj_dk S, pj_tk S, pj_bl S) f k).2.1, pj_kd S, pj_lc S, pj_sz S, pj_bh S, pj_wt S, (mtk (pj_dk S, pj_tk S, pj_bl S) f k).2.2, pj_tg S, pj_fs S)
def mstg (S : mst) (t : Nat → Int32) : mst := (pj_cd S, pj_dk S, pj_tk S, pj_kd S, pj_lc S, pj_sz S, pj_bh S, pj_wt S, pj_bl S, t, pj_fs S)
def mlk1 (S : mst) (n : Nat) : mst := mssz (mbeg (mcod S 0) (nI 3) (nI 1)) (mff (pj_kd S) 12 1) (nI n)
def mlk (S : mst) (n : Int) (x : Int32) : mst := if mlk_c S n = 0 then (if 59 < n then msdk (mtkM (mlk1 S n.toNat) (mff (pj_kd S) 12 1) 0) (mlkd (pj_bl (mtkM (mlk1 S n.toNat) (mff (pj_kd S) 12 1) 0) (15 * mff (pj_kd S) 12 1)) x n.toNat 0 (pj_dk (mtkM (mlk1 S n.toNat) (mff (pj_kd S) 12 1) 0))) else mstg (mlk1 S n.toNat) (mlkt (mff (pj_kd S) 12 1) x n.toNat 0 (pj_tg (mlk1 S n.toNat)))) else mcod S (mlk_c S n)
def zOK (sz : Nat → Int32) : Prop := ∀ f, 0 ≤ (sz f).toInt ∧ (sz f).toInt ≤ 15360
def mrd_c (S : mst) (f : Nat) (z : Int) : Nat := if (f ≠ 0 ∧ f ≤ 12) ∧ ¬ pj_kd S f ≤ 0 then (if 0 ≤ z ∧ z ≤ (pj_sz S f - nI 1).toInt then 0 else 2) else 1
def mrd_r (S : mst) (f i : Nat) : Int32 := if pj_kd S f = nI 3 ∧ ¬ nI 60 ≤ pj_sz S f then pj_tg S (60 * f + i) &&& nI 255 else if pj_bl S (15 * f + i / 1024) = 0 then nI 0 else pj_dk S (1024 * pj_bl S (15 * f + i / 1024) + i % 1024) &&& nI 255
def mcu_c (S : mst) (f : Nat) (z : Int) : Nat := if (((f ≠ 0 ∧ f ≤ 12) ∧ ¬ pj_kd S f ≤ 0) ∧ pj_kd S f = nI 1) ∧ 0 ≤ z ∧ z ≤ 15360 then 0 else 1
def mcl1 (f z : Nat) : Nat → Nat → (Nat → Int32) × (Nat → Nat) → (Nat → Int32) × (Nat → Nat)
  | 0, _, S => S
  | n + 1, k, S => mcl1 f z n (k + 1) (if 1024 * k < z then S else (mgT S.1 S.2 f k, mgB S.2 f k))
theorem mcl1_ok {f z : Nat} : ∀ n k (S : (Nat → Int32) × (Nat → Nat)), bOK S.2 → bOK (mcl1 f z n k S).2
  | 0, _, _, h => h
  | n + 1, k, S, h => by
    rw [mcl1]
    apply mcl1_ok n
    by_cases q : 1024 * k < z
    · rw [if_pos q]; exact h
    · rw [if_neg q]; exact mgB_ok h
def mcl2 (bl : Nat → Nat) (f : Nat) (h : Int32) : Nat → Nat → (Nat → Int32) → (Nat → Int32)
  | 0, _, d => d
  | n + 1, i, d => if h ≤ nI i then d else if i % 1024 = 0 then d else mcl2 bl f h n (i + 1) (if bl (15 * f + i / 1024) = 0 then d else upd d (1024 * bl (15 * f + i / 1024) + i % 1024) (vp_nar .byte (nI 0)))
def mcu (S : mst) (f : Nat) (z : Int) : mst := if mcu_c S f z = 0 then (nI 0, mcl2 (mcl1 f z.toNat 15 0 (pj_tk S, pj_bl S)).2 f (pj_sz S f) 1024 z.toNat (pj_dk S), (mcl1 f z.toNat 15 0 (pj_tk S, pj_bl S)).1, pj_kd S, pj_lc S, upd (pj_sz S) f (nI z.toNat), pj_bh S, pj_wt S, (mcl1 f z.toNat 15 0 (pj_tk S, pj_bl S)).2, pj_tg S, pj_fs S) else mcod S (mcu_c S f z)
def mli_c (S : mst) (f : Nat) (x : Int32) : Nat := if ((f ≠ 0 ∧ f ≤ 12) ∧ ¬ pj_kd S f ≤ 0) ∧ 0 ≤ (pj_lc S f).toInt + x.toInt ∧ (pj_lc S f).toInt + x.toInt ≤ 1000 then 0 else 1
def mli (S : mst) (f : Nat) (x : Int32) : mst := if mli_c S f x = 0 then (nI 0, pj_dk S, pj_tk S, pj_kd S, upd (pj_lc S) f (pj_lc S f + x), pj_sz S, (mrst (pj_bh S, pj_wt S, pj_fs S) f (mby (upd (pj_lc S) f (pj_lc S f + x) f))).1, (mrst (pj_bh S, pj_wt S, pj_fs S) f (mby (upd (pj_lc S) f (pj_lc S f + x) f))).2.1, pj_bl S, pj_tg S, (mrst (pj_bh S, pj_wt S, pj_fs S) f (mby (upd (pj_lc S) f (pj_lc S f + x) f))).2.2) else mcod S (mli_c S f x)
def mab_c (f z : Int) : Nat := if (1 ≤ f ∧ f ≤ 12) ∧ 0 ≤ z ∧ z ≤ 5 then 0 else 1
def mab_r (S : mst) (f : Nat) (z : Int) : Int32 := if pj_kd S f = 0 then nI 0 else if z = 0 then pj_kd S f else if z = 1 then pj_lc S f else if z = 2 then pj_sz S f else if z = 3 then nI (mbo (pj_bl S) f 15 0 0) else if z = 4 then nI (pj_bl S (15 * f)) else pj_bh S f
def mbk_c (S : mst) (f : Nat) (z : Int) : Nat := if ((f ≠ 0 ∧ f ≤ 12) ∧ ¬ pj_kd S f ≤ 0) ∧ 0 ≤ z ∧ z ≤ 14 then 0 else 1
def mco_c (z : Int) : Nat := if 0 ≤ z ∧ z ≤ 3 then 0 else 1
def mcn (kd wt : Nat → Int32) : Nat → Nat → Nat → Nat → Nat × Nat
  | 0, _, a, b => (a, b)
  | k + 1, f, a, b => mcn kd wt k (f + 1) (if kd f ≤ 0 then a else a + 1) (if wt f = 0 then b else b + 1)
def mco_r (S : mst) (z : Int) : Int32 := if z = 0 then nI (mf1 (pj_tk S) 128 0 0) else if z = 1 then nI (mcn (pj_kd S) (pj_wt S) 12 1 0 0).1 else if z = 2 then nI (mcn (pj_kd S) (pj_wt S) 12 1 0 0).2 else pj_fs S
def mrec (S : mst) (f i : Nat) : Int32 := if pj_kd S f = 0 then nI 0 else if 40 ≤ i ∧ i < 100 then (if pj_kd S f = nI 3 ∧ ¬ nI 60 ≤ pj_sz S f then (if pj_sz S f ≤ nI (i - 40) then nI 0 else pj_tg S (60 * f + (i - 40)) &&& nI 255) else mpt (nI (pj_bl S (15 * f + (i - 40) / 4))) (((i - 40) % 4 : Nat) : Int) ((4 : Nat) : Int)) else mpt (if pj_kd S f = nI 1 then nI 32768 else nI 40960) ((i : Nat) : Int) ((2 : Nat) : Int) + mpt (pj_sz S f) (((i : Nat) : Int) - ((4 : Nat) : Int)) ((4 : Nat) : Int) + mpt (pj_bh S f) (((i : Nat) : Int) - ((20 : Nat) : Int)) ((4 : Nat) : Int) + mpt (pj_lc S f) (((i : Nat) : Int) - ((26 : Nat) : Int)) ((2 : Nat) : Int) + mpt (nI (2 * mbo (pj_bl S) f 15 0 0)) (((i : Nat) : Int) - ((28 : Nat) : Int)) ((4 : Nat) : Int)
def mby_c (z u : Int) : Nat := if (0 ≤ z ∧ z ≤ 3) ∧ 0 ≤ u ∧ u ≤ 1023 then 0 else 1
def mby_r (S : mst) (z u : Nat) : Int32 := if z = 0 then mpt (pj_fs S) (((u : Nat) : Int) - ((232 : Nat) : Int)) ((4 : Nat) : Int) else mrec S (1 + 4 * (z - 1) + u / 256) (u % 256)
theorem m_Mo_block : mV R_Mo y_Mo_block (Cond.code y_Mo_block c_Mo_block 3 (some .int)) 2 := ⟨⟨w_982, w_983, w_7, w_984⟩, by decide +kernel⟩
set_option maxHeartbeats 4000000 in
set_option maxRecDepth 100000 in
theorem k_Mo_block (l : Launch) {D : va_G} {ct : Nat → ClassId} {ad : Nat → Nat} {cd : Int32} {dk : Nat → Int32} {tk kd lc sz bh wt : Nat → Int32} {bl : Nat → Nat} {tg : Nat → Int32} {fs : Int32} {A : Nat → Prop} {f : Nat} {x_f : Int32} (hx_f : x_f.toNatClampNeg = f) {z : Int} {x_z : Int32} (hx_z : x_z.toInt = z) (h0 : bOK bl) : Met l y_Mo_block (Cond.code y_Mo_block c_Mo_block 3 (some .int) :: wA) (rmk 3 0 0) (va_Pc [.ref (ad 0), .int x_f, .int x_z] (cW A D (tyM ct) (wsM ct ad cd dk tk kd lc sz bh wt bl tg fs))) (wQ (some (.int (if mbk_c (cd, dk, tk, kd, lc, sz, bh, wt, bl, tg, fs) f z = 0 then nI (bl (15 * f + z.toNat)) else nI 0))) A D (wsM ct ad (nI (mbk_c (cd, dk, tk, kd, lc, sz, bh, wt, bl, tg, fs) f z)) dk tk kd lc sz bh wt bl tg fs)) 0 0 A := by
  refine Met.ofW (cc := c_Mo_block) (maxL := 3) (ret := (some .int)) (by decide +kernel) rfl ?_
  intro p e s m args below meth c s₁ B0 hml hv
  obtain ⟨rfl, hA, hP, hD, hK⟩ := hv
  have hS : va_S A s.heap s.heap [] := va_S.rf
  have hx := B0.exec
  have hb := B0.bytes
  have hr := B0.returns
  have hts := fun w (h : w ∈ wA) => atoms_spec (ws := Cond.code y_Mo_block c_Mo_block 3 (some .int) :: wA) B0.pre w (List.mem_cons_of_mem _ h)
  have hown : s.vm.findClass R_Mo = some m.cls := findClass_of_methodNamed B0.named
  have hlocks := B0.notSynchronized
  have hl := lv_entry ([.ref (ad 0), .int x_f, .int x_z]) (n := 3) (Nat.le_of_ble_eq_true rfl)
  rw [lg_entry_eq]
  generalize (lg_sl ([.ref (ad 0), .int x_f, .int x_z]) ++ List.replicate (3 - (lg_sl ([.ref (ad 0), .int x_f, .int x_z])).length) Slot.unset).toArray = ls at hl ⊢
  have hl : lv_has ls 3 [(0, .ref (ad 0)), (1, .int x_f), (2, .int x_z)] := hl
  have hf_f : x_f.toInt.toNat = f := hx_f
  have hg_f := z_lt x_f
  have hf_z := z_lt x_z
  have hg_z := z_ge x_z
  rw [hx_z] at hf_z hg_z
  have hbl := h0
  refine lv_aload_n hx hb d_Mo_block_0 rfl (lv_at hl 0 rfl) ?_
  refine lv_aload_n hx hb d_Mo_block_1 rfl (lv_at hl 0 rfl) ?_
  refine lv_iload_n hx hb d_Mo_block_2 rfl (lv_at hl 1 rfl) ?_
  refine rdV ⟨hx, hb, hml, hown, hts⟩ hK hP (k_Mo_isFile l (f := f) (x_f := x_f) hx_f ) w_922 m_Mo_isFile ⟨by decide, by decide⟩ 0 rfl rfl rfl hl.1 rfl (Nat.le_of_ble_eq_true rfl) d_Mo_block_3 ⟨Nat.zero_le _, Nat.zero_le _⟩ ?_
  refine lb_if_eq (tgt := 25) hx hb d_Mo_block_6 (by decide) (fun c_1 => ?_) (fun c_1 => ?_)
  · skip
    refine lv_iconst (v := nI 1) hx hb d_Mo_block_25 (by decide) ?_
    refine va_put (D := D) (ci := 6) (v := .int (nI 1)) (ty := .int) (C := R_Mo) (T := T_Mo) (N := 11) hx hb hts u_Mo t_Mo t_Mo_ok n_Mo hown hK hP hD hS 0 rfl rfl 0 (by decide) (hts _ w_839) (fun _ h9 => h9) rfl (by decide +kernel) rfl rfl (Nat.le_of_ble_eq_true rfl) d_Mo_block_26 (fun H locs hP hD hS => ?_)
    have hP : va_P D vwC (wsM ct ad (nI 1) dk tk kd lc sz bh wt bl tg fs) H := hP
    have hD : va_D A (wsM ct ad (nI 1) dk tk kd lc sz bh wt bl tg fs) := hD
    refine lv_aload_n hx hb d_Mo_block_29 rfl (lv_at hl 0 rfl) ?_
    refine va_get (D := D) (ci := 6) (v := .int (nI 1)) (C := R_Mo) (T := T_Mo) (N := 11) hx hb hts u_Mo hown hK hP 0 rfl rfl 0 (by decide) (hts _ w_839) (fun _ h9 => h9) rfl d_Mo_block_30 ?_
    refine ln_if_le (tgt := 40) hx hb (by omega) d_Mo_block_33 (by decide) (fun c_2 => ?_) (fun c_2 => ?_)
    · exact absurd c_2 (by omega)
    · skip
      refine lv_iconst (v := nI 0) hx hb d_Mo_block_36 (by decide) ?_
      refine lv_goto (tgt := 51) hx hb d_Mo_block_37 (by decide) ?_
      have e9 : wsM ct ad (nI 1) dk tk kd lc sz bh wt bl tg fs = wsM ct ad (nI (mbk_c (cd, dk, tk, kd, lc, sz, bh, wt, bl, tg, fs) f z)) dk tk kd lc sz bh wt bl tg fs := (by rw [(show mbk_c (cd, dk, tk, kd, lc, sz, bh, wt, bl, tg, fs) f z = 1 from (by unfold mbk_c; dsimp only [pj_kd, pj_bl, pj_bh, pj_wt, pj_fs, pj_cd, pj_dk, pj_tk, pj_lc, pj_sz, pj_tg]; first | (rw [if_neg (fun q => absurd q.1 (by assumption))]; done) | (rw [if_neg (fun q => absurd q.2 (by omega))]; done) | (rw [if_pos ⟨by assumption, by omega⟩]; done)))])
      rw [e9] at hP hD
      exact W.iret (v := nI 0) hx hb hr (fun t9 ht hW => ⟨congrArg (fun z => Outcome.returned (some (Value.int z))) (show nI 0 = (if mbk_c (cd, dk, tk, kd, lc, sz, bh, wt, bl, tg, fs) f z = 0 then nI (bl (15 * f + z.toNat)) else nI 0) from (by rw [(show mbk_c (cd, dk, tk, kd, lc, sz, bh, wt, bl, tg, fs) f z = 1 from (by unfold mbk_c; dsimp only [pj_kd, pj_bl, pj_bh, pj_wt, pj_fs, pj_cd, pj_dk, pj_tk, pj_lc, pj_sz, pj_tg]; first | (rw [if_neg (fun q => absurd q.1 (by assumption))]; done) | (rw [if_neg (fun q => absurd q.2 (by omega))]; done) | (rw [if_pos ⟨by assumption, by omega⟩]; done)))]; rfl)), by rw [ht]; exact hP, hD, hS.F ht⟩) hS.2.2 d_Mo_block_51
  · skip
    obtain ⟨⟨f1, f2⟩, f3⟩ := id c_1
    obtain rfl : x_f = nI f := z_cl hx_f (by omega)
    refine lv_iload_n hx hb d_Mo_block_9 rfl (lv_at hl 2 rfl) ?_
    refine lv_i2l hx hb d_Mo_block_10 rfl ?_
    refine lv_lconst (v := 0) hx hb d_Mo_block_11 (by decide) ?_
    refine lv_ldc2 (v := 14) hx hb hown (hts _ w_985) d_Mo_block_12 ?_
    refine rdS ⟨hx, hb, hml, hown, hts⟩ hK hP (k_Mo_in l (v := z) (x_v := x_z.toInt64) (u := 0) (x_u := 0) (w := 14) (x_w := 14) ((Int32.toInt_toInt64 _).trans hx_z) (show Int64.toInt 0 = 0 by decide) (show Int64.toInt 14 = 14 by decide) ) w_883 m_Mo_in ⟨by decide, by decide⟩ rfl hl.1 rfl (Nat.le_of_ble_eq_true rfl) d_Mo_block_15 ⟨Nat.zero_le _, Nat.zero_le _⟩ ?_
    refine lb_if_eq (tgt := 25) hx hb d_Mo_block_18 (by decide) (fun c_3 => ?_) (fun c_3 => ?_)
    · skip
      refine lv_iconst (v := nI 1) hx hb d_Mo_block_25 (by decide) ?_
      refine va_put (D := D) (ci := 6) (v := .int (nI 1)) (ty := .int) (C := R_Mo) (T := T_Mo) (N := 11) hx hb hts u_Mo t_Mo t_Mo_ok n_Mo hown hK hP hD hS 0 rfl rfl 0 (by decide) (hts _ w_839) (fun _ h9 => h9) rfl (by decide +kernel) rfl rfl (Nat.le_of_ble_eq_true rfl) d_Mo_block_26 (fun H locs hP hD hS => ?_)
      have hP : va_P D vwC (wsM ct ad (nI 1) dk tk kd lc sz bh wt bl tg fs) H := hP
      have hD : va_D A (wsM ct ad (nI 1) dk tk kd lc sz bh wt bl tg fs) := hD
      refine lv_aload_n hx hb d_Mo_block_29 rfl (lv_at hl 0 rfl) ?_
      refine va_get (D := D) (ci := 6) (v := .int (nI 1)) (C := R_Mo) (T := T_Mo) (N := 11) hx hb hts u_Mo hown hK hP 0 rfl rfl 0 (by decide) (hts _ w_839) (fun _ h9 => h9) rfl d_Mo_block_30 ?_
      refine ln_if_le (tgt := 40) hx hb (by omega) d_Mo_block_33 (by decide) (fun c_4 => ?_) (fun c_4 => ?_)
      · exact absurd c_4 (by omega)
      · skip
        refine lv_iconst (v := nI 0) hx hb d_Mo_block_36 (by decide) ?_
        refine lv_goto (tgt := 51) hx hb d_Mo_block_37 (by decide) ?_
        have e9 : wsM ct ad (nI 1) dk tk kd lc sz bh wt bl tg fs = wsM ct ad (nI (mbk_c (cd, dk, tk, kd, lc, sz, bh, wt, bl, tg, fs) f z)) dk tk kd lc sz bh wt bl tg fs := (by rw [(show mbk_c (cd, dk, tk, kd, lc, sz, bh, wt, bl, tg, fs) f z = 1 from (by unfold mbk_c; dsimp only [pj_kd, pj_bl, pj_bh, pj_wt, pj_fs, pj_cd, pj_dk, pj_tk, pj_lc, pj_sz, pj_tg]; first | (rw [if_neg (fun q => absurd q.1 (by assumption))]; done) | (rw [if_neg (fun q => absurd q.2 (by omega))]; done) | (rw [if_pos ⟨by assumption, by omega⟩]; done)))])
        rw [e9] at hP hD
        exact W.iret (v := nI 0) hx hb hr (fun t9 ht hW => ⟨congrArg (fun z => Outcome.returned (some (Value.int z))) (show nI 0 = (if mbk_c (cd, dk, tk, kd, lc, sz, bh, wt, bl, tg, fs) f z = 0 then nI (bl (15 * f + z.toNat)) else nI 0) from (by rw [(show mbk_c (cd, dk, tk, kd, lc, sz, bh, wt, bl, tg, fs) f z = 1 from (by unfold mbk_c; dsimp only [pj_kd, pj_bl, pj_bh, pj_wt, pj_fs, pj_cd, pj_dk, pj_tk, pj_lc, pj_sz, pj_tg]; first | (rw [if_neg (fun q => absurd q.1 (by assumption))]; done) | (rw [if_neg (fun q => absurd q.2 (by omega))]; done) | (rw [if_pos ⟨by assumption, by omega⟩]; done)))]; rfl)), by rw [ht]; exact hP, hD, hS.F ht⟩) hS.2.2 d_Mo_block_51
    · skip
      obtain ⟨z1, rfl⟩ := Int.eq_ofNat_of_zero_le (show 0 ≤ z by omega)
      obtain rfl : x_z = nI z1 := z_i hx_z (by omega)
      refine lv_iconst (v := nI 0) hx hb d_Mo_block_21 (by decide) ?_
      refine lv_goto (tgt := 26) hx hb d_Mo_block_22 (by decide) ?_
      refine va_put (D := D) (ci := 6) (v := .int (nI 0)) (ty := .int) (C := R_Mo) (T := T_Mo) (N := 11) hx hb hts u_Mo t_Mo t_Mo_ok n_Mo hown hK hP hD hS 0 rfl rfl 0 (by decide) (hts _ w_839) (fun _ h9 => h9) rfl (by decide +kernel) rfl rfl (Nat.le_of_ble_eq_true rfl) d_Mo_block_26 (fun H locs hP hD hS => ?_)
      have hP : va_P D vwC (wsM ct ad (nI 0) dk tk kd lc sz bh wt bl tg fs) H := hP
      have hD : va_D A (wsM ct ad (nI 0) dk tk kd lc sz bh wt bl tg fs) := hD
      refine lv_aload_n hx hb d_Mo_block_29 rfl (lv_at hl 0 rfl) ?_
      refine va_get (D := D) (ci := 6) (v := .int (nI 0)) (C := R_Mo) (T := T_Mo) (N := 11) hx hb hts u_Mo hown hK hP 0 rfl rfl 0 (by decide) (hts _ w_839) (fun _ h9 => h9) rfl d_Mo_block_30 ?_
      refine ln_if_le (tgt := 40) hx hb (by omega) d_Mo_block_33 (by decide) (fun c_5 => ?_) (fun c_5 => ?_)
      · skip
        refine lv_aload_n hx hb d_Mo_block_40 rfl (lv_at hl 0 rfl) ?_
        refine va_get (D := D) (ci := 6) (v := .ref (ad 8)) (C := R_Mo) (T := T_Mo) (N := 11) hx hb hts u_Mo hown hK hP 0 rfl rfl 8 (by decide) (hts _ w_847) (fun _ h9 => h9) rfl d_Mo_block_41 ?_
        refine lv_bipush (v := nI 15) hx hb d_Mo_block_44 (by decide) ?_
        refine lv_iload_n hx hb d_Mo_block_46 rfl (lv_at hl 1 rfl) ?_
        refine ln_imul hx hb d_Mo_block_47 ?_
        refine lv_iload_n hx hb d_Mo_block_48 rfl (lv_at hl 2 rfl) ?_
        refine ln_iadd hx hb d_Mo_block_49 ?_
        refine ln_iald hx hb hK hP 8 2 rfl rfl (by omega) (by decide) d_Mo_block_50 ?_
        refine W.eq (g2 := F0 m 51 ls [.int (nI (bl ((15 * f) + z1)))]) rfl ?_
        have b_6 := hbl ((15 * f) + z1)
        have e9 : wsM ct ad (nI 0) dk tk kd lc sz bh wt bl tg fs = wsM ct ad (nI (mbk_c (cd, dk, tk, kd, lc, sz, bh, wt, bl, tg, fs) f ((z1 : Nat) : Int))) dk tk kd lc sz bh wt bl tg fs := (by rw [(show mbk_c (cd, dk, tk, kd, lc, sz, bh, wt, bl, tg, fs) f ((z1 : Nat) : Int) = 0 from (by unfold mbk_c; dsimp only [pj_kd, pj_bl, pj_bh, pj_wt, pj_fs, pj_cd, pj_dk, pj_tk, pj_lc, pj_sz, pj_tg]; first | (rw [if_neg (fun q => absurd q.1 (by assumption))]; done) | (rw [if_neg (fun q => absurd q.2 (by omega))]; done) | (rw [if_pos ⟨by assumption, by omega⟩]; done)))])
        rw [e9] at hP hD
        exact W.iret (v := nI (bl ((15 * f) + z1))) hx hb hr (fun t9 ht hW => ⟨congrArg (fun z => Outcome.returned (some (Value.int z))) (show nI (bl ((15 * f) + z1)) = (if mbk_c (cd, dk, tk, kd, lc, sz, bh, wt, bl, tg, fs) f ((z1 : Nat) : Int) = 0 then nI (bl (15 * f + ((z1 : Nat) : Int).toNat)) else nI 0) from (by rw [(show mbk_c (cd, dk, tk, kd, lc, sz, bh, wt, bl, tg, fs) f ((z1 : Nat) : Int) = 0 from (by unfold mbk_c; dsimp only [pj_kd, pj_bl, pj_bh, pj_wt, pj_fs, pj_cd, pj_dk, pj_tk, pj_lc, pj_sz, pj_tg]; first | (rw [if_neg (fun q => absurd q.1 (by assumption))]; done) | (rw [if_neg (fun q => absurd q.2 (by omega))]; done) | (rw [if_pos ⟨by assumption, by omega⟩]; done)))]; rfl)), by rw [ht]; exact hP, hD, hS.F ht⟩) hS.2.2 d_Mo_block_51
      · exact absurd c_5 (by omega)
theorem m_Mo_about : mV R_Mo y_Mo_about (Cond.code y_Mo_about c_Mo_about 3 (some .int)) 2 := ⟨⟨w_977, w_978, w_7, w_979⟩, by decide +kernel⟩
set_option maxHeartbeats 4000000 in
set_option maxRecDepth 100000 in
theorem k_Mo_about (l : Launch) {D : va_G} {ct : Nat → ClassId} {ad : Nat → Nat} {cd : Int32} {dk : Nat → Int32} {tk kd lc sz bh wt : Nat → Int32} {bl : Nat → Nat} {tg : Nat → Int32} {fs : Int32} {A : Nat → Prop} {f : Int} {x_f : Int32} (hx_f : x_f.toInt = f) {z : Int} {x_z : Int32} (hx_z : x_z.toInt = z) (h0 : bOK bl) : Met l y_Mo_about (Cond.code y_Mo_about c_Mo_about 3 (some .int) :: wA) (rmk 3 0 0) (va_Pc [.ref (ad 0), .int x_f, .int x_z] (cW A D (tyM ct) (wsM ct ad cd dk tk kd lc sz bh wt bl tg fs))) (wQ (some (.int (if mab_c f z = 0 then mab_r (cd, dk, tk, kd, lc, sz, bh, wt, bl, tg, fs) f.toNat z else nI 0))) A D (wsM ct ad (nI (mab_c f z)) dk tk kd lc sz bh wt bl tg fs)) 0 0 A := by
  refine Met.ofW (cc := c_Mo_about) (maxL := 3) (ret := (some .int)) (by decide +kernel) rfl ?_
  intro p e s m args below meth c s₁ B0 hml hv
  obtain ⟨rfl, hA, hP, hD, hK⟩ := hv
  have hS : va_S A s.heap s.heap [] := va_S.rf
  have hx := B0.exec
  have hb := B0.bytes
  have hr := B0.returns
  have hts := fun w (h : w ∈ wA) => atoms_spec (ws := Cond.code y_Mo_about c_Mo_about 3 (some .int) :: wA) B0.pre w (List.mem_cons_of_mem _ h)
  have hown : s.vm.findClass R_Mo = some m.cls := findClass_of_methodNamed B0.named
  have hlocks := B0.notSynchronized
  have hl := lv_entry ([.ref (ad 0), .int x_f, .int x_z]) (n := 3) (Nat.le_of_ble_eq_true rfl)
  rw [lg_entry_eq]
  generalize (lg_sl ([.ref (ad 0), .int x_f, .int x_z]) ++ List.replicate (3 - (lg_sl ([.ref (ad 0), .int x_f, .int x_z])).length) Slot.unset).toArray = ls at hl ⊢
  have hl : lv_has ls 3 [(0, .ref (ad 0)), (1, .int x_f), (2, .int x_z)] := hl
  have hf_f := z_lt x_f
  have hg_f := z_ge x_f
  rw [hx_f] at hf_f hg_f
  have hf_z := z_lt x_z
  have hg_z := z_ge x_z
  rw [hx_z] at hf_z hg_z
  have hbl := h0
  refine lv_aload_n hx hb d_Mo_about_0 rfl (lv_at hl 0 rfl) ?_
  refine lv_iload_n hx hb d_Mo_about_1 rfl (lv_at hl 1 rfl) ?_
  refine lv_i2l hx hb d_Mo_about_2 rfl ?_
  refine lv_lconst (v := 1) hx hb d_Mo_about_3 (by decide) ?_
  refine lv_ldc2 (v := 12) hx hb hown (hts _ w_926) d_Mo_about_4 ?_
  refine rdS ⟨hx, hb, hml, hown, hts⟩ hK hP (k_Mo_in l (v := f) (x_v := x_f.toInt64) (u := 1) (x_u := 1) (w := 12) (x_w := 12) ((Int32.toInt_toInt64 _).trans hx_f) (show Int64.toInt 1 = 1 by decide) (show Int64.toInt 12 = 12 by decide) ) w_883 m_Mo_in ⟨by decide, by decide⟩ rfl hl.1 rfl (Nat.le_of_ble_eq_true rfl) d_Mo_about_7 ⟨Nat.zero_le _, Nat.zero_le _⟩ ?_
  refine lb_if_eq (tgt := 29) hx hb d_Mo_about_10 (by decide) (fun c_1 => ?_) (fun c_1 => ?_)
  · skip
    refine lv_iconst (v := nI 1) hx hb d_Mo_about_29 (by decide) ?_
    refine va_put (D := D) (ci := 6) (v := .int (nI 1)) (ty := .int) (C := R_Mo) (T := T_Mo) (N := 11) hx hb hts u_Mo t_Mo t_Mo_ok n_Mo hown hK hP hD hS 0 rfl rfl 0 (by decide) (hts _ w_839) (fun _ h9 => h9) rfl (by decide +kernel) rfl rfl (Nat.le_of_ble_eq_true rfl) d_Mo_about_30 (fun H locs hP hD hS => ?_)
    have hP : va_P D vwC (wsM ct ad (nI 1) dk tk kd lc sz bh wt bl tg fs) H := hP
    have hD : va_D A (wsM ct ad (nI 1) dk tk kd lc sz bh wt bl tg fs) := hD
    refine lv_aload_n hx hb d_Mo_about_33 rfl (lv_at hl 0 rfl) ?_
    refine va_get (D := D) (ci := 6) (v := .int (nI 1)) (C := R_Mo) (T := T_Mo) (N := 11) hx hb hts u_Mo hown hK hP 0 rfl rfl 0 (by decide) (hts _ w_839) (fun _ h9 => h9) rfl d_Mo_about_34 ?_
    refine ln_if_gt (tgt := 49) hx hb (by omega) d_Mo_about_37 (by decide) (fun c_2 => ?_) (fun c_2 => ?_)
    · skip
      refine lv_iconst (v := nI 0) hx hb d_Mo_about_49 (by decide) ?_
      have e9 : wsM ct ad (nI 1) dk tk kd lc sz bh wt bl tg fs = wsM ct ad (nI (mab_c f z)) dk tk kd lc sz bh wt bl tg fs := (by rw [(show mab_c f z = 1 from (by unfold mab_c; dsimp only [pj_kd, pj_bl, pj_bh, pj_wt, pj_fs, pj_cd, pj_dk, pj_tk, pj_lc, pj_sz, pj_tg]; first | (rw [if_pos (by omega)]; done) | (rw [if_neg (by omega)]; done)))])
      rw [e9] at hP hD
      exact W.iret (v := nI 0) hx hb hr (fun t9 ht hW => ⟨congrArg (fun z => Outcome.returned (some (Value.int z))) (show nI 0 = (if mab_c f z = 0 then mab_r (cd, dk, tk, kd, lc, sz, bh, wt, bl, tg, fs) f.toNat z else nI 0) from (by rw [(show mab_c f z = 1 from (by unfold mab_c; dsimp only [pj_kd, pj_bl, pj_bh, pj_wt, pj_fs, pj_cd, pj_dk, pj_tk, pj_lc, pj_sz, pj_tg]; first | (rw [if_pos (by omega)]; done) | (rw [if_neg (by omega)]; done)))]; first | rfl | (rw [if_pos rfl]; unfold mab_r; dsimp only [pj_kd, pj_bl, pj_bh, pj_wt, pj_fs, pj_cd, pj_dk, pj_tk, pj_lc, pj_sz, pj_tg]; rw [← hf1]; first | (rw [if_pos (by assumption)]; done) | (rw [if_neg (by assumption)]; first | rfl | (rw [if_neg (by omega), if_neg (by omega), if_neg (by omega), if_neg (by omega), if_neg (by omega)])))))), by rw [ht]; exact hP, hD, hS.F ht⟩) hS.2.2 d_Mo_about_50
    · exact absurd c_2 (by omega)
  · skip
    obtain ⟨f1, hf1⟩ : ∃ f1 : Nat, f1 = f.toNat := ⟨_, rfl⟩
    obtain rfl : x_f = nI f1 := z_i (by rw [hx_f]; omega) (by omega)
    refine lv_iload_n hx hb d_Mo_about_13 rfl (lv_at hl 2 rfl) ?_
    refine lv_i2l hx hb d_Mo_about_14 rfl ?_
    refine lv_lconst (v := 0) hx hb d_Mo_about_15 (by decide) ?_
    refine lv_ldc2 (v := 5) hx hb hown (hts _ w_980) d_Mo_about_16 ?_
    refine rdS ⟨hx, hb, hml, hown, hts⟩ hK hP (k_Mo_in l (v := z) (x_v := x_z.toInt64) (u := 0) (x_u := 0) (w := 5) (x_w := 5) ((Int32.toInt_toInt64 _).trans hx_z) (show Int64.toInt 0 = 0 by decide) (show Int64.toInt 5 = 5 by decide) ) w_883 m_Mo_in ⟨by decide, by decide⟩ rfl hl.1 rfl (Nat.le_of_ble_eq_true rfl) d_Mo_about_19 ⟨Nat.zero_le _, Nat.zero_le _⟩ ?_
    refine lb_if_eq (tgt := 29) hx hb d_Mo_about_22 (by decide) (fun c_3 => ?_) (fun c_3 => ?_)
    · skip
      refine lv_iconst (v := nI 1) hx hb d_Mo_about_29 (by decide) ?_
      refine va_put (D := D) (ci := 6) (v := .int (nI 1)) (ty := .int) (C := R_Mo) (T := T_Mo) (N := 11) hx hb hts u_Mo t_Mo t_Mo_ok n_Mo hown hK hP hD hS 0 rfl rfl 0 (by decide) (hts _ w_839) (fun _ h9 => h9) rfl (by decide +kernel) rfl rfl (Nat.le_of_ble_eq_true rfl) d_Mo_about_30 (fun H locs hP hD hS => ?_)
      have hP : va_P D vwC (wsM ct ad (nI 1) dk tk kd lc sz bh wt bl tg fs) H := hP
      have hD : va_D A (wsM ct ad (nI 1) dk tk kd lc sz bh wt bl tg fs) := hD
      refine lv_aload_n hx hb d_Mo_about_33 rfl (lv_at hl 0 rfl) ?_
      refine va_get (D := D) (ci := 6) (v := .int (nI 1)) (C := R_Mo) (T := T_Mo) (N := 11) hx hb hts u_Mo hown hK hP 0 rfl rfl 0 (by decide) (hts _ w_839) (fun _ h9 => h9) rfl d_Mo_about_34 ?_
      refine ln_if_gt (tgt := 49) hx hb (by omega) d_Mo_about_37 (by decide) (fun c_4 => ?_) (fun c_4 => ?_)
      · skip
        refine lv_iconst (v := nI 0) hx hb d_Mo_about_49 (by decide) ?_
        have e9 : wsM ct ad (nI 1) dk tk kd lc sz bh wt bl tg fs = wsM ct ad (nI (mab_c f z)) dk tk kd lc sz bh wt bl tg fs := (by rw [(show mab_c f z = 1 from (by unfold mab_c; dsimp only [pj_kd, pj_bl, pj_bh, pj_wt, pj_fs, pj_cd, pj_dk, pj_tk, pj_lc, pj_sz, pj_tg]; first | (rw [if_pos (by omega)]; done) | (rw [if_neg (by omega)]; done)))])
        rw [e9] at hP hD
        exact W.iret (v := nI 0) hx hb hr (fun t9 ht hW => ⟨congrArg (fun z => Outcome.returned (some (Value.int z))) (show nI 0 = (if mab_c f z = 0 then mab_r (cd, dk, tk, kd, lc, sz, bh, wt, bl, tg, fs) f.toNat z else nI 0) from (by rw [(show mab_c f z = 1 from (by unfold mab_c; dsimp only [pj_kd, pj_bl, pj_bh, pj_wt, pj_fs, pj_cd, pj_dk, pj_tk, pj_lc, pj_sz, pj_tg]; first | (rw [if_pos (by omega)]; done) | (rw [if_neg (by omega)]; done)))]; first | rfl | (rw [if_pos rfl]; unfold mab_r; dsimp only [pj_kd, pj_bl, pj_bh, pj_wt, pj_fs, pj_cd, pj_dk, pj_tk, pj_lc, pj_sz, pj_tg]; rw [← hf1]; first | (rw [if_pos (by assumption)]; done) | (rw [if_neg (by assumption)]; first | rfl | (rw [if_neg (by omega), if_neg (by omega), if_neg (by omega), if_neg (by omega), if_neg (by omega)])))))), by rw [ht]; exact hP, hD, hS.F ht⟩) hS.2.2 d_Mo_about_50
      · exact absurd c_4 (by omega)
    · skip
      refine lv_iconst (v := nI 0) hx hb d_Mo_about_25 (by decide) ?_
      refine lv_goto (tgt := 30) hx hb d_Mo_about_26 (by decide) ?_
      refine va_put (D := D) (ci := 6) (v := .int (nI 0)) (ty := .int) (C := R_Mo) (T := T_Mo) (N := 11) hx hb hts u_Mo t_Mo t_Mo_ok n_Mo hown hK hP hD hS 0 rfl rfl 0 (by decide) (hts _ w_839) (fun _ h9 => h9) rfl (by decide +kernel) rfl rfl (Nat.le_of_ble_eq_true rfl) d_Mo_about_30 (fun H locs hP hD hS => ?_)
      have hP : va_P D vwC (wsM ct ad (nI 0) dk tk kd lc sz bh wt bl tg fs) H := hP
      have hD : va_D A (wsM ct ad (nI 0) dk tk kd lc sz bh wt bl tg fs) := hD
      refine lv_aload_n hx hb d_Mo_about_33 rfl (lv_at hl 0 rfl) ?_
      refine va_get (D := D) (ci := 6) (v := .int (nI 0)) (C := R_Mo) (T := T_Mo) (N := 11) hx hb hts u_Mo hown hK hP 0 rfl rfl 0 (by decide) (hts _ w_839) (fun _ h9 => h9) rfl d_Mo_about_34 ?_
      refine ln_if_gt (tgt := 49) hx hb (by omega) d_Mo_about_37 (by decide) (fun c_5 => ?_) (fun c_5 => ?_)
      · exact absurd c_5 (by omega)
      · skip
        refine lv_aload_n hx hb d_Mo_about_40 rfl (lv_at hl 0 rfl) ?_
        refine va_get (D := D) (ci := 6) (v := .ref (ad 3)) (C := R_Mo) (T := T_Mo) (N := 11) hx hb hts u_Mo hown hK hP 0 rfl rfl 3 (by decide) (hts _ w_842) (fun _ h9 => h9) rfl d_Mo_about_41 ?_
        refine lv_iload_n hx hb d_Mo_about_44 rfl (lv_at hl 1 rfl) ?_
        refine ln_iald hx hb hK hP 3 2 rfl rfl (by omega) (by decide) d_Mo_about_45 ?_
        refine lv_if_ne (tgt := 51) hx hb d_Mo_about_46 (by decide) (fun c_6 => ?_) (fun c_6 => ?_)
        · skip
          refine lv_iload_n hx hb d_Mo_about_51 rfl (lv_at hl 2 rfl) ?_
          rcases (show z < 0 ∨ 4 < z ∨ z = 0 ∨ z = 1 ∨ z = 2 ∨ z = 3 ∨ z = 4 by omega) with s9 | s9 | rfl | rfl | rfl | rfl | rfl
          · refine lv_tableOut (tgt := 125) hx hb d_Mo_about_52 (Or.inl (by rw [hx_z]; exact s9)) (by decide) ?_
            refine lv_aload_n hx hb d_Mo_about_125 rfl (lv_at hl 0 rfl) ?_
            refine va_get (D := D) (ci := 6) (v := .ref (ad 6)) (C := R_Mo) (T := T_Mo) (N := 11) hx hb hts u_Mo hown hK hP 0 rfl rfl 6 (by decide) (hts _ w_845) (fun _ h9 => h9) rfl d_Mo_about_126 ?_
            refine lv_iload_n hx hb d_Mo_about_129 rfl (lv_at hl 1 rfl) ?_
            refine ln_iald hx hb hK hP 6 2 rfl rfl (by omega) (by decide) d_Mo_about_130 ?_
            have e9 : wsM ct ad (nI 0) dk tk kd lc sz bh wt bl tg fs = wsM ct ad (nI (mab_c f z)) dk tk kd lc sz bh wt bl tg fs := (by rw [(show mab_c f z = 0 from (by unfold mab_c; dsimp only [pj_kd, pj_bl, pj_bh, pj_wt, pj_fs, pj_cd, pj_dk, pj_tk, pj_lc, pj_sz, pj_tg]; first | (rw [if_pos (by omega)]; done) | (rw [if_neg (by omega)]; done)))])
            rw [e9] at hP hD
            exact W.iret (v := bh f1) hx hb hr (fun t9 ht hW => ⟨congrArg (fun z => Outcome.returned (some (Value.int z))) (show bh f1 = (if mab_c f z = 0 then mab_r (cd, dk, tk, kd, lc, sz, bh, wt, bl, tg, fs) f.toNat z else nI 0) from (by rw [(show mab_c f z = 0 from (by unfold mab_c; dsimp only [pj_kd, pj_bl, pj_bh, pj_wt, pj_fs, pj_cd, pj_dk, pj_tk, pj_lc, pj_sz, pj_tg]; first | (rw [if_pos (by omega)]; done) | (rw [if_neg (by omega)]; done)))]; first | rfl | (rw [if_pos rfl]; unfold mab_r; dsimp only [pj_kd, pj_bl, pj_bh, pj_wt, pj_fs, pj_cd, pj_dk, pj_tk, pj_lc, pj_sz, pj_tg]; rw [← hf1]; first | (rw [if_pos (by assumption)]; done) | (rw [if_neg (by assumption)]; first | rfl | (rw [if_neg (by omega), if_neg (by omega), if_neg (by omega), if_neg (by omega), if_neg (by omega)])))))), by rw [ht]; exact hP, hD, hS.F ht⟩) hS.2.2 d_Mo_about_131
          · refine lv_tableOut (tgt := 125) hx hb d_Mo_about_52 (Or.inr (by rw [hx_z]; exact s9)) (by decide) ?_
            refine lv_aload_n hx hb d_Mo_about_125 rfl (lv_at hl 0 rfl) ?_
            refine va_get (D := D) (ci := 6) (v := .ref (ad 6)) (C := R_Mo) (T := T_Mo) (N := 11) hx hb hts u_Mo hown hK hP 0 rfl rfl 6 (by decide) (hts _ w_845) (fun _ h9 => h9) rfl d_Mo_about_126 ?_
            refine lv_iload_n hx hb d_Mo_about_129 rfl (lv_at hl 1 rfl) ?_
            refine ln_iald hx hb hK hP 6 2 rfl rfl (by omega) (by decide) d_Mo_about_130 ?_
            have e9 : wsM ct ad (nI 0) dk tk kd lc sz bh wt bl tg fs = wsM ct ad (nI (mab_c f z)) dk tk kd lc sz bh wt bl tg fs := (by rw [(show mab_c f z = 0 from (by unfold mab_c; dsimp only [pj_kd, pj_bl, pj_bh, pj_wt, pj_fs, pj_cd, pj_dk, pj_tk, pj_lc, pj_sz, pj_tg]; first | (rw [if_pos (by omega)]; done) | (rw [if_neg (by omega)]; done)))])
            rw [e9] at hP hD
            exact W.iret (v := bh f1) hx hb hr (fun t9 ht hW => ⟨congrArg (fun z => Outcome.returned (some (Value.int z))) (show bh f1 = (if mab_c f z = 0 then mab_r (cd, dk, tk, kd, lc, sz, bh, wt, bl, tg, fs) f.toNat z else nI 0) from (by rw [(show mab_c f z = 0 from (by unfold mab_c; dsimp only [pj_kd, pj_bl, pj_bh, pj_wt, pj_fs, pj_cd, pj_dk, pj_tk, pj_lc, pj_sz, pj_tg]; first | (rw [if_pos (by omega)]; done) | (rw [if_neg (by omega)]; done)))]; first | rfl | (rw [if_pos rfl]; unfold mab_r; dsimp only [pj_kd, pj_bl, pj_bh, pj_wt, pj_fs, pj_cd, pj_dk, pj_tk, pj_lc, pj_sz, pj_tg]; rw [← hf1]; first | (rw [if_pos (by assumption)]; done) | (rw [if_neg (by assumption)]; first | rfl | (rw [if_neg (by omega), if_neg (by omega), if_neg (by omega), if_neg (by omega), if_neg (by omega)])))))), by rw [ht]; exact hP, hD, hS.F ht⟩) hS.2.2 d_Mo_about_131
          · refine lv_tableIn (off := 36) (tgt := 88) hx hb d_Mo_about_52 (by rw [hx_z]; decide) (by rw [hx_z]; decide) (by rw [hx_z]; rfl) (by decide) ?_
            refine lv_aload_n hx hb d_Mo_about_88 rfl (lv_at hl 0 rfl) ?_
            refine va_get (D := D) (ci := 6) (v := .ref (ad 3)) (C := R_Mo) (T := T_Mo) (N := 11) hx hb hts u_Mo hown hK hP 0 rfl rfl 3 (by decide) (hts _ w_842) (fun _ h9 => h9) rfl d_Mo_about_89 ?_
            refine lv_iload_n hx hb d_Mo_about_92 rfl (lv_at hl 1 rfl) ?_
            refine ln_iald hx hb hK hP 3 2 rfl rfl (by omega) (by decide) d_Mo_about_93 ?_
            have e9 : wsM ct ad (nI 0) dk tk kd lc sz bh wt bl tg fs = wsM ct ad (nI (mab_c f (0 : Int))) dk tk kd lc sz bh wt bl tg fs := (by rw [(show mab_c f (0 : Int) = 0 from (by unfold mab_c; dsimp only [pj_kd, pj_bl, pj_bh, pj_wt, pj_fs, pj_cd, pj_dk, pj_tk, pj_lc, pj_sz, pj_tg]; first | (rw [if_pos (by omega)]; done) | (rw [if_neg (by omega)]; done)))])
            rw [e9] at hP hD
            exact W.iret (v := kd f1) hx hb hr (fun t9 ht hW => ⟨congrArg (fun z => Outcome.returned (some (Value.int z))) (show kd f1 = (if mab_c f (0 : Int) = 0 then mab_r (cd, dk, tk, kd, lc, sz, bh, wt, bl, tg, fs) f.toNat (0 : Int) else nI 0) from (by rw [(show mab_c f (0 : Int) = 0 from (by unfold mab_c; dsimp only [pj_kd, pj_bl, pj_bh, pj_wt, pj_fs, pj_cd, pj_dk, pj_tk, pj_lc, pj_sz, pj_tg]; first | (rw [if_pos (by omega)]; done) | (rw [if_neg (by omega)]; done)))]; first | rfl | (rw [if_pos rfl]; unfold mab_r; dsimp only [pj_kd, pj_bl, pj_bh, pj_wt, pj_fs, pj_cd, pj_dk, pj_tk, pj_lc, pj_sz, pj_tg]; rw [← hf1]; first | (rw [if_pos (by assumption)]; done) | (rw [if_neg (by assumption)]; first | rfl | (rw [if_neg (by omega), if_neg (by omega), if_neg (by omega), if_neg (by omega), if_neg (by omega)])))))), by rw [ht]; exact hP, hD, hS.F ht⟩) hS.2.2 d_Mo_about_94
          · refine lv_tableIn (off := 43) (tgt := 95) hx hb d_Mo_about_52 (by rw [hx_z]; decide) (by rw [hx_z]; decide) (by rw [hx_z]; rfl) (by decide) ?_
            refine lv_aload_n hx hb d_Mo_about_95 rfl (lv_at hl 0 rfl) ?_
            refine va_get (D := D) (ci := 6) (v := .ref (ad 4)) (C := R_Mo) (T := T_Mo) (N := 11) hx hb hts u_Mo hown hK hP 0 rfl rfl 4 (by decide) (hts _ w_843) (fun _ h9 => h9) rfl d_Mo_about_96 ?_
            refine lv_iload_n hx hb d_Mo_about_99 rfl (lv_at hl 1 rfl) ?_
            refine ln_iald hx hb hK hP 4 2 rfl rfl (by omega) (by decide) d_Mo_about_100 ?_
            have e9 : wsM ct ad (nI 0) dk tk kd lc sz bh wt bl tg fs = wsM ct ad (nI (mab_c f (1 : Int))) dk tk kd lc sz bh wt bl tg fs := (by rw [(show mab_c f (1 : Int) = 0 from (by unfold mab_c; dsimp only [pj_kd, pj_bl, pj_bh, pj_wt, pj_fs, pj_cd, pj_dk, pj_tk, pj_lc, pj_sz, pj_tg]; first | (rw [if_pos (by omega)]; done) | (rw [if_neg (by omega)]; done)))])
            rw [e9] at hP hD
            exact W.iret (v := lc f1) hx hb hr (fun t9 ht hW => ⟨congrArg (fun z => Outcome.returned (some (Value.int z))) (show lc f1 = (if mab_c f (1 : Int) = 0 then mab_r (cd, dk, tk, kd, lc, sz, bh, wt, bl, tg, fs) f.toNat (1 : Int) else nI 0) from (by rw [(show mab_c f (1 : Int) = 0 from (by unfold mab_c; dsimp only [pj_kd, pj_bl, pj_bh, pj_wt, pj_fs, pj_cd, pj_dk, pj_tk, pj_lc, pj_sz, pj_tg]; first | (rw [if_pos (by omega)]; done) | (rw [if_neg (by omega)]; done)))]; first | rfl | (rw [if_pos rfl]; unfold mab_r; dsimp only [pj_kd, pj_bl, pj_bh, pj_wt, pj_fs, pj_cd, pj_dk, pj_tk, pj_lc, pj_sz, pj_tg]; rw [← hf1]; first | (rw [if_pos (by assumption)]; done) | (rw [if_neg (by assumption)]; first | rfl | (rw [if_neg (by omega), if_neg (by omega), if_neg (by omega), if_neg (by omega), if_neg (by omega)])))))), by rw [ht]; exact hP, hD, hS.F ht⟩) hS.2.2 d_Mo_about_101
          · refine lv_tableIn (off := 50) (tgt := 102) hx hb d_Mo_about_52 (by rw [hx_z]; decide) (by rw [hx_z]; decide) (by rw [hx_z]; rfl) (by decide) ?_
            refine lv_aload_n hx hb d_Mo_about_102 rfl (lv_at hl 0 rfl) ?_
            refine va_get (D := D) (ci := 6) (v := .ref (ad 5)) (C := R_Mo) (T := T_Mo) (N := 11) hx hb hts u_Mo hown hK hP 0 rfl rfl 5 (by decide) (hts _ w_844) (fun _ h9 => h9) rfl d_Mo_about_103 ?_
            refine lv_iload_n hx hb d_Mo_about_106 rfl (lv_at hl 1 rfl) ?_
            refine ln_iald hx hb hK hP 5 2 rfl rfl (by omega) (by decide) d_Mo_about_107 ?_
            have e9 : wsM ct ad (nI 0) dk tk kd lc sz bh wt bl tg fs = wsM ct ad (nI (mab_c f (2 : Int))) dk tk kd lc sz bh wt bl tg fs := (by rw [(show mab_c f (2 : Int) = 0 from (by unfold mab_c; dsimp only [pj_kd, pj_bl, pj_bh, pj_wt, pj_fs, pj_cd, pj_dk, pj_tk, pj_lc, pj_sz, pj_tg]; first | (rw [if_pos (by omega)]; done) | (rw [if_neg (by omega)]; done)))])
            rw [e9] at hP hD
            exact W.iret (v := sz f1) hx hb hr (fun t9 ht hW => ⟨congrArg (fun z => Outcome.returned (some (Value.int z))) (show sz f1 = (if mab_c f (2 : Int) = 0 then mab_r (cd, dk, tk, kd, lc, sz, bh, wt, bl, tg, fs) f.toNat (2 : Int) else nI 0) from (by rw [(show mab_c f (2 : Int) = 0 from (by unfold mab_c; dsimp only [pj_kd, pj_bl, pj_bh, pj_wt, pj_fs, pj_cd, pj_dk, pj_tk, pj_lc, pj_sz, pj_tg]; first | (rw [if_pos (by omega)]; done) | (rw [if_neg (by omega)]; done)))]; first | rfl | (rw [if_pos rfl]; unfold mab_r; dsimp only [pj_kd, pj_bl, pj_bh, pj_wt, pj_fs, pj_cd, pj_dk, pj_tk, pj_lc, pj_sz, pj_tg]; rw [← hf1]; first | (rw [if_pos (by assumption)]; done) | (rw [if_neg (by assumption)]; first | rfl | (rw [if_neg (by omega), if_neg (by omega), if_neg (by omega), if_neg (by omega), if_neg (by omega)])))))), by rw [ht]; exact hP, hD, hS.F ht⟩) hS.2.2 d_Mo_about_108
          · refine lv_tableIn (off := 57) (tgt := 109) hx hb d_Mo_about_52 (by rw [hx_z]; decide) (by rw [hx_z]; decide) (by rw [hx_z]; rfl) (by decide) ?_
            refine lv_aload_n hx hb d_Mo_about_109 rfl (lv_at hl 0 rfl) ?_
            refine lv_iload_n hx hb d_Mo_about_110 rfl (lv_at hl 1 rfl) ?_
            refine rdV ⟨hx, hb, hml, hown, hts⟩ hK hP (k_Mo_blocksOf l (f := f1) hbl (by omega)) w_968 m_Mo_blocksOf ⟨by decide, by decide⟩ 0 rfl rfl rfl hl.1 rfl (Nat.le_of_ble_eq_true rfl) d_Mo_about_111 ⟨Nat.zero_le _, Nat.zero_le _⟩ ?_
            have e9 : wsM ct ad (nI 0) dk tk kd lc sz bh wt bl tg fs = wsM ct ad (nI (mab_c f (3 : Int))) dk tk kd lc sz bh wt bl tg fs := (by rw [(show mab_c f (3 : Int) = 0 from (by unfold mab_c; dsimp only [pj_kd, pj_bl, pj_bh, pj_wt, pj_fs, pj_cd, pj_dk, pj_tk, pj_lc, pj_sz, pj_tg]; first | (rw [if_pos (by omega)]; done) | (rw [if_neg (by omega)]; done)))])
            rw [e9] at hP hD
            exact W.iret (v := nI (mbo bl f1 15 0 0)) hx hb hr (fun t9 ht hW => ⟨congrArg (fun z => Outcome.returned (some (Value.int z))) (show nI (mbo bl f1 15 0 0) = (if mab_c f (3 : Int) = 0 then mab_r (cd, dk, tk, kd, lc, sz, bh, wt, bl, tg, fs) f.toNat (3 : Int) else nI 0) from (by rw [(show mab_c f (3 : Int) = 0 from (by unfold mab_c; dsimp only [pj_kd, pj_bl, pj_bh, pj_wt, pj_fs, pj_cd, pj_dk, pj_tk, pj_lc, pj_sz, pj_tg]; first | (rw [if_pos (by omega)]; done) | (rw [if_neg (by omega)]; done)))]; first | rfl | (rw [if_pos rfl]; unfold mab_r; dsimp only [pj_kd, pj_bl, pj_bh, pj_wt, pj_fs, pj_cd, pj_dk, pj_tk, pj_lc, pj_sz, pj_tg]; rw [← hf1]; first | (rw [if_pos (by assumption)]; done) | (rw [if_neg (by assumption)]; first | rfl | (rw [if_neg (by omega), if_neg (by omega), if_neg (by omega), if_neg (by omega), if_neg (by omega)])))))), by rw [ht]; exact hP, hD, hS.F ht⟩) hS.2.2 d_Mo_about_114
          · refine lv_tableIn (off := 63) (tgt := 115) hx hb d_Mo_about_52 (by rw [hx_z]; decide) (by rw [hx_z]; decide) (by rw [hx_z]; rfl) (by decide) ?_
            refine lv_aload_n hx hb d_Mo_about_115 rfl (lv_at hl 0 rfl) ?_
            refine va_get (D := D) (ci := 6) (v := .ref (ad 8)) (C := R_Mo) (T := T_Mo) (N := 11) hx hb hts u_Mo hown hK hP 0 rfl rfl 8 (by decide) (hts _ w_847) (fun _ h9 => h9) rfl d_Mo_about_116 ?_
            refine lv_bipush (v := nI 15) hx hb d_Mo_about_119 (by decide) ?_
            refine lv_iload_n hx hb d_Mo_about_121 rfl (lv_at hl 1 rfl) ?_
            refine ln_imul hx hb d_Mo_about_122 ?_
            refine ln_iald hx hb hK hP 8 2 rfl rfl (by omega) (by decide) d_Mo_about_123 ?_
            refine W.eq (g2 := F0 m 124 ls [.int (nI (bl (15 * f1)))]) rfl ?_
            have b_7 := hbl (15 * f1)
            have e9 : wsM ct ad (nI 0) dk tk kd lc sz bh wt bl tg fs = wsM ct ad (nI (mab_c f (4 : Int))) dk tk kd lc sz bh wt bl tg fs := (by rw [(show mab_c f (4 : Int) = 0 from (by unfold mab_c; dsimp only [pj_kd, pj_bl, pj_bh, pj_wt, pj_fs, pj_cd, pj_dk, pj_tk, pj_lc, pj_sz, pj_tg]; first | (rw [if_pos (by omega)]; done) | (rw [if_neg (by omega)]; done)))])
            rw [e9] at hP hD
            exact W.iret (v := nI (bl (15 * f1))) hx hb hr (fun t9 ht hW => ⟨congrArg (fun z => Outcome.returned (some (Value.int z))) (show nI (bl (15 * f1)) = (if mab_c f (4 : Int) = 0 then mab_r (cd, dk, tk, kd, lc, sz, bh, wt, bl, tg, fs) f.toNat (4 : Int) else nI 0) from (by rw [(show mab_c f (4 : Int) = 0 from (by unfold mab_c; dsimp only [pj_kd, pj_bl, pj_bh, pj_wt, pj_fs, pj_cd, pj_dk, pj_tk, pj_lc, pj_sz, pj_tg]; first | (rw [if_pos (by omega)]; done) | (rw [if_neg (by omega)]; done)))]; first | rfl | (rw [if_pos rfl]; unfold mab_r; dsimp only [pj_kd, pj_bl, pj_bh, pj_wt, pj_fs, pj_cd, pj_dk, pj_tk, pj_lc, pj_sz, pj_tg]; rw [← hf1]; first | (rw [if_pos (by assumption)]; done) | (rw [if_neg (by assumption)]; first | rfl | (rw [if_neg (by omega), if_neg (by omega), if_neg (by omega), if_neg (by omega), if_neg (by omega)])))))), by rw [ht]; exact hP, hD, hS.F ht⟩) hS.2.2 d_Mo_about_124
        · skip
          refine lv_iconst (v := nI 0) hx hb d_Mo_about_49 (by decide) ?_
          have e9 : wsM ct ad (nI 0) dk tk kd lc sz bh wt bl tg fs = wsM ct ad (nI (mab_c f z)) dk tk kd lc sz bh wt bl tg fs := (by rw [(show mab_c f z = 0 from (by unfold mab_c; dsimp only [pj_kd, pj_bl, pj_bh, pj_wt, pj_fs, pj_cd, pj_dk, pj_tk, pj_lc, pj_sz, pj_tg]; first | (rw [if_pos (by omega)]; done) | (rw [if_neg (by omega)]; done)))])
          rw [e9] at hP hD
          exact W.iret (v := nI 0) hx hb hr (fun t9 ht hW => ⟨congrArg (fun z => Outcome.returned (some (Value.int z))) (show nI 0 = (if mab_c f z = 0 then mab_r (cd, dk, tk, kd, lc, sz, bh, wt, bl, tg, fs) f.toNat z else nI 0) from (by rw [(show mab_c f z = 0 from (by unfold mab_c; dsimp only [pj_kd, pj_bl, pj_bh, pj_wt, pj_fs, pj_cd, pj_dk, pj_tk, pj_lc, pj_sz, pj_tg]; first | (rw [if_pos (by omega)]; done) | (rw [if_neg (by omega)]; done)))]; first | rfl | (rw [if_pos rfl]; unfold mab_r; dsimp only [pj_kd, pj_bl, pj_bh, pj_wt, pj_fs, pj_cd, pj_dk, pj_tk, pj_lc, pj_sz, pj_tg]; rw [← hf1]; first | (rw [if_pos (by assumption)]; done) | (rw [if_neg (by assumption)]; first | rfl | (rw [if_neg (by omega), if_neg (by omega), if_neg (by omega), if_neg (by omega), if_neg (by omega)])))))), by rw [ht]; exact hP, hD, hS.F ht⟩) hS.2.2 d_Mo_about_50
