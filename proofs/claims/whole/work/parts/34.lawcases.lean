/-! the law's cases, over a relation between the two states -/
abbrev RL : Type := (Nat → Int32) → (Nat → Int32) → Int32 → (Nat → Option (Nat → Int32)) → mst → Prop
def PU_ok (rl : RL) : Prop := ∀ {B tk : Nat → Int32} {fr : Int32} {X : Nat → Option (Nat → Int32)} {S : mst}, rl B tk fr X S → bOK (pj_bl S) ∧ zOK (pj_sz S) ∧ mokF 12 (mcod S 0)
def PU_make (rl : RL) : Prop := ∀ {B tk : Nat → Int32} {fr : Int32} {X : Nat → Option (Nat → Int32)} {S : mst} (x1 : Int32), rl B tk fr X S → mk_c B x1.toInt < 3 ∧ pj_cd (mmk S x1.toInt x1) = nI (mk_c B x1.toInt) ∧ (mk_c B x1.toInt = 0 → nI (re_abs B 12 1) = if mmk_c S x1.toInt = 0 then nI (mff (pj_kd S) 12 1) else nI 0) ∧ rl (cif (mk_c B x1.toInt) (mk_B B x1.toInt x1) B) (cif (mk_c B x1.toInt) tk tk) (cif (mk_c B x1.toInt) fr fr) (cif (mk_c B x1.toInt) X X) (mmk S x1.toInt x1)
def PU_link (rl : RL) : Prop := ∀ {B tk : Nat → Int32} {fr : Int32} {X : Nat → Option (Nat → Int32)} {S : mst} (x1 : Int32) (x2 : Int32), rl B tk fr X S → lk_c B fr x1.toInt < 3 ∧ pj_cd (mlk S x1.toInt x2) = nI (lk_c B fr x1.toInt) ∧ (lk_c B fr x1.toInt = 0 → nI (re_abs B 12 1) = if mlk_c S x1.toInt = 0 then nI (mff (pj_kd S) 12 1) else nI 0) ∧ rl (cif (lk_c B fr x1.toInt) ((lk_S (B, tk, fr, X) x1.toInt.toNat x2).1) B) (cif (lk_c B fr x1.toInt) ((lk_S (B, tk, fr, X) x1.toInt.toNat x2).2.1) tk) (cif (lk_c B fr x1.toInt) ((lk_S (B, tk, fr, X) x1.toInt.toNat x2).2.2.1) fr) (cif (lk_c B fr x1.toInt) ((lk_S (B, tk, fr, X) x1.toInt.toNat x2).2.2.2) X) (mlk S x1.toInt x2)
def PU_write (rl : RL) : Prop := ∀ {B tk : Nat → Int32} {fr : Int32} {X : Nat → Option (Nat → Int32)} {S : mst} (x1 : Int32) (x2 : Int32) (x3 : Int64) (x4 : Int32), rl B tk fr X S → wr_c B fr x1.toNatClampNeg x2.toInt x4.toInt 8 < 3 ∧ pj_cd (mwr S x1.toNatClampNeg x2.toInt x4.toInt x3) = nI (wr_c B fr x1.toNatClampNeg x2.toInt x4.toInt 8) ∧ (wr_c B fr x1.toNatClampNeg x2.toInt x4.toInt 8 = 0 → re_f (prC (B, tk, fr, X) x1.toNatClampNeg x2.toInt.toNat x4.toInt.toNat).1 x1.toNatClampNeg 4 4 = if mmay_c S x1.toNatClampNeg x2.toInt x4.toInt 8 = 0 then pj_sz (mwr S x1.toNatClampNeg x2.toInt x4.toInt x3) x1.toNatClampNeg else nI 0) ∧ rl (cif (wr_c B fr x1.toNatClampNeg x2.toInt x4.toInt 8) ((prC (B, tk, fr, X) x1.toNatClampNeg x2.toInt.toNat x4.toInt.toNat).1) B) (cif (wr_c B fr x1.toNatClampNeg x2.toInt x4.toInt 8) ((prC (B, tk, fr, X) x1.toNatClampNeg x2.toInt.toNat x4.toInt.toNat).2.1) tk) (cif (wr_c B fr x1.toNatClampNeg x2.toInt x4.toInt 8) ((prC (B, tk, fr, X) x1.toNatClampNeg x2.toInt.toNat x4.toInt.toNat).2.2.1) fr) (cif (wr_c B fr x1.toNatClampNeg x2.toInt x4.toInt 8) (wrX_ (B, tk, fr, X) x1.toNatClampNeg x2.toInt.toNat x4.toInt.toNat x3) X) (mwr S x1.toNatClampNeg x2.toInt x4.toInt x3)
def PU_paint (rl : RL) : Prop := ∀ {B tk : Nat → Int32} {fr : Int32} {X : Nat → Option (Nat → Int32)} {S : mst} (x1 : Int32) (x2 : Int32) (x3 : Int32) (x4 : Int32), rl B tk fr X S → wr_c B fr x1.toNatClampNeg x2.toInt x3.toInt 4000 < 3 ∧ pj_cd (mpa S x1.toNatClampNeg x2.toInt x3.toInt x4) = nI (wr_c B fr x1.toNatClampNeg x2.toInt x3.toInt 4000) ∧ (wr_c B fr x1.toNatClampNeg x2.toInt x3.toInt 4000 = 0 → re_f (prC (B, tk, fr, X) x1.toNatClampNeg x2.toInt.toNat x3.toInt.toNat).1 x1.toNatClampNeg 4 4 = if mmay_c S x1.toNatClampNeg x2.toInt x3.toInt 4000 = 0 then pj_sz (mpa S x1.toNatClampNeg x2.toInt x3.toInt x4) x1.toNatClampNeg else nI 0) ∧ rl (cif (wr_c B fr x1.toNatClampNeg x2.toInt x3.toInt 4000) ((prC (B, tk, fr, X) x1.toNatClampNeg x2.toInt.toNat x3.toInt.toNat).1) B) (cif (wr_c B fr x1.toNatClampNeg x2.toInt x3.toInt 4000) ((prC (B, tk, fr, X) x1.toNatClampNeg x2.toInt.toNat x3.toInt.toNat).2.1) tk) (cif (wr_c B fr x1.toNatClampNeg x2.toInt x3.toInt 4000) ((prC (B, tk, fr, X) x1.toNatClampNeg x2.toInt.toNat x3.toInt.toNat).2.2.1) fr) (cif (wr_c B fr x1.toNatClampNeg x2.toInt x3.toInt 4000) (paX_ (B, tk, fr, X) x1.toNatClampNeg x2.toInt.toNat x3.toInt.toNat x4) X) (mpa S x1.toNatClampNeg x2.toInt x3.toInt x4)
def PU_read (rl : RL) : Prop := ∀ {B tk : Nat → Int32} {fr : Int32} {X : Nat → Option (Nat → Int32)} {S : mst} (x1 : Int32) (x2 : Int32), rl B tk fr X S → rd_c B x1.toNatClampNeg x2.toInt < 3 ∧ pj_cd (mcod S (mrd_c S x1.toNatClampNeg x2.toInt)) = nI (rd_c B x1.toNatClampNeg x2.toInt) ∧ (rd_c B x1.toNatClampNeg x2.toInt = 0 → bo_ax B X x1.toNatClampNeg x2.toInt.toNat = if mrd_c S x1.toNatClampNeg x2.toInt = 0 then mrd_r S x1.toNatClampNeg x2.toInt.toNat else nI 0) ∧ rl (cif (rd_c B x1.toNatClampNeg x2.toInt) B B) (cif (rd_c B x1.toNatClampNeg x2.toInt) tk tk) (cif (rd_c B x1.toNatClampNeg x2.toInt) fr fr) (cif (rd_c B x1.toNatClampNeg x2.toInt) X X) (mcod S (mrd_c S x1.toNatClampNeg x2.toInt))
def PU_cut (rl : RL) : Prop := ∀ {B tk : Nat → Int32} {fr : Int32} {X : Nat → Option (Nat → Int32)} {S : mst} (x1 : Int32) (x2 : Int32), rl B tk fr X S → cu_c B x1.toNatClampNeg x2.toInt < 3 ∧ pj_cd (mcu S x1.toNatClampNeg x2.toInt) = nI (cu_c B x1.toNatClampNeg x2.toInt) ∧ (cu_c B x1.toNatClampNeg x2.toInt = 0 → re_f B x1.toNatClampNeg 4 4 = if mcu_c S x1.toNatClampNeg x2.toInt = 0 then (pj_sz S) x1.toNatClampNeg else nI 0) ∧ rl (cif (cu_c B x1.toNatClampNeg x2.toInt) (re_set (rs_S (B, tk, fr, X) x1.toNatClampNeg x2.toInt.toNat).1 x1.toNatClampNeg 4 4 (nI x2.toInt.toNat)) B) (cif (cu_c B x1.toNatClampNeg x2.toInt) ((rs_S (B, tk, fr, X) x1.toNatClampNeg x2.toInt.toNat).2.1) tk) (cif (cu_c B x1.toNatClampNeg x2.toInt) ((rs_S (B, tk, fr, X) x1.toNatClampNeg x2.toInt.toNat).2.2) fr) (cif (cu_c B x1.toNatClampNeg x2.toInt) (rs_X (B, tk, fr, X) x1.toNatClampNeg x2.toInt.toNat) X) (mcu S x1.toNatClampNeg x2.toInt)
def PU_links (rl : RL) : Prop := ∀ {B tk : Nat → Int32} {fr : Int32} {X : Nat → Option (Nat → Int32)} {S : mst} (x1 : Int32) (x2 : Int32), rl B tk fr X S → li_c B x1.toNatClampNeg x2 < 3 ∧ pj_cd (mli S x1.toNatClampNeg x2) = nI (li_c B x1.toNatClampNeg x2) ∧ (li_c B x1.toNatClampNeg x2 = 0 → re_f B x1.toNatClampNeg 26 2 + x2 = if mli_c S x1.toNatClampNeg x2 = 0 then upd (pj_lc S) x1.toNatClampNeg ((pj_lc S) x1.toNatClampNeg + x2) x1.toNatClampNeg else nI 0) ∧ rl (cif (li_c B x1.toNatClampNeg x2) (li_B B x1.toNatClampNeg x2 x1) B) (cif (li_c B x1.toNatClampNeg x2) tk tk) (cif (li_c B x1.toNatClampNeg x2) fr fr) (cif (li_c B x1.toNatClampNeg x2) X X) (mli S x1.toNatClampNeg x2)
def PU_drop (rl : RL) : Prop := ∀ {B tk : Nat → Int32} {fr : Int32} {X : Nat → Option (Nat → Int32)} {S : mst} (x1 : Int32), rl B tk fr X S → dr_c B x1.toNatClampNeg < 3 ∧ pj_cd (mdr S x1.toNatClampNeg) = nI (dr_c B x1.toNatClampNeg) ∧ (dr_c B x1.toNatClampNeg = 0 → re_nb B x1.toNatClampNeg = if mdr_c S x1.toNatClampNeg = 0 then nI (mbo (pj_bl S) x1.toNatClampNeg 15 0 0) else nI 0) ∧ rl (cif (dr_c B x1.toNatClampNeg) ((lgC (B, tk, fr) x1.toNatClampNeg x1).1) B) (cif (dr_c B x1.toNatClampNeg) ((lgC (B, tk, fr) x1.toNatClampNeg x1).2.1) tk) (cif (dr_c B x1.toNatClampNeg) ((lgC (B, tk, fr) x1.toNatClampNeg x1).2.2) fr) (cif (dr_c B x1.toNatClampNeg) X X) (mdr S x1.toNatClampNeg)
def PU_about (rl : RL) : Prop := ∀ {B tk : Nat → Int32} {fr : Int32} {X : Nat → Option (Nat → Int32)} {S : mst} (x1 : Int32) (x2 : Int32), rl B tk fr X S → ab_c x1.toNatClampNeg x2.toInt < 3 ∧ pj_cd (mcod S (mab_c x1.toInt x2.toInt)) = nI (ab_c x1.toNatClampNeg x2.toInt) ∧ (ab_c x1.toNatClampNeg x2.toInt = 0 → ab_r B x1.toNatClampNeg x2.toInt = if mab_c x1.toInt x2.toInt = 0 then mab_r S x1.toInt.toNat x2.toInt else nI 0) ∧ rl (cif (ab_c x1.toNatClampNeg x2.toInt) B B) (cif (ab_c x1.toNatClampNeg x2.toInt) tk tk) (cif (ab_c x1.toNatClampNeg x2.toInt) fr fr) (cif (ab_c x1.toNatClampNeg x2.toInt) X X) (mcod S (mab_c x1.toInt x2.toInt))
def PU_block (rl : RL) : Prop := ∀ {B tk : Nat → Int32} {fr : Int32} {X : Nat → Option (Nat → Int32)} {S : mst} (x1 : Int32) (x2 : Int32), rl B tk fr X S → bk_c B x1.toNatClampNeg x2.toInt < 3 ∧ pj_cd (mcod S (mbk_c S x1.toNatClampNeg x2.toInt)) = nI (bk_c B x1.toNatClampNeg x2.toInt) ∧ (bk_c B x1.toNatClampNeg x2.toInt = 0 → re_blk B x1.toNatClampNeg x2.toInt = if mbk_c S x1.toNatClampNeg x2.toInt = 0 then nI ((pj_bl S) (15 * x1.toNatClampNeg + x2.toInt.toNat)) else nI 0) ∧ rl (cif (bk_c B x1.toNatClampNeg x2.toInt) B B) (cif (bk_c B x1.toNatClampNeg x2.toInt) tk tk) (cif (bk_c B x1.toNatClampNeg x2.toInt) fr fr) (cif (bk_c B x1.toNatClampNeg x2.toInt) X X) (mcod S (mbk_c S x1.toNatClampNeg x2.toInt))
def PU_count (rl : RL) : Prop := ∀ {B tk : Nat → Int32} {fr : Int32} {X : Nat → Option (Nat → Int32)} {S : mst} (x1 : Int32), rl B tk fr X S → co_c x1.toInt < 3 ∧ pj_cd (mcod S (mco_c x1.toInt)) = nI (co_c x1.toInt) ∧ (co_c x1.toInt = 0 → co_r B fr x1.toInt = if mco_c x1.toInt = 0 then mco_r S x1.toInt else nI 0) ∧ rl (cif (co_c x1.toInt) B B) (cif (co_c x1.toInt) tk tk) (cif (co_c x1.toInt) fr fr) (cif (co_c x1.toInt) X X) (mcod S (mco_c x1.toInt))
def PU_byteOf (rl : RL) : Prop := ∀ {B tk : Nat → Int32} {fr : Int32} {X : Nat → Option (Nat → Int32)} {S : mst} (x1 : Int32) (x2 : Int32), rl B tk fr X S → by_c x1.toInt x2.toInt < 3 ∧ pj_cd (mcod S (mby_c x1.toInt x2.toInt)) = nI (by_c x1.toInt x2.toInt) ∧ (by_c x1.toInt x2.toInt = 0 → fr_num B (x1.toInt.toNat * 1024 + x2.toInt.toNat) 1 = if mby_c x1.toInt x2.toInt = 0 then mby_r S x1.toInt.toNat x2.toInt.toNat else nI 0) ∧ rl (cif (by_c x1.toInt x2.toInt) B B) (cif (by_c x1.toInt x2.toInt) tk tk) (cif (by_c x1.toInt x2.toInt) fr fr) (cif (by_c x1.toInt x2.toInt) X X) (mcod S (mby_c x1.toInt x2.toInt))
def PU_finish (rl : RL) : Prop := ∀ {B tk : Nat → Int32} {fr : Int32} {X : Nat → Option (Nat → Int32)} {S : mst}, rl B tk fr X S → nI ((fnS 12 (B, tk, fr) 0).2) = nI ((mfin 12 (mcod S 0) 0).2) ∧ rl ((fnS 12 (B, tk, fr) 0).1.1) ((fnS 12 (B, tk, fr) 0).1.2.1) ((fnS 12 (B, tk, fr) 0).1.2.2) X ((mfin 12 (mcod S 0) 0).1)
section LC
variable {p : Program} {e : Env} {s : State} {m : MethodId} {below : List Frame} {meth : Method} {c : Code} {H : Heap} {locs : List Loc} {cells slots : Nat} {Q : State → Prop}
variable {ls : Array Slot} {D : va_G} {Ac : Nat → Prop} {ct : Nat → ClassId} {ad am : Nat → Nat} {ao hd b L i : Nat} {xs : Nat → Int32} {B tk : Nat → Int32} {fr : Int32} {X : Nat → Option (Nat → Int32)} {S : mst} {o : Nat → Int64}
set_option maxHeartbeats 4000000 in
set_option maxRecDepth 100000 in
theorem lw_make {rl : RL} (hp : PU_make rl) (hok : PU_ok rl) (l : Launch) (hl9 : l.stackTraces = false) (hx : p.tables.exec = Jvm.exec) (hb : c.code = c_Lw_law) (hml : c.maxLocals = 7) (hown : s.vm.findClass R_Lw = some m.cls) (hts : ∀ w ∈ wA, w.before #[Value.ref b] s = true) (hX : va_X b L xs s s.heap) (hbl : b < s.heap.size) (hL2 : L ≤ 3072) (hF : lF s Ac D ct am ao hd) (hL : lS s Ac D ct ad am ao hd B tk fr X S o H locs) (hr : rl B tk fr X S) (hi : i + 6 ≤ L) (hcl : cells ≤ 600000) (hsl : slots ≤ 7200000) (hl : lv_has ls 7 [(0, .ref b), (1, .ref (ad 0)), (2, .ref (am 0)), (3, .ref ao), (4, .int (nI i))])
    (hnext : ∀ (B tk : Nat → Int32) (fr : Int32) (X : Nat → Option (Nat → Int32)) (S : mst) (o : Nat → Int64) (H : Heap) (locs : List Loc) (ls : Array Slot), rl B tk fr X S → lS s Ac D ct ad am ao hd B tk fr X S o H locs → lv_has ls 7 [(0, .ref b), (1, .ref (ad 0)), (2, .ref (am 0)), (3, .ref ao), (4, .int (nI i))] → W p l e room_1 s m #[Value.ref b] below meth c H locs (cells + 8) (slots + 5138) Q (F0 m 981 ls [])) :
    W p l e room_1 s m #[Value.ref b] below meth c H locs cells slots Q (F0 m 108 ls []) := by
  obtain ⟨hp0, hp1, hp2, hp3⟩ := hp (xs (i + 1)) hr
  obtain ⟨hk1, hk2, hk3⟩ := hok hr
  refine lv_aload_n hx hb d_Lw_law_108 rfl (lv_at hl 1 rfl) ?_
  refine lv_aload_n hx hb d_Lw_law_109 rfl (lv_at hl 0 rfl) ?_
  refine lv_iload hx hb d_Lw_law_110 (lv_at hl 4 rfl) ?_
  refine lv_iconst (v := nI 1) hx hb d_Lw_law_112 (by decide) ?_
  refine ln_iadd hx hb d_Lw_law_113 ?_
  refine lwS hx hb hX hbl hL (by omega) (by omega) d_Lw_law_114 ?_
  refine lv_aload_n hx hb d_Lw_law_115 rfl (lv_at hl 3 rfl) ?_
  refine lwC ⟨hx, hb, hml, hown, hts⟩ hF hL (k_Lw_make l hl9 (z := (xs (i + 1)).toInt) (x_z := (xs (i + 1))) rfl) w_199 m_Lw_make ⟨by decide, by decide⟩ rfl hl.1 rfl (Nat.le_of_ble_eq_true rfl) d_Lw_law_116 ⟨show cells + 1 ≤ 601024 by omega, show slots + 6 ≤ 7293033 by omega⟩ (fun H locs hL => ?_)
  refine lv_istore (lv' := [(5, .int (nI (mk_c B (xs (i + 1)).toInt))), (0, .ref b), (1, .ref (ad 0)), (2, .ref (am 0)), (3, .ref ao), (4, .int (nI i))]) hx hb d_Lw_law_119 hl (by decide) rfl (fun ls hl => ?_)
  refine lv_aload_n hx hb d_Lw_law_121 rfl (lv_at hl 3 rfl) ?_
  refine lv_aload_n hx hb d_Lw_law_122 rfl (lv_at hl 1 rfl) ?_
  refine lv_iload hx hb d_Lw_law_123 (lv_at hl 5 rfl) ?_
  refine lv_iconst (v := nI 1) hx hb d_Lw_law_125 (by decide) ?_
  refine ln_iadd hx hb d_Lw_law_126 ?_
  refine lwS hx hb hX hbl hL (by omega) (by omega) d_Lw_law_127 ?_
  refine lwM (S' := mmk S (xs (i + 1)).toInt (xs (i + 1))) ⟨hx, hb, hml, hown, hts⟩ hF hL (fun A9 => k_Mo_make l (D := D) (ct := ct) (ad := am) (A := A9) (cd := pj_cd S) (dk := pj_dk S) (tk := pj_tk S) (kd := pj_kd S) (lc := pj_lc S) (sz := pj_sz S) (bh := pj_bh S) (wt := pj_wt S) (bl := pj_bl S) (tg := pj_tg S) (fs := pj_fs S) (z := (xs (i + 1)).toInt) (x_z := (xs (i + 1))) rfl hk1) w_878 m_Mo_make ⟨by decide, by decide⟩ rfl hl.1 rfl (Nat.le_of_ble_eq_true rfl) d_Lw_law_128 ⟨show (cells + 1) ≤ 601024 by omega, show (slots + 6) ≤ 7293033 by omega⟩ (fun H locs hL => ?_)
  refine W.eq (g2 := F0 m 131 ls [.int (if mmk_c S (xs (i + 1)).toInt = 0 then nI (mff (pj_kd S) 12 1) else nI 0)]) rfl ?_
  refine lv_istore (lv' := [(6, .int (if mmk_c S (xs (i + 1)).toInt = 0 then nI (mff (pj_kd S) 12 1) else nI 0)), (5, .int (nI (mk_c B (xs (i + 1)).toInt))), (0, .ref b), (1, .ref (ad 0)), (2, .ref (am 0)), (3, .ref ao), (4, .int (nI i))]) hx hb d_Lw_law_131 hl (by decide) rfl (fun ls hl => ?_)
  refine lv_aload_n hx hb d_Lw_law_133 rfl (lv_at hl 4 rfl) ?_
  refine rdV ⟨hx, hb, hml, hown, hts⟩ (hF.hK.sub [0, 1, 3] rfl) hL.hM (k_Mo_thrown l (ct := ct) (ad := am) (cd := pj_cd (mmk S (xs (i + 1)).toInt (xs (i + 1)))) (dk := pj_dk (mmk S (xs (i + 1)).toInt (xs (i + 1)))) (tk := pj_tk (mmk S (xs (i + 1)).toInt (xs (i + 1)))) (kd := pj_kd (mmk S (xs (i + 1)).toInt (xs (i + 1)))) (lc := pj_lc (mmk S (xs (i + 1)).toInt (xs (i + 1)))) (sz := pj_sz (mmk S (xs (i + 1)).toInt (xs (i + 1)))) (bh := pj_bh (mmk S (xs (i + 1)).toInt (xs (i + 1)))) (wt := pj_wt (mmk S (xs (i + 1)).toInt (xs (i + 1)))) (bl := pj_bl (mmk S (xs (i + 1)).toInt (xs (i + 1)))) (tg := pj_tg (mmk S (xs (i + 1)).toInt (xs (i + 1)))) (fs := pj_fs (mmk S (xs (i + 1)).toInt (xs (i + 1))))) w_874 m_Mo_thrown ⟨by decide, by decide⟩ 0 rfl rfl rfl hl.1 rfl (Nat.le_of_ble_eq_true rfl) d_Lw_law_134 ⟨show (cells + 1) ≤ 601024 by omega, show (slots + 6) ≤ 7293033 by omega⟩ ?_
  refine lv_iload hx hb d_Lw_law_137 (lv_at hl 1 rfl) ?_
  refine lv_icmp_eq (tgt := 144) hx hb d_Lw_law_139 (by decide) (fun c9 => ?_) (fun c9 => absurd hp1 c9)
  refine lv_iload hx hb d_Lw_law_144 (lv_at hl 1 rfl) ?_
  refine ln_if_ne (tgt := 161) hx hb (by omega) d_Lw_law_146 (by decide) (fun c8 => ?_) (fun c8 => ?_)
  · skip
    refine lv_goto (tgt := 981) hx hb d_Lw_law_161 (by decide) ?_
    refine W.widen (k := cells + 8) (n := slots + 5138) (by omega) (by omega) ?_
    exact hnext _ _ _ _ _ _ _ _ _ hp3 hL (lv_sub hl [2, 3, 4, 5, 6] rfl)
  · skip
    refine lv_aload_n hx hb d_Lw_law_149 rfl (lv_at hl 5 rfl) ?_
    refine lv_iconst (v := nI 0) hx hb d_Lw_law_150 (by decide) ?_
    refine ln_lald hx hb (hF.hK.sub [4] rfl) hL.hO 0 0 rfl rfl (by omega) (by decide) d_Lw_law_151 ?_
    refine lv_iload hx hb d_Lw_law_152 (lv_at hl 0 rfl) ?_
    refine lv_i2l hx hb d_Lw_law_154 rfl ?_
    refine W.lcmp hx hb d_Lw_law_155 ?_
    refine lc_if_eq (tgt := 161) hx hb (by unfold cif; rw [if_pos c8, pk_uLs, Int32.toInt_toInt64]) ((Int32.toInt_toInt64 _).trans rfl) d_Lw_law_156 (by decide) (fun c7 => ?_) (fun c7 => absurd (by rw [hp2 c8]) c7)
    refine lv_goto (tgt := 981) hx hb d_Lw_law_161 (by decide) ?_
    refine W.widen (k := cells + 8) (n := slots + 5138) (by omega) (by omega) ?_
    exact hnext _ _ _ _ _ _ _ _ _ hp3 hL (lv_sub hl [2, 3, 4, 5, 6] rfl)
set_option maxHeartbeats 4000000 in
set_option maxRecDepth 100000 in
theorem lw_link {rl : RL} (hp : PU_link rl) (hok : PU_ok rl) (l : Launch) (hl9 : l.stackTraces = false) (hx : p.tables.exec = Jvm.exec) (hb : c.code = c_Lw_law) (hml : c.maxLocals = 7) (hown : s.vm.findClass R_Lw = some m.cls) (hts : ∀ w ∈ wA, w.before #[Value.ref b] s = true) (hX : va_X b L xs s s.heap) (hbl : b < s.heap.size) (hL2 : L ≤ 3072) (hF : lF s Ac D ct am ao hd) (hL : lS s Ac D ct ad am ao hd B tk fr X S o H locs) (hr : rl B tk fr X S) (hi : i + 6 ≤ L) (hcl : cells ≤ 600000) (hsl : slots ≤ 7200000) (hl : lv_has ls 7 [(0, .ref b), (1, .ref (ad 0)), (2, .ref (am 0)), (3, .ref ao), (4, .int (nI i))])
    (hnext : ∀ (B tk : Nat → Int32) (fr : Int32) (X : Nat → Option (Nat → Int32)) (S : mst) (o : Nat → Int64) (H : Heap) (locs : List Loc) (ls : Array Slot), rl B tk fr X S → lS s Ac D ct ad am ao hd B tk fr X S o H locs → lv_has ls 7 [(0, .ref b), (1, .ref (ad 0)), (2, .ref (am 0)), (3, .ref ao), (4, .int (nI i))] → W p l e room_1 s m #[Value.ref b] below meth c H locs (cells + 8) (slots + 5138) Q (F0 m 981 ls [])) :
    W p l e room_1 s m #[Value.ref b] below meth c H locs cells slots Q (F0 m 164 ls []) := by
  obtain ⟨hp0, hp1, hp2, hp3⟩ := hp (xs (i + 1)) (xs (i + 2)) hr
  obtain ⟨hk1, hk2, hk3⟩ := hok hr
  refine lv_aload_n hx hb d_Lw_law_164 rfl (lv_at hl 1 rfl) ?_
  refine lv_aload_n hx hb d_Lw_law_165 rfl (lv_at hl 0 rfl) ?_
  refine lv_iload hx hb d_Lw_law_166 (lv_at hl 4 rfl) ?_
  refine lv_iconst (v := nI 1) hx hb d_Lw_law_168 (by decide) ?_
  refine ln_iadd hx hb d_Lw_law_169 ?_
  refine lwS hx hb hX hbl hL (by omega) (by omega) d_Lw_law_170 ?_
  refine lv_aload_n hx hb d_Lw_law_171 rfl (lv_at hl 0 rfl) ?_
  refine lv_iload hx hb d_Lw_law_172 (lv_at hl 4 rfl) ?_
  refine lv_iconst (v := nI 2) hx hb d_Lw_law_174 (by decide) ?_
  refine ln_iadd hx hb d_Lw_law_175 ?_
  refine lwS hx hb hX hbl hL (by omega) (by omega) d_Lw_law_176 ?_
  refine lv_aload_n hx hb d_Lw_law_177 rfl (lv_at hl 3 rfl) ?_
  refine lwC ⟨hx, hb, hml, hown, hts⟩ hF hL (k_Lw_link l hl9 (n := (xs (i + 1)).toInt) (x_n := (xs (i + 1))) (x := (xs (i + 2))) rfl) w_314 m_Lw_link ⟨by decide, by decide⟩ rfl hl.1 rfl (Nat.le_of_ble_eq_true rfl) d_Lw_law_178 ⟨show cells + 2 ≤ 601024 by omega, show slots + 1030 ≤ 7293033 by omega⟩ (fun H locs hL => ?_)
  refine lv_istore (lv' := [(5, .int (nI (lk_c B fr (xs (i + 1)).toInt))), (0, .ref b), (1, .ref (ad 0)), (2, .ref (am 0)), (3, .ref ao), (4, .int (nI i))]) hx hb d_Lw_law_181 hl (by decide) rfl (fun ls hl => ?_)
  refine lv_aload_n hx hb d_Lw_law_183 rfl (lv_at hl 3 rfl) ?_
  refine lv_aload_n hx hb d_Lw_law_184 rfl (lv_at hl 1 rfl) ?_
  refine lv_iload hx hb d_Lw_law_185 (lv_at hl 5 rfl) ?_
  refine lv_iconst (v := nI 1) hx hb d_Lw_law_187 (by decide) ?_
  refine ln_iadd hx hb d_Lw_law_188 ?_
  refine lwS hx hb hX hbl hL (by omega) (by omega) d_Lw_law_189 ?_
  refine lv_aload_n hx hb d_Lw_law_190 rfl (lv_at hl 1 rfl) ?_
  refine lv_iload hx hb d_Lw_law_191 (lv_at hl 5 rfl) ?_
  refine lv_iconst (v := nI 2) hx hb d_Lw_law_193 (by decide) ?_
  refine ln_iadd hx hb d_Lw_law_194 ?_
  refine lwS hx hb hX hbl hL (by omega) (by omega) d_Lw_law_195 ?_
  refine lwM (S' := mlk S (xs (i + 1)).toInt (xs (i + 2))) ⟨hx, hb, hml, hown, hts⟩ hF hL (fun A9 => k_Mo_link l (D := D) (ct := ct) (ad := am) (A := A9) (cd := pj_cd S) (dk := pj_dk S) (tk := pj_tk S) (kd := pj_kd S) (lc := pj_lc S) (sz := pj_sz S) (bh := pj_bh S) (wt := pj_wt S) (bl := pj_bl S) (tg := pj_tg S) (fs := pj_fs S) (z := (xs (i + 1)).toInt) (x_z := (xs (i + 1))) (x := (xs (i + 2))) rfl hk1) w_898 m_Mo_link ⟨by decide, by decide⟩ rfl hl.1 rfl (Nat.le_of_ble_eq_true rfl) d_Lw_law_196 ⟨show (cells + 2) ≤ 601024 by omega, show (slots + 1030) ≤ 7293033 by omega⟩ (fun H locs hL => ?_)
  refine W.eq (g2 := F0 m 199 ls [.int (if mlk_c S (xs (i + 1)).toInt = 0 then nI (mff (pj_kd S) 12 1) else nI 0)]) rfl ?_
  refine lv_istore (lv' := [(6, .int (if mlk_c S (xs (i + 1)).toInt = 0 then nI (mff (pj_kd S) 12 1) else nI 0)), (5, .int (nI (lk_c B fr (xs (i + 1)).toInt))), (0, .ref b), (1, .ref (ad 0)), (2, .ref (am 0)), (3, .ref ao), (4, .int (nI i))]) hx hb d_Lw_law_199 hl (by decide) rfl (fun ls hl => ?_)
  refine lv_aload_n hx hb d_Lw_law_201 rfl (lv_at hl 4 rfl) ?_
  refine rdV ⟨hx, hb, hml, hown, hts⟩ (hF.hK.sub [0, 1, 3] rfl) hL.hM (k_Mo_thrown l (ct := ct) (ad := am) (cd := pj_cd (mlk S (xs (i + 1)).toInt (xs (i + 2)))) (dk := pj_dk (mlk S (xs (i + 1)).toInt (xs (i + 2)))) (tk := pj_tk (mlk S (xs (i + 1)).toInt (xs (i + 2)))) (kd := pj_kd (mlk S (xs (i + 1)).toInt (xs (i + 2)))) (lc := pj_lc (mlk S (xs (i + 1)).toInt (xs (i + 2)))) (sz := pj_sz (mlk S (xs (i + 1)).toInt (xs (i + 2)))) (bh := pj_bh (mlk S (xs (i + 1)).toInt (xs (i + 2)))) (wt := pj_wt (mlk S (xs (i + 1)).toInt (xs (i + 2)))) (bl := pj_bl (mlk S (xs (i + 1)).toInt (xs (i + 2)))) (tg := pj_tg (mlk S (xs (i + 1)).toInt (xs (i + 2)))) (fs := pj_fs (mlk S (xs (i + 1)).toInt (xs (i + 2))))) w_874 m_Mo_thrown ⟨by decide, by decide⟩ 0 rfl rfl rfl hl.1 rfl (Nat.le_of_ble_eq_true rfl) d_Lw_law_202 ⟨show (cells + 2) ≤ 601024 by omega, show (slots + 1030) ≤ 7293033 by omega⟩ ?_
  refine lv_iload hx hb d_Lw_law_205 (lv_at hl 1 rfl) ?_
  refine lv_icmp_eq (tgt := 212) hx hb d_Lw_law_207 (by decide) (fun c9 => ?_) (fun c9 => absurd hp1 c9)
  refine lv_iload hx hb d_Lw_law_212 (lv_at hl 1 rfl) ?_
  refine ln_if_ne (tgt := 229) hx hb (by omega) d_Lw_law_214 (by decide) (fun c8 => ?_) (fun c8 => ?_)
  · skip
    refine lv_goto (tgt := 981) hx hb d_Lw_law_229 (by decide) ?_
    refine W.widen (k := cells + 8) (n := slots + 5138) (by omega) (by omega) ?_
    exact hnext _ _ _ _ _ _ _ _ _ hp3 hL (lv_sub hl [2, 3, 4, 5, 6] rfl)
  · skip
    refine lv_aload_n hx hb d_Lw_law_217 rfl (lv_at hl 5 rfl) ?_
    refine lv_iconst (v := nI 0) hx hb d_Lw_law_218 (by decide) ?_
    refine ln_lald hx hb (hF.hK.sub [4] rfl) hL.hO 0 0 rfl rfl (by omega) (by decide) d_Lw_law_219 ?_
    refine lv_iload hx hb d_Lw_law_220 (lv_at hl 0 rfl) ?_
    refine lv_i2l hx hb d_Lw_law_222 rfl ?_
    refine W.lcmp hx hb d_Lw_law_223 ?_
    refine lc_if_eq (tgt := 229) hx hb (by unfold cif; rw [if_pos c8, pk_uLs, Int32.toInt_toInt64]) ((Int32.toInt_toInt64 _).trans rfl) d_Lw_law_224 (by decide) (fun c7 => ?_) (fun c7 => absurd (by rw [hp2 c8]) c7)
    refine lv_goto (tgt := 981) hx hb d_Lw_law_229 (by decide) ?_
    refine W.widen (k := cells + 8) (n := slots + 5138) (by omega) (by omega) ?_
    exact hnext _ _ _ _ _ _ _ _ _ hp3 hL (lv_sub hl [2, 3, 4, 5, 6] rfl)
set_option maxHeartbeats 4000000 in
set_option maxRecDepth 100000 in
theorem lw_write {rl : RL} (hp : PU_write rl) (hok : PU_ok rl) (l : Launch) (hl9 : l.stackTraces = false) (hx : p.tables.exec = Jvm.exec) (hb : c.code = c_Lw_law) (hml : c.maxLocals = 7) (hown : s.vm.findClass R_Lw = some m.cls) (hts : ∀ w ∈ wA, w.before #[Value.ref b] s = true) (hX : va_X b L xs s s.heap) (hbl : b < s.heap.size) (hL2 : L ≤ 3072) (hF : lF s Ac D ct am ao hd) (hL : lS s Ac D ct ad am ao hd B tk fr X S o H locs) (hr : rl B tk fr X S) (hi : i + 6 ≤ L) (hcl : cells ≤ 600000) (hsl : slots ≤ 7200000) (hl : lv_has ls 7 [(0, .ref b), (1, .ref (ad 0)), (2, .ref (am 0)), (3, .ref ao), (4, .int (nI i))])
    (hnext : ∀ (B tk : Nat → Int32) (fr : Int32) (X : Nat → Option (Nat → Int32)) (S : mst) (o : Nat → Int64) (H : Heap) (locs : List Loc) (ls : Array Slot), rl B tk fr X S → lS s Ac D ct ad am ao hd B tk fr X S o H locs → lv_has ls 7 [(0, .ref b), (1, .ref (ad 0)), (2, .ref (am 0)), (3, .ref ao), (4, .int (nI i))] → W p l e room_1 s m #[Value.ref b] below meth c H locs (cells + 8) (slots + 5138) Q (F0 m 981 ls [])) :
    W p l e room_1 s m #[Value.ref b] below meth c H locs cells slots Q (F0 m 232 ls []) := by
  obtain ⟨hp0, hp1, hp2, hp3⟩ := hp (xs (i + 1)) (xs (i + 2)) ((((xs (i + 3)).toInt64) <<< ((nI 32).toInt64 &&& 63)) ||| (((xs (i + 4)).toInt64) &&& 4294967295)) (xs (i + 5)) hr
  obtain ⟨hk1, hk2, hk3⟩ := hok hr
  refine lv_aload_n hx hb d_Lw_law_232 rfl (lv_at hl 1 rfl) ?_
  refine lv_aload_n hx hb d_Lw_law_233 rfl (lv_at hl 0 rfl) ?_
  refine lv_iload hx hb d_Lw_law_234 (lv_at hl 4 rfl) ?_
  refine lv_iconst (v := nI 1) hx hb d_Lw_law_236 (by decide) ?_
  refine ln_iadd hx hb d_Lw_law_237 ?_
  refine lwS hx hb hX hbl hL (by omega) (by omega) d_Lw_law_238 ?_
  refine lv_aload_n hx hb d_Lw_law_239 rfl (lv_at hl 0 rfl) ?_
  refine lv_iload hx hb d_Lw_law_240 (lv_at hl 4 rfl) ?_
  refine lv_iconst (v := nI 2) hx hb d_Lw_law_242 (by decide) ?_
  refine ln_iadd hx hb d_Lw_law_243 ?_
  refine lwS hx hb hX hbl hL (by omega) (by omega) d_Lw_law_244 ?_
  refine lv_aload_n hx hb d_Lw_law_245 rfl (lv_at hl 0 rfl) ?_
  refine lv_iload hx hb d_Lw_law_246 (lv_at hl 4 rfl) ?_
  refine lv_iconst (v := nI 3) hx hb d_Lw_law_248 (by decide) ?_
  refine ln_iadd hx hb d_Lw_law_249 ?_
  refine lwS hx hb hX hbl hL (by omega) (by omega) d_Lw_law_250 ?_
  refine lv_i2l hx hb d_Lw_law_251 rfl ?_
  refine lv_bipush (v := nI 32) hx hb d_Lw_law_252 (by decide) ?_
  refine lv_lshl hx hb d_Lw_law_254 rfl ?_
  refine lv_aload_n hx hb d_Lw_law_255 rfl (lv_at hl 0 rfl) ?_
  refine lv_iload hx hb d_Lw_law_256 (lv_at hl 4 rfl) ?_
  refine lv_iconst (v := nI 4) hx hb d_Lw_law_258 (by decide) ?_
  refine ln_iadd hx hb d_Lw_law_259 ?_
  refine lwS hx hb hX hbl hL (by omega) (by omega) d_Lw_law_260 ?_
  refine lv_i2l hx hb d_Lw_law_261 rfl ?_
  refine lv_ldc2 (v := 4294967295) hx hb hown (hts _ w_1005) d_Lw_law_262 ?_
  refine lv_land hx hb d_Lw_law_265 ?_
  refine lv_lor hx hb d_Lw_law_266 ?_
  refine lv_aload_n hx hb d_Lw_law_267 rfl (lv_at hl 0 rfl) ?_
  refine lv_iload hx hb d_Lw_law_268 (lv_at hl 4 rfl) ?_
  refine lv_iconst (v := nI 5) hx hb d_Lw_law_270 (by decide) ?_
  refine ln_iadd hx hb d_Lw_law_271 ?_
  refine lwS hx hb hX hbl hL (by omega) (by omega) d_Lw_law_272 ?_
  refine lv_aload_n hx hb d_Lw_law_273 rfl (lv_at hl 3 rfl) ?_
  refine lwC ⟨hx, hb, hml, hown, hts⟩ hF hL (k_Lw_write l hl9 (f := (xs (i + 1)).toNatClampNeg) (x_f := (xs (i + 1))) (a := (xs (i + 2)).toInt) (x_a := (xs (i + 2))) (r := ((((xs (i + 3)).toInt64) <<< ((nI 32).toInt64 &&& 63)) ||| (((xs (i + 4)).toInt64) &&& 4294967295))) (n := (xs (i + 5)).toInt) (x_n := (xs (i + 5))) rfl rfl rfl) w_383 m_Lw_write ⟨by decide, by decide⟩ rfl hl.1 rfl (Nat.le_of_ble_eq_true rfl) d_Lw_law_274 ⟨show cells + 8 ≤ 601024 by omega, show slots + 5138 ≤ 7293033 by omega⟩ (fun H locs hL => ?_)
  refine lv_istore (lv' := [(5, .int (nI (wr_c B fr (xs (i + 1)).toNatClampNeg (xs (i + 2)).toInt (xs (i + 5)).toInt 8))), (0, .ref b), (1, .ref (ad 0)), (2, .ref (am 0)), (3, .ref ao), (4, .int (nI i))]) hx hb d_Lw_law_277 hl (by decide) rfl (fun ls hl => ?_)
  refine lv_aload_n hx hb d_Lw_law_279 rfl (lv_at hl 3 rfl) ?_
  refine lv_aload_n hx hb d_Lw_law_280 rfl (lv_at hl 1 rfl) ?_
  refine lv_iload hx hb d_Lw_law_281 (lv_at hl 5 rfl) ?_
  refine lv_iconst (v := nI 1) hx hb d_Lw_law_283 (by decide) ?_
  refine ln_iadd hx hb d_Lw_law_284 ?_
  refine lwS hx hb hX hbl hL (by omega) (by omega) d_Lw_law_285 ?_
  refine lv_aload_n hx hb d_Lw_law_286 rfl (lv_at hl 1 rfl) ?_
  refine lv_iload hx hb d_Lw_law_287 (lv_at hl 5 rfl) ?_
  refine lv_iconst (v := nI 2) hx hb d_Lw_law_289 (by decide) ?_
  refine ln_iadd hx hb d_Lw_law_290 ?_
  refine lwS hx hb hX hbl hL (by omega) (by omega) d_Lw_law_291 ?_
  refine lv_aload_n hx hb d_Lw_law_292 rfl (lv_at hl 1 rfl) ?_
  refine lv_iload hx hb d_Lw_law_293 (lv_at hl 5 rfl) ?_
  refine lv_iconst (v := nI 3) hx hb d_Lw_law_295 (by decide) ?_
  refine ln_iadd hx hb d_Lw_law_296 ?_
  refine lwS hx hb hX hbl hL (by omega) (by omega) d_Lw_law_297 ?_
  refine lv_i2l hx hb d_Lw_law_298 rfl ?_
  refine lv_bipush (v := nI 32) hx hb d_Lw_law_299 (by decide) ?_
  refine lv_lshl hx hb d_Lw_law_301 rfl ?_
  refine lv_aload_n hx hb d_Lw_law_302 rfl (lv_at hl 1 rfl) ?_
  refine lv_iload hx hb d_Lw_law_303 (lv_at hl 5 rfl) ?_
  refine lv_iconst (v := nI 4) hx hb d_Lw_law_305 (by decide) ?_
  refine ln_iadd hx hb d_Lw_law_306 ?_
  refine lwS hx hb hX hbl hL (by omega) (by omega) d_Lw_law_307 ?_
  refine lv_i2l hx hb d_Lw_law_308 rfl ?_
  refine lv_ldc2 (v := 4294967295) hx hb hown (hts _ w_1005) d_Lw_law_309 ?_
  refine lv_land hx hb d_Lw_law_312 ?_
  refine lv_lor hx hb d_Lw_law_313 ?_
  refine lv_aload_n hx hb d_Lw_law_314 rfl (lv_at hl 1 rfl) ?_
  refine lv_iload hx hb d_Lw_law_315 (lv_at hl 5 rfl) ?_
  refine lv_iconst (v := nI 5) hx hb d_Lw_law_317 (by decide) ?_
  refine ln_iadd hx hb d_Lw_law_318 ?_
  refine lwS hx hb hX hbl hL (by omega) (by omega) d_Lw_law_319 ?_
  refine lwM (S' := mwr S (xs (i + 1)).toNatClampNeg (xs (i + 2)).toInt (xs (i + 5)).toInt ((((xs (i + 3)).toInt64) <<< ((nI 32).toInt64 &&& 63)) ||| (((xs (i + 4)).toInt64) &&& 4294967295))) ⟨hx, hb, hml, hown, hts⟩ hF hL (fun A9 => k_Mo_write l (D := D) (ct := ct) (ad := am) (A := A9) (cd := pj_cd S) (dk := pj_dk S) (tk := pj_tk S) (kd := pj_kd S) (lc := pj_lc S) (sz := pj_sz S) (bh := pj_bh S) (wt := pj_wt S) (bl := pj_bl S) (tg := pj_tg S) (fs := pj_fs S) (f := (xs (i + 1)).toNatClampNeg) (x_f := (xs (i + 1))) (a := (xs (i + 2)).toInt) (x_a := (xs (i + 2))) (r := ((((xs (i + 3)).toInt64) <<< ((nI 32).toInt64 &&& 63)) ||| (((xs (i + 4)).toInt64) &&& 4294967295))) (n := (xs (i + 5)).toInt) (x_n := (xs (i + 5))) rfl rfl rfl hk1) w_910 m_Mo_write ⟨by decide, by decide⟩ rfl hl.1 rfl (Nat.le_of_ble_eq_true rfl) d_Lw_law_320 ⟨show (cells + 8) ≤ 601024 by omega, show (slots + 5138) ≤ 7293033 by omega⟩ (fun H locs hL => ?_)
  refine W.eq (g2 := F0 m 323 ls [.int (if mmay_c S (xs (i + 1)).toNatClampNeg (xs (i + 2)).toInt (xs (i + 5)).toInt 8 = 0 then pj_sz (mwr S (xs (i + 1)).toNatClampNeg (xs (i + 2)).toInt (xs (i + 5)).toInt ((((xs (i + 3)).toInt64) <<< ((nI 32).toInt64 &&& 63)) ||| (((xs (i + 4)).toInt64) &&& 4294967295))) (xs (i + 1)).toNatClampNeg else nI 0)]) rfl ?_
  refine lv_istore (lv' := [(6, .int (if mmay_c S (xs (i + 1)).toNatClampNeg (xs (i + 2)).toInt (xs (i + 5)).toInt 8 = 0 then pj_sz (mwr S (xs (i + 1)).toNatClampNeg (xs (i + 2)).toInt (xs (i + 5)).toInt ((((xs (i + 3)).toInt64) <<< ((nI 32).toInt64 &&& 63)) ||| (((xs (i + 4)).toInt64) &&& 4294967295))) (xs (i + 1)).toNatClampNeg else nI 0)), (5, .int (nI (wr_c B fr (xs (i + 1)).toNatClampNeg (xs (i + 2)).toInt (xs (i + 5)).toInt 8))), (0, .ref b), (1, .ref (ad 0)), (2, .ref (am 0)), (3, .ref ao), (4, .int (nI i))]) hx hb d_Lw_law_323 hl (by decide) rfl (fun ls hl => ?_)
  refine lv_aload_n hx hb d_Lw_law_325 rfl (lv_at hl 4 rfl) ?_
  refine rdV ⟨hx, hb, hml, hown, hts⟩ (hF.hK.sub [0, 1, 3] rfl) hL.hM (k_Mo_thrown l (ct := ct) (ad := am) (cd := pj_cd (mwr S (xs (i + 1)).toNatClampNeg (xs (i + 2)).toInt (xs (i + 5)).toInt ((((xs (i + 3)).toInt64) <<< ((nI 32).toInt64 &&& 63)) ||| (((xs (i + 4)).toInt64) &&& 4294967295)))) (dk := pj_dk (mwr S (xs (i + 1)).toNatClampNeg (xs (i + 2)).toInt (xs (i + 5)).toInt ((((xs (i + 3)).toInt64) <<< ((nI 32).toInt64 &&& 63)) ||| (((xs (i + 4)).toInt64) &&& 4294967295)))) (tk := pj_tk (mwr S (xs (i + 1)).toNatClampNeg (xs (i + 2)).toInt (xs (i + 5)).toInt ((((xs (i + 3)).toInt64) <<< ((nI 32).toInt64 &&& 63)) ||| (((xs (i + 4)).toInt64) &&& 4294967295)))) (kd := pj_kd (mwr S (xs (i + 1)).toNatClampNeg (xs (i + 2)).toInt (xs (i + 5)).toInt ((((xs (i + 3)).toInt64) <<< ((nI 32).toInt64 &&& 63)) ||| (((xs (i + 4)).toInt64) &&& 4294967295)))) (lc := pj_lc (mwr S (xs (i + 1)).toNatClampNeg (xs (i + 2)).toInt (xs (i + 5)).toInt ((((xs (i + 3)).toInt64) <<< ((nI 32).toInt64 &&& 63)) ||| (((xs (i + 4)).toInt64) &&& 4294967295)))) (sz := pj_sz (mwr S (xs (i + 1)).toNatClampNeg (xs (i + 2)).toInt (xs (i + 5)).toInt ((((xs (i + 3)).toInt64) <<< ((nI 32).toInt64 &&& 63)) ||| (((xs (i + 4)).toInt64) &&& 4294967295)))) (bh := pj_bh (mwr S (xs (i + 1)).toNatClampNeg (xs (i + 2)).toInt (xs (i + 5)).toInt ((((xs (i + 3)).toInt64) <<< ((nI 32).toInt64 &&& 63)) ||| (((xs (i + 4)).toInt64) &&& 4294967295)))) (wt := pj_wt (mwr S (xs (i + 1)).toNatClampNeg (xs (i + 2)).toInt (xs (i + 5)).toInt ((((xs (i + 3)).toInt64) <<< ((nI 32).toInt64 &&& 63)) ||| (((xs (i + 4)).toInt64) &&& 4294967295)))) (bl := pj_bl (mwr S (xs (i + 1)).toNatClampNeg (xs (i + 2)).toInt (xs (i + 5)).toInt ((((xs (i + 3)).toInt64) <<< ((nI 32).toInt64 &&& 63)) ||| (((xs (i + 4)).toInt64) &&& 4294967295)))) (tg := pj_tg (mwr S (xs (i + 1)).toNatClampNeg (xs (i + 2)).toInt (xs (i + 5)).toInt ((((xs (i + 3)).toInt64) <<< ((nI 32).toInt64 &&& 63)) ||| (((xs (i + 4)).toInt64) &&& 4294967295)))) (fs := pj_fs (mwr S (xs (i + 1)).toNatClampNeg (xs (i + 2)).toInt (xs (i + 5)).toInt ((((xs (i + 3)).toInt64) <<< ((nI 32).toInt64 &&& 63)) ||| (((xs (i + 4)).toInt64) &&& 4294967295))))) w_874 m_Mo_thrown ⟨by decide, by decide⟩ 0 rfl rfl rfl hl.1 rfl (Nat.le_of_ble_eq_true rfl) d_Lw_law_326 ⟨show (cells + 8) ≤ 601024 by omega, show (slots + 5138) ≤ 7293033 by omega⟩ ?_
  refine lv_iload hx hb d_Lw_law_329 (lv_at hl 1 rfl) ?_
  refine lv_icmp_eq (tgt := 336) hx hb d_Lw_law_331 (by decide) (fun c9 => ?_) (fun c9 => absurd hp1 c9)
  refine lv_iload hx hb d_Lw_law_336 (lv_at hl 1 rfl) ?_
  refine ln_if_ne (tgt := 353) hx hb (by omega) d_Lw_law_338 (by decide) (fun c8 => ?_) (fun c8 => ?_)
  · skip
    refine lv_goto (tgt := 981) hx hb d_Lw_law_353 (by decide) ?_
    refine W.widen (k := cells + 8) (n := slots + 5138) (by omega) (by omega) ?_
    exact hnext _ _ _ _ _ _ _ _ _ hp3 hL (lv_sub hl [2, 3, 4, 5, 6] rfl)
  · skip
    refine lv_aload_n hx hb d_Lw_law_341 rfl (lv_at hl 5 rfl) ?_
    refine lv_iconst (v := nI 0) hx hb d_Lw_law_342 (by decide) ?_
    refine ln_lald hx hb (hF.hK.sub [4] rfl) hL.hO 0 0 rfl rfl (by omega) (by decide) d_Lw_law_343 ?_
    refine lv_iload hx hb d_Lw_law_344 (lv_at hl 0 rfl) ?_
    refine lv_i2l hx hb d_Lw_law_346 rfl ?_
    refine W.lcmp hx hb d_Lw_law_347 ?_
    refine lc_if_eq (tgt := 353) hx hb (by unfold cif; rw [if_pos c8, pk_uLs, Int32.toInt_toInt64]) ((Int32.toInt_toInt64 _).trans rfl) d_Lw_law_348 (by decide) (fun c7 => ?_) (fun c7 => absurd (by rw [hp2 c8]) c7)
    refine lv_goto (tgt := 981) hx hb d_Lw_law_353 (by decide) ?_
    refine W.widen (k := cells + 8) (n := slots + 5138) (by omega) (by omega) ?_
    exact hnext _ _ _ _ _ _ _ _ _ hp3 hL (lv_sub hl [2, 3, 4, 5, 6] rfl)
set_option maxHeartbeats 4000000 in
set_option maxRecDepth 100000 in
theorem lw_paint {rl : RL} (hp : PU_paint rl) (hok : PU_ok rl) (l : Launch) (hl9 : l.stackTraces = false) (hx : p.tables.exec = Jvm.exec) (hb : c.code = c_Lw_law) (hml : c.maxLocals = 7) (hown : s.vm.findClass R_Lw = some m.cls) (hts : ∀ w ∈ wA, w.before #[Value.ref b] s = true) (hX : va_X b L xs s s.heap) (hbl : b < s.heap.size) (hL2 : L ≤ 3072) (hF : lF s Ac D ct am ao hd) (hL : lS s Ac D ct ad am ao hd B tk fr X S o H locs) (hr : rl B tk fr X S) (hi : i + 6 ≤ L) (hcl : cells ≤ 600000) (hsl : slots ≤ 7200000) (hl : lv_has ls 7 [(0, .ref b), (1, .ref (ad 0)), (2, .ref (am 0)), (3, .ref ao), (4, .int (nI i))])
    (hnext : ∀ (B tk : Nat → Int32) (fr : Int32) (X : Nat → Option (Nat → Int32)) (S : mst) (o : Nat → Int64) (H : Heap) (locs : List Loc) (ls : Array Slot), rl B tk fr X S → lS s Ac D ct ad am ao hd B tk fr X S o H locs → lv_has ls 7 [(0, .ref b), (1, .ref (ad 0)), (2, .ref (am 0)), (3, .ref ao), (4, .int (nI i))] → W p l e room_1 s m #[Value.ref b] below meth c H locs (cells + 8) (slots + 5138) Q (F0 m 981 ls [])) :
    W p l e room_1 s m #[Value.ref b] below meth c H locs cells slots Q (F0 m 356 ls []) := by
  obtain ⟨hp0, hp1, hp2, hp3⟩ := hp (xs (i + 1)) (xs (i + 2)) (xs (i + 3)) (xs (i + 4)) hr
  obtain ⟨hk1, hk2, hk3⟩ := hok hr
  refine lv_aload_n hx hb d_Lw_law_356 rfl (lv_at hl 1 rfl) ?_
  refine lv_aload_n hx hb d_Lw_law_357 rfl (lv_at hl 0 rfl) ?_
  refine lv_iload hx hb d_Lw_law_358 (lv_at hl 4 rfl) ?_
  refine lv_iconst (v := nI 1) hx hb d_Lw_law_360 (by decide) ?_
  refine ln_iadd hx hb d_Lw_law_361 ?_
  refine lwS hx hb hX hbl hL (by omega) (by omega) d_Lw_law_362 ?_
  refine lv_aload_n hx hb d_Lw_law_363 rfl (lv_at hl 0 rfl) ?_
  refine lv_iload hx hb d_Lw_law_364 (lv_at hl 4 rfl) ?_
  refine lv_iconst (v := nI 2) hx hb d_Lw_law_366 (by decide) ?_
  refine ln_iadd hx hb d_Lw_law_367 ?_
  refine lwS hx hb hX hbl hL (by omega) (by omega) d_Lw_law_368 ?_
  refine lv_aload_n hx hb d_Lw_law_369 rfl (lv_at hl 0 rfl) ?_
  refine lv_iload hx hb d_Lw_law_370 (lv_at hl 4 rfl) ?_
  refine lv_iconst (v := nI 3) hx hb d_Lw_law_372 (by decide) ?_
  refine ln_iadd hx hb d_Lw_law_373 ?_
  refine lwS hx hb hX hbl hL (by omega) (by omega) d_Lw_law_374 ?_
  refine lv_aload_n hx hb d_Lw_law_375 rfl (lv_at hl 0 rfl) ?_
  refine lv_iload hx hb d_Lw_law_376 (lv_at hl 4 rfl) ?_
  refine lv_iconst (v := nI 4) hx hb d_Lw_law_378 (by decide) ?_
  refine ln_iadd hx hb d_Lw_law_379 ?_
  refine lwS hx hb hX hbl hL (by omega) (by omega) d_Lw_law_380 ?_
  refine lv_aload_n hx hb d_Lw_law_381 rfl (lv_at hl 3 rfl) ?_
  refine lwC ⟨hx, hb, hml, hown, hts⟩ hF hL (k_Lw_paint l hl9 (f := (xs (i + 1)).toNatClampNeg) (x_f := (xs (i + 1))) (a := (xs (i + 2)).toInt) (x_a := (xs (i + 2))) (n := (xs (i + 3)).toInt) (x_n := (xs (i + 3))) (x := (xs (i + 4))) rfl rfl rfl) w_426 m_Lw_paint ⟨by decide, by decide⟩ rfl hl.1 rfl (Nat.le_of_ble_eq_true rfl) d_Lw_law_382 ⟨show cells + 8 ≤ 601024 by omega, show slots + 5138 ≤ 7293033 by omega⟩ (fun H locs hL => ?_)
  refine lv_istore (lv' := [(5, .int (nI (wr_c B fr (xs (i + 1)).toNatClampNeg (xs (i + 2)).toInt (xs (i + 3)).toInt 4000))), (0, .ref b), (1, .ref (ad 0)), (2, .ref (am 0)), (3, .ref ao), (4, .int (nI i))]) hx hb d_Lw_law_385 hl (by decide) rfl (fun ls hl => ?_)
  refine lv_aload_n hx hb d_Lw_law_387 rfl (lv_at hl 3 rfl) ?_
  refine lv_aload_n hx hb d_Lw_law_388 rfl (lv_at hl 1 rfl) ?_
  refine lv_iload hx hb d_Lw_law_389 (lv_at hl 5 rfl) ?_
  refine lv_iconst (v := nI 1) hx hb d_Lw_law_391 (by decide) ?_
  refine ln_iadd hx hb d_Lw_law_392 ?_
  refine lwS hx hb hX hbl hL (by omega) (by omega) d_Lw_law_393 ?_
  refine lv_aload_n hx hb d_Lw_law_394 rfl (lv_at hl 1 rfl) ?_
  refine lv_iload hx hb d_Lw_law_395 (lv_at hl 5 rfl) ?_
  refine lv_iconst (v := nI 2) hx hb d_Lw_law_397 (by decide) ?_
  refine ln_iadd hx hb d_Lw_law_398 ?_
  refine lwS hx hb hX hbl hL (by omega) (by omega) d_Lw_law_399 ?_
  refine lv_aload_n hx hb d_Lw_law_400 rfl (lv_at hl 1 rfl) ?_
  refine lv_iload hx hb d_Lw_law_401 (lv_at hl 5 rfl) ?_
  refine lv_iconst (v := nI 3) hx hb d_Lw_law_403 (by decide) ?_
  refine ln_iadd hx hb d_Lw_law_404 ?_
  refine lwS hx hb hX hbl hL (by omega) (by omega) d_Lw_law_405 ?_
  refine lv_aload_n hx hb d_Lw_law_406 rfl (lv_at hl 1 rfl) ?_
  refine lv_iload hx hb d_Lw_law_407 (lv_at hl 5 rfl) ?_
  refine lv_iconst (v := nI 4) hx hb d_Lw_law_409 (by decide) ?_
  refine ln_iadd hx hb d_Lw_law_410 ?_
  refine lwS hx hb hX hbl hL (by omega) (by omega) d_Lw_law_411 ?_
  refine lwM (S' := mpa S (xs (i + 1)).toNatClampNeg (xs (i + 2)).toInt (xs (i + 3)).toInt (xs (i + 4))) ⟨hx, hb, hml, hown, hts⟩ hF hL (fun A9 => k_Mo_paint l (D := D) (ct := ct) (ad := am) (A := A9) (cd := pj_cd S) (dk := pj_dk S) (tk := pj_tk S) (kd := pj_kd S) (lc := pj_lc S) (sz := pj_sz S) (bh := pj_bh S) (wt := pj_wt S) (bl := pj_bl S) (tg := pj_tg S) (fs := pj_fs S) (f := (xs (i + 1)).toNatClampNeg) (x_f := (xs (i + 1))) (a := (xs (i + 2)).toInt) (x_a := (xs (i + 2))) (n := (xs (i + 3)).toInt) (x_n := (xs (i + 3))) (x := (xs (i + 4))) rfl rfl rfl hk1) w_940 m_Mo_paint ⟨by decide, by decide⟩ rfl hl.1 rfl (Nat.le_of_ble_eq_true rfl) d_Lw_law_412 ⟨show (cells + 8) ≤ 601024 by omega, show (slots + 5138) ≤ 7293033 by omega⟩ (fun H locs hL => ?_)
  refine W.eq (g2 := F0 m 415 ls [.int (if mmay_c S (xs (i + 1)).toNatClampNeg (xs (i + 2)).toInt (xs (i + 3)).toInt 4000 = 0 then pj_sz (mpa S (xs (i + 1)).toNatClampNeg (xs (i + 2)).toInt (xs (i + 3)).toInt (xs (i + 4))) (xs (i + 1)).toNatClampNeg else nI 0)]) rfl ?_
  refine lv_istore (lv' := [(6, .int (if mmay_c S (xs (i + 1)).toNatClampNeg (xs (i + 2)).toInt (xs (i + 3)).toInt 4000 = 0 then pj_sz (mpa S (xs (i + 1)).toNatClampNeg (xs (i + 2)).toInt (xs (i + 3)).toInt (xs (i + 4))) (xs (i + 1)).toNatClampNeg else nI 0)), (5, .int (nI (wr_c B fr (xs (i + 1)).toNatClampNeg (xs (i + 2)).toInt (xs (i + 3)).toInt 4000))), (0, .ref b), (1, .ref (ad 0)), (2, .ref (am 0)), (3, .ref ao), (4, .int (nI i))]) hx hb d_Lw_law_415 hl (by decide) rfl (fun ls hl => ?_)
  refine lv_aload_n hx hb d_Lw_law_417 rfl (lv_at hl 4 rfl) ?_
  refine rdV ⟨hx, hb, hml, hown, hts⟩ (hF.hK.sub [0, 1, 3] rfl) hL.hM (k_Mo_thrown l (ct := ct) (ad := am) (cd := pj_cd (mpa S (xs (i + 1)).toNatClampNeg (xs (i + 2)).toInt (xs (i + 3)).toInt (xs (i + 4)))) (dk := pj_dk (mpa S (xs (i + 1)).toNatClampNeg (xs (i + 2)).toInt (xs (i + 3)).toInt (xs (i + 4)))) (tk := pj_tk (mpa S (xs (i + 1)).toNatClampNeg (xs (i + 2)).toInt (xs (i + 3)).toInt (xs (i + 4)))) (kd := pj_kd (mpa S (xs (i + 1)).toNatClampNeg (xs (i + 2)).toInt (xs (i + 3)).toInt (xs (i + 4)))) (lc := pj_lc (mpa S (xs (i + 1)).toNatClampNeg (xs (i + 2)).toInt (xs (i + 3)).toInt (xs (i + 4)))) (sz := pj_sz (mpa S (xs (i + 1)).toNatClampNeg (xs (i + 2)).toInt (xs (i + 3)).toInt (xs (i + 4)))) (bh := pj_bh (mpa S (xs (i + 1)).toNatClampNeg (xs (i + 2)).toInt (xs (i + 3)).toInt (xs (i + 4)))) (wt := pj_wt (mpa S (xs (i + 1)).toNatClampNeg (xs (i + 2)).toInt (xs (i + 3)).toInt (xs (i + 4)))) (bl := pj_bl (mpa S (xs (i + 1)).toNatClampNeg (xs (i + 2)).toInt (xs (i + 3)).toInt (xs (i + 4)))) (tg := pj_tg (mpa S (xs (i + 1)).toNatClampNeg (xs (i + 2)).toInt (xs (i + 3)).toInt (xs (i + 4)))) (fs := pj_fs (mpa S (xs (i + 1)).toNatClampNeg (xs (i + 2)).toInt (xs (i + 3)).toInt (xs (i + 4))))) w_874 m_Mo_thrown ⟨by decide, by decide⟩ 0 rfl rfl rfl hl.1 rfl (Nat.le_of_ble_eq_true rfl) d_Lw_law_418 ⟨show (cells + 8) ≤ 601024 by omega, show (slots + 5138) ≤ 7293033 by omega⟩ ?_
  refine lv_iload hx hb d_Lw_law_421 (lv_at hl 1 rfl) ?_
  refine lv_icmp_eq (tgt := 428) hx hb d_Lw_law_423 (by decide) (fun c9 => ?_) (fun c9 => absurd hp1 c9)
  refine lv_iload hx hb d_Lw_law_428 (lv_at hl 1 rfl) ?_
  refine ln_if_ne (tgt := 445) hx hb (by omega) d_Lw_law_430 (by decide) (fun c8 => ?_) (fun c8 => ?_)
  · skip
    refine lv_goto (tgt := 981) hx hb d_Lw_law_445 (by decide) ?_
    refine W.widen (k := cells + 8) (n := slots + 5138) (by omega) (by omega) ?_
    exact hnext _ _ _ _ _ _ _ _ _ hp3 hL (lv_sub hl [2, 3, 4, 5, 6] rfl)
  · skip
    refine lv_aload_n hx hb d_Lw_law_433 rfl (lv_at hl 5 rfl) ?_
    refine lv_iconst (v := nI 0) hx hb d_Lw_law_434 (by decide) ?_
    refine ln_lald hx hb (hF.hK.sub [4] rfl) hL.hO 0 0 rfl rfl (by omega) (by decide) d_Lw_law_435 ?_
    refine lv_iload hx hb d_Lw_law_436 (lv_at hl 0 rfl) ?_
    refine lv_i2l hx hb d_Lw_law_438 rfl ?_
    refine W.lcmp hx hb d_Lw_law_439 ?_
    refine lc_if_eq (tgt := 445) hx hb (by unfold cif; rw [if_pos c8, pk_uLs, Int32.toInt_toInt64]) ((Int32.toInt_toInt64 _).trans rfl) d_Lw_law_440 (by decide) (fun c7 => ?_) (fun c7 => absurd (by rw [hp2 c8]) c7)
    refine lv_goto (tgt := 981) hx hb d_Lw_law_445 (by decide) ?_
    refine W.widen (k := cells + 8) (n := slots + 5138) (by omega) (by omega) ?_
    exact hnext _ _ _ _ _ _ _ _ _ hp3 hL (lv_sub hl [2, 3, 4, 5, 6] rfl)
set_option maxHeartbeats 4000000 in
set_option maxRecDepth 100000 in
theorem lw_read {rl : RL} (hp : PU_read rl) (hok : PU_ok rl) (l : Launch) (hl9 : l.stackTraces = false) (hx : p.tables.exec = Jvm.exec) (hb : c.code = c_Lw_law) (hml : c.maxLocals = 7) (hown : s.vm.findClass R_Lw = some m.cls) (hts : ∀ w ∈ wA, w.before #[Value.ref b] s = true) (hX : va_X b L xs s s.heap) (hbl : b < s.heap.size) (hL2 : L ≤ 3072) (hF : lF s Ac D ct am ao hd) (hL : lS s Ac D ct ad am ao hd B tk fr X S o H locs) (hr : rl B tk fr X S) (hi : i + 6 ≤ L) (hcl : cells ≤ 600000) (hsl : slots ≤ 7200000) (hl : lv_has ls 7 [(0, .ref b), (1, .ref (ad 0)), (2, .ref (am 0)), (3, .ref ao), (4, .int (nI i))])
    (hnext : ∀ (B tk : Nat → Int32) (fr : Int32) (X : Nat → Option (Nat → Int32)) (S : mst) (o : Nat → Int64) (H : Heap) (locs : List Loc) (ls : Array Slot), rl B tk fr X S → lS s Ac D ct ad am ao hd B tk fr X S o H locs → lv_has ls 7 [(0, .ref b), (1, .ref (ad 0)), (2, .ref (am 0)), (3, .ref ao), (4, .int (nI i))] → W p l e room_1 s m #[Value.ref b] below meth c H locs (cells + 8) (slots + 5138) Q (F0 m 981 ls [])) :
    W p l e room_1 s m #[Value.ref b] below meth c H locs cells slots Q (F0 m 448 ls []) := by
  obtain ⟨hp0, hp1, hp2, hp3⟩ := hp (xs (i + 1)) (xs (i + 2)) hr
  obtain ⟨hk1, hk2, hk3⟩ := hok hr
  refine lv_aload_n hx hb d_Lw_law_448 rfl (lv_at hl 1 rfl) ?_
  refine lv_aload_n hx hb d_Lw_law_449 rfl (lv_at hl 0 rfl) ?_
  refine lv_iload hx hb d_Lw_law_450 (lv_at hl 4 rfl) ?_
  refine lv_iconst (v := nI 1) hx hb d_Lw_law_452 (by decide) ?_
  refine ln_iadd hx hb d_Lw_law_453 ?_
  refine lwS hx hb hX hbl hL (by omega) (by omega) d_Lw_law_454 ?_
  refine lv_aload_n hx hb d_Lw_law_455 rfl (lv_at hl 0 rfl) ?_
  refine lv_iload hx hb d_Lw_law_456 (lv_at hl 4 rfl) ?_
  refine lv_iconst (v := nI 2) hx hb d_Lw_law_458 (by decide) ?_
  refine ln_iadd hx hb d_Lw_law_459 ?_
  refine lwS hx hb hX hbl hL (by omega) (by omega) d_Lw_law_460 ?_
  refine lv_aload_n hx hb d_Lw_law_461 rfl (lv_at hl 3 rfl) ?_
  refine lwC ⟨hx, hb, hml, hown, hts⟩ hF hL (k_Lw_read l hl9 (f := (xs (i + 1)).toNatClampNeg) (x_f := (xs (i + 1))) (i := (xs (i + 2)).toInt) (x_i := (xs (i + 2))) rfl rfl) w_444 m_Lw_read ⟨by decide, by decide⟩ rfl hl.1 rfl (Nat.le_of_ble_eq_true rfl) d_Lw_law_462 ⟨show cells + 2 ≤ 601024 by omega, show slots + 12 ≤ 7293033 by omega⟩ (fun H locs hL => ?_)
  refine lv_istore (lv' := [(5, .int (nI (rd_c B (xs (i + 1)).toNatClampNeg (xs (i + 2)).toInt))), (0, .ref b), (1, .ref (ad 0)), (2, .ref (am 0)), (3, .ref ao), (4, .int (nI i))]) hx hb d_Lw_law_465 hl (by decide) rfl (fun ls hl => ?_)
  refine lv_aload_n hx hb d_Lw_law_467 rfl (lv_at hl 3 rfl) ?_
  refine lv_aload_n hx hb d_Lw_law_468 rfl (lv_at hl 1 rfl) ?_
  refine lv_iload hx hb d_Lw_law_469 (lv_at hl 5 rfl) ?_
  refine lv_iconst (v := nI 1) hx hb d_Lw_law_471 (by decide) ?_
  refine ln_iadd hx hb d_Lw_law_472 ?_
  refine lwS hx hb hX hbl hL (by omega) (by omega) d_Lw_law_473 ?_
  refine lv_aload_n hx hb d_Lw_law_474 rfl (lv_at hl 1 rfl) ?_
  refine lv_iload hx hb d_Lw_law_475 (lv_at hl 5 rfl) ?_
  refine lv_iconst (v := nI 2) hx hb d_Lw_law_477 (by decide) ?_
  refine ln_iadd hx hb d_Lw_law_478 ?_
  refine lwS hx hb hX hbl hL (by omega) (by omega) d_Lw_law_479 ?_
  refine lwM (S' := mcod S (mrd_c S (xs (i + 1)).toNatClampNeg (xs (i + 2)).toInt)) ⟨hx, hb, hml, hown, hts⟩ hF hL (fun A9 => k_Mo_read l (D := D) (ct := ct) (ad := am) (A := A9) (cd := pj_cd S) (dk := pj_dk S) (tk := pj_tk S) (kd := pj_kd S) (lc := pj_lc S) (sz := pj_sz S) (bh := pj_bh S) (wt := pj_wt S) (bl := pj_bl S) (tg := pj_tg S) (fs := pj_fs S) (f := (xs (i + 1)).toNatClampNeg) (x_f := (xs (i + 1))) (z := (xs (i + 2)).toInt) (x_z := (xs (i + 2))) rfl rfl hk1 hk2) w_944 m_Mo_read ⟨by decide, by decide⟩ rfl hl.1 rfl (Nat.le_of_ble_eq_true rfl) d_Lw_law_480 ⟨show (cells + 2) ≤ 601024 by omega, show (slots + 12) ≤ 7293033 by omega⟩ (fun H locs hL => ?_)
  refine W.eq (g2 := F0 m 483 ls [.int (if mrd_c S (xs (i + 1)).toNatClampNeg (xs (i + 2)).toInt = 0 then mrd_r S (xs (i + 1)).toNatClampNeg (xs (i + 2)).toInt.toNat else nI 0)]) rfl ?_
  refine lv_istore (lv' := [(6, .int (if mrd_c S (xs (i + 1)).toNatClampNeg (xs (i + 2)).toInt = 0 then mrd_r S (xs (i + 1)).toNatClampNeg (xs (i + 2)).toInt.toNat else nI 0)), (5, .int (nI (rd_c B (xs (i + 1)).toNatClampNeg (xs (i + 2)).toInt))), (0, .ref b), (1, .ref (ad 0)), (2, .ref (am 0)), (3, .ref ao), (4, .int (nI i))]) hx hb d_Lw_law_483 hl (by decide) rfl (fun ls hl => ?_)
  refine lv_aload_n hx hb d_Lw_law_485 rfl (lv_at hl 4 rfl) ?_
  refine rdV ⟨hx, hb, hml, hown, hts⟩ (hF.hK.sub [0, 1, 3] rfl) hL.hM (k_Mo_thrown l (ct := ct) (ad := am) (cd := pj_cd (mcod S (mrd_c S (xs (i + 1)).toNatClampNeg (xs (i + 2)).toInt))) (dk := pj_dk (mcod S (mrd_c S (xs (i + 1)).toNatClampNeg (xs (i + 2)).toInt))) (tk := pj_tk (mcod S (mrd_c S (xs (i + 1)).toNatClampNeg (xs (i + 2)).toInt))) (kd := pj_kd (mcod S (mrd_c S (xs (i + 1)).toNatClampNeg (xs (i + 2)).toInt))) (lc := pj_lc (mcod S (mrd_c S (xs (i + 1)).toNatClampNeg (xs (i + 2)).toInt))) (sz := pj_sz (mcod S (mrd_c S (xs (i + 1)).toNatClampNeg (xs (i + 2)).toInt))) (bh := pj_bh (mcod S (mrd_c S (xs (i + 1)).toNatClampNeg (xs (i + 2)).toInt))) (wt := pj_wt (mcod S (mrd_c S (xs (i + 1)).toNatClampNeg (xs (i + 2)).toInt))) (bl := pj_bl (mcod S (mrd_c S (xs (i + 1)).toNatClampNeg (xs (i + 2)).toInt))) (tg := pj_tg (mcod S (mrd_c S (xs (i + 1)).toNatClampNeg (xs (i + 2)).toInt))) (fs := pj_fs (mcod S (mrd_c S (xs (i + 1)).toNatClampNeg (xs (i + 2)).toInt)))) w_874 m_Mo_thrown ⟨by decide, by decide⟩ 0 rfl rfl rfl hl.1 rfl (Nat.le_of_ble_eq_true rfl) d_Lw_law_486 ⟨show (cells + 2) ≤ 601024 by omega, show (slots + 12) ≤ 7293033 by omega⟩ ?_
  refine lv_iload hx hb d_Lw_law_489 (lv_at hl 1 rfl) ?_
  refine lv_icmp_eq (tgt := 496) hx hb d_Lw_law_491 (by decide) (fun c9 => ?_) (fun c9 => absurd hp1 c9)
  refine lv_iload hx hb d_Lw_law_496 (lv_at hl 1 rfl) ?_
  refine ln_if_ne (tgt := 513) hx hb (by omega) d_Lw_law_498 (by decide) (fun c8 => ?_) (fun c8 => ?_)
  · skip
    refine lv_goto (tgt := 981) hx hb d_Lw_law_513 (by decide) ?_
    refine W.widen (k := cells + 8) (n := slots + 5138) (by omega) (by omega) ?_
    exact hnext _ _ _ _ _ _ _ _ _ hp3 hL (lv_sub hl [2, 3, 4, 5, 6] rfl)
  · skip
    refine lv_aload_n hx hb d_Lw_law_501 rfl (lv_at hl 5 rfl) ?_
    refine lv_iconst (v := nI 0) hx hb d_Lw_law_502 (by decide) ?_
    refine ln_lald hx hb (hF.hK.sub [4] rfl) hL.hO 0 0 rfl rfl (by omega) (by decide) d_Lw_law_503 ?_
    refine lv_iload hx hb d_Lw_law_504 (lv_at hl 0 rfl) ?_
    refine lv_i2l hx hb d_Lw_law_506 rfl ?_
    refine W.lcmp hx hb d_Lw_law_507 ?_
    refine lc_if_eq (tgt := 513) hx hb (by unfold cif; rw [if_pos c8, pk_uLs, Int32.toInt_toInt64]) ((Int32.toInt_toInt64 _).trans rfl) d_Lw_law_508 (by decide) (fun c7 => ?_) (fun c7 => absurd (by rw [hp2 c8]) c7)
    refine lv_goto (tgt := 981) hx hb d_Lw_law_513 (by decide) ?_
    refine W.widen (k := cells + 8) (n := slots + 5138) (by omega) (by omega) ?_
    exact hnext _ _ _ _ _ _ _ _ _ hp3 hL (lv_sub hl [2, 3, 4, 5, 6] rfl)
set_option maxHeartbeats 4000000 in
set_option maxRecDepth 100000 in
theorem lw_cut {rl : RL} (hp : PU_cut rl) (hok : PU_ok rl) (l : Launch) (hl9 : l.stackTraces = false) (hx : p.tables.exec = Jvm.exec) (hb : c.code = c_Lw_law) (hml : c.maxLocals = 7) (hown : s.vm.findClass R_Lw = some m.cls) (hts : ∀ w ∈ wA, w.before #[Value.ref b] s = true) (hX : va_X b L xs s s.heap) (hbl : b < s.heap.size) (hL2 : L ≤ 3072) (hF : lF s Ac D ct am ao hd) (hL : lS s Ac D ct ad am ao hd B tk fr X S o H locs) (hr : rl B tk fr X S) (hi : i + 6 ≤ L) (hcl : cells ≤ 600000) (hsl : slots ≤ 7200000) (hl : lv_has ls 7 [(0, .ref b), (1, .ref (ad 0)), (2, .ref (am 0)), (3, .ref ao), (4, .int (nI i))])
    (hnext : ∀ (B tk : Nat → Int32) (fr : Int32) (X : Nat → Option (Nat → Int32)) (S : mst) (o : Nat → Int64) (H : Heap) (locs : List Loc) (ls : Array Slot), rl B tk fr X S → lS s Ac D ct ad am ao hd B tk fr X S o H locs → lv_has ls 7 [(0, .ref b), (1, .ref (ad 0)), (2, .ref (am 0)), (3, .ref ao), (4, .int (nI i))] → W p l e room_1 s m #[Value.ref b] below meth c H locs (cells + 8) (slots + 5138) Q (F0 m 981 ls [])) :
    W p l e room_1 s m #[Value.ref b] below meth c H locs cells slots Q (F0 m 516 ls []) := by
  obtain ⟨hp0, hp1, hp2, hp3⟩ := hp (xs (i + 1)) (xs (i + 2)) hr
  obtain ⟨hk1, hk2, hk3⟩ := hok hr
  refine lv_aload_n hx hb d_Lw_law_516 rfl (lv_at hl 1 rfl) ?_
  refine lv_aload_n hx hb d_Lw_law_517 rfl (lv_at hl 0 rfl) ?_
  refine lv_iload hx hb d_Lw_law_518 (lv_at hl 4 rfl) ?_
  refine lv_iconst (v := nI 1) hx hb d_Lw_law_520 (by decide) ?_
  refine ln_iadd hx hb d_Lw_law_521 ?_
  refine lwS hx hb hX hbl hL (by omega) (by omega) d_Lw_law_522 ?_
  refine lv_aload_n hx hb d_Lw_law_523 rfl (lv_at hl 0 rfl) ?_
  refine lv_iload hx hb d_Lw_law_524 (lv_at hl 4 rfl) ?_
  refine lv_iconst (v := nI 2) hx hb d_Lw_law_526 (by decide) ?_
  refine ln_iadd hx hb d_Lw_law_527 ?_
  refine lwS hx hb hX hbl hL (by omega) (by omega) d_Lw_law_528 ?_
  refine lv_aload_n hx hb d_Lw_law_529 rfl (lv_at hl 3 rfl) ?_
  refine lwC ⟨hx, hb, hml, hown, hts⟩ hF hL (k_Lw_cut l hl9 (f := (xs (i + 1)).toNatClampNeg) (x_f := (xs (i + 1))) (z := (xs (i + 2)).toInt) (x_z := (xs (i + 2))) rfl rfl) w_485 m_Lw_cut ⟨by decide, by decide⟩ rfl hl.1 rfl (Nat.le_of_ble_eq_true rfl) d_Lw_law_530 ⟨show cells + 2 ≤ 601024 by omega, show slots + 12 ≤ 7293033 by omega⟩ (fun H locs hL => ?_)
  refine lv_istore (lv' := [(5, .int (nI (cu_c B (xs (i + 1)).toNatClampNeg (xs (i + 2)).toInt))), (0, .ref b), (1, .ref (ad 0)), (2, .ref (am 0)), (3, .ref ao), (4, .int (nI i))]) hx hb d_Lw_law_533 hl (by decide) rfl (fun ls hl => ?_)
  refine lv_aload_n hx hb d_Lw_law_535 rfl (lv_at hl 3 rfl) ?_
  refine lv_aload_n hx hb d_Lw_law_536 rfl (lv_at hl 1 rfl) ?_
  refine lv_iload hx hb d_Lw_law_537 (lv_at hl 5 rfl) ?_
  refine lv_iconst (v := nI 1) hx hb d_Lw_law_539 (by decide) ?_
  refine ln_iadd hx hb d_Lw_law_540 ?_
  refine lwS hx hb hX hbl hL (by omega) (by omega) d_Lw_law_541 ?_
  refine lv_aload_n hx hb d_Lw_law_542 rfl (lv_at hl 1 rfl) ?_
  refine lv_iload hx hb d_Lw_law_543 (lv_at hl 5 rfl) ?_
  refine lv_iconst (v := nI 2) hx hb d_Lw_law_545 (by decide) ?_
  refine ln_iadd hx hb d_Lw_law_546 ?_
  refine lwS hx hb hX hbl hL (by omega) (by omega) d_Lw_law_547 ?_
  refine lwM (S' := mcu S (xs (i + 1)).toNatClampNeg (xs (i + 2)).toInt) ⟨hx, hb, hml, hown, hts⟩ hF hL (fun A9 => k_Mo_cut l (D := D) (ct := ct) (ad := am) (A := A9) (cd := pj_cd S) (dk := pj_dk S) (tk := pj_tk S) (kd := pj_kd S) (lc := pj_lc S) (sz := pj_sz S) (bh := pj_bh S) (wt := pj_wt S) (bl := pj_bl S) (tg := pj_tg S) (fs := pj_fs S) (f := (xs (i + 1)).toNatClampNeg) (x_f := (xs (i + 1))) (z := (xs (i + 2)).toInt) (x_z := (xs (i + 2))) rfl rfl hk1 hk2) w_948 m_Mo_cut ⟨by decide, by decide⟩ rfl hl.1 rfl (Nat.le_of_ble_eq_true rfl) d_Lw_law_548 ⟨show (cells + 2) ≤ 601024 by omega, show (slots + 12) ≤ 7293033 by omega⟩ (fun H locs hL => ?_)
  refine W.eq (g2 := F0 m 551 ls [.int (if mcu_c S (xs (i + 1)).toNatClampNeg (xs (i + 2)).toInt = 0 then (pj_sz S) (xs (i + 1)).toNatClampNeg else nI 0)]) rfl ?_
  refine lv_istore (lv' := [(6, .int (if mcu_c S (xs (i + 1)).toNatClampNeg (xs (i + 2)).toInt = 0 then (pj_sz S) (xs (i + 1)).toNatClampNeg else nI 0)), (5, .int (nI (cu_c B (xs (i + 1)).toNatClampNeg (xs (i + 2)).toInt))), (0, .ref b), (1, .ref (ad 0)), (2, .ref (am 0)), (3, .ref ao), (4, .int (nI i))]) hx hb d_Lw_law_551 hl (by decide) rfl (fun ls hl => ?_)
  refine lv_aload_n hx hb d_Lw_law_553 rfl (lv_at hl 4 rfl) ?_
  refine rdV ⟨hx, hb, hml, hown, hts⟩ (hF.hK.sub [0, 1, 3] rfl) hL.hM (k_Mo_thrown l (ct := ct) (ad := am) (cd := pj_cd (mcu S (xs (i + 1)).toNatClampNeg (xs (i + 2)).toInt)) (dk := pj_dk (mcu S (xs (i + 1)).toNatClampNeg (xs (i + 2)).toInt)) (tk := pj_tk (mcu S (xs (i + 1)).toNatClampNeg (xs (i + 2)).toInt)) (kd := pj_kd (mcu S (xs (i + 1)).toNatClampNeg (xs (i + 2)).toInt)) (lc := pj_lc (mcu S (xs (i + 1)).toNatClampNeg (xs (i + 2)).toInt)) (sz := pj_sz (mcu S (xs (i + 1)).toNatClampNeg (xs (i + 2)).toInt)) (bh := pj_bh (mcu S (xs (i + 1)).toNatClampNeg (xs (i + 2)).toInt)) (wt := pj_wt (mcu S (xs (i + 1)).toNatClampNeg (xs (i + 2)).toInt)) (bl := pj_bl (mcu S (xs (i + 1)).toNatClampNeg (xs (i + 2)).toInt)) (tg := pj_tg (mcu S (xs (i + 1)).toNatClampNeg (xs (i + 2)).toInt)) (fs := pj_fs (mcu S (xs (i + 1)).toNatClampNeg (xs (i + 2)).toInt))) w_874 m_Mo_thrown ⟨by decide, by decide⟩ 0 rfl rfl rfl hl.1 rfl (Nat.le_of_ble_eq_true rfl) d_Lw_law_554 ⟨show (cells + 2) ≤ 601024 by omega, show (slots + 12) ≤ 7293033 by omega⟩ ?_
  refine lv_iload hx hb d_Lw_law_557 (lv_at hl 1 rfl) ?_
  refine lv_icmp_eq (tgt := 564) hx hb d_Lw_law_559 (by decide) (fun c9 => ?_) (fun c9 => absurd hp1 c9)
  refine lv_iload hx hb d_Lw_law_564 (lv_at hl 1 rfl) ?_
  refine ln_if_ne (tgt := 581) hx hb (by omega) d_Lw_law_566 (by decide) (fun c8 => ?_) (fun c8 => ?_)
  · skip
    refine lv_goto (tgt := 981) hx hb d_Lw_law_581 (by decide) ?_
    refine W.widen (k := cells + 8) (n := slots + 5138) (by omega) (by omega) ?_
    exact hnext _ _ _ _ _ _ _ _ _ hp3 hL (lv_sub hl [2, 3, 4, 5, 6] rfl)
  · skip
    refine lv_aload_n hx hb d_Lw_law_569 rfl (lv_at hl 5 rfl) ?_
    refine lv_iconst (v := nI 0) hx hb d_Lw_law_570 (by decide) ?_
    refine ln_lald hx hb (hF.hK.sub [4] rfl) hL.hO 0 0 rfl rfl (by omega) (by decide) d_Lw_law_571 ?_
    refine lv_iload hx hb d_Lw_law_572 (lv_at hl 0 rfl) ?_
    refine lv_i2l hx hb d_Lw_law_574 rfl ?_
    refine W.lcmp hx hb d_Lw_law_575 ?_
    refine lc_if_eq (tgt := 581) hx hb (by unfold cif; rw [if_pos c8, pk_uLs, Int32.toInt_toInt64]) ((Int32.toInt_toInt64 _).trans rfl) d_Lw_law_576 (by decide) (fun c7 => ?_) (fun c7 => absurd (by rw [hp2 c8]) c7)
    refine lv_goto (tgt := 981) hx hb d_Lw_law_581 (by decide) ?_
    refine W.widen (k := cells + 8) (n := slots + 5138) (by omega) (by omega) ?_
    exact hnext _ _ _ _ _ _ _ _ _ hp3 hL (lv_sub hl [2, 3, 4, 5, 6] rfl)
set_option maxHeartbeats 4000000 in
set_option maxRecDepth 100000 in
theorem lw_links {rl : RL} (hp : PU_links rl) (hok : PU_ok rl) (l : Launch) (hl9 : l.stackTraces = false) (hx : p.tables.exec = Jvm.exec) (hb : c.code = c_Lw_law) (hml : c.maxLocals = 7) (hown : s.vm.findClass R_Lw = some m.cls) (hts : ∀ w ∈ wA, w.before #[Value.ref b] s = true) (hX : va_X b L xs s s.heap) (hbl : b < s.heap.size) (hL2 : L ≤ 3072) (hF : lF s Ac D ct am ao hd) (hL : lS s Ac D ct ad am ao hd B tk fr X S o H locs) (hr : rl B tk fr X S) (hi : i + 6 ≤ L) (hcl : cells ≤ 600000) (hsl : slots ≤ 7200000) (hl : lv_has ls 7 [(0, .ref b), (1, .ref (ad 0)), (2, .ref (am 0)), (3, .ref ao), (4, .int (nI i))])
    (hnext : ∀ (B tk : Nat → Int32) (fr : Int32) (X : Nat → Option (Nat → Int32)) (S : mst) (o : Nat → Int64) (H : Heap) (locs : List Loc) (ls : Array Slot), rl B tk fr X S → lS s Ac D ct ad am ao hd B tk fr X S o H locs → lv_has ls 7 [(0, .ref b), (1, .ref (ad 0)), (2, .ref (am 0)), (3, .ref ao), (4, .int (nI i))] → W p l e room_1 s m #[Value.ref b] below meth c H locs (cells + 8) (slots + 5138) Q (F0 m 981 ls [])) :
    W p l e room_1 s m #[Value.ref b] below meth c H locs cells slots Q (F0 m 584 ls []) := by
  obtain ⟨hp0, hp1, hp2, hp3⟩ := hp (xs (i + 1)) (xs (i + 2)) hr
  obtain ⟨hk1, hk2, hk3⟩ := hok hr
  refine lv_aload_n hx hb d_Lw_law_584 rfl (lv_at hl 1 rfl) ?_
  refine lv_aload_n hx hb d_Lw_law_585 rfl (lv_at hl 0 rfl) ?_
  refine lv_iload hx hb d_Lw_law_586 (lv_at hl 4 rfl) ?_
  refine lv_iconst (v := nI 1) hx hb d_Lw_law_588 (by decide) ?_
  refine ln_iadd hx hb d_Lw_law_589 ?_
  refine lwS hx hb hX hbl hL (by omega) (by omega) d_Lw_law_590 ?_
  refine lv_aload_n hx hb d_Lw_law_591 rfl (lv_at hl 0 rfl) ?_
  refine lv_iload hx hb d_Lw_law_592 (lv_at hl 4 rfl) ?_
  refine lv_iconst (v := nI 2) hx hb d_Lw_law_594 (by decide) ?_
  refine ln_iadd hx hb d_Lw_law_595 ?_
  refine lwS hx hb hX hbl hL (by omega) (by omega) d_Lw_law_596 ?_
  refine lv_aload_n hx hb d_Lw_law_597 rfl (lv_at hl 3 rfl) ?_
  refine lwC ⟨hx, hb, hml, hown, hts⟩ hF hL (k_Lw_links l hl9 (f := (xs (i + 1)).toNatClampNeg) (x_f := (xs (i + 1))) (x := (xs (i + 2))) rfl) w_765 m_Lw_links ⟨by decide, by decide⟩ rfl hl.1 rfl (Nat.le_of_ble_eq_true rfl) d_Lw_law_598 ⟨show cells + 2 ≤ 601024 by omega, show slots + 12 ≤ 7293033 by omega⟩ (fun H locs hL => ?_)
  refine lv_istore (lv' := [(5, .int (nI (li_c B (xs (i + 1)).toNatClampNeg (xs (i + 2))))), (0, .ref b), (1, .ref (ad 0)), (2, .ref (am 0)), (3, .ref ao), (4, .int (nI i))]) hx hb d_Lw_law_601 hl (by decide) rfl (fun ls hl => ?_)
  refine lv_aload_n hx hb d_Lw_law_603 rfl (lv_at hl 3 rfl) ?_
  refine lv_aload_n hx hb d_Lw_law_604 rfl (lv_at hl 1 rfl) ?_
  refine lv_iload hx hb d_Lw_law_605 (lv_at hl 5 rfl) ?_
  refine lv_iconst (v := nI 1) hx hb d_Lw_law_607 (by decide) ?_
  refine ln_iadd hx hb d_Lw_law_608 ?_
  refine lwS hx hb hX hbl hL (by omega) (by omega) d_Lw_law_609 ?_
  refine lv_aload_n hx hb d_Lw_law_610 rfl (lv_at hl 1 rfl) ?_
  refine lv_iload hx hb d_Lw_law_611 (lv_at hl 5 rfl) ?_
  refine lv_iconst (v := nI 2) hx hb d_Lw_law_613 (by decide) ?_
  refine ln_iadd hx hb d_Lw_law_614 ?_
  refine lwS hx hb hX hbl hL (by omega) (by omega) d_Lw_law_615 ?_
  refine lwM (S' := mli S (xs (i + 1)).toNatClampNeg (xs (i + 2))) ⟨hx, hb, hml, hown, hts⟩ hF hL (fun A9 => k_Mo_links l (D := D) (ct := ct) (ad := am) (A := A9) (cd := pj_cd S) (dk := pj_dk S) (tk := pj_tk S) (kd := pj_kd S) (lc := pj_lc S) (sz := pj_sz S) (bh := pj_bh S) (wt := pj_wt S) (bl := pj_bl S) (tg := pj_tg S) (fs := pj_fs S) (f := (xs (i + 1)).toNatClampNeg) (x_f := (xs (i + 1))) (x := (xs (i + 2))) rfl ) w_956 m_Mo_links ⟨by decide, by decide⟩ rfl hl.1 rfl (Nat.le_of_ble_eq_true rfl) d_Lw_law_616 ⟨show (cells + 2) ≤ 601024 by omega, show (slots + 12) ≤ 7293033 by omega⟩ (fun H locs hL => ?_)
  refine W.eq (g2 := F0 m 619 ls [.int (if mli_c S (xs (i + 1)).toNatClampNeg (xs (i + 2)) = 0 then upd (pj_lc S) (xs (i + 1)).toNatClampNeg ((pj_lc S) (xs (i + 1)).toNatClampNeg + (xs (i + 2))) (xs (i + 1)).toNatClampNeg else nI 0)]) rfl ?_
  refine lv_istore (lv' := [(6, .int (if mli_c S (xs (i + 1)).toNatClampNeg (xs (i + 2)) = 0 then upd (pj_lc S) (xs (i + 1)).toNatClampNeg ((pj_lc S) (xs (i + 1)).toNatClampNeg + (xs (i + 2))) (xs (i + 1)).toNatClampNeg else nI 0)), (5, .int (nI (li_c B (xs (i + 1)).toNatClampNeg (xs (i + 2))))), (0, .ref b), (1, .ref (ad 0)), (2, .ref (am 0)), (3, .ref ao), (4, .int (nI i))]) hx hb d_Lw_law_619 hl (by decide) rfl (fun ls hl => ?_)
  refine lv_aload_n hx hb d_Lw_law_621 rfl (lv_at hl 4 rfl) ?_
  refine rdV ⟨hx, hb, hml, hown, hts⟩ (hF.hK.sub [0, 1, 3] rfl) hL.hM (k_Mo_thrown l (ct := ct) (ad := am) (cd := pj_cd (mli S (xs (i + 1)).toNatClampNeg (xs (i + 2)))) (dk := pj_dk (mli S (xs (i + 1)).toNatClampNeg (xs (i + 2)))) (tk := pj_tk (mli S (xs (i + 1)).toNatClampNeg (xs (i + 2)))) (kd := pj_kd (mli S (xs (i + 1)).toNatClampNeg (xs (i + 2)))) (lc := pj_lc (mli S (xs (i + 1)).toNatClampNeg (xs (i + 2)))) (sz := pj_sz (mli S (xs (i + 1)).toNatClampNeg (xs (i + 2)))) (bh := pj_bh (mli S (xs (i + 1)).toNatClampNeg (xs (i + 2)))) (wt := pj_wt (mli S (xs (i + 1)).toNatClampNeg (xs (i + 2)))) (bl := pj_bl (mli S (xs (i + 1)).toNatClampNeg (xs (i + 2)))) (tg := pj_tg (mli S (xs (i + 1)).toNatClampNeg (xs (i + 2)))) (fs := pj_fs (mli S (xs (i + 1)).toNatClampNeg (xs (i + 2))))) w_874 m_Mo_thrown ⟨by decide, by decide⟩ 0 rfl rfl rfl hl.1 rfl (Nat.le_of_ble_eq_true rfl) d_Lw_law_622 ⟨show (cells + 2) ≤ 601024 by omega, show (slots + 12) ≤ 7293033 by omega⟩ ?_
  refine lv_iload hx hb d_Lw_law_625 (lv_at hl 1 rfl) ?_
  refine lv_icmp_eq (tgt := 632) hx hb d_Lw_law_627 (by decide) (fun c9 => ?_) (fun c9 => absurd hp1 c9)
  refine lv_iload hx hb d_Lw_law_632 (lv_at hl 1 rfl) ?_
  refine ln_if_ne (tgt := 649) hx hb (by omega) d_Lw_law_634 (by decide) (fun c8 => ?_) (fun c8 => ?_)
  · skip
    refine lv_goto (tgt := 981) hx hb d_Lw_law_649 (by decide) ?_
    refine W.widen (k := cells + 8) (n := slots + 5138) (by omega) (by omega) ?_
    exact hnext _ _ _ _ _ _ _ _ _ hp3 hL (lv_sub hl [2, 3, 4, 5, 6] rfl)
  · skip
    refine lv_aload_n hx hb d_Lw_law_637 rfl (lv_at hl 5 rfl) ?_
    refine lv_iconst (v := nI 0) hx hb d_Lw_law_638 (by decide) ?_
    refine ln_lald hx hb (hF.hK.sub [4] rfl) hL.hO 0 0 rfl rfl (by omega) (by decide) d_Lw_law_639 ?_
    refine lv_iload hx hb d_Lw_law_640 (lv_at hl 0 rfl) ?_
    refine lv_i2l hx hb d_Lw_law_642 rfl ?_
    refine W.lcmp hx hb d_Lw_law_643 ?_
    refine lc_if_eq (tgt := 649) hx hb (by unfold cif; rw [if_pos c8, pk_uLs, Int32.toInt_toInt64]) ((Int32.toInt_toInt64 _).trans rfl) d_Lw_law_644 (by decide) (fun c7 => ?_) (fun c7 => absurd (by rw [hp2 c8]) c7)
    refine lv_goto (tgt := 981) hx hb d_Lw_law_649 (by decide) ?_
    refine W.widen (k := cells + 8) (n := slots + 5138) (by omega) (by omega) ?_
    exact hnext _ _ _ _ _ _ _ _ _ hp3 hL (lv_sub hl [2, 3, 4, 5, 6] rfl)
set_option maxHeartbeats 4000000 in
set_option maxRecDepth 100000 in
theorem lw_drop {rl : RL} (hp : PU_drop rl) (hok : PU_ok rl) (l : Launch) (hl9 : l.stackTraces = false) (hx : p.tables.exec = Jvm.exec) (hb : c.code = c_Lw_law) (hml : c.maxLocals = 7) (hown : s.vm.findClass R_Lw = some m.cls) (hts : ∀ w ∈ wA, w.before #[Value.ref b] s = true) (hX : va_X b L xs s s.heap) (hbl : b < s.heap.size) (hL2 : L ≤ 3072) (hF : lF s Ac D ct am ao hd) (hL : lS s Ac D ct ad am ao hd B tk fr X S o H locs) (hr : rl B tk fr X S) (hi : i + 6 ≤ L) (hcl : cells ≤ 600000) (hsl : slots ≤ 7200000) (hl : lv_has ls 7 [(0, .ref b), (1, .ref (ad 0)), (2, .ref (am 0)), (3, .ref ao), (4, .int (nI i))])
    (hnext : ∀ (B tk : Nat → Int32) (fr : Int32) (X : Nat → Option (Nat → Int32)) (S : mst) (o : Nat → Int64) (H : Heap) (locs : List Loc) (ls : Array Slot), rl B tk fr X S → lS s Ac D ct ad am ao hd B tk fr X S o H locs → lv_has ls 7 [(0, .ref b), (1, .ref (ad 0)), (2, .ref (am 0)), (3, .ref ao), (4, .int (nI i))] → W p l e room_1 s m #[Value.ref b] below meth c H locs (cells + 8) (slots + 5138) Q (F0 m 981 ls [])) :
    W p l e room_1 s m #[Value.ref b] below meth c H locs cells slots Q (F0 m 652 ls []) := by
  obtain ⟨hp0, hp1, hp2, hp3⟩ := hp (xs (i + 1)) hr
  obtain ⟨hk1, hk2, hk3⟩ := hok hr
  refine lv_aload_n hx hb d_Lw_law_652 rfl (lv_at hl 1 rfl) ?_
  refine lv_aload_n hx hb d_Lw_law_653 rfl (lv_at hl 0 rfl) ?_
  refine lv_iload hx hb d_Lw_law_654 (lv_at hl 4 rfl) ?_
  refine lv_iconst (v := nI 1) hx hb d_Lw_law_656 (by decide) ?_
  refine ln_iadd hx hb d_Lw_law_657 ?_
  refine lwS hx hb hX hbl hL (by omega) (by omega) d_Lw_law_658 ?_
  refine lv_aload_n hx hb d_Lw_law_659 rfl (lv_at hl 3 rfl) ?_
  refine lwC ⟨hx, hb, hml, hown, hts⟩ hF hL (k_Lw_drop l hl9 (f := (xs (i + 1)).toNatClampNeg) (x_f := (xs (i + 1))) rfl) w_778 m_Lw_drop ⟨by decide, by decide⟩ rfl hl.1 rfl (Nat.le_of_ble_eq_true rfl) d_Lw_law_660 ⟨show cells + 2 ≤ 601024 by omega, show slots + 12 ≤ 7293033 by omega⟩ (fun H locs hL => ?_)
  refine lv_istore (lv' := [(5, .int (nI (dr_c B (xs (i + 1)).toNatClampNeg))), (0, .ref b), (1, .ref (ad 0)), (2, .ref (am 0)), (3, .ref ao), (4, .int (nI i))]) hx hb d_Lw_law_663 hl (by decide) rfl (fun ls hl => ?_)
  refine lv_aload_n hx hb d_Lw_law_665 rfl (lv_at hl 3 rfl) ?_
  refine lv_aload_n hx hb d_Lw_law_666 rfl (lv_at hl 1 rfl) ?_
  refine lv_iload hx hb d_Lw_law_667 (lv_at hl 5 rfl) ?_
  refine lv_iconst (v := nI 1) hx hb d_Lw_law_669 (by decide) ?_
  refine ln_iadd hx hb d_Lw_law_670 ?_
  refine lwS hx hb hX hbl hL (by omega) (by omega) d_Lw_law_671 ?_
  refine lwM (S' := mdr S (xs (i + 1)).toNatClampNeg) ⟨hx, hb, hml, hown, hts⟩ hF hL (fun A9 => k_Mo_drop l (D := D) (ct := ct) (ad := am) (A := A9) (cd := pj_cd S) (dk := pj_dk S) (tk := pj_tk S) (kd := pj_kd S) (lc := pj_lc S) (sz := pj_sz S) (bh := pj_bh S) (wt := pj_wt S) (bl := pj_bl S) (tg := pj_tg S) (fs := pj_fs S) (f := (xs (i + 1)).toNatClampNeg) (x_f := (xs (i + 1))) rfl hk1) w_960 m_Mo_drop ⟨by decide, by decide⟩ rfl hl.1 rfl (Nat.le_of_ble_eq_true rfl) d_Lw_law_672 ⟨show (cells + 2) ≤ 601024 by omega, show (slots + 12) ≤ 7293033 by omega⟩ (fun H locs hL => ?_)
  refine W.eq (g2 := F0 m 675 ls [.int (if mdr_c S (xs (i + 1)).toNatClampNeg = 0 then nI (mbo (pj_bl S) (xs (i + 1)).toNatClampNeg 15 0 0) else nI 0)]) rfl ?_
  refine lv_istore (lv' := [(6, .int (if mdr_c S (xs (i + 1)).toNatClampNeg = 0 then nI (mbo (pj_bl S) (xs (i + 1)).toNatClampNeg 15 0 0) else nI 0)), (5, .int (nI (dr_c B (xs (i + 1)).toNatClampNeg))), (0, .ref b), (1, .ref (ad 0)), (2, .ref (am 0)), (3, .ref ao), (4, .int (nI i))]) hx hb d_Lw_law_675 hl (by decide) rfl (fun ls hl => ?_)
  refine lv_aload_n hx hb d_Lw_law_677 rfl (lv_at hl 4 rfl) ?_
  refine rdV ⟨hx, hb, hml, hown, hts⟩ (hF.hK.sub [0, 1, 3] rfl) hL.hM (k_Mo_thrown l (ct := ct) (ad := am) (cd := pj_cd (mdr S (xs (i + 1)).toNatClampNeg)) (dk := pj_dk (mdr S (xs (i + 1)).toNatClampNeg)) (tk := pj_tk (mdr S (xs (i + 1)).toNatClampNeg)) (kd := pj_kd (mdr S (xs (i + 1)).toNatClampNeg)) (lc := pj_lc (mdr S (xs (i + 1)).toNatClampNeg)) (sz := pj_sz (mdr S (xs (i + 1)).toNatClampNeg)) (bh := pj_bh (mdr S (xs (i + 1)).toNatClampNeg)) (wt := pj_wt (mdr S (xs (i + 1)).toNatClampNeg)) (bl := pj_bl (mdr S (xs (i + 1)).toNatClampNeg)) (tg := pj_tg (mdr S (xs (i + 1)).toNatClampNeg)) (fs := pj_fs (mdr S (xs (i + 1)).toNatClampNeg))) w_874 m_Mo_thrown ⟨by decide, by decide⟩ 0 rfl rfl rfl hl.1 rfl (Nat.le_of_ble_eq_true rfl) d_Lw_law_678 ⟨show (cells + 2) ≤ 601024 by omega, show (slots + 12) ≤ 7293033 by omega⟩ ?_
  refine lv_iload hx hb d_Lw_law_681 (lv_at hl 1 rfl) ?_
  refine lv_icmp_eq (tgt := 688) hx hb d_Lw_law_683 (by decide) (fun c9 => ?_) (fun c9 => absurd hp1 c9)
  refine lv_iload hx hb d_Lw_law_688 (lv_at hl 1 rfl) ?_
  refine ln_if_ne (tgt := 705) hx hb (by omega) d_Lw_law_690 (by decide) (fun c8 => ?_) (fun c8 => ?_)
  · skip
    refine lv_goto (tgt := 981) hx hb d_Lw_law_705 (by decide) ?_
    refine W.widen (k := cells + 8) (n := slots + 5138) (by omega) (by omega) ?_
    exact hnext _ _ _ _ _ _ _ _ _ hp3 hL (lv_sub hl [2, 3, 4, 5, 6] rfl)
  · skip
    refine lv_aload_n hx hb d_Lw_law_693 rfl (lv_at hl 5 rfl) ?_
    refine lv_iconst (v := nI 0) hx hb d_Lw_law_694 (by decide) ?_
    refine ln_lald hx hb (hF.hK.sub [4] rfl) hL.hO 0 0 rfl rfl (by omega) (by decide) d_Lw_law_695 ?_
    refine lv_iload hx hb d_Lw_law_696 (lv_at hl 0 rfl) ?_
    refine lv_i2l hx hb d_Lw_law_698 rfl ?_
    refine W.lcmp hx hb d_Lw_law_699 ?_
    refine lc_if_eq (tgt := 705) hx hb (by unfold cif; rw [if_pos c8, pk_uLs, Int32.toInt_toInt64]) ((Int32.toInt_toInt64 _).trans rfl) d_Lw_law_700 (by decide) (fun c7 => ?_) (fun c7 => absurd (by rw [hp2 c8]) c7)
    refine lv_goto (tgt := 981) hx hb d_Lw_law_705 (by decide) ?_
    refine W.widen (k := cells + 8) (n := slots + 5138) (by omega) (by omega) ?_
    exact hnext _ _ _ _ _ _ _ _ _ hp3 hL (lv_sub hl [2, 3, 4, 5, 6] rfl)
set_option maxHeartbeats 4000000 in
set_option maxRecDepth 100000 in
theorem lw_about {rl : RL} (hp : PU_about rl) (hok : PU_ok rl) (l : Launch) (hl9 : l.stackTraces = false) (hx : p.tables.exec = Jvm.exec) (hb : c.code = c_Lw_law) (hml : c.maxLocals = 7) (hown : s.vm.findClass R_Lw = some m.cls) (hts : ∀ w ∈ wA, w.before #[Value.ref b] s = true) (hX : va_X b L xs s s.heap) (hbl : b < s.heap.size) (hL2 : L ≤ 3072) (hF : lF s Ac D ct am ao hd) (hL : lS s Ac D ct ad am ao hd B tk fr X S o H locs) (hr : rl B tk fr X S) (hi : i + 6 ≤ L) (hcl : cells ≤ 600000) (hsl : slots ≤ 7200000) (hl : lv_has ls 7 [(0, .ref b), (1, .ref (ad 0)), (2, .ref (am 0)), (3, .ref ao), (4, .int (nI i))])
    (hnext : ∀ (B tk : Nat → Int32) (fr : Int32) (X : Nat → Option (Nat → Int32)) (S : mst) (o : Nat → Int64) (H : Heap) (locs : List Loc) (ls : Array Slot), rl B tk fr X S → lS s Ac D ct ad am ao hd B tk fr X S o H locs → lv_has ls 7 [(0, .ref b), (1, .ref (ad 0)), (2, .ref (am 0)), (3, .ref ao), (4, .int (nI i))] → W p l e room_1 s m #[Value.ref b] below meth c H locs (cells + 8) (slots + 5138) Q (F0 m 981 ls [])) :
    W p l e room_1 s m #[Value.ref b] below meth c H locs cells slots Q (F0 m 721 ls []) := by
  obtain ⟨hp0, hp1, hp2, hp3⟩ := hp (xs (i + 1)) (xs (i + 2)) hr
  obtain ⟨hk1, hk2, hk3⟩ := hok hr
  refine lv_aload_n hx hb d_Lw_law_721 rfl (lv_at hl 1 rfl) ?_
  refine lv_aload_n hx hb d_Lw_law_722 rfl (lv_at hl 0 rfl) ?_
  refine lv_iload hx hb d_Lw_law_723 (lv_at hl 4 rfl) ?_
  refine lv_iconst (v := nI 1) hx hb d_Lw_law_725 (by decide) ?_
  refine ln_iadd hx hb d_Lw_law_726 ?_
  refine lwS hx hb hX hbl hL (by omega) (by omega) d_Lw_law_727 ?_
  refine lv_aload_n hx hb d_Lw_law_728 rfl (lv_at hl 0 rfl) ?_
  refine lv_iload hx hb d_Lw_law_729 (lv_at hl 4 rfl) ?_
  refine lv_iconst (v := nI 2) hx hb d_Lw_law_731 (by decide) ?_
  refine ln_iadd hx hb d_Lw_law_732 ?_
  refine lwS hx hb hX hbl hL (by omega) (by omega) d_Lw_law_733 ?_
  refine lv_aload_n hx hb d_Lw_law_734 rfl (lv_at hl 3 rfl) ?_
  refine lwC ⟨hx, hb, hml, hown, hts⟩ hF hL (k_Lw_about l hl9 (f := (xs (i + 1)).toNatClampNeg) (x_f := (xs (i + 1))) (z := (xs (i + 2)).toInt) (x_z := (xs (i + 2))) rfl rfl) w_786 m_Lw_about ⟨by decide, by decide⟩ rfl hl.1 rfl (Nat.le_of_ble_eq_true rfl) d_Lw_law_735 ⟨show cells + 1 ≤ 601024 by omega, show slots + 6 ≤ 7293033 by omega⟩ (fun H locs hL => ?_)
  refine lv_istore (lv' := [(5, .int (nI (ab_c (xs (i + 1)).toNatClampNeg (xs (i + 2)).toInt))), (0, .ref b), (1, .ref (ad 0)), (2, .ref (am 0)), (3, .ref ao), (4, .int (nI i))]) hx hb d_Lw_law_738 hl (by decide) rfl (fun ls hl => ?_)
  refine lv_aload_n hx hb d_Lw_law_740 rfl (lv_at hl 3 rfl) ?_
  refine lv_aload_n hx hb d_Lw_law_741 rfl (lv_at hl 1 rfl) ?_
  refine lv_iload hx hb d_Lw_law_742 (lv_at hl 5 rfl) ?_
  refine lv_iconst (v := nI 1) hx hb d_Lw_law_744 (by decide) ?_
  refine ln_iadd hx hb d_Lw_law_745 ?_
  refine lwS hx hb hX hbl hL (by omega) (by omega) d_Lw_law_746 ?_
  refine lv_aload_n hx hb d_Lw_law_747 rfl (lv_at hl 1 rfl) ?_
  refine lv_iload hx hb d_Lw_law_748 (lv_at hl 5 rfl) ?_
  refine lv_iconst (v := nI 2) hx hb d_Lw_law_750 (by decide) ?_
  refine ln_iadd hx hb d_Lw_law_751 ?_
  refine lwS hx hb hX hbl hL (by omega) (by omega) d_Lw_law_752 ?_
  refine lwM (S' := mcod S (mab_c (xs (i + 1)).toInt (xs (i + 2)).toInt)) ⟨hx, hb, hml, hown, hts⟩ hF hL (fun A9 => k_Mo_about l (D := D) (ct := ct) (ad := am) (A := A9) (cd := pj_cd S) (dk := pj_dk S) (tk := pj_tk S) (kd := pj_kd S) (lc := pj_lc S) (sz := pj_sz S) (bh := pj_bh S) (wt := pj_wt S) (bl := pj_bl S) (tg := pj_tg S) (fs := pj_fs S) (f := (xs (i + 1)).toInt) (x_f := (xs (i + 1))) (z := (xs (i + 2)).toInt) (x_z := (xs (i + 2))) rfl rfl hk1) w_976 m_Mo_about ⟨by decide, by decide⟩ rfl hl.1 rfl (Nat.le_of_ble_eq_true rfl) d_Lw_law_753 ⟨show (cells + 1) ≤ 601024 by omega, show (slots + 6) ≤ 7293033 by omega⟩ (fun H locs hL => ?_)
  refine W.eq (g2 := F0 m 756 ls [.int (if mab_c (xs (i + 1)).toInt (xs (i + 2)).toInt = 0 then mab_r S (xs (i + 1)).toInt.toNat (xs (i + 2)).toInt else nI 0)]) rfl ?_
  refine lv_istore (lv' := [(6, .int (if mab_c (xs (i + 1)).toInt (xs (i + 2)).toInt = 0 then mab_r S (xs (i + 1)).toInt.toNat (xs (i + 2)).toInt else nI 0)), (5, .int (nI (ab_c (xs (i + 1)).toNatClampNeg (xs (i + 2)).toInt))), (0, .ref b), (1, .ref (ad 0)), (2, .ref (am 0)), (3, .ref ao), (4, .int (nI i))]) hx hb d_Lw_law_756 hl (by decide) rfl (fun ls hl => ?_)
  refine lv_aload_n hx hb d_Lw_law_758 rfl (lv_at hl 4 rfl) ?_
  refine rdV ⟨hx, hb, hml, hown, hts⟩ (hF.hK.sub [0, 1, 3] rfl) hL.hM (k_Mo_thrown l (ct := ct) (ad := am) (cd := pj_cd (mcod S (mab_c (xs (i + 1)).toInt (xs (i + 2)).toInt))) (dk := pj_dk (mcod S (mab_c (xs (i + 1)).toInt (xs (i + 2)).toInt))) (tk := pj_tk (mcod S (mab_c (xs (i + 1)).toInt (xs (i + 2)).toInt))) (kd := pj_kd (mcod S (mab_c (xs (i + 1)).toInt (xs (i + 2)).toInt))) (lc := pj_lc (mcod S (mab_c (xs (i + 1)).toInt (xs (i + 2)).toInt))) (sz := pj_sz (mcod S (mab_c (xs (i + 1)).toInt (xs (i + 2)).toInt))) (bh := pj_bh (mcod S (mab_c (xs (i + 1)).toInt (xs (i + 2)).toInt))) (wt := pj_wt (mcod S (mab_c (xs (i + 1)).toInt (xs (i + 2)).toInt))) (bl := pj_bl (mcod S (mab_c (xs (i + 1)).toInt (xs (i + 2)).toInt))) (tg := pj_tg (mcod S (mab_c (xs (i + 1)).toInt (xs (i + 2)).toInt))) (fs := pj_fs (mcod S (mab_c (xs (i + 1)).toInt (xs (i + 2)).toInt)))) w_874 m_Mo_thrown ⟨by decide, by decide⟩ 0 rfl rfl rfl hl.1 rfl (Nat.le_of_ble_eq_true rfl) d_Lw_law_759 ⟨show (cells + 1) ≤ 601024 by omega, show (slots + 6) ≤ 7293033 by omega⟩ ?_
  refine lv_iload hx hb d_Lw_law_762 (lv_at hl 1 rfl) ?_
  refine lv_icmp_eq (tgt := 769) hx hb d_Lw_law_764 (by decide) (fun c9 => ?_) (fun c9 => absurd hp1 c9)
  refine lv_iload hx hb d_Lw_law_769 (lv_at hl 1 rfl) ?_
  refine ln_if_ne (tgt := 786) hx hb (by omega) d_Lw_law_771 (by decide) (fun c8 => ?_) (fun c8 => ?_)
  · skip
    refine lv_goto (tgt := 981) hx hb d_Lw_law_786 (by decide) ?_
    refine W.widen (k := cells + 8) (n := slots + 5138) (by omega) (by omega) ?_
    exact hnext _ _ _ _ _ _ _ _ _ hp3 hL (lv_sub hl [2, 3, 4, 5, 6] rfl)
  · skip
    refine lv_aload_n hx hb d_Lw_law_774 rfl (lv_at hl 5 rfl) ?_
    refine lv_iconst (v := nI 0) hx hb d_Lw_law_775 (by decide) ?_
    refine ln_lald hx hb (hF.hK.sub [4] rfl) hL.hO 0 0 rfl rfl (by omega) (by decide) d_Lw_law_776 ?_
    refine lv_iload hx hb d_Lw_law_777 (lv_at hl 0 rfl) ?_
    refine lv_i2l hx hb d_Lw_law_779 rfl ?_
    refine W.lcmp hx hb d_Lw_law_780 ?_
    refine lc_if_eq (tgt := 786) hx hb (by unfold cif; rw [if_pos c8, pk_uLs, Int32.toInt_toInt64]) ((Int32.toInt_toInt64 _).trans rfl) d_Lw_law_781 (by decide) (fun c7 => ?_) (fun c7 => absurd (by rw [hp2 c8]) c7)
    refine lv_goto (tgt := 981) hx hb d_Lw_law_786 (by decide) ?_
    refine W.widen (k := cells + 8) (n := slots + 5138) (by omega) (by omega) ?_
    exact hnext _ _ _ _ _ _ _ _ _ hp3 hL (lv_sub hl [2, 3, 4, 5, 6] rfl)
set_option maxHeartbeats 4000000 in
set_option maxRecDepth 100000 in
theorem lw_block {rl : RL} (hp : PU_block rl) (hok : PU_ok rl) (l : Launch) (hl9 : l.stackTraces = false) (hx : p.tables.exec = Jvm.exec) (hb : c.code = c_Lw_law) (hml : c.maxLocals = 7) (hown : s.vm.findClass R_Lw = some m.cls) (hts : ∀ w ∈ wA, w.before #[Value.ref b] s = true) (hX : va_X b L xs s s.heap) (hbl : b < s.heap.size) (hL2 : L ≤ 3072) (hF : lF s Ac D ct am ao hd) (hL : lS s Ac D ct ad am ao hd B tk fr X S o H locs) (hr : rl B tk fr X S) (hi : i + 6 ≤ L) (hcl : cells ≤ 600000) (hsl : slots ≤ 7200000) (hl : lv_has ls 7 [(0, .ref b), (1, .ref (ad 0)), (2, .ref (am 0)), (3, .ref ao), (4, .int (nI i))])
    (hnext : ∀ (B tk : Nat → Int32) (fr : Int32) (X : Nat → Option (Nat → Int32)) (S : mst) (o : Nat → Int64) (H : Heap) (locs : List Loc) (ls : Array Slot), rl B tk fr X S → lS s Ac D ct ad am ao hd B tk fr X S o H locs → lv_has ls 7 [(0, .ref b), (1, .ref (ad 0)), (2, .ref (am 0)), (3, .ref ao), (4, .int (nI i))] → W p l e room_1 s m #[Value.ref b] below meth c H locs (cells + 8) (slots + 5138) Q (F0 m 981 ls [])) :
    W p l e room_1 s m #[Value.ref b] below meth c H locs cells slots Q (F0 m 789 ls []) := by
  obtain ⟨hp0, hp1, hp2, hp3⟩ := hp (xs (i + 1)) (xs (i + 2)) hr
  obtain ⟨hk1, hk2, hk3⟩ := hok hr
  refine lv_aload_n hx hb d_Lw_law_789 rfl (lv_at hl 1 rfl) ?_
  refine lv_aload_n hx hb d_Lw_law_790 rfl (lv_at hl 0 rfl) ?_
  refine lv_iload hx hb d_Lw_law_791 (lv_at hl 4 rfl) ?_
  refine lv_iconst (v := nI 1) hx hb d_Lw_law_793 (by decide) ?_
  refine ln_iadd hx hb d_Lw_law_794 ?_
  refine lwS hx hb hX hbl hL (by omega) (by omega) d_Lw_law_795 ?_
  refine lv_aload_n hx hb d_Lw_law_796 rfl (lv_at hl 0 rfl) ?_
  refine lv_iload hx hb d_Lw_law_797 (lv_at hl 4 rfl) ?_
  refine lv_iconst (v := nI 2) hx hb d_Lw_law_799 (by decide) ?_
  refine ln_iadd hx hb d_Lw_law_800 ?_
  refine lwS hx hb hX hbl hL (by omega) (by omega) d_Lw_law_801 ?_
  refine lv_aload_n hx hb d_Lw_law_802 rfl (lv_at hl 3 rfl) ?_
  refine lwC ⟨hx, hb, hml, hown, hts⟩ hF hL (k_Lw_block l hl9 (f := (xs (i + 1)).toNatClampNeg) (x_f := (xs (i + 1))) (z := (xs (i + 2)).toInt) (x_z := (xs (i + 2))) rfl rfl) w_798 m_Lw_block ⟨by decide, by decide⟩ rfl hl.1 rfl (Nat.le_of_ble_eq_true rfl) d_Lw_law_803 ⟨show cells + 2 ≤ 601024 by omega, show slots + 12 ≤ 7293033 by omega⟩ (fun H locs hL => ?_)
  refine lv_istore (lv' := [(5, .int (nI (bk_c B (xs (i + 1)).toNatClampNeg (xs (i + 2)).toInt))), (0, .ref b), (1, .ref (ad 0)), (2, .ref (am 0)), (3, .ref ao), (4, .int (nI i))]) hx hb d_Lw_law_806 hl (by decide) rfl (fun ls hl => ?_)
  refine lv_aload_n hx hb d_Lw_law_808 rfl (lv_at hl 3 rfl) ?_
  refine lv_aload_n hx hb d_Lw_law_809 rfl (lv_at hl 1 rfl) ?_
  refine lv_iload hx hb d_Lw_law_810 (lv_at hl 5 rfl) ?_
  refine lv_iconst (v := nI 1) hx hb d_Lw_law_812 (by decide) ?_
  refine ln_iadd hx hb d_Lw_law_813 ?_
  refine lwS hx hb hX hbl hL (by omega) (by omega) d_Lw_law_814 ?_
  refine lv_aload_n hx hb d_Lw_law_815 rfl (lv_at hl 1 rfl) ?_
  refine lv_iload hx hb d_Lw_law_816 (lv_at hl 5 rfl) ?_
  refine lv_iconst (v := nI 2) hx hb d_Lw_law_818 (by decide) ?_
  refine ln_iadd hx hb d_Lw_law_819 ?_
  refine lwS hx hb hX hbl hL (by omega) (by omega) d_Lw_law_820 ?_
  refine lwM (S' := mcod S (mbk_c S (xs (i + 1)).toNatClampNeg (xs (i + 2)).toInt)) ⟨hx, hb, hml, hown, hts⟩ hF hL (fun A9 => k_Mo_block l (D := D) (ct := ct) (ad := am) (A := A9) (cd := pj_cd S) (dk := pj_dk S) (tk := pj_tk S) (kd := pj_kd S) (lc := pj_lc S) (sz := pj_sz S) (bh := pj_bh S) (wt := pj_wt S) (bl := pj_bl S) (tg := pj_tg S) (fs := pj_fs S) (f := (xs (i + 1)).toNatClampNeg) (x_f := (xs (i + 1))) (z := (xs (i + 2)).toInt) (x_z := (xs (i + 2))) rfl rfl hk1) w_981 m_Mo_block ⟨by decide, by decide⟩ rfl hl.1 rfl (Nat.le_of_ble_eq_true rfl) d_Lw_law_821 ⟨show (cells + 2) ≤ 601024 by omega, show (slots + 12) ≤ 7293033 by omega⟩ (fun H locs hL => ?_)
  refine W.eq (g2 := F0 m 824 ls [.int (if mbk_c S (xs (i + 1)).toNatClampNeg (xs (i + 2)).toInt = 0 then nI ((pj_bl S) (15 * (xs (i + 1)).toNatClampNeg + (xs (i + 2)).toInt.toNat)) else nI 0)]) rfl ?_
  refine lv_istore (lv' := [(6, .int (if mbk_c S (xs (i + 1)).toNatClampNeg (xs (i + 2)).toInt = 0 then nI ((pj_bl S) (15 * (xs (i + 1)).toNatClampNeg + (xs (i + 2)).toInt.toNat)) else nI 0)), (5, .int (nI (bk_c B (xs (i + 1)).toNatClampNeg (xs (i + 2)).toInt))), (0, .ref b), (1, .ref (ad 0)), (2, .ref (am 0)), (3, .ref ao), (4, .int (nI i))]) hx hb d_Lw_law_824 hl (by decide) rfl (fun ls hl => ?_)
  refine lv_aload_n hx hb d_Lw_law_826 rfl (lv_at hl 4 rfl) ?_
  refine rdV ⟨hx, hb, hml, hown, hts⟩ (hF.hK.sub [0, 1, 3] rfl) hL.hM (k_Mo_thrown l (ct := ct) (ad := am) (cd := pj_cd (mcod S (mbk_c S (xs (i + 1)).toNatClampNeg (xs (i + 2)).toInt))) (dk := pj_dk (mcod S (mbk_c S (xs (i + 1)).toNatClampNeg (xs (i + 2)).toInt))) (tk := pj_tk (mcod S (mbk_c S (xs (i + 1)).toNatClampNeg (xs (i + 2)).toInt))) (kd := pj_kd (mcod S (mbk_c S (xs (i + 1)).toNatClampNeg (xs (i + 2)).toInt))) (lc := pj_lc (mcod S (mbk_c S (xs (i + 1)).toNatClampNeg (xs (i + 2)).toInt))) (sz := pj_sz (mcod S (mbk_c S (xs (i + 1)).toNatClampNeg (xs (i + 2)).toInt))) (bh := pj_bh (mcod S (mbk_c S (xs (i + 1)).toNatClampNeg (xs (i + 2)).toInt))) (wt := pj_wt (mcod S (mbk_c S (xs (i + 1)).toNatClampNeg (xs (i + 2)).toInt))) (bl := pj_bl (mcod S (mbk_c S (xs (i + 1)).toNatClampNeg (xs (i + 2)).toInt))) (tg := pj_tg (mcod S (mbk_c S (xs (i + 1)).toNatClampNeg (xs (i + 2)).toInt))) (fs := pj_fs (mcod S (mbk_c S (xs (i + 1)).toNatClampNeg (xs (i + 2)).toInt)))) w_874 m_Mo_thrown ⟨by decide, by decide⟩ 0 rfl rfl rfl hl.1 rfl (Nat.le_of_ble_eq_true rfl) d_Lw_law_827 ⟨show (cells + 2) ≤ 601024 by omega, show (slots + 12) ≤ 7293033 by omega⟩ ?_
  refine lv_iload hx hb d_Lw_law_830 (lv_at hl 1 rfl) ?_
  refine lv_icmp_eq (tgt := 837) hx hb d_Lw_law_832 (by decide) (fun c9 => ?_) (fun c9 => absurd hp1 c9)
  refine lv_iload hx hb d_Lw_law_837 (lv_at hl 1 rfl) ?_
  refine ln_if_ne (tgt := 854) hx hb (by omega) d_Lw_law_839 (by decide) (fun c8 => ?_) (fun c8 => ?_)
  · skip
    refine lv_goto (tgt := 981) hx hb d_Lw_law_854 (by decide) ?_
    refine W.widen (k := cells + 8) (n := slots + 5138) (by omega) (by omega) ?_
    exact hnext _ _ _ _ _ _ _ _ _ hp3 hL (lv_sub hl [2, 3, 4, 5, 6] rfl)
  · skip
    refine lv_aload_n hx hb d_Lw_law_842 rfl (lv_at hl 5 rfl) ?_
    refine lv_iconst (v := nI 0) hx hb d_Lw_law_843 (by decide) ?_
    refine ln_lald hx hb (hF.hK.sub [4] rfl) hL.hO 0 0 rfl rfl (by omega) (by decide) d_Lw_law_844 ?_
    refine lv_iload hx hb d_Lw_law_845 (lv_at hl 0 rfl) ?_
    refine lv_i2l hx hb d_Lw_law_847 rfl ?_
    refine W.lcmp hx hb d_Lw_law_848 ?_
    refine lc_if_eq (tgt := 854) hx hb (by unfold cif; rw [if_pos c8, pk_uLs, Int32.toInt_toInt64]) ((Int32.toInt_toInt64 _).trans rfl) d_Lw_law_849 (by decide) (fun c7 => ?_) (fun c7 => absurd (by rw [hp2 c8]) c7)
    refine lv_goto (tgt := 981) hx hb d_Lw_law_854 (by decide) ?_
    refine W.widen (k := cells + 8) (n := slots + 5138) (by omega) (by omega) ?_
    exact hnext _ _ _ _ _ _ _ _ _ hp3 hL (lv_sub hl [2, 3, 4, 5, 6] rfl)
set_option maxHeartbeats 4000000 in
set_option maxRecDepth 100000 in
theorem lw_count {rl : RL} (hp : PU_count rl) (hok : PU_ok rl) (l : Launch) (hl9 : l.stackTraces = false) (hx : p.tables.exec = Jvm.exec) (hb : c.code = c_Lw_law) (hml : c.maxLocals = 7) (hown : s.vm.findClass R_Lw = some m.cls) (hts : ∀ w ∈ wA, w.before #[Value.ref b] s = true) (hX : va_X b L xs s s.heap) (hbl : b < s.heap.size) (hL2 : L ≤ 3072) (hF : lF s Ac D ct am ao hd) (hL : lS s Ac D ct ad am ao hd B tk fr X S o H locs) (hr : rl B tk fr X S) (hi : i + 6 ≤ L) (hcl : cells ≤ 600000) (hsl : slots ≤ 7200000) (hl : lv_has ls 7 [(0, .ref b), (1, .ref (ad 0)), (2, .ref (am 0)), (3, .ref ao), (4, .int (nI i))])
    (hnext : ∀ (B tk : Nat → Int32) (fr : Int32) (X : Nat → Option (Nat → Int32)) (S : mst) (o : Nat → Int64) (H : Heap) (locs : List Loc) (ls : Array Slot), rl B tk fr X S → lS s Ac D ct ad am ao hd B tk fr X S o H locs → lv_has ls 7 [(0, .ref b), (1, .ref (ad 0)), (2, .ref (am 0)), (3, .ref ao), (4, .int (nI i))] → W p l e room_1 s m #[Value.ref b] below meth c H locs (cells + 8) (slots + 5138) Q (F0 m 981 ls [])) :
    W p l e room_1 s m #[Value.ref b] below meth c H locs cells slots Q (F0 m 857 ls []) := by
  obtain ⟨hp0, hp1, hp2, hp3⟩ := hp (xs (i + 1)) hr
  obtain ⟨hk1, hk2, hk3⟩ := hok hr
  refine lv_aload_n hx hb d_Lw_law_857 rfl (lv_at hl 1 rfl) ?_
  refine lv_aload_n hx hb d_Lw_law_858 rfl (lv_at hl 0 rfl) ?_
  refine lv_iload hx hb d_Lw_law_859 (lv_at hl 4 rfl) ?_
  refine lv_iconst (v := nI 1) hx hb d_Lw_law_861 (by decide) ?_
  refine ln_iadd hx hb d_Lw_law_862 ?_
  refine lwS hx hb hX hbl hL (by omega) (by omega) d_Lw_law_863 ?_
  refine lv_aload_n hx hb d_Lw_law_864 rfl (lv_at hl 3 rfl) ?_
  refine lwC ⟨hx, hb, hml, hown, hts⟩ hF hL (k_Lw_count l hl9 (z := (xs (i + 1)).toInt) (x_z := (xs (i + 1))) rfl) w_806 m_Lw_count ⟨by decide, by decide⟩ rfl hl.1 rfl (Nat.le_of_ble_eq_true rfl) d_Lw_law_865 ⟨show cells + 1 ≤ 601024 by omega, show slots + 6 ≤ 7293033 by omega⟩ (fun H locs hL => ?_)
  refine lv_istore (lv' := [(5, .int (nI (co_c (xs (i + 1)).toInt))), (0, .ref b), (1, .ref (ad 0)), (2, .ref (am 0)), (3, .ref ao), (4, .int (nI i))]) hx hb d_Lw_law_868 hl (by decide) rfl (fun ls hl => ?_)
  refine lv_aload_n hx hb d_Lw_law_870 rfl (lv_at hl 3 rfl) ?_
  refine lv_aload_n hx hb d_Lw_law_871 rfl (lv_at hl 1 rfl) ?_
  refine lv_iload hx hb d_Lw_law_872 (lv_at hl 5 rfl) ?_
  refine lv_iconst (v := nI 1) hx hb d_Lw_law_874 (by decide) ?_
  refine ln_iadd hx hb d_Lw_law_875 ?_
  refine lwS hx hb hX hbl hL (by omega) (by omega) d_Lw_law_876 ?_
  refine lwM (S' := mcod S (mco_c (xs (i + 1)).toInt)) ⟨hx, hb, hml, hown, hts⟩ hF hL (fun A9 => k_Mo_count l (D := D) (ct := ct) (ad := am) (A := A9) (cd := pj_cd S) (dk := pj_dk S) (tk := pj_tk S) (kd := pj_kd S) (lc := pj_lc S) (sz := pj_sz S) (bh := pj_bh S) (wt := pj_wt S) (bl := pj_bl S) (tg := pj_tg S) (fs := pj_fs S) (z := (xs (i + 1)).toInt) (x_z := (xs (i + 1))) rfl ) w_986 m_Mo_count ⟨by decide, by decide⟩ rfl hl.1 rfl (Nat.le_of_ble_eq_true rfl) d_Lw_law_877 ⟨show (cells + 1) ≤ 601024 by omega, show (slots + 6) ≤ 7293033 by omega⟩ (fun H locs hL => ?_)
  refine W.eq (g2 := F0 m 880 ls [.int (if mco_c (xs (i + 1)).toInt = 0 then mco_r S (xs (i + 1)).toInt else nI 0)]) rfl ?_
  refine lv_istore (lv' := [(6, .int (if mco_c (xs (i + 1)).toInt = 0 then mco_r S (xs (i + 1)).toInt else nI 0)), (5, .int (nI (co_c (xs (i + 1)).toInt))), (0, .ref b), (1, .ref (ad 0)), (2, .ref (am 0)), (3, .ref ao), (4, .int (nI i))]) hx hb d_Lw_law_880 hl (by decide) rfl (fun ls hl => ?_)
  refine lv_aload_n hx hb d_Lw_law_882 rfl (lv_at hl 4 rfl) ?_
  refine rdV ⟨hx, hb, hml, hown, hts⟩ (hF.hK.sub [0, 1, 3] rfl) hL.hM (k_Mo_thrown l (ct := ct) (ad := am) (cd := pj_cd (mcod S (mco_c (xs (i + 1)).toInt))) (dk := pj_dk (mcod S (mco_c (xs (i + 1)).toInt))) (tk := pj_tk (mcod S (mco_c (xs (i + 1)).toInt))) (kd := pj_kd (mcod S (mco_c (xs (i + 1)).toInt))) (lc := pj_lc (mcod S (mco_c (xs (i + 1)).toInt))) (sz := pj_sz (mcod S (mco_c (xs (i + 1)).toInt))) (bh := pj_bh (mcod S (mco_c (xs (i + 1)).toInt))) (wt := pj_wt (mcod S (mco_c (xs (i + 1)).toInt))) (bl := pj_bl (mcod S (mco_c (xs (i + 1)).toInt))) (tg := pj_tg (mcod S (mco_c (xs (i + 1)).toInt))) (fs := pj_fs (mcod S (mco_c (xs (i + 1)).toInt)))) w_874 m_Mo_thrown ⟨by decide, by decide⟩ 0 rfl rfl rfl hl.1 rfl (Nat.le_of_ble_eq_true rfl) d_Lw_law_883 ⟨show (cells + 1) ≤ 601024 by omega, show (slots + 6) ≤ 7293033 by omega⟩ ?_
  refine lv_iload hx hb d_Lw_law_886 (lv_at hl 1 rfl) ?_
  refine lv_icmp_eq (tgt := 893) hx hb d_Lw_law_888 (by decide) (fun c9 => ?_) (fun c9 => absurd hp1 c9)
  refine lv_iload hx hb d_Lw_law_893 (lv_at hl 1 rfl) ?_
  refine ln_if_ne (tgt := 910) hx hb (by omega) d_Lw_law_895 (by decide) (fun c8 => ?_) (fun c8 => ?_)
  · skip
    refine lv_goto (tgt := 981) hx hb d_Lw_law_910 (by decide) ?_
    refine W.widen (k := cells + 8) (n := slots + 5138) (by omega) (by omega) ?_
    exact hnext _ _ _ _ _ _ _ _ _ hp3 hL (lv_sub hl [2, 3, 4, 5, 6] rfl)
  · skip
    refine lv_aload_n hx hb d_Lw_law_898 rfl (lv_at hl 5 rfl) ?_
    refine lv_iconst (v := nI 0) hx hb d_Lw_law_899 (by decide) ?_
    refine ln_lald hx hb (hF.hK.sub [4] rfl) hL.hO 0 0 rfl rfl (by omega) (by decide) d_Lw_law_900 ?_
    refine lv_iload hx hb d_Lw_law_901 (lv_at hl 0 rfl) ?_
    refine lv_i2l hx hb d_Lw_law_903 rfl ?_
    refine W.lcmp hx hb d_Lw_law_904 ?_
    refine lc_if_eq (tgt := 910) hx hb (by unfold cif; rw [if_pos c8, pk_uLs, Int32.toInt_toInt64]) ((Int32.toInt_toInt64 _).trans rfl) d_Lw_law_905 (by decide) (fun c7 => ?_) (fun c7 => absurd (by rw [hp2 c8]) c7)
    refine lv_goto (tgt := 981) hx hb d_Lw_law_910 (by decide) ?_
    refine W.widen (k := cells + 8) (n := slots + 5138) (by omega) (by omega) ?_
    exact hnext _ _ _ _ _ _ _ _ _ hp3 hL (lv_sub hl [2, 3, 4, 5, 6] rfl)
set_option maxHeartbeats 4000000 in
set_option maxRecDepth 100000 in
theorem lw_byteOf {rl : RL} (hp : PU_byteOf rl) (hok : PU_ok rl) (l : Launch) (hl9 : l.stackTraces = false) (hx : p.tables.exec = Jvm.exec) (hb : c.code = c_Lw_law) (hml : c.maxLocals = 7) (hown : s.vm.findClass R_Lw = some m.cls) (hts : ∀ w ∈ wA, w.before #[Value.ref b] s = true) (hX : va_X b L xs s s.heap) (hbl : b < s.heap.size) (hL2 : L ≤ 3072) (hF : lF s Ac D ct am ao hd) (hL : lS s Ac D ct ad am ao hd B tk fr X S o H locs) (hr : rl B tk fr X S) (hi : i + 6 ≤ L) (hcl : cells ≤ 600000) (hsl : slots ≤ 7200000) (hl : lv_has ls 7 [(0, .ref b), (1, .ref (ad 0)), (2, .ref (am 0)), (3, .ref ao), (4, .int (nI i))])
    (hnext : ∀ (B tk : Nat → Int32) (fr : Int32) (X : Nat → Option (Nat → Int32)) (S : mst) (o : Nat → Int64) (H : Heap) (locs : List Loc) (ls : Array Slot), rl B tk fr X S → lS s Ac D ct ad am ao hd B tk fr X S o H locs → lv_has ls 7 [(0, .ref b), (1, .ref (ad 0)), (2, .ref (am 0)), (3, .ref ao), (4, .int (nI i))] → W p l e room_1 s m #[Value.ref b] below meth c H locs (cells + 8) (slots + 5138) Q (F0 m 981 ls [])) :
    W p l e room_1 s m #[Value.ref b] below meth c H locs cells slots Q (F0 m 913 ls []) := by
  obtain ⟨hp0, hp1, hp2, hp3⟩ := hp (xs (i + 1)) (xs (i + 2)) hr
  obtain ⟨hk1, hk2, hk3⟩ := hok hr
  refine lv_aload_n hx hb d_Lw_law_913 rfl (lv_at hl 1 rfl) ?_
  refine lv_aload_n hx hb d_Lw_law_914 rfl (lv_at hl 0 rfl) ?_
  refine lv_iload hx hb d_Lw_law_915 (lv_at hl 4 rfl) ?_
  refine lv_iconst (v := nI 1) hx hb d_Lw_law_917 (by decide) ?_
  refine ln_iadd hx hb d_Lw_law_918 ?_
  refine lwS hx hb hX hbl hL (by omega) (by omega) d_Lw_law_919 ?_
  refine lv_aload_n hx hb d_Lw_law_920 rfl (lv_at hl 0 rfl) ?_
  refine lv_iload hx hb d_Lw_law_921 (lv_at hl 4 rfl) ?_
  refine lv_iconst (v := nI 2) hx hb d_Lw_law_923 (by decide) ?_
  refine ln_iadd hx hb d_Lw_law_924 ?_
  refine lwS hx hb hX hbl hL (by omega) (by omega) d_Lw_law_925 ?_
  refine lv_aload_n hx hb d_Lw_law_926 rfl (lv_at hl 3 rfl) ?_
  refine lwC ⟨hx, hb, hml, hown, hts⟩ hF hL (k_Lw_byteOf l hl9 (z := (xs (i + 1)).toInt) (x_z := (xs (i + 1))) (u := (xs (i + 2)).toInt) (x_u := (xs (i + 2))) rfl rfl) w_822 m_Lw_byteOf ⟨by decide, by decide⟩ rfl hl.1 rfl (Nat.le_of_ble_eq_true rfl) d_Lw_law_927 ⟨show cells + 1 ≤ 601024 by omega, show slots + 6 ≤ 7293033 by omega⟩ (fun H locs hL => ?_)
  refine lv_istore (lv' := [(5, .int (nI (by_c (xs (i + 1)).toInt (xs (i + 2)).toInt))), (0, .ref b), (1, .ref (ad 0)), (2, .ref (am 0)), (3, .ref ao), (4, .int (nI i))]) hx hb d_Lw_law_930 hl (by decide) rfl (fun ls hl => ?_)
  refine lv_aload_n hx hb d_Lw_law_932 rfl (lv_at hl 3 rfl) ?_
  refine lv_aload_n hx hb d_Lw_law_933 rfl (lv_at hl 1 rfl) ?_
  refine lv_iload hx hb d_Lw_law_934 (lv_at hl 5 rfl) ?_
  refine lv_iconst (v := nI 1) hx hb d_Lw_law_936 (by decide) ?_
  refine ln_iadd hx hb d_Lw_law_937 ?_
  refine lwS hx hb hX hbl hL (by omega) (by omega) d_Lw_law_938 ?_
  refine lv_aload_n hx hb d_Lw_law_939 rfl (lv_at hl 1 rfl) ?_
  refine lv_iload hx hb d_Lw_law_940 (lv_at hl 5 rfl) ?_
  refine lv_iconst (v := nI 2) hx hb d_Lw_law_942 (by decide) ?_
  refine ln_iadd hx hb d_Lw_law_943 ?_
  refine lwS hx hb hX hbl hL (by omega) (by omega) d_Lw_law_944 ?_
  refine lwM (S' := mcod S (mby_c (xs (i + 1)).toInt (xs (i + 2)).toInt)) ⟨hx, hb, hml, hown, hts⟩ hF hL (fun A9 => k_Mo_byteOf l (D := D) (ct := ct) (ad := am) (A := A9) (cd := pj_cd S) (dk := pj_dk S) (tk := pj_tk S) (kd := pj_kd S) (lc := pj_lc S) (sz := pj_sz S) (bh := pj_bh S) (wt := pj_wt S) (bl := pj_bl S) (tg := pj_tg S) (fs := pj_fs S) (z := (xs (i + 1)).toInt) (x_z := (xs (i + 1))) (u := (xs (i + 2)).toInt) (x_u := (xs (i + 2))) rfl rfl hk1) w_991 m_Mo_byteOf ⟨by decide, by decide⟩ rfl hl.1 rfl (Nat.le_of_ble_eq_true rfl) d_Lw_law_945 ⟨show (cells + 1) ≤ 601024 by omega, show (slots + 6) ≤ 7293033 by omega⟩ (fun H locs hL => ?_)
  refine W.eq (g2 := F0 m 948 ls [.int (if mby_c (xs (i + 1)).toInt (xs (i + 2)).toInt = 0 then mby_r S (xs (i + 1)).toInt.toNat (xs (i + 2)).toInt.toNat else nI 0)]) rfl ?_
  refine lv_istore (lv' := [(6, .int (if mby_c (xs (i + 1)).toInt (xs (i + 2)).toInt = 0 then mby_r S (xs (i + 1)).toInt.toNat (xs (i + 2)).toInt.toNat else nI 0)), (5, .int (nI (by_c (xs (i + 1)).toInt (xs (i + 2)).toInt))), (0, .ref b), (1, .ref (ad 0)), (2, .ref (am 0)), (3, .ref ao), (4, .int (nI i))]) hx hb d_Lw_law_948 hl (by decide) rfl (fun ls hl => ?_)
  refine lv_aload_n hx hb d_Lw_law_950 rfl (lv_at hl 4 rfl) ?_
  refine rdV ⟨hx, hb, hml, hown, hts⟩ (hF.hK.sub [0, 1, 3] rfl) hL.hM (k_Mo_thrown l (ct := ct) (ad := am) (cd := pj_cd (mcod S (mby_c (xs (i + 1)).toInt (xs (i + 2)).toInt))) (dk := pj_dk (mcod S (mby_c (xs (i + 1)).toInt (xs (i + 2)).toInt))) (tk := pj_tk (mcod S (mby_c (xs (i + 1)).toInt (xs (i + 2)).toInt))) (kd := pj_kd (mcod S (mby_c (xs (i + 1)).toInt (xs (i + 2)).toInt))) (lc := pj_lc (mcod S (mby_c (xs (i + 1)).toInt (xs (i + 2)).toInt))) (sz := pj_sz (mcod S (mby_c (xs (i + 1)).toInt (xs (i + 2)).toInt))) (bh := pj_bh (mcod S (mby_c (xs (i + 1)).toInt (xs (i + 2)).toInt))) (wt := pj_wt (mcod S (mby_c (xs (i + 1)).toInt (xs (i + 2)).toInt))) (bl := pj_bl (mcod S (mby_c (xs (i + 1)).toInt (xs (i + 2)).toInt))) (tg := pj_tg (mcod S (mby_c (xs (i + 1)).toInt (xs (i + 2)).toInt))) (fs := pj_fs (mcod S (mby_c (xs (i + 1)).toInt (xs (i + 2)).toInt)))) w_874 m_Mo_thrown ⟨by decide, by decide⟩ 0 rfl rfl rfl hl.1 rfl (Nat.le_of_ble_eq_true rfl) d_Lw_law_951 ⟨show (cells + 1) ≤ 601024 by omega, show (slots + 6) ≤ 7293033 by omega⟩ ?_
  refine lv_iload hx hb d_Lw_law_954 (lv_at hl 1 rfl) ?_
  refine lv_icmp_eq (tgt := 961) hx hb d_Lw_law_956 (by decide) (fun c9 => ?_) (fun c9 => absurd hp1 c9)
  refine lv_iload hx hb d_Lw_law_961 (lv_at hl 1 rfl) ?_
  refine ln_if_ne (tgt := 978) hx hb (by omega) d_Lw_law_963 (by decide) (fun c8 => ?_) (fun c8 => ?_)
  · skip
    refine lv_goto (tgt := 981) hx hb d_Lw_law_978 (by decide) ?_
    refine W.widen (k := cells + 8) (n := slots + 5138) (by omega) (by omega) ?_
    exact hnext _ _ _ _ _ _ _ _ _ hp3 hL (lv_sub hl [2, 3, 4, 5, 6] rfl)
  · skip
    refine lv_aload_n hx hb d_Lw_law_966 rfl (lv_at hl 5 rfl) ?_
    refine lv_iconst (v := nI 0) hx hb d_Lw_law_967 (by decide) ?_
    refine ln_lald hx hb (hF.hK.sub [4] rfl) hL.hO 0 0 rfl rfl (by omega) (by decide) d_Lw_law_968 ?_
    refine lv_iload hx hb d_Lw_law_969 (lv_at hl 0 rfl) ?_
    refine lv_i2l hx hb d_Lw_law_971 rfl ?_
    refine W.lcmp hx hb d_Lw_law_972 ?_
    refine lc_if_eq (tgt := 978) hx hb (by unfold cif; rw [if_pos c8, pk_uLs, Int32.toInt_toInt64]) ((Int32.toInt_toInt64 _).trans rfl) d_Lw_law_973 (by decide) (fun c7 => ?_) (fun c7 => absurd (by rw [hp2 c8]) c7)
    refine lv_goto (tgt := 981) hx hb d_Lw_law_978 (by decide) ?_
    refine W.widen (k := cells + 8) (n := slots + 5138) (by omega) (by omega) ?_
    exact hnext _ _ _ _ _ _ _ _ _ hp3 hL (lv_sub hl [2, 3, 4, 5, 6] rfl)
set_option maxHeartbeats 4000000 in
set_option maxRecDepth 100000 in
theorem lw_finish {rl : RL} (hp : PU_finish rl) (hok : PU_ok rl) (l : Launch) (hl9 : l.stackTraces = false) (hx : p.tables.exec = Jvm.exec) (hb : c.code = c_Lw_law) (hml : c.maxLocals = 7) (hown : s.vm.findClass R_Lw = some m.cls) (hts : ∀ w ∈ wA, w.before #[Value.ref b] s = true) (hX : va_X b L xs s s.heap) (hbl : b < s.heap.size) (hL2 : L ≤ 3072) (hF : lF s Ac D ct am ao hd) (hL : lS s Ac D ct ad am ao hd B tk fr X S o H locs) (hr : rl B tk fr X S) (hi : i + 6 ≤ L) (hcl : cells ≤ 600000) (hsl : slots ≤ 7200000) (hl : lv_has ls 7 [(0, .ref b), (1, .ref (ad 0)), (2, .ref (am 0)), (3, .ref ao), (4, .int (nI i))])
    (hnext : ∀ (B tk : Nat → Int32) (fr : Int32) (X : Nat → Option (Nat → Int32)) (S : mst) (o : Nat → Int64) (H : Heap) (locs : List Loc) (ls : Array Slot), rl B tk fr X S → lS s Ac D ct ad am ao hd B tk fr X S o H locs → lv_has ls 7 [(0, .ref b), (1, .ref (ad 0)), (2, .ref (am 0)), (3, .ref ao), (4, .int (nI i))] → W p l e room_1 s m #[Value.ref b] below meth c H locs (cells + 8) (slots + 5138) Q (F0 m 981 ls [])) :
    W p l e room_1 s m #[Value.ref b] below meth c H locs cells slots Q (F0 m 708 ls []) := by
  obtain ⟨hp2, hp3⟩ := hp hr
  obtain ⟨hk1, hk2, hk3⟩ := hok hr
  refine lv_aload_n hx hb d_Lw_law_708 rfl (lv_at hl 1 rfl) ?_
  refine lwX ⟨hx, hb, hml, hown, hts⟩ hF hL (k_Fb_finish l) w_116 m_Fb_finish ⟨by decide, by decide⟩ rfl hl.1 rfl (Nat.le_of_ble_eq_true rfl) d_Lw_law_709 ⟨show cells + 0 ≤ 601024 by omega, show slots + 0 ≤ 7293033 by omega⟩ (fun H locs hL => ?_)
  refine W.eq (g2 := F0 m 712 ls [.int (nI ((fnS 12 (B, tk, fr) 0).2))]) rfl ?_
  refine lv_aload_n hx hb d_Lw_law_712 rfl (lv_at hl 2 rfl) ?_
  refine lwM (S' := (mfin 12 (mcod S 0) 0).1) ⟨hx, hb, hml, hown, hts⟩ hF hL (fun A9 => k_Mo_finish l (D := D) (ct := ct) (ad := am) (A := A9) (cd := pj_cd S) (dk := pj_dk S) (tk := pj_tk S) (kd := pj_kd S) (lc := pj_lc S) (sz := pj_sz S) (bh := pj_bh S) (wt := pj_wt S) (bl := pj_bl S) (tg := pj_tg S) (fs := pj_fs S)   hk1 hk3) w_972 m_Mo_finish ⟨by decide, by decide⟩ rfl hl.1 rfl (Nat.le_of_ble_eq_true rfl) d_Lw_law_713 ⟨show (cells + 0) ≤ 601024 by omega, show (slots + 0) ≤ 7293033 by omega⟩ (fun H locs hL => ?_)
  refine W.eq (g2 := F0 m 716 ls [.int (nI ((mfin 12 (mcod S 0) 0).2)), .int (nI ((fnS 12 (B, tk, fr) 0).2))]) rfl ?_
  refine lv_icmp_eq (tgt := 981) hx hb d_Lw_law_716 (by decide) (fun c9 => ?_) (fun c9 => absurd hp2 c9)
  refine W.widen (k := cells + 8) (n := slots + 5138) (by omega) (by omega) ?_
  exact hnext _ _ _ _ _ _ _ _ _ hp3 hL (lv_sub hl [0, 1, 2, 3, 4] rfl)
end LC
