/-! the reference: public methods -/
abbrev mst : Type := Int32 × (Nat → Int32) × (Nat → Int32) × (Nat → Int32) × (Nat → Int32) × (Nat → Int32) × (Nat → Int32) × (Nat → Int32) × (Nat → Nat) × (Nat → Int32) × Int32
abbrev pj_cd (S : mst) : Int32 := S.1
abbrev pj_dk (S : mst) : Nat → Int32 := S.2.1
abbrev pj_tk (S : mst) : Nat → Int32 := S.2.2.1
abbrev pj_kd (S : mst) : Nat → Int32 := S.2.2.2.1
abbrev pj_lc (S : mst) : Nat → Int32 := S.2.2.2.2.1
abbrev pj_sz (S : mst) : Nat → Int32 := S.2.2.2.2.2.1
abbrev pj_bh (S : mst) : Nat → Int32 := S.2.2.2.2.2.2.1
abbrev pj_wt (S : mst) : Nat → Int32 := S.2.2.2.2.2.2.2.1
abbrev pj_bl (S : mst) : Nat → Nat := S.2.2.2.2.2.2.2.2.1
abbrev pj_tg (S : mst) : Nat → Int32 := S.2.2.2.2.2.2.2.2.2.1
abbrev pj_fs (S : mst) : Int32 := S.2.2.2.2.2.2.2.2.2.2
def mcod (S : mst) (c : Nat) : mst := (nI c, S.2)
def mby (v : Int32) : Int32 := if v = 0 then nI 1 else nI 0
def mbeg (S : mst) (k v : Int32) : mst := (pj_cd S, pj_dk S, pj_tk S, upd (pj_kd S) (mff (pj_kd S) 12 1) k, upd (pj_lc S) (mff (pj_kd S) 12 1) v, upd (pj_sz S) (mff (pj_kd S) 12 1) (nI 0), (mrst (pj_bh S, pj_wt S, pj_fs S) (mff (pj_kd S) 12 1) (mby v)).1, (mrst (pj_bh S, pj_wt S, pj_fs S) (mff (pj_kd S) 12 1) (mby v)).2.1, mz15 (mff (pj_kd S) 12 1) 15 0 (pj_bl S), pj_tg S, (mrst (pj_bh S, pj_wt S, pj_fs S) (mff (pj_kd S) 12 1) (mby v)).2.2)
theorem mbeg_ok {S : mst} {k v : Int32} (h : bOK (pj_bl S)) : bOK (pj_bl (mbeg S k v)) := mz15_ok _ _ _ h
theorem mf1_le {tk : Nat → Int32} : ∀ k b n, mf1 tk k b n ≤ n + k
  | 0, _, n => by rw [mf1]; omega
  | k + 1, b, n => by
    rw [mf1]
    have h := mf1_le (tk := tk) k (b + 1) (if tk b = 0 then n + 1 else n)
    have h2 : (if tk b = 0 then n + 1 else n) ≤ n + 1 := by by_cases q : tk b = 0; rw [if_pos q]; exact Nat.le_refl _; rw [if_neg q]; omega
    omega
theorem mwt_le {bl : Nat → Nat} {f : Nat} : ∀ k b n, mwt bl f k b n ≤ n + k
  | 0, _, n => by rw [mwt]; omega
  | k + 1, b, n => by
    rw [mwt]
    have h := mwt_le (bl := bl) (f := f) k (b + 1) (if bl (15 * f + b) = 0 then n + 1 else n)
    have h2 : (if bl (15 * f + b) = 0 then n + 1 else n) ≤ n + 1 := by by_cases q : bl (15 * f + b) = 0; rw [if_pos q]; exact Nat.le_refl _; rw [if_neg q]; omega
    omega
def mmk_c (S : mst) (z : Int) : Nat := if 0 ≤ z ∧ z ≤ 1000 then (if mff (pj_kd S) 12 1 = 0 then 2 else 0) else 1
def mmk (S : mst) (z : Int) (x : Int32) : mst := if mmk_c S z = 0 then mbeg (mcod S 0) (nI 1) x else mcod S (mmk_c S z)
def mmay_P (S : mst) (f : Nat) (a n : Int) (k : Nat) : Prop := (((f ≠ 0 ∧ f ≤ 12) ∧ ¬ pj_kd S f ≤ 0) ∧ pj_kd S f = nI 1) ∧ (1 ≤ n ∧ n ≤ k) ∧ 0 ≤ a ∧ a + n ≤ 15360
def mmay_c (S : mst) (f : Nat) (a n : Int) (k : Nat) : Nat := if (((f ≠ 0 ∧ f ≤ 12) ∧ ¬ pj_kd S f ≤ 0) ∧ pj_kd S f = nI 1) ∧ (1 ≤ n ∧ n ≤ k) ∧ 0 ≤ a ∧ a + n ≤ 15360 then (if mwt (pj_bl S) f ((a.toNat + n.toNat - 1) / 1024 + 1 - a.toNat / 1024) (a.toNat / 1024) 0 ≤ mf1 (pj_tk S) 128 0 0 then 0 else 2) else 1
theorem mmay_0 {S : mst} {f : Nat} {a n : Int} {k : Nat} (h : mmay_c S f a n k = 0) : (f ≠ 0 ∧ f ≤ 12) ∧ 1 ≤ n ∧ n ≤ k ∧ 0 ≤ a ∧ a + n ≤ 15360 := by
  unfold mmay_c at h
  by_cases q : (((f ≠ 0 ∧ f ≤ 12) ∧ ¬ pj_kd S f ≤ 0) ∧ pj_kd S f = nI 1) ∧ (1 ≤ n ∧ n ≤ k) ∧ 0 ≤ a ∧ a + n ≤ 15360
  · exact ⟨q.1.1.1, q.2.1.1, q.2.1.2, q.2.2.1, q.2.2.2⟩
  · rw [if_neg q] at h; cases h
def mwrd (bl : Nat → Nat) (f a n : Nat) (r : Int64) : Nat → Nat → (Nat → Int32) → (Nat → Int32)
  | 0, _, d => d
  | k + 1, i, d => mwrd bl f a n r k (i + 1) (mset d bl f (a + i) ((r >>> ((nI (8 * (n - 1 - i))).toInt64 &&& 63)).toInt32))
def mpad (bl : Nat → Nat) (f a : Nat) (x : Int32) : Nat → Nat → (Nat → Int32) → (Nat → Int32)
  | 0, _, d => d
  | k + 1, i, d => mpad bl f a x k (i + 1) (mset d bl f (a + i) (x + nI (7 * i)))
def mtaM (S : mst) (f a n : Nat) : mst := (pj_cd S, (mta (pj_dk S, pj_tk S, pj_bl S) f a n).1, (mta (pj_dk S, pj_tk S, pj_bl S) f a n).2.1, pj_kd S, pj_lc S, msz (pj_sz S) f (a + n), pj_bh S, pj_wt S, (mta (pj_dk S, pj_tk S, pj_bl S) f a n).2.2, pj_tg S, pj_fs S)
def msdk (S : mst) (d : Nat → Int32) : mst := (pj_cd S, d, S.2.2)
def mwr (S : mst) (f : Nat) (a n : Int) (r : Int64) : mst := if mmay_c S f a n 8 = 0 then msdk (mtaM (mcod S 0) f a.toNat n.toNat) (mwrd (pj_bl (mtaM (mcod S 0) f a.toNat n.toNat)) f a.toNat n.toNat r n.toNat 0 (pj_dk (mtaM (mcod S 0) f a.toNat n.toNat))) else mcod S (mmay_c S f a n 8)
def mpa (S : mst) (f : Nat) (a n : Int) (x : Int32) : mst := if mmay_c S f a n 4000 = 0 then msdk (mtaM (mcod S 0) f a.toNat n.toNat) (mpad (pj_bl (mtaM (mcod S 0) f a.toNat n.toNat)) f a.toNat x n.toNat 0 (pj_dk (mtaM (mcod S 0) f a.toNat n.toNat))) else mcod S (mmay_c S f a n 4000)
def mgbS (f : Nat) : Nat → Nat → (Nat → Int32) × (Nat → Nat) → (Nat → Int32) × (Nat → Nat)
  | 0, _, S => S
  | n + 1, k, S => mgbS f n (k + 1) (mgT S.1 S.2 f k, mgB S.2 f k)
theorem mgbS_ok {f : Nat} : ∀ n k (S : (Nat → Int32) × (Nat → Nat)), bOK S.2 → bOK (mgbS f n k S).2
  | 0, _, _, h => h
  | n + 1, k, S, h => mgbS_ok n (k + 1) _ (mgB_ok h)
def mgo (S : mst) (f : Nat) : mst := (pj_cd S, pj_dk S, (mgbS f 15 0 (pj_tk S, pj_bl S)).1, upd (pj_kd S) f (nI 0), upd (pj_lc S) f (nI 0), upd (pj_sz S) f (nI 0), (mrst (pj_bh S, pj_wt S, pj_fs S) f (nI 0)).1, (mrst (pj_bh S, pj_wt S, pj_fs S) f (nI 0)).2.1, (mgbS f 15 0 (pj_tk S, pj_bl S)).2, pj_tg S, (mrst (pj_bh S, pj_wt S, pj_fs S) f (nI 0)).2.2)
theorem mgo_ok {S : mst} {f : Nat} (h : bOK (pj_bl S)) : bOK (pj_bl (mgo S f)) := by
  unfold mgo
  dsimp only [pj_bl]
  exact mgbS_ok 15 0 _ h
def mdr_c (S : mst) (f : Nat) : Nat := if (f ≠ 0 ∧ f ≤ 12) ∧ ¬ pj_kd S f ≤ 0 then (if pj_lc S f ≤ 0 then 0 else 2) else 1
def mdr (S : mst) (f : Nat) : mst := if mdr_c S f = 0 then mgo (mcod S 0) f else mcod S (mdr_c S f)
def mfin : Nat → mst → Nat → mst × Nat
  | 0, S, n => (S, n)
  | k + 1, S, n => if pj_fs S ≤ 0 then (S, n) else mfin k (mgo S (pj_fs S).toNatClampNeg) (n + 1)
def mokF : Nat → mst → Prop
  | 0, S => pj_fs S ≤ 0
  | k + 1, S => pj_fs S ≤ 0 ∨ ((1 ≤ (pj_fs S).toNatClampNeg ∧ (pj_fs S).toNatClampNeg ≤ 12) ∧ mokF k (mgo S (pj_fs S).toNatClampNeg))
theorem mbo_le {bl : Nat → Nat} {f : Nat} : ∀ k b n, mbo bl f k b n ≤ n + k
  | 0, _, n => by rw [mbo]; omega
  | k + 1, b, n => by
    rw [mbo]
    have h := mbo_le (bl := bl) (f := f) k (b + 1) (if bl (15 * f + b) = 0 then n else n + 1)
    have h2 : (if bl (15 * f + b) = 0 then n else n + 1) ≤ n + 1 := by by_cases q : bl (15 * f + b) = 0; rw [if_pos q]; omega; rw [if_neg q]; omega
    omega
theorem m_Mo_begin : mV R_Mo y_Mo_begin (Cond.code y_Mo_begin c_Mo_begin 5 (some .int)) 2 := ⟨⟨w_892, wp_14, w_7, w_893⟩, by decide +kernel⟩
set_option maxHeartbeats 4000000 in
set_option maxRecDepth 100000 in
theorem k_Mo_begin (l : Launch) {D : va_G} {ct : Nat → ClassId} {ad : Nat → Nat} {cd : Int32} {dk : Nat → Int32} {tk kd lc sz bh wt : Nat → Int32} {bl : Nat → Nat} {tg : Nat → Int32} {fs : Int32} {A : Nat → Prop} {k : Int32} {v : Int32} (h0 : bOK bl) (h1 : mff kd 12 1 ≠ 0) : Met l y_Mo_begin (Cond.code y_Mo_begin c_Mo_begin 5 (some .int) :: wA) (rmk 2 0 0) (va_Pc [.ref (ad 0), .int k, .int v] (cW A D (tyM ct) (wsM ct ad cd dk tk kd lc sz bh wt bl tg fs))) (wQ (some (.int (nI (mff kd 12 1)))) A D (wsM ct ad (pj_cd (mbeg (cd, dk, tk, kd, lc, sz, bh, wt, bl, tg, fs) k v)) (pj_dk (mbeg (cd, dk, tk, kd, lc, sz, bh, wt, bl, tg, fs) k v)) (pj_tk (mbeg (cd, dk, tk, kd, lc, sz, bh, wt, bl, tg, fs) k v)) (pj_kd (mbeg (cd, dk, tk, kd, lc, sz, bh, wt, bl, tg, fs) k v)) (pj_lc (mbeg (cd, dk, tk, kd, lc, sz, bh, wt, bl, tg, fs) k v)) (pj_sz (mbeg (cd, dk, tk, kd, lc, sz, bh, wt, bl, tg, fs) k v)) (pj_bh (mbeg (cd, dk, tk, kd, lc, sz, bh, wt, bl, tg, fs) k v)) (pj_wt (mbeg (cd, dk, tk, kd, lc, sz, bh, wt, bl, tg, fs) k v)) (pj_bl (mbeg (cd, dk, tk, kd, lc, sz, bh, wt, bl, tg, fs) k v)) (pj_tg (mbeg (cd, dk, tk, kd, lc, sz, bh, wt, bl, tg, fs) k v)) (pj_fs (mbeg (cd, dk, tk, kd, lc, sz, bh, wt, bl, tg, fs) k v)))) 0 0 A := by
  refine Met.ofW (cc := c_Mo_begin) (maxL := 5) (ret := (some .int)) (by decide +kernel) rfl ?_
  intro p e s m args below meth c s₁ B0 hml hv
  obtain ⟨rfl, hA, hP, hD, hK⟩ := hv
  have hS : va_S A s.heap s.heap [] := va_S.rf
  have hx := B0.exec
  have hb := B0.bytes
  have hr := B0.returns
  have hts := fun w (h : w ∈ wA) => atoms_spec (ws := Cond.code y_Mo_begin c_Mo_begin 5 (some .int) :: wA) B0.pre w (List.mem_cons_of_mem _ h)
  have hown : s.vm.findClass R_Mo = some m.cls := findClass_of_methodNamed B0.named
  have hlocks := B0.notSynchronized
  have hl := lv_entry ([.ref (ad 0), .int k, .int v]) (n := 5) (Nat.le_of_ble_eq_true rfl)
  rw [lg_entry_eq]
  generalize (lg_sl ([.ref (ad 0), .int k, .int v]) ++ List.replicate (5 - (lg_sl ([.ref (ad 0), .int k, .int v])).length) Slot.unset).toArray = ls at hl ⊢
  have hl : lv_has ls 5 [(0, .ref (ad 0)), (1, .int k), (2, .int v)] := hl
  have hbl := h0
  refine lv_aload_n hx hb d_Mo_begin_0 rfl (lv_at hl 0 rfl) ?_
  refine rdV ⟨hx, hb, hml, hown, hts⟩ hK hP (k_Mo_freeFile l  ) w_886 m_Mo_freeFile ⟨by decide, by decide⟩ 0 rfl rfl rfl hl.1 rfl (Nat.le_of_ble_eq_true rfl) d_Mo_begin_1 ⟨Nat.zero_le _, Nat.zero_le _⟩ ?_
  obtain ⟨f, hf9⟩ : ∃ f : Nat, f = mff kd 12 1 := ⟨_, rfl⟩
  have hl9f : f ≤ 12 := by have := mff_le (kd := kd) 12 1 (by omega); omega
  refine W.eq (g2 := F0 m 4 ls [.int (nI f)]) (by rw [hf9]) ?_
  refine lv_istore_n (lv' := [(3, .int (nI f)), (0, .ref (ad 0)), (1, .int k), (2, .int v)]) hx hb d_Mo_begin_4 rfl hl (by decide) rfl (fun ls hl => ?_)
  refine lv_aload_n hx hb d_Mo_begin_5 rfl (lv_at hl 1 rfl) ?_
  refine va_get (D := D) (ci := 6) (v := .ref (ad 3)) (C := R_Mo) (T := T_Mo) (N := 11) hx hb hts u_Mo hown hK hP 0 rfl rfl 3 (by decide) (hts _ w_842) (fun _ h9 => h9) rfl d_Mo_begin_6 ?_
  refine lv_iload_n hx hb d_Mo_begin_9 rfl (lv_at hl 0 rfl) ?_
  refine lv_iload_n hx hb d_Mo_begin_10 rfl (lv_at hl 2 rfl) ?_
  refine ln_iast hx hb hK hP hD hS 3 2 rfl rfl (by omega) (by decide) d_Mo_begin_11 (fun H locs hP hD hS => ?_)
  have hP : va_P D vwC (wsM ct ad cd dk tk (upd kd f k) lc sz bh wt bl tg fs) H := hP
  have hD : va_D A (wsM ct ad cd dk tk (upd kd f k) lc sz bh wt bl tg fs) := hD
  refine lv_aload_n hx hb d_Mo_begin_12 rfl (lv_at hl 1 rfl) ?_
  refine va_get (D := D) (ci := 6) (v := .ref (ad 4)) (C := R_Mo) (T := T_Mo) (N := 11) hx hb hts u_Mo hown hK hP 0 rfl rfl 4 (by decide) (hts _ w_843) (fun _ h9 => h9) rfl d_Mo_begin_13 ?_
  refine lv_iload_n hx hb d_Mo_begin_16 rfl (lv_at hl 0 rfl) ?_
  refine lv_iload_n hx hb d_Mo_begin_17 rfl (lv_at hl 3 rfl) ?_
  refine ln_iast hx hb hK hP hD hS 4 2 rfl rfl (by omega) (by decide) d_Mo_begin_18 (fun H locs hP hD hS => ?_)
  have hP : va_P D vwC (wsM ct ad cd dk tk (upd kd f k) (upd lc f v) sz bh wt bl tg fs) H := hP
  have hD : va_D A (wsM ct ad cd dk tk (upd kd f k) (upd lc f v) sz bh wt bl tg fs) := hD
  refine lv_aload_n hx hb d_Mo_begin_19 rfl (lv_at hl 1 rfl) ?_
  refine va_get (D := D) (ci := 6) (v := .ref (ad 5)) (C := R_Mo) (T := T_Mo) (N := 11) hx hb hts u_Mo hown hK hP 0 rfl rfl 5 (by decide) (hts _ w_844) (fun _ h9 => h9) rfl d_Mo_begin_20 ?_
  refine lv_iload_n hx hb d_Mo_begin_23 rfl (lv_at hl 0 rfl) ?_
  refine lv_iconst (v := nI 0) hx hb d_Mo_begin_24 (by decide) ?_
  refine ln_iast hx hb hK hP hD hS 5 2 rfl rfl (by omega) (by decide) d_Mo_begin_25 (fun H locs hP hD hS => ?_)
  have hP : va_P D vwC (wsM ct ad cd dk tk (upd kd f k) (upd lc f v) (upd sz f (nI 0)) bh wt bl tg fs) H := hP
  have hD : va_D A (wsM ct ad cd dk tk (upd kd f k) (upd lc f v) (upd sz f (nI 0)) bh wt bl tg fs) := hD
  refine lv_iconst (v := nI 0) hx hb d_Mo_begin_26 (by decide) ?_
  refine lv_istore (lv' := [(4, .int (nI 0)), (3, .int (nI f)), (0, .ref (ad 0)), (1, .int k), (2, .int v)]) hx hb d_Mo_begin_27 hl (by decide) rfl (fun ls hl => ?_)
  have loop29 : ∀ (n9 : Nat) (q : Nat) (b : Nat → Nat), 15 - q < n9 → q ≤ 15 → bOK b → mz15 f 15 0 bl = mz15 f (15 - q) q b → ∀ (H : Heap) (locs : List Loc), va_P D vwC (wsM ct ad cd dk tk (upd kd f k) (upd lc f v) (upd sz f (nI 0)) bh wt b tg fs) H → va_D A (wsM ct ad cd dk tk (upd kd f k) (upd lc f v) (upd sz f (nI 0)) bh wt b tg fs) → va_S A s.heap H locs → ∀ ls : Array Slot, lv_has ls 5 [(0, .ref (ad 0)), (1, .int k), (2, .int v), (3, .int (nI f)), (4, .int (nI q))] → W p l e (headSpec (Cond.code y_Mo_begin c_Mo_begin 5 (some .int) :: wA) (rmk 2 0 0)).room s m ([.ref (ad 0), .int k, .int v] : List Value).toArray below meth c H locs 0 0 (MQ below (wQ (some (.int (nI (mff kd 12 1)))) A D (wsM ct ad (pj_cd (mbeg (cd, dk, tk, kd, lc, sz, bh, wt, bl, tg, fs) k v)) (pj_dk (mbeg (cd, dk, tk, kd, lc, sz, bh, wt, bl, tg, fs) k v)) (pj_tk (mbeg (cd, dk, tk, kd, lc, sz, bh, wt, bl, tg, fs) k v)) (pj_kd (mbeg (cd, dk, tk, kd, lc, sz, bh, wt, bl, tg, fs) k v)) (pj_lc (mbeg (cd, dk, tk, kd, lc, sz, bh, wt, bl, tg, fs) k v)) (pj_sz (mbeg (cd, dk, tk, kd, lc, sz, bh, wt, bl, tg, fs) k v)) (pj_bh (mbeg (cd, dk, tk, kd, lc, sz, bh, wt, bl, tg, fs) k v)) (pj_wt (mbeg (cd, dk, tk, kd, lc, sz, bh, wt, bl, tg, fs) k v)) (pj_bl (mbeg (cd, dk, tk, kd, lc, sz, bh, wt, bl, tg, fs) k v)) (pj_tg (mbeg (cd, dk, tk, kd, lc, sz, bh, wt, bl, tg, fs) k v)) (pj_fs (mbeg (cd, dk, tk, kd, lc, sz, bh, wt, bl, tg, fs) k v)))) ([.ref (ad 0), .int k, .int v] : List Value).toArray s 0 0 A) (F0 m 29 ls []) := by
    intro n9
    induction n9 with
    | zero => intro q b h8 h9 hbl h10 H locs hP hD hS ls hl; exact absurd h8 (by omega)
    | succ n9 ih =>
      intro q b h8 h9 hbl h10 H locs hP hD hS ls hl
      refine lv_iload hx hb d_Mo_begin_29 (lv_at hl 4 rfl) ?_
      refine lv_bipush (v := nI 15) hx hb d_Mo_begin_31 (by decide) ?_
      refine ln_icmp_ge (tgt := 55) hx hb (by omega) (by omega) d_Mo_begin_33 (by decide) (fun c_1 => ?_) (fun c_1 => ?_)
      · skip
        refine lv_aload_n hx hb d_Mo_begin_55 rfl (lv_at hl 0 rfl) ?_
        refine lv_iload_n hx hb d_Mo_begin_56 rfl (lv_at hl 3 rfl) ?_
        refine lv_iload_n hx hb d_Mo_begin_57 rfl (lv_at hl 2 rfl) ?_
        refine lv_if_ne (tgt := 65) hx hb d_Mo_begin_58 (by decide) (fun c_2 => ?_) (fun c_2 => ?_)
        · skip
          refine lv_iconst (v := nI 0) hx hb d_Mo_begin_65 (by decide) ?_
          refine W.eq (g2 := F0 m 66 ls [.int (mby v), .int (nI f), .ref (ad 0)]) (by unfold mby; first | (rw [if_pos (by assumption)]; done) | (rw [if_neg (by assumption)]; done)) ?_
          refine wrV ⟨hx, hb, hml, hown, hts⟩ hK hP hD hS hA (k_Mo_rest l (f := f) (y := (mby v)) (by omega) (by omega)) w_894 m_Mo_rest ⟨by decide, by decide⟩ 0 rfl rfl rfl hl.1 rfl (Nat.le_of_ble_eq_true rfl) d_Mo_begin_66 ⟨Nat.zero_le _, Nat.zero_le _⟩ (fun H locs hP hD hS => ?_)
          have hP : va_P D vwC (wsM ct ad cd dk tk (upd kd f k) (upd lc f v) (upd sz f (nI 0)) ((mrst (bh, wt, fs) f (mby v)).1) ((mrst (bh, wt, fs) f (mby v)).2.1) b tg ((mrst (bh, wt, fs) f (mby v)).2.2)) H := hP
          have hD : va_D A (wsM ct ad cd dk tk (upd kd f k) (upd lc f v) (upd sz f (nI 0)) ((mrst (bh, wt, fs) f (mby v)).1) ((mrst (bh, wt, fs) f (mby v)).2.1) b tg ((mrst (bh, wt, fs) f (mby v)).2.2)) := hD
          refine W.eq (g2 := F0 m 69 ls []) rfl ?_
          refine lv_iload_n hx hb d_Mo_begin_69 rfl (lv_at hl 3 rfl) ?_
          have e9 : wsM ct ad cd dk tk (upd kd f k) (upd lc f v) (upd sz f (nI 0)) ((mrst (bh, wt, fs) f (mby v)).1) ((mrst (bh, wt, fs) f (mby v)).2.1) b tg ((mrst (bh, wt, fs) f (mby v)).2.2) = wsM ct ad (pj_cd (mbeg (cd, dk, tk, kd, lc, sz, bh, wt, bl, tg, fs) k v)) (pj_dk (mbeg (cd, dk, tk, kd, lc, sz, bh, wt, bl, tg, fs) k v)) (pj_tk (mbeg (cd, dk, tk, kd, lc, sz, bh, wt, bl, tg, fs) k v)) (pj_kd (mbeg (cd, dk, tk, kd, lc, sz, bh, wt, bl, tg, fs) k v)) (pj_lc (mbeg (cd, dk, tk, kd, lc, sz, bh, wt, bl, tg, fs) k v)) (pj_sz (mbeg (cd, dk, tk, kd, lc, sz, bh, wt, bl, tg, fs) k v)) (pj_bh (mbeg (cd, dk, tk, kd, lc, sz, bh, wt, bl, tg, fs) k v)) (pj_wt (mbeg (cd, dk, tk, kd, lc, sz, bh, wt, bl, tg, fs) k v)) (pj_bl (mbeg (cd, dk, tk, kd, lc, sz, bh, wt, bl, tg, fs) k v)) (pj_tg (mbeg (cd, dk, tk, kd, lc, sz, bh, wt, bl, tg, fs) k v)) (pj_fs (mbeg (cd, dk, tk, kd, lc, sz, bh, wt, bl, tg, fs) k v)) := (by unfold mbeg; dsimp only [pj_kd, pj_bl, pj_bh, pj_wt, pj_fs, pj_cd, pj_dk, pj_tk, pj_lc, pj_sz, pj_tg]; rw [← hf9, h10, show 15 - q = 0 by omega]; rfl)
          rw [e9] at hP hD
          exact W.iret (v := nI f) hx hb hr (fun t9 ht hW => ⟨congrArg (fun z => Outcome.returned (some (Value.int z))) (show nI f = (nI (mff kd 12 1)) from (by rw [hf9])), by rw [ht]; exact hP, hD, hS.F ht⟩) hS.2.2 d_Mo_begin_70
        · skip
          refine lv_iconst (v := nI 1) hx hb d_Mo_begin_61 (by decide) ?_
          refine lv_goto (tgt := 66) hx hb d_Mo_begin_62 (by decide) ?_
          refine W.eq (g2 := F0 m 66 ls [.int (mby v), .int (nI f), .ref (ad 0)]) (by unfold mby; first | (rw [if_pos (by assumption)]; done) | (rw [if_neg (by assumption)]; done)) ?_
          refine wrV ⟨hx, hb, hml, hown, hts⟩ hK hP hD hS hA (k_Mo_rest l (f := f) (y := (mby v)) (by omega) (by omega)) w_894 m_Mo_rest ⟨by decide, by decide⟩ 0 rfl rfl rfl hl.1 rfl (Nat.le_of_ble_eq_true rfl) d_Mo_begin_66 ⟨Nat.zero_le _, Nat.zero_le _⟩ (fun H locs hP hD hS => ?_)
          have hP : va_P D vwC (wsM ct ad cd dk tk (upd kd f k) (upd lc f v) (upd sz f (nI 0)) ((mrst (bh, wt, fs) f (mby v)).1) ((mrst (bh, wt, fs) f (mby v)).2.1) b tg ((mrst (bh, wt, fs) f (mby v)).2.2)) H := hP
          have hD : va_D A (wsM ct ad cd dk tk (upd kd f k) (upd lc f v) (upd sz f (nI 0)) ((mrst (bh, wt, fs) f (mby v)).1) ((mrst (bh, wt, fs) f (mby v)).2.1) b tg ((mrst (bh, wt, fs) f (mby v)).2.2)) := hD
          refine W.eq (g2 := F0 m 69 ls []) rfl ?_
          refine lv_iload_n hx hb d_Mo_begin_69 rfl (lv_at hl 3 rfl) ?_
          have e9 : wsM ct ad cd dk tk (upd kd f k) (upd lc f v) (upd sz f (nI 0)) ((mrst (bh, wt, fs) f (mby v)).1) ((mrst (bh, wt, fs) f (mby v)).2.1) b tg ((mrst (bh, wt, fs) f (mby v)).2.2) = wsM ct ad (pj_cd (mbeg (cd, dk, tk, kd, lc, sz, bh, wt, bl, tg, fs) k v)) (pj_dk (mbeg (cd, dk, tk, kd, lc, sz, bh, wt, bl, tg, fs) k v)) (pj_tk (mbeg (cd, dk, tk, kd, lc, sz, bh, wt, bl, tg, fs) k v)) (pj_kd (mbeg (cd, dk, tk, kd, lc, sz, bh, wt, bl, tg, fs) k v)) (pj_lc (mbeg (cd, dk, tk, kd, lc, sz, bh, wt, bl, tg, fs) k v)) (pj_sz (mbeg (cd, dk, tk, kd, lc, sz, bh, wt, bl, tg, fs) k v)) (pj_bh (mbeg (cd, dk, tk, kd, lc, sz, bh, wt, bl, tg, fs) k v)) (pj_wt (mbeg (cd, dk, tk, kd, lc, sz, bh, wt, bl, tg, fs) k v)) (pj_bl (mbeg (cd, dk, tk, kd, lc, sz, bh, wt, bl, tg, fs) k v)) (pj_tg (mbeg (cd, dk, tk, kd, lc, sz, bh, wt, bl, tg, fs) k v)) (pj_fs (mbeg (cd, dk, tk, kd, lc, sz, bh, wt, bl, tg, fs) k v)) := (by unfold mbeg; dsimp only [pj_kd, pj_bl, pj_bh, pj_wt, pj_fs, pj_cd, pj_dk, pj_tk, pj_lc, pj_sz, pj_tg]; rw [← hf9, h10, show 15 - q = 0 by omega]; rfl)
          rw [e9] at hP hD
          exact W.iret (v := nI f) hx hb hr (fun t9 ht hW => ⟨congrArg (fun z => Outcome.returned (some (Value.int z))) (show nI f = (nI (mff kd 12 1)) from (by rw [hf9])), by rw [ht]; exact hP, hD, hS.F ht⟩) hS.2.2 d_Mo_begin_70
      · skip
        refine lv_aload_n hx hb d_Mo_begin_36 rfl (lv_at hl 0 rfl) ?_
        refine va_get (D := D) (ci := 6) (v := .ref (ad 8)) (C := R_Mo) (T := T_Mo) (N := 11) hx hb hts u_Mo hown hK hP 0 rfl rfl 8 (by decide) (hts _ w_847) (fun _ h9 => h9) rfl d_Mo_begin_37 ?_
        refine lv_bipush (v := nI 15) hx hb d_Mo_begin_40 (by decide) ?_
        refine lv_iload_n hx hb d_Mo_begin_42 rfl (lv_at hl 3 rfl) ?_
        refine ln_imul hx hb d_Mo_begin_43 ?_
        refine lv_iload hx hb d_Mo_begin_44 (lv_at hl 4 rfl) ?_
        refine ln_iadd hx hb d_Mo_begin_46 ?_
        refine lv_iconst (v := nI 0) hx hb d_Mo_begin_47 (by decide) ?_
        refine ln_iast hx hb hK hP hD hS 8 2 rfl rfl (by omega) (by decide) d_Mo_begin_48 (fun H locs hP8 hD8 hS => ?_)
        rw [upd_nI] at hP8 hD8
        have hP : va_P D vwC (wsM ct ad cd dk tk (upd kd f k) (upd lc f v) (upd sz f (nI 0)) bh wt (un b ((15 * f) + q) 0) tg fs) H := hP8
        have hD : va_D A (wsM ct ad cd dk tk (upd kd f k) (upd lc f v) (upd sz f (nI 0)) bh wt (un b ((15 * f) + q) 0) tg fs) := hD8
        have hbl : bOK (un b ((15 * f) + q) 0) := un_lt hbl (by omega)
        refine lv_iinc (v := nI (q + 1)) (lv' := [(4, .int (nI (q + 1))), (0, .ref (ad 0)), (1, .int k), (2, .int v), (3, .int (nI f))]) hx hb d_Mo_begin_49 hl (k := 4) rfl (ln_inc (by decide)) (by decide) rfl (fun ls hl => ?_)
        refine lv_goto (tgt := 29) hx hb d_Mo_begin_52 (by decide) ?_
        exact ih (q + 1) (un b ((15 * f) + q) 0) (by omega) (by omega) hbl (by rw [h10, show 15 - q = 15 - (q + 1) + 1 by omega, mz15]) _ _ hP hD hS ls (lv_sub hl [1, 2, 3, 4, 0] rfl)
  exact loop29 16 0 bl (by omega) (by omega) hbl rfl _ _ hP hD hS ls (lv_sub hl [2, 3, 4, 1, 0] rfl)
theorem m_Mo_make : mV R_Mo y_Mo_make (Cond.code y_Mo_make c_Mo_make 2 (some .int)) 1 := ⟨⟨w_879, w_880, w_7, w_881⟩, by decide +kernel⟩
set_option maxHeartbeats 4000000 in
set_option maxRecDepth 100000 in
theorem k_Mo_make (l : Launch) {D : va_G} {ct : Nat → ClassId} {ad : Nat → Nat} {cd : Int32} {dk : Nat → Int32} {tk kd lc sz bh wt : Nat → Int32} {bl : Nat → Nat} {tg : Nat → Int32} {fs : Int32} {A : Nat → Prop} {z : Int} {x_z : Int32} (hx_z : x_z.toInt = z) (h0 : bOK bl) : Met l y_Mo_make (Cond.code y_Mo_make c_Mo_make 2 (some .int) :: wA) (rmk 3 0 0) (va_Pc [.ref (ad 0), .int x_z] (cW A D (tyM ct) (wsM ct ad cd dk tk kd lc sz bh wt bl tg fs))) (wQ (some (.int (if mmk_c (cd, dk, tk, kd, lc, sz, bh, wt, bl, tg, fs) z = 0 then nI (mff kd 12 1) else nI 0))) A D (wsM ct ad (pj_cd (mmk (cd, dk, tk, kd, lc, sz, bh, wt, bl, tg, fs) z x_z)) (pj_dk (mmk (cd, dk, tk, kd, lc, sz, bh, wt, bl, tg, fs) z x_z)) (pj_tk (mmk (cd, dk, tk, kd, lc, sz, bh, wt, bl, tg, fs) z x_z)) (pj_kd (mmk (cd, dk, tk, kd, lc, sz, bh, wt, bl, tg, fs) z x_z)) (pj_lc (mmk (cd, dk, tk, kd, lc, sz, bh, wt, bl, tg, fs) z x_z)) (pj_sz (mmk (cd, dk, tk, kd, lc, sz, bh, wt, bl, tg, fs) z x_z)) (pj_bh (mmk (cd, dk, tk, kd, lc, sz, bh, wt, bl, tg, fs) z x_z)) (pj_wt (mmk (cd, dk, tk, kd, lc, sz, bh, wt, bl, tg, fs) z x_z)) (pj_bl (mmk (cd, dk, tk, kd, lc, sz, bh, wt, bl, tg, fs) z x_z)) (pj_tg (mmk (cd, dk, tk, kd, lc, sz, bh, wt, bl, tg, fs) z x_z)) (pj_fs (mmk (cd, dk, tk, kd, lc, sz, bh, wt, bl, tg, fs) z x_z)))) 0 0 A := by
  refine Met.ofW (cc := c_Mo_make) (maxL := 2) (ret := (some .int)) (by decide +kernel) rfl ?_
  intro p e s m args below meth c s₁ B0 hml hv
  obtain ⟨rfl, hA, hP, hD, hK⟩ := hv
  have hS : va_S A s.heap s.heap [] := va_S.rf
  have hx := B0.exec
  have hb := B0.bytes
  have hr := B0.returns
  have hts := fun w (h : w ∈ wA) => atoms_spec (ws := Cond.code y_Mo_make c_Mo_make 2 (some .int) :: wA) B0.pre w (List.mem_cons_of_mem _ h)
  have hown : s.vm.findClass R_Mo = some m.cls := findClass_of_methodNamed B0.named
  have hlocks := B0.notSynchronized
  have hl := lv_entry ([.ref (ad 0), .int x_z]) (n := 2) (Nat.le_of_ble_eq_true rfl)
  rw [lg_entry_eq]
  generalize (lg_sl ([.ref (ad 0), .int x_z]) ++ List.replicate (2 - (lg_sl ([.ref (ad 0), .int x_z])).length) Slot.unset).toArray = ls at hl ⊢
  have hl : lv_has ls 2 [(0, .ref (ad 0)), (1, .int x_z)] := hl
  have hf_z := z_lt x_z
  have hg_z := z_ge x_z
  rw [hx_z] at hf_z hg_z
  have hbl := h0
  refine lv_aload_n hx hb d_Mo_make_0 rfl (lv_at hl 0 rfl) ?_
  refine lv_iload_n hx hb d_Mo_make_1 rfl (lv_at hl 1 rfl) ?_
  refine lv_i2l hx hb d_Mo_make_2 rfl ?_
  refine lv_lconst (v := 0) hx hb d_Mo_make_3 (by decide) ?_
  refine lv_ldc2 (v := 1000) hx hb hown (hts _ w_882) d_Mo_make_4 ?_
  refine rdS ⟨hx, hb, hml, hown, hts⟩ hK hP (k_Mo_in l (v := z) (x_v := x_z.toInt64) (u := 0) (x_u := 0) (w := 1000) (x_w := 1000) ((Int32.toInt_toInt64 _).trans hx_z) (show Int64.toInt 0 = 0 by decide) (show Int64.toInt 1000 = 1000 by decide) ) w_883 m_Mo_in ⟨by decide, by decide⟩ rfl hl.1 rfl (Nat.le_of_ble_eq_true rfl) d_Mo_make_7 ⟨Nat.zero_le _, Nat.zero_le _⟩ ?_
  refine lb_if_ne (tgt := 17) hx hb d_Mo_make_10 (by decide) (fun c_1 => ?_) (fun c_1 => ?_)
  · skip
    refine lv_aload_n hx hb d_Mo_make_17 rfl (lv_at hl 0 rfl) ?_
    refine rdV ⟨hx, hb, hml, hown, hts⟩ hK hP (k_Mo_freeFile l  ) w_886 m_Mo_freeFile ⟨by decide, by decide⟩ 0 rfl rfl rfl hl.1 rfl (Nat.le_of_ble_eq_true rfl) d_Mo_make_18 ⟨Nat.zero_le _, Nat.zero_le _⟩ ?_
    obtain ⟨f, hf9⟩ : ∃ f : Nat, f = mff kd 12 1 := ⟨_, rfl⟩
    have hl9f : f ≤ 12 := by have := mff_le (kd := kd) 12 1 (by omega); omega
    refine W.eq (g2 := F0 m 21 ls [.int (nI f), .ref (ad 0)]) (by rw [hf9]) ?_
    refine ln_if_ne (tgt := 28) hx hb (by omega) d_Mo_make_21 (by decide) (fun c_2 => ?_) (fun c_2 => ?_)
    · skip
      refine lv_iconst (v := nI 0) hx hb d_Mo_make_28 (by decide) ?_
      refine va_put (D := D) (ci := 6) (v := .int (nI 0)) (ty := .int) (C := R_Mo) (T := T_Mo) (N := 11) hx hb hts u_Mo t_Mo t_Mo_ok n_Mo hown hK hP hD hS 0 rfl rfl 0 (by decide) (hts _ w_839) (fun _ h9 => h9) rfl (by decide +kernel) rfl rfl (Nat.le_of_ble_eq_true rfl) d_Mo_make_29 (fun H locs hP hD hS => ?_)
      have hP : va_P D vwC (wsM ct ad (nI 0) dk tk kd lc sz bh wt bl tg fs) H := hP
      have hD : va_D A (wsM ct ad (nI 0) dk tk kd lc sz bh wt bl tg fs) := hD
      refine lv_aload_n hx hb d_Mo_make_32 rfl (lv_at hl 0 rfl) ?_
      refine va_get (D := D) (ci := 6) (v := .int (nI 0)) (C := R_Mo) (T := T_Mo) (N := 11) hx hb hts u_Mo hown hK hP 0 rfl rfl 0 (by decide) (hts _ w_839) (fun _ h9 => h9) rfl d_Mo_make_33 ?_
      refine ln_if_le (tgt := 43) hx hb (by omega) d_Mo_make_36 (by decide) (fun c_3 => ?_) (fun c_3 => ?_)
      · skip
        refine lv_aload_n hx hb d_Mo_make_43 rfl (lv_at hl 0 rfl) ?_
        refine lv_iconst (v := nI 1) hx hb d_Mo_make_44 (by decide) ?_
        refine lv_iload_n hx hb d_Mo_make_45 rfl (lv_at hl 1 rfl) ?_
        refine wrV ⟨hx, hb, hml, hown, hts⟩ hK hP hD hS hA (k_Mo_begin l (k := (nI 1)) (v := x_z) hbl (by omega)) w_890 m_Mo_begin ⟨by decide, by decide⟩ 0 rfl rfl rfl hl.1 rfl (Nat.le_of_ble_eq_true rfl) d_Mo_make_46 ⟨Nat.zero_le _, Nat.zero_le _⟩ (fun H locs hP hD hS => ?_)
        have hbl : bOK (pj_bl (mbeg ((nI 0), dk, tk, kd, lc, sz, bh, wt, bl, tg, fs) (nI 1) x_z)) := mbeg_ok hbl
        have hP : va_P D vwC (wsM ct ad (pj_cd (mbeg ((nI 0), dk, tk, kd, lc, sz, bh, wt, bl, tg, fs) (nI 1) x_z)) (pj_dk (mbeg ((nI 0), dk, tk, kd, lc, sz, bh, wt, bl, tg, fs) (nI 1) x_z)) (pj_tk (mbeg ((nI 0), dk, tk, kd, lc, sz, bh, wt, bl, tg, fs) (nI 1) x_z)) (pj_kd (mbeg ((nI 0), dk, tk, kd, lc, sz, bh, wt, bl, tg, fs) (nI 1) x_z)) (pj_lc (mbeg ((nI 0), dk, tk, kd, lc, sz, bh, wt, bl, tg, fs) (nI 1) x_z)) (pj_sz (mbeg ((nI 0), dk, tk, kd, lc, sz, bh, wt, bl, tg, fs) (nI 1) x_z)) (pj_bh (mbeg ((nI 0), dk, tk, kd, lc, sz, bh, wt, bl, tg, fs) (nI 1) x_z)) (pj_wt (mbeg ((nI 0), dk, tk, kd, lc, sz, bh, wt, bl, tg, fs) (nI 1) x_z)) (pj_bl (mbeg ((nI 0), dk, tk, kd, lc, sz, bh, wt, bl, tg, fs) (nI 1) x_z)) (pj_tg (mbeg ((nI 0), dk, tk, kd, lc, sz, bh, wt, bl, tg, fs) (nI 1) x_z)) (pj_fs (mbeg ((nI 0), dk, tk, kd, lc, sz, bh, wt, bl, tg, fs) (nI 1) x_z))) H := hP
        have hD : va_D A (wsM ct ad (pj_cd (mbeg ((nI 0), dk, tk, kd, lc, sz, bh, wt, bl, tg, fs) (nI 1) x_z)) (pj_dk (mbeg ((nI 0), dk, tk, kd, lc, sz, bh, wt, bl, tg, fs) (nI 1) x_z)) (pj_tk (mbeg ((nI 0), dk, tk, kd, lc, sz, bh, wt, bl, tg, fs) (nI 1) x_z)) (pj_kd (mbeg ((nI 0), dk, tk, kd, lc, sz, bh, wt, bl, tg, fs) (nI 1) x_z)) (pj_lc (mbeg ((nI 0), dk, tk, kd, lc, sz, bh, wt, bl, tg, fs) (nI 1) x_z)) (pj_sz (mbeg ((nI 0), dk, tk, kd, lc, sz, bh, wt, bl, tg, fs) (nI 1) x_z)) (pj_bh (mbeg ((nI 0), dk, tk, kd, lc, sz, bh, wt, bl, tg, fs) (nI 1) x_z)) (pj_wt (mbeg ((nI 0), dk, tk, kd, lc, sz, bh, wt, bl, tg, fs) (nI 1) x_z)) (pj_bl (mbeg ((nI 0), dk, tk, kd, lc, sz, bh, wt, bl, tg, fs) (nI 1) x_z)) (pj_tg (mbeg ((nI 0), dk, tk, kd, lc, sz, bh, wt, bl, tg, fs) (nI 1) x_z)) (pj_fs (mbeg ((nI 0), dk, tk, kd, lc, sz, bh, wt, bl, tg, fs) (nI 1) x_z))) := hD
        refine W.eq (g2 := F0 m 49 ls [.int (nI (mff kd 12 1))]) rfl ?_
        have e9 : wsM ct ad (pj_cd (mbeg ((nI 0), dk, tk, kd, lc, sz, bh, wt, bl, tg, fs) (nI 1) x_z)) (pj_dk (mbeg ((nI 0), dk, tk, kd, lc, sz, bh, wt, bl, tg, fs) (nI 1) x_z)) (pj_tk (mbeg ((nI 0), dk, tk, kd, lc, sz, bh, wt, bl, tg, fs) (nI 1) x_z)) (pj_kd (mbeg ((nI 0), dk, tk, kd, lc, sz, bh, wt, bl, tg, fs) (nI 1) x_z)) (pj_lc (mbeg ((nI 0), dk, tk, kd, lc, sz, bh, wt, bl, tg, fs) (nI 1) x_z)) (pj_sz (mbeg ((nI 0), dk, tk, kd, lc, sz, bh, wt, bl, tg, fs) (nI 1) x_z)) (pj_bh (mbeg ((nI 0), dk, tk, kd, lc, sz, bh, wt, bl, tg, fs) (nI 1) x_z)) (pj_wt (mbeg ((nI 0), dk, tk, kd, lc, sz, bh, wt, bl, tg, fs) (nI 1) x_z)) (pj_bl (mbeg ((nI 0), dk, tk, kd, lc, sz, bh, wt, bl, tg, fs) (nI 1) x_z)) (pj_tg (mbeg ((nI 0), dk, tk, kd, lc, sz, bh, wt, bl, tg, fs) (nI 1) x_z)) (pj_fs (mbeg ((nI 0), dk, tk, kd, lc, sz, bh, wt, bl, tg, fs) (nI 1) x_z)) = wsM ct ad (pj_cd (mmk (cd, dk, tk, kd, lc, sz, bh, wt, bl, tg, fs) z x_z)) (pj_dk (mmk (cd, dk, tk, kd, lc, sz, bh, wt, bl, tg, fs) z x_z)) (pj_tk (mmk (cd, dk, tk, kd, lc, sz, bh, wt, bl, tg, fs) z x_z)) (pj_kd (mmk (cd, dk, tk, kd, lc, sz, bh, wt, bl, tg, fs) z x_z)) (pj_lc (mmk (cd, dk, tk, kd, lc, sz, bh, wt, bl, tg, fs) z x_z)) (pj_sz (mmk (cd, dk, tk, kd, lc, sz, bh, wt, bl, tg, fs) z x_z)) (pj_bh (mmk (cd, dk, tk, kd, lc, sz, bh, wt, bl, tg, fs) z x_z)) (pj_wt (mmk (cd, dk, tk, kd, lc, sz, bh, wt, bl, tg, fs) z x_z)) (pj_bl (mmk (cd, dk, tk, kd, lc, sz, bh, wt, bl, tg, fs) z x_z)) (pj_tg (mmk (cd, dk, tk, kd, lc, sz, bh, wt, bl, tg, fs) z x_z)) (pj_fs (mmk (cd, dk, tk, kd, lc, sz, bh, wt, bl, tg, fs) z x_z)) := (by have e7 := (show mmk_c (cd, dk, tk, kd, lc, sz, bh, wt, bl, tg, fs) z = 0 from (by unfold mmk_c; dsimp only [pj_kd, pj_bl, pj_bh, pj_wt, pj_fs, pj_cd, pj_dk, pj_tk, pj_lc, pj_sz, pj_tg]; first | (rw [if_pos (by omega), if_pos (by omega)]; done) | (rw [if_pos (by omega), if_neg (by omega)]; done) | (rw [if_neg (by omega)]; done))); unfold mmk; rw [e7]; rfl)
        rw [e9] at hP hD
        exact W.iret (v := nI (mff kd 12 1)) hx hb hr (fun t9 ht hW => ⟨congrArg (fun z => Outcome.returned (some (Value.int z))) (show nI (mff kd 12 1) = (if mmk_c (cd, dk, tk, kd, lc, sz, bh, wt, bl, tg, fs) z = 0 then nI (mff kd 12 1) else nI 0) from (by rw [(show mmk_c (cd, dk, tk, kd, lc, sz, bh, wt, bl, tg, fs) z = 0 from (by unfold mmk_c; dsimp only [pj_kd, pj_bl, pj_bh, pj_wt, pj_fs, pj_cd, pj_dk, pj_tk, pj_lc, pj_sz, pj_tg]; first | (rw [if_pos (by omega), if_pos (by omega)]; done) | (rw [if_pos (by omega), if_neg (by omega)]; done) | (rw [if_neg (by omega)]; done)))]; rfl)), by rw [ht]; exact hP, hD, hS.F ht⟩) hS.2.2 d_Mo_make_49
      · exact absurd c_3 (by omega)
    · skip
      refine lv_iconst (v := nI 2) hx hb d_Mo_make_24 (by decide) ?_
      refine lv_goto (tgt := 29) hx hb d_Mo_make_25 (by decide) ?_
      refine va_put (D := D) (ci := 6) (v := .int (nI 2)) (ty := .int) (C := R_Mo) (T := T_Mo) (N := 11) hx hb hts u_Mo t_Mo t_Mo_ok n_Mo hown hK hP hD hS 0 rfl rfl 0 (by decide) (hts _ w_839) (fun _ h9 => h9) rfl (by decide +kernel) rfl rfl (Nat.le_of_ble_eq_true rfl) d_Mo_make_29 (fun H locs hP hD hS => ?_)
      have hP : va_P D vwC (wsM ct ad (nI 2) dk tk kd lc sz bh wt bl tg fs) H := hP
      have hD : va_D A (wsM ct ad (nI 2) dk tk kd lc sz bh wt bl tg fs) := hD
      refine lv_aload_n hx hb d_Mo_make_32 rfl (lv_at hl 0 rfl) ?_
      refine va_get (D := D) (ci := 6) (v := .int (nI 2)) (C := R_Mo) (T := T_Mo) (N := 11) hx hb hts u_Mo hown hK hP 0 rfl rfl 0 (by decide) (hts _ w_839) (fun _ h9 => h9) rfl d_Mo_make_33 ?_
      refine ln_if_le (tgt := 43) hx hb (by omega) d_Mo_make_36 (by decide) (fun c_4 => ?_) (fun c_4 => ?_)
      · exact absurd c_4 (by omega)
      · skip
        refine lv_iconst (v := nI 0) hx hb d_Mo_make_39 (by decide) ?_
        refine lv_goto (tgt := 49) hx hb d_Mo_make_40 (by decide) ?_
        have e9 : wsM ct ad (nI 2) dk tk kd lc sz bh wt bl tg fs = wsM ct ad (pj_cd (mmk (cd, dk, tk, kd, lc, sz, bh, wt, bl, tg, fs) z x_z)) (pj_dk (mmk (cd, dk, tk, kd, lc, sz, bh, wt, bl, tg, fs) z x_z)) (pj_tk (mmk (cd, dk, tk, kd, lc, sz, bh, wt, bl, tg, fs) z x_z)) (pj_kd (mmk (cd, dk, tk, kd, lc, sz, bh, wt, bl, tg, fs) z x_z)) (pj_lc (mmk (cd, dk, tk, kd, lc, sz, bh, wt, bl, tg, fs) z x_z)) (pj_sz (mmk (cd, dk, tk, kd, lc, sz, bh, wt, bl, tg, fs) z x_z)) (pj_bh (mmk (cd, dk, tk, kd, lc, sz, bh, wt, bl, tg, fs) z x_z)) (pj_wt (mmk (cd, dk, tk, kd, lc, sz, bh, wt, bl, tg, fs) z x_z)) (pj_bl (mmk (cd, dk, tk, kd, lc, sz, bh, wt, bl, tg, fs) z x_z)) (pj_tg (mmk (cd, dk, tk, kd, lc, sz, bh, wt, bl, tg, fs) z x_z)) (pj_fs (mmk (cd, dk, tk, kd, lc, sz, bh, wt, bl, tg, fs) z x_z)) := (by have e7 := (show mmk_c (cd, dk, tk, kd, lc, sz, bh, wt, bl, tg, fs) z = 2 from (by unfold mmk_c; dsimp only [pj_kd, pj_bl, pj_bh, pj_wt, pj_fs, pj_cd, pj_dk, pj_tk, pj_lc, pj_sz, pj_tg]; first | (rw [if_pos (by omega), if_pos (by omega)]; done) | (rw [if_pos (by omega), if_neg (by omega)]; done) | (rw [if_neg (by omega)]; done))); unfold mmk; rw [e7]; rfl)
        rw [e9] at hP hD
        exact W.iret (v := nI 0) hx hb hr (fun t9 ht hW => ⟨congrArg (fun z => Outcome.returned (some (Value.int z))) (show nI 0 = (if mmk_c (cd, dk, tk, kd, lc, sz, bh, wt, bl, tg, fs) z = 0 then nI (mff kd 12 1) else nI 0) from (by rw [(show mmk_c (cd, dk, tk, kd, lc, sz, bh, wt, bl, tg, fs) z = 2 from (by unfold mmk_c; dsimp only [pj_kd, pj_bl, pj_bh, pj_wt, pj_fs, pj_cd, pj_dk, pj_tk, pj_lc, pj_sz, pj_tg]; first | (rw [if_pos (by omega), if_pos (by omega)]; done) | (rw [if_pos (by omega), if_neg (by omega)]; done) | (rw [if_neg (by omega)]; done)))]; rfl)), by rw [ht]; exact hP, hD, hS.F ht⟩) hS.2.2 d_Mo_make_49
  · skip
    refine lv_iconst (v := nI 1) hx hb d_Mo_make_13 (by decide) ?_
    refine lv_goto (tgt := 29) hx hb d_Mo_make_14 (by decide) ?_
    refine va_put (D := D) (ci := 6) (v := .int (nI 1)) (ty := .int) (C := R_Mo) (T := T_Mo) (N := 11) hx hb hts u_Mo t_Mo t_Mo_ok n_Mo hown hK hP hD hS 0 rfl rfl 0 (by decide) (hts _ w_839) (fun _ h9 => h9) rfl (by decide +kernel) rfl rfl (Nat.le_of_ble_eq_true rfl) d_Mo_make_29 (fun H locs hP hD hS => ?_)
    have hP : va_P D vwC (wsM ct ad (nI 1) dk tk kd lc sz bh wt bl tg fs) H := hP
    have hD : va_D A (wsM ct ad (nI 1) dk tk kd lc sz bh wt bl tg fs) := hD
    refine lv_aload_n hx hb d_Mo_make_32 rfl (lv_at hl 0 rfl) ?_
    refine va_get (D := D) (ci := 6) (v := .int (nI 1)) (C := R_Mo) (T := T_Mo) (N := 11) hx hb hts u_Mo hown hK hP 0 rfl rfl 0 (by decide) (hts _ w_839) (fun _ h9 => h9) rfl d_Mo_make_33 ?_
    refine ln_if_le (tgt := 43) hx hb (by omega) d_Mo_make_36 (by decide) (fun c_5 => ?_) (fun c_5 => ?_)
    · exact absurd c_5 (by omega)
    · skip
      refine lv_iconst (v := nI 0) hx hb d_Mo_make_39 (by decide) ?_
      refine lv_goto (tgt := 49) hx hb d_Mo_make_40 (by decide) ?_
      have e9 : wsM ct ad (nI 1) dk tk kd lc sz bh wt bl tg fs = wsM ct ad (pj_cd (mmk (cd, dk, tk, kd, lc, sz, bh, wt, bl, tg, fs) z x_z)) (pj_dk (mmk (cd, dk, tk, kd, lc, sz, bh, wt, bl, tg, fs) z x_z)) (pj_tk (mmk (cd, dk, tk, kd, lc, sz, bh, wt, bl, tg, fs) z x_z)) (pj_kd (mmk (cd, dk, tk, kd, lc, sz, bh, wt, bl, tg, fs) z x_z)) (pj_lc (mmk (cd, dk, tk, kd, lc, sz, bh, wt, bl, tg, fs) z x_z)) (pj_sz (mmk (cd, dk, tk, kd, lc, sz, bh, wt, bl, tg, fs) z x_z)) (pj_bh (mmk (cd, dk, tk, kd, lc, sz, bh, wt, bl, tg, fs) z x_z)) (pj_wt (mmk (cd, dk, tk, kd, lc, sz, bh, wt, bl, tg, fs) z x_z)) (pj_bl (mmk (cd, dk, tk, kd, lc, sz, bh, wt, bl, tg, fs) z x_z)) (pj_tg (mmk (cd, dk, tk, kd, lc, sz, bh, wt, bl, tg, fs) z x_z)) (pj_fs (mmk (cd, dk, tk, kd, lc, sz, bh, wt, bl, tg, fs) z x_z)) := (by have e7 := (show mmk_c (cd, dk, tk, kd, lc, sz, bh, wt, bl, tg, fs) z = 1 from (by unfold mmk_c; dsimp only [pj_kd, pj_bl, pj_bh, pj_wt, pj_fs, pj_cd, pj_dk, pj_tk, pj_lc, pj_sz, pj_tg]; first | (rw [if_pos (by omega), if_pos (by omega)]; done) | (rw [if_pos (by omega), if_neg (by omega)]; done) | (rw [if_neg (by omega)]; done))); unfold mmk; rw [e7]; rfl)
      rw [e9] at hP hD
      exact W.iret (v := nI 0) hx hb hr (fun t9 ht hW => ⟨congrArg (fun z => Outcome.returned (some (Value.int z))) (show nI 0 = (if mmk_c (cd, dk, tk, kd, lc, sz, bh, wt, bl, tg, fs) z = 0 then nI (mff kd 12 1) else nI 0) from (by rw [(show mmk_c (cd, dk, tk, kd, lc, sz, bh, wt, bl, tg, fs) z = 1 from (by unfold mmk_c; dsimp only [pj_kd, pj_bl, pj_bh, pj_wt, pj_fs, pj_cd, pj_dk, pj_tk, pj_lc, pj_sz, pj_tg]; first | (rw [if_pos (by omega), if_pos (by omega)]; done) | (rw [if_pos (by omega), if_neg (by omega)]; done) | (rw [if_neg (by omega)]; done)))]; rfl)), by rw [ht]; exact hP, hD, hS.F ht⟩) hS.2.2 d_Mo_make_49
theorem m_Mo_may : mV R_Mo y_Mo_may (Cond.code y_Mo_may c_Mo_may 6 (some .boolean)) 4 := ⟨⟨w_916, wp_18, w_7, w_917⟩, by decide +kernel⟩
set_option maxHeartbeats 4000000 in
set_option maxRecDepth 100000 in
theorem k_Mo_may (l : Launch) {D : va_G} {ct : Nat → ClassId} {ad : Nat → Nat} {cd : Int32} {dk : Nat → Int32} {tk kd lc sz bh wt : Nat → Int32} {bl : Nat → Nat} {tg : Nat → Int32} {fs : Int32} {A : Nat → Prop} {f : Nat} {x_f : Int32} (hx_f : x_f.toNatClampNeg = f) {a : Int} {x_a : Int32} (hx_a : x_a.toInt = a) {n : Int} {x_n : Int32} (hx_n : x_n.toInt = n) {k : Nat} (h0 : bOK bl) (h1 : k ≤ 4000) : Met l y_Mo_may (Cond.code y_Mo_may c_Mo_may 6 (some .boolean) :: wA) (rmk 4 0 0) (va_Pc [.ref (ad 0), .int x_f, .int x_a, .int x_n, .int (nI k)] (cW A D (tyM ct) (wsM ct ad cd dk tk kd lc sz bh wt bl tg fs))) (wQ (some (.int (bI (mmay_c (cd, dk, tk, kd, lc, sz, bh, wt, bl, tg, fs) f a n k = 0)))) A D (wsM ct ad (nI (mmay_c (cd, dk, tk, kd, lc, sz, bh, wt, bl, tg, fs) f a n k)) dk tk kd lc sz bh wt bl tg fs)) 0 0 A := by
  refine Met.ofW (cc := c_Mo_may) (maxL := 6) (ret := (some .boolean)) (by decide +kernel) rfl ?_
  intro p e s m args below meth c s₁ B0 hml hv
  obtain ⟨rfl, hA, hP, hD, hK⟩ := hv
  have hS : va_S A s.heap s.heap [] := va_S.rf
  have hx := B0.exec
  have hb := B0.bytes
  have hr := B0.returns
  have hts := fun w (h : w ∈ wA) => atoms_spec (ws := Cond.code y_Mo_may c_Mo_may 6 (some .boolean) :: wA) B0.pre w (List.mem_cons_of_mem _ h)
  have hown : s.vm.findClass R_Mo = some m.cls := findClass_of_methodNamed B0.named
  have hlocks := B0.notSynchronized
  have hl := lv_entry ([.ref (ad 0), .int x_f, .int x_a, .int x_n, .int (nI k)]) (n := 6) (Nat.le_of_ble_eq_true rfl)
  rw [lg_entry_eq]
  generalize (lg_sl ([.ref (ad 0), .int x_f, .int x_a, .int x_n, .int (nI k)]) ++ List.replicate (6 - (lg_sl ([.ref (ad 0), .int x_f, .int x_a, .int x_n, .int (nI k)])).length) Slot.unset).toArray = ls at hl ⊢
  have hl : lv_has ls 6 [(0, .ref (ad 0)), (1, .int x_f), (2, .int x_a), (3, .int x_n), (4, .int (nI k))] := hl
  have hf_f : x_f.toInt.toNat = f := hx_f
  have hg_f := z_lt x_f
  have hf_a := z_lt x_a
  have hg_a := z_ge x_a
  rw [hx_a] at hf_a hg_a
  have hf_n := z_lt x_n
  have hg_n := z_ge x_n
  rw [hx_n] at hf_n hg_n
  have hbl := h0
  refine lv_aload_n hx hb d_Mo_may_0 rfl (lv_at hl 0 rfl) ?_
  refine lv_iload_n hx hb d_Mo_may_1 rfl (lv_at hl 1 rfl) ?_
  refine rdV ⟨hx, hb, hml, hown, hts⟩ hK hP (k_Mo_isPlain l (f := f) (x_f := x_f) hx_f ) w_918 m_Mo_isPlain ⟨by decide, by decide⟩ 0 rfl rfl rfl hl.1 rfl (Nat.le_of_ble_eq_true rfl) d_Mo_may_2 ⟨Nat.zero_le _, Nat.zero_le _⟩ ?_
  refine lb_if_eq (tgt := 40) hx hb d_Mo_may_5 (by decide) (fun c_1 => ?_) (fun c_1 => ?_)
  · skip
    refine lv_iconst (v := nI 0) hx hb d_Mo_may_40 (by decide) ?_
    refine lv_istore (lv' := [(5, .int (nI 0)), (0, .ref (ad 0)), (1, .int x_f), (2, .int x_a), (3, .int x_n), (4, .int (nI k))]) hx hb d_Mo_may_41 hl (by decide) rfl (fun ls hl => ?_)
    refine lv_aload_n hx hb d_Mo_may_43 rfl (lv_at hl 1 rfl) ?_
    refine lv_iload hx hb d_Mo_may_44 (lv_at hl 0 rfl) ?_
    refine ln_if_ne (tgt := 53) hx hb (by omega) d_Mo_may_46 (by decide) (fun c_2 => ?_) (fun c_2 => ?_)
    · exact absurd c_2 (by omega)
    · skip
      refine lv_iconst (v := nI 1) hx hb d_Mo_may_49 (by decide) ?_
      refine lv_goto (tgt := 72) hx hb d_Mo_may_50 (by decide) ?_
      refine va_put (D := D) (ci := 6) (v := .int (nI 1)) (ty := .int) (C := R_Mo) (T := T_Mo) (N := 11) hx hb hts u_Mo t_Mo t_Mo_ok n_Mo hown hK hP hD hS 0 rfl rfl 0 (by decide) (hts _ w_839) (fun _ h9 => h9) rfl (by decide +kernel) rfl rfl (Nat.le_of_ble_eq_true rfl) d_Mo_may_72 (fun H locs hP hD hS => ?_)
      have hP : va_P D vwC (wsM ct ad (nI 1) dk tk kd lc sz bh wt bl tg fs) H := hP
      have hD : va_D A (wsM ct ad (nI 1) dk tk kd lc sz bh wt bl tg fs) := hD
      refine lv_aload_n hx hb d_Mo_may_75 rfl (lv_at hl 1 rfl) ?_
      refine va_get (D := D) (ci := 6) (v := .int (nI 1)) (C := R_Mo) (T := T_Mo) (N := 11) hx hb hts u_Mo hown hK hP 0 rfl rfl 0 (by decide) (hts _ w_839) (fun _ h9 => h9) rfl d_Mo_may_76 ?_
      refine ln_if_ne (tgt := 86) hx hb (by omega) d_Mo_may_79 (by decide) (fun c_3 => ?_) (fun c_3 => ?_)
      · skip
        refine lv_iconst (v := nI 0) hx hb d_Mo_may_86 (by decide) ?_
        have e9 : wsM ct ad (nI 1) dk tk kd lc sz bh wt bl tg fs = wsM ct ad (nI (mmay_c (cd, dk, tk, kd, lc, sz, bh, wt, bl, tg, fs) f a n k)) dk tk kd lc sz bh wt bl tg fs := (by rw [(show mmay_c (cd, dk, tk, kd, lc, sz, bh, wt, bl, tg, fs) f a n k = 1 from (by unfold mmay_c; dsimp only [pj_kd, pj_bl, pj_bh, pj_wt, pj_fs, pj_cd, pj_dk, pj_tk, pj_lc, pj_sz, pj_tg]; (try simp only [Int.toNat_natCast]); first | (rw [if_neg (fun q => absurd q.1 (by assumption))]; done) | (rw [if_neg (fun q => absurd q.2 (by omega))]; done) | (rw [if_pos ⟨by assumption, by omega⟩, if_pos (by omega)]; done) | (rw [if_pos ⟨by assumption, by omega⟩, if_neg (by omega)]; done)))])
        rw [e9] at hP hD
        exact W.zret (ty := .boolean) (v := nI 0) hx hb hr rfl (fun t9 ht hW => ⟨congrArg (fun z => Outcome.returned (some (Value.int z))) (show nI 0 = (bI (mmay_c (cd, dk, tk, kd, lc, sz, bh, wt, bl, tg, fs) f a n k = 0)) from (by first | exact bI_t (show mmay_c (cd, dk, tk, kd, lc, sz, bh, wt, bl, tg, fs) f a n k = 1 from (by unfold mmay_c; dsimp only [pj_kd, pj_bl, pj_bh, pj_wt, pj_fs, pj_cd, pj_dk, pj_tk, pj_lc, pj_sz, pj_tg]; (try simp only [Int.toNat_natCast]); first | (rw [if_neg (fun q => absurd q.1 (by assumption))]; done) | (rw [if_neg (fun q => absurd q.2 (by omega))]; done) | (rw [if_pos ⟨by assumption, by omega⟩, if_pos (by omega)]; done) | (rw [if_pos ⟨by assumption, by omega⟩, if_neg (by omega)]; done))) | exact bI_f (fun q => by rw [(show mmay_c (cd, dk, tk, kd, lc, sz, bh, wt, bl, tg, fs) f a n k = 1 from (by unfold mmay_c; dsimp only [pj_kd, pj_bl, pj_bh, pj_wt, pj_fs, pj_cd, pj_dk, pj_tk, pj_lc, pj_sz, pj_tg]; (try simp only [Int.toNat_natCast]); first | (rw [if_neg (fun q => absurd q.1 (by assumption))]; done) | (rw [if_neg (fun q => absurd q.2 (by omega))]; done) | (rw [if_pos ⟨by assumption, by omega⟩, if_pos (by omega)]; done) | (rw [if_pos ⟨by assumption, by omega⟩, if_neg (by omega)]; done)))] at q; cases q))), by rw [ht]; exact hP, hD, hS.F ht⟩) hS.2.2 d_Mo_may_87
      · exact absurd c_3 (by omega)
  · skip
    obtain ⟨⟨⟨f1, f2⟩, f3⟩, f4⟩ := id c_1
    obtain rfl : x_f = nI f := z_cl hx_f (by omega)
    refine lv_iload_n hx hb d_Mo_may_8 rfl (lv_at hl 3 rfl) ?_
    refine lv_i2l hx hb d_Mo_may_9 rfl ?_
    refine lv_lconst (v := 1) hx hb d_Mo_may_10 (by decide) ?_
    refine lv_iload hx hb d_Mo_may_11 (lv_at hl 4 rfl) ?_
    refine lv_i2l hx hb d_Mo_may_13 rfl ?_
    refine rdS ⟨hx, hb, hml, hown, hts⟩ hK hP (k_Mo_in l (v := n) (x_v := x_n.toInt64) (u := 1) (x_u := 1) (w := ((k : Nat) : Int)) (x_w := ((nI k).toInt64)) ((Int32.toInt_toInt64 _).trans hx_n) (show Int64.toInt 1 = 1 by decide) ((Int32.toInt_toInt64 _).trans (nI_toInt (by omega))) ) w_883 m_Mo_in ⟨by decide, by decide⟩ rfl hl.1 rfl (Nat.le_of_ble_eq_true rfl) d_Mo_may_14 ⟨Nat.zero_le _, Nat.zero_le _⟩ ?_
    refine lb_if_eq (tgt := 40) hx hb d_Mo_may_17 (by decide) (fun c_4 => ?_) (fun c_4 => ?_)
    · skip
      refine lv_iconst (v := nI 0) hx hb d_Mo_may_40 (by decide) ?_
      refine lv_istore (lv' := [(5, .int (nI 0)), (0, .ref (ad 0)), (1, .int (nI f)), (2, .int x_a), (3, .int x_n), (4, .int (nI k))]) hx hb d_Mo_may_41 hl (by decide) rfl (fun ls hl => ?_)
      refine lv_aload_n hx hb d_Mo_may_43 rfl (lv_at hl 1 rfl) ?_
      refine lv_iload hx hb d_Mo_may_44 (lv_at hl 0 rfl) ?_
      refine ln_if_ne (tgt := 53) hx hb (by omega) d_Mo_may_46 (by decide) (fun c_5 => ?_) (fun c_5 => ?_)
      · exact absurd c_5 (by omega)
      · skip
        refine lv_iconst (v := nI 1) hx hb d_Mo_may_49 (by decide) ?_
        refine lv_goto (tgt := 72) hx hb d_Mo_may_50 (by decide) ?_
        refine va_put (D := D) (ci := 6) (v := .int (nI 1)) (ty := .int) (C := R_Mo) (T := T_Mo) (N := 11) hx hb hts u_Mo t_Mo t_Mo_ok n_Mo hown hK hP hD hS 0 rfl rfl 0 (by decide) (hts _ w_839) (fun _ h9 => h9) rfl (by decide +kernel) rfl rfl (Nat.le_of_ble_eq_true rfl) d_Mo_may_72 (fun H locs hP hD hS => ?_)
        have hP : va_P D vwC (wsM ct ad (nI 1) dk tk kd lc sz bh wt bl tg fs) H := hP
        have hD : va_D A (wsM ct ad (nI 1) dk tk kd lc sz bh wt bl tg fs) := hD
        refine lv_aload_n hx hb d_Mo_may_75 rfl (lv_at hl 1 rfl) ?_
        refine va_get (D := D) (ci := 6) (v := .int (nI 1)) (C := R_Mo) (T := T_Mo) (N := 11) hx hb hts u_Mo hown hK hP 0 rfl rfl 0 (by decide) (hts _ w_839) (fun _ h9 => h9) rfl d_Mo_may_76 ?_
        refine ln_if_ne (tgt := 86) hx hb (by omega) d_Mo_may_79 (by decide) (fun c_6 => ?_) (fun c_6 => ?_)
        · skip
          refine lv_iconst (v := nI 0) hx hb d_Mo_may_86 (by decide) ?_
          have e9 : wsM ct ad (nI 1) dk tk kd lc sz bh wt bl tg fs = wsM ct ad (nI (mmay_c (cd, dk, tk, kd, lc, sz, bh, wt, bl, tg, fs) f a n k)) dk tk kd lc sz bh wt bl tg fs := (by rw [(show mmay_c (cd, dk, tk, kd, lc, sz, bh, wt, bl, tg, fs) f a n k = 1 from (by unfold mmay_c; dsimp only [pj_kd, pj_bl, pj_bh, pj_wt, pj_fs, pj_cd, pj_dk, pj_tk, pj_lc, pj_sz, pj_tg]; (try simp only [Int.toNat_natCast]); first | (rw [if_neg (fun q => absurd q.1 (by assumption))]; done) | (rw [if_neg (fun q => absurd q.2 (by omega))]; done) | (rw [if_pos ⟨by assumption, by omega⟩, if_pos (by omega)]; done) | (rw [if_pos ⟨by assumption, by omega⟩, if_neg (by omega)]; done)))])
          rw [e9] at hP hD
          exact W.zret (ty := .boolean) (v := nI 0) hx hb hr rfl (fun t9 ht hW => ⟨congrArg (fun z => Outcome.returned (some (Value.int z))) (show nI 0 = (bI (mmay_c (cd, dk, tk, kd, lc, sz, bh, wt, bl, tg, fs) f a n k = 0)) from (by first | exact bI_t (show mmay_c (cd, dk, tk, kd, lc, sz, bh, wt, bl, tg, fs) f a n k = 1 from (by unfold mmay_c; dsimp only [pj_kd, pj_bl, pj_bh, pj_wt, pj_fs, pj_cd, pj_dk, pj_tk, pj_lc, pj_sz, pj_tg]; (try simp only [Int.toNat_natCast]); first | (rw [if_neg (fun q => absurd q.1 (by assumption))]; done) | (rw [if_neg (fun q => absurd q.2 (by omega))]; done) | (rw [if_pos ⟨by assumption, by omega⟩, if_pos (by omega)]; done) | (rw [if_pos ⟨by assumption, by omega⟩, if_neg (by omega)]; done))) | exact bI_f (fun q => by rw [(show mmay_c (cd, dk, tk, kd, lc, sz, bh, wt, bl, tg, fs) f a n k = 1 from (by unfold mmay_c; dsimp only [pj_kd, pj_bl, pj_bh, pj_wt, pj_fs, pj_cd, pj_dk, pj_tk, pj_lc, pj_sz, pj_tg]; (try simp only [Int.toNat_natCast]); first | (rw [if_neg (fun q => absurd q.1 (by assumption))]; done) | (rw [if_neg (fun q => absurd q.2 (by omega))]; done) | (rw [if_pos ⟨by assumption, by omega⟩, if_pos (by omega)]; done) | (rw [if_pos ⟨by assumption, by omega⟩, if_neg (by omega)]; done)))] at q; cases q))), by rw [ht]; exact hP, hD, hS.F ht⟩) hS.2.2 d_Mo_may_87
        · exact absurd c_6 (by omega)
    · skip
      refine lv_iload_n hx hb d_Mo_may_20 rfl (lv_at hl 2 rfl) ?_
      refine lz_if_lt (tgt := 40) hx hb hx_a d_Mo_may_21 (by decide) (fun c_7 => ?_) (fun c_7 => ?_)
      · skip
        refine lv_iconst (v := nI 0) hx hb d_Mo_may_40 (by decide) ?_
        refine lv_istore (lv' := [(5, .int (nI 0)), (0, .ref (ad 0)), (1, .int (nI f)), (2, .int x_a), (3, .int x_n), (4, .int (nI k))]) hx hb d_Mo_may_41 hl (by decide) rfl (fun ls hl => ?_)
        refine lv_aload_n hx hb d_Mo_may_43 rfl (lv_at hl 1 rfl) ?_
        refine lv_iload hx hb d_Mo_may_44 (lv_at hl 0 rfl) ?_
        refine ln_if_ne (tgt := 53) hx hb (by omega) d_Mo_may_46 (by decide) (fun c_8 => ?_) (fun c_8 => ?_)
        · exact absurd c_8 (by omega)
        · skip
          refine lv_iconst (v := nI 1) hx hb d_Mo_may_49 (by decide) ?_
          refine lv_goto (tgt := 72) hx hb d_Mo_may_50 (by decide) ?_
          refine va_put (D := D) (ci := 6) (v := .int (nI 1)) (ty := .int) (C := R_Mo) (T := T_Mo) (N := 11) hx hb hts u_Mo t_Mo t_Mo_ok n_Mo hown hK hP hD hS 0 rfl rfl 0 (by decide) (hts _ w_839) (fun _ h9 => h9) rfl (by decide +kernel) rfl rfl (Nat.le_of_ble_eq_true rfl) d_Mo_may_72 (fun H locs hP hD hS => ?_)
          have hP : va_P D vwC (wsM ct ad (nI 1) dk tk kd lc sz bh wt bl tg fs) H := hP
          have hD : va_D A (wsM ct ad (nI 1) dk tk kd lc sz bh wt bl tg fs) := hD
          refine lv_aload_n hx hb d_Mo_may_75 rfl (lv_at hl 1 rfl) ?_
          refine va_get (D := D) (ci := 6) (v := .int (nI 1)) (C := R_Mo) (T := T_Mo) (N := 11) hx hb hts u_Mo hown hK hP 0 rfl rfl 0 (by decide) (hts _ w_839) (fun _ h9 => h9) rfl d_Mo_may_76 ?_
          refine ln_if_ne (tgt := 86) hx hb (by omega) d_Mo_may_79 (by decide) (fun c_9 => ?_) (fun c_9 => ?_)
          · skip
            refine lv_iconst (v := nI 0) hx hb d_Mo_may_86 (by decide) ?_
            have e9 : wsM ct ad (nI 1) dk tk kd lc sz bh wt bl tg fs = wsM ct ad (nI (mmay_c (cd, dk, tk, kd, lc, sz, bh, wt, bl, tg, fs) f a n k)) dk tk kd lc sz bh wt bl tg fs := (by rw [(show mmay_c (cd, dk, tk, kd, lc, sz, bh, wt, bl, tg, fs) f a n k = 1 from (by unfold mmay_c; dsimp only [pj_kd, pj_bl, pj_bh, pj_wt, pj_fs, pj_cd, pj_dk, pj_tk, pj_lc, pj_sz, pj_tg]; (try simp only [Int.toNat_natCast]); first | (rw [if_neg (fun q => absurd q.1 (by assumption))]; done) | (rw [if_neg (fun q => absurd q.2 (by omega))]; done) | (rw [if_pos ⟨by assumption, by omega⟩, if_pos (by omega)]; done) | (rw [if_pos ⟨by assumption, by omega⟩, if_neg (by omega)]; done)))])
            rw [e9] at hP hD
            exact W.zret (ty := .boolean) (v := nI 0) hx hb hr rfl (fun t9 ht hW => ⟨congrArg (fun z => Outcome.returned (some (Value.int z))) (show nI 0 = (bI (mmay_c (cd, dk, tk, kd, lc, sz, bh, wt, bl, tg, fs) f a n k = 0)) from (by first | exact bI_t (show mmay_c (cd, dk, tk, kd, lc, sz, bh, wt, bl, tg, fs) f a n k = 1 from (by unfold mmay_c; dsimp only [pj_kd, pj_bl, pj_bh, pj_wt, pj_fs, pj_cd, pj_dk, pj_tk, pj_lc, pj_sz, pj_tg]; (try simp only [Int.toNat_natCast]); first | (rw [if_neg (fun q => absurd q.1 (by assumption))]; done) | (rw [if_neg (fun q => absurd q.2 (by omega))]; done) | (rw [if_pos ⟨by assumption, by omega⟩, if_pos (by omega)]; done) | (rw [if_pos ⟨by assumption, by omega⟩, if_neg (by omega)]; done))) | exact bI_f (fun q => by rw [(show mmay_c (cd, dk, tk, kd, lc, sz, bh, wt, bl, tg, fs) f a n k = 1 from (by unfold mmay_c; dsimp only [pj_kd, pj_bl, pj_bh, pj_wt, pj_fs, pj_cd, pj_dk, pj_tk, pj_lc, pj_sz, pj_tg]; (try simp only [Int.toNat_natCast]); first | (rw [if_neg (fun q => absurd q.1 (by assumption))]; done) | (rw [if_neg (fun q => absurd q.2 (by omega))]; done) | (rw [if_pos ⟨by assumption, by omega⟩, if_pos (by omega)]; done) | (rw [if_pos ⟨by assumption, by omega⟩, if_neg (by omega)]; done)))] at q; cases q))), by rw [ht]; exact hP, hD, hS.F ht⟩) hS.2.2 d_Mo_may_87
          · exact absurd c_9 (by omega)
      · skip
        refine lv_iload_n hx hb d_Mo_may_24 rfl (lv_at hl 2 rfl) ?_
        refine lv_i2l hx hb d_Mo_may_25 rfl ?_
        refine lv_iload_n hx hb d_Mo_may_26 rfl (lv_at hl 3 rfl) ?_
        refine lv_i2l hx hb d_Mo_may_27 rfl ?_
        refine lv_ladd hx hb d_Mo_may_28 ?_
        have z_10 : (x_a.toInt64 + x_n.toInt64).toInt = a + n := zl_add ((Int32.toInt_toInt64 _).trans hx_a) ((Int32.toInt_toInt64 _).trans hx_n) (by omega) (by omega)
        refine lv_ldc2 (v := 15360) hx hb hown (hts _ w_927) d_Mo_may_29 ?_
        refine W.lcmp hx hb d_Mo_may_32 ?_
        refine lc_if_gt (tgt := 40) hx hb z_10 (show Int64.toInt 15360 = 15360 by decide) d_Mo_may_33 (by decide) (fun c_11 => ?_) (fun c_11 => ?_)
        · skip
          refine lv_iconst (v := nI 0) hx hb d_Mo_may_40 (by decide) ?_
          refine lv_istore (lv' := [(5, .int (nI 0)), (0, .ref (ad 0)), (1, .int (nI f)), (2, .int x_a), (3, .int x_n), (4, .int (nI k))]) hx hb d_Mo_may_41 hl (by decide) rfl (fun ls hl => ?_)
          refine lv_aload_n hx hb d_Mo_may_43 rfl (lv_at hl 1 rfl) ?_
          refine lv_iload hx hb d_Mo_may_44 (lv_at hl 0 rfl) ?_
          refine ln_if_ne (tgt := 53) hx hb (by omega) d_Mo_may_46 (by decide) (fun c_12 => ?_) (fun c_12 => ?_)
          · exact absurd c_12 (by omega)
          · skip
            refine lv_iconst (v := nI 1) hx hb d_Mo_may_49 (by decide) ?_
            refine lv_goto (tgt := 72) hx hb d_Mo_may_50 (by decide) ?_
            refine va_put (D := D) (ci := 6) (v := .int (nI 1)) (ty := .int) (C := R_Mo) (T := T_Mo) (N := 11) hx hb hts u_Mo t_Mo t_Mo_ok n_Mo hown hK hP hD hS 0 rfl rfl 0 (by decide) (hts _ w_839) (fun _ h9 => h9) rfl (by decide +kernel) rfl rfl (Nat.le_of_ble_eq_true rfl) d_Mo_may_72 (fun H locs hP hD hS => ?_)
            have hP : va_P D vwC (wsM ct ad (nI 1) dk tk kd lc sz bh wt bl tg fs) H := hP
            have hD : va_D A (wsM ct ad (nI 1) dk tk kd lc sz bh wt bl tg fs) := hD
            refine lv_aload_n hx hb d_Mo_may_75 rfl (lv_at hl 1 rfl) ?_
            refine va_get (D := D) (ci := 6) (v := .int (nI 1)) (C := R_Mo) (T := T_Mo) (N := 11) hx hb hts u_Mo hown hK hP 0 rfl rfl 0 (by decide) (hts _ w_839) (fun _ h9 => h9) rfl d_Mo_may_76 ?_
            refine ln_if_ne (tgt := 86) hx hb (by omega) d_Mo_may_79 (by decide) (fun c_13 => ?_) (fun c_13 => ?_)
            · skip
              refine lv_iconst (v := nI 0) hx hb d_Mo_may_86 (by decide) ?_
              have e9 : wsM ct ad (nI 1) dk tk kd lc sz bh wt bl tg fs = wsM ct ad (nI (mmay_c (cd, dk, tk, kd, lc, sz, bh, wt, bl, tg, fs) f a n k)) dk tk kd lc sz bh wt bl tg fs := (by rw [(show mmay_c (cd, dk, tk, kd, lc, sz, bh, wt, bl, tg, fs) f a n k = 1 from (by unfold mmay_c; dsimp only [pj_kd, pj_bl, pj_bh, pj_wt, pj_fs, pj_cd, pj_dk, pj_tk, pj_lc, pj_sz, pj_tg]; (try simp only [Int.toNat_natCast]); first | (rw [if_neg (fun q => absurd q.1 (by assumption))]; done) | (rw [if_neg (fun q => absurd q.2 (by omega))]; done) | (rw [if_pos ⟨by assumption, by omega⟩, if_pos (by omega)]; done) | (rw [if_pos ⟨by assumption, by omega⟩, if_neg (by omega)]; done)))])
              rw [e9] at hP hD
              exact W.zret (ty := .boolean) (v := nI 0) hx hb hr rfl (fun t9 ht hW => ⟨congrArg (fun z => Outcome.returned (some (Value.int z))) (show nI 0 = (bI (mmay_c (cd, dk, tk, kd, lc, sz, bh, wt, bl, tg, fs) f a n k = 0)) from (by first | exact bI_t (show mmay_c (cd, dk, tk, kd, lc, sz, bh, wt, bl, tg, fs) f a n k = 1 from (by unfold mmay_c; dsimp only [pj_kd, pj_bl, pj_bh, pj_wt, pj_fs, pj_cd, pj_dk, pj_tk, pj_lc, pj_sz, pj_tg]; (try simp only [Int.toNat_natCast]); first | (rw [if_neg (fun q => absurd q.1 (by assumption))]; done) | (rw [if_neg (fun q => absurd q.2 (by omega))]; done) | (rw [if_pos ⟨by assumption, by omega⟩, if_pos (by omega)]; done) | (rw [if_pos ⟨by assumption, by omega⟩, if_neg (by omega)]; done))) | exact bI_f (fun q => by rw [(show mmay_c (cd, dk, tk, kd, lc, sz, bh, wt, bl, tg, fs) f a n k = 1 from (by unfold mmay_c; dsimp only [pj_kd, pj_bl, pj_bh, pj_wt, pj_fs, pj_cd, pj_dk, pj_tk, pj_lc, pj_sz, pj_tg]; (try simp only [Int.toNat_natCast]); first | (rw [if_neg (fun q => absurd q.1 (by assumption))]; done) | (rw [if_neg (fun q => absurd q.2 (by omega))]; done) | (rw [if_pos ⟨by assumption, by omega⟩, if_pos (by omega)]; done) | (rw [if_pos ⟨by assumption, by omega⟩, if_neg (by omega)]; done)))] at q; cases q))), by rw [ht]; exact hP, hD, hS.F ht⟩) hS.2.2 d_Mo_may_87
            · exact absurd c_13 (by omega)
        · skip
          refine lv_iconst (v := nI 1) hx hb d_Mo_may_36 (by decide) ?_
          refine lv_goto (tgt := 41) hx hb d_Mo_may_37 (by decide) ?_
          refine lv_istore (lv' := [(5, .int (nI 1)), (0, .ref (ad 0)), (1, .int (nI f)), (2, .int x_a), (3, .int x_n), (4, .int (nI k))]) hx hb d_Mo_may_41 hl (by decide) rfl (fun ls hl => ?_)
          refine lv_aload_n hx hb d_Mo_may_43 rfl (lv_at hl 1 rfl) ?_
          refine lv_iload hx hb d_Mo_may_44 (lv_at hl 0 rfl) ?_
          refine ln_if_ne (tgt := 53) hx hb (by omega) d_Mo_may_46 (by decide) (fun c_14 => ?_) (fun c_14 => ?_)
          · skip
            obtain ⟨a1, rfl⟩ := Int.eq_ofNat_of_zero_le (show 0 ≤ a by omega)
            obtain rfl : x_a = nI a1 := z_i hx_a (by omega)
            obtain ⟨n1, rfl⟩ := Int.eq_ofNat_of_zero_le (show 0 ≤ n by omega)
            obtain rfl : x_n = nI n1 := z_i hx_n (by omega)
            have hm1 := mf1_le (tk := tk) 128 0 0
            have hm2 := mwt_le (bl := bl) (f := f) ((a1 + n1 - 1) / 1024 + 1 - a1 / 1024) (a1 / 1024) 0
            refine lv_aload_n hx hb d_Mo_may_53 rfl (lv_at hl 1 rfl) ?_
            refine lv_iload_n hx hb d_Mo_may_54 rfl (lv_at hl 2 rfl) ?_
            refine lv_iload_n hx hb d_Mo_may_55 rfl (lv_at hl 3 rfl) ?_
            refine lv_iload_n hx hb d_Mo_may_56 rfl (lv_at hl 4 rfl) ?_
            refine rdV ⟨hx, hb, hml, hown, hts⟩ hK hP (k_Mo_wanted l (f := f) (a := a1) (n := n1) hbl (by omega) (by omega) (by omega)) w_928 m_Mo_wanted ⟨by decide, by decide⟩ 0 rfl rfl rfl hl.1 rfl (Nat.le_of_ble_eq_true rfl) d_Mo_may_57 ⟨Nat.zero_le _, Nat.zero_le _⟩ ?_
            refine lv_aload_n hx hb d_Mo_may_60 rfl (lv_at hl 1 rfl) ?_
            refine rdV ⟨hx, hb, hml, hown, hts⟩ hK hP (k_Mo_freeOnes l  ) w_902 m_Mo_freeOnes ⟨by decide, by decide⟩ 0 rfl rfl rfl hl.1 rfl (Nat.le_of_ble_eq_true rfl) d_Mo_may_61 ⟨Nat.zero_le _, Nat.zero_le _⟩ ?_
            refine ln_icmp_le (tgt := 71) hx hb (by omega) (by omega) d_Mo_may_64 (by decide) (fun c_15 => ?_) (fun c_15 => ?_)
            · skip
              refine lv_iconst (v := nI 0) hx hb d_Mo_may_71 (by decide) ?_
              refine va_put (D := D) (ci := 6) (v := .int (nI 0)) (ty := .int) (C := R_Mo) (T := T_Mo) (N := 11) hx hb hts u_Mo t_Mo t_Mo_ok n_Mo hown hK hP hD hS 0 rfl rfl 0 (by decide) (hts _ w_839) (fun _ h9 => h9) rfl (by decide +kernel) rfl rfl (Nat.le_of_ble_eq_true rfl) d_Mo_may_72 (fun H locs hP hD hS => ?_)
              have hP : va_P D vwC (wsM ct ad (nI 0) dk tk kd lc sz bh wt bl tg fs) H := hP
              have hD : va_D A (wsM ct ad (nI 0) dk tk kd lc sz bh wt bl tg fs) := hD
              refine lv_aload_n hx hb d_Mo_may_75 rfl (lv_at hl 1 rfl) ?_
              refine va_get (D := D) (ci := 6) (v := .int (nI 0)) (C := R_Mo) (T := T_Mo) (N := 11) hx hb hts u_Mo hown hK hP 0 rfl rfl 0 (by decide) (hts _ w_839) (fun _ h9 => h9) rfl d_Mo_may_76 ?_
              refine ln_if_ne (tgt := 86) hx hb (by omega) d_Mo_may_79 (by decide) (fun c_16 => ?_) (fun c_16 => ?_)
              · exact absurd c_16 (by omega)
              · skip
                refine lv_iconst (v := nI 1) hx hb d_Mo_may_82 (by decide) ?_
                refine lv_goto (tgt := 87) hx hb d_Mo_may_83 (by decide) ?_
                have e9 : wsM ct ad (nI 0) dk tk kd lc sz bh wt bl tg fs = wsM ct ad (nI (mmay_c (cd, dk, tk, kd, lc, sz, bh, wt, bl, tg, fs) f ((a1 : Nat) : Int) ((n1 : Nat) : Int) k)) dk tk kd lc sz bh wt bl tg fs := (by rw [(show mmay_c (cd, dk, tk, kd, lc, sz, bh, wt, bl, tg, fs) f ((a1 : Nat) : Int) ((n1 : Nat) : Int) k = 0 from (by unfold mmay_c; dsimp only [pj_kd, pj_bl, pj_bh, pj_wt, pj_fs, pj_cd, pj_dk, pj_tk, pj_lc, pj_sz, pj_tg]; (try simp only [Int.toNat_natCast]); first | (rw [if_neg (fun q => absurd q.1 (by assumption))]; done) | (rw [if_neg (fun q => absurd q.2 (by omega))]; done) | (rw [if_pos ⟨by assumption, by omega⟩, if_pos (by omega)]; done) | (rw [if_pos ⟨by assumption, by omega⟩, if_neg (by omega)]; done)))])
                rw [e9] at hP hD
                exact W.zret (ty := .boolean) (v := nI 1) hx hb hr rfl (fun t9 ht hW => ⟨congrArg (fun z => Outcome.returned (some (Value.int z))) (show nI 1 = (bI (mmay_c (cd, dk, tk, kd, lc, sz, bh, wt, bl, tg, fs) f ((a1 : Nat) : Int) ((n1 : Nat) : Int) k = 0)) from (by first | exact bI_t (show mmay_c (cd, dk, tk, kd, lc, sz, bh, wt, bl, tg, fs) f ((a1 : Nat) : Int) ((n1 : Nat) : Int) k = 0 from (by unfold mmay_c; dsimp only [pj_kd, pj_bl, pj_bh, pj_wt, pj_fs, pj_cd, pj_dk, pj_tk, pj_lc, pj_sz, pj_tg]; (try simp only [Int.toNat_natCast]); first | (rw [if_neg (fun q => absurd q.1 (by assumption))]; done) | (rw [if_neg (fun q => absurd q.2 (by omega))]; done) | (rw [if_pos ⟨by assumption, by omega⟩, if_pos (by omega)]; done) | (rw [if_pos ⟨by assumption, by omega⟩, if_neg (by omega)]; done))) | exact bI_f (fun q => by rw [(show mmay_c (cd, dk, tk, kd, lc, sz, bh, wt, bl, tg, fs) f ((a1 : Nat) : Int) ((n1 : Nat) : Int) k = 0 from (by unfold mmay_c; dsimp only [pj_kd, pj_bl, pj_bh, pj_wt, pj_fs, pj_cd, pj_dk, pj_tk, pj_lc, pj_sz, pj_tg]; (try simp only [Int.toNat_natCast]); first | (rw [if_neg (fun q => absurd q.1 (by assumption))]; done) | (rw [if_neg (fun q => absurd q.2 (by omega))]; done) | (rw [if_pos ⟨by assumption, by omega⟩, if_pos (by omega)]; done) | (rw [if_pos ⟨by assumption, by omega⟩, if_neg (by omega)]; done)))] at q; cases q))), by rw [ht]; exact hP, hD, hS.F ht⟩) hS.2.2 d_Mo_may_87
            · skip
              refine lv_iconst (v := nI 2) hx hb d_Mo_may_67 (by decide) ?_
              refine lv_goto (tgt := 72) hx hb d_Mo_may_68 (by decide) ?_
              refine va_put (D := D) (ci := 6) (v := .int (nI 2)) (ty := .int) (C := R_Mo) (T := T_Mo) (N := 11) hx hb hts u_Mo t_Mo t_Mo_ok n_Mo hown hK hP hD hS 0 rfl rfl 0 (by decide) (hts _ w_839) (fun _ h9 => h9) rfl (by decide +kernel) rfl rfl (Nat.le_of_ble_eq_true rfl) d_Mo_may_72 (fun H locs hP hD hS => ?_)
              have hP : va_P D vwC (wsM ct ad (nI 2) dk tk kd lc sz bh wt bl tg fs) H := hP
              have hD : va_D A (wsM ct ad (nI 2) dk tk kd lc sz bh wt bl tg fs) := hD
              refine lv_aload_n hx hb d_Mo_may_75 rfl (lv_at hl 1 rfl) ?_
              refine va_get (D := D) (ci := 6) (v := .int (nI 2)) (C := R_Mo) (T := T_Mo) (N := 11) hx hb hts u_Mo hown hK hP 0 rfl rfl 0 (by decide) (hts _ w_839) (fun _ h9 => h9) rfl d_Mo_may_76 ?_
              refine ln_if_ne (tgt := 86) hx hb (by omega) d_Mo_may_79 (by decide) (fun c_17 => ?_) (fun c_17 => ?_)
              · skip
                refine lv_iconst (v := nI 0) hx hb d_Mo_may_86 (by decide) ?_
                have e9 : wsM ct ad (nI 2) dk tk kd lc sz bh wt bl tg fs = wsM ct ad (nI (mmay_c (cd, dk, tk, kd, lc, sz, bh, wt, bl, tg, fs) f ((a1 : Nat) : Int) ((n1 : Nat) : Int) k)) dk tk kd lc sz bh wt bl tg fs := (by rw [(show mmay_c (cd, dk, tk, kd, lc, sz, bh, wt, bl, tg, fs) f ((a1 : Nat) : Int) ((n1 : Nat) : Int) k = 2 from (by unfold mmay_c; dsimp only [pj_kd, pj_bl, pj_bh, pj_wt, pj_fs, pj_cd, pj_dk, pj_tk, pj_lc, pj_sz, pj_tg]; (try simp only [Int.toNat_natCast]); first | (rw [if_neg (fun q => absurd q.1 (by assumption))]; done) | (rw [if_neg (fun q => absurd q.2 (by omega))]; done) | (rw [if_pos ⟨by assumption, by omega⟩, if_pos (by omega)]; done) | (rw [if_pos ⟨by assumption, by omega⟩, if_neg (by omega)]; done)))])
                rw [e9] at hP hD
                exact W.zret (ty := .boolean) (v := nI 0) hx hb hr rfl (fun t9 ht hW => ⟨congrArg (fun z => Outcome.returned (some (Value.int z))) (show nI 0 = (bI (mmay_c (cd, dk, tk, kd, lc, sz, bh, wt, bl, tg, fs) f ((a1 : Nat) : Int) ((n1 : Nat) : Int) k = 0)) from (by first | exact bI_t (show mmay_c (cd, dk, tk, kd, lc, sz, bh, wt, bl, tg, fs) f ((a1 : Nat) : Int) ((n1 : Nat) : Int) k = 2 from (by unfold mmay_c; dsimp only [pj_kd, pj_bl, pj_bh, pj_wt, pj_fs, pj_cd, pj_dk, pj_tk, pj_lc, pj_sz, pj_tg]; (try simp only [Int.toNat_natCast]); first | (rw [if_neg (fun q => absurd q.1 (by assumption))]; done) | (rw [if_neg (fun q => absurd q.2 (by omega))]; done) | (rw [if_pos ⟨by assumption, by omega⟩, if_pos (by omega)]; done) | (rw [if_pos ⟨by assumption, by omega⟩, if_neg (by omega)]; done))) | exact bI_f (fun q => by rw [(show mmay_c (cd, dk, tk, kd, lc, sz, bh, wt, bl, tg, fs) f ((a1 : Nat) : Int) ((n1 : Nat) : Int) k = 2 from (by unfold mmay_c; dsimp only [pj_kd, pj_bl, pj_bh, pj_wt, pj_fs, pj_cd, pj_dk, pj_tk, pj_lc, pj_sz, pj_tg]; (try simp only [Int.toNat_natCast]); first | (rw [if_neg (fun q => absurd q.1 (by assumption))]; done) | (rw [if_neg (fun q => absurd q.2 (by omega))]; done) | (rw [if_pos ⟨by assumption, by omega⟩, if_pos (by omega)]; done) | (rw [if_pos ⟨by assumption, by omega⟩, if_neg (by omega)]; done)))] at q; cases q))), by rw [ht]; exact hP, hD, hS.F ht⟩) hS.2.2 d_Mo_may_87
              · exact absurd c_17 (by omega)
          · exact absurd c_14 (by omega)
theorem m_Mo_write : mV R_Mo y_Mo_write (Cond.code y_Mo_write c_Mo_write 7 (some .int)) 4 := ⟨⟨w_911, w_912, w_7, w_913⟩, by decide +kernel⟩
set_option maxHeartbeats 4000000 in
set_option maxRecDepth 100000 in
theorem k_Mo_write (l : Launch) {D : va_G} {ct : Nat → ClassId} {ad : Nat → Nat} {cd : Int32} {dk : Nat → Int32} {tk kd lc sz bh wt : Nat → Int32} {bl : Nat → Nat} {tg : Nat → Int32} {fs : Int32} {A : Nat → Prop} {f : Nat} {x_f : Int32} (hx_f : x_f.toNatClampNeg = f) {a : Int} {x_a : Int32} (hx_a : x_a.toInt = a) {r : Int64} {n : Int} {x_n : Int32} (hx_n : x_n.toInt = n) (h0 : bOK bl) : Met l y_Mo_write (Cond.code y_Mo_write c_Mo_write 7 (some .int) :: wA) (rmk 5 0 0) (va_Pc [.ref (ad 0), .int x_f, .int x_a, .long r, .int x_n] (cW A D (tyM ct) (wsM ct ad cd dk tk kd lc sz bh wt bl tg fs))) (wQ (some (.int (if mmay_c (cd, dk, tk, kd, lc, sz, bh, wt, bl, tg, fs) f a n 8 = 0 then pj_sz (mwr (cd, dk, tk, kd, lc, sz, bh, wt, bl, tg, fs) f a n r) f else nI 0))) A D (wsM ct ad (pj_cd (mwr (cd, dk, tk, kd, lc, sz, bh, wt, bl, tg, fs) f a n r)) (pj_dk (mwr (cd, dk, tk, kd, lc, sz, bh, wt, bl, tg, fs) f a n r)) (pj_tk (mwr (cd, dk, tk, kd, lc, sz, bh, wt, bl, tg, fs) f a n r)) (pj_kd (mwr (cd, dk, tk, kd, lc, sz, bh, wt, bl, tg, fs) f a n r)) (pj_lc (mwr (cd, dk, tk, kd, lc, sz, bh, wt, bl, tg, fs) f a n r)) (pj_sz (mwr (cd, dk, tk, kd, lc, sz, bh, wt, bl, tg, fs) f a n r)) (pj_bh (mwr (cd, dk, tk, kd, lc, sz, bh, wt, bl, tg, fs) f a n r)) (pj_wt (mwr (cd, dk, tk, kd, lc, sz, bh, wt, bl, tg, fs) f a n r)) (pj_bl (mwr (cd, dk, tk, kd, lc, sz, bh, wt, bl, tg, fs) f a n r)) (pj_tg (mwr (cd, dk, tk, kd, lc, sz, bh, wt, bl, tg, fs) f a n r)) (pj_fs (mwr (cd, dk, tk, kd, lc, sz, bh, wt, bl, tg, fs) f a n r)))) 0 0 A := by
  refine Met.ofW (cc := c_Mo_write) (maxL := 7) (ret := (some .int)) (by decide +kernel) rfl ?_
  intro p e s m args below meth c s₁ B0 hml hv
  obtain ⟨rfl, hA, hP, hD, hK⟩ := hv
  have hS : va_S A s.heap s.heap [] := va_S.rf
  have hx := B0.exec
  have hb := B0.bytes
  have hr := B0.returns
  have hts := fun w (h : w ∈ wA) => atoms_spec (ws := Cond.code y_Mo_write c_Mo_write 7 (some .int) :: wA) B0.pre w (List.mem_cons_of_mem _ h)
  have hown : s.vm.findClass R_Mo = some m.cls := findClass_of_methodNamed B0.named
  have hlocks := B0.notSynchronized
  have hl := lv_entry ([.ref (ad 0), .int x_f, .int x_a, .long r, .int x_n]) (n := 7) (Nat.le_of_ble_eq_true rfl)
  rw [lg_entry_eq]
  generalize (lg_sl ([.ref (ad 0), .int x_f, .int x_a, .long r, .int x_n]) ++ List.replicate (7 - (lg_sl ([.ref (ad 0), .int x_f, .int x_a, .long r, .int x_n])).length) Slot.unset).toArray = ls at hl ⊢
  have hl : lv_has ls 7 [(0, .ref (ad 0)), (1, .int x_f), (2, .int x_a), (3, .long r), (5, .int x_n)] := hl
  have hf_f : x_f.toInt.toNat = f := hx_f
  have hg_f := z_lt x_f
  have hf_a := z_lt x_a
  have hg_a := z_ge x_a
  rw [hx_a] at hf_a hg_a
  have hf_n := z_lt x_n
  have hg_n := z_ge x_n
  rw [hx_n] at hf_n hg_n
  have hbl := h0
  refine lv_aload_n hx hb d_Mo_write_0 rfl (lv_at hl 0 rfl) ?_
  refine lv_iload_n hx hb d_Mo_write_1 rfl (lv_at hl 1 rfl) ?_
  refine lv_iload_n hx hb d_Mo_write_2 rfl (lv_at hl 2 rfl) ?_
  refine lv_iload hx hb d_Mo_write_3 (lv_at hl 4 rfl) ?_
  refine lv_bipush (v := nI 8) hx hb d_Mo_write_5 (by decide) ?_
  refine wrV ⟨hx, hb, hml, hown, hts⟩ hK hP hD hS hA (k_Mo_may l (f := f) (x_f := x_f) (a := a) (x_a := x_a) (n := n) (x_n := x_n) (k := 8) hx_f hx_a hx_n hbl (by omega)) w_914 m_Mo_may ⟨by decide, by decide⟩ 0 rfl rfl rfl hl.1 rfl (Nat.le_of_ble_eq_true rfl) d_Mo_write_7 ⟨Nat.zero_le _, Nat.zero_le _⟩ (fun H locs hP hD hS => ?_)
  have hP : va_P D vwC (wsM ct ad (nI (mmay_c (cd, dk, tk, kd, lc, sz, bh, wt, bl, tg, fs) f a n 8)) dk tk kd lc sz bh wt bl tg fs) H := hP
  have hD : va_D A (wsM ct ad (nI (mmay_c (cd, dk, tk, kd, lc, sz, bh, wt, bl, tg, fs) f a n 8)) dk tk kd lc sz bh wt bl tg fs) := hD
  refine W.eq (g2 := F0 m 10 ls [.int (bI (mmay_c (cd, dk, tk, kd, lc, sz, bh, wt, bl, tg, fs) f a n 8 = 0))]) rfl ?_
  refine lb_if_ne (tgt := 15) hx hb d_Mo_write_10 (by decide) (fun c_1 => ?_) (fun c_1 => ?_)
  · skip
    have hc9 := c_1
    obtain ⟨⟨f1, f2⟩, q2, q3, q4, q5⟩ := mmay_0 hc9
    obtain rfl : x_f = nI f := z_cl hx_f (by omega)
    obtain ⟨a1, rfl⟩ := Int.eq_ofNat_of_zero_le (show 0 ≤ a by omega)
    obtain rfl : x_a = nI a1 := z_i hx_a (by omega)
    obtain ⟨n1, rfl⟩ := Int.eq_ofNat_of_zero_le (show 0 ≤ n by omega)
    obtain rfl : x_n = nI n1 := z_i hx_n (by omega)
    have hP : va_P D vwC (wsM ct ad (nI 0) dk tk kd lc sz bh wt bl tg fs) H := by have e7 := hP; rw [hc9] at e7; exact e7
    have hD : va_D A (wsM ct ad (nI 0) dk tk kd lc sz bh wt bl tg fs) := by have e7 := hD; rw [hc9] at e7; exact e7
    refine lv_aload_n hx hb d_Mo_write_15 rfl (lv_at hl 0 rfl) ?_
    refine lv_iload_n hx hb d_Mo_write_16 rfl (lv_at hl 1 rfl) ?_
    refine lv_iload_n hx hb d_Mo_write_17 rfl (lv_at hl 2 rfl) ?_
    refine lv_iload hx hb d_Mo_write_18 (lv_at hl 4 rfl) ?_
    refine wrV ⟨hx, hb, hml, hown, hts⟩ hK hP hD hS hA (k_Mo_takeAll l (f := f) (a := a1) (n := n1) hbl (by omega) (by omega) (by omega)) w_932 m_Mo_takeAll ⟨by decide, by decide⟩ 0 rfl rfl rfl hl.1 rfl (Nat.le_of_ble_eq_true rfl) d_Mo_write_20 ⟨Nat.zero_le _, Nat.zero_le _⟩ (fun H locs hP hD hS => ?_)
    have hbl : bOK ((mta (dk, tk, bl) f a1 n1).2.2) := mta_ok hbl
    have hP : va_P D vwC (wsM ct ad (nI 0) ((mta (dk, tk, bl) f a1 n1).1) ((mta (dk, tk, bl) f a1 n1).2.1) kd lc (msz sz f (a1 + n1)) bh wt ((mta (dk, tk, bl) f a1 n1).2.2) tg fs) H := hP
    have hD : va_D A (wsM ct ad (nI 0) ((mta (dk, tk, bl) f a1 n1).1) ((mta (dk, tk, bl) f a1 n1).2.1) kd lc (msz sz f (a1 + n1)) bh wt ((mta (dk, tk, bl) f a1 n1).2.2) tg fs) := hD
    refine W.eq (g2 := F0 m 23 ls []) rfl ?_
    refine lv_iconst (v := nI 0) hx hb d_Mo_write_23 (by decide) ?_
    refine lv_istore (lv' := [(6, .int (nI 0)), (0, .ref (ad 0)), (1, .int (nI f)), (2, .int (nI a1)), (3, .long r), (5, .int (nI n1))]) hx hb d_Mo_write_24 hl (by decide) rfl (fun ls hl => ?_)
    have loop26 : ∀ (n9 : Nat) (i : Nat) (d : Nat → Int32), n1 - i < n9 → i ≤ n1 → mwrd (pj_bl (mtaM (mcod (cd, dk, tk, kd, lc, sz, bh, wt, bl, tg, fs) 0) f a1 n1)) f a1 n1 r n1 0 (pj_dk (mtaM (mcod (cd, dk, tk, kd, lc, sz, bh, wt, bl, tg, fs) 0) f a1 n1)) = mwrd (pj_bl (mtaM (mcod (cd, dk, tk, kd, lc, sz, bh, wt, bl, tg, fs) 0) f a1 n1)) f a1 n1 r (n1 - i) i d → ∀ (H : Heap) (locs : List Loc), va_P D vwC (wsM ct ad (nI 0) d ((mta (dk, tk, bl) f a1 n1).2.1) kd lc (msz sz f (a1 + n1)) bh wt ((mta (dk, tk, bl) f a1 n1).2.2) tg fs) H → va_D A (wsM ct ad (nI 0) d ((mta (dk, tk, bl) f a1 n1).2.1) kd lc (msz sz f (a1 + n1)) bh wt ((mta (dk, tk, bl) f a1 n1).2.2) tg fs) → va_S A s.heap H locs → ∀ ls : Array Slot, lv_has ls 7 [(0, .ref (ad 0)), (1, .int (nI f)), (2, .int (nI a1)), (3, .long r), (5, .int (nI n1)), (6, .int (nI i))] → W p l e (headSpec (Cond.code y_Mo_write c_Mo_write 7 (some .int) :: wA) (rmk 5 0 0)).room s m ([.ref (ad 0), .int (nI f), .int (nI a1), .long r, .int (nI n1)] : List Value).toArray below meth c H locs 0 0 (MQ below (wQ (some (.int (if mmay_c (cd, dk, tk, kd, lc, sz, bh, wt, bl, tg, fs) f ((a1 : Nat) : Int) ((n1 : Nat) : Int) 8 = 0 then pj_sz (mwr (cd, dk, tk, kd, lc, sz, bh, wt, bl, tg, fs) f ((a1 : Nat) : Int) ((n1 : Nat) : Int) r) f else nI 0))) A D (wsM ct ad (pj_cd (mwr (cd, dk, tk, kd, lc, sz, bh, wt, bl, tg, fs) f ((a1 : Nat) : Int) ((n1 : Nat) : Int) r)) (pj_dk (mwr (cd, dk, tk, kd, lc, sz, bh, wt, bl, tg, fs) f ((a1 : Nat) : Int) ((n1 : Nat) : Int) r)) (pj_tk (mwr (cd, dk, tk, kd, lc, sz, bh, wt, bl, tg, fs) f ((a1 : Nat) : Int) ((n1 : Nat) : Int) r)) (pj_kd (mwr (cd, dk, tk, kd, lc, sz, bh, wt, bl, tg, fs) f ((a1 : Nat) : Int) ((n1 : Nat) : Int) r)) (pj_lc (mwr (cd, dk, tk, kd, lc, sz, bh, wt, bl, tg, fs) f ((a1 : Nat) : Int) ((n1 : Nat) : Int) r)) (pj_sz (mwr (cd, dk, tk, kd, lc, sz, bh, wt, bl, tg, fs) f ((a1 : Nat) : Int) ((n1 : Nat) : Int) r)) (pj_bh (mwr (cd, dk, tk, kd, lc, sz, bh, wt, bl, tg, fs) f ((a1 : Nat) : Int) ((n1 : Nat) : Int) r)) (pj_wt (mwr (cd, dk, tk, kd, lc, sz, bh, wt, bl, tg, fs) f ((a1 : Nat) : Int) ((n1 : Nat) : Int) r)) (pj_bl (mwr (cd, dk, tk, kd, lc, sz, bh, wt, bl, tg, fs) f ((a1 : Nat) : Int) ((n1 : Nat) : Int) r)) (pj_tg (mwr (cd, dk, tk, kd, lc, sz, bh, wt, bl, tg, fs) f ((a1 : Nat) : Int) ((n1 : Nat) : Int) r)) (pj_fs (mwr (cd, dk, tk, kd, lc, sz, bh, wt, bl, tg, fs) f ((a1 : Nat) : Int) ((n1 : Nat) : Int) r)))) ([.ref (ad 0), .int (nI f), .int (nI a1), .long r, .int (nI n1)] : List Value).toArray s 0 0 A) (F0 m 26 ls []) := by
      intro n9
      induction n9 with
      | zero => intro i d h8 h9 h10 H locs hP hD hS ls hl; exact absurd h8 (by omega)
      | succ n9 ih =>
        intro i d h8 h9 h10 H locs hP hD hS ls hl
        refine lv_iload hx hb d_Mo_write_26 (lv_at hl 5 rfl) ?_
        refine lv_iload hx hb d_Mo_write_28 (lv_at hl 4 rfl) ?_
        refine ln_icmp_ge (tgt := 61) hx hb (by omega) (by omega) d_Mo_write_30 (by decide) (fun c_2 => ?_) (fun c_2 => ?_)
        · skip
          refine lv_aload_n hx hb d_Mo_write_61 rfl (lv_at hl 0 rfl) ?_
          refine va_get (D := D) (ci := 6) (v := .ref (ad 5)) (C := R_Mo) (T := T_Mo) (N := 11) hx hb hts u_Mo hown hK hP 0 rfl rfl 5 (by decide) (hts _ w_844) (fun _ h9 => h9) rfl d_Mo_write_62 ?_
          refine lv_iload_n hx hb d_Mo_write_65 rfl (lv_at hl 1 rfl) ?_
          refine ln_iald hx hb hK hP 5 2 rfl rfl (by omega) (by decide) d_Mo_write_66 ?_
          have e9 : wsM ct ad (nI 0) d ((mta (dk, tk, bl) f a1 n1).2.1) kd lc (msz sz f (a1 + n1)) bh wt ((mta (dk, tk, bl) f a1 n1).2.2) tg fs = wsM ct ad (pj_cd (mwr (cd, dk, tk, kd, lc, sz, bh, wt, bl, tg, fs) f ((a1 : Nat) : Int) ((n1 : Nat) : Int) r)) (pj_dk (mwr (cd, dk, tk, kd, lc, sz, bh, wt, bl, tg, fs) f ((a1 : Nat) : Int) ((n1 : Nat) : Int) r)) (pj_tk (mwr (cd, dk, tk, kd, lc, sz, bh, wt, bl, tg, fs) f ((a1 : Nat) : Int) ((n1 : Nat) : Int) r)) (pj_kd (mwr (cd, dk, tk, kd, lc, sz, bh, wt, bl, tg, fs) f ((a1 : Nat) : Int) ((n1 : Nat) : Int) r)) (pj_lc (mwr (cd, dk, tk, kd, lc, sz, bh, wt, bl, tg, fs) f ((a1 : Nat) : Int) ((n1 : Nat) : Int) r)) (pj_sz (mwr (cd, dk, tk, kd, lc, sz, bh, wt, bl, tg, fs) f ((a1 : Nat) : Int) ((n1 : Nat) : Int) r)) (pj_bh (mwr (cd, dk, tk, kd, lc, sz, bh, wt, bl, tg, fs) f ((a1 : Nat) : Int) ((n1 : Nat) : Int) r)) (pj_wt (mwr (cd, dk, tk, kd, lc, sz, bh, wt, bl, tg, fs) f ((a1 : Nat) : Int) ((n1 : Nat) : Int) r)) (pj_bl (mwr (cd, dk, tk, kd, lc, sz, bh, wt, bl, tg, fs) f ((a1 : Nat) : Int) ((n1 : Nat) : Int) r)) (pj_tg (mwr (cd, dk, tk, kd, lc, sz, bh, wt, bl, tg, fs) f ((a1 : Nat) : Int) ((n1 : Nat) : Int) r)) (pj_fs (mwr (cd, dk, tk, kd, lc, sz, bh, wt, bl, tg, fs) f ((a1 : Nat) : Int) ((n1 : Nat) : Int) r)) := (by unfold mwr; rw [if_pos hc9, Int.toNat_natCast, Int.toNat_natCast, h10, show n1 - i = 0 by omega]; rfl)
          rw [e9] at hP hD
          exact W.iret (v := (msz sz f (a1 + n1)) f) hx hb hr (fun t9 ht hW => ⟨congrArg (fun z => Outcome.returned (some (Value.int z))) (show (msz sz f (a1 + n1)) f = (if mmay_c (cd, dk, tk, kd, lc, sz, bh, wt, bl, tg, fs) f ((a1 : Nat) : Int) ((n1 : Nat) : Int) 8 = 0 then pj_sz (mwr (cd, dk, tk, kd, lc, sz, bh, wt, bl, tg, fs) f ((a1 : Nat) : Int) ((n1 : Nat) : Int) r) f else nI 0) from (by first | (rw [if_neg (by assumption)]; done) | (rw [if_pos hc9]; unfold mwr; rw [if_pos hc9, Int.toNat_natCast, Int.toNat_natCast]; rfl))), by rw [ht]; exact hP, hD, hS.F ht⟩) hS.2.2 d_Mo_write_67
        · skip
          refine lv_aload_n hx hb d_Mo_write_33 rfl (lv_at hl 0 rfl) ?_
          refine lv_iload_n hx hb d_Mo_write_34 rfl (lv_at hl 1 rfl) ?_
          refine lv_iload_n hx hb d_Mo_write_35 rfl (lv_at hl 2 rfl) ?_
          refine lv_iload hx hb d_Mo_write_36 (lv_at hl 5 rfl) ?_
          refine ln_iadd hx hb d_Mo_write_38 ?_
          refine lv_lload_n hx hb d_Mo_write_39 rfl (lv_at hl 3 rfl) ?_
          refine lv_bipush (v := nI 8) hx hb d_Mo_write_40 (by decide) ?_
          refine lv_iload hx hb d_Mo_write_42 (lv_at hl 4 rfl) ?_
          refine lv_iconst (v := nI 1) hx hb d_Mo_write_44 (by decide) ?_
          refine ln_isub hx hb d_Mo_write_45 (by omega) ?_
          refine lv_iload hx hb d_Mo_write_46 (lv_at hl 5 rfl) ?_
          refine ln_isub hx hb d_Mo_write_48 (by omega) ?_
          refine ln_imul hx hb d_Mo_write_49 ?_
          refine lv_lshr hx hb d_Mo_write_50 rfl ?_
          refine lv_l2i hx hb d_Mo_write_51 rfl ?_
          refine wrV ⟨hx, hb, hml, hown, hts⟩ hK hP hD hS hA (k_Mo_set l (f := f) (a := (a1 + i)) (x := ((r >>> ((nI (8 * ((n1 - 1) - i))).toInt64 &&& 63)).toInt32)) hbl (by omega) (by omega)) w_936 m_Mo_set ⟨by decide, by decide⟩ 0 rfl rfl rfl hl.1 rfl (Nat.le_of_ble_eq_true rfl) d_Mo_write_52 ⟨Nat.zero_le _, Nat.zero_le _⟩ (fun H locs hP hD hS => ?_)
          have hP : va_P D vwC (wsM ct ad (nI 0) (mset d ((mta (dk, tk, bl) f a1 n1).2.2) f (a1 + i) ((r >>> ((nI (8 * ((n1 - 1) - i))).toInt64 &&& 63)).toInt32)) ((mta (dk, tk, bl) f a1 n1).2.1) kd lc (msz sz f (a1 + n1)) bh wt ((mta (dk, tk, bl) f a1 n1).2.2) tg fs) H := hP
          have hD : va_D A (wsM ct ad (nI 0) (mset d ((mta (dk, tk, bl) f a1 n1).2.2) f (a1 + i) ((r >>> ((nI (8 * ((n1 - 1) - i))).toInt64 &&& 63)).toInt32)) ((mta (dk, tk, bl) f a1 n1).2.1) kd lc (msz sz f (a1 + n1)) bh wt ((mta (dk, tk, bl) f a1 n1).2.2) tg fs) := hD
          refine W.eq (g2 := F0 m 55 ls []) rfl ?_
          refine lv_iinc (v := nI (i + 1)) (lv' := [(6, .int (nI (i + 1))), (0, .ref (ad 0)), (1, .int (nI f)), (2, .int (nI a1)), (3, .long r), (5, .int (nI n1))]) hx hb d_Mo_write_55 hl (k := 5) rfl (ln_inc (by decide)) (by decide) rfl (fun ls hl => ?_)
          refine lv_goto (tgt := 26) hx hb d_Mo_write_58 (by decide) ?_
          exact ih (i + 1) (mset d ((mta (dk, tk, bl) f a1 n1).2.2) f (a1 + i) ((r >>> ((nI (8 * ((n1 - 1) - i))).toInt64 &&& 63)).toInt32)) (by omega) (by omega) (by rw [h10, show n1 - i = n1 - (i + 1) + 1 by omega, mwrd]; rfl) _ _ hP hD hS ls (lv_sub hl [1, 2, 3, 4, 5, 0] rfl)
    exact loop26 (n1 + 1) 0 ((mta (dk, tk, bl) f a1 n1).1) (by omega) (by omega) rfl _ _ hP hD hS ls (lv_sub hl [1, 2, 3, 4, 5, 0] rfl)
  · skip
    refine lv_iconst (v := nI 0) hx hb d_Mo_write_13 (by decide) ?_
    have e9 : wsM ct ad (nI (mmay_c (cd, dk, tk, kd, lc, sz, bh, wt, bl, tg, fs) f a n 8)) dk tk kd lc sz bh wt bl tg fs = wsM ct ad (pj_cd (mwr (cd, dk, tk, kd, lc, sz, bh, wt, bl, tg, fs) f a n r)) (pj_dk (mwr (cd, dk, tk, kd, lc, sz, bh, wt, bl, tg, fs) f a n r)) (pj_tk (mwr (cd, dk, tk, kd, lc, sz, bh, wt, bl, tg, fs) f a n r)) (pj_kd (mwr (cd, dk, tk, kd, lc, sz, bh, wt, bl, tg, fs) f a n r)) (pj_lc (mwr (cd, dk, tk, kd, lc, sz, bh, wt, bl, tg, fs) f a n r)) (pj_sz (mwr (cd, dk, tk, kd, lc, sz, bh, wt, bl, tg, fs) f a n r)) (pj_bh (mwr (cd, dk, tk, kd, lc, sz, bh, wt, bl, tg, fs) f a n r)) (pj_wt (mwr (cd, dk, tk, kd, lc, sz, bh, wt, bl, tg, fs) f a n r)) (pj_bl (mwr (cd, dk, tk, kd, lc, sz, bh, wt, bl, tg, fs) f a n r)) (pj_tg (mwr (cd, dk, tk, kd, lc, sz, bh, wt, bl, tg, fs) f a n r)) (pj_fs (mwr (cd, dk, tk, kd, lc, sz, bh, wt, bl, tg, fs) f a n r)) := (by unfold mwr; rw [if_neg (by assumption)]; rfl)
    rw [e9] at hP hD
    exact W.iret (v := nI 0) hx hb hr (fun t9 ht hW => ⟨congrArg (fun z => Outcome.returned (some (Value.int z))) (show nI 0 = (if mmay_c (cd, dk, tk, kd, lc, sz, bh, wt, bl, tg, fs) f a n 8 = 0 then pj_sz (mwr (cd, dk, tk, kd, lc, sz, bh, wt, bl, tg, fs) f a n r) f else nI 0) from (by first | (rw [if_neg (by assumption)]; done) | (rw [if_pos hc9]; unfold mwr; rw [if_pos hc9, Int.toNat_natCast, Int.toNat_natCast]; rfl))), by rw [ht]; exact hP, hD, hS.F ht⟩) hS.2.2 d_Mo_write_14
theorem m_Mo_paint : mV R_Mo y_Mo_paint (Cond.code y_Mo_paint c_Mo_paint 6 (some .int)) 4 := ⟨⟨w_941, w_942, w_7, w_943⟩, by decide +kernel⟩
set_option maxHeartbeats 4000000 in
set_option maxRecDepth 100000 in
theorem k_Mo_paint (l : Launch) {D : va_G} {ct : Nat → ClassId} {ad : Nat → Nat} {cd : Int32} {dk : Nat → Int32} {tk kd lc sz bh wt : Nat → Int32} {bl : Nat → Nat} {tg : Nat → Int32} {fs : Int32} {A : Nat → Prop} {f : Nat} {x_f : Int32} (hx_f : x_f.toNatClampNeg = f) {a : Int} {x_a : Int32} (hx_a : x_a.toInt = a) {n : Int} {x_n : Int32} (hx_n : x_n.toInt = n) {x : Int32} (h0 : bOK bl) : Met l y_Mo_paint (Cond.code y_Mo_paint c_Mo_paint 6 (some .int) :: wA) (rmk 5 0 0) (va_Pc [.ref (ad 0), .int x_f, .int x_a, .int x_n, .int x] (cW A D (tyM ct) (wsM ct ad cd dk tk kd lc sz bh wt bl tg fs))) (wQ (some (.int (if mmay_c (cd, dk, tk, kd, lc, sz, bh, wt, bl, tg, fs) f a n 4000 = 0 then pj_sz (mpa (cd, dk, tk, kd, lc, sz, bh, wt, bl, tg, fs) f a n x) f else nI 0))) A D (wsM ct ad (pj_cd (mpa (cd, dk, tk, kd, lc, sz, bh, wt, bl, tg, fs) f a n x)) (pj_dk (mpa (cd, dk, tk, kd, lc, sz, bh, wt, bl, tg, fs) f a n x)) (pj_tk (mpa (cd, dk, tk, kd, lc, sz, bh, wt, bl, tg, fs) f a n x)) (pj_kd (mpa (cd, dk, tk, kd, lc, sz, bh, wt, bl, tg, fs) f a n x)) (pj_lc (mpa (cd, dk, tk, kd, lc, sz, bh, wt, bl, tg, fs) f a n x)) (pj_sz (mpa (cd, dk, tk, kd, lc, sz, bh, wt, bl, tg, fs) f a n x)) (pj_bh (mpa (cd, dk, tk, kd, lc, sz, bh, wt, bl, tg, fs) f a n x)) (pj_wt (mpa (cd, dk, tk, kd, lc, sz, bh, wt, bl, tg, fs) f a n x)) (pj_bl (mpa (cd, dk, tk, kd, lc, sz, bh, wt, bl, tg, fs) f a n x)) (pj_tg (mpa (cd, dk, tk, kd, lc, sz, bh, wt, bl, tg, fs) f a n x)) (pj_fs (mpa (cd, dk, tk, kd, lc, sz, bh, wt, bl, tg, fs) f a n x)))) 0 0 A := by
  refine Met.ofW (cc := c_Mo_paint) (maxL := 6) (ret := (some .int)) (by decide +kernel) rfl ?_
  intro p e s m args below meth c s₁ B0 hml hv
  obtain ⟨rfl, hA, hP, hD, hK⟩ := hv
  have hS : va_S A s.heap s.heap [] := va_S.rf
  have hx := B0.exec
  have hb := B0.bytes
  have hr := B0.returns
  have hts := fun w (h : w ∈ wA) => atoms_spec (ws := Cond.code y_Mo_paint c_Mo_paint 6 (some .int) :: wA) B0.pre w (List.mem_cons_of_mem _ h)
  have hown : s.vm.findClass R_Mo = some m.cls := findClass_of_methodNamed B0.named
  have hlocks := B0.notSynchronized
  have hl := lv_entry ([.ref (ad 0), .int x_f, .int x_a, .int x_n, .int x]) (n := 6) (Nat.le_of_ble_eq_true rfl)
  rw [lg_entry_eq]
  generalize (lg_sl ([.ref (ad 0), .int x_f, .int x_a, .int x_n, .int x]) ++ List.replicate (6 - (lg_sl ([.ref (ad 0), .int x_f, .int x_a, .int x_n, .int x])).length) Slot.unset).toArray = ls at hl ⊢
  have hl : lv_has ls 6 [(0, .ref (ad 0)), (1, .int x_f), (2, .int x_a), (3, .int x_n), (4, .int x)] := hl
  have hf_f : x_f.toInt.toNat = f := hx_f
  have hg_f := z_lt x_f
  have hf_a := z_lt x_a
  have hg_a := z_ge x_a
  rw [hx_a] at hf_a hg_a
  have hf_n := z_lt x_n
  have hg_n := z_ge x_n
  rw [hx_n] at hf_n hg_n
  have hbl := h0
  refine lv_aload_n hx hb d_Mo_paint_0 rfl (lv_at hl 0 rfl) ?_
  refine lv_iload_n hx hb d_Mo_paint_1 rfl (lv_at hl 1 rfl) ?_
  refine lv_iload_n hx hb d_Mo_paint_2 rfl (lv_at hl 2 rfl) ?_
  refine lv_iload_n hx hb d_Mo_paint_3 rfl (lv_at hl 3 rfl) ?_
  refine lv_sipush (v := nI 4000) hx hb d_Mo_paint_4 (by decide) ?_
  refine wrV ⟨hx, hb, hml, hown, hts⟩ hK hP hD hS hA (k_Mo_may l (f := f) (x_f := x_f) (a := a) (x_a := x_a) (n := n) (x_n := x_n) (k := 4000) hx_f hx_a hx_n hbl (by omega)) w_914 m_Mo_may ⟨by decide, by decide⟩ 0 rfl rfl rfl hl.1 rfl (Nat.le_of_ble_eq_true rfl) d_Mo_paint_7 ⟨Nat.zero_le _, Nat.zero_le _⟩ (fun H locs hP hD hS => ?_)
  have hP : va_P D vwC (wsM ct ad (nI (mmay_c (cd, dk, tk, kd, lc, sz, bh, wt, bl, tg, fs) f a n 4000)) dk tk kd lc sz bh wt bl tg fs) H := hP
  have hD : va_D A (wsM ct ad (nI (mmay_c (cd, dk, tk, kd, lc, sz, bh, wt, bl, tg, fs) f a n 4000)) dk tk kd lc sz bh wt bl tg fs) := hD
  refine W.eq (g2 := F0 m 10 ls [.int (bI (mmay_c (cd, dk, tk, kd, lc, sz, bh, wt, bl, tg, fs) f a n 4000 = 0))]) rfl ?_
  refine lb_if_ne (tgt := 15) hx hb d_Mo_paint_10 (by decide) (fun c_1 => ?_) (fun c_1 => ?_)
  · skip
    have hc9 := c_1
    obtain ⟨⟨f1, f2⟩, q2, q3, q4, q5⟩ := mmay_0 hc9
    obtain rfl : x_f = nI f := z_cl hx_f (by omega)
    obtain ⟨a1, rfl⟩ := Int.eq_ofNat_of_zero_le (show 0 ≤ a by omega)
    obtain rfl : x_a = nI a1 := z_i hx_a (by omega)
    obtain ⟨n1, rfl⟩ := Int.eq_ofNat_of_zero_le (show 0 ≤ n by omega)
    obtain rfl : x_n = nI n1 := z_i hx_n (by omega)
    have hP : va_P D vwC (wsM ct ad (nI 0) dk tk kd lc sz bh wt bl tg fs) H := by have e7 := hP; rw [hc9] at e7; exact e7
    have hD : va_D A (wsM ct ad (nI 0) dk tk kd lc sz bh wt bl tg fs) := by have e7 := hD; rw [hc9] at e7; exact e7
    refine lv_aload_n hx hb d_Mo_paint_15 rfl (lv_at hl 0 rfl) ?_
    refine lv_iload_n hx hb d_Mo_paint_16 rfl (lv_at hl 1 rfl) ?_
    refine lv_iload_n hx hb d_Mo_paint_17 rfl (lv_at hl 2 rfl) ?_
    refine lv_iload_n hx hb d_Mo_paint_18 rfl (lv_at hl 3 rfl) ?_
    refine wrV ⟨hx, hb, hml, hown, hts⟩ hK hP hD hS hA (k_Mo_takeAll l (f := f) (a := a1) (n := n1) hbl (by omega) (by omega) (by omega)) w_932 m_Mo_takeAll ⟨by decide, by decide⟩ 0 rfl rfl rfl hl.1 rfl (Nat.le_of_ble_eq_true rfl) d_Mo_paint_19 ⟨Nat.zero_le _, Nat.zero_le _⟩ (fun H locs hP hD hS => ?_)
    have hbl : bOK ((mta (dk, tk, bl) f a1 n1).2.2) := mta_ok hbl
    have hP : va_P D vwC (wsM ct ad (nI 0) ((mta (dk, tk, bl) f a1 n1).1) ((mta (dk, tk, bl) f a1 n1).2.1) kd lc (msz sz f (a1 + n1)) bh wt ((mta (dk, tk, bl) f a1 n1).2.2) tg fs) H := hP
    have hD : va_D A (wsM ct ad (nI 0) ((mta (dk, tk, bl) f a1 n1).1) ((mta (dk, tk, bl) f a1 n1).2.1) kd lc (msz sz f (a1 + n1)) bh wt ((mta (dk, tk, bl) f a1 n1).2.2) tg fs) := hD
    refine W.eq (g2 := F0 m 22 ls []) rfl ?_
    refine lv_iconst (v := nI 0) hx hb d_Mo_paint_22 (by decide) ?_
    refine lv_istore (lv' := [(5, .int (nI 0)), (0, .ref (ad 0)), (1, .int (nI f)), (2, .int (nI a1)), (3, .int (nI n1)), (4, .int x)]) hx hb d_Mo_paint_23 hl (by decide) rfl (fun ls hl => ?_)
    have loop25 : ∀ (n9 : Nat) (i : Nat) (d : Nat → Int32), n1 - i < n9 → i ≤ n1 → mpad (pj_bl (mtaM (mcod (cd, dk, tk, kd, lc, sz, bh, wt, bl, tg, fs) 0) f a1 n1)) f a1 x n1 0 (pj_dk (mtaM (mcod (cd, dk, tk, kd, lc, sz, bh, wt, bl, tg, fs) 0) f a1 n1)) = mpad (pj_bl (mtaM (mcod (cd, dk, tk, kd, lc, sz, bh, wt, bl, tg, fs) 0) f a1 n1)) f a1 x (n1 - i) i d → ∀ (H : Heap) (locs : List Loc), va_P D vwC (wsM ct ad (nI 0) d ((mta (dk, tk, bl) f a1 n1).2.1) kd lc (msz sz f (a1 + n1)) bh wt ((mta (dk, tk, bl) f a1 n1).2.2) tg fs) H → va_D A (wsM ct ad (nI 0) d ((mta (dk, tk, bl) f a1 n1).2.1) kd lc (msz sz f (a1 + n1)) bh wt ((mta (dk, tk, bl) f a1 n1).2.2) tg fs) → va_S A s.heap H locs → ∀ ls : Array Slot, lv_has ls 6 [(0, .ref (ad 0)), (1, .int (nI f)), (2, .int (nI a1)), (3, .int (nI n1)), (4, .int x), (5, .int (nI i))] → W p l e (headSpec (Cond.code y_Mo_paint c_Mo_paint 6 (some .int) :: wA) (rmk 5 0 0)).room s m ([.ref (ad 0), .int (nI f), .int (nI a1), .int (nI n1), .int x] : List Value).toArray below meth c H locs 0 0 (MQ below (wQ (some (.int (if mmay_c (cd, dk, tk, kd, lc, sz, bh, wt, bl, tg, fs) f ((a1 : Nat) : Int) ((n1 : Nat) : Int) 4000 = 0 then pj_sz (mpa (cd, dk, tk, kd, lc, sz, bh, wt, bl, tg, fs) f ((a1 : Nat) : Int) ((n1 : Nat) : Int) x) f else nI 0))) A D (wsM ct ad (pj_cd (mpa (cd, dk, tk, kd, lc, sz, bh, wt, bl, tg, fs) f ((a1 : Nat) : Int) ((n1 : Nat) : Int) x)) (pj_dk (mpa (cd, dk, tk, kd, lc, sz, bh, wt, bl, tg, fs) f ((a1 : Nat) : Int) ((n1 : Nat) : Int) x)) (pj_tk (mpa (cd, dk, tk, kd, lc, sz, bh, wt, bl, tg, fs) f ((a1 : Nat) : Int) ((n1 : Nat) : Int) x)) (pj_kd (mpa (cd, dk, tk, kd, lc, sz, bh, wt, bl, tg, fs) f ((a1 : Nat) : Int) ((n1 : Nat) : Int) x)) (pj_lc (mpa (cd, dk, tk, kd, lc, sz, bh, wt, bl, tg, fs) f ((a1 : Nat) : Int) ((n1 : Nat) : Int) x)) (pj_sz (mpa (cd, dk, tk, kd, lc, sz, bh, wt, bl, tg, fs) f ((a1 : Nat) : Int) ((n1 : Nat) : Int) x)) (pj_bh (mpa (cd, dk, tk, kd, lc, sz, bh, wt, bl, tg, fs) f ((a1 : Nat) : Int) ((n1 : Nat) : Int) x)) (pj_wt (mpa (cd, dk, tk, kd, lc, sz, bh, wt, bl, tg, fs) f ((a1 : Nat) : Int) ((n1 : Nat) : Int) x)) (pj_bl (mpa (cd, dk, tk, kd, lc, sz, bh, wt, bl, tg, fs) f ((a1 : Nat) : Int) ((n1 : Nat) : Int) x)) (pj_tg (mpa (cd, dk, tk, kd, lc, sz, bh, wt, bl, tg, fs) f ((a1 : Nat) : Int) ((n1 : Nat) : Int) x)) (pj_fs (mpa (cd, dk, tk, kd, lc, sz, bh, wt, bl, tg, fs) f ((a1 : Nat) : Int) ((n1 : Nat) : Int) x)))) ([.ref (ad 0), .int (nI f), .int (nI a1), .int (nI n1), .int x] : List Value).toArray s 0 0 A) (F0 m 25 ls []) := by
      intro n9
      induction n9 with
      | zero => intro i d h8 h9 h10 H locs hP hD hS ls hl; exact absurd h8 (by omega)
      | succ n9 ih =>
        intro i d h8 h9 h10 H locs hP hD hS ls hl
        refine lv_iload hx hb d_Mo_paint_25 (lv_at hl 5 rfl) ?_
        refine lv_iload_n hx hb d_Mo_paint_27 rfl (lv_at hl 3 rfl) ?_
        refine ln_icmp_ge (tgt := 54) hx hb (by omega) (by omega) d_Mo_paint_28 (by decide) (fun c_2 => ?_) (fun c_2 => ?_)
        · skip
          refine lv_aload_n hx hb d_Mo_paint_54 rfl (lv_at hl 0 rfl) ?_
          refine va_get (D := D) (ci := 6) (v := .ref (ad 5)) (C := R_Mo) (T := T_Mo) (N := 11) hx hb hts u_Mo hown hK hP 0 rfl rfl 5 (by decide) (hts _ w_844) (fun _ h9 => h9) rfl d_Mo_paint_55 ?_
          refine lv_iload_n hx hb d_Mo_paint_58 rfl (lv_at hl 1 rfl) ?_
          refine ln_iald hx hb hK hP 5 2 rfl rfl (by omega) (by decide) d_Mo_paint_59 ?_
          have e9 : wsM ct ad (nI 0) d ((mta (dk, tk, bl) f a1 n1).2.1) kd lc (msz sz f (a1 + n1)) bh wt ((mta (dk, tk, bl) f a1 n1).2.2) tg fs = wsM ct ad (pj_cd (mpa (cd, dk, tk, kd, lc, sz, bh, wt, bl, tg, fs) f ((a1 : Nat) : Int) ((n1 : Nat) : Int) x)) (pj_dk (mpa (cd, dk, tk, kd, lc, sz, bh, wt, bl, tg, fs) f ((a1 : Nat) : Int) ((n1 : Nat) : Int) x)) (pj_tk (mpa (cd, dk, tk, kd, lc, sz, bh, wt, bl, tg, fs) f ((a1 : Nat) : Int) ((n1 : Nat) : Int) x)) (pj_kd (mpa (cd, dk, tk, kd, lc, sz, bh, wt, bl, tg, fs) f ((a1 : Nat) : Int) ((n1 : Nat) : Int) x)) (pj_lc (mpa (cd, dk, tk, kd, lc, sz, bh, wt, bl, tg, fs) f ((a1 : Nat) : Int) ((n1 : Nat) : Int) x)) (pj_sz (mpa (cd, dk, tk, kd, lc, sz, bh, wt, bl, tg, fs) f ((a1 : Nat) : Int) ((n1 : Nat) : Int) x)) (pj_bh (mpa (cd, dk, tk, kd, lc, sz, bh, wt, bl, tg, fs) f ((a1 : Nat) : Int) ((n1 : Nat) : Int) x)) (pj_wt (mpa (cd, dk, tk, kd, lc, sz, bh, wt, bl, tg, fs) f ((a1 : Nat) : Int) ((n1 : Nat) : Int) x)) (pj_bl (mpa (cd, dk, tk, kd, lc, sz, bh, wt, bl, tg, fs) f ((a1 : Nat) : Int) ((n1 : Nat) : Int) x)) (pj_tg (mpa (cd, dk, tk, kd, lc, sz, bh, wt, bl, tg, fs) f ((a1 : Nat) : Int) ((n1 : Nat) : Int) x)) (pj_fs (mpa (cd, dk, tk, kd, lc, sz, bh, wt, bl, tg, fs) f ((a1 : Nat) : Int) ((n1 : Nat) : Int) x)) := (by unfold mpa; rw [if_pos hc9, Int.toNat_natCast, Int.toNat_natCast, h10, show n1 - i = 0 by omega]; rfl)
          rw [e9] at hP hD
          exact W.iret (v := (msz sz f (a1 + n1)) f) hx hb hr (fun t9 ht hW => ⟨congrArg (fun z => Outcome.returned (some (Value.int z))) (show (msz sz f (a1 + n1)) f = (if mmay_c (cd, dk, tk, kd, lc, sz, bh, wt, bl, tg, fs) f ((a1 : Nat) : Int) ((n1 : Nat) : Int) 4000 = 0 then pj_sz (mpa (cd, dk, tk, kd, lc, sz, bh, wt, bl, tg, fs) f ((a1 : Nat) : Int) ((n1 : Nat) : Int) x) f else nI 0) from (by first | (rw [if_neg (by assumption)]; done) | (rw [if_pos hc9]; unfold mpa; rw [if_pos hc9, Int.toNat_natCast, Int.toNat_natCast]; rfl))), by rw [ht]; exact hP, hD, hS.F ht⟩) hS.2.2 d_Mo_paint_60
        · skip
          refine lv_aload_n hx hb d_Mo_paint_31 rfl (lv_at hl 0 rfl) ?_
          refine lv_iload_n hx hb d_Mo_paint_32 rfl (lv_at hl 1 rfl) ?_
          refine lv_iload_n hx hb d_Mo_paint_33 rfl (lv_at hl 2 rfl) ?_
          refine lv_iload hx hb d_Mo_paint_34 (lv_at hl 5 rfl) ?_
          refine ln_iadd hx hb d_Mo_paint_36 ?_
          refine lv_iload hx hb d_Mo_paint_37 (lv_at hl 4 rfl) ?_
          refine lv_bipush (v := nI 7) hx hb d_Mo_paint_39 (by decide) ?_
          refine lv_iload hx hb d_Mo_paint_41 (lv_at hl 5 rfl) ?_
          refine ln_imul hx hb d_Mo_paint_43 ?_
          refine lv_iadd hx hb d_Mo_paint_44 ?_
          refine wrV ⟨hx, hb, hml, hown, hts⟩ hK hP hD hS hA (k_Mo_set l (f := f) (a := (a1 + i)) (x := (x + (nI (7 * i)))) hbl (by omega) (by omega)) w_936 m_Mo_set ⟨by decide, by decide⟩ 0 rfl rfl rfl hl.1 rfl (Nat.le_of_ble_eq_true rfl) d_Mo_paint_45 ⟨Nat.zero_le _, Nat.zero_le _⟩ (fun H locs hP hD hS => ?_)
          have hP : va_P D vwC (wsM ct ad (nI 0) (mset d ((mta (dk, tk, bl) f a1 n1).2.2) f (a1 + i) (x + (nI (7 * i)))) ((mta (dk, tk, bl) f a1 n1).2.1) kd lc (msz sz f (a1 + n1)) bh wt ((mta (dk, tk, bl) f a1 n1).2.2) tg fs) H := hP
          have hD : va_D A (wsM ct ad (nI 0) (mset d ((mta (dk, tk, bl) f a1 n1).2.2) f (a1 + i) (x + (nI (7 * i)))) ((mta (dk, tk, bl) f a1 n1).2.1) kd lc (msz sz f (a1 + n1)) bh wt ((mta (dk, tk, bl) f a1 n1).2.2) tg fs) := hD
          refine W.eq (g2 := F0 m 48 ls []) rfl ?_
          refine lv_iinc (v := nI (i + 1)) (lv' := [(5, .int (nI (i + 1))), (0, .ref (ad 0)), (1, .int (nI f)), (2, .int (nI a1)), (3, .int (nI n1)), (4, .int x)]) hx hb d_Mo_paint_48 hl (k := 5) rfl (ln_inc (by decide)) (by decide) rfl (fun ls hl => ?_)
          refine lv_goto (tgt := 25) hx hb d_Mo_paint_51 (by decide) ?_
          exact ih (i + 1) (mset d ((mta (dk, tk, bl) f a1 n1).2.2) f (a1 + i) (x + (nI (7 * i)))) (by omega) (by omega) (by rw [h10, show n1 - i = n1 - (i + 1) + 1 by omega, mpad]; rfl) _ _ hP hD hS ls (lv_sub hl [1, 2, 3, 4, 5, 0] rfl)
    exact loop25 (n1 + 1) 0 ((mta (dk, tk, bl) f a1 n1).1) (by omega) (by omega) rfl _ _ hP hD hS ls (lv_sub hl [1, 2, 3, 4, 5, 0] rfl)
  · skip
    refine lv_iconst (v := nI 0) hx hb d_Mo_paint_13 (by decide) ?_
    have e9 : wsM ct ad (nI (mmay_c (cd, dk, tk, kd, lc, sz, bh, wt, bl, tg, fs) f a n 4000)) dk tk kd lc sz bh wt bl tg fs = wsM ct ad (pj_cd (mpa (cd, dk, tk, kd, lc, sz, bh, wt, bl, tg, fs) f a n x)) (pj_dk (mpa (cd, dk, tk, kd, lc, sz, bh, wt, bl, tg, fs) f a n x)) (pj_tk (mpa (cd, dk, tk, kd, lc, sz, bh, wt, bl, tg, fs) f a n x)) (pj_kd (mpa (cd, dk, tk, kd, lc, sz, bh, wt, bl, tg, fs) f a n x)) (pj_lc (mpa (cd, dk, tk, kd, lc, sz, bh, wt, bl, tg, fs) f a n x)) (pj_sz (mpa (cd, dk, tk, kd, lc, sz, bh, wt, bl, tg, fs) f a n x)) (pj_bh (mpa (cd, dk, tk, kd, lc, sz, bh, wt, bl, tg, fs) f a n x)) (pj_wt (mpa (cd, dk, tk, kd, lc, sz, bh, wt, bl, tg, fs) f a n x)) (pj_bl (mpa (cd, dk, tk, kd, lc, sz, bh, wt, bl, tg, fs) f a n x)) (pj_tg (mpa (cd, dk, tk, kd, lc, sz, bh, wt, bl, tg, fs) f a n x)) (pj_fs (mpa (cd, dk, tk, kd, lc, sz, bh, wt, bl, tg, fs) f a n x)) := (by unfold mpa; rw [if_neg (by assumption)]; rfl)
    rw [e9] at hP hD
    exact W.iret (v := nI 0) hx hb hr (fun t9 ht hW => ⟨congrArg (fun z => Outcome.returned (some (Value.int z))) (show nI 0 = (if mmay_c (cd, dk, tk, kd, lc, sz, bh, wt, bl, tg, fs) f a n 4000 = 0 then pj_sz (mpa (cd, dk, tk, kd, lc, sz, bh, wt, bl, tg, fs) f a n x) f else nI 0) from (by first | (rw [if_neg (by assumption)]; done) | (rw [if_pos hc9]; unfold mpa; rw [if_pos hc9, Int.toNat_natCast, Int.toNat_natCast]; rfl))), by rw [ht]; exact hP, hD, hS.F ht⟩) hS.2.2 d_Mo_paint_14
theorem m_Mo_go : mV R_Mo y_Mo_go (Cond.code y_Mo_go c_Mo_go 4 (some .int)) 1 := ⟨⟨w_966, wp_25, w_7, w_967⟩, by decide +kernel⟩
set_option maxHeartbeats 4000000 in
set_option maxRecDepth 100000 in
theorem k_Mo_go (l : Launch) {D : va_G} {ct : Nat → ClassId} {ad : Nat → Nat} {cd : Int32} {dk : Nat → Int32} {tk kd lc sz bh wt : Nat → Int32} {bl : Nat → Nat} {tg : Nat → Int32} {fs : Int32} {A : Nat → Prop} {f : Nat} (h0 : bOK bl) (h1 : 1 ≤ f) (h2 : f ≤ 12) : Met l y_Mo_go (Cond.code y_Mo_go c_Mo_go 4 (some .int) :: wA) (rmk 2 0 0) (va_Pc [.ref (ad 0), .int (nI f)] (cW A D (tyM ct) (wsM ct ad cd dk tk kd lc sz bh wt bl tg fs))) (wQ (some (.int (nI (mbo bl f 15 0 0)))) A D (wsM ct ad (pj_cd (mgo (cd, dk, tk, kd, lc, sz, bh, wt, bl, tg, fs) f)) (pj_dk (mgo (cd, dk, tk, kd, lc, sz, bh, wt, bl, tg, fs) f)) (pj_tk (mgo (cd, dk, tk, kd, lc, sz, bh, wt, bl, tg, fs) f)) (pj_kd (mgo (cd, dk, tk, kd, lc, sz, bh, wt, bl, tg, fs) f)) (pj_lc (mgo (cd, dk, tk, kd, lc, sz, bh, wt, bl, tg, fs) f)) (pj_sz (mgo (cd, dk, tk, kd, lc, sz, bh, wt, bl, tg, fs) f)) (pj_bh (mgo (cd, dk, tk, kd, lc, sz, bh, wt, bl, tg, fs) f)) (pj_wt (mgo (cd, dk, tk, kd, lc, sz, bh, wt, bl, tg, fs) f)) (pj_bl (mgo (cd, dk, tk, kd, lc, sz, bh, wt, bl, tg, fs) f)) (pj_tg (mgo (cd, dk, tk, kd, lc, sz, bh, wt, bl, tg, fs) f)) (pj_fs (mgo (cd, dk, tk, kd, lc, sz, bh, wt, bl, tg, fs) f)))) 0 0 A := by
  refine Met.ofW (cc := c_Mo_go) (maxL := 4) (ret := (some .int)) (by decide +kernel) rfl ?_
  intro p e s m args below meth c s₁ B0 hml hv
  obtain ⟨rfl, hA, hP, hD, hK⟩ := hv
  have hS : va_S A s.heap s.heap [] := va_S.rf
  have hx := B0.exec
  have hb := B0.bytes
  have hr := B0.returns
  have hts := fun w (h : w ∈ wA) => atoms_spec (ws := Cond.code y_Mo_go c_Mo_go 4 (some .int) :: wA) B0.pre w (List.mem_cons_of_mem _ h)
  have hown : s.vm.findClass R_Mo = some m.cls := findClass_of_methodNamed B0.named
  have hlocks := B0.notSynchronized
  have hl := lv_entry ([.ref (ad 0), .int (nI f)]) (n := 4) (Nat.le_of_ble_eq_true rfl)
  rw [lg_entry_eq]
  generalize (lg_sl ([.ref (ad 0), .int (nI f)]) ++ List.replicate (4 - (lg_sl ([.ref (ad 0), .int (nI f)])).length) Slot.unset).toArray = ls at hl ⊢
  have hl : lv_has ls 4 [(0, .ref (ad 0)), (1, .int (nI f))] := hl
  have hbl := h0
  refine lv_aload_n hx hb d_Mo_go_0 rfl (lv_at hl 0 rfl) ?_
  refine lv_iload_n hx hb d_Mo_go_1 rfl (lv_at hl 1 rfl) ?_
  refine rdV ⟨hx, hb, hml, hown, hts⟩ hK hP (k_Mo_blocksOf l (f := f) hbl (by omega)) w_968 m_Mo_blocksOf ⟨by decide, by decide⟩ 0 rfl rfl rfl hl.1 rfl (Nat.le_of_ble_eq_true rfl) d_Mo_go_2 ⟨Nat.zero_le _, Nat.zero_le _⟩ ?_
  refine lv_istore_n (lv' := [(2, .int (nI (mbo bl f 15 0 0))), (0, .ref (ad 0)), (1, .int (nI f))]) hx hb d_Mo_go_5 rfl hl (by decide) rfl (fun ls hl => ?_)
  refine lv_aload_n hx hb d_Mo_go_6 rfl (lv_at hl 1 rfl) ?_
  refine lv_iload_n hx hb d_Mo_go_7 rfl (lv_at hl 2 rfl) ?_
  refine lv_iconst (v := nI 0) hx hb d_Mo_go_8 (by decide) ?_
  refine wrV ⟨hx, hb, hml, hown, hts⟩ hK hP hD hS hA (k_Mo_rest l (f := f) (y := (nI 0)) (by omega) (by omega)) w_894 m_Mo_rest ⟨by decide, by decide⟩ 0 rfl rfl rfl hl.1 rfl (Nat.le_of_ble_eq_true rfl) d_Mo_go_9 ⟨Nat.zero_le _, Nat.zero_le _⟩ (fun H locs hP hD hS => ?_)
  have hP : va_P D vwC (wsM ct ad cd dk tk kd lc sz ((mrst (bh, wt, fs) f (nI 0)).1) ((mrst (bh, wt, fs) f (nI 0)).2.1) bl tg ((mrst (bh, wt, fs) f (nI 0)).2.2)) H := hP
  have hD : va_D A (wsM ct ad cd dk tk kd lc sz ((mrst (bh, wt, fs) f (nI 0)).1) ((mrst (bh, wt, fs) f (nI 0)).2.1) bl tg ((mrst (bh, wt, fs) f (nI 0)).2.2)) := hD
  refine W.eq (g2 := F0 m 12 ls []) rfl ?_
  refine lv_iconst (v := nI 0) hx hb d_Mo_go_12 (by decide) ?_
  refine lv_istore_n (lv' := [(3, .int (nI 0)), (2, .int (nI (mbo bl f 15 0 0))), (0, .ref (ad 0)), (1, .int (nI f))]) hx hb d_Mo_go_13 rfl hl (by decide) rfl (fun ls hl => ?_)
  have loop14 : ∀ (n9 : Nat) (q : Nat) (G : (Nat → Int32) × (Nat → Nat)), 15 - q < n9 → q ≤ 15 → bOK G.2 → mgbS f 15 0 (tk, bl) = mgbS f (15 - q) q G → ∀ (H : Heap) (locs : List Loc), va_P D vwC (wsM ct ad cd dk G.1 kd lc sz ((mrst (bh, wt, fs) f (nI 0)).1) ((mrst (bh, wt, fs) f (nI 0)).2.1) G.2 tg ((mrst (bh, wt, fs) f (nI 0)).2.2)) H → va_D A (wsM ct ad cd dk G.1 kd lc sz ((mrst (bh, wt, fs) f (nI 0)).1) ((mrst (bh, wt, fs) f (nI 0)).2.1) G.2 tg ((mrst (bh, wt, fs) f (nI 0)).2.2)) → va_S A s.heap H locs → ∀ ls : Array Slot, lv_has ls 4 [(0, .ref (ad 0)), (1, .int (nI f)), (2, .int (nI (mbo bl f 15 0 0))), (3, .int (nI q))] → W p l e (headSpec (Cond.code y_Mo_go c_Mo_go 4 (some .int) :: wA) (rmk 2 0 0)).room s m ([.ref (ad 0), .int (nI f)] : List Value).toArray below meth c H locs 0 0 (MQ below (wQ (some (.int (nI (mbo bl f 15 0 0)))) A D (wsM ct ad (pj_cd (mgo (cd, dk, tk, kd, lc, sz, bh, wt, bl, tg, fs) f)) (pj_dk (mgo (cd, dk, tk, kd, lc, sz, bh, wt, bl, tg, fs) f)) (pj_tk (mgo (cd, dk, tk, kd, lc, sz, bh, wt, bl, tg, fs) f)) (pj_kd (mgo (cd, dk, tk, kd, lc, sz, bh, wt, bl, tg, fs) f)) (pj_lc (mgo (cd, dk, tk, kd, lc, sz, bh, wt, bl, tg, fs) f)) (pj_sz (mgo (cd, dk, tk, kd, lc, sz, bh, wt, bl, tg, fs) f)) (pj_bh (mgo (cd, dk, tk, kd, lc, sz, bh, wt, bl, tg, fs) f)) (pj_wt (mgo (cd, dk, tk, kd, lc, sz, bh, wt, bl, tg, fs) f)) (pj_bl (mgo (cd, dk, tk, kd, lc, sz, bh, wt, bl, tg, fs) f)) (pj_tg (mgo (cd, dk, tk, kd, lc, sz, bh, wt, bl, tg, fs) f)) (pj_fs (mgo (cd, dk, tk, kd, lc, sz, bh, wt, bl, tg, fs) f)))) ([.ref (ad 0), .int (nI f)] : List Value).toArray s 0 0 A) (F0 m 14 ls []) := by
    intro n9
    induction n9 with
    | zero => intro q G h8 h9 hbl h10 H locs hP hD hS ls hl; exact absurd h8 (by omega)
    | succ n9 ih =>
      intro q G h8 h9 hbl h10 H locs hP hD hS ls hl
      refine lv_iload_n hx hb d_Mo_go_14 rfl (lv_at hl 3 rfl) ?_
      refine lv_bipush (v := nI 15) hx hb d_Mo_go_15 (by decide) ?_
      refine ln_icmp_ge (tgt := 32) hx hb (by omega) (by omega) d_Mo_go_17 (by decide) (fun c_1 => ?_) (fun c_1 => ?_)
      · skip
        refine lv_aload_n hx hb d_Mo_go_32 rfl (lv_at hl 0 rfl) ?_
        refine va_get (D := D) (ci := 6) (v := .ref (ad 3)) (C := R_Mo) (T := T_Mo) (N := 11) hx hb hts u_Mo hown hK hP 0 rfl rfl 3 (by decide) (hts _ w_842) (fun _ h9 => h9) rfl d_Mo_go_33 ?_
        refine lv_iload_n hx hb d_Mo_go_36 rfl (lv_at hl 1 rfl) ?_
        refine lv_iconst (v := nI 0) hx hb d_Mo_go_37 (by decide) ?_
        refine ln_iast hx hb hK hP hD hS 3 2 rfl rfl (by omega) (by decide) d_Mo_go_38 (fun H locs hP hD hS => ?_)
        have hP : va_P D vwC (wsM ct ad cd dk G.1 (upd kd f (nI 0)) lc sz ((mrst (bh, wt, fs) f (nI 0)).1) ((mrst (bh, wt, fs) f (nI 0)).2.1) G.2 tg ((mrst (bh, wt, fs) f (nI 0)).2.2)) H := hP
        have hD : va_D A (wsM ct ad cd dk G.1 (upd kd f (nI 0)) lc sz ((mrst (bh, wt, fs) f (nI 0)).1) ((mrst (bh, wt, fs) f (nI 0)).2.1) G.2 tg ((mrst (bh, wt, fs) f (nI 0)).2.2)) := hD
        refine lv_aload_n hx hb d_Mo_go_39 rfl (lv_at hl 0 rfl) ?_
        refine va_get (D := D) (ci := 6) (v := .ref (ad 5)) (C := R_Mo) (T := T_Mo) (N := 11) hx hb hts u_Mo hown hK hP 0 rfl rfl 5 (by decide) (hts _ w_844) (fun _ h9 => h9) rfl d_Mo_go_40 ?_
        refine lv_iload_n hx hb d_Mo_go_43 rfl (lv_at hl 1 rfl) ?_
        refine lv_iconst (v := nI 0) hx hb d_Mo_go_44 (by decide) ?_
        refine ln_iast hx hb hK hP hD hS 5 2 rfl rfl (by omega) (by decide) d_Mo_go_45 (fun H locs hP hD hS => ?_)
        have hP : va_P D vwC (wsM ct ad cd dk G.1 (upd kd f (nI 0)) lc (upd sz f (nI 0)) ((mrst (bh, wt, fs) f (nI 0)).1) ((mrst (bh, wt, fs) f (nI 0)).2.1) G.2 tg ((mrst (bh, wt, fs) f (nI 0)).2.2)) H := hP
        have hD : va_D A (wsM ct ad cd dk G.1 (upd kd f (nI 0)) lc (upd sz f (nI 0)) ((mrst (bh, wt, fs) f (nI 0)).1) ((mrst (bh, wt, fs) f (nI 0)).2.1) G.2 tg ((mrst (bh, wt, fs) f (nI 0)).2.2)) := hD
        refine lv_aload_n hx hb d_Mo_go_46 rfl (lv_at hl 0 rfl) ?_
        refine va_get (D := D) (ci := 6) (v := .ref (ad 4)) (C := R_Mo) (T := T_Mo) (N := 11) hx hb hts u_Mo hown hK hP 0 rfl rfl 4 (by decide) (hts _ w_843) (fun _ h9 => h9) rfl d_Mo_go_47 ?_
        refine lv_iload_n hx hb d_Mo_go_50 rfl (lv_at hl 1 rfl) ?_
        refine lv_iconst (v := nI 0) hx hb d_Mo_go_51 (by decide) ?_
        refine ln_iast hx hb hK hP hD hS 4 2 rfl rfl (by omega) (by decide) d_Mo_go_52 (fun H locs hP hD hS => ?_)
        have hP : va_P D vwC (wsM ct ad cd dk G.1 (upd kd f (nI 0)) (upd lc f (nI 0)) (upd sz f (nI 0)) ((mrst (bh, wt, fs) f (nI 0)).1) ((mrst (bh, wt, fs) f (nI 0)).2.1) G.2 tg ((mrst (bh, wt, fs) f (nI 0)).2.2)) H := hP
        have hD : va_D A (wsM ct ad cd dk G.1 (upd kd f (nI 0)) (upd lc f (nI 0)) (upd sz f (nI 0)) ((mrst (bh, wt, fs) f (nI 0)).1) ((mrst (bh, wt, fs) f (nI 0)).2.1) G.2 tg ((mrst (bh, wt, fs) f (nI 0)).2.2)) := hD
        refine lv_iload_n hx hb d_Mo_go_53 rfl (lv_at hl 2 rfl) ?_
        have e9 : wsM ct ad cd dk G.1 (upd kd f (nI 0)) (upd lc f (nI 0)) (upd sz f (nI 0)) ((mrst (bh, wt, fs) f (nI 0)).1) ((mrst (bh, wt, fs) f (nI 0)).2.1) G.2 tg ((mrst (bh, wt, fs) f (nI 0)).2.2) = wsM ct ad (pj_cd (mgo (cd, dk, tk, kd, lc, sz, bh, wt, bl, tg, fs) f)) (pj_dk (mgo (cd, dk, tk, kd, lc, sz, bh, wt, bl, tg, fs) f)) (pj_tk (mgo (cd, dk, tk, kd, lc, sz, bh, wt, bl, tg, fs) f)) (pj_kd (mgo (cd, dk, tk, kd, lc, sz, bh, wt, bl, tg, fs) f)) (pj_lc (mgo (cd, dk, tk, kd, lc, sz, bh, wt, bl, tg, fs) f)) (pj_sz (mgo (cd, dk, tk, kd, lc, sz, bh, wt, bl, tg, fs) f)) (pj_bh (mgo (cd, dk, tk, kd, lc, sz, bh, wt, bl, tg, fs) f)) (pj_wt (mgo (cd, dk, tk, kd, lc, sz, bh, wt, bl, tg, fs) f)) (pj_bl (mgo (cd, dk, tk, kd, lc, sz, bh, wt, bl, tg, fs) f)) (pj_tg (mgo (cd, dk, tk, kd, lc, sz, bh, wt, bl, tg, fs) f)) (pj_fs (mgo (cd, dk, tk, kd, lc, sz, bh, wt, bl, tg, fs) f)) := (by unfold mgo; dsimp only [pj_kd, pj_bl, pj_bh, pj_wt, pj_fs, pj_cd, pj_dk, pj_tk, pj_lc, pj_sz, pj_tg]; rw [h10, show 15 - q = 0 by omega]; rfl)
        rw [e9] at hP hD
        exact W.iret (v := nI (mbo bl f 15 0 0)) hx hb hr (fun t9 ht hW => ⟨congrArg (fun z => Outcome.returned (some (Value.int z))) (show nI (mbo bl f 15 0 0) = (nI (mbo bl f 15 0 0)) from rfl), by rw [ht]; exact hP, hD, hS.F ht⟩) hS.2.2 d_Mo_go_54
      · skip
        refine lv_aload_n hx hb d_Mo_go_20 rfl (lv_at hl 0 rfl) ?_
        refine lv_iload_n hx hb d_Mo_go_21 rfl (lv_at hl 1 rfl) ?_
        refine lv_iload_n hx hb d_Mo_go_22 rfl (lv_at hl 3 rfl) ?_
        refine wrV ⟨hx, hb, hml, hown, hts⟩ hK hP hD hS hA (k_Mo_giveBack l (f := f) (k := q) hbl (by omega) (by omega)) w_952 m_Mo_giveBack ⟨by decide, by decide⟩ 0 rfl rfl rfl hl.1 rfl (Nat.le_of_ble_eq_true rfl) d_Mo_go_23 ⟨Nat.zero_le _, Nat.zero_le _⟩ (fun H locs hP hD hS => ?_)
        have hbl : bOK (mgB G.2 f q) := mgB_ok hbl
        have hP : va_P D vwC (wsM ct ad cd dk (mgT G.1 G.2 f q) kd lc sz ((mrst (bh, wt, fs) f (nI 0)).1) ((mrst (bh, wt, fs) f (nI 0)).2.1) (mgB G.2 f q) tg ((mrst (bh, wt, fs) f (nI 0)).2.2)) H := hP
        have hD : va_D A (wsM ct ad cd dk (mgT G.1 G.2 f q) kd lc sz ((mrst (bh, wt, fs) f (nI 0)).1) ((mrst (bh, wt, fs) f (nI 0)).2.1) (mgB G.2 f q) tg ((mrst (bh, wt, fs) f (nI 0)).2.2)) := hD
        refine W.eq (g2 := F0 m 26 ls []) rfl ?_
        refine lv_iinc (v := nI (q + 1)) (lv' := [(3, .int (nI (q + 1))), (0, .ref (ad 0)), (1, .int (nI f)), (2, .int (nI (mbo bl f 15 0 0)))]) hx hb d_Mo_go_26 hl (k := 3) rfl (ln_inc (by decide)) (by decide) rfl (fun ls hl => ?_)
        refine lv_goto (tgt := 14) hx hb d_Mo_go_29 (by decide) ?_
        exact ih (q + 1) ((mgT G.1 G.2 f q), (mgB G.2 f q)) (by omega) (by omega) hbl (by rw [h10, show 15 - q = 15 - (q + 1) + 1 by omega, mgbS]) _ _ hP hD hS ls (lv_sub hl [1, 2, 3, 0] rfl)
  exact loop14 16 0 (tk, bl) (by omega) (by omega) hbl rfl _ _ hP hD hS ls (lv_sub hl [2, 3, 1, 0] rfl)
theorem m_Mo_drop : mV R_Mo y_Mo_drop (Cond.code y_Mo_drop c_Mo_drop 2 (some .int)) 1 := ⟨⟨w_961, w_962, w_7, w_963⟩, by decide +kernel⟩
set_option maxHeartbeats 4000000 in
set_option maxRecDepth 100000 in
theorem k_Mo_drop (l : Launch) {D : va_G} {ct : Nat → ClassId} {ad : Nat → Nat} {cd : Int32} {dk : Nat → Int32} {tk kd lc sz bh wt : Nat → Int32} {bl : Nat → Nat} {tg : Nat → Int32} {fs : Int32} {A : Nat → Prop} {f : Nat} {x_f : Int32} (hx_f : x_f.toNatClampNeg = f) (h0 : bOK bl) : Met l y_Mo_drop (Cond.code y_Mo_drop c_Mo_drop 2 (some .int) :: wA) (rmk 3 0 0) (va_Pc [.ref (ad 0), .int x_f] (cW A D (tyM ct) (wsM ct ad cd dk tk kd lc sz bh wt bl tg fs))) (wQ (some (.int (if mdr_c (cd, dk, tk, kd, lc, sz, bh, wt, bl, tg, fs) f = 0 then nI (mbo bl f 15 0 0) else nI 0))) A D (wsM ct ad (pj_cd (mdr (cd, dk, tk, kd, lc, sz, bh, wt, bl, tg, fs) f)) (pj_dk (mdr (cd, dk, tk, kd, lc, sz, bh, wt, bl, tg, fs) f)) (pj_tk (mdr (cd, dk, tk, kd, lc, sz, bh, wt, bl, tg, fs) f)) (pj_kd (mdr (cd, dk, tk, kd, lc, sz, bh, wt, bl, tg, fs) f)) (pj_lc (mdr (cd, dk, tk, kd, lc, sz, bh, wt, bl, tg, fs) f)) (pj_sz (mdr (cd, dk, tk, kd, lc, sz, bh, wt, bl, tg, fs) f)) (pj_bh (mdr (cd, dk, tk, kd, lc, sz, bh, wt, bl, tg, fs) f)) (pj_wt (mdr (cd, dk, tk, kd, lc, sz, bh, wt, bl, tg, fs) f)) (pj_bl (mdr (cd, dk, tk, kd, lc, sz, bh, wt, bl, tg, fs) f)) (pj_tg (mdr (cd, dk, tk, kd, lc, sz, bh, wt, bl, tg, fs) f)) (pj_fs (mdr (cd, dk, tk, kd, lc, sz, bh, wt, bl, tg, fs) f)))) 0 0 A := by
  refine Met.ofW (cc := c_Mo_drop) (maxL := 2) (ret := (some .int)) (by decide +kernel) rfl ?_
  intro p e s m args below meth c s₁ B0 hml hv
  obtain ⟨rfl, hA, hP, hD, hK⟩ := hv
  have hS : va_S A s.heap s.heap [] := va_S.rf
  have hx := B0.exec
  have hb := B0.bytes
  have hr := B0.returns
  have hts := fun w (h : w ∈ wA) => atoms_spec (ws := Cond.code y_Mo_drop c_Mo_drop 2 (some .int) :: wA) B0.pre w (List.mem_cons_of_mem _ h)
  have hown : s.vm.findClass R_Mo = some m.cls := findClass_of_methodNamed B0.named
  have hlocks := B0.notSynchronized
  have hl := lv_entry ([.ref (ad 0), .int x_f]) (n := 2) (Nat.le_of_ble_eq_true rfl)
  rw [lg_entry_eq]
  generalize (lg_sl ([.ref (ad 0), .int x_f]) ++ List.replicate (2 - (lg_sl ([.ref (ad 0), .int x_f])).length) Slot.unset).toArray = ls at hl ⊢
  have hl : lv_has ls 2 [(0, .ref (ad 0)), (1, .int x_f)] := hl
  have hf_f : x_f.toInt.toNat = f := hx_f
  have hg_f := z_lt x_f
  have hbl := h0
  refine lv_aload_n hx hb d_Mo_drop_0 rfl (lv_at hl 0 rfl) ?_
  refine lv_aload_n hx hb d_Mo_drop_1 rfl (lv_at hl 0 rfl) ?_
  refine lv_iload_n hx hb d_Mo_drop_2 rfl (lv_at hl 1 rfl) ?_
  refine rdV ⟨hx, hb, hml, hown, hts⟩ hK hP (k_Mo_isFile l (f := f) (x_f := x_f) hx_f ) w_922 m_Mo_isFile ⟨by decide, by decide⟩ 0 rfl rfl rfl hl.1 rfl (Nat.le_of_ble_eq_true rfl) d_Mo_drop_3 ⟨Nat.zero_le _, Nat.zero_le _⟩ ?_
  refine lb_if_ne (tgt := 13) hx hb d_Mo_drop_6 (by decide) (fun c_1 => ?_) (fun c_1 => ?_)
  · skip
    obtain ⟨⟨f1, f2⟩, f3⟩ := id c_1
    obtain rfl : x_f = nI f := z_cl hx_f (by omega)
    refine lv_aload_n hx hb d_Mo_drop_13 rfl (lv_at hl 0 rfl) ?_
    refine va_get (D := D) (ci := 6) (v := .ref (ad 4)) (C := R_Mo) (T := T_Mo) (N := 11) hx hb hts u_Mo hown hK hP 0 rfl rfl 4 (by decide) (hts _ w_843) (fun _ h9 => h9) rfl d_Mo_drop_14 ?_
    refine lv_iload_n hx hb d_Mo_drop_17 rfl (lv_at hl 1 rfl) ?_
    refine ln_iald hx hb hK hP 4 2 rfl rfl (by omega) (by decide) d_Mo_drop_18 ?_
    refine lv_if_le (tgt := 26) hx hb d_Mo_drop_19 (by decide) (fun c_2 => ?_) (fun c_2 => ?_)
    · skip
      refine lv_iconst (v := nI 0) hx hb d_Mo_drop_26 (by decide) ?_
      refine va_put (D := D) (ci := 6) (v := .int (nI 0)) (ty := .int) (C := R_Mo) (T := T_Mo) (N := 11) hx hb hts u_Mo t_Mo t_Mo_ok n_Mo hown hK hP hD hS 0 rfl rfl 0 (by decide) (hts _ w_839) (fun _ h9 => h9) rfl (by decide +kernel) rfl rfl (Nat.le_of_ble_eq_true rfl) d_Mo_drop_27 (fun H locs hP hD hS => ?_)
      have hP : va_P D vwC (wsM ct ad (nI 0) dk tk kd lc sz bh wt bl tg fs) H := hP
      have hD : va_D A (wsM ct ad (nI 0) dk tk kd lc sz bh wt bl tg fs) := hD
      refine lv_aload_n hx hb d_Mo_drop_30 rfl (lv_at hl 0 rfl) ?_
      refine va_get (D := D) (ci := 6) (v := .int (nI 0)) (C := R_Mo) (T := T_Mo) (N := 11) hx hb hts u_Mo hown hK hP 0 rfl rfl 0 (by decide) (hts _ w_839) (fun _ h9 => h9) rfl d_Mo_drop_31 ?_
      refine ln_if_le (tgt := 41) hx hb (by omega) d_Mo_drop_34 (by decide) (fun c_3 => ?_) (fun c_3 => ?_)
      · skip
        refine lv_aload_n hx hb d_Mo_drop_41 rfl (lv_at hl 0 rfl) ?_
        refine lv_iload_n hx hb d_Mo_drop_42 rfl (lv_at hl 1 rfl) ?_
        refine wrV ⟨hx, hb, hml, hown, hts⟩ hK hP hD hS hA (k_Mo_go l (f := f) hbl (by omega) (by omega)) w_964 m_Mo_go ⟨by decide, by decide⟩ 0 rfl rfl rfl hl.1 rfl (Nat.le_of_ble_eq_true rfl) d_Mo_drop_43 ⟨Nat.zero_le _, Nat.zero_le _⟩ (fun H locs hP hD hS => ?_)
        have hbl : bOK (pj_bl (mgo ((nI 0), dk, tk, kd, lc, sz, bh, wt, bl, tg, fs) f)) := mgo_ok hbl
        have hP : va_P D vwC (wsM ct ad (pj_cd (mgo ((nI 0), dk, tk, kd, lc, sz, bh, wt, bl, tg, fs) f)) (pj_dk (mgo ((nI 0), dk, tk, kd, lc, sz, bh, wt, bl, tg, fs) f)) (pj_tk (mgo ((nI 0), dk, tk, kd, lc, sz, bh, wt, bl, tg, fs) f)) (pj_kd (mgo ((nI 0), dk, tk, kd, lc, sz, bh, wt, bl, tg, fs) f)) (pj_lc (mgo ((nI 0), dk, tk, kd, lc, sz, bh, wt, bl, tg, fs) f)) (pj_sz (mgo ((nI 0), dk, tk, kd, lc, sz, bh, wt, bl, tg, fs) f)) (pj_bh (mgo ((nI 0), dk, tk, kd, lc, sz, bh, wt, bl, tg, fs) f)) (pj_wt (mgo ((nI 0), dk, tk, kd, lc, sz, bh, wt, bl, tg, fs) f)) (pj_bl (mgo ((nI 0), dk, tk, kd, lc, sz, bh, wt, bl, tg, fs) f)) (pj_tg (mgo ((nI 0), dk, tk, kd, lc, sz, bh, wt, bl, tg, fs) f)) (pj_fs (mgo ((nI 0), dk, tk, kd, lc, sz, bh, wt, bl, tg, fs) f))) H := hP
        have hD : va_D A (wsM ct ad (pj_cd (mgo ((nI 0), dk, tk, kd, lc, sz, bh, wt, bl, tg, fs) f)) (pj_dk (mgo ((nI 0), dk, tk, kd, lc, sz, bh, wt, bl, tg, fs) f)) (pj_tk (mgo ((nI 0), dk, tk, kd, lc, sz, bh, wt, bl, tg, fs) f)) (pj_kd (mgo ((nI 0), dk, tk, kd, lc, sz, bh, wt, bl, tg, fs) f)) (pj_lc (mgo ((nI 0), dk, tk, kd, lc, sz, bh, wt, bl, tg, fs) f)) (pj_sz (mgo ((nI 0), dk, tk, kd, lc, sz, bh, wt, bl, tg, fs) f)) (pj_bh (mgo ((nI 0), dk, tk, kd, lc, sz, bh, wt, bl, tg, fs) f)) (pj_wt (mgo ((nI 0), dk, tk, kd, lc, sz, bh, wt, bl, tg, fs) f)) (pj_bl (mgo ((nI 0), dk, tk, kd, lc, sz, bh, wt, bl, tg, fs) f)) (pj_tg (mgo ((nI 0), dk, tk, kd, lc, sz, bh, wt, bl, tg, fs) f)) (pj_fs (mgo ((nI 0), dk, tk, kd, lc, sz, bh, wt, bl, tg, fs) f))) := hD
        refine W.eq (g2 := F0 m 46 ls [.int (nI (mbo bl f 15 0 0))]) rfl ?_
        have e9 : wsM ct ad (pj_cd (mgo ((nI 0), dk, tk, kd, lc, sz, bh, wt, bl, tg, fs) f)) (pj_dk (mgo ((nI 0), dk, tk, kd, lc, sz, bh, wt, bl, tg, fs) f)) (pj_tk (mgo ((nI 0), dk, tk, kd, lc, sz, bh, wt, bl, tg, fs) f)) (pj_kd (mgo ((nI 0), dk, tk, kd, lc, sz, bh, wt, bl, tg, fs) f)) (pj_lc (mgo ((nI 0), dk, tk, kd, lc, sz, bh, wt, bl, tg, fs) f)) (pj_sz (mgo ((nI 0), dk, tk, kd, lc, sz, bh, wt, bl, tg, fs) f)) (pj_bh (mgo ((nI 0), dk, tk, kd, lc, sz, bh, wt, bl, tg, fs) f)) (pj_wt (mgo ((nI 0), dk, tk, kd, lc, sz, bh, wt, bl, tg, fs) f)) (pj_bl (mgo ((nI 0), dk, tk, kd, lc, sz, bh, wt, bl, tg, fs) f)) (pj_tg (mgo ((nI 0), dk, tk, kd, lc, sz, bh, wt, bl, tg, fs) f)) (pj_fs (mgo ((nI 0), dk, tk, kd, lc, sz, bh, wt, bl, tg, fs) f)) = wsM ct ad (pj_cd (mdr (cd, dk, tk, kd, lc, sz, bh, wt, bl, tg, fs) f)) (pj_dk (mdr (cd, dk, tk, kd, lc, sz, bh, wt, bl, tg, fs) f)) (pj_tk (mdr (cd, dk, tk, kd, lc, sz, bh, wt, bl, tg, fs) f)) (pj_kd (mdr (cd, dk, tk, kd, lc, sz, bh, wt, bl, tg, fs) f)) (pj_lc (mdr (cd, dk, tk, kd, lc, sz, bh, wt, bl, tg, fs) f)) (pj_sz (mdr (cd, dk, tk, kd, lc, sz, bh, wt, bl, tg, fs) f)) (pj_bh (mdr (cd, dk, tk, kd, lc, sz, bh, wt, bl, tg, fs) f)) (pj_wt (mdr (cd, dk, tk, kd, lc, sz, bh, wt, bl, tg, fs) f)) (pj_bl (mdr (cd, dk, tk, kd, lc, sz, bh, wt, bl, tg, fs) f)) (pj_tg (mdr (cd, dk, tk, kd, lc, sz, bh, wt, bl, tg, fs) f)) (pj_fs (mdr (cd, dk, tk, kd, lc, sz, bh, wt, bl, tg, fs) f)) := (by have e7 := (show mdr_c (cd, dk, tk, kd, lc, sz, bh, wt, bl, tg, fs) f = 0 from (by unfold mdr_c; dsimp only [pj_kd, pj_bl, pj_bh, pj_wt, pj_fs, pj_cd, pj_dk, pj_tk, pj_lc, pj_sz, pj_tg]; first | (rw [if_neg (by assumption)]; done) | (rw [if_pos (by assumption), if_pos (by assumption)]; done) | (rw [if_pos (by assumption), if_neg (by assumption)]; done))); unfold mdr; rw [e7]; rfl)
        rw [e9] at hP hD
        exact W.iret (v := nI (mbo bl f 15 0 0)) hx hb hr (fun t9 ht hW => ⟨congrArg (fun z => Outcome.returned (some (Value.int z))) (show nI (mbo bl f 15 0 0) = (if mdr_c (cd, dk, tk, kd, lc, sz, bh, wt, bl, tg, fs) f = 0 then nI (mbo bl f 15 0 0) else nI 0) from (by rw [(show mdr_c (cd, dk, tk, kd, lc, sz, bh, wt, bl, tg, fs) f = 0 from (by unfold mdr_c; dsimp only [pj_kd, pj_bl, pj_bh, pj_wt, pj_fs, pj_cd, pj_dk, pj_tk, pj_lc, pj_sz, pj_tg]; first | (rw [if_neg (by assumption)]; done) | (rw [if_pos (by assumption), if_pos (by assumption)]; done) | (rw [if_pos (by assumption), if_neg (by assumption)]; done)))]; rfl)), by rw [ht]; exact hP, hD, hS.F ht⟩) hS.2.2 d_Mo_drop_46
      · exact absurd c_3 (by omega)
    · skip
      refine lv_iconst (v := nI 2) hx hb d_Mo_drop_22 (by decide) ?_
      refine lv_goto (tgt := 27) hx hb d_Mo_drop_23 (by decide) ?_
      refine va_put (D := D) (ci := 6) (v := .int (nI 2)) (ty := .int) (C := R_Mo) (T := T_Mo) (N := 11) hx hb hts u_Mo t_Mo t_Mo_ok n_Mo hown hK hP hD hS 0 rfl rfl 0 (by decide) (hts _ w_839) (fun _ h9 => h9) rfl (by decide +kernel) rfl rfl (Nat.le_of_ble_eq_true rfl) d_Mo_drop_27 (fun H locs hP hD hS => ?_)
      have hP : va_P D vwC (wsM ct ad (nI 2) dk tk kd lc sz bh wt bl tg fs) H := hP
      have hD : va_D A (wsM ct ad (nI 2) dk tk kd lc sz bh wt bl tg fs) := hD
      refine lv_aload_n hx hb d_Mo_drop_30 rfl (lv_at hl 0 rfl) ?_
      refine va_get (D := D) (ci := 6) (v := .int (nI 2)) (C := R_Mo) (T := T_Mo) (N := 11) hx hb hts u_Mo hown hK hP 0 rfl rfl 0 (by decide) (hts _ w_839) (fun _ h9 => h9) rfl d_Mo_drop_31 ?_
      refine ln_if_le (tgt := 41) hx hb (by omega) d_Mo_drop_34 (by decide) (fun c_4 => ?_) (fun c_4 => ?_)
      · exact absurd c_4 (by omega)
      · skip
        refine lv_iconst (v := nI 0) hx hb d_Mo_drop_37 (by decide) ?_
        refine lv_goto (tgt := 46) hx hb d_Mo_drop_38 (by decide) ?_
        have e9 : wsM ct ad (nI 2) dk tk kd lc sz bh wt bl tg fs = wsM ct ad (pj_cd (mdr (cd, dk, tk, kd, lc, sz, bh, wt, bl, tg, fs) f)) (pj_dk (mdr (cd, dk, tk, kd, lc, sz, bh, wt, bl, tg, fs) f)) (pj_tk (mdr (cd, dk, tk, kd, lc, sz, bh, wt, bl, tg, fs) f)) (pj_kd (mdr (cd, dk, tk, kd, lc, sz, bh, wt, bl, tg, fs) f)) (pj_lc (mdr (cd, dk, tk, kd, lc, sz, bh, wt, bl, tg, fs) f)) (pj_sz (mdr (cd, dk, tk, kd, lc, sz, bh, wt, bl, tg, fs) f)) (pj_bh (mdr (cd, dk, tk, kd, lc, sz, bh, wt, bl, tg, fs) f)) (pj_wt (mdr (cd, dk, tk, kd, lc, sz, bh, wt, bl, tg, fs) f)) (pj_bl (mdr (cd, dk, tk, kd, lc, sz, bh, wt, bl, tg, fs) f)) (pj_tg (mdr (cd, dk, tk, kd, lc, sz, bh, wt, bl, tg, fs) f)) (pj_fs (mdr (cd, dk, tk, kd, lc, sz, bh, wt, bl, tg, fs) f)) := (by have e7 := (show mdr_c (cd, dk, tk, kd, lc, sz, bh, wt, bl, tg, fs) f = 2 from (by unfold mdr_c; dsimp only [pj_kd, pj_bl, pj_bh, pj_wt, pj_fs, pj_cd, pj_dk, pj_tk, pj_lc, pj_sz, pj_tg]; first | (rw [if_neg (by assumption)]; done) | (rw [if_pos (by assumption), if_pos (by assumption)]; done) | (rw [if_pos (by assumption), if_neg (by assumption)]; done))); unfold mdr; rw [e7]; rfl)
        rw [e9] at hP hD
        exact W.iret (v := nI 0) hx hb hr (fun t9 ht hW => ⟨congrArg (fun z => Outcome.returned (some (Value.int z))) (show nI 0 = (if mdr_c (cd, dk, tk, kd, lc, sz, bh, wt, bl, tg, fs) f = 0 then nI (mbo bl f 15 0 0) else nI 0) from (by rw [(show mdr_c (cd, dk, tk, kd, lc, sz, bh, wt, bl, tg, fs) f = 2 from (by unfold mdr_c; dsimp only [pj_kd, pj_bl, pj_bh, pj_wt, pj_fs, pj_cd, pj_dk, pj_tk, pj_lc, pj_sz, pj_tg]; first | (rw [if_neg (by assumption)]; done) | (rw [if_pos (by assumption), if_pos (by assumption)]; done) | (rw [if_pos (by assumption), if_neg (by assumption)]; done)))]; rfl)), by rw [ht]; exact hP, hD, hS.F ht⟩) hS.2.2 d_Mo_drop_46
  · skip
    refine lv_iconst (v := nI 1) hx hb d_Mo_drop_9 (by decide) ?_
    refine lv_goto (tgt := 27) hx hb d_Mo_drop_10 (by decide) ?_
    refine va_put (D := D) (ci := 6) (v := .int (nI 1)) (ty := .int) (C := R_Mo) (T := T_Mo) (N := 11) hx hb hts u_Mo t_Mo t_Mo_ok n_Mo hown hK hP hD hS 0 rfl rfl 0 (by decide) (hts _ w_839) (fun _ h9 => h9) rfl (by decide +kernel) rfl rfl (Nat.le_of_ble_eq_true rfl) d_Mo_drop_27 (fun H locs hP hD hS => ?_)
    have hP : va_P D vwC (wsM ct ad (nI 1) dk tk kd lc sz bh wt bl tg fs) H := hP
    have hD : va_D A (wsM ct ad (nI 1) dk tk kd lc sz bh wt bl tg fs) := hD
    refine lv_aload_n hx hb d_Mo_drop_30 rfl (lv_at hl 0 rfl) ?_
    refine va_get (D := D) (ci := 6) (v := .int (nI 1)) (C := R_Mo) (T := T_Mo) (N := 11) hx hb hts u_Mo hown hK hP 0 rfl rfl 0 (by decide) (hts _ w_839) (fun _ h9 => h9) rfl d_Mo_drop_31 ?_
    refine ln_if_le (tgt := 41) hx hb (by omega) d_Mo_drop_34 (by decide) (fun c_5 => ?_) (fun c_5 => ?_)
    · exact absurd c_5 (by omega)
    · skip
      refine lv_iconst (v := nI 0) hx hb d_Mo_drop_37 (by decide) ?_
      refine lv_goto (tgt := 46) hx hb d_Mo_drop_38 (by decide) ?_
      have e9 : wsM ct ad (nI 1) dk tk kd lc sz bh wt bl tg fs = wsM ct ad (pj_cd (mdr (cd, dk, tk, kd, lc, sz, bh, wt, bl, tg, fs) f)) (pj_dk (mdr (cd, dk, tk, kd, lc, sz, bh, wt, bl, tg, fs) f)) (pj_tk (mdr (cd, dk, tk, kd, lc, sz, bh, wt, bl, tg, fs) f)) (pj_kd (mdr (cd, dk, tk, kd, lc, sz, bh, wt, bl, tg, fs) f)) (pj_lc (mdr (cd, dk, tk, kd, lc, sz, bh, wt, bl, tg, fs) f)) (pj_sz (mdr (cd, dk, tk, kd, lc, sz, bh, wt, bl, tg, fs) f)) (pj_bh (mdr (cd, dk, tk, kd, lc, sz, bh, wt, bl, tg, fs) f)) (pj_wt (mdr (cd, dk, tk, kd, lc, sz, bh, wt, bl, tg, fs) f)) (pj_bl (mdr (cd, dk, tk, kd, lc, sz, bh, wt, bl, tg, fs) f)) (pj_tg (mdr (cd, dk, tk, kd, lc, sz, bh, wt, bl, tg, fs) f)) (pj_fs (mdr (cd, dk, tk, kd, lc, sz, bh, wt, bl, tg, fs) f)) := (by have e7 := (show mdr_c (cd, dk, tk, kd, lc, sz, bh, wt, bl, tg, fs) f = 1 from (by unfold mdr_c; dsimp only [pj_kd, pj_bl, pj_bh, pj_wt, pj_fs, pj_cd, pj_dk, pj_tk, pj_lc, pj_sz, pj_tg]; first | (rw [if_neg (by assumption)]; done) | (rw [if_pos (by assumption), if_pos (by assumption)]; done) | (rw [if_pos (by assumption), if_neg (by assumption)]; done))); unfold mdr; rw [e7]; rfl)
      rw [e9] at hP hD
      exact W.iret (v := nI 0) hx hb hr (fun t9 ht hW => ⟨congrArg (fun z => Outcome.returned (some (Value.int z))) (show nI 0 = (if mdr_c (cd, dk, tk, kd, lc, sz, bh, wt, bl, tg, fs) f = 0 then nI (mbo bl f 15 0 0) else nI 0) from (by rw [(show mdr_c (cd, dk, tk, kd, lc, sz, bh, wt, bl, tg, fs) f = 1 from (by unfold mdr_c; dsimp only [pj_kd, pj_bl, pj_bh, pj_wt, pj_fs, pj_cd, pj_dk, pj_tk, pj_lc, pj_sz, pj_tg]; first | (rw [if_neg (by assumption)]; done) | (rw [if_pos (by assumption), if_pos (by assumption)]; done) | (rw [if_pos (by assumption), if_neg (by assumption)]; done)))]; rfl)), by rw [ht]; exact hP, hD, hS.F ht⟩) hS.2.2 d_Mo_drop_46
theorem m_Mo_finish : mV R_Mo y_Mo_finish (Cond.code y_Mo_finish c_Mo_finish 3 (some .int)) 0 := ⟨⟨w_973, w_974, w_7, w_975⟩, by decide +kernel⟩
set_option maxHeartbeats 4000000 in
set_option maxRecDepth 100000 in
theorem k_Mo_finish (l : Launch) {D : va_G} {ct : Nat → ClassId} {ad : Nat → Nat} {cd : Int32} {dk : Nat → Int32} {tk kd lc sz bh wt : Nat → Int32} {bl : Nat → Nat} {tg : Nat → Int32} {fs : Int32} {A : Nat → Prop}  (h0 : bOK bl) (h1 : mokF 12 (mcod (cd, dk, tk, kd, lc, sz, bh, wt, bl, tg, fs) 0)) : Met l y_Mo_finish (Cond.code y_Mo_finish c_Mo_finish 3 (some .int) :: wA) (rmk 3 0 0) (va_Pc [.ref (ad 0)] (cW A D (tyM ct) (wsM ct ad cd dk tk kd lc sz bh wt bl tg fs))) (wQ (some (.int (nI ((mfin 12 (mcod (cd, dk, tk, kd, lc, sz, bh, wt, bl, tg, fs) 0) 0).2)))) A D (wsM ct ad (pj_cd ((mfin 12 (mcod (cd, dk, tk, kd, lc, sz, bh, wt, bl, tg, fs) 0) 0).1)) (pj_dk ((mfin 12 (mcod (cd, dk, tk, kd, lc, sz, bh, wt, bl, tg, fs) 0) 0).1)) (pj_tk ((mfin 12 (mcod (cd, dk, tk, kd, lc, sz, bh, wt, bl, tg, fs) 0) 0).1)) (pj_kd ((mfin 12 (mcod (cd, dk, tk, kd, lc, sz, bh, wt, bl, tg, fs) 0) 0).1)) (pj_lc ((mfin 12 (mcod (cd, dk, tk, kd, lc, sz, bh, wt, bl, tg, fs) 0) 0).1)) (pj_sz ((mfin 12 (mcod (cd, dk, tk, kd, lc, sz, bh, wt, bl, tg, fs) 0) 0).1)) (pj_bh ((mfin 12 (mcod (cd, dk, tk, kd, lc, sz, bh, wt, bl, tg, fs) 0) 0).1)) (pj_wt ((mfin 12 (mcod (cd, dk, tk, kd, lc, sz, bh, wt, bl, tg, fs) 0) 0).1)) (pj_bl ((mfin 12 (mcod (cd, dk, tk, kd, lc, sz, bh, wt, bl, tg, fs) 0) 0).1)) (pj_tg ((mfin 12 (mcod (cd, dk, tk, kd, lc, sz, bh, wt, bl, tg, fs) 0) 0).1)) (pj_fs ((mfin 12 (mcod (cd, dk, tk, kd, lc, sz, bh, wt, bl, tg, fs) 0) 0).1)))) 0 0 A := by
  refine Met.ofW (cc := c_Mo_finish) (maxL := 3) (ret := (some .int)) (by decide +kernel) rfl ?_
  intro p e s m args below meth c s₁ B0 hml hv
  obtain ⟨rfl, hA, hP, hD, hK⟩ := hv
  have hS : va_S A s.heap s.heap [] := va_S.rf
  have hx := B0.exec
  have hb := B0.bytes
  have hr := B0.returns
  have hts := fun w (h : w ∈ wA) => atoms_spec (ws := Cond.code y_Mo_finish c_Mo_finish 3 (some .int) :: wA) B0.pre w (List.mem_cons_of_mem _ h)
  have hown : s.vm.findClass R_Mo = some m.cls := findClass_of_methodNamed B0.named
  have hlocks := B0.notSynchronized
  have hl := lv_entry ([.ref (ad 0)]) (n := 3) (Nat.le_of_ble_eq_true rfl)
  rw [lg_entry_eq]
  generalize (lg_sl ([.ref (ad 0)]) ++ List.replicate (3 - (lg_sl ([.ref (ad 0)])).length) Slot.unset).toArray = ls at hl ⊢
  have hl : lv_has ls 3 [(0, .ref (ad 0))] := hl
  have hbl := h0
  refine lv_aload_n hx hb d_Mo_finish_0 rfl (lv_at hl 0 rfl) ?_
  refine lv_iconst (v := nI 0) hx hb d_Mo_finish_1 (by decide) ?_
  refine va_put (D := D) (ci := 6) (v := .int (nI 0)) (ty := .int) (C := R_Mo) (T := T_Mo) (N := 11) hx hb hts u_Mo t_Mo t_Mo_ok n_Mo hown hK hP hD hS 0 rfl rfl 0 (by decide) (hts _ w_839) (fun _ h9 => h9) rfl (by decide +kernel) rfl rfl (Nat.le_of_ble_eq_true rfl) d_Mo_finish_2 (fun H locs hP hD hS => ?_)
  have hP : va_P D vwC (wsM ct ad (nI 0) dk tk kd lc sz bh wt bl tg fs) H := hP
  have hD : va_D A (wsM ct ad (nI 0) dk tk kd lc sz bh wt bl tg fs) := hD
  refine lv_iconst (v := nI 0) hx hb d_Mo_finish_5 (by decide) ?_
  refine lv_istore_n (lv' := [(1, .int (nI 0)), (0, .ref (ad 0))]) hx hb d_Mo_finish_6 rfl hl (by decide) rfl (fun ls hl => ?_)
  have loop7 : ∀ (n9 : Nat) (n : Nat) (S : mst) (n9b : Nat), n9b < n9 → n + n9b = 12 → bOK (pj_bl S) → mokF n9b S → mfin 12 (mcod (cd, dk, tk, kd, lc, sz, bh, wt, bl, tg, fs) 0) 0 = mfin n9b S n → ∀ (H : Heap) (locs : List Loc), va_P D vwC (wsM ct ad (pj_cd S) (pj_dk S) (pj_tk S) (pj_kd S) (pj_lc S) (pj_sz S) (pj_bh S) (pj_wt S) (pj_bl S) (pj_tg S) (pj_fs S)) H → va_D A (wsM ct ad (pj_cd S) (pj_dk S) (pj_tk S) (pj_kd S) (pj_lc S) (pj_sz S) (pj_bh S) (pj_wt S) (pj_bl S) (pj_tg S) (pj_fs S)) → va_S A s.heap H locs → ∀ ls : Array Slot, lv_has ls 3 [(0, .ref (ad 0)), (1, .int (nI n))] → W p l e (headSpec (Cond.code y_Mo_finish c_Mo_finish 3 (some .int) :: wA) (rmk 3 0 0)).room s m ([.ref (ad 0)] : List Value).toArray below meth c H locs 0 0 (MQ below (wQ (some (.int (nI ((mfin 12 (mcod (cd, dk, tk, kd, lc, sz, bh, wt, bl, tg, fs) 0) 0).2)))) A D (wsM ct ad (pj_cd ((mfin 12 (mcod (cd, dk, tk, kd, lc, sz, bh, wt, bl, tg, fs) 0) 0).1)) (pj_dk ((mfin 12 (mcod (cd, dk, tk, kd, lc, sz, bh, wt, bl, tg, fs) 0) 0).1)) (pj_tk ((mfin 12 (mcod (cd, dk, tk, kd, lc, sz, bh, wt, bl, tg, fs) 0) 0).1)) (pj_kd ((mfin 12 (mcod (cd, dk, tk, kd, lc, sz, bh, wt, bl, tg, fs) 0) 0).1)) (pj_lc ((mfin 12 (mcod (cd, dk, tk, kd, lc, sz, bh, wt, bl, tg, fs) 0) 0).1)) (pj_sz ((mfin 12 (mcod (cd, dk, tk, kd, lc, sz, bh, wt, bl, tg, fs) 0) 0).1)) (pj_bh ((mfin 12 (mcod (cd, dk, tk, kd, lc, sz, bh, wt, bl, tg, fs) 0) 0).1)) (pj_wt ((mfin 12 (mcod (cd, dk, tk, kd, lc, sz, bh, wt, bl, tg, fs) 0) 0).1)) (pj_bl ((mfin 12 (mcod (cd, dk, tk, kd, lc, sz, bh, wt, bl, tg, fs) 0) 0).1)) (pj_tg ((mfin 12 (mcod (cd, dk, tk, kd, lc, sz, bh, wt, bl, tg, fs) 0) 0).1)) (pj_fs ((mfin 12 (mcod (cd, dk, tk, kd, lc, sz, bh, wt, bl, tg, fs) 0) 0).1)))) ([.ref (ad 0)] : List Value).toArray s 0 0 A) (F0 m 7 ls []) := by
    intro n9
    induction n9 with
    | zero => intro n S n9b h8 h9 hbl hok h10 H locs hP hD hS ls hl; exact absurd h8 (by omega)
    | succ n9 ih =>
      intro n S n9b h8 h9 hbl hok h10 H locs hP hD hS ls hl
      refine lv_aload_n hx hb d_Mo_finish_7 rfl (lv_at hl 0 rfl) ?_
      refine va_get (D := D) (ci := 6) (v := .int (pj_fs S)) (C := R_Mo) (T := T_Mo) (N := 11) hx hb hts u_Mo hown hK hP 0 rfl rfl 10 (by decide) (hts _ w_849) (fun _ h9 => h9) rfl d_Mo_finish_8 ?_
      refine lv_if_le (tgt := 29) hx hb d_Mo_finish_11 (by decide) (fun c_1 => ?_) (fun c_1 => ?_)
      · skip
        refine lv_iload_n hx hb d_Mo_finish_29 rfl (lv_at hl 1 rfl) ?_
        have e9 : wsM ct ad (pj_cd S) (pj_dk S) (pj_tk S) (pj_kd S) (pj_lc S) (pj_sz S) (pj_bh S) (pj_wt S) (pj_bl S) (pj_tg S) (pj_fs S) = wsM ct ad (pj_cd ((mfin 12 (mcod (cd, dk, tk, kd, lc, sz, bh, wt, bl, tg, fs) 0) 0).1)) (pj_dk ((mfin 12 (mcod (cd, dk, tk, kd, lc, sz, bh, wt, bl, tg, fs) 0) 0).1)) (pj_tk ((mfin 12 (mcod (cd, dk, tk, kd, lc, sz, bh, wt, bl, tg, fs) 0) 0).1)) (pj_kd ((mfin 12 (mcod (cd, dk, tk, kd, lc, sz, bh, wt, bl, tg, fs) 0) 0).1)) (pj_lc ((mfin 12 (mcod (cd, dk, tk, kd, lc, sz, bh, wt, bl, tg, fs) 0) 0).1)) (pj_sz ((mfin 12 (mcod (cd, dk, tk, kd, lc, sz, bh, wt, bl, tg, fs) 0) 0).1)) (pj_bh ((mfin 12 (mcod (cd, dk, tk, kd, lc, sz, bh, wt, bl, tg, fs) 0) 0).1)) (pj_wt ((mfin 12 (mcod (cd, dk, tk, kd, lc, sz, bh, wt, bl, tg, fs) 0) 0).1)) (pj_bl ((mfin 12 (mcod (cd, dk, tk, kd, lc, sz, bh, wt, bl, tg, fs) 0) 0).1)) (pj_tg ((mfin 12 (mcod (cd, dk, tk, kd, lc, sz, bh, wt, bl, tg, fs) 0) 0).1)) (pj_fs ((mfin 12 (mcod (cd, dk, tk, kd, lc, sz, bh, wt, bl, tg, fs) 0) 0).1)) := (by rw [h10]; rcases n9b with _ | kb; rfl; rw [mfin, if_pos (by assumption)])
        rw [e9] at hP hD
        exact W.iret (v := nI n) hx hb hr (fun t9 ht hW => ⟨congrArg (fun z => Outcome.returned (some (Value.int z))) (show nI n = (nI ((mfin 12 (mcod (cd, dk, tk, kd, lc, sz, bh, wt, bl, tg, fs) 0) 0).2)) from (congrArg nI (by rw [h10]; rcases n9b with _ | kb; rfl; rw [mfin, if_pos (by assumption)]))), by rw [ht]; exact hP, hD, hS.F ht⟩) hS.2.2 d_Mo_finish_30
      · skip
        rcases n9b with _ | kb
        · exact absurd hok c_1
        rcases hok with hok | ⟨hk1, hok⟩
        · exact absurd hok c_1
        obtain ⟨fz, hfz⟩ : ∃ fz : Nat, fz = (pj_fs S).toNatClampNeg := ⟨_, rfl⟩
        have hfs : pj_fs S = nI fz := z_cl hfz.symm (by omega)
        refine lv_aload_n hx hb d_Mo_finish_14 rfl (lv_at hl 0 rfl) ?_
        refine lv_aload_n hx hb d_Mo_finish_15 rfl (lv_at hl 0 rfl) ?_
        refine va_get (D := D) (ci := 6) (v := .int (pj_fs S)) (C := R_Mo) (T := T_Mo) (N := 11) hx hb hts u_Mo hown hK hP 0 rfl rfl 10 (by decide) (hts _ w_849) (fun _ h9 => h9) rfl d_Mo_finish_16 ?_
        refine W.eq (g2 := F0 m 19 ls [.int (nI fz), .ref (ad 0)]) (by rw [hfs]) ?_
        refine wrV ⟨hx, hb, hml, hown, hts⟩ hK hP hD hS hA (k_Mo_go l (f := fz) hbl (by omega) (by omega)) w_964 m_Mo_go ⟨by decide, by decide⟩ 0 rfl rfl rfl hl.1 rfl (Nat.le_of_ble_eq_true rfl) d_Mo_finish_19 ⟨Nat.zero_le _, Nat.zero_le _⟩ (fun H locs hP hD hS => ?_)
        have hbl : bOK (pj_bl (mgo ((pj_cd S), (pj_dk S), (pj_tk S), (pj_kd S), (pj_lc S), (pj_sz S), (pj_bh S), (pj_wt S), (pj_bl S), (pj_tg S), (pj_fs S)) fz)) := mgo_ok hbl
        have hP : va_P D vwC (wsM ct ad (pj_cd (mgo ((pj_cd S), (pj_dk S), (pj_tk S), (pj_kd S), (pj_lc S), (pj_sz S), (pj_bh S), (pj_wt S), (pj_bl S), (pj_tg S), (pj_fs S)) fz)) (pj_dk (mgo ((pj_cd S), (pj_dk S), (pj_tk S), (pj_kd S), (pj_lc S), (pj_sz S), (pj_bh S), (pj_wt S), (pj_bl S), (pj_tg S), (pj_fs S)) fz)) (pj_tk (mgo ((pj_cd S), (pj_dk S), (pj_tk S), (pj_kd S), (pj_lc S), (pj_sz S), (pj_bh S), (pj_wt S), (pj_bl S), (pj_tg S), (pj_fs S)) fz)) (pj_kd (mgo ((pj_cd S), (pj_dk S), (pj_tk S), (pj_kd S), (pj_lc S), (pj_sz S), (pj_bh S), (pj_wt S), (pj_bl S), (pj_tg S), (pj_fs S)) fz)) (pj_lc (mgo ((pj_cd S), (pj_dk S), (pj_tk S), (pj_kd S), (pj_lc S), (pj_sz S), (pj_bh S), (pj_wt S), (pj_bl S), (pj_tg S), (pj_fs S)) fz)) (pj_sz (mgo ((pj_cd S), (pj_dk S), (pj_tk S), (pj_kd S), (pj_lc S), (pj_sz S), (pj_bh S), (pj_wt S), (pj_bl S), (pj_tg S), (pj_fs S)) fz)) (pj_bh (mgo ((pj_cd S), (pj_dk S), (pj_tk S), (pj_kd S), (pj_lc S), (pj_sz S), (pj_bh S), (pj_wt S), (pj_bl S), (pj_tg S), (pj_fs S)) fz)) (pj_wt (mgo ((pj_cd S), (pj_dk S), (pj_tk S), (pj_kd S), (pj_lc S), (pj_sz S), (pj_bh S), (pj_wt S), (pj_bl S), (pj_tg S), (pj_fs S)) fz)) (pj_bl (mgo ((pj_cd S), (pj_dk S), (pj_tk S), (pj_kd S), (pj_lc S), (pj_sz S), (pj_bh S), (pj_wt S), (pj_bl S), (pj_tg S), (pj_fs S)) fz)) (pj_tg (mgo ((pj_cd S), (pj_dk S), (pj_tk S), (pj_kd S), (pj_lc S), (pj_sz S), (pj_bh S), (pj_wt S), (pj_bl S), (pj_tg S), (pj_fs S)) fz)) (pj_fs (mgo ((pj_cd S), (pj_dk S), (pj_tk S), (pj_kd S), (pj_lc S), (pj_sz S), (pj_bh S), (pj_wt S), (pj_bl S), (pj_tg S), (pj_fs S)) fz))) H := hP
        have hD : va_D A (wsM ct ad (pj_cd (mgo ((pj_cd S), (pj_dk S), (pj_tk S), (pj_kd S), (pj_lc S), (pj_sz S), (pj_bh S), (pj_wt S), (pj_bl S), (pj_tg S), (pj_fs S)) fz)) (pj_dk (mgo ((pj_cd S), (pj_dk S), (pj_tk S), (pj_kd S), (pj_lc S), (pj_sz S), (pj_bh S), (pj_wt S), (pj_bl S), (pj_tg S), (pj_fs S)) fz)) (pj_tk (mgo ((pj_cd S), (pj_dk S), (pj_tk S), (pj_kd S), (pj_lc S), (pj_sz S), (pj_bh S), (pj_wt S), (pj_bl S), (pj_tg S), (pj_fs S)) fz)) (pj_kd (mgo ((pj_cd S), (pj_dk S), (pj_tk S), (pj_kd S), (pj_lc S), (pj_sz S), (pj_bh S), (pj_wt S), (pj_bl S), (pj_tg S), (pj_fs S)) fz)) (pj_lc (mgo ((pj_cd S), (pj_dk S), (pj_tk S), (pj_kd S), (pj_lc S), (pj_sz S), (pj_bh S), (pj_wt S), (pj_bl S), (pj_tg S), (pj_fs S)) fz)) (pj_sz (mgo ((pj_cd S), (pj_dk S), (pj_tk S), (pj_kd S), (pj_lc S), (pj_sz S), (pj_bh S), (pj_wt S), (pj_bl S), (pj_tg S), (pj_fs S)) fz)) (pj_bh (mgo ((pj_cd S), (pj_dk S), (pj_tk S), (pj_kd S), (pj_lc S), (pj_sz S), (pj_bh S), (pj_wt S), (pj_bl S), (pj_tg S), (pj_fs S)) fz)) (pj_wt (mgo ((pj_cd S), (pj_dk S), (pj_tk S), (pj_kd S), (pj_lc S), (pj_sz S), (pj_bh S), (pj_wt S), (pj_bl S), (pj_tg S), (pj_fs S)) fz)) (pj_bl (mgo ((pj_cd S), (pj_dk S), (pj_tk S), (pj_kd S), (pj_lc S), (pj_sz S), (pj_bh S), (pj_wt S), (pj_bl S), (pj_tg S), (pj_fs S)) fz)) (pj_tg (mgo ((pj_cd S), (pj_dk S), (pj_tk S), (pj_kd S), (pj_lc S), (pj_sz S), (pj_bh S), (pj_wt S), (pj_bl S), (pj_tg S), (pj_fs S)) fz)) (pj_fs (mgo ((pj_cd S), (pj_dk S), (pj_tk S), (pj_kd S), (pj_lc S), (pj_sz S), (pj_bh S), (pj_wt S), (pj_bl S), (pj_tg S), (pj_fs S)) fz))) := hD
        refine W.eq (g2 := F0 m 22 ls [.int (nI (mbo (pj_bl S) fz 15 0 0))]) rfl ?_
        refine lv_istore_n (lv' := [(2, .int (nI (mbo (pj_bl S) fz 15 0 0))), (0, .ref (ad 0)), (1, .int (nI n))]) hx hb d_Mo_finish_22 rfl hl (by decide) rfl (fun ls hl => ?_)
        refine lv_iinc (v := nI (n + 1)) (lv' := [(1, .int (nI (n + 1))), (2, .int (nI (mbo (pj_bl S) fz 15 0 0))), (0, .ref (ad 0))]) hx hb d_Mo_finish_23 hl (k := 2) rfl (ln_inc (by decide)) (by decide) rfl (fun ls hl => ?_)
        refine lv_goto (tgt := 7) hx hb d_Mo_finish_26 (by decide) ?_
        exact ih (n + 1) (mgo S fz) kb (by omega) (by omega) hbl (by rw [hfz]; exact hok) (by rw [h10, mfin, if_neg (by assumption), hfz]) _ _ hP hD hS ls (lv_sub hl [2, 0] rfl)
  exact loop7 13 0 (mcod (cd, dk, tk, kd, lc, sz, bh, wt, bl, tg, fs) 0) 12 (by omega) (by omega) hbl h1 rfl _ _ hP hD hS ls (lv_sub hl [1, 0] rfl)
