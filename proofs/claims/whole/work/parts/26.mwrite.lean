/-! the reference: what is written -/
abbrev m3 : Type := (Nat → Int32) × (Nat → Int32) × (Nat → Nat)
def mt_b (bl : Nat → Nat) (f k : Nat) : Nat := if k = 0 then 0 else bl (15 * f + k - 1)
def mt_g (bl : Nat → Nat) (f k : Nat) : Nat := if mt_b bl f k = 0 then 4 else mt_b bl f k + 1
def mt1 (tk : Nat → Int32) (g : Nat) : Nat → Nat → Nat
  | 0, x => x
  | b + 1, x => mt1 tk g b (if tk (b + 1) = 0 ∧ g ≤ b + 1 then b + 1 else x)
def mt2 (tk : Nat → Int32) (g : Nat) : Nat → Nat → Nat
  | 0, x => x
  | b + 1, x => if g ≤ x then x else mt2 tk g b (if tk (b + 1) = 0 then b + 1 else x)
def mtd (tk : Nat → Int32) (bl : Nat → Nat) (f k : Nat) : Nat := mt2 tk (mt_g bl f k) 127 (mt1 tk (mt_g bl f k) 127 0)
def mzd (fd : Nat) : Nat → Nat → (Nat → Int32) → (Nat → Int32)
  | 0, _, d => d
  | n + 1, i, d => mzd fd n (i + 1) (upd d (1024 * fd + i) (vp_nar .byte (nI 0)))
def mtk (S : m3) (f k : Nat) : m3 := (mzd (mtd S.2.1 S.2.2 f k) 1024 0 S.1, upd S.2.1 (mtd S.2.1 S.2.2 f k) (vp_nar .boolean (nI 1)), un S.2.2 (15 * f + k) (mtd S.2.1 S.2.2 f k))
theorem mt1_lt {tk : Nat → Int32} {g : Nat} : ∀ b x, b < 128 → x < 128 → mt1 tk g b x < 128
  | 0, x, _, hx => hx
  | b + 1, x, hb, hx => by
    rw [mt1]
    apply mt1_lt b _ (by omega)
    by_cases q : tk (b + 1) = 0 ∧ g ≤ b + 1
    · rw [if_pos q]; exact hb
    · rw [if_neg q]; exact hx
theorem mt2_lt {tk : Nat → Int32} {g : Nat} : ∀ b x, b < 128 → x < 128 → mt2 tk g b x < 128
  | 0, x, _, hx => hx
  | b + 1, x, hb, hx => by
    rw [mt2]
    by_cases q : g ≤ x
    · rw [if_pos q]; exact hx
    · rw [if_neg q]
      apply mt2_lt b _ (by omega)
      by_cases q : tk (b + 1) = 0
      · rw [if_pos q]; exact hb
      · rw [if_neg q]; exact hx
theorem mtd_lt {tk : Nat → Int32} {bl : Nat → Nat} {f k : Nat} : mtd tk bl f k < 128 := mt2_lt _ _ (by decide) (mt1_lt _ _ (by decide) (by decide))
theorem mtk_ok {S : m3} {f k : Nat} (h : bOK S.2.2) : bOK (mtk S f k).2.2 := un_lt h mtd_lt
def mgT (tk : Nat → Int32) (bl : Nat → Nat) (f k : Nat) : Nat → Int32 := if bl (15 * f + k) = 0 then tk else upd tk (bl (15 * f + k)) (vp_nar .boolean (nI 0))
def mgB (bl : Nat → Nat) (f k : Nat) : Nat → Nat := if bl (15 * f + k) = 0 then bl else un bl (15 * f + k) 0
theorem mgB_ok {bl : Nat → Nat} {f k : Nat} (h : bOK bl) : bOK (mgB bl f k) := by
  unfold mgB
  by_cases q : bl (15 * f + k) = 0
  · rw [if_pos q]; exact h
  · rw [if_neg q]; exact un_lt h (by decide)
def mtaS (f : Nat) : Nat → Nat → m3 → m3
  | 0, _, S => S
  | n + 1, q, S => mtaS f n (q + 1) (if S.2.2 (15 * f + q) = 0 then mtk S f q else S)
theorem mtaS_ok {f : Nat} : ∀ n q (S : m3), bOK S.2.2 → bOK (mtaS f n q S).2.2
  | 0, _, _, h => h
  | n + 1, q, S, h => by
    rw [mtaS]
    apply mtaS_ok n
    by_cases w : S.2.2 (15 * f + q) = 0
    · rw [if_pos w]; exact mtk_ok h
    · rw [if_neg w]; exact h
def mta (S : m3) (f a n : Nat) : m3 := mtaS f ((a + n - 1) / 1024 + 1 - a / 1024) (a / 1024) S
theorem mta_ok {S : m3} {f a n : Nat} (h : bOK S.2.2) : bOK (mta S f a n).2.2 := mtaS_ok _ _ _ h
def msz (sz : Nat → Int32) (f v : Nat) : Nat → Int32 := upd sz f (if nI v ≤ sz f then sz f else nI v)
def mset (dk : Nat → Int32) (bl : Nat → Nat) (f a : Nat) (x : Int32) : Nat → Int32 := upd dk (1024 * bl (15 * f + a / 1024) + a % 1024) (vp_nar .byte (x.toInt8.toInt32))
def rlp (wt : Nat → Int32) (f : Nat) : Nat → Nat → (Nat → Int32) → (Nat → Int32)
  | 0, _, b => b
  | k + 1, g, b => rlp wt f k (g + 1) (upd b g (if wt g = 0 then b g else if b g = nI f then b f else b g))
abbrev mw : Type := (Nat → Int32) × (Nat → Int32) × Int32
def mrst (T : mw) (f : Nat) (y : Int32) : mw := if y = T.2.1 f then T else if y = 0 then (upd (rlp (upd T.2.1 f (vp_nar .boolean y)) f 12 1 T.1) f (nI 0), upd T.2.1 f (vp_nar .boolean y), if T.2.2 = nI f then T.1 f else T.2.2) else (upd T.1 f T.2.2, upd T.2.1 f (vp_nar .boolean y), nI f)
def mz15 (f : Nat) : Nat → Nat → (Nat → Nat) → (Nat → Nat)
  | 0, _, b => b
  | n + 1, k, b => mz15 f n (k + 1) (un b (15 * f + k) 0)
theorem mz15_ok {f : Nat} : ∀ n k (b : Nat → Nat), bOK b → bOK (mz15 f n k b)
  | 0, _, _, h => h
  | n + 1, k, b, h => mz15_ok n (k + 1) _ (un_lt h (by decide))
theorem mff_le {kd : Nat → Int32} : ∀ k f, 0 < f → mff kd k f ≤ f + k - 1
  | 0, f, h => by rw [mff]; omega
  | k + 1, f, h => by
    rw [mff]
    by_cases q : kd f = 0
    · rw [if_pos q]; omega
    · rw [if_neg q]; have := mff_le (kd := kd) k (f + 1) (by omega); omega
theorem m_Mo_take : mV R_Mo y_Mo_take (Cond.code y_Mo_take c_Mo_take 7 none) 2 := ⟨⟨w_908, wp_17, w_7, w_909⟩, by decide +kernel⟩
set_option maxHeartbeats 4000000 in
set_option maxRecDepth 100000 in
theorem k_Mo_take (l : Launch) {D : va_G} {ct : Nat → ClassId} {ad : Nat → Nat} {cd : Int32} {dk : Nat → Int32} {tk kd lc sz bh wt : Nat → Int32} {bl : Nat → Nat} {tg : Nat → Int32} {fs : Int32} {A : Nat → Prop} {f : Nat} {k : Nat} (h0 : bOK bl) (h1 : f ≤ 12) (h2 : k < 15) : Met l y_Mo_take (Cond.code y_Mo_take c_Mo_take 7 none :: wA) (rmk 1 0 0) (va_Pc [.ref (ad 0), .int (nI f), .int (nI k)] (cW A D (tyM ct) (wsM ct ad cd dk tk kd lc sz bh wt bl tg fs))) (wQ none A D (wsM ct ad cd ((mtk (dk, tk, bl) f k).1) ((mtk (dk, tk, bl) f k).2.1) kd lc sz bh wt ((mtk (dk, tk, bl) f k).2.2) tg fs)) 0 0 A := by
  refine Met.ofW (cc := c_Mo_take) (maxL := 7) (ret := none) (by decide +kernel) rfl ?_
  intro p e s m args below meth c s₁ B0 hml hv
  obtain ⟨rfl, hA, hP, hD, hK⟩ := hv
  have hS : va_S A s.heap s.heap [] := va_S.rf
  have hx := B0.exec
  have hb := B0.bytes
  have hr := B0.returns
  have hts := fun w (h : w ∈ wA) => atoms_spec (ws := Cond.code y_Mo_take c_Mo_take 7 none :: wA) B0.pre w (List.mem_cons_of_mem _ h)
  have hown : s.vm.findClass R_Mo = some m.cls := findClass_of_methodNamed B0.named
  have hlocks := B0.notSynchronized
  have hl := lv_entry ([.ref (ad 0), .int (nI f), .int (nI k)]) (n := 7) (Nat.le_of_ble_eq_true rfl)
  rw [lg_entry_eq]
  generalize (lg_sl ([.ref (ad 0), .int (nI f), .int (nI k)]) ++ List.replicate (7 - (lg_sl ([.ref (ad 0), .int (nI f), .int (nI k)])).length) Slot.unset).toArray = ls at hl ⊢
  have hl : lv_has ls 7 [(0, .ref (ad 0)), (1, .int (nI f)), (2, .int (nI k))] := hl
  have hbl := h0
  refine lv_iload_n hx hb d_Mo_take_0 rfl (lv_at hl 2 rfl) ?_
  refine ln_if_ne (tgt := 8) hx hb (by omega) d_Mo_take_1 (by decide) (fun c_1 => ?_) (fun c_1 => ?_)
  · skip
    refine lv_aload_n hx hb d_Mo_take_8 rfl (lv_at hl 0 rfl) ?_
    refine va_get (D := D) (ci := 6) (v := .ref (ad 8)) (C := R_Mo) (T := T_Mo) (N := 11) hx hb hts u_Mo hown hK hP 0 rfl rfl 8 (by decide) (hts _ w_847) (fun _ h9 => h9) rfl d_Mo_take_9 ?_
    refine lv_bipush (v := nI 15) hx hb d_Mo_take_12 (by decide) ?_
    refine lv_iload_n hx hb d_Mo_take_14 rfl (lv_at hl 1 rfl) ?_
    refine ln_imul hx hb d_Mo_take_15 ?_
    refine lv_iload_n hx hb d_Mo_take_16 rfl (lv_at hl 2 rfl) ?_
    refine ln_iadd hx hb d_Mo_take_17 ?_
    refine lv_iconst (v := nI 1) hx hb d_Mo_take_18 (by decide) ?_
    refine ln_isub hx hb d_Mo_take_19 (by omega) ?_
    refine ln_iald hx hb hK hP 8 2 rfl rfl (by omega) (by decide) d_Mo_take_20 ?_
    refine W.eq (g2 := F0 m 21 ls [.int (nI (bl (((15 * f) + k) - 1)))]) rfl ?_
    have b_2 := hbl (((15 * f) + k) - 1)
    refine W.eq (g2 := F0 m 21 ls [.int (nI (mt_b bl f k))]) (by unfold mt_b; first | (rw [if_pos (by omega)]; done) | (rw [if_neg (by omega)]; done)) ?_
    have hb9 : mt_b bl f k < 128 := by unfold mt_b; by_cases w : k = 0; rw [if_pos w]; omega; rw [if_neg w]; exact hbl _
    refine lv_istore_n (lv' := [(3, .int (nI (mt_b bl f k))), (0, .ref (ad 0)), (1, .int (nI f)), (2, .int (nI k))]) hx hb d_Mo_take_21 rfl hl (by decide) rfl (fun ls hl => ?_)
    refine lv_iload_n hx hb d_Mo_take_22 rfl (lv_at hl 0 rfl) ?_
    refine ln_if_ne (tgt := 30) hx hb (by omega) d_Mo_take_23 (by decide) (fun c_3 => ?_) (fun c_3 => ?_)
    · skip
      refine lv_iload_n hx hb d_Mo_take_30 rfl (lv_at hl 0 rfl) ?_
      refine lv_iconst (v := nI 1) hx hb d_Mo_take_31 (by decide) ?_
      refine ln_iadd hx hb d_Mo_take_32 ?_
      refine W.eq (g2 := F0 m 33 ls [.int (nI (mt_g bl f k))]) (by unfold mt_g; first | (rw [if_pos (by omega)]; done) | (rw [if_neg (by omega)]; done)) ?_
      obtain ⟨g, hg⟩ : ∃ g : Nat, g = mt_g bl f k := ⟨_, rfl⟩
      have hg9 : g ≤ 128 := by rw [hg]; unfold mt_g; by_cases w : mt_b bl f k = 0; rw [if_pos w]; omega; rw [if_neg w]; omega
      refine W.eq (g2 := F0 m 33 ls [.int (nI g)]) (by rw [hg]) ?_
      refine lv_istore (lv' := [(4, .int (nI g)), (3, .int (nI (mt_b bl f k))), (0, .ref (ad 0)), (1, .int (nI f)), (2, .int (nI k))]) hx hb d_Mo_take_33 hl (by decide) rfl (fun ls hl => ?_)
      refine lv_iconst (v := nI 0) hx hb d_Mo_take_35 (by decide) ?_
      refine lv_istore (lv' := [(5, .int (nI 0)), (4, .int (nI g)), (3, .int (nI (mt_b bl f k))), (0, .ref (ad 0)), (1, .int (nI f)), (2, .int (nI k))]) hx hb d_Mo_take_36 hl (by decide) rfl (fun ls hl => ?_)
      refine lv_bipush (v := nI 127) hx hb d_Mo_take_38 (by decide) ?_
      refine lv_istore (lv' := [(6, .int (nI 127)), (5, .int (nI 0)), (4, .int (nI g)), (3, .int (nI (mt_b bl f k))), (0, .ref (ad 0)), (1, .int (nI f)), (2, .int (nI k))]) hx hb d_Mo_take_40 hl (by decide) rfl (fun ls hl => ?_)
      have loop42 : ∀ (n9 : Nat) (b : Nat) (x : Nat), b < n9 → b < 128 → x < 128 → mt1 tk g 127 0 = mt1 tk g b x → ∀ (H : Heap) (locs : List Loc), va_P D vwC (wsM ct ad cd dk tk kd lc sz bh wt bl tg fs) H → va_D A (wsM ct ad cd dk tk kd lc sz bh wt bl tg fs) → va_S A s.heap H locs → ∀ ls : Array Slot, lv_has ls 7 [(0, .ref (ad 0)), (1, .int (nI f)), (2, .int (nI k)), (3, .int (nI (mt_b bl f k))), (4, .int (nI g)), (5, .int (nI x)), (6, .int (nI b))] → W p l e (headSpec (Cond.code y_Mo_take c_Mo_take 7 none :: wA) (rmk 1 0 0)).room s m ([.ref (ad 0), .int (nI f), .int (nI k)] : List Value).toArray below meth c H locs 0 0 (MQ below (wQ none A D (wsM ct ad cd ((mtk (dk, tk, bl) f k).1) ((mtk (dk, tk, bl) f k).2.1) kd lc sz bh wt ((mtk (dk, tk, bl) f k).2.2) tg fs)) ([.ref (ad 0), .int (nI f), .int (nI k)] : List Value).toArray s 0 0 A) (F0 m 42 ls []) := by
        intro n9
        induction n9 with
        | zero => intro b x h8 h9 h11 h10 H locs hP hD hS ls hl; exact absurd h8 (by omega)
        | succ n9 ih =>
          intro b x h8 h9 h11 h10 H locs hP hD hS ls hl
          refine lv_iload hx hb d_Mo_take_42 (lv_at hl 6 rfl) ?_
          refine ln_if_le (tgt := 79) hx hb (by omega) d_Mo_take_44 (by decide) (fun c_4 => ?_) (fun c_4 => ?_)
          · skip
            refine lv_bipush (v := nI 127) hx hb d_Mo_take_79 (by decide) ?_
            refine lv_istore (lv' := [(6, .int (nI 127)), (0, .ref (ad 0)), (1, .int (nI f)), (2, .int (nI k)), (3, .int (nI (mt_b bl f k))), (4, .int (nI g)), (5, .int (nI x))]) hx hb d_Mo_take_81 hl (by decide) rfl (fun ls hl => ?_)
            have loop83 : ∀ (n9 : Nat) (b : Nat) (x : Nat), b < n9 → b < 128 → x < 128 → mt2 tk g 127 (mt1 tk g 127 0) = mt2 tk g b x → ∀ (H : Heap) (locs : List Loc), va_P D vwC (wsM ct ad cd dk tk kd lc sz bh wt bl tg fs) H → va_D A (wsM ct ad cd dk tk kd lc sz bh wt bl tg fs) → va_S A s.heap H locs → ∀ ls : Array Slot, lv_has ls 7 [(0, .ref (ad 0)), (1, .int (nI f)), (2, .int (nI k)), (3, .int (nI (mt_b bl f k))), (4, .int (nI g)), (5, .int (nI x)), (6, .int (nI b))] → W p l e (headSpec (Cond.code y_Mo_take c_Mo_take 7 none :: wA) (rmk 1 0 0)).room s m ([.ref (ad 0), .int (nI f), .int (nI k)] : List Value).toArray below meth c H locs 0 0 (MQ below (wQ none A D (wsM ct ad cd ((mtk (dk, tk, bl) f k).1) ((mtk (dk, tk, bl) f k).2.1) kd lc sz bh wt ((mtk (dk, tk, bl) f k).2.2) tg fs)) ([.ref (ad 0), .int (nI f), .int (nI k)] : List Value).toArray s 0 0 A) (F0 m 83 ls []) := by
              intro n9
              induction n9 with
              | zero => intro b x h8 h9 h11 h10 H locs hP hD hS ls hl; exact absurd h8 (by omega)
              | succ n9 ih =>
                intro b x h8 h9 h11 h10 H locs hP hD hS ls hl
                refine lv_iload hx hb d_Mo_take_83 (lv_at hl 6 rfl) ?_
                refine ln_if_le (tgt := 120) hx hb (by omega) d_Mo_take_85 (by decide) (fun c_5 => ?_) (fun c_5 => ?_)
                · skip
                  refine lv_aload_n hx hb d_Mo_take_120 rfl (lv_at hl 0 rfl) ?_
                  refine va_get (D := D) (ci := 6) (v := .ref (ad 2)) (C := R_Mo) (T := T_Mo) (N := 11) hx hb hts u_Mo hown hK hP 0 rfl rfl 2 (by decide) (hts _ w_841) (fun _ h9 => h9) rfl d_Mo_take_121 ?_
                  refine lv_iload hx hb d_Mo_take_124 (lv_at hl 5 rfl) ?_
                  refine lv_iconst (v := nI 1) hx hb d_Mo_take_126 (by decide) ?_
                  refine ln_zast hx hb hK hP hD hS 2 1 rfl rfl (by omega) (by decide) d_Mo_take_127 (fun H locs hP hD hS => ?_)
                  have hP : va_P D vwC (wsM ct ad cd dk (upd tk x (vp_nar .boolean (nI 1))) kd lc sz bh wt bl tg fs) H := hP
                  have hD : va_D A (wsM ct ad cd dk (upd tk x (vp_nar .boolean (nI 1))) kd lc sz bh wt bl tg fs) := hD
                  refine lv_aload_n hx hb d_Mo_take_128 rfl (lv_at hl 0 rfl) ?_
                  refine va_get (D := D) (ci := 6) (v := .ref (ad 8)) (C := R_Mo) (T := T_Mo) (N := 11) hx hb hts u_Mo hown hK hP 0 rfl rfl 8 (by decide) (hts _ w_847) (fun _ h9 => h9) rfl d_Mo_take_129 ?_
                  refine lv_bipush (v := nI 15) hx hb d_Mo_take_132 (by decide) ?_
                  refine lv_iload_n hx hb d_Mo_take_134 rfl (lv_at hl 1 rfl) ?_
                  refine ln_imul hx hb d_Mo_take_135 ?_
                  refine lv_iload_n hx hb d_Mo_take_136 rfl (lv_at hl 2 rfl) ?_
                  refine ln_iadd hx hb d_Mo_take_137 ?_
                  refine lv_iload hx hb d_Mo_take_138 (lv_at hl 5 rfl) ?_
                  refine ln_iast hx hb hK hP hD hS 8 2 rfl rfl (by omega) (by decide) d_Mo_take_140 (fun H locs hP8 hD8 hS => ?_)
                  rw [upd_nI] at hP8 hD8
                  have hP : va_P D vwC (wsM ct ad cd dk (upd tk x (vp_nar .boolean (nI 1))) kd lc sz bh wt (un bl ((15 * f) + k) x) tg fs) H := hP8
                  have hD : va_D A (wsM ct ad cd dk (upd tk x (vp_nar .boolean (nI 1))) kd lc sz bh wt (un bl ((15 * f) + k) x) tg fs) := hD8
                  have hbl : bOK (un bl ((15 * f) + k) x) := un_lt hbl (by omega)
                  refine lv_iconst (v := nI 0) hx hb d_Mo_take_141 (by decide) ?_
                  refine lv_istore (lv' := [(6, .int (nI 0)), (0, .ref (ad 0)), (1, .int (nI f)), (2, .int (nI k)), (3, .int (nI (mt_b bl f k))), (4, .int (nI g)), (5, .int (nI x))]) hx hb d_Mo_take_142 hl (by decide) rfl (fun ls hl => ?_)
                  have loop144 : ∀ (n9 : Nat) (i : Nat) (d : Nat → Int32), 1024 - i < n9 → i ≤ 1024 → mzd x 1024 0 dk = mzd x (1024 - i) i d → ∀ (H : Heap) (locs : List Loc), va_P D vwC (wsM ct ad cd d (upd tk x (vp_nar .boolean (nI 1))) kd lc sz bh wt (un bl ((15 * f) + k) x) tg fs) H → va_D A (wsM ct ad cd d (upd tk x (vp_nar .boolean (nI 1))) kd lc sz bh wt (un bl ((15 * f) + k) x) tg fs) → va_S A s.heap H locs → ∀ ls : Array Slot, lv_has ls 7 [(0, .ref (ad 0)), (1, .int (nI f)), (2, .int (nI k)), (3, .int (nI (mt_b bl f k))), (4, .int (nI g)), (5, .int (nI x)), (6, .int (nI i))] → W p l e (headSpec (Cond.code y_Mo_take c_Mo_take 7 none :: wA) (rmk 1 0 0)).room s m ([.ref (ad 0), .int (nI f), .int (nI k)] : List Value).toArray below meth c H locs 0 0 (MQ below (wQ none A D (wsM ct ad cd ((mtk (dk, tk, bl) f k).1) ((mtk (dk, tk, bl) f k).2.1) kd lc sz bh wt ((mtk (dk, tk, bl) f k).2.2) tg fs)) ([.ref (ad 0), .int (nI f), .int (nI k)] : List Value).toArray s 0 0 A) (F0 m 144 ls []) := by
                    intro n9
                    induction n9 with
                    | zero => intro i d h8 h9 h12 H locs hP hD hS ls hl; exact absurd h8 (by omega)
                    | succ n9 ih =>
                      intro i d h8 h9 h12 H locs hP hD hS ls hl
                      refine lv_iload hx hb d_Mo_take_144 (lv_at hl 6 rfl) ?_
                      refine lv_sipush (v := nI 1024) hx hb d_Mo_take_146 (by decide) ?_
                      refine ln_icmp_ge (tgt := 173) hx hb (by omega) (by omega) d_Mo_take_149 (by decide) (fun c_6 => ?_) (fun c_6 => ?_)
                      · skip
                        have e9 : wsM ct ad cd d (upd tk x (vp_nar .boolean (nI 1))) kd lc sz bh wt (un bl ((15 * f) + k) x) tg fs = wsM ct ad cd ((mtk (dk, tk, bl) f k).1) ((mtk (dk, tk, bl) f k).2.1) kd lc sz bh wt ((mtk (dk, tk, bl) f k).2.2) tg fs := (by have e7 : mtd tk bl f k = x := (by unfold mtd; rw [← hg]; first | (rw [h10, show b = 0 by omega]; rfl) | (rw [h10]; obtain ⟨c7, rfl⟩ : ∃ c7, b = c7 + 1 := ⟨b - 1, by omega⟩; rw [mt2, if_pos (by omega)])); unfold mtk; dsimp only; rw [e7, h12, show 1024 - i = 0 by omega]; rfl)
                        rw [e9] at hP hD
                        exact W.vret hx hb hr (fun t9 ht hW => ⟨rfl, by rw [ht]; exact hP, hD, hS.F ht⟩) hS.2.2 d_Mo_take_173
                      · skip
                        refine lv_aload_n hx hb d_Mo_take_152 rfl (lv_at hl 0 rfl) ?_
                        refine va_get (D := D) (ci := 6) (v := .ref (ad 1)) (C := R_Mo) (T := T_Mo) (N := 11) hx hb hts u_Mo hown hK hP 0 rfl rfl 1 (by decide) (hts _ w_840) (fun _ h9 => h9) rfl d_Mo_take_153 ?_
                        refine lv_sipush (v := nI 1024) hx hb d_Mo_take_156 (by decide) ?_
                        refine lv_iload hx hb d_Mo_take_159 (lv_at hl 5 rfl) ?_
                        refine ln_imul hx hb d_Mo_take_161 ?_
                        refine lv_iload hx hb d_Mo_take_162 (lv_at hl 6 rfl) ?_
                        refine ln_iadd hx hb d_Mo_take_164 ?_
                        refine lv_iconst (v := nI 0) hx hb d_Mo_take_165 (by decide) ?_
                        refine ln_bast hx hb hK hP hD hS 1 0 rfl rfl (by omega) (by decide) d_Mo_take_166 (fun H locs hP hD hS => ?_)
                        have hP : va_P D vwC (wsM ct ad cd (upd d ((1024 * x) + i) (vp_nar .byte (nI 0))) (upd tk x (vp_nar .boolean (nI 1))) kd lc sz bh wt (un bl ((15 * f) + k) x) tg fs) H := hP
                        have hD : va_D A (wsM ct ad cd (upd d ((1024 * x) + i) (vp_nar .byte (nI 0))) (upd tk x (vp_nar .boolean (nI 1))) kd lc sz bh wt (un bl ((15 * f) + k) x) tg fs) := hD
                        refine lv_iinc (v := nI (i + 1)) (lv' := [(6, .int (nI (i + 1))), (0, .ref (ad 0)), (1, .int (nI f)), (2, .int (nI k)), (3, .int (nI (mt_b bl f k))), (4, .int (nI g)), (5, .int (nI x))]) hx hb d_Mo_take_167 hl (k := 6) rfl (ln_inc (by decide)) (by decide) rfl (fun ls hl => ?_)
                        refine lv_goto (tgt := 144) hx hb d_Mo_take_170 (by decide) ?_
                        exact ih (i + 1) (upd d ((1024 * x) + i) (vp_nar .byte (nI 0))) (by omega) (by omega) (by rw [h12, show 1024 - i = 1024 - (i + 1) + 1 by omega, mzd]) _ _ hP hD hS ls (lv_sub hl [1, 2, 3, 4, 5, 6, 0] rfl)
                  exact loop144 1025 0 dk (by omega) (by omega) rfl _ _ hP hD hS ls (lv_sub hl [1, 2, 3, 4, 5, 6, 0] rfl)
                · skip
                  refine lv_iload hx hb d_Mo_take_88 (lv_at hl 5 rfl) ?_
                  refine lv_iload hx hb d_Mo_take_90 (lv_at hl 4 rfl) ?_
                  refine ln_icmp_ge (tgt := 120) hx hb (by omega) (by omega) d_Mo_take_92 (by decide) (fun c_7 => ?_) (fun c_7 => ?_)
                  · skip
                    refine lv_aload_n hx hb d_Mo_take_120 rfl (lv_at hl 0 rfl) ?_
                    refine va_get (D := D) (ci := 6) (v := .ref (ad 2)) (C := R_Mo) (T := T_Mo) (N := 11) hx hb hts u_Mo hown hK hP 0 rfl rfl 2 (by decide) (hts _ w_841) (fun _ h9 => h9) rfl d_Mo_take_121 ?_
                    refine lv_iload hx hb d_Mo_take_124 (lv_at hl 5 rfl) ?_
                    refine lv_iconst (v := nI 1) hx hb d_Mo_take_126 (by decide) ?_
                    refine ln_zast hx hb hK hP hD hS 2 1 rfl rfl (by omega) (by decide) d_Mo_take_127 (fun H locs hP hD hS => ?_)
                    have hP : va_P D vwC (wsM ct ad cd dk (upd tk x (vp_nar .boolean (nI 1))) kd lc sz bh wt bl tg fs) H := hP
                    have hD : va_D A (wsM ct ad cd dk (upd tk x (vp_nar .boolean (nI 1))) kd lc sz bh wt bl tg fs) := hD
                    refine lv_aload_n hx hb d_Mo_take_128 rfl (lv_at hl 0 rfl) ?_
                    refine va_get (D := D) (ci := 6) (v := .ref (ad 8)) (C := R_Mo) (T := T_Mo) (N := 11) hx hb hts u_Mo hown hK hP 0 rfl rfl 8 (by decide) (hts _ w_847) (fun _ h9 => h9) rfl d_Mo_take_129 ?_
                    refine lv_bipush (v := nI 15) hx hb d_Mo_take_132 (by decide) ?_
                    refine lv_iload_n hx hb d_Mo_take_134 rfl (lv_at hl 1 rfl) ?_
                    refine ln_imul hx hb d_Mo_take_135 ?_
                    refine lv_iload_n hx hb d_Mo_take_136 rfl (lv_at hl 2 rfl) ?_
                    refine ln_iadd hx hb d_Mo_take_137 ?_
                    refine lv_iload hx hb d_Mo_take_138 (lv_at hl 5 rfl) ?_
                    refine ln_iast hx hb hK hP hD hS 8 2 rfl rfl (by omega) (by decide) d_Mo_take_140 (fun H locs hP8 hD8 hS => ?_)
                    rw [upd_nI] at hP8 hD8
                    have hP : va_P D vwC (wsM ct ad cd dk (upd tk x (vp_nar .boolean (nI 1))) kd lc sz bh wt (un bl ((15 * f) + k) x) tg fs) H := hP8
                    have hD : va_D A (wsM ct ad cd dk (upd tk x (vp_nar .boolean (nI 1))) kd lc sz bh wt (un bl ((15 * f) + k) x) tg fs) := hD8
                    have hbl : bOK (un bl ((15 * f) + k) x) := un_lt hbl (by omega)
                    refine lv_iconst (v := nI 0) hx hb d_Mo_take_141 (by decide) ?_
                    refine lv_istore (lv' := [(6, .int (nI 0)), (0, .ref (ad 0)), (1, .int (nI f)), (2, .int (nI k)), (3, .int (nI (mt_b bl f k))), (4, .int (nI g)), (5, .int (nI x))]) hx hb d_Mo_take_142 hl (by decide) rfl (fun ls hl => ?_)
                    have loop144 : ∀ (n9 : Nat) (i : Nat) (d : Nat → Int32), 1024 - i < n9 → i ≤ 1024 → mzd x 1024 0 dk = mzd x (1024 - i) i d → ∀ (H : Heap) (locs : List Loc), va_P D vwC (wsM ct ad cd d (upd tk x (vp_nar .boolean (nI 1))) kd lc sz bh wt (un bl ((15 * f) + k) x) tg fs) H → va_D A (wsM ct ad cd d (upd tk x (vp_nar .boolean (nI 1))) kd lc sz bh wt (un bl ((15 * f) + k) x) tg fs) → va_S A s.heap H locs → ∀ ls : Array Slot, lv_has ls 7 [(0, .ref (ad 0)), (1, .int (nI f)), (2, .int (nI k)), (3, .int (nI (mt_b bl f k))), (4, .int (nI g)), (5, .int (nI x)), (6, .int (nI i))] → W p l e (headSpec (Cond.code y_Mo_take c_Mo_take 7 none :: wA) (rmk 1 0 0)).room s m ([.ref (ad 0), .int (nI f), .int (nI k)] : List Value).toArray below meth c H locs 0 0 (MQ below (wQ none A D (wsM ct ad cd ((mtk (dk, tk, bl) f k).1) ((mtk (dk, tk, bl) f k).2.1) kd lc sz bh wt ((mtk (dk, tk, bl) f k).2.2) tg fs)) ([.ref (ad 0), .int (nI f), .int (nI k)] : List Value).toArray s 0 0 A) (F0 m 144 ls []) := by
                      intro n9
                      induction n9 with
                      | zero => intro i d h8 h9 h12 H locs hP hD hS ls hl; exact absurd h8 (by omega)
                      | succ n9 ih =>
                        intro i d h8 h9 h12 H locs hP hD hS ls hl
                        refine lv_iload hx hb d_Mo_take_144 (lv_at hl 6 rfl) ?_
                        refine lv_sipush (v := nI 1024) hx hb d_Mo_take_146 (by decide) ?_
                        refine ln_icmp_ge (tgt := 173) hx hb (by omega) (by omega) d_Mo_take_149 (by decide) (fun c_8 => ?_) (fun c_8 => ?_)
                        · skip
                          have e9 : wsM ct ad cd d (upd tk x (vp_nar .boolean (nI 1))) kd lc sz bh wt (un bl ((15 * f) + k) x) tg fs = wsM ct ad cd ((mtk (dk, tk, bl) f k).1) ((mtk (dk, tk, bl) f k).2.1) kd lc sz bh wt ((mtk (dk, tk, bl) f k).2.2) tg fs := (by have e7 : mtd tk bl f k = x := (by unfold mtd; rw [← hg]; first | (rw [h10, show b = 0 by omega]; rfl) | (rw [h10]; obtain ⟨c7, rfl⟩ : ∃ c7, b = c7 + 1 := ⟨b - 1, by omega⟩; rw [mt2, if_pos (by omega)])); unfold mtk; dsimp only; rw [e7, h12, show 1024 - i = 0 by omega]; rfl)
                          rw [e9] at hP hD
                          exact W.vret hx hb hr (fun t9 ht hW => ⟨rfl, by rw [ht]; exact hP, hD, hS.F ht⟩) hS.2.2 d_Mo_take_173
                        · skip
                          refine lv_aload_n hx hb d_Mo_take_152 rfl (lv_at hl 0 rfl) ?_
                          refine va_get (D := D) (ci := 6) (v := .ref (ad 1)) (C := R_Mo) (T := T_Mo) (N := 11) hx hb hts u_Mo hown hK hP 0 rfl rfl 1 (by decide) (hts _ w_840) (fun _ h9 => h9) rfl d_Mo_take_153 ?_
                          refine lv_sipush (v := nI 1024) hx hb d_Mo_take_156 (by decide) ?_
                          refine lv_iload hx hb d_Mo_take_159 (lv_at hl 5 rfl) ?_
                          refine ln_imul hx hb d_Mo_take_161 ?_
                          refine lv_iload hx hb d_Mo_take_162 (lv_at hl 6 rfl) ?_
                          refine ln_iadd hx hb d_Mo_take_164 ?_
                          refine lv_iconst (v := nI 0) hx hb d_Mo_take_165 (by decide) ?_
                          refine ln_bast hx hb hK hP hD hS 1 0 rfl rfl (by omega) (by decide) d_Mo_take_166 (fun H locs hP hD hS => ?_)
                          have hP : va_P D vwC (wsM ct ad cd (upd d ((1024 * x) + i) (vp_nar .byte (nI 0))) (upd tk x (vp_nar .boolean (nI 1))) kd lc sz bh wt (un bl ((15 * f) + k) x) tg fs) H := hP
                          have hD : va_D A (wsM ct ad cd (upd d ((1024 * x) + i) (vp_nar .byte (nI 0))) (upd tk x (vp_nar .boolean (nI 1))) kd lc sz bh wt (un bl ((15 * f) + k) x) tg fs) := hD
                          refine lv_iinc (v := nI (i + 1)) (lv' := [(6, .int (nI (i + 1))), (0, .ref (ad 0)), (1, .int (nI f)), (2, .int (nI k)), (3, .int (nI (mt_b bl f k))), (4, .int (nI g)), (5, .int (nI x))]) hx hb d_Mo_take_167 hl (k := 6) rfl (ln_inc (by decide)) (by decide) rfl (fun ls hl => ?_)
                          refine lv_goto (tgt := 144) hx hb d_Mo_take_170 (by decide) ?_
                          exact ih (i + 1) (upd d ((1024 * x) + i) (vp_nar .byte (nI 0))) (by omega) (by omega) (by rw [h12, show 1024 - i = 1024 - (i + 1) + 1 by omega, mzd]) _ _ hP hD hS ls (lv_sub hl [1, 2, 3, 4, 5, 6, 0] rfl)
                    exact loop144 1025 0 dk (by omega) (by omega) rfl _ _ hP hD hS ls (lv_sub hl [1, 2, 3, 4, 5, 6, 0] rfl)
                  · skip
                    refine lv_aload_n hx hb d_Mo_take_95 rfl (lv_at hl 0 rfl) ?_
                    refine va_get (D := D) (ci := 6) (v := .ref (ad 2)) (C := R_Mo) (T := T_Mo) (N := 11) hx hb hts u_Mo hown hK hP 0 rfl rfl 2 (by decide) (hts _ w_841) (fun _ h9 => h9) rfl d_Mo_take_96 ?_
                    refine lv_iload hx hb d_Mo_take_99 (lv_at hl 6 rfl) ?_
                    refine ln_zald hx hb hK hP 2 1 rfl rfl (by omega) (by decide) d_Mo_take_101 ?_
                    refine lv_if_eq (tgt := 110) hx hb d_Mo_take_102 (by decide) (fun c_9 => ?_) (fun c_9 => ?_)
                    · skip
                      refine lv_iload hx hb d_Mo_take_110 (lv_at hl 6 rfl) ?_
                      refine lv_istore (lv' := [(5, .int (nI b)), (0, .ref (ad 0)), (1, .int (nI f)), (2, .int (nI k)), (3, .int (nI (mt_b bl f k))), (4, .int (nI g)), (6, .int (nI b))]) hx hb d_Mo_take_112 hl (by decide) rfl (fun ls hl => ?_)
                      refine lv_iinc (v := nI (b - 1)) (lv' := [(6, .int (nI (b - 1))), (5, .int (nI b)), (0, .ref (ad 0)), (1, .int (nI f)), (2, .int (nI k)), (3, .int (nI (mt_b bl f k))), (4, .int (nI g))]) hx hb d_Mo_take_114 hl (k := 6) rfl (ln_dec (by omega)) (by decide) rfl (fun ls hl => ?_)
                      refine lv_goto (tgt := 83) hx hb d_Mo_take_117 (by decide) ?_
                      exact ih (b - 1) b (by omega) (by omega) (by omega) (by rw [h10]; obtain ⟨c, rfl⟩ : ∃ c, b = c + 1 := ⟨b - 1, by omega⟩; rw [mt2, Nat.add_sub_cancel]; rw [if_neg (by omega)]; first | (rw [if_pos (by assumption)]; done) | (rw [if_neg (by assumption)]; done)) _ _ hP hD hS ls (lv_sub hl [2, 3, 4, 5, 6, 1, 0] rfl)
                    · skip
                      refine lv_iload hx hb d_Mo_take_105 (lv_at hl 5 rfl) ?_
                      refine lv_goto (tgt := 112) hx hb d_Mo_take_107 (by decide) ?_
                      refine lv_istore (lv' := [(5, .int (nI x)), (0, .ref (ad 0)), (1, .int (nI f)), (2, .int (nI k)), (3, .int (nI (mt_b bl f k))), (4, .int (nI g)), (6, .int (nI b))]) hx hb d_Mo_take_112 hl (by decide) rfl (fun ls hl => ?_)
                      refine lv_iinc (v := nI (b - 1)) (lv' := [(6, .int (nI (b - 1))), (5, .int (nI x)), (0, .ref (ad 0)), (1, .int (nI f)), (2, .int (nI k)), (3, .int (nI (mt_b bl f k))), (4, .int (nI g))]) hx hb d_Mo_take_114 hl (k := 6) rfl (ln_dec (by omega)) (by decide) rfl (fun ls hl => ?_)
                      refine lv_goto (tgt := 83) hx hb d_Mo_take_117 (by decide) ?_
                      exact ih (b - 1) x (by omega) (by omega) (by omega) (by rw [h10]; obtain ⟨c, rfl⟩ : ∃ c, b = c + 1 := ⟨b - 1, by omega⟩; rw [mt2, Nat.add_sub_cancel]; rw [if_neg (by omega)]; first | (rw [if_pos (by assumption)]; done) | (rw [if_neg (by assumption)]; done)) _ _ hP hD hS ls (lv_sub hl [2, 3, 4, 5, 6, 1, 0] rfl)
            exact loop83 128 127 x (by omega) (by omega) (by omega) (by rw [h10, show b = 0 by omega]; rfl) _ _ hP hD hS ls (lv_sub hl [1, 2, 3, 4, 5, 6, 0] rfl)
          · skip
            refine lv_aload_n hx hb d_Mo_take_47 rfl (lv_at hl 0 rfl) ?_
            refine va_get (D := D) (ci := 6) (v := .ref (ad 2)) (C := R_Mo) (T := T_Mo) (N := 11) hx hb hts u_Mo hown hK hP 0 rfl rfl 2 (by decide) (hts _ w_841) (fun _ h9 => h9) rfl d_Mo_take_48 ?_
            refine lv_iload hx hb d_Mo_take_51 (lv_at hl 6 rfl) ?_
            refine ln_zald hx hb hK hP 2 1 rfl rfl (by omega) (by decide) d_Mo_take_53 ?_
            refine lv_if_ne (tgt := 64) hx hb d_Mo_take_54 (by decide) (fun c_10 => ?_) (fun c_10 => ?_)
            · skip
              refine lv_iload hx hb d_Mo_take_64 (lv_at hl 5 rfl) ?_
              refine lv_goto (tgt := 71) hx hb d_Mo_take_66 (by decide) ?_
              refine lv_istore (lv' := [(5, .int (nI x)), (0, .ref (ad 0)), (1, .int (nI f)), (2, .int (nI k)), (3, .int (nI (mt_b bl f k))), (4, .int (nI g)), (6, .int (nI b))]) hx hb d_Mo_take_71 hl (by decide) rfl (fun ls hl => ?_)
              refine lv_iinc (v := nI (b - 1)) (lv' := [(6, .int (nI (b - 1))), (5, .int (nI x)), (0, .ref (ad 0)), (1, .int (nI f)), (2, .int (nI k)), (3, .int (nI (mt_b bl f k))), (4, .int (nI g))]) hx hb d_Mo_take_73 hl (k := 6) rfl (ln_dec (by omega)) (by decide) rfl (fun ls hl => ?_)
              refine lv_goto (tgt := 42) hx hb d_Mo_take_76 (by decide) ?_
              exact ih (b - 1) x (by omega) (by omega) (by omega) (by rw [h10]; obtain ⟨c, rfl⟩ : ∃ c, b = c + 1 := ⟨b - 1, by omega⟩; rw [mt1, Nat.add_sub_cancel]; first | (rw [if_pos ⟨by assumption, by omega⟩]; done) | (rw [if_neg (fun q => absurd q.1 (by assumption))]; done) | (rw [if_neg (fun q => absurd q.2 (by omega))]; done)) _ _ hP hD hS ls (lv_sub hl [2, 3, 4, 5, 6, 1, 0] rfl)
            · skip
              refine lv_iload hx hb d_Mo_take_57 (lv_at hl 6 rfl) ?_
              refine lv_iload hx hb d_Mo_take_59 (lv_at hl 4 rfl) ?_
              refine ln_icmp_ge (tgt := 69) hx hb (by omega) (by omega) d_Mo_take_61 (by decide) (fun c_11 => ?_) (fun c_11 => ?_)
              · skip
                refine lv_iload hx hb d_Mo_take_69 (lv_at hl 6 rfl) ?_
                refine lv_istore (lv' := [(5, .int (nI b)), (0, .ref (ad 0)), (1, .int (nI f)), (2, .int (nI k)), (3, .int (nI (mt_b bl f k))), (4, .int (nI g)), (6, .int (nI b))]) hx hb d_Mo_take_71 hl (by decide) rfl (fun ls hl => ?_)
                refine lv_iinc (v := nI (b - 1)) (lv' := [(6, .int (nI (b - 1))), (5, .int (nI b)), (0, .ref (ad 0)), (1, .int (nI f)), (2, .int (nI k)), (3, .int (nI (mt_b bl f k))), (4, .int (nI g))]) hx hb d_Mo_take_73 hl (k := 6) rfl (ln_dec (by omega)) (by decide) rfl (fun ls hl => ?_)
                refine lv_goto (tgt := 42) hx hb d_Mo_take_76 (by decide) ?_
                exact ih (b - 1) b (by omega) (by omega) (by omega) (by rw [h10]; obtain ⟨c, rfl⟩ : ∃ c, b = c + 1 := ⟨b - 1, by omega⟩; rw [mt1, Nat.add_sub_cancel]; first | (rw [if_pos ⟨by assumption, by omega⟩]; done) | (rw [if_neg (fun q => absurd q.1 (by assumption))]; done) | (rw [if_neg (fun q => absurd q.2 (by omega))]; done)) _ _ hP hD hS ls (lv_sub hl [2, 3, 4, 5, 6, 1, 0] rfl)
              · skip
                refine lv_iload hx hb d_Mo_take_64 (lv_at hl 5 rfl) ?_
                refine lv_goto (tgt := 71) hx hb d_Mo_take_66 (by decide) ?_
                refine lv_istore (lv' := [(5, .int (nI x)), (0, .ref (ad 0)), (1, .int (nI f)), (2, .int (nI k)), (3, .int (nI (mt_b bl f k))), (4, .int (nI g)), (6, .int (nI b))]) hx hb d_Mo_take_71 hl (by decide) rfl (fun ls hl => ?_)
                refine lv_iinc (v := nI (b - 1)) (lv' := [(6, .int (nI (b - 1))), (5, .int (nI x)), (0, .ref (ad 0)), (1, .int (nI f)), (2, .int (nI k)), (3, .int (nI (mt_b bl f k))), (4, .int (nI g))]) hx hb d_Mo_take_73 hl (k := 6) rfl (ln_dec (by omega)) (by decide) rfl (fun ls hl => ?_)
                refine lv_goto (tgt := 42) hx hb d_Mo_take_76 (by decide) ?_
                exact ih (b - 1) x (by omega) (by omega) (by omega) (by rw [h10]; obtain ⟨c, rfl⟩ : ∃ c, b = c + 1 := ⟨b - 1, by omega⟩; rw [mt1, Nat.add_sub_cancel]; first | (rw [if_pos ⟨by assumption, by omega⟩]; done) | (rw [if_neg (fun q => absurd q.1 (by assumption))]; done) | (rw [if_neg (fun q => absurd q.2 (by omega))]; done)) _ _ hP hD hS ls (lv_sub hl [2, 3, 4, 5, 6, 1, 0] rfl)
      exact loop42 128 127 0 (by omega) (by omega) (by omega) rfl _ _ hP hD hS ls (lv_sub hl [4, 5, 6, 3, 2, 1, 0] rfl)
    · skip
      refine lv_iconst (v := nI 4) hx hb d_Mo_take_26 (by decide) ?_
      refine lv_goto (tgt := 33) hx hb d_Mo_take_27 (by decide) ?_
      refine W.eq (g2 := F0 m 33 ls [.int (nI (mt_g bl f k))]) (by unfold mt_g; first | (rw [if_pos (by omega)]; done) | (rw [if_neg (by omega)]; done)) ?_
      obtain ⟨g, hg⟩ : ∃ g : Nat, g = mt_g bl f k := ⟨_, rfl⟩
      have hg9 : g ≤ 128 := by rw [hg]; unfold mt_g; by_cases w : mt_b bl f k = 0; rw [if_pos w]; omega; rw [if_neg w]; omega
      refine W.eq (g2 := F0 m 33 ls [.int (nI g)]) (by rw [hg]) ?_
      refine lv_istore (lv' := [(4, .int (nI g)), (3, .int (nI (mt_b bl f k))), (0, .ref (ad 0)), (1, .int (nI f)), (2, .int (nI k))]) hx hb d_Mo_take_33 hl (by decide) rfl (fun ls hl => ?_)
      refine lv_iconst (v := nI 0) hx hb d_Mo_take_35 (by decide) ?_
      refine lv_istore (lv' := [(5, .int (nI 0)), (4, .int (nI g)), (3, .int (nI (mt_b bl f k))), (0, .ref (ad 0)), (1, .int (nI f)), (2, .int (nI k))]) hx hb d_Mo_take_36 hl (by decide) rfl (fun ls hl => ?_)
      refine lv_bipush (v := nI 127) hx hb d_Mo_take_38 (by decide) ?_
      refine lv_istore (lv' := [(6, .int (nI 127)), (5, .int (nI 0)), (4, .int (nI g)), (3, .int (nI (mt_b bl f k))), (0, .ref (ad 0)), (1, .int (nI f)), (2, .int (nI k))]) hx hb d_Mo_take_40 hl (by decide) rfl (fun ls hl => ?_)
      have loop42 : ∀ (n9 : Nat) (b : Nat) (x : Nat), b < n9 → b < 128 → x < 128 → mt1 tk g 127 0 = mt1 tk g b x → ∀ (H : Heap) (locs : List Loc), va_P D vwC (wsM ct ad cd dk tk kd lc sz bh wt bl tg fs) H → va_D A (wsM ct ad cd dk tk kd lc sz bh wt bl tg fs) → va_S A s.heap H locs → ∀ ls : Array Slot, lv_has ls 7 [(0, .ref (ad 0)), (1, .int (nI f)), (2, .int (nI k)), (3, .int (nI (mt_b bl f k))), (4, .int (nI g)), (5, .int (nI x)), (6, .int (nI b))] → W p l e (headSpec (Cond.code y_Mo_take c_Mo_take 7 none :: wA) (rmk 1 0 0)).room s m ([.ref (ad 0), .int (nI f), .int (nI k)] : List Value).toArray below meth c H locs 0 0 (MQ below (wQ none A D (wsM ct ad cd ((mtk (dk, tk, bl) f k).1) ((mtk (dk, tk, bl) f k).2.1) kd lc sz bh wt ((mtk (dk, tk, bl) f k).2.2) tg fs)) ([.ref (ad 0), .int (nI f), .int (nI k)] : List Value).toArray s 0 0 A) (F0 m 42 ls []) := by
        intro n9
        induction n9 with
        | zero => intro b x h8 h9 h11 h10 H locs hP hD hS ls hl; exact absurd h8 (by omega)
        | succ n9 ih =>
          intro b x h8 h9 h11 h10 H locs hP hD hS ls hl
          refine lv_iload hx hb d_Mo_take_42 (lv_at hl 6 rfl) ?_
          refine ln_if_le (tgt := 79) hx hb (by omega) d_Mo_take_44 (by decide) (fun c_12 => ?_) (fun c_12 => ?_)
          · skip
            refine lv_bipush (v := nI 127) hx hb d_Mo_take_79 (by decide) ?_
            refine lv_istore (lv' := [(6, .int (nI 127)), (0, .ref (ad 0)), (1, .int (nI f)), (2, .int (nI k)), (3, .int (nI (mt_b bl f k))), (4, .int (nI g)), (5, .int (nI x))]) hx hb d_Mo_take_81 hl (by decide) rfl (fun ls hl => ?_)
            have loop83 : ∀ (n9 : Nat) (b : Nat) (x : Nat), b < n9 → b < 128 → x < 128 → mt2 tk g 127 (mt1 tk g 127 0) = mt2 tk g b x → ∀ (H : Heap) (locs : List Loc), va_P D vwC (wsM ct ad cd dk tk kd lc sz bh wt bl tg fs) H → va_D A (wsM ct ad cd dk tk kd lc sz bh wt bl tg fs) → va_S A s.heap H locs → ∀ ls : Array Slot, lv_has ls 7 [(0, .ref (ad 0)), (1, .int (nI f)), (2, .int (nI k)), (3, .int (nI (mt_b bl f k))), (4, .int (nI g)), (5, .int (nI x)), (6, .int (nI b))] → W p l e (headSpec (Cond.code y_Mo_take c_Mo_take 7 none :: wA) (rmk 1 0 0)).room s m ([.ref (ad 0), .int (nI f), .int (nI k)] : List Value).toArray below meth c H locs 0 0 (MQ below (wQ none A D (wsM ct ad cd ((mtk (dk, tk, bl) f k).1) ((mtk (dk, tk, bl) f k).2.1) kd lc sz bh wt ((mtk (dk, tk, bl) f k).2.2) tg fs)) ([.ref (ad 0), .int (nI f), .int (nI k)] : List Value).toArray s 0 0 A) (F0 m 83 ls []) := by
              intro n9
              induction n9 with
              | zero => intro b x h8 h9 h11 h10 H locs hP hD hS ls hl; exact absurd h8 (by omega)
              | succ n9 ih =>
                intro b x h8 h9 h11 h10 H locs hP hD hS ls hl
                refine lv_iload hx hb d_Mo_take_83 (lv_at hl 6 rfl) ?_
                refine ln_if_le (tgt := 120) hx hb (by omega) d_Mo_take_85 (by decide) (fun c_13 => ?_) (fun c_13 => ?_)
                · skip
                  refine lv_aload_n hx hb d_Mo_take_120 rfl (lv_at hl 0 rfl) ?_
                  refine va_get (D := D) (ci := 6) (v := .ref (ad 2)) (C := R_Mo) (T := T_Mo) (N := 11) hx hb hts u_Mo hown hK hP 0 rfl rfl 2 (by decide) (hts _ w_841) (fun _ h9 => h9) rfl d_Mo_take_121 ?_
                  refine lv_iload hx hb d_Mo_take_124 (lv_at hl 5 rfl) ?_
                  refine lv_iconst (v := nI 1) hx hb d_Mo_take_126 (by decide) ?_
                  refine ln_zast hx hb hK hP hD hS 2 1 rfl rfl (by omega) (by decide) d_Mo_take_127 (fun H locs hP hD hS => ?_)
                  have hP : va_P D vwC (wsM ct ad cd dk (upd tk x (vp_nar .boolean (nI 1))) kd lc sz bh wt bl tg fs) H := hP
                  have hD : va_D A (wsM ct ad cd dk (upd tk x (vp_nar .boolean (nI 1))) kd lc sz bh wt bl tg fs) := hD
                  refine lv_aload_n hx hb d_Mo_take_128 rfl (lv_at hl 0 rfl) ?_
                  refine va_get (D := D) (ci := 6) (v := .ref (ad 8)) (C := R_Mo) (T := T_Mo) (N := 11) hx hb hts u_Mo hown hK hP 0 rfl rfl 8 (by decide) (hts _ w_847) (fun _ h9 => h9) rfl d_Mo_take_129 ?_
                  refine lv_bipush (v := nI 15) hx hb d_Mo_take_132 (by decide) ?_
                  refine lv_iload_n hx hb d_Mo_take_134 rfl (lv_at hl 1 rfl) ?_
                  refine ln_imul hx hb d_Mo_take_135 ?_
                  refine lv_iload_n hx hb d_Mo_take_136 rfl (lv_at hl 2 rfl) ?_
                  refine ln_iadd hx hb d_Mo_take_137 ?_
                  refine lv_iload hx hb d_Mo_take_138 (lv_at hl 5 rfl) ?_
                  refine ln_iast hx hb hK hP hD hS 8 2 rfl rfl (by omega) (by decide) d_Mo_take_140 (fun H locs hP8 hD8 hS => ?_)
                  rw [upd_nI] at hP8 hD8
                  have hP : va_P D vwC (wsM ct ad cd dk (upd tk x (vp_nar .boolean (nI 1))) kd lc sz bh wt (un bl ((15 * f) + k) x) tg fs) H := hP8
                  have hD : va_D A (wsM ct ad cd dk (upd tk x (vp_nar .boolean (nI 1))) kd lc sz bh wt (un bl ((15 * f) + k) x) tg fs) := hD8
                  have hbl : bOK (un bl ((15 * f) + k) x) := un_lt hbl (by omega)
                  refine lv_iconst (v := nI 0) hx hb d_Mo_take_141 (by decide) ?_
                  refine lv_istore (lv' := [(6, .int (nI 0)), (0, .ref (ad 0)), (1, .int (nI f)), (2, .int (nI k)), (3, .int (nI (mt_b bl f k))), (4, .int (nI g)), (5, .int (nI x))]) hx hb d_Mo_take_142 hl (by decide) rfl (fun ls hl => ?_)
                  have loop144 : ∀ (n9 : Nat) (i : Nat) (d : Nat → Int32), 1024 - i < n9 → i ≤ 1024 → mzd x 1024 0 dk = mzd x (1024 - i) i d → ∀ (H : Heap) (locs : List Loc), va_P D vwC (wsM ct ad cd d (upd tk x (vp_nar .boolean (nI 1))) kd lc sz bh wt (un bl ((15 * f) + k) x) tg fs) H → va_D A (wsM ct ad cd d (upd tk x (vp_nar .boolean (nI 1))) kd lc sz bh wt (un bl ((15 * f) + k) x) tg fs) → va_S A s.heap H locs → ∀ ls : Array Slot, lv_has ls 7 [(0, .ref (ad 0)), (1, .int (nI f)), (2, .int (nI k)), (3, .int (nI (mt_b bl f k))), (4, .int (nI g)), (5, .int (nI x)), (6, .int (nI i))] → W p l e (headSpec (Cond.code y_Mo_take c_Mo_take 7 none :: wA) (rmk 1 0 0)).room s m ([.ref (ad 0), .int (nI f), .int (nI k)] : List Value).toArray below meth c H locs 0 0 (MQ below (wQ none A D (wsM ct ad cd ((mtk (dk, tk, bl) f k).1) ((mtk (dk, tk, bl) f k).2.1) kd lc sz bh wt ((mtk (dk, tk, bl) f k).2.2) tg fs)) ([.ref (ad 0), .int (nI f), .int (nI k)] : List Value).toArray s 0 0 A) (F0 m 144 ls []) := by
                    intro n9
                    induction n9 with
                    | zero => intro i d h8 h9 h12 H locs hP hD hS ls hl; exact absurd h8 (by omega)
                    | succ n9 ih =>
                      intro i d h8 h9 h12 H locs hP hD hS ls hl
                      refine lv_iload hx hb d_Mo_take_144 (lv_at hl 6 rfl) ?_
                      refine lv_sipush (v := nI 1024) hx hb d_Mo_take_146 (by decide) ?_
                      refine ln_icmp_ge (tgt := 173) hx hb (by omega) (by omega) d_Mo_take_149 (by decide) (fun c_14 => ?_) (fun c_14 => ?_)
                      · skip
                        have e9 : wsM ct ad cd d (upd tk x (vp_nar .boolean (nI 1))) kd lc sz bh wt (un bl ((15 * f) + k) x) tg fs = wsM ct ad cd ((mtk (dk, tk, bl) f k).1) ((mtk (dk, tk, bl) f k).2.1) kd lc sz bh wt ((mtk (dk, tk, bl) f k).2.2) tg fs := (by have e7 : mtd tk bl f k = x := (by unfold mtd; rw [← hg]; first | (rw [h10, show b = 0 by omega]; rfl) | (rw [h10]; obtain ⟨c7, rfl⟩ : ∃ c7, b = c7 + 1 := ⟨b - 1, by omega⟩; rw [mt2, if_pos (by omega)])); unfold mtk; dsimp only; rw [e7, h12, show 1024 - i = 0 by omega]; rfl)
                        rw [e9] at hP hD
                        exact W.vret hx hb hr (fun t9 ht hW => ⟨rfl, by rw [ht]; exact hP, hD, hS.F ht⟩) hS.2.2 d_Mo_take_173
                      · skip
                        refine lv_aload_n hx hb d_Mo_take_152 rfl (lv_at hl 0 rfl) ?_
                        refine va_get (D := D) (ci := 6) (v := .ref (ad 1)) (C := R_Mo) (T := T_Mo) (N := 11) hx hb hts u_Mo hown hK hP 0 rfl rfl 1 (by decide) (hts _ w_840) (fun _ h9 => h9) rfl d_Mo_take_153 ?_
                        refine lv_sipush (v := nI 1024) hx hb d_Mo_take_156 (by decide) ?_
                        refine lv_iload hx hb d_Mo_take_159 (lv_at hl 5 rfl) ?_
                        refine ln_imul hx hb d_Mo_take_161 ?_
                        refine lv_iload hx hb d_Mo_take_162 (lv_at hl 6 rfl) ?_
                        refine ln_iadd hx hb d_Mo_take_164 ?_
                        refine lv_iconst (v := nI 0) hx hb d_Mo_take_165 (by decide) ?_
                        refine ln_bast hx hb hK hP hD hS 1 0 rfl rfl (by omega) (by decide) d_Mo_take_166 (fun H locs hP hD hS => ?_)
                        have hP : va_P D vwC (wsM ct ad cd (upd d ((1024 * x) + i) (vp_nar .byte (nI 0))) (upd tk x (vp_nar .boolean (nI 1))) kd lc sz bh wt (un bl ((15 * f) + k) x) tg fs) H := hP
                        have hD : va_D A (wsM ct ad cd (upd d ((1024 * x) + i) (vp_nar .byte (nI 0))) (upd tk x (vp_nar .boolean (nI 1))) kd lc sz bh wt (un bl ((15 * f) + k) x) tg fs) := hD
                        refine lv_iinc (v := nI (i + 1)) (lv' := [(6, .int (nI (i + 1))), (0, .ref (ad 0)), (1, .int (nI f)), (2, .int (nI k)), (3, .int (nI (mt_b bl f k))), (4, .int (nI g)), (5, .int (nI x))]) hx hb d_Mo_take_167 hl (k := 6) rfl (ln_inc (by decide)) (by decide) rfl (fun ls hl => ?_)
                        refine lv_goto (tgt := 144) hx hb d_Mo_take_170 (by decide) ?_
                        exact ih (i + 1) (upd d ((1024 * x) + i) (vp_nar .byte (nI 0))) (by omega) (by omega) (by rw [h12, show 1024 - i = 1024 - (i + 1) + 1 by omega, mzd]) _ _ hP hD hS ls (lv_sub hl [1, 2, 3, 4, 5, 6, 0] rfl)
                  exact loop144 1025 0 dk (by omega) (by omega) rfl _ _ hP hD hS ls (lv_sub hl [1, 2, 3, 4, 5, 6, 0] rfl)
                · skip
                  refine lv_iload hx hb d_Mo_take_88 (lv_at hl 5 rfl) ?_
                  refine lv_iload hx hb d_Mo_take_90 (lv_at hl 4 rfl) ?_
                  refine ln_icmp_ge (tgt := 120) hx hb (by omega) (by omega) d_Mo_take_92 (by decide) (fun c_15 => ?_) (fun c_15 => ?_)
                  · skip
                    refine lv_aload_n hx hb d_Mo_take_120 rfl (lv_at hl 0 rfl) ?_
                    refine va_get (D := D) (ci := 6) (v := .ref (ad 2)) (C := R_Mo) (T := T_Mo) (N := 11) hx hb hts u_Mo hown hK hP 0 rfl rfl 2 (by decide) (hts _ w_841) (fun _ h9 => h9) rfl d_Mo_take_121 ?_
                    refine lv_iload hx hb d_Mo_take_124 (lv_at hl 5 rfl) ?_
                    refine lv_iconst (v := nI 1) hx hb d_Mo_take_126 (by decide) ?_
                    refine ln_zast hx hb hK hP hD hS 2 1 rfl rfl (by omega) (by decide) d_Mo_take_127 (fun H locs hP hD hS => ?_)
                    have hP : va_P D vwC (wsM ct ad cd dk (upd tk x (vp_nar .boolean (nI 1))) kd lc sz bh wt bl tg fs) H := hP
                    have hD : va_D A (wsM ct ad cd dk (upd tk x (vp_nar .boolean (nI 1))) kd lc sz bh wt bl tg fs) := hD
                    refine lv_aload_n hx hb d_Mo_take_128 rfl (lv_at hl 0 rfl) ?_
                    refine va_get (D := D) (ci := 6) (v := .ref (ad 8)) (C := R_Mo) (T := T_Mo) (N := 11) hx hb hts u_Mo hown hK hP 0 rfl rfl 8 (by decide) (hts _ w_847) (fun _ h9 => h9) rfl d_Mo_take_129 ?_
                    refine lv_bipush (v := nI 15) hx hb d_Mo_take_132 (by decide) ?_
                    refine lv_iload_n hx hb d_Mo_take_134 rfl (lv_at hl 1 rfl) ?_
                    refine ln_imul hx hb d_Mo_take_135 ?_
                    refine lv_iload_n hx hb d_Mo_take_136 rfl (lv_at hl 2 rfl) ?_
                    refine ln_iadd hx hb d_Mo_take_137 ?_
                    refine lv_iload hx hb d_Mo_take_138 (lv_at hl 5 rfl) ?_
                    refine ln_iast hx hb hK hP hD hS 8 2 rfl rfl (by omega) (by decide) d_Mo_take_140 (fun H locs hP8 hD8 hS => ?_)
                    rw [upd_nI] at hP8 hD8
                    have hP : va_P D vwC (wsM ct ad cd dk (upd tk x (vp_nar .boolean (nI 1))) kd lc sz bh wt (un bl ((15 * f) + k) x) tg fs) H := hP8
                    have hD : va_D A (wsM ct ad cd dk (upd tk x (vp_nar .boolean (nI 1))) kd lc sz bh wt (un bl ((15 * f) + k) x) tg fs) := hD8
                    have hbl : bOK (un bl ((15 * f) + k) x) := un_lt hbl (by omega)
                    refine lv_iconst (v := nI 0) hx hb d_Mo_take_141 (by decide) ?_
                    refine lv_istore (lv' := [(6, .int (nI 0)), (0, .ref (ad 0)), (1, .int (nI f)), (2, .int (nI k)), (3, .int (nI (mt_b bl f k))), (4, .int (nI g)), (5, .int (nI x))]) hx hb d_Mo_take_142 hl (by decide) rfl (fun ls hl => ?_)
                    have loop144 : ∀ (n9 : Nat) (i : Nat) (d : Nat → Int32), 1024 - i < n9 → i ≤ 1024 → mzd x 1024 0 dk = mzd x (1024 - i) i d → ∀ (H : Heap) (locs : List Loc), va_P D vwC (wsM ct ad cd d (upd tk x (vp_nar .boolean (nI 1))) kd lc sz bh wt (un bl ((15 * f) + k) x) tg fs) H → va_D A (wsM ct ad cd d (upd tk x (vp_nar .boolean (nI 1))) kd lc sz bh wt (un bl ((15 * f) + k) x) tg fs) → va_S A s.heap H locs → ∀ ls : Array Slot, lv_has ls 7 [(0, .ref (ad 0)), (1, .int (nI f)), (2, .int (nI k)), (3, .int (nI (mt_b bl f k))), (4, .int (nI g)), (5, .int (nI x)), (6, .int (nI i))] → W p l e (headSpec (Cond.code y_Mo_take c_Mo_take 7 none :: wA) (rmk 1 0 0)).room s m ([.ref (ad 0), .int (nI f), .int (nI k)] : List Value).toArray below meth c H locs 0 0 (MQ below (wQ none A D (wsM ct ad cd ((mtk (dk, tk, bl) f k).1) ((mtk (dk, tk, bl) f k).2.1) kd lc sz bh wt ((mtk (dk, tk, bl) f k).2.2) tg fs)) ([.ref (ad 0), .int (nI f), .int (nI k)] : List Value).toArray s 0 0 A) (F0 m 144 ls []) := by
                      intro n9
                      induction n9 with
                      | zero => intro i d h8 h9 h12 H locs hP hD hS ls hl; exact absurd h8 (by omega)
                      | succ n9 ih =>
                        intro i d h8 h9 h12 H locs hP hD hS ls hl
                        refine lv_iload hx hb d_Mo_take_144 (lv_at hl 6 rfl) ?_
                        refine lv_sipush (v := nI 1024) hx hb d_Mo_take_146 (by decide) ?_
                        refine ln_icmp_ge (tgt := 173) hx hb (by omega) (by omega) d_Mo_take_149 (by decide) (fun c_16 => ?_) (fun c_16 => ?_)
                        · skip
                          have e9 : wsM ct ad cd d (upd tk x (vp_nar .boolean (nI 1))) kd lc sz bh wt (un bl ((15 * f) + k) x) tg fs = wsM ct ad cd ((mtk (dk, tk, bl) f k).1) ((mtk (dk, tk, bl) f k).2.1) kd lc sz bh wt ((mtk (dk, tk, bl) f k).2.2) tg fs := (by have e7 : mtd tk bl f k = x := (by unfold mtd; rw [← hg]; first | (rw [h10, show b = 0 by omega]; rfl) | (rw [h10]; obtain ⟨c7, rfl⟩ : ∃ c7, b = c7 + 1 := ⟨b - 1, by omega⟩; rw [mt2, if_pos (by omega)])); unfold mtk; dsimp only; rw [e7, h12, show 1024 - i = 0 by omega]; rfl)
                          rw [e9] at hP hD
                          exact W.vret hx hb hr (fun t9 ht hW => ⟨rfl, by rw [ht]; exact hP, hD, hS.F ht⟩) hS.2.2 d_Mo_take_173
                        · skip
                          refine lv_aload_n hx hb d_Mo_take_152 rfl (lv_at hl 0 rfl) ?_
                          refine va_get (D := D) (ci := 6) (v := .ref (ad 1)) (C := R_Mo) (T := T_Mo) (N := 11) hx hb hts u_Mo hown hK hP 0 rfl rfl 1 (by decide) (hts _ w_840) (fun _ h9 => h9) rfl d_Mo_take_153 ?_
                          refine lv_sipush (v := nI 1024) hx hb d_Mo_take_156 (by decide) ?_
                          refine lv_iload hx hb d_Mo_take_159 (lv_at hl 5 rfl) ?_
                          refine ln_imul hx hb d_Mo_take_161 ?_
                          refine lv_iload hx hb d_Mo_take_162 (lv_at hl 6 rfl) ?_
                          refine ln_iadd hx hb d_Mo_take_164 ?_
                          refine lv_iconst (v := nI 0) hx hb d_Mo_take_165 (by decide) ?_
                          refine ln_bast hx hb hK hP hD hS 1 0 rfl rfl (by omega) (by decide) d_Mo_take_166 (fun H locs hP hD hS => ?_)
                          have hP : va_P D vwC (wsM ct ad cd (upd d ((1024 * x) + i) (vp_nar .byte (nI 0))) (upd tk x (vp_nar .boolean (nI 1))) kd lc sz bh wt (un bl ((15 * f) + k) x) tg fs) H := hP
                          have hD : va_D A (wsM ct ad cd (upd d ((1024 * x) + i) (vp_nar .byte (nI 0))) (upd tk x (vp_nar .boolean (nI 1))) kd lc sz bh wt (un bl ((15 * f) + k) x) tg fs) := hD
                          refine lv_iinc (v := nI (i + 1)) (lv' := [(6, .int (nI (i + 1))), (0, .ref (ad 0)), (1, .int (nI f)), (2, .int (nI k)), (3, .int (nI (mt_b bl f k))), (4, .int (nI g)), (5, .int (nI x))]) hx hb d_Mo_take_167 hl (k := 6) rfl (ln_inc (by decide)) (by decide) rfl (fun ls hl => ?_)
                          refine lv_goto (tgt := 144) hx hb d_Mo_take_170 (by decide) ?_
                          exact ih (i + 1) (upd d ((1024 * x) + i) (vp_nar .byte (nI 0))) (by omega) (by omega) (by rw [h12, show 1024 - i = 1024 - (i + 1) + 1 by omega, mzd]) _ _ hP hD hS ls (lv_sub hl [1, 2, 3, 4, 5, 6, 0] rfl)
                    exact loop144 1025 0 dk (by omega) (by omega) rfl _ _ hP hD hS ls (lv_sub hl [1, 2, 3, 4, 5, 6, 0] rfl)
                  · skip
                    refine lv_aload_n hx hb d_Mo_take_95 rfl (lv_at hl 0 rfl) ?_
                    refine va_get (D := D) (ci := 6) (v := .ref (ad 2)) (C := R_Mo) (T := T_Mo) (N := 11) hx hb hts u_Mo hown hK hP 0 rfl rfl 2 (by decide) (hts _ w_841) (fun _ h9 => h9) rfl d_Mo_take_96 ?_
                    refine lv_iload hx hb d_Mo_take_99 (lv_at hl 6 rfl) ?_
                    refine ln_zald hx hb hK hP 2 1 rfl rfl (by omega) (by decide) d_Mo_take_101 ?_
                    refine lv_if_eq (tgt := 110) hx hb d_Mo_take_102 (by decide) (fun c_17 => ?_) (fun c_17 => ?_)
                    · skip
                      refine lv_iload hx hb d_Mo_take_110 (lv_at hl 6 rfl) ?_
                      refine lv_istore (lv' := [(5, .int (nI b)), (0, .ref (ad 0)), (1, .int (nI f)), (2, .int (nI k)), (3, .int (nI (mt_b bl f k))), (4, .int (nI g)), (6, .int (nI b))]) hx hb d_Mo_take_112 hl (by decide) rfl (fun ls hl => ?_)
                      refine lv_iinc (v := nI (b - 1)) (lv' := [(6, .int (nI (b - 1))), (5, .int (nI b)), (0, .ref (ad 0)), (1, .int (nI f)), (2, .int (nI k)), (3, .int (nI (mt_b bl f k))), (4, .int (nI g))]) hx hb d_Mo_take_114 hl (k := 6) rfl (ln_dec (by omega)) (by decide) rfl (fun ls hl => ?_)
                      refine lv_goto (tgt := 83) hx hb d_Mo_take_117 (by decide) ?_
                      exact ih (b - 1) b (by omega) (by omega) (by omega) (by rw [h10]; obtain ⟨c, rfl⟩ : ∃ c, b = c + 1 := ⟨b - 1, by omega⟩; rw [mt2, Nat.add_sub_cancel]; rw [if_neg (by omega)]; first | (rw [if_pos (by assumption)]; done) | (rw [if_neg (by assumption)]; done)) _ _ hP hD hS ls (lv_sub hl [2, 3, 4, 5, 6, 1, 0] rfl)
                    · skip
                      refine lv_iload hx hb d_Mo_take_105 (lv_at hl 5 rfl) ?_
                      refine lv_goto (tgt := 112) hx hb d_Mo_take_107 (by decide) ?_
                      refine lv_istore (lv' := [(5, .int (nI x)), (0, .ref (ad 0)), (1, .int (nI f)), (2, .int (nI k)), (3, .int (nI (mt_b bl f k))), (4, .int (nI g)), (6, .int (nI b))]) hx hb d_Mo_take_112 hl (by decide) rfl (fun ls hl => ?_)
                      refine lv_iinc (v := nI (b - 1)) (lv' := [(6, .int (nI (b - 1))), (5, .int (nI x)), (0, .ref (ad 0)), (1, .int (nI f)), (2, .int (nI k)), (3, .int (nI (mt_b bl f k))), (4, .int (nI g))]) hx hb d_Mo_take_114 hl (k := 6) rfl (ln_dec (by omega)) (by decide) rfl (fun ls hl => ?_)
                      refine lv_goto (tgt := 83) hx hb d_Mo_take_117 (by decide) ?_
                      exact ih (b - 1) x (by omega) (by omega) (by omega) (by rw [h10]; obtain ⟨c, rfl⟩ : ∃ c, b = c + 1 := ⟨b - 1, by omega⟩; rw [mt2, Nat.add_sub_cancel]; rw [if_neg (by omega)]; first | (rw [if_pos (by assumption)]; done) | (rw [if_neg (by assumption)]; done)) _ _ hP hD hS ls (lv_sub hl [2, 3, 4, 5, 6, 1, 0] rfl)
            exact loop83 128 127 x (by omega) (by omega) (by omega) (by rw [h10, show b = 0 by omega]; rfl) _ _ hP hD hS ls (lv_sub hl [1, 2, 3, 4, 5, 6, 0] rfl)
          · skip
            refine lv_aload_n hx hb d_Mo_take_47 rfl (lv_at hl 0 rfl) ?_
            refine va_get (D := D) (ci := 6) (v := .ref (ad 2)) (C := R_Mo) (T := T_Mo) (N := 11) hx hb hts u_Mo hown hK hP 0 rfl rfl 2 (by decide) (hts _ w_841) (fun _ h9 => h9) rfl d_Mo_take_48 ?_
            refine lv_iload hx hb d_Mo_take_51 (lv_at hl 6 rfl) ?_
            refine ln_zald hx hb hK hP 2 1 rfl rfl (by omega) (by decide) d_Mo_take_53 ?_
            refine lv_if_ne (tgt := 64) hx hb d_Mo_take_54 (by decide) (fun c_18 => ?_) (fun c_18 => ?_)
            · skip
              refine lv_iload hx hb d_Mo_take_64 (lv_at hl 5 rfl) ?_
              refine lv_goto (tgt := 71) hx hb d_Mo_take_66 (by decide) ?_
              refine lv_istore (lv' := [(5, .int (nI x)), (0, .ref (ad 0)), (1, .int (nI f)), (2, .int (nI k)), (3, .int (nI (mt_b bl f k))), (4, .int (nI g)), (6, .int (nI b))]) hx hb d_Mo_take_71 hl (by decide) rfl (fun ls hl => ?_)
              refine lv_iinc (v := nI (b - 1)) (lv' := [(6, .int (nI (b - 1))), (5, .int (nI x)), (0, .ref (ad 0)), (1, .int (nI f)), (2, .int (nI k)), (3, .int (nI (mt_b bl f k))), (4, .int (nI g))]) hx hb d_Mo_take_73 hl (k := 6) rfl (ln_dec (by omega)) (by decide) rfl (fun ls hl => ?_)
              refine lv_goto (tgt := 42) hx hb d_Mo_take_76 (by decide) ?_
              exact ih (b - 1) x (by omega) (by omega) (by omega) (by rw [h10]; obtain ⟨c, rfl⟩ : ∃ c, b = c + 1 := ⟨b - 1, by omega⟩; rw [mt1, Nat.add_sub_cancel]; first | (rw [if_pos ⟨by assumption, by omega⟩]; done) | (rw [if_neg (fun q => absurd q.1 (by assumption))]; done) | (rw [if_neg (fun q => absurd q.2 (by omega))]; done)) _ _ hP hD hS ls (lv_sub hl [2, 3, 4, 5, 6, 1, 0] rfl)
            · skip
              refine lv_iload hx hb d_Mo_take_57 (lv_at hl 6 rfl) ?_
              refine lv_iload hx hb d_Mo_take_59 (lv_at hl 4 rfl) ?_
              refine ln_icmp_ge (tgt := 69) hx hb (by omega) (by omega) d_Mo_take_61 (by decide) (fun c_19 => ?_) (fun c_19 => ?_)
              · skip
                refine lv_iload hx hb d_Mo_take_69 (lv_at hl 6 rfl) ?_
                refine lv_istore (lv' := [(5, .int (nI b)), (0, .ref (ad 0)), (1, .int (nI f)), (2, .int (nI k)), (3, .int (nI (mt_b bl f k))), (4, .int (nI g)), (6, .int (nI b))]) hx hb d_Mo_take_71 hl (by decide) rfl (fun ls hl => ?_)
                refine lv_iinc (v := nI (b - 1)) (lv' := [(6, .int (nI (b - 1))), (5, .int (nI b)), (0, .ref (ad 0)), (1, .int (nI f)), (2, .int (nI k)), (3, .int (nI (mt_b bl f k))), (4, .int (nI g))]) hx hb d_Mo_take_73 hl (k := 6) rfl (ln_dec (by omega)) (by decide) rfl (fun ls hl => ?_)
                refine lv_goto (tgt := 42) hx hb d_Mo_take_76 (by decide) ?_
                exact ih (b - 1) b (by omega) (by omega) (by omega) (by rw [h10]; obtain ⟨c, rfl⟩ : ∃ c, b = c + 1 := ⟨b - 1, by omega⟩; rw [mt1, Nat.add_sub_cancel]; first | (rw [if_pos ⟨by assumption, by omega⟩]; done) | (rw [if_neg (fun q => absurd q.1 (by assumption))]; done) | (rw [if_neg (fun q => absurd q.2 (by omega))]; done)) _ _ hP hD hS ls (lv_sub hl [2, 3, 4, 5, 6, 1, 0] rfl)
              · skip
                refine lv_iload hx hb d_Mo_take_64 (lv_at hl 5 rfl) ?_
                refine lv_goto (tgt := 71) hx hb d_Mo_take_66 (by decide) ?_
                refine lv_istore (lv' := [(5, .int (nI x)), (0, .ref (ad 0)), (1, .int (nI f)), (2, .int (nI k)), (3, .int (nI (mt_b bl f k))), (4, .int (nI g)), (6, .int (nI b))]) hx hb d_Mo_take_71 hl (by decide) rfl (fun ls hl => ?_)
                refine lv_iinc (v := nI (b - 1)) (lv' := [(6, .int (nI (b - 1))), (5, .int (nI x)), (0, .ref (ad 0)), (1, .int (nI f)), (2, .int (nI k)), (3, .int (nI (mt_b bl f k))), (4, .int (nI g))]) hx hb d_Mo_take_73 hl (k := 6) rfl (ln_dec (by omega)) (by decide) rfl (fun ls hl => ?_)
                refine lv_goto (tgt := 42) hx hb d_Mo_take_76 (by decide) ?_
                exact ih (b - 1) x (by omega) (by omega) (by omega) (by rw [h10]; obtain ⟨c, rfl⟩ : ∃ c, b = c + 1 := ⟨b - 1, by omega⟩; rw [mt1, Nat.add_sub_cancel]; first | (rw [if_pos ⟨by assumption, by omega⟩]; done) | (rw [if_neg (fun q => absurd q.1 (by assumption))]; done) | (rw [if_neg (fun q => absurd q.2 (by omega))]; done)) _ _ hP hD hS ls (lv_sub hl [2, 3, 4, 5, 6, 1, 0] rfl)
      exact loop42 128 127 0 (by omega) (by omega) (by omega) rfl _ _ hP hD hS ls (lv_sub hl [4, 5, 6, 3, 2, 1, 0] rfl)
  · skip
    refine lv_iconst (v := nI 0) hx hb d_Mo_take_4 (by decide) ?_
    refine lv_goto (tgt := 21) hx hb d_Mo_take_5 (by decide) ?_
    refine W.eq (g2 := F0 m 21 ls [.int (nI (mt_b bl f k))]) (by unfold mt_b; first | (rw [if_pos (by omega)]; done) | (rw [if_neg (by omega)]; done)) ?_
    have hb9 : mt_b bl f k < 128 := by unfold mt_b; by_cases w : k = 0; rw [if_pos w]; omega; rw [if_neg w]; exact hbl _
    refine lv_istore_n (lv' := [(3, .int (nI (mt_b bl f k))), (0, .ref (ad 0)), (1, .int (nI f)), (2, .int (nI k))]) hx hb d_Mo_take_21 rfl hl (by decide) rfl (fun ls hl => ?_)
    refine lv_iload_n hx hb d_Mo_take_22 rfl (lv_at hl 0 rfl) ?_
    refine ln_if_ne (tgt := 30) hx hb (by omega) d_Mo_take_23 (by decide) (fun c_20 => ?_) (fun c_20 => ?_)
    · skip
      refine lv_iload_n hx hb d_Mo_take_30 rfl (lv_at hl 0 rfl) ?_
      refine lv_iconst (v := nI 1) hx hb d_Mo_take_31 (by decide) ?_
      refine ln_iadd hx hb d_Mo_take_32 ?_
      refine W.eq (g2 := F0 m 33 ls [.int (nI (mt_g bl f k))]) (by unfold mt_g; first | (rw [if_pos (by omega)]; done) | (rw [if_neg (by omega)]; done)) ?_
      obtain ⟨g, hg⟩ : ∃ g : Nat, g = mt_g bl f k := ⟨_, rfl⟩
      have hg9 : g ≤ 128 := by rw [hg]; unfold mt_g; by_cases w : mt_b bl f k = 0; rw [if_pos w]; omega; rw [if_neg w]; omega
      refine W.eq (g2 := F0 m 33 ls [.int (nI g)]) (by rw [hg]) ?_
      refine lv_istore (lv' := [(4, .int (nI g)), (3, .int (nI (mt_b bl f k))), (0, .ref (ad 0)), (1, .int (nI f)), (2, .int (nI k))]) hx hb d_Mo_take_33 hl (by decide) rfl (fun ls hl => ?_)
      refine lv_iconst (v := nI 0) hx hb d_Mo_take_35 (by decide) ?_
      refine lv_istore (lv' := [(5, .int (nI 0)), (4, .int (nI g)), (3, .int (nI (mt_b bl f k))), (0, .ref (ad 0)), (1, .int (nI f)), (2, .int (nI k))]) hx hb d_Mo_take_36 hl (by decide) rfl (fun ls hl => ?_)
      refine lv_bipush (v := nI 127) hx hb d_Mo_take_38 (by decide) ?_
      refine lv_istore (lv' := [(6, .int (nI 127)), (5, .int (nI 0)), (4, .int (nI g)), (3, .int (nI (mt_b bl f k))), (0, .ref (ad 0)), (1, .int (nI f)), (2, .int (nI k))]) hx hb d_Mo_take_40 hl (by decide) rfl (fun ls hl => ?_)
      have loop42 : ∀ (n9 : Nat) (b : Nat) (x : Nat), b < n9 → b < 128 → x < 128 → mt1 tk g 127 0 = mt1 tk g b x → ∀ (H : Heap) (locs : List Loc), va_P D vwC (wsM ct ad cd dk tk kd lc sz bh wt bl tg fs) H → va_D A (wsM ct ad cd dk tk kd lc sz bh wt bl tg fs) → va_S A s.heap H locs → ∀ ls : Array Slot, lv_has ls 7 [(0, .ref (ad 0)), (1, .int (nI f)), (2, .int (nI k)), (3, .int (nI (mt_b bl f k))), (4, .int (nI g)), (5, .int (nI x)), (6, .int (nI b))] → W p l e (headSpec (Cond.code y_Mo_take c_Mo_take 7 none :: wA) (rmk 1 0 0)).room s m ([.ref (ad 0), .int (nI f), .int (nI k)] : List Value).toArray below meth c H locs 0 0 (MQ below (wQ none A D (wsM ct ad cd ((mtk (dk, tk, bl) f k).1) ((mtk (dk, tk, bl) f k).2.1) kd lc sz bh wt ((mtk (dk, tk, bl) f k).2.2) tg fs)) ([.ref (ad 0), .int (nI f), .int (nI k)] : List Value).toArray s 0 0 A) (F0 m 42 ls []) := by
        intro n9
        induction n9 with
        | zero => intro b x h8 h9 h11 h10 H locs hP hD hS ls hl; exact absurd h8 (by omega)
        | succ n9 ih =>
          intro b x h8 h9 h11 h10 H locs hP hD hS ls hl
          refine lv_iload hx hb d_Mo_take_42 (lv_at hl 6 rfl) ?_
          refine ln_if_le (tgt := 79) hx hb (by omega) d_Mo_take_44 (by decide) (fun c_21 => ?_) (fun c_21 => ?_)
          · skip
            refine lv_bipush (v := nI 127) hx hb d_Mo_take_79 (by decide) ?_
            refine lv_istore (lv' := [(6, .int (nI 127)), (0, .ref (ad 0)), (1, .int (nI f)), (2, .int (nI k)), (3, .int (nI (mt_b bl f k))), (4, .int (nI g)), (5, .int (nI x))]) hx hb d_Mo_take_81 hl (by decide) rfl (fun ls hl => ?_)
            have loop83 : ∀ (n9 : Nat) (b : Nat) (x : Nat), b < n9 → b < 128 → x < 128 → mt2 tk g 127 (mt1 tk g 127 0) = mt2 tk g b x → ∀ (H : Heap) (locs : List Loc), va_P D vwC (wsM ct ad cd dk tk kd lc sz bh wt bl tg fs) H → va_D A (wsM ct ad cd dk tk kd lc sz bh wt bl tg fs) → va_S A s.heap H locs → ∀ ls : Array Slot, lv_has ls 7 [(0, .ref (ad 0)), (1, .int (nI f)), (2, .int (nI k)), (3, .int (nI (mt_b bl f k))), (4, .int (nI g)), (5, .int (nI x)), (6, .int (nI b))] → W p l e (headSpec (Cond.code y_Mo_take c_Mo_take 7 none :: wA) (rmk 1 0 0)).room s m ([.ref (ad 0), .int (nI f), .int (nI k)] : List Value).toArray below meth c H locs 0 0 (MQ below (wQ none A D (wsM ct ad cd ((mtk (dk, tk, bl) f k).1) ((mtk (dk, tk, bl) f k).2.1) kd lc sz bh wt ((mtk (dk, tk, bl) f k).2.2) tg fs)) ([.ref (ad 0), .int (nI f), .int (nI k)] : List Value).toArray s 0 0 A) (F0 m 83 ls []) := by
              intro n9
              induction n9 with
              | zero => intro b x h8 h9 h11 h10 H locs hP hD hS ls hl; exact absurd h8 (by omega)
              | succ n9 ih =>
                intro b x h8 h9 h11 h10 H locs hP hD hS ls hl
                refine lv_iload hx hb d_Mo_take_83 (lv_at hl 6 rfl) ?_
                refine ln_if_le (tgt := 120) hx hb (by omega) d_Mo_take_85 (by decide) (fun c_22 => ?_) (fun c_22 => ?_)
                · skip
                  refine lv_aload_n hx hb d_Mo_take_120 rfl (lv_at hl 0 rfl) ?_
                  refine va_get (D := D) (ci := 6) (v := .ref (ad 2)) (C := R_Mo) (T := T_Mo) (N := 11) hx hb hts u_Mo hown hK hP 0 rfl rfl 2 (by decide) (hts _ w_841) (fun _ h9 => h9) rfl d_Mo_take_121 ?_
                  refine lv_iload hx hb d_Mo_take_124 (lv_at hl 5 rfl) ?_
                  refine lv_iconst (v := nI 1) hx hb d_Mo_take_126 (by decide) ?_
                  refine ln_zast hx hb hK hP hD hS 2 1 rfl rfl (by omega) (by decide) d_Mo_take_127 (fun H locs hP hD hS => ?_)
                  have hP : va_P D vwC (wsM ct ad cd dk (upd tk x (vp_nar .boolean (nI 1))) kd lc sz bh wt bl tg fs) H := hP
                  have hD : va_D A (wsM ct ad cd dk (upd tk x (vp_nar .boolean (nI 1))) kd lc sz bh wt bl tg fs) := hD
                  refine lv_aload_n hx hb d_Mo_take_128 rfl (lv_at hl 0 rfl) ?_
                  refine va_get (D := D) (ci := 6) (v := .ref (ad 8)) (C := R_Mo) (T := T_Mo) (N := 11) hx hb hts u_Mo hown hK hP 0 rfl rfl 8 (by decide) (hts _ w_847) (fun _ h9 => h9) rfl d_Mo_take_129 ?_
                  refine lv_bipush (v := nI 15) hx hb d_Mo_take_132 (by decide) ?_
                  refine lv_iload_n hx hb d_Mo_take_134 rfl (lv_at hl 1 rfl) ?_
                  refine ln_imul hx hb d_Mo_take_135 ?_
                  refine lv_iload_n hx hb d_Mo_take_136 rfl (lv_at hl 2 rfl) ?_
                  refine ln_iadd hx hb d_Mo_take_137 ?_
                  refine lv_iload hx hb d_Mo_take_138 (lv_at hl 5 rfl) ?_
                  refine ln_iast hx hb hK hP hD hS 8 2 rfl rfl (by omega) (by decide) d_Mo_take_140 (fun H locs hP8 hD8 hS => ?_)
                  rw [upd_nI] at hP8 hD8
                  have hP : va_P D vwC (wsM ct ad cd dk (upd tk x (vp_nar .boolean (nI 1))) kd lc sz bh wt (un bl ((15 * f) + k) x) tg fs) H := hP8
                  have hD : va_D A (wsM ct ad cd dk (upd tk x (vp_nar .boolean (nI 1))) kd lc sz bh wt (un bl ((15 * f) + k) x) tg fs) := hD8
                  have hbl : bOK (un bl ((15 * f) + k) x) := un_lt hbl (by omega)
                  refine lv_iconst (v := nI 0) hx hb d_Mo_take_141 (by decide) ?_
                  refine lv_istore (lv' := [(6, .int (nI 0)), (0, .ref (ad 0)), (1, .int (nI f)), (2, .int (nI k)), (3, .int (nI (mt_b bl f k))), (4, .int (nI g)), (5, .int (nI x))]) hx hb d_Mo_take_142 hl (by decide) rfl (fun ls hl => ?_)
                  have loop144 : ∀ (n9 : Nat) (i : Nat) (d : Nat → Int32), 1024 - i < n9 → i ≤ 1024 → mzd x 1024 0 dk = mzd x (1024 - i) i d → ∀ (H : Heap) (locs : List Loc), va_P D vwC (wsM ct ad cd d (upd tk x (vp_nar .boolean (nI 1))) kd lc sz bh wt (un bl ((15 * f) + k) x) tg fs) H → va_D A (wsM ct ad cd d (upd tk x (vp_nar .boolean (nI 1))) kd lc sz bh wt (un bl ((15 * f) + k) x) tg fs) → va_S A s.heap H locs → ∀ ls : Array Slot, lv_has ls 7 [(0, .ref (ad 0)), (1, .int (nI f)), (2, .int (nI k)), (3, .int (nI (mt_b bl f k))), (4, .int (nI g)), (5, .int (nI x)), (6, .int (nI i))] → W p l e (headSpec (Cond.code y_Mo_take c_Mo_take 7 none :: wA) (rmk 1 0 0)).room s m ([.ref (ad 0), .int (nI f), .int (nI k)] : List Value).toArray below meth c H locs 0 0 (MQ below (wQ none A D (wsM ct ad cd ((mtk (dk, tk, bl) f k).1) ((mtk (dk, tk, bl) f k).2.1) kd lc sz bh wt ((mtk (dk, tk, bl) f k).2.2) tg fs)) ([.ref (ad 0), .int (nI f), .int (nI k)] : List Value).toArray s 0 0 A) (F0 m 144 ls []) := by
                    intro n9
                    induction n9 with
                    | zero => intro i d h8 h9 h12 H locs hP hD hS ls hl; exact absurd h8 (by omega)
                    | succ n9 ih =>
                      intro i d h8 h9 h12 H locs hP hD hS ls hl
                      refine lv_iload hx hb d_Mo_take_144 (lv_at hl 6 rfl) ?_
                      refine lv_sipush (v := nI 1024) hx hb d_Mo_take_146 (by decide) ?_
                      refine ln_icmp_ge (tgt := 173) hx hb (by omega) (by omega) d_Mo_take_149 (by decide) (fun c_23 => ?_) (fun c_23 => ?_)
                      · skip
                        have e9 : wsM ct ad cd d (upd tk x (vp_nar .boolean (nI 1))) kd lc sz bh wt (un bl ((15 * f) + k) x) tg fs = wsM ct ad cd ((mtk (dk, tk, bl) f k).1) ((mtk (dk, tk, bl) f k).2.1) kd lc sz bh wt ((mtk (dk, tk, bl) f k).2.2) tg fs := (by have e7 : mtd tk bl f k = x := (by unfold mtd; rw [← hg]; first | (rw [h10, show b = 0 by omega]; rfl) | (rw [h10]; obtain ⟨c7, rfl⟩ : ∃ c7, b = c7 + 1 := ⟨b - 1, by omega⟩; rw [mt2, if_pos (by omega)])); unfold mtk; dsimp only; rw [e7, h12, show 1024 - i = 0 by omega]; rfl)
                        rw [e9] at hP hD
                        exact W.vret hx hb hr (fun t9 ht hW => ⟨rfl, by rw [ht]; exact hP, hD, hS.F ht⟩) hS.2.2 d_Mo_take_173
                      · skip
                        refine lv_aload_n hx hb d_Mo_take_152 rfl (lv_at hl 0 rfl) ?_
                        refine va_get (D := D) (ci := 6) (v := .ref (ad 1)) (C := R_Mo) (T := T_Mo) (N := 11) hx hb hts u_Mo hown hK hP 0 rfl rfl 1 (by decide) (hts _ w_840) (fun _ h9 => h9) rfl d_Mo_take_153 ?_
                        refine lv_sipush (v := nI 1024) hx hb d_Mo_take_156 (by decide) ?_
                        refine lv_iload hx hb d_Mo_take_159 (lv_at hl 5 rfl) ?_
                        refine ln_imul hx hb d_Mo_take_161 ?_
                        refine lv_iload hx hb d_Mo_take_162 (lv_at hl 6 rfl) ?_
                        refine ln_iadd hx hb d_Mo_take_164 ?_
                        refine lv_iconst (v := nI 0) hx hb d_Mo_take_165 (by decide) ?_
                        refine ln_bast hx hb hK hP hD hS 1 0 rfl rfl (by omega) (by decide) d_Mo_take_166 (fun H locs hP hD hS => ?_)
                        have hP : va_P D vwC (wsM ct ad cd (upd d ((1024 * x) + i) (vp_nar .byte (nI 0))) (upd tk x (vp_nar .boolean (nI 1))) kd lc sz bh wt (un bl ((15 * f) + k) x) tg fs) H := hP
                        have hD : va_D A (wsM ct ad cd (upd d ((1024 * x) + i) (vp_nar .byte (nI 0))) (upd tk x (vp_nar .boolean (nI 1))) kd lc sz bh wt (un bl ((15 * f) + k) x) tg fs) := hD
                        refine lv_iinc (v := nI (i + 1)) (lv' := [(6, .int (nI (i + 1))), (0, .ref (ad 0)), (1, .int (nI f)), (2, .int (nI k)), (3, .int (nI (mt_b bl f k))), (4, .int (nI g)), (5, .int (nI x))]) hx hb d_Mo_take_167 hl (k := 6) rfl (ln_inc (by decide)) (by decide) rfl (fun ls hl => ?_)
                        refine lv_goto (tgt := 144) hx hb d_Mo_take_170 (by decide) ?_
                        exact ih (i + 1) (upd d ((1024 * x) + i) (vp_nar .byte (nI 0))) (by omega) (by omega) (by rw [h12, show 1024 - i = 1024 - (i + 1) + 1 by omega, mzd]) _ _ hP hD hS ls (lv_sub hl [1, 2, 3, 4, 5, 6, 0] rfl)
                  exact loop144 1025 0 dk (by omega) (by omega) rfl _ _ hP hD hS ls (lv_sub hl [1, 2, 3, 4, 5, 6, 0] rfl)
                · skip
                  refine lv_iload hx hb d_Mo_take_88 (lv_at hl 5 rfl) ?_
                  refine lv_iload hx hb d_Mo_take_90 (lv_at hl 4 rfl) ?_
                  refine ln_icmp_ge (tgt := 120) hx hb (by omega) (by omega) d_Mo_take_92 (by decide) (fun c_24 => ?_) (fun c_24 => ?_)
                  · skip
                    refine lv_aload_n hx hb d_Mo_take_120 rfl (lv_at hl 0 rfl) ?_
                    refine va_get (D := D) (ci := 6) (v := .ref (ad 2)) (C := R_Mo) (T := T_Mo) (N := 11) hx hb hts u_Mo hown hK hP 0 rfl rfl 2 (by decide) (hts _ w_841) (fun _ h9 => h9) rfl d_Mo_take_121 ?_
                    refine lv_iload hx hb d_Mo_take_124 (lv_at hl 5 rfl) ?_
                    refine lv_iconst (v := nI 1) hx hb d_Mo_take_126 (by decide) ?_
                    refine ln_zast hx hb hK hP hD hS 2 1 rfl rfl (by omega) (by decide) d_Mo_take_127 (fun H locs hP hD hS => ?_)
                    have hP : va_P D vwC (wsM ct ad cd dk (upd tk x (vp_nar .boolean (nI 1))) kd lc sz bh wt bl tg fs) H := hP
                    have hD : va_D A (wsM ct ad cd dk (upd tk x (vp_nar .boolean (nI 1))) kd lc sz bh wt bl tg fs) := hD
                    refine lv_aload_n hx hb d_Mo_take_128 rfl (lv_at hl 0 rfl) ?_
                    refine va_get (D := D) (ci := 6) (v := .ref (ad 8)) (C := R_Mo) (T := T_Mo) (N := 11) hx hb hts u_Mo hown hK hP 0 rfl rfl 8 (by decide) (hts _ w_847) (fun _ h9 => h9) rfl d_Mo_take_129 ?_
                    refine lv_bipush (v := nI 15) hx hb d_Mo_take_132 (by decide) ?_
                    refine lv_iload_n hx hb d_Mo_take_134 rfl (lv_at hl 1 rfl) ?_
                    refine ln_imul hx hb d_Mo_take_135 ?_
                    refine lv_iload_n hx hb d_Mo_take_136 rfl (lv_at hl 2 rfl) ?_
                    refine ln_iadd hx hb d_Mo_take_137 ?_
                    refine lv_iload hx hb d_Mo_take_138 (lv_at hl 5 rfl) ?_
                    refine ln_iast hx hb hK hP hD hS 8 2 rfl rfl (by omega) (by decide) d_Mo_take_140 (fun H locs hP8 hD8 hS => ?_)
                    rw [upd_nI] at hP8 hD8
                    have hP : va_P D vwC (wsM ct ad cd dk (upd tk x (vp_nar .boolean (nI 1))) kd lc sz bh wt (un bl ((15 * f) + k) x) tg fs) H := hP8
                    have hD : va_D A (wsM ct ad cd dk (upd tk x (vp_nar .boolean (nI 1))) kd lc sz bh wt (un bl ((15 * f) + k) x) tg fs) := hD8
                    have hbl : bOK (un bl ((15 * f) + k) x) := un_lt hbl (by omega)
                    refine lv_iconst (v := nI 0) hx hb d_Mo_take_141 (by decide) ?_
                    refine lv_istore (lv' := [(6, .int (nI 0)), (0, .ref (ad 0)), (1, .int (nI f)), (2, .int (nI k)), (3, .int (nI (mt_b bl f k))), (4, .int (nI g)), (5, .int (nI x))]) hx hb d_Mo_take_142 hl (by decide) rfl (fun ls hl => ?_)
                    have loop144 : ∀ (n9 : Nat) (i : Nat) (d : Nat → Int32), 1024 - i < n9 → i ≤ 1024 → mzd x 1024 0 dk = mzd x (1024 - i) i d → ∀ (H : Heap) (locs : List Loc), va_P D vwC (wsM ct ad cd d (upd tk x (vp_nar .boolean (nI 1))) kd lc sz bh wt (un bl ((15 * f) + k) x) tg fs) H → va_D A (wsM ct ad cd d (upd tk x (vp_nar .boolean (nI 1))) kd lc sz bh wt (un bl ((15 * f) + k) x) tg fs) → va_S A s.heap H locs → ∀ ls : Array Slot, lv_has ls 7 [(0, .ref (ad 0)), (1, .int (nI f)), (2, .int (nI k)), (3, .int (nI (mt_b bl f k))), (4, .int (nI g)), (5, .int (nI x)), (6, .int (nI i))] → W p l e (headSpec (Cond.code y_Mo_take c_Mo_take 7 none :: wA) (rmk 1 0 0)).room s m ([.ref (ad 0), .int (nI f), .int (nI k)] : List Value).toArray below meth c H locs 0 0 (MQ below (wQ none A D (wsM ct ad cd ((mtk (dk, tk, bl) f k).1) ((mtk (dk, tk, bl) f k).2.1) kd lc sz bh wt ((mtk (dk, tk, bl) f k).2.2) tg fs)) ([.ref (ad 0), .int (nI f), .int (nI k)] : List Value).toArray s 0 0 A) (F0 m 144 ls []) := by
                      intro n9
                      induction n9 with
                      | zero => intro i d h8 h9 h12 H locs hP hD hS ls hl; exact absurd h8 (by omega)
                      | succ n9 ih =>
                        intro i d h8 h9 h12 H locs hP hD hS ls hl
                        refine lv_iload hx hb d_Mo_take_144 (lv_at hl 6 rfl) ?_
                        refine lv_sipush (v := nI 1024) hx hb d_Mo_take_146 (by decide) ?_
                        refine ln_icmp_ge (tgt := 173) hx hb (by omega) (by omega) d_Mo_take_149 (by decide) (fun c_25 => ?_) (fun c_25 => ?_)
                        · skip
                          have e9 : wsM ct ad cd d (upd tk x (vp_nar .boolean (nI 1))) kd lc sz bh wt (un bl ((15 * f) + k) x) tg fs = wsM ct ad cd ((mtk (dk, tk, bl) f k).1) ((mtk (dk, tk, bl) f k).2.1) kd lc sz bh wt ((mtk (dk, tk, bl) f k).2.2) tg fs := (by have e7 : mtd tk bl f k = x := (by unfold mtd; rw [← hg]; first | (rw [h10, show b = 0 by omega]; rfl) | (rw [h10]; obtain ⟨c7, rfl⟩ : ∃ c7, b = c7 + 1 := ⟨b - 1, by omega⟩; rw [mt2, if_pos (by omega)])); unfold mtk; dsimp only; rw [e7, h12, show 1024 - i = 0 by omega]; rfl)
                          rw [e9] at hP hD
                          exact W.vret hx hb hr (fun t9 ht hW => ⟨rfl, by rw [ht]; exact hP, hD, hS.F ht⟩) hS.2.2 d_Mo_take_173
                        · skip
                          refine lv_aload_n hx hb d_Mo_take_152 rfl (lv_at hl 0 rfl) ?_
                          refine va_get (D := D) (ci := 6) (v := .ref (ad 1)) (C := R_Mo) (T := T_Mo) (N := 11) hx hb hts u_Mo hown hK hP 0 rfl rfl 1 (by decide) (hts _ w_840) (fun _ h9 => h9) rfl d_Mo_take_153 ?_
                          refine lv_sipush (v := nI 1024) hx hb d_Mo_take_156 (by decide) ?_
                          refine lv_iload hx hb d_Mo_take_159 (lv_at hl 5 rfl) ?_
                          refine ln_imul hx hb d_Mo_take_161 ?_
                          refine lv_iload hx hb d_Mo_take_162 (lv_at hl 6 rfl) ?_
                          refine ln_iadd hx hb d_Mo_take_164 ?_
                          refine lv_iconst (v := nI 0) hx hb d_Mo_take_165 (by decide) ?_
                          refine ln_bast hx hb hK hP hD hS 1 0 rfl rfl (by omega) (by decide) d_Mo_take_166 (fun H locs hP hD hS => ?_)
                          have hP : va_P D vwC (wsM ct ad cd (upd d ((1024 * x) + i) (vp_nar .byte (nI 0))) (upd tk x (vp_nar .boolean (nI 1))) kd lc sz bh wt (un bl ((15 * f) + k) x) tg fs) H := hP
                          have hD : va_D A (wsM ct ad cd (upd d ((1024 * x) + i) (vp_nar .byte (nI 0))) (upd tk x (vp_nar .boolean (nI 1))) kd lc sz bh wt (un bl ((15 * f) + k) x) tg fs) := hD
                          refine lv_iinc (v := nI (i + 1)) (lv' := [(6, .int (nI (i + 1))), (0, .ref (ad 0)), (1, .int (nI f)), (2, .int (nI k)), (3, .int (nI (mt_b bl f k))), (4, .int (nI g)), (5, .int (nI x))]) hx hb d_Mo_take_167 hl (k := 6) rfl (ln_inc (by decide)) (by decide) rfl (fun ls hl => ?_)
                          refine lv_goto (tgt := 144) hx hb d_Mo_take_170 (by decide) ?_
                          exact ih (i + 1) (upd d ((1024 * x) + i) (vp_nar .byte (nI 0))) (by omega) (by omega) (by rw [h12, show 1024 - i = 1024 - (i + 1) + 1 by omega, mzd]) _ _ hP hD hS ls (lv_sub hl [1, 2, 3, 4, 5, 6, 0] rfl)
                    exact loop144 1025 0 dk (by omega) (by omega) rfl _ _ hP hD hS ls (lv_sub hl [1, 2, 3, 4, 5, 6, 0] rfl)
                  · skip
                    refine lv_aload_n hx hb d_Mo_take_95 rfl (lv_at hl 0 rfl) ?_
                    refine va_get (D := D) (ci := 6) (v := .ref (ad 2)) (C := R_Mo) (T := T_Mo) (N := 11) hx hb hts u_Mo hown hK hP 0 rfl rfl 2 (by decide) (hts _ w_841) (fun _ h9 => h9) rfl d_Mo_take_96 ?_
                    refine lv_iload hx hb d_Mo_take_99 (lv_at hl 6 rfl) ?_
                    refine ln_zald hx hb hK hP 2 1 rfl rfl (by omega) (by decide) d_Mo_take_101 ?_
                    refine lv_if_eq (tgt := 110) hx hb d_Mo_take_102 (by decide) (fun c_26 => ?_) (fun c_26 => ?_)
                    · skip
                      refine lv_iload hx hb d_Mo_take_110 (lv_at hl 6 rfl) ?_
                      refine lv_istore (lv' := [(5, .int (nI b)), (0, .ref (ad 0)), (1, .int (nI f)), (2, .int (nI k)), (3, .int (nI (mt_b bl f k))), (4, .int (nI g)), (6, .int (nI b))]) hx hb d_Mo_take_112 hl (by decide) rfl (fun ls hl => ?_)
                      refine lv_iinc (v := nI (b - 1)) (lv' := [(6, .int (nI (b - 1))), (5, .int (nI b)), (0, .ref (ad 0)), (1, .int (nI f)), (2, .int (nI k)), (3, .int (nI (mt_b bl f k))), (4, .int (nI g))]) hx hb d_Mo_take_114 hl (k := 6) rfl (ln_dec (by omega)) (by decide) rfl (fun ls hl => ?_)
                      refine lv_goto (tgt := 83) hx hb d_Mo_take_117 (by decide) ?_
                      exact ih (b - 1) b (by omega) (by omega) (by omega) (by rw [h10]; obtain ⟨c, rfl⟩ : ∃ c, b = c + 1 := ⟨b - 1, by omega⟩; rw [mt2, Nat.add_sub_cancel]; rw [if_neg (by omega)]; first | (rw [if_pos (by assumption)]; done) | (rw [if_neg (by assumption)]; done)) _ _ hP hD hS ls (lv_sub hl [2, 3, 4, 5, 6, 1, 0] rfl)
                    · skip
                      refine lv_iload hx hb d_Mo_take_105 (lv_at hl 5 rfl) ?_
                      refine lv_goto (tgt := 112) hx hb d_Mo_take_107 (by decide) ?_
                      refine lv_istore (lv' := [(5, .int (nI x)), (0, .ref (ad 0)), (1, .int (nI f)), (2, .int (nI k)), (3, .int (nI (mt_b bl f k))), (4, .int (nI g)), (6, .int (nI b))]) hx hb d_Mo_take_112 hl (by decide) rfl (fun ls hl => ?_)
                      refine lv_iinc (v := nI (b - 1)) (lv' := [(6, .int (nI (b - 1))), (5, .int (nI x)), (0, .ref (ad 0)), (1, .int (nI f)), (2, .int (nI k)), (3, .int (nI (mt_b bl f k))), (4, .int (nI g))]) hx hb d_Mo_take_114 hl (k := 6) rfl (ln_dec (by omega)) (by decide) rfl (fun ls hl => ?_)
                      refine lv_goto (tgt := 83) hx hb d_Mo_take_117 (by decide) ?_
                      exact ih (b - 1) x (by omega) (by omega) (by omega) (by rw [h10]; obtain ⟨c, rfl⟩ : ∃ c, b = c + 1 := ⟨b - 1, by omega⟩; rw [mt2, Nat.add_sub_cancel]; rw [if_neg (by omega)]; first | (rw [if_pos (by assumption)]; done) | (rw [if_neg (by assumption)]; done)) _ _ hP hD hS ls (lv_sub hl [2, 3, 4, 5, 6, 1, 0] rfl)
            exact loop83 128 127 x (by omega) (by omega) (by omega) (by rw [h10, show b = 0 by omega]; rfl) _ _ hP hD hS ls (lv_sub hl [1, 2, 3, 4, 5, 6, 0] rfl)
          · skip
            refine lv_aload_n hx hb d_Mo_take_47 rfl (lv_at hl 0 rfl) ?_
            refine va_get (D := D) (ci := 6) (v := .ref (ad 2)) (C := R_Mo) (T := T_Mo) (N := 11) hx hb hts u_Mo hown hK hP 0 rfl rfl 2 (by decide) (hts _ w_841) (fun _ h9 => h9) rfl d_Mo_take_48 ?_
            refine lv_iload hx hb d_Mo_take_51 (lv_at hl 6 rfl) ?_
            refine ln_zald hx hb hK hP 2 1 rfl rfl (by omega) (by decide) d_Mo_take_53 ?_
            refine lv_if_ne (tgt := 64) hx hb d_Mo_take_54 (by decide) (fun c_27 => ?_) (fun c_27 => ?_)
            · skip
              refine lv_iload hx hb d_Mo_take_64 (lv_at hl 5 rfl) ?_
              refine lv_goto (tgt := 71) hx hb d_Mo_take_66 (by decide) ?_
              refine lv_istore (lv' := [(5, .int (nI x)), (0, .ref (ad 0)), (1, .int (nI f)), (2, .int (nI k)), (3, .int (nI (mt_b bl f k))), (4, .int (nI g)), (6, .int (nI b))]) hx hb d_Mo_take_71 hl (by decide) rfl (fun ls hl => ?_)
              refine lv_iinc (v := nI (b - 1)) (lv' := [(6, .int (nI (b - 1))), (5, .int (nI x)), (0, .ref (ad 0)), (1, .int (nI f)), (2, .int (nI k)), (3, .int (nI (mt_b bl f k))), (4, .int (nI g))]) hx hb d_Mo_take_73 hl (k := 6) rfl (ln_dec (by omega)) (by decide) rfl (fun ls hl => ?_)
              refine lv_goto (tgt := 42) hx hb d_Mo_take_76 (by decide) ?_
              exact ih (b - 1) x (by omega) (by omega) (by omega) (by rw [h10]; obtain ⟨c, rfl⟩ : ∃ c, b = c + 1 := ⟨b - 1, by omega⟩; rw [mt1, Nat.add_sub_cancel]; first | (rw [if_pos ⟨by assumption, by omega⟩]; done) | (rw [if_neg (fun q => absurd q.1 (by assumption))]; done) | (rw [if_neg (fun q => absurd q.2 (by omega))]; done)) _ _ hP hD hS ls (lv_sub hl [2, 3, 4, 5, 6, 1, 0] rfl)
            · skip
              refine lv_iload hx hb d_Mo_take_57 (lv_at hl 6 rfl) ?_
              refine lv_iload hx hb d_Mo_take_59 (lv_at hl 4 rfl) ?_
              refine ln_icmp_ge (tgt := 69) hx hb (by omega) (by omega) d_Mo_take_61 (by decide) (fun c_28 => ?_) (fun c_28 => ?_)
              · skip
                refine lv_iload hx hb d_Mo_take_69 (lv_at hl 6 rfl) ?_
                refine lv_istore (lv' := [(5, .int (nI b)), (0, .ref (ad 0)), (1, .int (nI f)), (2, .int (nI k)), (3, .int (nI (mt_b bl f k))), (4, .int (nI g)), (6, .int (nI b))]) hx hb d_Mo_take_71 hl (by decide) rfl (fun ls hl => ?_)
                refine lv_iinc (v := nI (b - 1)) (lv' := [(6, .int (nI (b - 1))), (5, .int (nI b)), (0, .ref (ad 0)), (1, .int (nI f)), (2, .int (nI k)), (3, .int (nI (mt_b bl f k))), (4, .int (nI g))]) hx hb d_Mo_take_73 hl (k := 6) rfl (ln_dec (by omega)) (by decide) rfl (fun ls hl => ?_)
                refine lv_goto (tgt := 42) hx hb d_Mo_take_76 (by decide) ?_
                exact ih (b - 1) b (by omega) (by omega) (by omega) (by rw [h10]; obtain ⟨c, rfl⟩ : ∃ c, b = c + 1 := ⟨b - 1, by omega⟩; rw [mt1, Nat.add_sub_cancel]; first | (rw [if_pos ⟨by assumption, by omega⟩]; done) | (rw [if_neg (fun q => absurd q.1 (by assumption))]; done) | (rw [if_neg (fun q => absurd q.2 (by omega))]; done)) _ _ hP hD hS ls (lv_sub hl [2, 3, 4, 5, 6, 1, 0] rfl)
              · skip
                refine lv_iload hx hb d_Mo_take_64 (lv_at hl 5 rfl) ?_
                refine lv_goto (tgt := 71) hx hb d_Mo_take_66 (by decide) ?_
                refine lv_istore (lv' := [(5, .int (nI x)), (0, .ref (ad 0)), (1, .int (nI f)), (2, .int (nI k)), (3, .int (nI (mt_b bl f k))), (4, .int (nI g)), (6, .int (nI b))]) hx hb d_Mo_take_71 hl (by decide) rfl (fun ls hl => ?_)
                refine lv_iinc (v := nI (b - 1)) (lv' := [(6, .int (nI (b - 1))), (5, .int (nI x)), (0, .ref (ad 0)), (1, .int (nI f)), (2, .int (nI k)), (3, .int (nI (mt_b bl f k))), (4, .int (nI g))]) hx hb d_Mo_take_73 hl (k := 6) rfl (ln_dec (by omega)) (by decide) rfl (fun ls hl => ?_)
                refine lv_goto (tgt := 42) hx hb d_Mo_take_76 (by decide) ?_
                exact ih (b - 1) x (by omega) (by omega) (by omega) (by rw [h10]; obtain ⟨c, rfl⟩ : ∃ c, b = c + 1 := ⟨b - 1, by omega⟩; rw [mt1, Nat.add_sub_cancel]; first | (rw [if_pos ⟨by assumption, by omega⟩]; done) | (rw [if_neg (fun q => absurd q.1 (by assumption))]; done) | (rw [if_neg (fun q => absurd q.2 (by omega))]; done)) _ _ hP hD hS ls (lv_sub hl [2, 3, 4, 5, 6, 1, 0] rfl)
      exact loop42 128 127 0 (by omega) (by omega) (by omega) rfl _ _ hP hD hS ls (lv_sub hl [4, 5, 6, 3, 2, 1, 0] rfl)
    · skip
      refine lv_iconst (v := nI 4) hx hb d_Mo_take_26 (by decide) ?_
      refine lv_goto (tgt := 33) hx hb d_Mo_take_27 (by decide) ?_
      refine W.eq (g2 := F0 m 33 ls [.int (nI (mt_g bl f k))]) (by unfold mt_g; first | (rw [if_pos (by omega)]; done) | (rw [if_neg (by omega)]; done)) ?_
      obtain ⟨g, hg⟩ : ∃ g : Nat, g = mt_g bl f k := ⟨_, rfl⟩
      have hg9 : g ≤ 128 := by rw [hg]; unfold mt_g; by_cases w : mt_b bl f k = 0; rw [if_pos w]; omega; rw [if_neg w]; omega
      refine W.eq (g2 := F0 m 33 ls [.int (nI g)]) (by rw [hg]) ?_
      refine lv_istore (lv' := [(4, .int (nI g)), (3, .int (nI (mt_b bl f k))), (0, .ref (ad 0)), (1, .int (nI f)), (2, .int (nI k))]) hx hb d_Mo_take_33 hl (by decide) rfl (fun ls hl => ?_)
      refine lv_iconst (v := nI 0) hx hb d_Mo_take_35 (by decide) ?_
      refine lv_istore (lv' := [(5, .int (nI 0)), (4, .int (nI g)), (3, .int (nI (mt_b bl f k))), (0, .ref (ad 0)), (1, .int (nI f)), (2, .int (nI k))]) hx hb d_Mo_take_36 hl (by decide) rfl (fun ls hl => ?_)
      refine lv_bipush (v := nI 127) hx hb d_Mo_take_38 (by decide) ?_
      refine lv_istore (lv' := [(6, .int (nI 127)), (5, .int (nI 0)), (4, .int (nI g)), (3, .int (nI (mt_b bl f k))), (0, .ref (ad 0)), (1, .int (nI f)), (2, .int (nI k))]) hx hb d_Mo_take_40 hl (by decide) rfl (fun ls hl => ?_)
      have loop42 : ∀ (n9 : Nat) (b : Nat) (x : Nat), b < n9 → b < 128 → x < 128 → mt1 tk g 127 0 = mt1 tk g b x → ∀ (H : Heap) (locs : List Loc), va_P D vwC (wsM ct ad cd dk tk kd lc sz bh wt bl tg fs) H → va_D A (wsM ct ad cd dk tk kd lc sz bh wt bl tg fs) → va_S A s.heap H locs → ∀ ls : Array Slot, lv_has ls 7 [(0, .ref (ad 0)), (1, .int (nI f)), (2, .int (nI k)), (3, .int (nI (mt_b bl f k))), (4, .int (nI g)), (5, .int (nI x)), (6, .int (nI b))] → W p l e (headSpec (Cond.code y_Mo_take c_Mo_take 7 none :: wA) (rmk 1 0 0)).room s m ([.ref (ad 0), .int (nI f), .int (nI k)] : List Value).toArray below meth c H locs 0 0 (MQ below (wQ none A D (wsM ct ad cd ((mtk (dk, tk, bl) f k).1) ((mtk (dk, tk, bl) f k).2.1) kd lc sz bh wt ((mtk (dk, tk, bl) f k).2.2) tg fs)) ([.ref (ad 0), .int (nI f), .int (nI k)] : List Value).toArray s 0 0 A) (F0 m 42 ls []) := by
        intro n9
        induction n9 with
        | zero => intro b x h8 h9 h11 h10 H locs hP hD hS ls hl; exact absurd h8 (by omega)
        | succ n9 ih =>
          intro b x h8 h9 h11 h10 H locs hP hD hS ls hl
          refine lv_iload hx hb d_Mo_take_42 (lv_at hl 6 rfl) ?_
          refine ln_if_le (tgt := 79) hx hb (by omega) d_Mo_take_44 (by decide) (fun c_29 => ?_) (fun c_29 => ?_)
          · skip
            refine lv_bipush (v := nI 127) hx hb d_Mo_take_79 (by decide) ?_
            refine lv_istore (lv' := [(6, .int (nI 127)), (0, .ref (ad 0)), (1, .int (nI f)), (2, .int (nI k)), (3, .int (nI (mt_b bl f k))), (4, .int (nI g)), (5, .int (nI x))]) hx hb d_Mo_take_81 hl (by decide) rfl (fun ls hl => ?_)
            have loop83 : ∀ (n9 : Nat) (b : Nat) (x : Nat), b < n9 → b < 128 → x < 128 → mt2 tk g 127 (mt1 tk g 127 0) = mt2 tk g b x → ∀ (H : Heap) (locs : List Loc), va_P D vwC (wsM ct ad cd dk tk kd lc sz bh wt bl tg fs) H → va_D A (wsM ct ad cd dk tk kd lc sz bh wt bl tg fs) → va_S A s.heap H locs → ∀ ls : Array Slot, lv_has ls 7 [(0, .ref (ad 0)), (1, .int (nI f)), (2, .int (nI k)), (3, .int (nI (mt_b bl f k))), (4, .int (nI g)), (5, .int (nI x)), (6, .int (nI b))] → W p l e (headSpec (Cond.code y_Mo_take c_Mo_take 7 none :: wA) (rmk 1 0 0)).room s m ([.ref (ad 0), .int (nI f), .int (nI k)] : List Value).toArray below meth c H locs 0 0 (MQ below (wQ none A D (wsM ct ad cd ((mtk (dk, tk, bl) f k).1) ((mtk (dk, tk, bl) f k).2.1) kd lc sz bh wt ((mtk (dk, tk, bl) f k).2.2) tg fs)) ([.ref (ad 0), .int (nI f), .int (nI k)] : List Value).toArray s 0 0 A) (F0 m 83 ls []) := by
              intro n9
              induction n9 with
              | zero => intro b x h8 h9 h11 h10 H locs hP hD hS ls hl; exact absurd h8 (by omega)
              | succ n9 ih =>
                intro b x h8 h9 h11 h10 H locs hP hD hS ls hl
                refine lv_iload hx hb d_Mo_take_83 (lv_at hl 6 rfl) ?_
                refine ln_if_le (tgt := 120) hx hb (by omega) d_Mo_take_85 (by decide) (fun c_30 => ?_) (fun c_30 => ?_)
                · skip
                  refine lv_aload_n hx hb d_Mo_take_120 rfl (lv_at hl 0 rfl) ?_
                  refine va_get (D := D) (ci := 6) (v := .ref (ad 2)) (C := R_Mo) (T := T_Mo) (N := 11) hx hb hts u_Mo hown hK hP 0 rfl rfl 2 (by decide) (hts _ w_841) (fun _ h9 => h9) rfl d_Mo_take_121 ?_
                  refine lv_iload hx hb d_Mo_take_124 (lv_at hl 5 rfl) ?_
                  refine lv_iconst (v := nI 1) hx hb d_Mo_take_126 (by decide) ?_
                  refine ln_zast hx hb hK hP hD hS 2 1 rfl rfl (by omega) (by decide) d_Mo_take_127 (fun H locs hP hD hS => ?_)
                  have hP : va_P D vwC (wsM ct ad cd dk (upd tk x (vp_nar .boolean (nI 1))) kd lc sz bh wt bl tg fs) H := hP
                  have hD : va_D A (wsM ct ad cd dk (upd tk x (vp_nar .boolean (nI 1))) kd lc sz bh wt bl tg fs) := hD
                  refine lv_aload_n hx hb d_Mo_take_128 rfl (lv_at hl 0 rfl) ?_
                  refine va_get (D := D) (ci := 6) (v := .ref (ad 8)) (C := R_Mo) (T := T_Mo) (N := 11) hx hb hts u_Mo hown hK hP 0 rfl rfl 8 (by decide) (hts _ w_847) (fun _ h9 => h9) rfl d_Mo_take_129 ?_
                  refine lv_bipush (v := nI 15) hx hb d_Mo_take_132 (by decide) ?_
                  refine lv_iload_n hx hb d_Mo_take_134 rfl (lv_at hl 1 rfl) ?_
                  refine ln_imul hx hb d_Mo_take_135 ?_
                  refine lv_iload_n hx hb d_Mo_take_136 rfl (lv_at hl 2 rfl) ?_
                  refine ln_iadd hx hb d_Mo_take_137 ?_
                  refine lv_iload hx hb d_Mo_take_138 (lv_at hl 5 rfl) ?_
                  refine ln_iast hx hb hK hP hD hS 8 2 rfl rfl (by omega) (by decide) d_Mo_take_140 (fun H locs hP8 hD8 hS => ?_)
                  rw [upd_nI] at hP8 hD8
                  have hP : va_P D vwC (wsM ct ad cd dk (upd tk x (vp_nar .boolean (nI 1))) kd lc sz bh wt (un bl ((15 * f) + k) x) tg fs) H := hP8
                  have hD : va_D A (wsM ct ad cd dk (upd tk x (vp_nar .boolean (nI 1))) kd lc sz bh wt (un bl ((15 * f) + k) x) tg fs) := hD8
                  have hbl : bOK (un bl ((15 * f) + k) x) := un_lt hbl (by omega)
                  refine lv_iconst (v := nI 0) hx hb d_Mo_take_141 (by decide) ?_
                  refine lv_istore (lv' := [(6, .int (nI 0)), (0, .ref (ad 0)), (1, .int (nI f)), (2, .int (nI k)), (3, .int (nI (mt_b bl f k))), (4, .int (nI g)), (5, .int (nI x))]) hx hb d_Mo_take_142 hl (by decide) rfl (fun ls hl => ?_)
                  have loop144 : ∀ (n9 : Nat) (i : Nat) (d : Nat → Int32), 1024 - i < n9 → i ≤ 1024 → mzd x 1024 0 dk = mzd x (1024 - i) i d → ∀ (H : Heap) (locs : List Loc), va_P D vwC (wsM ct ad cd d (upd tk x (vp_nar .boolean (nI 1))) kd lc sz bh wt (un bl ((15 * f) + k) x) tg fs) H → va_D A (wsM ct ad cd d (upd tk x (vp_nar .boolean (nI 1))) kd lc sz bh wt (un bl ((15 * f) + k) x) tg fs) → va_S A s.heap H locs → ∀ ls : Array Slot, lv_has ls 7 [(0, .ref (ad 0)), (1, .int (nI f)), (2, .int (nI k)), (3, .int (nI (mt_b bl f k))), (4, .int (nI g)), (5, .int (nI x)), (6, .int (nI i))] → W p l e (headSpec (Cond.code y_Mo_take c_Mo_take 7 none :: wA) (rmk 1 0 0)).room s m ([.ref (ad 0), .int (nI f), .int (nI k)] : List Value).toArray below meth c H locs 0 0 (MQ below (wQ none A D (wsM ct ad cd ((mtk (dk, tk, bl) f k).1) ((mtk (dk, tk, bl) f k).2.1) kd lc sz bh wt ((mtk (dk, tk, bl) f k).2.2) tg fs)) ([.ref (ad 0), .int (nI f), .int (nI k)] : List Value).toArray s 0 0 A) (F0 m 144 ls []) := by
                    intro n9
                    induction n9 with
                    | zero => intro i d h8 h9 h12 H locs hP hD hS ls hl; exact absurd h8 (by omega)
                    | succ n9 ih =>
                      intro i d h8 h9 h12 H locs hP hD hS ls hl
                      refine lv_iload hx hb d_Mo_take_144 (lv_at hl 6 rfl) ?_
                      refine lv_sipush (v := nI 1024) hx hb d_Mo_take_146 (by decide) ?_
                      refine ln_icmp_ge (tgt := 173) hx hb (by omega) (by omega) d_Mo_take_149 (by decide) (fun c_31 => ?_) (fun c_31 => ?_)
                      · skip
                        have e9 : wsM ct ad cd d (upd tk x (vp_nar .boolean (nI 1))) kd lc sz bh wt (un bl ((15 * f) + k) x) tg fs = wsM ct ad cd ((mtk (dk, tk, bl) f k).1) ((mtk (dk, tk, bl) f k).2.1) kd lc sz bh wt ((mtk (dk, tk, bl) f k).2.2) tg fs := (by have e7 : mtd tk bl f k = x := (by unfold mtd; rw [← hg]; first | (rw [h10, show b = 0 by omega]; rfl) | (rw [h10]; obtain ⟨c7, rfl⟩ : ∃ c7, b = c7 + 1 := ⟨b - 1, by omega⟩; rw [mt2, if_pos (by omega)])); unfold mtk; dsimp only; rw [e7, h12, show 1024 - i = 0 by omega]; rfl)
                        rw [e9] at hP hD
                        exact W.vret hx hb hr (fun t9 ht hW => ⟨rfl, by rw [ht]; exact hP, hD, hS.F ht⟩) hS.2.2 d_Mo_take_173
                      · skip
                        refine lv_aload_n hx hb d_Mo_take_152 rfl (lv_at hl 0 rfl) ?_
                        refine va_get (D := D) (ci := 6) (v := .ref (ad 1)) (C := R_Mo) (T := T_Mo) (N := 11) hx hb hts u_Mo hown hK hP 0 rfl rfl 1 (by decide) (hts _ w_840) (fun _ h9 => h9) rfl d_Mo_take_153 ?_
                        refine lv_sipush (v := nI 1024) hx hb d_Mo_take_156 (by decide) ?_
                        refine lv_iload hx hb d_Mo_take_159 (lv_at hl 5 rfl) ?_
                        refine ln_imul hx hb d_Mo_take_161 ?_
                        refine lv_iload hx hb d_Mo_take_162 (lv_at hl 6 rfl) ?_
                        refine ln_iadd hx hb d_Mo_take_164 ?_
                        refine lv_iconst (v := nI 0) hx hb d_Mo_take_165 (by decide) ?_
                        refine ln_bast hx hb hK hP hD hS 1 0 rfl rfl (by omega) (by decide) d_Mo_take_166 (fun H locs hP hD hS => ?_)
                        have hP : va_P D vwC (wsM ct ad cd (upd d ((1024 * x) + i) (vp_nar .byte (nI 0))) (upd tk x (vp_nar .boolean (nI 1))) kd lc sz bh wt (un bl ((15 * f) + k) x) tg fs) H := hP
                        have hD : va_D A (wsM ct ad cd (upd d ((1024 * x) + i) (vp_nar .byte (nI 0))) (upd tk x (vp_nar .boolean (nI 1))) kd lc sz bh wt (un bl ((15 * f) + k) x) tg fs) := hD
                        refine lv_iinc (v := nI (i + 1)) (lv' := [(6, .int (nI (i + 1))), (0, .ref (ad 0)), (1, .int (nI f)), (2, .int (nI k)), (3, .int (nI (mt_b bl f k))), (4, .int (nI g)), (5, .int (nI x))]) hx hb d_Mo_take_167 hl (k := 6) rfl (ln_inc (by decide)) (by decide) rfl (fun ls hl => ?_)
                        refine lv_goto (tgt := 144) hx hb d_Mo_take_170 (by decide) ?_
                        exact ih (i + 1) (upd d ((1024 * x) + i) (vp_nar .byte (nI 0))) (by omega) (by omega) (by rw [h12, show 1024 - i = 1024 - (i + 1) + 1 by omega, mzd]) _ _ hP hD hS ls (lv_sub hl [1, 2, 3, 4, 5, 6, 0] rfl)
                  exact loop144 1025 0 dk (by omega) (by omega) rfl _ _ hP hD hS ls (lv_sub hl [1, 2, 3, 4, 5, 6, 0] rfl)
                · skip
                  refine lv_iload hx hb d_Mo_take_88 (lv_at hl 5 rfl) ?_
                  refine lv_iload hx hb d_Mo_take_90 (lv_at hl 4 rfl) ?_
                  refine ln_icmp_ge (tgt := 120) hx hb (by omega) (by omega) d_Mo_take_92 (by decide) (fun c_32 => ?_) (fun c_32 => ?_)
                  · skip
                    refine lv_aload_n hx hb d_Mo_take_120 rfl (lv_at hl 0 rfl) ?_
                    refine va_get (D := D) (ci := 6) (v := .ref (ad 2)) (C := R_Mo) (T := T_Mo) (N := 11) hx hb hts u_Mo hown hK hP 0 rfl rfl 2 (by decide) (hts _ w_841) (fun _ h9 => h9) rfl d_Mo_take_121 ?_
                    refine lv_iload hx hb d_Mo_take_124 (lv_at hl 5 rfl) ?_
                    refine lv_iconst (v := nI 1) hx hb d_Mo_take_126 (by decide) ?_
                    refine ln_zast hx hb hK hP hD hS 2 1 rfl rfl (by omega) (by decide) d_Mo_take_127 (fun H locs hP hD hS => ?_)
                    have hP : va_P D vwC (wsM ct ad cd dk (upd tk x (vp_nar .boolean (nI 1))) kd lc sz bh wt bl tg fs) H := hP
                    have hD : va_D A (wsM ct ad cd dk (upd tk x (vp_nar .boolean (nI 1))) kd lc sz bh wt bl tg fs) := hD
                    refine lv_aload_n hx hb d_Mo_take_128 rfl (lv_at hl 0 rfl) ?_
                    refine va_get (D := D) (ci := 6) (v := .ref (ad 8)) (C := R_Mo) (T := T_Mo) (N := 11) hx hb hts u_Mo hown hK hP 0 rfl rfl 8 (by decide) (hts _ w_847) (fun _ h9 => h9) rfl d_Mo_take_129 ?_
                    refine lv_bipush (v := nI 15) hx hb d_Mo_take_132 (by decide) ?_
                    refine lv_iload_n hx hb d_Mo_take_134 rfl (lv_at hl 1 rfl) ?_
                    refine ln_imul hx hb d_Mo_take_135 ?_
                    refine lv_iload_n hx hb d_Mo_take_136 rfl (lv_at hl 2 rfl) ?_
                    refine ln_iadd hx hb d_Mo_take_137 ?_
                    refine lv_iload hx hb d_Mo_take_138 (lv_at hl 5 rfl) ?_
                    refine ln_iast hx hb hK hP hD hS 8 2 rfl rfl (by omega) (by decide) d_Mo_take_140 (fun H locs hP8 hD8 hS => ?_)
                    rw [upd_nI] at hP8 hD8
                    have hP : va_P D vwC (wsM ct ad cd dk (upd tk x (vp_nar .boolean (nI 1))) kd lc sz bh wt (un bl ((15 * f) + k) x) tg fs) H := hP8
                    have hD : va_D A (wsM ct ad cd dk (upd tk x (vp_nar .boolean (nI 1))) kd lc sz bh wt (un bl ((15 * f) + k) x) tg fs) := hD8
                    have hbl : bOK (un bl ((15 * f) + k) x) := un_lt hbl (by omega)
                    refine lv_iconst (v := nI 0) hx hb d_Mo_take_141 (by decide) ?_
                    refine lv_istore (lv' := [(6, .int (nI 0)), (0, .ref (ad 0)), (1, .int (nI f)), (2, .int (nI k)), (3, .int (nI (mt_b bl f k))), (4, .int (nI g)), (5, .int (nI x))]) hx hb d_Mo_take_142 hl (by decide) rfl (fun ls hl => ?_)
                    have loop144 : ∀ (n9 : Nat) (i : Nat) (d : Nat → Int32), 1024 - i < n9 → i ≤ 1024 → mzd x 1024 0 dk = mzd x (1024 - i) i d → ∀ (H : Heap) (locs : List Loc), va_P D vwC (wsM ct ad cd d (upd tk x (vp_nar .boolean (nI 1))) kd lc sz bh wt (un bl ((15 * f) + k) x) tg fs) H → va_D A (wsM ct ad cd d (upd tk x (vp_nar .boolean (nI 1))) kd lc sz bh wt (un bl ((15 * f) + k) x) tg fs) → va_S A s.heap H locs → ∀ ls : Array Slot, lv_has ls 7 [(0, .ref (ad 0)), (1, .int (nI f)), (2, .int (nI k)), (3, .int (nI (mt_b bl f k))), (4, .int (nI g)), (5, .int (nI x)), (6, .int (nI i))] → W p l e (headSpec (Cond.code y_Mo_take c_Mo_take 7 none :: wA) (rmk 1 0 0)).room s m ([.ref (ad 0), .int (nI f), .int (nI k)] : List Value).toArray below meth c H locs 0 0 (MQ below (wQ none A D (wsM ct ad cd ((mtk (dk, tk, bl) f k).1) ((mtk (dk, tk, bl) f k).2.1) kd lc sz bh wt ((mtk (dk, tk, bl) f k).2.2) tg fs)) ([.ref (ad 0), .int (nI f), .int (nI k)] : List Value).toArray s 0 0 A) (F0 m 144 ls []) := by
                      intro n9
                      induction n9 with
                      | zero => intro i d h8 h9 h12 H locs hP hD hS ls hl; exact absurd h8 (by omega)
                      | succ n9 ih =>
                        intro i d h8 h9 h12 H locs hP hD hS ls hl
                        refine lv_iload hx hb d_Mo_take_144 (lv_at hl 6 rfl) ?_
                        refine lv_sipush (v := nI 1024) hx hb d_Mo_take_146 (by decide) ?_
                        refine ln_icmp_ge (tgt := 173) hx hb (by omega) (by omega) d_Mo_take_149 (by decide) (fun c_33 => ?_) (fun c_33 => ?_)
                        · skip
                          have e9 : wsM ct ad cd d (upd tk x (vp_nar .boolean (nI 1))) kd lc sz bh wt (un bl ((15 * f) + k) x) tg fs = wsM ct ad cd ((mtk (dk, tk, bl) f k).1) ((mtk (dk, tk, bl) f k).2.1) kd lc sz bh wt ((mtk (dk, tk, bl) f k).2.2) tg fs := (by have e7 : mtd tk bl f k = x := (by unfold mtd; rw [← hg]; first | (rw [h10, show b = 0 by omega]; rfl) | (rw [h10]; obtain ⟨c7, rfl⟩ : ∃ c7, b = c7 + 1 := ⟨b - 1, by omega⟩; rw [mt2, if_pos (by omega)])); unfold mtk; dsimp only; rw [e7, h12, show 1024 - i = 0 by omega]; rfl)
                          rw [e9] at hP hD
                          exact W.vret hx hb hr (fun t9 ht hW => ⟨rfl, by rw [ht]; exact hP, hD, hS.F ht⟩) hS.2.2 d_Mo_take_173
                        · skip
                          refine lv_aload_n hx hb d_Mo_take_152 rfl (lv_at hl 0 rfl) ?_
                          refine va_get (D := D) (ci := 6) (v := .ref (ad 1)) (C := R_Mo) (T := T_Mo) (N := 11) hx hb hts u_Mo hown hK hP 0 rfl rfl 1 (by decide) (hts _ w_840) (fun _ h9 => h9) rfl d_Mo_take_153 ?_
                          refine lv_sipush (v := nI 1024) hx hb d_Mo_take_156 (by decide) ?_
                          refine lv_iload hx hb d_Mo_take_159 (lv_at hl 5 rfl) ?_
                          refine ln_imul hx hb d_Mo_take_161 ?_
                          refine lv_iload hx hb d_Mo_take_162 (lv_at hl 6 rfl) ?_
                          refine ln_iadd hx hb d_Mo_take_164 ?_
                          refine lv_iconst (v := nI 0) hx hb d_Mo_take_165 (by decide) ?_
                          refine ln_bast hx hb hK hP hD hS 1 0 rfl rfl (by omega) (by decide) d_Mo_take_166 (fun H locs hP hD hS => ?_)
                          have hP : va_P D vwC (wsM ct ad cd (upd d ((1024 * x) + i) (vp_nar .byte (nI 0))) (upd tk x (vp_nar .boolean (nI 1))) kd lc sz bh wt (un bl ((15 * f) + k) x) tg fs) H := hP
                          have hD : va_D A (wsM ct ad cd (upd d ((1024 * x) + i) (vp_nar .byte (nI 0))) (upd tk x (vp_nar .boolean (nI 1))) kd lc sz bh wt (un bl ((15 * f) + k) x) tg fs) := hD
                          refine lv_iinc (v := nI (i + 1)) (lv' := [(6, .int (nI (i + 1))), (0, .ref (ad 0)), (1, .int (nI f)), (2, .int (nI k)), (3, .int (nI (mt_b bl f k))), (4, .int (nI g)), (5, .int (nI x))]) hx hb d_Mo_take_167 hl (k := 6) rfl (ln_inc (by decide)) (by decide) rfl (fun ls hl => ?_)
                          refine lv_goto (tgt := 144) hx hb d_Mo_take_170 (by decide) ?_
                          exact ih (i + 1) (upd d ((1024 * x) + i) (vp_nar .byte (nI 0))) (by omega) (by omega) (by rw [h12, show 1024 - i = 1024 - (i + 1) + 1 by omega, mzd]) _ _ hP hD hS ls (lv_sub hl [1, 2, 3, 4, 5, 6, 0] rfl)
                    exact loop144 1025 0 dk (by omega) (by omega) rfl _ _ hP hD hS ls (lv_sub hl [1, 2, 3, 4, 5, 6, 0] rfl)
                  · skip
                    refine lv_aload_n hx hb d_Mo_take_95 rfl (lv_at hl 0 rfl) ?_
                    refine va_get (D := D) (ci := 6) (v := .ref (ad 2)) (C := R_Mo) (T := T_Mo) (N := 11) hx hb hts u_Mo hown hK hP 0 rfl rfl 2 (by decide) (hts _ w_841) (fun _ h9 => h9) rfl d_Mo_take_96 ?_
                    refine lv_iload hx hb d_Mo_take_99 (lv_at hl 6 rfl) ?_
                    refine ln_zald hx hb hK hP 2 1 rfl rfl (by omega) (by decide) d_Mo_take_101 ?_
                    refine lv_if_eq (tgt := 110) hx hb d_Mo_take_102 (by decide) (fun c_34 => ?_) (fun c_34 => ?_)
                    · skip
                      refine lv_iload hx hb d_Mo_take_110 (lv_at hl 6 rfl) ?_
                      refine lv_istore (lv' := [(5, .int (nI b)), (0, .ref (ad 0)), (1, .int (nI f)), (2, .int (nI k)), (3, .int (nI (mt_b bl f k))), (4, .int (nI g)), (6, .int (nI b))]) hx hb d_Mo_take_112 hl (by decide) rfl (fun ls hl => ?_)
                      refine lv_iinc (v := nI (b - 1)) (lv' := [(6, .int (nI (b - 1))), (5, .int (nI b)), (0, .ref (ad 0)), (1, .int (nI f)), (2, .int (nI k)), (3, .int (nI (mt_b bl f k))), (4, .int (nI g))]) hx hb d_Mo_take_114 hl (k := 6) rfl (ln_dec (by omega)) (by decide) rfl (fun ls hl => ?_)
                      refine lv_goto (tgt := 83) hx hb d_Mo_take_117 (by decide) ?_
                      exact ih (b - 1) b (by omega) (by omega) (by omega) (by rw [h10]; obtain ⟨c, rfl⟩ : ∃ c, b = c + 1 := ⟨b - 1, by omega⟩; rw [mt2, Nat.add_sub_cancel]; rw [if_neg (by omega)]; first | (rw [if_pos (by assumption)]; done) | (rw [if_neg (by assumption)]; done)) _ _ hP hD hS ls (lv_sub hl [2, 3, 4, 5, 6, 1, 0] rfl)
                    · skip
                      refine lv_iload hx hb d_Mo_take_105 (lv_at hl 5 rfl) ?_
                      refine lv_goto (tgt := 112) hx hb d_Mo_take_107 (by decide) ?_
                      refine lv_istore (lv' := [(5, .int (nI x)), (0, .ref (ad 0)), (1, .int (nI f)), (2, .int (nI k)), (3, .int (nI (mt_b bl f k))), (4, .int (nI g)), (6, .int (nI b))]) hx hb d_Mo_take_112 hl (by decide) rfl (fun ls hl => ?_)
                      refine lv_iinc (v := nI (b - 1)) (lv' := [(6, .int (nI (b - 1))), (5, .int (nI x)), (0, .ref (ad 0)), (1, .int (nI f)), (2, .int (nI k)), (3, .int (nI (mt_b bl f k))), (4, .int (nI g))]) hx hb d_Mo_take_114 hl (k := 6) rfl (ln_dec (by omega)) (by decide) rfl (fun ls hl => ?_)
                      refine lv_goto (tgt := 83) hx hb d_Mo_take_117 (by decide) ?_
                      exact ih (b - 1) x (by omega) (by omega) (by omega) (by rw [h10]; obtain ⟨c, rfl⟩ : ∃ c, b = c + 1 := ⟨b - 1, by omega⟩; rw [mt2, Nat.add_sub_cancel]; rw [if_neg (by omega)]; first | (rw [if_pos (by assumption)]; done) | (rw [if_neg (by assumption)]; done)) _ _ hP hD hS ls (lv_sub hl [2, 3, 4, 5, 6, 1, 0] rfl)
            exact loop83 128 127 x (by omega) (by omega) (by omega) (by rw [h10, show b = 0 by omega]; rfl) _ _ hP hD hS ls (lv_sub hl [1, 2, 3, 4, 5, 6, 0] rfl)
          · skip
            refine lv_aload_n hx hb d_Mo_take_47 rfl (lv_at hl 0 rfl) ?_
            refine va_get (D := D) (ci := 6) (v := .ref (ad 2)) (C := R_Mo) (T := T_Mo) (N := 11) hx hb hts u_Mo hown hK hP 0 rfl rfl 2 (by decide) (hts _ w_841) (fun _ h9 => h9) rfl d_Mo_take_48 ?_
            refine lv_iload hx hb d_Mo_take_51 (lv_at hl 6 rfl) ?_
            refine ln_zald hx hb hK hP 2 1 rfl rfl (by omega) (by decide) d_Mo_take_53 ?_
            refine lv_if_ne (tgt := 64) hx hb d_Mo_take_54 (by decide) (fun c_35 => ?_) (fun c_35 => ?_)
            · skip
              refine lv_iload hx hb d_Mo_take_64 (lv_at hl 5 rfl) ?_
              refine lv_goto (tgt := 71) hx hb d_Mo_take_66 (by decide) ?_
              refine lv_istore (lv' := [(5, .int (nI x)), (0, .ref (ad 0)), (1, .int (nI f)), (2, .int (nI k)), (3, .int (nI (mt_b bl f k))), (4, .int (nI g)), (6, .int (nI b))]) hx hb d_Mo_take_71 hl (by decide) rfl (fun ls hl => ?_)
              refine lv_iinc (v := nI (b - 1)) (lv' := [(6, .int (nI (b - 1))), (5, .int (nI x)), (0, .ref (ad 0)), (1, .int (nI f)), (2, .int (nI k)), (3, .int (nI (mt_b bl f k))), (4, .int (nI g))]) hx hb d_Mo_take_73 hl (k := 6) rfl (ln_dec (by omega)) (by decide) rfl (fun ls hl => ?_)
              refine lv_goto (tgt := 42) hx hb d_Mo_take_76 (by decide) ?_
              exact ih (b - 1) x (by omega) (by omega) (by omega) (by rw [h10]; obtain ⟨c, rfl⟩ : ∃ c, b = c + 1 := ⟨b - 1, by omega⟩; rw [mt1, Nat.add_sub_cancel]; first | (rw [if_pos ⟨by assumption, by omega⟩]; done) | (rw [if_neg (fun q => absurd q.1 (by assumption))]; done) | (rw [if_neg (fun q => absurd q.2 (by omega))]; done)) _ _ hP hD hS ls (lv_sub hl [2, 3, 4, 5, 6, 1, 0] rfl)
            · skip
              refine lv_iload hx hb d_Mo_take_57 (lv_at hl 6 rfl) ?_
              refine lv_iload hx hb d_Mo_take_59 (lv_at hl 4 rfl) ?_
              refine ln_icmp_ge (tgt := 69) hx hb (by omega) (by omega) d_Mo_take_61 (by decide) (fun c_36 => ?_) (fun c_36 => ?_)
              · skip
                refine lv_iload hx hb d_Mo_take_69 (lv_at hl 6 rfl) ?_
                refine lv_istore (lv' := [(5, .int (nI b)), (0, .ref (ad 0)), (1, .int (nI f)), (2, .int (nI k)), (3, .int (nI (mt_b bl f k))), (4, .int (nI g)), (6, .int (nI b))]) hx hb d_Mo_take_71 hl (by decide) rfl (fun ls hl => ?_)
                refine lv_iinc (v := nI (b - 1)) (lv' := [(6, .int (nI (b - 1))), (5, .int (nI b)), (0, .ref (ad 0)), (1, .int (nI f)), (2, .int (nI k)), (3, .int (nI (mt_b bl f k))), (4, .int (nI g))]) hx hb d_Mo_take_73 hl (k := 6) rfl (ln_dec (by omega)) (by decide) rfl (fun ls hl => ?_)
                refine lv_goto (tgt := 42) hx hb d_Mo_take_76 (by decide) ?_
                exact ih (b - 1) b (by omega) (by omega) (by omega) (by rw [h10]; obtain ⟨c, rfl⟩ : ∃ c, b = c + 1 := ⟨b - 1, by omega⟩; rw [mt1, Nat.add_sub_cancel]; first | (rw [if_pos ⟨by assumption, by omega⟩]; done) | (rw [if_neg (fun q => absurd q.1 (by assumption))]; done) | (rw [if_neg (fun q => absurd q.2 (by omega))]; done)) _ _ hP hD hS ls (lv_sub hl [2, 3, 4, 5, 6, 1, 0] rfl)
              · skip
                refine lv_iload hx hb d_Mo_take_64 (lv_at hl 5 rfl) ?_
                refine lv_goto (tgt := 71) hx hb d_Mo_take_66 (by decide) ?_
                refine lv_istore (lv' := [(5, .int (nI x)), (0, .ref (ad 0)), (1, .int (nI f)), (2, .int (nI k)), (3, .int (nI (mt_b bl f k))), (4, .int (nI g)), (6, .int (nI b))]) hx hb d_Mo_take_71 hl (by decide) rfl (fun ls hl => ?_)
                refine lv_iinc (v := nI (b - 1)) (lv' := [(6, .int (nI (b - 1))), (5, .int (nI x)), (0, .ref (ad 0)), (1, .int (nI f)), (2, .int (nI k)), (3, .int (nI (mt_b bl f k))), (4, .int (nI g))]) hx hb d_Mo_take_73 hl (k := 6) rfl (ln_dec (by omega)) (by decide) rfl (fun ls hl => ?_)
                refine lv_goto (tgt := 42) hx hb d_Mo_take_76 (by decide) ?_
                exact ih (b - 1) x (by omega) (by omega) (by omega) (by rw [h10]; obtain ⟨c, rfl⟩ : ∃ c, b = c + 1 := ⟨b - 1, by omega⟩; rw [mt1, Nat.add_sub_cancel]; first | (rw [if_pos ⟨by assumption, by omega⟩]; done) | (rw [if_neg (fun q => absurd q.1 (by assumption))]; done) | (rw [if_neg (fun q => absurd q.2 (by omega))]; done)) _ _ hP hD hS ls (lv_sub hl [2, 3, 4, 5, 6, 1, 0] rfl)
      exact loop42 128 127 0 (by omega) (by omega) (by omega) rfl _ _ hP hD hS ls (lv_sub hl [4, 5, 6, 3, 2, 1, 0] rfl)
theorem m_Mo_giveBack : mV R_Mo y_Mo_giveBack (Cond.code y_Mo_giveBack c_Mo_giveBack 4 none) 2 := ⟨⟨w_954, wp_24, w_7, w_955⟩, by decide +kernel⟩
set_option maxHeartbeats 4000000 in
set_option maxRecDepth 100000 in
theorem k_Mo_giveBack (l : Launch) {D : va_G} {ct : Nat → ClassId} {ad : Nat → Nat} {cd : Int32} {dk : Nat → Int32} {tk kd lc sz bh wt : Nat → Int32} {bl : Nat → Nat} {tg : Nat → Int32} {fs : Int32} {A : Nat → Prop} {f : Nat} {k : Nat} (h0 : bOK bl) (h1 : f ≤ 12) (h2 : k < 15) : Met l y_Mo_giveBack (Cond.code y_Mo_giveBack c_Mo_giveBack 4 none :: wA) (rmk 1 0 0) (va_Pc [.ref (ad 0), .int (nI f), .int (nI k)] (cW A D (tyM ct) (wsM ct ad cd dk tk kd lc sz bh wt bl tg fs))) (wQ none A D (wsM ct ad cd dk (mgT tk bl f k) kd lc sz bh wt (mgB bl f k) tg fs)) 0 0 A := by
  refine Met.ofW (cc := c_Mo_giveBack) (maxL := 4) (ret := none) (by decide +kernel) rfl ?_
  intro p e s m args below meth c s₁ B0 hml hv
  obtain ⟨rfl, hA, hP, hD, hK⟩ := hv
  have hS : va_S A s.heap s.heap [] := va_S.rf
  have hx := B0.exec
  have hb := B0.bytes
  have hr := B0.returns
  have hts := fun w (h : w ∈ wA) => atoms_spec (ws := Cond.code y_Mo_giveBack c_Mo_giveBack 4 none :: wA) B0.pre w (List.mem_cons_of_mem _ h)
  have hown : s.vm.findClass R_Mo = some m.cls := findClass_of_methodNamed B0.named
  have hlocks := B0.notSynchronized
  have hl := lv_entry ([.ref (ad 0), .int (nI f), .int (nI k)]) (n := 4) (Nat.le_of_ble_eq_true rfl)
  rw [lg_entry_eq]
  generalize (lg_sl ([.ref (ad 0), .int (nI f), .int (nI k)]) ++ List.replicate (4 - (lg_sl ([.ref (ad 0), .int (nI f), .int (nI k)])).length) Slot.unset).toArray = ls at hl ⊢
  have hl : lv_has ls 4 [(0, .ref (ad 0)), (1, .int (nI f)), (2, .int (nI k))] := hl
  have hbl := h0
  refine lv_aload_n hx hb d_Mo_giveBack_0 rfl (lv_at hl 0 rfl) ?_
  refine va_get (D := D) (ci := 6) (v := .ref (ad 8)) (C := R_Mo) (T := T_Mo) (N := 11) hx hb hts u_Mo hown hK hP 0 rfl rfl 8 (by decide) (hts _ w_847) (fun _ h9 => h9) rfl d_Mo_giveBack_1 ?_
  refine lv_bipush (v := nI 15) hx hb d_Mo_giveBack_4 (by decide) ?_
  refine lv_iload_n hx hb d_Mo_giveBack_6 rfl (lv_at hl 1 rfl) ?_
  refine ln_imul hx hb d_Mo_giveBack_7 ?_
  refine lv_iload_n hx hb d_Mo_giveBack_8 rfl (lv_at hl 2 rfl) ?_
  refine ln_iadd hx hb d_Mo_giveBack_9 ?_
  refine ln_iald hx hb hK hP 8 2 rfl rfl (by omega) (by decide) d_Mo_giveBack_10 ?_
  refine W.eq (g2 := F0 m 11 ls [.int (nI (bl ((15 * f) + k)))]) rfl ?_
  have b_1 := hbl ((15 * f) + k)
  refine lv_istore_n (lv' := [(3, .int (nI (bl ((15 * f) + k)))), (0, .ref (ad 0)), (1, .int (nI f)), (2, .int (nI k))]) hx hb d_Mo_giveBack_11 rfl hl (by decide) rfl (fun ls hl => ?_)
  refine lv_iload_n hx hb d_Mo_giveBack_12 rfl (lv_at hl 0 rfl) ?_
  refine ln_if_le (tgt := 35) hx hb (by omega) d_Mo_giveBack_13 (by decide) (fun c_2 => ?_) (fun c_2 => ?_)
  · skip
    have e9 : wsM ct ad cd dk tk kd lc sz bh wt bl tg fs = wsM ct ad cd dk (mgT tk bl f k) kd lc sz bh wt (mgB bl f k) tg fs := (by unfold mgT mgB; first | (rw [if_neg (by omega), if_neg (by omega)]; done) | rw [if_pos (by omega), if_pos (by omega)])
    rw [e9] at hP hD
    exact W.vret hx hb hr (fun t9 ht hW => ⟨rfl, by rw [ht]; exact hP, hD, hS.F ht⟩) hS.2.2 d_Mo_giveBack_35
  · skip
    refine lv_aload_n hx hb d_Mo_giveBack_16 rfl (lv_at hl 1 rfl) ?_
    refine va_get (D := D) (ci := 6) (v := .ref (ad 2)) (C := R_Mo) (T := T_Mo) (N := 11) hx hb hts u_Mo hown hK hP 0 rfl rfl 2 (by decide) (hts _ w_841) (fun _ h9 => h9) rfl d_Mo_giveBack_17 ?_
    refine lv_iload_n hx hb d_Mo_giveBack_20 rfl (lv_at hl 0 rfl) ?_
    refine lv_iconst (v := nI 0) hx hb d_Mo_giveBack_21 (by decide) ?_
    refine ln_zast hx hb hK hP hD hS 2 1 rfl rfl (by omega) (by decide) d_Mo_giveBack_22 (fun H locs hP hD hS => ?_)
    have hP : va_P D vwC (wsM ct ad cd dk (upd tk (bl ((15 * f) + k)) (vp_nar .boolean (nI 0))) kd lc sz bh wt bl tg fs) H := hP
    have hD : va_D A (wsM ct ad cd dk (upd tk (bl ((15 * f) + k)) (vp_nar .boolean (nI 0))) kd lc sz bh wt bl tg fs) := hD
    refine lv_aload_n hx hb d_Mo_giveBack_23 rfl (lv_at hl 1 rfl) ?_
    refine va_get (D := D) (ci := 6) (v := .ref (ad 8)) (C := R_Mo) (T := T_Mo) (N := 11) hx hb hts u_Mo hown hK hP 0 rfl rfl 8 (by decide) (hts _ w_847) (fun _ h9 => h9) rfl d_Mo_giveBack_24 ?_
    refine lv_bipush (v := nI 15) hx hb d_Mo_giveBack_27 (by decide) ?_
    refine lv_iload_n hx hb d_Mo_giveBack_29 rfl (lv_at hl 2 rfl) ?_
    refine ln_imul hx hb d_Mo_giveBack_30 ?_
    refine lv_iload_n hx hb d_Mo_giveBack_31 rfl (lv_at hl 3 rfl) ?_
    refine ln_iadd hx hb d_Mo_giveBack_32 ?_
    refine lv_iconst (v := nI 0) hx hb d_Mo_giveBack_33 (by decide) ?_
    refine ln_iast hx hb hK hP hD hS 8 2 rfl rfl (by omega) (by decide) d_Mo_giveBack_34 (fun H locs hP8 hD8 hS => ?_)
    rw [upd_nI] at hP8 hD8
    have hP : va_P D vwC (wsM ct ad cd dk (upd tk (bl ((15 * f) + k)) (vp_nar .boolean (nI 0))) kd lc sz bh wt (un bl ((15 * f) + k) 0) tg fs) H := hP8
    have hD : va_D A (wsM ct ad cd dk (upd tk (bl ((15 * f) + k)) (vp_nar .boolean (nI 0))) kd lc sz bh wt (un bl ((15 * f) + k) 0) tg fs) := hD8
    have hbl : bOK (un bl ((15 * f) + k) 0) := un_lt hbl (by omega)
    have e9 : wsM ct ad cd dk (upd tk (bl ((15 * f) + k)) (vp_nar .boolean (nI 0))) kd lc sz bh wt (un bl ((15 * f) + k) 0) tg fs = wsM ct ad cd dk (mgT tk bl f k) kd lc sz bh wt (mgB bl f k) tg fs := (by unfold mgT mgB; first | (rw [if_neg (by omega), if_neg (by omega)]; done) | rw [if_pos (by omega), if_pos (by omega)])
    rw [e9] at hP hD
    exact W.vret hx hb hr (fun t9 ht hW => ⟨rfl, by rw [ht]; exact hP, hD, hS.F ht⟩) hS.2.2 d_Mo_giveBack_35
theorem m_Mo_takeAll : mV R_Mo y_Mo_takeAll (Cond.code y_Mo_takeAll c_Mo_takeAll 5 none) 3 := ⟨⟨w_934, wp_22, w_7, w_935⟩, by decide +kernel⟩
set_option maxHeartbeats 4000000 in
set_option maxRecDepth 100000 in
theorem k_Mo_takeAll (l : Launch) {D : va_G} {ct : Nat → ClassId} {ad : Nat → Nat} {cd : Int32} {dk : Nat → Int32} {tk kd lc sz bh wt : Nat → Int32} {bl : Nat → Nat} {tg : Nat → Int32} {fs : Int32} {A : Nat → Prop} {f : Nat} {a : Nat} {n : Nat} (h0 : bOK bl) (h1 : f ≤ 12) (h2 : a + n ≤ 15360) (h3 : 1 ≤ n) : Met l y_Mo_takeAll (Cond.code y_Mo_takeAll c_Mo_takeAll 5 none :: wA) (rmk 2 0 0) (va_Pc [.ref (ad 0), .int (nI f), .int (nI a), .int (nI n)] (cW A D (tyM ct) (wsM ct ad cd dk tk kd lc sz bh wt bl tg fs))) (wQ none A D (wsM ct ad cd ((mta (dk, tk, bl) f a n).1) ((mta (dk, tk, bl) f a n).2.1) kd lc (msz sz f (a + n)) bh wt ((mta (dk, tk, bl) f a n).2.2) tg fs)) 0 0 A := by
  refine Met.ofW (cc := c_Mo_takeAll) (maxL := 5) (ret := none) (by decide +kernel) rfl ?_
  intro p e s m args below meth c s₁ B0 hml hv
  obtain ⟨rfl, hA, hP, hD, hK⟩ := hv
  have hS : va_S A s.heap s.heap [] := va_S.rf
  have hx := B0.exec
  have hb := B0.bytes
  have hr := B0.returns
  have hts := fun w (h : w ∈ wA) => atoms_spec (ws := Cond.code y_Mo_takeAll c_Mo_takeAll 5 none :: wA) B0.pre w (List.mem_cons_of_mem _ h)
  have hown : s.vm.findClass R_Mo = some m.cls := findClass_of_methodNamed B0.named
  have hlocks := B0.notSynchronized
  have hl := lv_entry ([.ref (ad 0), .int (nI f), .int (nI a), .int (nI n)]) (n := 5) (Nat.le_of_ble_eq_true rfl)
  rw [lg_entry_eq]
  generalize (lg_sl ([.ref (ad 0), .int (nI f), .int (nI a), .int (nI n)]) ++ List.replicate (5 - (lg_sl ([.ref (ad 0), .int (nI f), .int (nI a), .int (nI n)])).length) Slot.unset).toArray = ls at hl ⊢
  have hl : lv_has ls 5 [(0, .ref (ad 0)), (1, .int (nI f)), (2, .int (nI a)), (3, .int (nI n))] := hl
  have hbl := h0
  refine lv_iload_n hx hb d_Mo_takeAll_0 rfl (lv_at hl 2 rfl) ?_
  refine lv_sipush (v := nI 1024) hx hb d_Mo_takeAll_1 (by decide) ?_
  refine ln_idiv hx hb d_Mo_takeAll_4 (by omega) (by omega) (by omega) ?_
  refine lv_istore (lv' := [(4, .int (nI (a / 1024))), (0, .ref (ad 0)), (1, .int (nI f)), (2, .int (nI a)), (3, .int (nI n))]) hx hb d_Mo_takeAll_5 hl (by decide) rfl (fun ls hl => ?_)
  have loop7 : ∀ (n9 : Nat) (q : Nat) (S : m3), (a + n - 1) / 1024 + 1 - q < n9 → q ≤ (a + n - 1) / 1024 + 1 → bOK S.2.2 → mta (dk, tk, bl) f a n = mtaS f ((a + n - 1) / 1024 + 1 - q) q S → ∀ (H : Heap) (locs : List Loc), va_P D vwC (wsM ct ad cd S.1 S.2.1 kd lc sz bh wt S.2.2 tg fs) H → va_D A (wsM ct ad cd S.1 S.2.1 kd lc sz bh wt S.2.2 tg fs) → va_S A s.heap H locs → ∀ ls : Array Slot, lv_has ls 5 [(0, .ref (ad 0)), (1, .int (nI f)), (2, .int (nI a)), (3, .int (nI n)), (4, .int (nI q))] → W p l e (headSpec (Cond.code y_Mo_takeAll c_Mo_takeAll 5 none :: wA) (rmk 2 0 0)).room s m ([.ref (ad 0), .int (nI f), .int (nI a), .int (nI n)] : List Value).toArray below meth c H locs 0 0 (MQ below (wQ none A D (wsM ct ad cd ((mta (dk, tk, bl) f a n).1) ((mta (dk, tk, bl) f a n).2.1) kd lc (msz sz f (a + n)) bh wt ((mta (dk, tk, bl) f a n).2.2) tg fs)) ([.ref (ad 0), .int (nI f), .int (nI a), .int (nI n)] : List Value).toArray s 0 0 A) (F0 m 7 ls []) := by
    intro n9
    induction n9 with
    | zero => intro q S h8 h9 hbl h10 H locs hP hD hS ls hl; exact absurd h8 (by omega)
    | succ n9 ih =>
      intro q S h8 h9 hbl h10 H locs hP hD hS ls hl
      refine lv_iload hx hb d_Mo_takeAll_7 (lv_at hl 4 rfl) ?_
      refine lv_iload_n hx hb d_Mo_takeAll_9 rfl (lv_at hl 2 rfl) ?_
      refine lv_iload_n hx hb d_Mo_takeAll_10 rfl (lv_at hl 3 rfl) ?_
      refine ln_iadd hx hb d_Mo_takeAll_11 ?_
      refine lv_iconst (v := nI 1) hx hb d_Mo_takeAll_12 (by decide) ?_
      refine ln_isub hx hb d_Mo_takeAll_13 (by omega) ?_
      refine lv_sipush (v := nI 1024) hx hb d_Mo_takeAll_14 (by decide) ?_
      refine ln_idiv hx hb d_Mo_takeAll_17 (by omega) (by omega) (by omega) ?_
      refine ln_icmp_gt (tgt := 49) hx hb (by omega) (by omega) d_Mo_takeAll_18 (by decide) (fun c_1 => ?_) (fun c_1 => ?_)
      · skip
        refine lv_aload_n hx hb d_Mo_takeAll_49 rfl (lv_at hl 0 rfl) ?_
        refine va_get (D := D) (ci := 6) (v := .ref (ad 5)) (C := R_Mo) (T := T_Mo) (N := 11) hx hb hts u_Mo hown hK hP 0 rfl rfl 5 (by decide) (hts _ w_844) (fun _ h9 => h9) rfl d_Mo_takeAll_50 ?_
        refine lv_iload_n hx hb d_Mo_takeAll_53 rfl (lv_at hl 1 rfl) ?_
        refine lv_iload_n hx hb d_Mo_takeAll_54 rfl (lv_at hl 2 rfl) ?_
        refine lv_iload_n hx hb d_Mo_takeAll_55 rfl (lv_at hl 3 rfl) ?_
        refine ln_iadd hx hb d_Mo_takeAll_56 ?_
        refine lv_aload_n hx hb d_Mo_takeAll_57 rfl (lv_at hl 0 rfl) ?_
        refine va_get (D := D) (ci := 6) (v := .ref (ad 5)) (C := R_Mo) (T := T_Mo) (N := 11) hx hb hts u_Mo hown hK hP 0 rfl rfl 5 (by decide) (hts _ w_844) (fun _ h9 => h9) rfl d_Mo_takeAll_58 ?_
        refine lv_iload_n hx hb d_Mo_takeAll_61 rfl (lv_at hl 1 rfl) ?_
        refine ln_iald hx hb hK hP 5 2 rfl rfl (by omega) (by decide) d_Mo_takeAll_62 ?_
        refine lv_icmp_le (tgt := 72) hx hb d_Mo_takeAll_63 (by decide) (fun c_2 => ?_) (fun c_2 => ?_)
        · skip
          refine lv_aload_n hx hb d_Mo_takeAll_72 rfl (lv_at hl 0 rfl) ?_
          refine va_get (D := D) (ci := 6) (v := .ref (ad 5)) (C := R_Mo) (T := T_Mo) (N := 11) hx hb hts u_Mo hown hK hP 0 rfl rfl 5 (by decide) (hts _ w_844) (fun _ h9 => h9) rfl d_Mo_takeAll_73 ?_
          refine lv_iload_n hx hb d_Mo_takeAll_76 rfl (lv_at hl 1 rfl) ?_
          refine ln_iald hx hb hK hP 5 2 rfl rfl (by omega) (by decide) d_Mo_takeAll_77 ?_
          refine ln_iast hx hb hK hP hD hS 5 2 rfl rfl (by omega) (by decide) d_Mo_takeAll_78 (fun H locs hP hD hS => ?_)
          have hP : va_P D vwC (wsM ct ad cd S.1 S.2.1 kd lc (upd sz f (sz f)) bh wt S.2.2 tg fs) H := hP
          have hD : va_D A (wsM ct ad cd S.1 S.2.1 kd lc (upd sz f (sz f)) bh wt S.2.2 tg fs) := hD
          have e9 : wsM ct ad cd S.1 S.2.1 kd lc (upd sz f (sz f)) bh wt S.2.2 tg fs = wsM ct ad cd ((mta (dk, tk, bl) f a n).1) ((mta (dk, tk, bl) f a n).2.1) kd lc (msz sz f (a + n)) bh wt ((mta (dk, tk, bl) f a n).2.2) tg fs := (by unfold msz; rw [h10, show (a + n - 1) / 1024 + 1 - q = 0 by omega]; first | (rw [if_pos (by assumption)]; rfl) | (rw [if_neg (by assumption)]; rfl))
          rw [e9] at hP hD
          exact W.vret hx hb hr (fun t9 ht hW => ⟨rfl, by rw [ht]; exact hP, hD, hS.F ht⟩) hS.2.2 d_Mo_takeAll_79
        · skip
          refine lv_iload_n hx hb d_Mo_takeAll_66 rfl (lv_at hl 2 rfl) ?_
          refine lv_iload_n hx hb d_Mo_takeAll_67 rfl (lv_at hl 3 rfl) ?_
          refine ln_iadd hx hb d_Mo_takeAll_68 ?_
          refine lv_goto (tgt := 78) hx hb d_Mo_takeAll_69 (by decide) ?_
          refine ln_iast hx hb hK hP hD hS 5 2 rfl rfl (by omega) (by decide) d_Mo_takeAll_78 (fun H locs hP hD hS => ?_)
          have hP : va_P D vwC (wsM ct ad cd S.1 S.2.1 kd lc (upd sz f (nI (a + n))) bh wt S.2.2 tg fs) H := hP
          have hD : va_D A (wsM ct ad cd S.1 S.2.1 kd lc (upd sz f (nI (a + n))) bh wt S.2.2 tg fs) := hD
          have e9 : wsM ct ad cd S.1 S.2.1 kd lc (upd sz f (nI (a + n))) bh wt S.2.2 tg fs = wsM ct ad cd ((mta (dk, tk, bl) f a n).1) ((mta (dk, tk, bl) f a n).2.1) kd lc (msz sz f (a + n)) bh wt ((mta (dk, tk, bl) f a n).2.2) tg fs := (by unfold msz; rw [h10, show (a + n - 1) / 1024 + 1 - q = 0 by omega]; first | (rw [if_pos (by assumption)]; rfl) | (rw [if_neg (by assumption)]; rfl))
          rw [e9] at hP hD
          exact W.vret hx hb hr (fun t9 ht hW => ⟨rfl, by rw [ht]; exact hP, hD, hS.F ht⟩) hS.2.2 d_Mo_takeAll_79
      · skip
        refine lv_aload_n hx hb d_Mo_takeAll_21 rfl (lv_at hl 0 rfl) ?_
        refine va_get (D := D) (ci := 6) (v := .ref (ad 8)) (C := R_Mo) (T := T_Mo) (N := 11) hx hb hts u_Mo hown hK hP 0 rfl rfl 8 (by decide) (hts _ w_847) (fun _ h9 => h9) rfl d_Mo_takeAll_22 ?_
        refine lv_bipush (v := nI 15) hx hb d_Mo_takeAll_25 (by decide) ?_
        refine lv_iload_n hx hb d_Mo_takeAll_27 rfl (lv_at hl 1 rfl) ?_
        refine ln_imul hx hb d_Mo_takeAll_28 ?_
        refine lv_iload hx hb d_Mo_takeAll_29 (lv_at hl 4 rfl) ?_
        refine ln_iadd hx hb d_Mo_takeAll_31 ?_
        refine ln_iald hx hb hK hP 8 2 rfl rfl (by omega) (by decide) d_Mo_takeAll_32 ?_
        refine W.eq (g2 := F0 m 33 ls [.int (nI (S.2.2 ((15 * f) + q)))]) rfl ?_
        have b_3 := hbl ((15 * f) + q)
        refine ln_if_ne (tgt := 43) hx hb (by omega) d_Mo_takeAll_33 (by decide) (fun c_4 => ?_) (fun c_4 => ?_)
        · skip
          refine lv_iinc (v := nI (q + 1)) (lv' := [(4, .int (nI (q + 1))), (0, .ref (ad 0)), (1, .int (nI f)), (2, .int (nI a)), (3, .int (nI n))]) hx hb d_Mo_takeAll_43 hl (k := 4) rfl (ln_inc (by decide)) (by decide) rfl (fun ls hl => ?_)
          refine lv_goto (tgt := 7) hx hb d_Mo_takeAll_46 (by decide) ?_
          exact ih (q + 1) (S.1, S.2.1, S.2.2) (by omega) (by omega) hbl (by rw [h10, show (a + n - 1) / 1024 + 1 - q = (a + n - 1) / 1024 + 1 - (q + 1) + 1 by omega, mtaS]; first | (rw [if_pos (by omega)]; done) | (rw [if_neg (by omega)]; done)) _ _ hP hD hS ls (lv_sub hl [1, 2, 3, 4, 0] rfl)
        · skip
          refine lv_aload_n hx hb d_Mo_takeAll_36 rfl (lv_at hl 0 rfl) ?_
          refine lv_iload_n hx hb d_Mo_takeAll_37 rfl (lv_at hl 1 rfl) ?_
          refine lv_iload hx hb d_Mo_takeAll_38 (lv_at hl 4 rfl) ?_
          refine wrV ⟨hx, hb, hml, hown, hts⟩ hK hP hD hS hA (k_Mo_take l (f := f) (k := q) hbl (by omega) (by omega)) w_906 m_Mo_take ⟨by decide, by decide⟩ 0 rfl rfl rfl hl.1 rfl (Nat.le_of_ble_eq_true rfl) d_Mo_takeAll_40 ⟨Nat.zero_le _, Nat.zero_le _⟩ (fun H locs hP hD hS => ?_)
          have hbl : bOK ((mtk (S.1, S.2.1, S.2.2) f q).2.2) := mtk_ok hbl
          have hP : va_P D vwC (wsM ct ad cd ((mtk (S.1, S.2.1, S.2.2) f q).1) ((mtk (S.1, S.2.1, S.2.2) f q).2.1) kd lc sz bh wt ((mtk (S.1, S.2.1, S.2.2) f q).2.2) tg fs) H := hP
          have hD : va_D A (wsM ct ad cd ((mtk (S.1, S.2.1, S.2.2) f q).1) ((mtk (S.1, S.2.1, S.2.2) f q).2.1) kd lc sz bh wt ((mtk (S.1, S.2.1, S.2.2) f q).2.2) tg fs) := hD
          refine W.eq (g2 := F0 m 43 ls []) rfl ?_
          refine lv_iinc (v := nI (q + 1)) (lv' := [(4, .int (nI (q + 1))), (0, .ref (ad 0)), (1, .int (nI f)), (2, .int (nI a)), (3, .int (nI n))]) hx hb d_Mo_takeAll_43 hl (k := 4) rfl (ln_inc (by decide)) (by decide) rfl (fun ls hl => ?_)
          refine lv_goto (tgt := 7) hx hb d_Mo_takeAll_46 (by decide) ?_
          exact ih (q + 1) (((mtk (S.1, S.2.1, S.2.2) f q).1), ((mtk (S.1, S.2.1, S.2.2) f q).2.1), ((mtk (S.1, S.2.1, S.2.2) f q).2.2)) (by omega) (by omega) hbl (by rw [h10, show (a + n - 1) / 1024 + 1 - q = (a + n - 1) / 1024 + 1 - (q + 1) + 1 by omega, mtaS]; first | (rw [if_pos (by omega)]; done) | (rw [if_neg (by omega)]; done)) _ _ hP hD hS ls (lv_sub hl [1, 2, 3, 4, 0] rfl)
  exact loop7 ((a + n - 1) / 1024 + 2) (a / 1024) (dk, tk, bl) (by omega) (by omega) hbl rfl _ _ hP hD hS ls (lv_sub hl [1, 2, 3, 4, 0] rfl)
theorem m_Mo_set : mV R_Mo y_Mo_set (Cond.code y_Mo_set c_Mo_set 4 none) 3 := ⟨⟨w_938, wp_23, w_7, w_939⟩, by decide +kernel⟩
set_option maxHeartbeats 4000000 in
set_option maxRecDepth 100000 in
theorem k_Mo_set (l : Launch) {D : va_G} {ct : Nat → ClassId} {ad : Nat → Nat} {cd : Int32} {dk : Nat → Int32} {tk kd lc sz bh wt : Nat → Int32} {bl : Nat → Nat} {tg : Nat → Int32} {fs : Int32} {A : Nat → Prop} {f : Nat} {a : Nat} {x : Int32} (h0 : bOK bl) (h1 : f ≤ 12) (h2 : a < 15360) : Met l y_Mo_set (Cond.code y_Mo_set c_Mo_set 4 none :: wA) (rmk 1 0 0) (va_Pc [.ref (ad 0), .int (nI f), .int (nI a), .int x] (cW A D (tyM ct) (wsM ct ad cd dk tk kd lc sz bh wt bl tg fs))) (wQ none A D (wsM ct ad cd (mset dk bl f a x) tk kd lc sz bh wt bl tg fs)) 0 0 A := by
  refine Met.ofW (cc := c_Mo_set) (maxL := 4) (ret := none) (by decide +kernel) rfl ?_
  intro p e s m args below meth c s₁ B0 hml hv
  obtain ⟨rfl, hA, hP, hD, hK⟩ := hv
  have hS : va_S A s.heap s.heap [] := va_S.rf
  have hx := B0.exec
  have hb := B0.bytes
  have hr := B0.returns
  have hts := fun w (h : w ∈ wA) => atoms_spec (ws := Cond.code y_Mo_set c_Mo_set 4 none :: wA) B0.pre w (List.mem_cons_of_mem _ h)
  have hown : s.vm.findClass R_Mo = some m.cls := findClass_of_methodNamed B0.named
  have hlocks := B0.notSynchronized
  have hl := lv_entry ([.ref (ad 0), .int (nI f), .int (nI a), .int x]) (n := 4) (Nat.le_of_ble_eq_true rfl)
  rw [lg_entry_eq]
  generalize (lg_sl ([.ref (ad 0), .int (nI f), .int (nI a), .int x]) ++ List.replicate (4 - (lg_sl ([.ref (ad 0), .int (nI f), .int (nI a), .int x])).length) Slot.unset).toArray = ls at hl ⊢
  have hl : lv_has ls 4 [(0, .ref (ad 0)), (1, .int (nI f)), (2, .int (nI a)), (3, .int x)] := hl
  have hbl := h0
  refine lv_aload_n hx hb d_Mo_set_0 rfl (lv_at hl 0 rfl) ?_
  refine va_get (D := D) (ci := 6) (v := .ref (ad 1)) (C := R_Mo) (T := T_Mo) (N := 11) hx hb hts u_Mo hown hK hP 0 rfl rfl 1 (by decide) (hts _ w_840) (fun _ h9 => h9) rfl d_Mo_set_1 ?_
  refine lv_sipush (v := nI 1024) hx hb d_Mo_set_4 (by decide) ?_
  refine lv_aload_n hx hb d_Mo_set_7 rfl (lv_at hl 0 rfl) ?_
  refine va_get (D := D) (ci := 6) (v := .ref (ad 8)) (C := R_Mo) (T := T_Mo) (N := 11) hx hb hts u_Mo hown hK hP 0 rfl rfl 8 (by decide) (hts _ w_847) (fun _ h9 => h9) rfl d_Mo_set_8 ?_
  refine lv_bipush (v := nI 15) hx hb d_Mo_set_11 (by decide) ?_
  refine lv_iload_n hx hb d_Mo_set_13 rfl (lv_at hl 1 rfl) ?_
  refine ln_imul hx hb d_Mo_set_14 ?_
  refine lv_iload_n hx hb d_Mo_set_15 rfl (lv_at hl 2 rfl) ?_
  refine lv_sipush (v := nI 1024) hx hb d_Mo_set_16 (by decide) ?_
  refine ln_idiv hx hb d_Mo_set_19 (by omega) (by omega) (by omega) ?_
  refine ln_iadd hx hb d_Mo_set_20 ?_
  refine ln_iald hx hb hK hP 8 2 rfl rfl (by omega) (by decide) d_Mo_set_21 ?_
  refine W.eq (g2 := F0 m 22 ls [.int (nI (bl ((15 * f) + (a / 1024)))), .int (nI 1024), .ref (ad 1)]) rfl ?_
  have b_1 := hbl ((15 * f) + (a / 1024))
  refine ln_imul hx hb d_Mo_set_22 ?_
  refine lv_iload_n hx hb d_Mo_set_23 rfl (lv_at hl 2 rfl) ?_
  refine lv_sipush (v := nI 1024) hx hb d_Mo_set_24 (by decide) ?_
  refine ln_irem hx hb d_Mo_set_27 (by omega) (by omega) (by omega) ?_
  refine ln_iadd hx hb d_Mo_set_28 ?_
  refine lv_iload_n hx hb d_Mo_set_29 rfl (lv_at hl 3 rfl) ?_
  refine lv_i2b hx hb d_Mo_set_30 rfl ?_
  refine ln_bast hx hb hK hP hD hS 1 0 rfl rfl (by omega) (by decide) d_Mo_set_31 (fun H locs hP hD hS => ?_)
  have hP : va_P D vwC (wsM ct ad cd (upd dk ((1024 * (bl ((15 * f) + (a / 1024)))) + (a % 1024)) (vp_nar .byte x.toInt8.toInt32)) tk kd lc sz bh wt bl tg fs) H := hP
  have hD : va_D A (wsM ct ad cd (upd dk ((1024 * (bl ((15 * f) + (a / 1024)))) + (a % 1024)) (vp_nar .byte x.toInt8.toInt32)) tk kd lc sz bh wt bl tg fs) := hD
  have e9 : wsM ct ad cd (upd dk ((1024 * (bl ((15 * f) + (a / 1024)))) + (a % 1024)) (vp_nar .byte x.toInt8.toInt32)) tk kd lc sz bh wt bl tg fs = wsM ct ad cd (mset dk bl f a x) tk kd lc sz bh wt bl tg fs := rfl
  rw [e9] at hP hD
  exact W.vret hx hb hr (fun t9 ht hW => ⟨rfl, by rw [ht]; exact hP, hD, hS.F ht⟩) hS.2.2 d_Mo_set_32
theorem m_Mo_rest : mV R_Mo y_Mo_rest (Cond.code y_Mo_rest c_Mo_rest 4 none) 2 := ⟨⟨w_896, wp_15, w_7, w_897⟩, by decide +kernel⟩
set_option maxHeartbeats 4000000 in
set_option maxRecDepth 100000 in
theorem k_Mo_rest (l : Launch) {D : va_G} {ct : Nat → ClassId} {ad : Nat → Nat} {cd : Int32} {dk : Nat → Int32} {tk kd lc sz bh wt : Nat → Int32} {bl : Nat → Nat} {tg : Nat → Int32} {fs : Int32} {A : Nat → Prop} {f : Nat} {y : Int32} (h0 : 1 ≤ f) (h1 : f ≤ 12) : Met l y_Mo_rest (Cond.code y_Mo_rest c_Mo_rest 4 none :: wA) (rmk 1 0 0) (va_Pc [.ref (ad 0), .int (nI f), .int y] (cW A D (tyM ct) (wsM ct ad cd dk tk kd lc sz bh wt bl tg fs))) (wQ none A D (wsM ct ad cd dk tk kd lc sz ((mrst (bh, wt, fs) f y).1) ((mrst (bh, wt, fs) f y).2.1) bl tg ((mrst (bh, wt, fs) f y).2.2))) 0 0 A := by
  refine Met.ofW (cc := c_Mo_rest) (maxL := 4) (ret := none) (by decide +kernel) rfl ?_
  intro p e s m args below meth c s₁ B0 hml hv
  obtain ⟨rfl, hA, hP, hD, hK⟩ := hv
  have hS : va_S A s.heap s.heap [] := va_S.rf
  have hx := B0.exec
  have hb := B0.bytes
  have hr := B0.returns
  have hts := fun w (h : w ∈ wA) => atoms_spec (ws := Cond.code y_Mo_rest c_Mo_rest 4 none :: wA) B0.pre w (List.mem_cons_of_mem _ h)
  have hown : s.vm.findClass R_Mo = some m.cls := findClass_of_methodNamed B0.named
  have hlocks := B0.notSynchronized
  have hl := lv_entry ([.ref (ad 0), .int (nI f), .int y]) (n := 4) (Nat.le_of_ble_eq_true rfl)
  rw [lg_entry_eq]
  generalize (lg_sl ([.ref (ad 0), .int (nI f), .int y]) ++ List.replicate (4 - (lg_sl ([.ref (ad 0), .int (nI f), .int y])).length) Slot.unset).toArray = ls at hl ⊢
  have hl : lv_has ls 4 [(0, .ref (ad 0)), (1, .int (nI f)), (2, .int y)] := hl
  refine lv_iload_n hx hb d_Mo_rest_0 rfl (lv_at hl 2 rfl) ?_
  refine lv_aload_n hx hb d_Mo_rest_1 rfl (lv_at hl 0 rfl) ?_
  refine va_get (D := D) (ci := 6) (v := .ref (ad 7)) (C := R_Mo) (T := T_Mo) (N := 11) hx hb hts u_Mo hown hK hP 0 rfl rfl 7 (by decide) (hts _ w_846) (fun _ h9 => h9) rfl d_Mo_rest_2 ?_
  refine lv_iload_n hx hb d_Mo_rest_5 rfl (lv_at hl 1 rfl) ?_
  refine ln_zald hx hb hK hP 7 1 rfl rfl (by omega) (by decide) d_Mo_rest_6 ?_
  refine lv_icmp_ne (tgt := 11) hx hb d_Mo_rest_7 (by decide) (fun c_1 => ?_) (fun c_1 => ?_)
  · skip
    refine lv_aload_n hx hb d_Mo_rest_11 rfl (lv_at hl 0 rfl) ?_
    refine va_get (D := D) (ci := 6) (v := .ref (ad 7)) (C := R_Mo) (T := T_Mo) (N := 11) hx hb hts u_Mo hown hK hP 0 rfl rfl 7 (by decide) (hts _ w_846) (fun _ h9 => h9) rfl d_Mo_rest_12 ?_
    refine lv_iload_n hx hb d_Mo_rest_15 rfl (lv_at hl 1 rfl) ?_
    refine lv_iload_n hx hb d_Mo_rest_16 rfl (lv_at hl 2 rfl) ?_
    refine ln_zast hx hb hK hP hD hS 7 1 rfl rfl (by omega) (by decide) d_Mo_rest_17 (fun H locs hP hD hS => ?_)
    have hP : va_P D vwC (wsM ct ad cd dk tk kd lc sz bh (upd wt f (vp_nar .boolean y)) bl tg fs) H := hP
    have hD : va_D A (wsM ct ad cd dk tk kd lc sz bh (upd wt f (vp_nar .boolean y)) bl tg fs) := hD
    refine lv_iload_n hx hb d_Mo_rest_18 rfl (lv_at hl 2 rfl) ?_
    refine lv_if_eq (tgt := 38) hx hb d_Mo_rest_19 (by decide) (fun c_2 => ?_) (fun c_2 => ?_)
    · skip
      refine lv_aload_n hx hb d_Mo_rest_38 rfl (lv_at hl 0 rfl) ?_
      refine va_get (D := D) (ci := 6) (v := .int fs) (C := R_Mo) (T := T_Mo) (N := 11) hx hb hts u_Mo hown hK hP 0 rfl rfl 10 (by decide) (hts _ w_849) (fun _ h9 => h9) rfl d_Mo_rest_39 ?_
      refine lv_iload_n hx hb d_Mo_rest_42 rfl (lv_at hl 1 rfl) ?_
      refine lv_icmp_ne (tgt := 56) hx hb d_Mo_rest_43 (by decide) (fun c_3 => ?_) (fun c_3 => ?_)
      · skip
        refine lv_iconst (v := nI 1) hx hb d_Mo_rest_56 (by decide) ?_
        refine lv_istore_n (lv' := [(3, .int (nI 1)), (0, .ref (ad 0)), (1, .int (nI f)), (2, .int y)]) hx hb d_Mo_rest_57 rfl hl (by decide) rfl (fun ls hl => ?_)
        have loop58 : ∀ (n9 : Nat) (g : Nat) (b : Nat → Int32), 13 - g < n9 → 1 ≤ g → g ≤ 13 → rlp (upd wt f (vp_nar .boolean y)) f 12 1 bh = rlp (upd wt f (vp_nar .boolean y)) f (13 - g) g b → ∀ (H : Heap) (locs : List Loc), va_P D vwC (wsM ct ad cd dk tk kd lc sz b (upd wt f (vp_nar .boolean y)) bl tg fs) H → va_D A (wsM ct ad cd dk tk kd lc sz b (upd wt f (vp_nar .boolean y)) bl tg fs) → va_S A s.heap H locs → ∀ ls : Array Slot, lv_has ls 4 [(0, .ref (ad 0)), (1, .int (nI f)), (2, .int y), (3, .int (nI g))] → W p l e (headSpec (Cond.code y_Mo_rest c_Mo_rest 4 none :: wA) (rmk 1 0 0)).room s m ([.ref (ad 0), .int (nI f), .int y] : List Value).toArray below meth c H locs 0 0 (MQ below (wQ none A D (wsM ct ad cd dk tk kd lc sz ((mrst (bh, wt, fs) f y).1) ((mrst (bh, wt, fs) f y).2.1) bl tg ((mrst (bh, wt, fs) f y).2.2))) ([.ref (ad 0), .int (nI f), .int y] : List Value).toArray s 0 0 A) (F0 m 58 ls []) := by
          intro n9
          induction n9 with
          | zero => intro g b h8 h9 h11 h10 H locs hP hD hS ls hl; exact absurd h8 (by omega)
          | succ n9 ih =>
            intro g b h8 h9 h11 h10 H locs hP hD hS ls hl
            refine lv_iload_n hx hb d_Mo_rest_58 rfl (lv_at hl 3 rfl) ?_
            refine lv_bipush (v := nI 12) hx hb d_Mo_rest_59 (by decide) ?_
            refine ln_icmp_gt (tgt := 110) hx hb (by omega) (by omega) d_Mo_rest_61 (by decide) (fun c_4 => ?_) (fun c_4 => ?_)
            · skip
              refine lv_aload_n hx hb d_Mo_rest_110 rfl (lv_at hl 0 rfl) ?_
              refine va_get (D := D) (ci := 6) (v := .ref (ad 6)) (C := R_Mo) (T := T_Mo) (N := 11) hx hb hts u_Mo hown hK hP 0 rfl rfl 6 (by decide) (hts _ w_845) (fun _ h9 => h9) rfl d_Mo_rest_111 ?_
              refine lv_iload_n hx hb d_Mo_rest_114 rfl (lv_at hl 1 rfl) ?_
              refine lv_iconst (v := nI 0) hx hb d_Mo_rest_115 (by decide) ?_
              refine ln_iast hx hb hK hP hD hS 6 2 rfl rfl (by omega) (by decide) d_Mo_rest_116 (fun H locs hP hD hS => ?_)
              have hP : va_P D vwC (wsM ct ad cd dk tk kd lc sz (upd b f (nI 0)) (upd wt f (vp_nar .boolean y)) bl tg fs) H := hP
              have hD : va_D A (wsM ct ad cd dk tk kd lc sz (upd b f (nI 0)) (upd wt f (vp_nar .boolean y)) bl tg fs) := hD
              have e9 : wsM ct ad cd dk tk kd lc sz (upd b f (nI 0)) (upd wt f (vp_nar .boolean y)) bl tg fs = wsM ct ad cd dk tk kd lc sz ((mrst (bh, wt, fs) f y).1) ((mrst (bh, wt, fs) f y).2.1) bl tg ((mrst (bh, wt, fs) f y).2.2) := (by unfold mrst; dsimp only; first | (rw [if_pos (by assumption)]; done) | (rw [if_neg (by assumption), if_neg (by assumption)]; done) | (rw [if_neg (by assumption), if_pos (by assumption), h10, show 13 - g = 0 by omega]; first | (rw [if_pos (by assumption)]; rfl) | (rw [if_neg (by assumption)]; rfl)))
              rw [e9] at hP hD
              exact W.vret hx hb hr (fun t9 ht hW => ⟨rfl, by rw [ht]; exact hP, hD, hS.F ht⟩) hS.2.2 d_Mo_rest_117
            · skip
              refine lv_aload_n hx hb d_Mo_rest_64 rfl (lv_at hl 0 rfl) ?_
              refine va_get (D := D) (ci := 6) (v := .ref (ad 6)) (C := R_Mo) (T := T_Mo) (N := 11) hx hb hts u_Mo hown hK hP 0 rfl rfl 6 (by decide) (hts _ w_845) (fun _ h9 => h9) rfl d_Mo_rest_65 ?_
              refine lv_iload_n hx hb d_Mo_rest_68 rfl (lv_at hl 3 rfl) ?_
              refine lv_aload_n hx hb d_Mo_rest_69 rfl (lv_at hl 0 rfl) ?_
              refine va_get (D := D) (ci := 6) (v := .ref (ad 7)) (C := R_Mo) (T := T_Mo) (N := 11) hx hb hts u_Mo hown hK hP 0 rfl rfl 7 (by decide) (hts _ w_846) (fun _ h9 => h9) rfl d_Mo_rest_70 ?_
              refine lv_iload_n hx hb d_Mo_rest_73 rfl (lv_at hl 3 rfl) ?_
              refine ln_zald hx hb hK hP 7 1 rfl rfl (by omega) (by decide) d_Mo_rest_74 ?_
              refine lv_if_eq (tgt := 97) hx hb d_Mo_rest_75 (by decide) (fun c_5 => ?_) (fun c_5 => ?_)
              · skip
                refine lv_aload_n hx hb d_Mo_rest_97 rfl (lv_at hl 0 rfl) ?_
                refine va_get (D := D) (ci := 6) (v := .ref (ad 6)) (C := R_Mo) (T := T_Mo) (N := 11) hx hb hts u_Mo hown hK hP 0 rfl rfl 6 (by decide) (hts _ w_845) (fun _ h9 => h9) rfl d_Mo_rest_98 ?_
                refine lv_iload_n hx hb d_Mo_rest_101 rfl (lv_at hl 3 rfl) ?_
                refine ln_iald hx hb hK hP 6 2 rfl rfl (by omega) (by decide) d_Mo_rest_102 ?_
                refine ln_iast hx hb hK hP hD hS 6 2 rfl rfl (by omega) (by decide) d_Mo_rest_103 (fun H locs hP hD hS => ?_)
                have hP : va_P D vwC (wsM ct ad cd dk tk kd lc sz (upd b g (b g)) (upd wt f (vp_nar .boolean y)) bl tg fs) H := hP
                have hD : va_D A (wsM ct ad cd dk tk kd lc sz (upd b g (b g)) (upd wt f (vp_nar .boolean y)) bl tg fs) := hD
                refine lv_iinc (v := nI (g + 1)) (lv' := [(3, .int (nI (g + 1))), (0, .ref (ad 0)), (1, .int (nI f)), (2, .int y)]) hx hb d_Mo_rest_104 hl (k := 3) rfl (ln_inc (by decide)) (by decide) rfl (fun ls hl => ?_)
                refine lv_goto (tgt := 58) hx hb d_Mo_rest_107 (by decide) ?_
                exact ih (g + 1) (upd b g (b g)) (by omega) (by omega) (by omega) (by rw [h10, show 13 - g = 13 - (g + 1) + 1 by omega, rlp]; first | (rw [if_pos (by assumption)]; done) | (rw [if_neg (by assumption), if_pos (by assumption)]; done) | (rw [if_neg (by assumption), if_neg (by assumption)]; done)) _ _ hP hD hS ls (lv_sub hl [1, 2, 3, 0] rfl)
              · skip
                refine lv_aload_n hx hb d_Mo_rest_78 rfl (lv_at hl 0 rfl) ?_
                refine va_get (D := D) (ci := 6) (v := .ref (ad 6)) (C := R_Mo) (T := T_Mo) (N := 11) hx hb hts u_Mo hown hK hP 0 rfl rfl 6 (by decide) (hts _ w_845) (fun _ h9 => h9) rfl d_Mo_rest_79 ?_
                refine lv_iload_n hx hb d_Mo_rest_82 rfl (lv_at hl 3 rfl) ?_
                refine ln_iald hx hb hK hP 6 2 rfl rfl (by omega) (by decide) d_Mo_rest_83 ?_
                refine lv_iload_n hx hb d_Mo_rest_84 rfl (lv_at hl 1 rfl) ?_
                refine lv_icmp_ne (tgt := 97) hx hb d_Mo_rest_85 (by decide) (fun c_6 => ?_) (fun c_6 => ?_)
                · skip
                  refine lv_aload_n hx hb d_Mo_rest_97 rfl (lv_at hl 0 rfl) ?_
                  refine va_get (D := D) (ci := 6) (v := .ref (ad 6)) (C := R_Mo) (T := T_Mo) (N := 11) hx hb hts u_Mo hown hK hP 0 rfl rfl 6 (by decide) (hts _ w_845) (fun _ h9 => h9) rfl d_Mo_rest_98 ?_
                  refine lv_iload_n hx hb d_Mo_rest_101 rfl (lv_at hl 3 rfl) ?_
                  refine ln_iald hx hb hK hP 6 2 rfl rfl (by omega) (by decide) d_Mo_rest_102 ?_
                  refine ln_iast hx hb hK hP hD hS 6 2 rfl rfl (by omega) (by decide) d_Mo_rest_103 (fun H locs hP hD hS => ?_)
                  have hP : va_P D vwC (wsM ct ad cd dk tk kd lc sz (upd b g (b g)) (upd wt f (vp_nar .boolean y)) bl tg fs) H := hP
                  have hD : va_D A (wsM ct ad cd dk tk kd lc sz (upd b g (b g)) (upd wt f (vp_nar .boolean y)) bl tg fs) := hD
                  refine lv_iinc (v := nI (g + 1)) (lv' := [(3, .int (nI (g + 1))), (0, .ref (ad 0)), (1, .int (nI f)), (2, .int y)]) hx hb d_Mo_rest_104 hl (k := 3) rfl (ln_inc (by decide)) (by decide) rfl (fun ls hl => ?_)
                  refine lv_goto (tgt := 58) hx hb d_Mo_rest_107 (by decide) ?_
                  exact ih (g + 1) (upd b g (b g)) (by omega) (by omega) (by omega) (by rw [h10, show 13 - g = 13 - (g + 1) + 1 by omega, rlp]; first | (rw [if_pos (by assumption)]; done) | (rw [if_neg (by assumption), if_pos (by assumption)]; done) | (rw [if_neg (by assumption), if_neg (by assumption)]; done)) _ _ hP hD hS ls (lv_sub hl [1, 2, 3, 0] rfl)
                · skip
                  refine lv_aload_n hx hb d_Mo_rest_88 rfl (lv_at hl 0 rfl) ?_
                  refine va_get (D := D) (ci := 6) (v := .ref (ad 6)) (C := R_Mo) (T := T_Mo) (N := 11) hx hb hts u_Mo hown hK hP 0 rfl rfl 6 (by decide) (hts _ w_845) (fun _ h9 => h9) rfl d_Mo_rest_89 ?_
                  refine lv_iload_n hx hb d_Mo_rest_92 rfl (lv_at hl 1 rfl) ?_
                  refine ln_iald hx hb hK hP 6 2 rfl rfl (by omega) (by decide) d_Mo_rest_93 ?_
                  refine lv_goto (tgt := 103) hx hb d_Mo_rest_94 (by decide) ?_
                  refine ln_iast hx hb hK hP hD hS 6 2 rfl rfl (by omega) (by decide) d_Mo_rest_103 (fun H locs hP hD hS => ?_)
                  have hP : va_P D vwC (wsM ct ad cd dk tk kd lc sz (upd b g (b f)) (upd wt f (vp_nar .boolean y)) bl tg fs) H := hP
                  have hD : va_D A (wsM ct ad cd dk tk kd lc sz (upd b g (b f)) (upd wt f (vp_nar .boolean y)) bl tg fs) := hD
                  refine lv_iinc (v := nI (g + 1)) (lv' := [(3, .int (nI (g + 1))), (0, .ref (ad 0)), (1, .int (nI f)), (2, .int y)]) hx hb d_Mo_rest_104 hl (k := 3) rfl (ln_inc (by decide)) (by decide) rfl (fun ls hl => ?_)
                  refine lv_goto (tgt := 58) hx hb d_Mo_rest_107 (by decide) ?_
                  exact ih (g + 1) (upd b g (b f)) (by omega) (by omega) (by omega) (by rw [h10, show 13 - g = 13 - (g + 1) + 1 by omega, rlp]; first | (rw [if_pos (by assumption)]; done) | (rw [if_neg (by assumption), if_pos (by assumption)]; done) | (rw [if_neg (by assumption), if_neg (by assumption)]; done)) _ _ hP hD hS ls (lv_sub hl [1, 2, 3, 0] rfl)
        exact loop58 14 1 bh (by omega) (by omega) (by omega) rfl _ _ hP hD hS ls (lv_sub hl [1, 2, 3, 0] rfl)
      · skip
        refine lv_aload_n hx hb d_Mo_rest_46 rfl (lv_at hl 0 rfl) ?_
        refine lv_aload_n hx hb d_Mo_rest_47 rfl (lv_at hl 0 rfl) ?_
        refine va_get (D := D) (ci := 6) (v := .ref (ad 6)) (C := R_Mo) (T := T_Mo) (N := 11) hx hb hts u_Mo hown hK hP 0 rfl rfl 6 (by decide) (hts _ w_845) (fun _ h9 => h9) rfl d_Mo_rest_48 ?_
        refine lv_iload_n hx hb d_Mo_rest_51 rfl (lv_at hl 1 rfl) ?_
        refine ln_iald hx hb hK hP 6 2 rfl rfl (by omega) (by decide) d_Mo_rest_52 ?_
        refine va_put (D := D) (ci := 6) (v := .int (bh f)) (ty := .int) (C := R_Mo) (T := T_Mo) (N := 11) hx hb hts u_Mo t_Mo t_Mo_ok n_Mo hown hK hP hD hS 0 rfl rfl 10 (by decide) (hts _ w_849) (fun _ h9 => h9) rfl (by decide +kernel) rfl rfl (Nat.le_of_ble_eq_true rfl) d_Mo_rest_53 (fun H locs hP hD hS => ?_)
        have hP : va_P D vwC (wsM ct ad cd dk tk kd lc sz bh (upd wt f (vp_nar .boolean y)) bl tg (bh f)) H := hP
        have hD : va_D A (wsM ct ad cd dk tk kd lc sz bh (upd wt f (vp_nar .boolean y)) bl tg (bh f)) := hD
        refine lv_iconst (v := nI 1) hx hb d_Mo_rest_56 (by decide) ?_
        refine lv_istore_n (lv' := [(3, .int (nI 1)), (0, .ref (ad 0)), (1, .int (nI f)), (2, .int y)]) hx hb d_Mo_rest_57 rfl hl (by decide) rfl (fun ls hl => ?_)
        have loop58 : ∀ (n9 : Nat) (g : Nat) (b : Nat → Int32), 13 - g < n9 → 1 ≤ g → g ≤ 13 → rlp (upd wt f (vp_nar .boolean y)) f 12 1 bh = rlp (upd wt f (vp_nar .boolean y)) f (13 - g) g b → ∀ (H : Heap) (locs : List Loc), va_P D vwC (wsM ct ad cd dk tk kd lc sz b (upd wt f (vp_nar .boolean y)) bl tg (bh f)) H → va_D A (wsM ct ad cd dk tk kd lc sz b (upd wt f (vp_nar .boolean y)) bl tg (bh f)) → va_S A s.heap H locs → ∀ ls : Array Slot, lv_has ls 4 [(0, .ref (ad 0)), (1, .int (nI f)), (2, .int y), (3, .int (nI g))] → W p l e (headSpec (Cond.code y_Mo_rest c_Mo_rest 4 none :: wA) (rmk 1 0 0)).room s m ([.ref (ad 0), .int (nI f), .int y] : List Value).toArray below meth c H locs 0 0 (MQ below (wQ none A D (wsM ct ad cd dk tk kd lc sz ((mrst (bh, wt, fs) f y).1) ((mrst (bh, wt, fs) f y).2.1) bl tg ((mrst (bh, wt, fs) f y).2.2))) ([.ref (ad 0), .int (nI f), .int y] : List Value).toArray s 0 0 A) (F0 m 58 ls []) := by
          intro n9
          induction n9 with
          | zero => intro g b h8 h9 h11 h10 H locs hP hD hS ls hl; exact absurd h8 (by omega)
          | succ n9 ih =>
            intro g b h8 h9 h11 h10 H locs hP hD hS ls hl
            refine lv_iload_n hx hb d_Mo_rest_58 rfl (lv_at hl 3 rfl) ?_
            refine lv_bipush (v := nI 12) hx hb d_Mo_rest_59 (by decide) ?_
            refine ln_icmp_gt (tgt := 110) hx hb (by omega) (by omega) d_Mo_rest_61 (by decide) (fun c_7 => ?_) (fun c_7 => ?_)
            · skip
              refine lv_aload_n hx hb d_Mo_rest_110 rfl (lv_at hl 0 rfl) ?_
              refine va_get (D := D) (ci := 6) (v := .ref (ad 6)) (C := R_Mo) (T := T_Mo) (N := 11) hx hb hts u_Mo hown hK hP 0 rfl rfl 6 (by decide) (hts _ w_845) (fun _ h9 => h9) rfl d_Mo_rest_111 ?_
              refine lv_iload_n hx hb d_Mo_rest_114 rfl (lv_at hl 1 rfl) ?_
              refine lv_iconst (v := nI 0) hx hb d_Mo_rest_115 (by decide) ?_
              refine ln_iast hx hb hK hP hD hS 6 2 rfl rfl (by omega) (by decide) d_Mo_rest_116 (fun H locs hP hD hS => ?_)
              have hP : va_P D vwC (wsM ct ad cd dk tk kd lc sz (upd b f (nI 0)) (upd wt f (vp_nar .boolean y)) bl tg (bh f)) H := hP
              have hD : va_D A (wsM ct ad cd dk tk kd lc sz (upd b f (nI 0)) (upd wt f (vp_nar .boolean y)) bl tg (bh f)) := hD
              have e9 : wsM ct ad cd dk tk kd lc sz (upd b f (nI 0)) (upd wt f (vp_nar .boolean y)) bl tg (bh f) = wsM ct ad cd dk tk kd lc sz ((mrst (bh, wt, fs) f y).1) ((mrst (bh, wt, fs) f y).2.1) bl tg ((mrst (bh, wt, fs) f y).2.2) := (by unfold mrst; dsimp only; first | (rw [if_pos (by assumption)]; done) | (rw [if_neg (by assumption), if_neg (by assumption)]; done) | (rw [if_neg (by assumption), if_pos (by assumption), h10, show 13 - g = 0 by omega]; first | (rw [if_pos (by assumption)]; rfl) | (rw [if_neg (by assumption)]; rfl)))
              rw [e9] at hP hD
              exact W.vret hx hb hr (fun t9 ht hW => ⟨rfl, by rw [ht]; exact hP, hD, hS.F ht⟩) hS.2.2 d_Mo_rest_117
            · skip
              refine lv_aload_n hx hb d_Mo_rest_64 rfl (lv_at hl 0 rfl) ?_
              refine va_get (D := D) (ci := 6) (v := .ref (ad 6)) (C := R_Mo) (T := T_Mo) (N := 11) hx hb hts u_Mo hown hK hP 0 rfl rfl 6 (by decide) (hts _ w_845) (fun _ h9 => h9) rfl d_Mo_rest_65 ?_
              refine lv_iload_n hx hb d_Mo_rest_68 rfl (lv_at hl 3 rfl) ?_
              refine lv_aload_n hx hb d_Mo_rest_69 rfl (lv_at hl 0 rfl) ?_
              refine va_get (D := D) (ci := 6) (v := .ref (ad 7)) (C := R_Mo) (T := T_Mo) (N := 11) hx hb hts u_Mo hown hK hP 0 rfl rfl 7 (by decide) (hts _ w_846) (fun _ h9 => h9) rfl d_Mo_rest_70 ?_
              refine lv_iload_n hx hb d_Mo_rest_73 rfl (lv_at hl 3 rfl) ?_
              refine ln_zald hx hb hK hP 7 1 rfl rfl (by omega) (by decide) d_Mo_rest_74 ?_
              refine lv_if_eq (tgt := 97) hx hb d_Mo_rest_75 (by decide) (fun c_8 => ?_) (fun c_8 => ?_)
              · skip
                refine lv_aload_n hx hb d_Mo_rest_97 rfl (lv_at hl 0 rfl) ?_
                refine va_get (D := D) (ci := 6) (v := .ref (ad 6)) (C := R_Mo) (T := T_Mo) (N := 11) hx hb hts u_Mo hown hK hP 0 rfl rfl 6 (by decide) (hts _ w_845) (fun _ h9 => h9) rfl d_Mo_rest_98 ?_
                refine lv_iload_n hx hb d_Mo_rest_101 rfl (lv_at hl 3 rfl) ?_
                refine ln_iald hx hb hK hP 6 2 rfl rfl (by omega) (by decide) d_Mo_rest_102 ?_
                refine ln_iast hx hb hK hP hD hS 6 2 rfl rfl (by omega) (by decide) d_Mo_rest_103 (fun H locs hP hD hS => ?_)
                have hP : va_P D vwC (wsM ct ad cd dk tk kd lc sz (upd b g (b g)) (upd wt f (vp_nar .boolean y)) bl tg (bh f)) H := hP
                have hD : va_D A (wsM ct ad cd dk tk kd lc sz (upd b g (b g)) (upd wt f (vp_nar .boolean y)) bl tg (bh f)) := hD
                refine lv_iinc (v := nI (g + 1)) (lv' := [(3, .int (nI (g + 1))), (0, .ref (ad 0)), (1, .int (nI f)), (2, .int y)]) hx hb d_Mo_rest_104 hl (k := 3) rfl (ln_inc (by decide)) (by decide) rfl (fun ls hl => ?_)
                refine lv_goto (tgt := 58) hx hb d_Mo_rest_107 (by decide) ?_
                exact ih (g + 1) (upd b g (b g)) (by omega) (by omega) (by omega) (by rw [h10, show 13 - g = 13 - (g + 1) + 1 by omega, rlp]; first | (rw [if_pos (by assumption)]; done) | (rw [if_neg (by assumption), if_pos (by assumption)]; done) | (rw [if_neg (by assumption), if_neg (by assumption)]; done)) _ _ hP hD hS ls (lv_sub hl [1, 2, 3, 0] rfl)
              · skip
                refine lv_aload_n hx hb d_Mo_rest_78 rfl (lv_at hl 0 rfl) ?_
                refine va_get (D := D) (ci := 6) (v := .ref (ad 6)) (C := R_Mo) (T := T_Mo) (N := 11) hx hb hts u_Mo hown hK hP 0 rfl rfl 6 (by decide) (hts _ w_845) (fun _ h9 => h9) rfl d_Mo_rest_79 ?_
                refine lv_iload_n hx hb d_Mo_rest_82 rfl (lv_at hl 3 rfl) ?_
                refine ln_iald hx hb hK hP 6 2 rfl rfl (by omega) (by decide) d_Mo_rest_83 ?_
                refine lv_iload_n hx hb d_Mo_rest_84 rfl (lv_at hl 1 rfl) ?_
                refine lv_icmp_ne (tgt := 97) hx hb d_Mo_rest_85 (by decide) (fun c_9 => ?_) (fun c_9 => ?_)
                · skip
                  refine lv_aload_n hx hb d_Mo_rest_97 rfl (lv_at hl 0 rfl) ?_
                  refine va_get (D := D) (ci := 6) (v := .ref (ad 6)) (C := R_Mo) (T := T_Mo) (N := 11) hx hb hts u_Mo hown hK hP 0 rfl rfl 6 (by decide) (hts _ w_845) (fun _ h9 => h9) rfl d_Mo_rest_98 ?_
                  refine lv_iload_n hx hb d_Mo_rest_101 rfl (lv_at hl 3 rfl) ?_
                  refine ln_iald hx hb hK hP 6 2 rfl rfl (by omega) (by decide) d_Mo_rest_102 ?_
                  refine ln_iast hx hb hK hP hD hS 6 2 rfl rfl (by omega) (by decide) d_Mo_rest_103 (fun H locs hP hD hS => ?_)
                  have hP : va_P D vwC (wsM ct ad cd dk tk kd lc sz (upd b g (b g)) (upd wt f (vp_nar .boolean y)) bl tg (bh f)) H := hP
                  have hD : va_D A (wsM ct ad cd dk tk kd lc sz (upd b g (b g)) (upd wt f (vp_nar .boolean y)) bl tg (bh f)) := hD
                  refine lv_iinc (v := nI (g + 1)) (lv' := [(3, .int (nI (g + 1))), (0, .ref (ad 0)), (1, .int (nI f)), (2, .int y)]) hx hb d_Mo_rest_104 hl (k := 3) rfl (ln_inc (by decide)) (by decide) rfl (fun ls hl => ?_)
                  refine lv_goto (tgt := 58) hx hb d_Mo_rest_107 (by decide) ?_
                  exact ih (g + 1) (upd b g (b g)) (by omega) (by omega) (by omega) (by rw [h10, show 13 - g = 13 - (g + 1) + 1 by omega, rlp]; first | (rw [if_pos (by assumption)]; done) | (rw [if_neg (by assumption), if_pos (by assumption)]; done) | (rw [if_neg (by assumption), if_neg (by assumption)]; done)) _ _ hP hD hS ls (lv_sub hl [1, 2, 3, 0] rfl)
                · skip
                  refine lv_aload_n hx hb d_Mo_rest_88 rfl (lv_at hl 0 rfl) ?_
                  refine va_get (D := D) (ci := 6) (v := .ref (ad 6)) (C := R_Mo) (T := T_Mo) (N := 11) hx hb hts u_Mo hown hK hP 0 rfl rfl 6 (by decide) (hts _ w_845) (fun _ h9 => h9) rfl d_Mo_rest_89 ?_
                  refine lv_iload_n hx hb d_Mo_rest_92 rfl (lv_at hl 1 rfl) ?_
                  refine ln_iald hx hb hK hP 6 2 rfl rfl (by omega) (by decide) d_Mo_rest_93 ?_
                  refine lv_goto (tgt := 103) hx hb d_Mo_rest_94 (by decide) ?_
                  refine ln_iast hx hb hK hP hD hS 6 2 rfl rfl (by omega) (by decide) d_Mo_rest_103 (fun H locs hP hD hS => ?_)
                  have hP : va_P D vwC (wsM ct ad cd dk tk kd lc sz (upd b g (b f)) (upd wt f (vp_nar .boolean y)) bl tg (bh f)) H := hP
                  have hD : va_D A (wsM ct ad cd dk tk kd lc sz (upd b g (b f)) (upd wt f (vp_nar .boolean y)) bl tg (bh f)) := hD
                  refine lv_iinc (v := nI (g + 1)) (lv' := [(3, .int (nI (g + 1))), (0, .ref (ad 0)), (1, .int (nI f)), (2, .int y)]) hx hb d_Mo_rest_104 hl (k := 3) rfl (ln_inc (by decide)) (by decide) rfl (fun ls hl => ?_)
                  refine lv_goto (tgt := 58) hx hb d_Mo_rest_107 (by decide) ?_
                  exact ih (g + 1) (upd b g (b f)) (by omega) (by omega) (by omega) (by rw [h10, show 13 - g = 13 - (g + 1) + 1 by omega, rlp]; first | (rw [if_pos (by assumption)]; done) | (rw [if_neg (by assumption), if_pos (by assumption)]; done) | (rw [if_neg (by assumption), if_neg (by assumption)]; done)) _ _ hP hD hS ls (lv_sub hl [1, 2, 3, 0] rfl)
        exact loop58 14 1 bh (by omega) (by omega) (by omega) rfl _ _ hP hD hS ls (lv_sub hl [1, 2, 3, 0] rfl)
    · skip
      refine lv_aload_n hx hb d_Mo_rest_22 rfl (lv_at hl 0 rfl) ?_
      refine va_get (D := D) (ci := 6) (v := .ref (ad 6)) (C := R_Mo) (T := T_Mo) (N := 11) hx hb hts u_Mo hown hK hP 0 rfl rfl 6 (by decide) (hts _ w_845) (fun _ h9 => h9) rfl d_Mo_rest_23 ?_
      refine lv_iload_n hx hb d_Mo_rest_26 rfl (lv_at hl 1 rfl) ?_
      refine lv_aload_n hx hb d_Mo_rest_27 rfl (lv_at hl 0 rfl) ?_
      refine va_get (D := D) (ci := 6) (v := .int fs) (C := R_Mo) (T := T_Mo) (N := 11) hx hb hts u_Mo hown hK hP 0 rfl rfl 10 (by decide) (hts _ w_849) (fun _ h9 => h9) rfl d_Mo_rest_28 ?_
      refine ln_iast hx hb hK hP hD hS 6 2 rfl rfl (by omega) (by decide) d_Mo_rest_31 (fun H locs hP hD hS => ?_)
      have hP : va_P D vwC (wsM ct ad cd dk tk kd lc sz (upd bh f fs) (upd wt f (vp_nar .boolean y)) bl tg fs) H := hP
      have hD : va_D A (wsM ct ad cd dk tk kd lc sz (upd bh f fs) (upd wt f (vp_nar .boolean y)) bl tg fs) := hD
      refine lv_aload_n hx hb d_Mo_rest_32 rfl (lv_at hl 0 rfl) ?_
      refine lv_iload_n hx hb d_Mo_rest_33 rfl (lv_at hl 1 rfl) ?_
      refine va_put (D := D) (ci := 6) (v := .int (nI f)) (ty := .int) (C := R_Mo) (T := T_Mo) (N := 11) hx hb hts u_Mo t_Mo t_Mo_ok n_Mo hown hK hP hD hS 0 rfl rfl 10 (by decide) (hts _ w_849) (fun _ h9 => h9) rfl (by decide +kernel) rfl rfl (Nat.le_of_ble_eq_true rfl) d_Mo_rest_34 (fun H locs hP hD hS => ?_)
      have hP : va_P D vwC (wsM ct ad cd dk tk kd lc sz (upd bh f fs) (upd wt f (vp_nar .boolean y)) bl tg (nI f)) H := hP
      have hD : va_D A (wsM ct ad cd dk tk kd lc sz (upd bh f fs) (upd wt f (vp_nar .boolean y)) bl tg (nI f)) := hD
      have e9 : wsM ct ad cd dk tk kd lc sz (upd bh f fs) (upd wt f (vp_nar .boolean y)) bl tg (nI f) = wsM ct ad cd dk tk kd lc sz ((mrst (bh, wt, fs) f y).1) ((mrst (bh, wt, fs) f y).2.1) bl tg ((mrst (bh, wt, fs) f y).2.2) := (by unfold mrst; dsimp only; first | (rw [if_pos (by assumption)]; done) | (rw [if_neg (by assumption), if_neg (by assumption)]; done) | (rw [if_neg (by assumption), if_pos (by assumption), h10, show 13 - g = 0 by omega]; first | (rw [if_pos (by assumption)]; rfl) | (rw [if_neg (by assumption)]; rfl)))
      rw [e9] at hP hD
      exact W.vret hx hb hr (fun t9 ht hW => ⟨rfl, by rw [ht]; exact hP, hD, hS.F ht⟩) hS.2.2 d_Mo_rest_37
  · skip
    have e9 : wsM ct ad cd dk tk kd lc sz bh wt bl tg fs = wsM ct ad cd dk tk kd lc sz ((mrst (bh, wt, fs) f y).1) ((mrst (bh, wt, fs) f y).2.1) bl tg ((mrst (bh, wt, fs) f y).2.2) := (by unfold mrst; dsimp only; first | (rw [if_pos (by assumption)]; done) | (rw [if_neg (by assumption), if_neg (by assumption)]; done) | (rw [if_neg (by assumption), if_pos (by assumption), h10, show 13 - g = 0 by omega]; first | (rw [if_pos (by assumption)]; rfl) | (rw [if_neg (by assumption)]; rfl)))
    rw [e9] at hP hD
    exact W.vret hx hb hr (fun t9 ht hW => ⟨rfl, by rw [ht]; exact hP, hD, hS.F ht⟩) hS.2.2 d_Mo_rest_10
