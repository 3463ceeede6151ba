/-! pure: link -/
theorem tm_neg {u : Int32} : (u - u / nI 255 * nI 255).toInt = u.toInt.tmod 255 := by
  have e : (nI 255).toInt = 255 := by decide
  have hd : (u / nI 255).toInt = u.toInt.tdiv 255 := by
    rw [Int32.toInt_div_of_ne_right _ _ (by decide), e]
  have h1 := z_lt u
  have h2 := z_ge u
  have h3 := Int.tmod_add_mul_tdiv u.toInt 255
  have h4 := Int.tmod_lt_of_pos u.toInt (show (0 : Int) < 255 by decide)
  have h5 := Int.lt_tmod_of_pos u.toInt (show (0 : Int) < 255 by decide)
  have h6 : 0 ≤ u.toInt → 0 ≤ u.toInt.tmod 255 := fun w => Int.tmod_nonneg 255 w
  have h7 : u.toInt ≤ 0 → u.toInt.tmod 255 ≤ 0 := fun w => by
    have := Int.tmod_nonneg 255 (show 0 ≤ - u.toInt by omega)
    rw [Int.neg_tmod] at this; omega
  have hm : (u / nI 255 * nI 255).toInt = u.toInt.tdiv 255 * 255 := by
    rw [Int32.toInt_mul, hd, e]
    apply Int.bmod_eq_of_le <;> omega
  exact (z_sub rfl hm (by omega) (by omega)).trans (by omega)
theorem tb_eq (x : Int32) (i : Nat) : bo_tb x i = mrb x i := by
  unfold bo_tb mrb ma_fm
  generalize x + nI i = u
  have hr := tm_neg (u := u)
  have hx : 0 ≤ u ^^^ nI 255 ↔ 0 ≤ u := by
    have key : ∀ v : BitVec 32, (v ^^^ 255#32).msb = v.msb := fun v => by
      rw [BitVec.msb_xor, show (255#32).msb = false by decide, Bool.xor_false]
    have k2 : ∀ v : Int32, 0 ≤ v ↔ v.toBitVec.msb = false := fun v => by
      rw [Int32.le_iff_toInt_le]
      show (0 : Int) ≤ v.toBitVec.toInt ↔ _
      rw [BitVec.msb_eq_toInt]
      simp
    rw [k2, k2, Int32.toBitVec_xor]
    rw [show (nI 255).toBitVec = 255#32 by decide, key]
  have h0 : ∀ v : Int32, 0 ≤ v ↔ 0 ≤ v.toInt := fun v => by rw [Int32.le_iff_toInt_le]; exact Iff.rfl
  generalize u - u / nI 255 * nI 255 = r at hr
  have hu := Int.tmod_add_mul_tdiv u.toInt 255
  by_cases e : 0 ≤ u
  · have e1 := (h0 u).mp e
    have := Int.tmod_nonneg 255 e1
    rw [if_pos (hx.mpr e), if_pos ((h0 r).mpr (by omega))]
  · have e1 : u.toInt < 0 := Int.not_le.mp (fun w => e ((h0 u).mpr w))
    rw [if_neg (fun w => e (hx.mp w))]
    by_cases e2 : r = 0
    · rw [if_pos e2, e2, if_pos (by decide)]
    · have : r.toInt ≠ 0 := fun w => e2 (Int32.toInt_inj.mp w)
      have h4 : u.toInt.tmod 255 ≤ 0 := by
        have := Int.tmod_nonneg 255 (show 0 ≤ - u.toInt by omega)
        rw [Int.neg_tmod] at this; omega
      rw [if_neg e2, if_neg (fun w => by have := (h0 r).mp w; omega)]
theorem b_and (y : Int32) : (vp_nar .byte (y.toInt8.toInt32)) &&& nI 255 = y &&& nI 255 := by
  rw [b_255, pk_and y (m := nI 255) 8 (by decide)]
section TG
variable {f : Nat} {x : Int32}
theorem tgB_f : ∀ (k i : Nat) (B : Nat → Int32), i + k ≤ 60 → ∀ g o n, o + n ≤ 256 → (g ≠ f ∨ o + n ≤ 40 ∨ 100 ≤ o) → re_f (tgB f x k i B) g o n = re_f B g o n
  | 0, _, _, _, _, _, _, _, _ => rfl
  | k + 1, i, B, hi, g, o, n, h1, h2 => by rw [tgB, tgB_f k (i + 1) _ (by omega) g o n h1 h2, rso (by omega) (by omega) h1]
theorem tgB_h {fs : Int32} : ∀ (k i : Nat) (B : Nat → Int32), hdr B fs → hdr (tgB f x k i B) fs
  | 0, _, _, h => h
  | k + 1, i, B, h => by rw [tgB]; exact tgB_h k (i + 1) _ (hdr_re h)
theorem tgB_b (h1 : 1 ≤ f) (h2 : f ≤ 12) : ∀ (k i : Nat) (B : Nat → Int32), i + k ≤ 60 → ∀ j, j < 60 → re_f (tgB f x k i B) f (40 + j) 1 = if i ≤ j ∧ j < i + k then bo_tb x j &&& nI 255 else re_f B f (40 + j) 1
  | 0, i, B, _, j, _ => by rw [tgB, if_neg (by omega)]
  | k + 1, i, B, hi, j, hj => by
    rw [tgB, tgB_b h1 h2 k (i + 1) _ (by omega) j hj]
    by_cases e : j = i
    · subst e
      rw [if_neg (by omega), if_pos (by omega), rs1 (by omega) h2]
    · rw [rso (by omega) (by omega) (by omega)]
      by_cases e2 : i + 1 ≤ j ∧ j < i + 1 + k
      · rw [if_pos e2, if_pos (by omega)]
      · rw [if_neg e2, if_neg (by omega)]
theorem mlkt_at : ∀ (k i : Nat) (d : Nat → Int32) (j : Nat), mlkt f x k i d j = if 60 * f + i ≤ j ∧ j < 60 * f + i + k then vp_nar .byte ((mrb x (j - 60 * f)).toInt8.toInt32) else d j
  | 0, i, d, j => by rw [mlkt, if_neg (by omega)]
  | k + 1, i, d, j => by
    rw [mlkt, mlkt_at k (i + 1)]
    by_cases e : j = 60 * f + i
    · rw [if_neg (by omega), if_pos (by omega), e, pk_us, Nat.add_sub_cancel_left]
    · rw [pk_un e]
      by_cases e2 : 60 * f + (i + 1) ≤ j ∧ j < 60 * f + (i + 1) + k
      · rw [if_pos e2, if_pos (by omega)]
      · rw [if_neg e2, if_neg (by omega)]
theorem tgx_ok {B tk : Nat → Int32} {fr : Int32} {S : mst} {n : Nat} (h1 : 1 ≤ f) (h2 : f ≤ 12) (hn : n ≤ 1000) (hs : (n : Int) ≤ (pj_sz S f).toInt) (hb : pj_bl S (15 * f) ≠ 0) : ∀ (k i : Nat) (X : Nat → Option (Nat → Int32)) (D : Nat → Int32), i + k ≤ n → rq B tk fr X (msdk S D) → rq B tk fr (tgX (re_blk B f ((0 : Nat) : Int)).toInt x k i X) (msdk S (mlkd (pj_bl S (15 * f)) x k i D))
  | 0, _, _, _, _, h => h
  | k + 1, i, X, D, hi, h => by
    rw [tgX, mlkd]
    refine tgx_ok h1 h2 hn hs hb k (i + 1) _ _ (by omega) ?_
    have hd : i / 1024 = 0 := by omega
    have hm : i % 1024 = i := by omega
    have := put_ok (x := bo_tb x i) (y := mrb x i) h h1 h2 (p := i) (by omega) (by rw [hd]; exact hb) (by omega) (by rw [tb_eq])
    unfold mset at this
    rw [hd, hm, Nat.add_zero] at this
    exact this
end TG
section LK
variable {B tk : Nat → Int32} {fr : Int32} {X : Nat → Option (Nat → Int32)} {S : mst} {ws : List Nat} {f n : Nat} {x : Int32}
theorem lk_ok (h : rw_ ws B tk fr X S) (h1 : 1 ≤ f) (h2 : f ≤ 12) (hf : mff (pj_kd S) 12 1 = f) (h0 : pj_kd S f = 0) (hn1 : 1 ≤ n) (hn : n ≤ 1000) (hfr : 59 < n → 0 < mf1 (pj_tk S) 128 0 0) : rw_ ws (tg_S (re_set (re_beg B f (nI 3) (nI 1)) f 4 4 (nI n), tk, fr, X) f n x).1 (tg_S (re_set (re_beg B f (nI 3) (nI 1)) f 4 4 (nI n), tk, fr, X) f n x).2.1 (tg_S (re_set (re_beg B f (nI 3) (nI 1)) f 4 4 (nI n), tk, fr, X) f n x).2.2.1 (tg_S (re_set (re_beg B f (nI 3) (nI 1)) f 4 4 (nI n), tk, fr, X) f n x).2.2.2 (mlkF S n x f) := by
  have g0 := beg_ok (k := nI 3) (n := 1) (rw_cod 0 h) h1 h2 hf h0 (Or.inr rfl) (by omega)
  rw [if_neg (by omega), if_neg (by omega)] at g0
  obtain ⟨g1, g2⟩ := rw_rq.mp g0
  have hr := g1.1 f h1 h2
  have e1 := (h.1 f h1 h2).2.2.2.2.2.2.2.2.2 h0
  have hme := mbeg_eq (rw_cod 0 h) (k := nI 3) (v := nI 1) h1 h2 hf h0
  have hkd : pj_kd (mbeg (mcod S 0) (nI 3) (nI 1)) f = nI 3 := by rw [hme]; exact pk_us
  have hsz : pj_sz (mbeg (mcod S 0) (nI 3) (nI 1)) f = nI 0 := by rw [hme]; exact e1.1
  have hbl : ∀ k, k < 15 → pj_bl (mbeg (mcod S 0) (nI 3) (nI 1)) (15 * f + k) = 0 := fun k hk => by rw [hme]; exact e1.2.2 k hk
  have htk : pj_tk (mbeg (mcod S 0) (nI 3) (nI 1)) = pj_tk S := by rw [hme]; rfl
  have hnear : near (pj_kd (mbeg (mcod S 0) (nI 3) (nI 1))) (pj_sz (mbeg (mcod S 0) (nI 3) (nI 1))) f := ⟨hkd, by rw [hsz]; decide⟩
  have hby : ∀ i, i < 60 → re_f (re_beg B f (nI 3) (nI 1)) f (40 + i) 1 = nI 0 := fun i hi => by
    rw [(hr.2.2.2.2.2.1 hnear).1 i hi, hsz, if_pos (nI_le (by omega) (by omega))]
  have hkn : re_kind (re_set (re_beg B f (nI 3) (nI 1)) f 4 4 (nI n)) f = nI 3 := by
    have := rc_kind hr
    unfold re_kind at this ⊢
    rw [rso (by omega) (by omega) (by omega), this, hkd]
  unfold tg_S mlkF mlk1
  dsimp only
  rw [rs4 (by omega) h2]
  generalize mbeg (mcod S 0) (nI 3) (nI 1) = S1 at g1 g2 hr hkd hsz hbl htk hnear ⊢
  generalize re_beg B f (nI 3) (nI 1) = B0 at g1 hr hby hkn ⊢
  by_cases e : 59 < n
  · rw [if_neg (fun w => w.2 (nI_lt e (by omega))), if_pos e]
    have hnn : ¬ near (pj_kd S1) (upd (pj_sz S1) f (nI n)) f := fun w => w.2 (by rw [pk_us]; exact nI_le (by omega) (by omega))
    have hni : (nI n).toInt = (n : Int) := nI_toInt (by omega)
    have s1 := sz_ok (v := nI n) g1 h1 h2 (by rw [hkd]; decide) hnn (fun k hk => by
      rw [hbl k hk]
      exact fld_z (fun i hi => by rw [Nat.add_assoc]; exact hby (4 * k + i) (by omega))) (by rw [hsz, hni]; show (0 : Int) ≤ _; omega) (by omega)
    have hf0 : 0 < mf1 (pj_tk (mssz S1 f (nI n))) 128 0 0 := by
      show 0 < mf1 (pj_tk S1) 128 0 0
      rw [htk]; exact hfr e
    have hb0 : pj_bl (mssz S1 f (nI n)) (15 * f + 0) = 0 := hbl 0 (by omega)
    have hk0 : pj_kd (mssz S1 f (nI n)) f ≠ 0 := by
      show pj_kd S1 f ≠ 0
      rw [hkd]; decide
    have hs2 : (n : Int) ≤ (pj_sz (mssz S1 f (nI n)) f).toInt := by
      show (n : Int) ≤ (upd (pj_sz S1) f (nI n) f).toInt
      rw [pk_us, hni]; omega
    have g3 : wtg (pj_kd (mssz S1 f (nI n))) (pj_lc (mssz S1 f (nI n))) (pj_bh (mssz S1 f (nI n))) (pj_wt (mssz S1 f (nI n))) (pj_fs (mssz S1 f (nI n))) ws := g2
    have hnn : ¬ near (pj_kd (mssz S1 f (nI n))) (pj_sz (mssz S1 f (nI n))) f := hnn
    generalize mssz S1 f (nI n) = S2 at s1 hf0 hb0 hk0 hs2 g3 hnn ⊢
    obtain ⟨t1, -⟩ := tb_ok (S := S2) (d := pj_dk S2) (t := pj_tk S2) (b := pj_bl S2) s1 h1 h2 (k := 0) (by omega) hk0 hnn hb0 hf0
    obtain ⟨-, u1, -, -⟩ := fnd_ok (S := S2) (d := pj_dk S2) (t := pj_tk S2) (b := pj_bl S2) s1 h1 h2 (k := 0) (by omega) hf0
    have hbn : (mtk (pj_dk S2, pj_tk S2, pj_bl S2) f 0).2.2 (15 * f) ≠ 0 := by
      show un (pj_bl S2) (15 * f + 0) (mtd (pj_tk S2) (pj_bl S2) f 0) (15 * f + 0) ≠ 0
      rw [un_s]; omega
    unfold mtkM
    generalize mtk (pj_dk S2, pj_tk S2, pj_bl S2) f 0 = T at t1 hbn ⊢
    generalize tbS (re_set B0 f 4 4 (nI n), tk, fr, X) f 0 = U at t1 ⊢
    exact rw_rq.mpr ⟨tgx_ok (S := (pj_cd S2, T.1, T.2.1, pj_kd S2, pj_lc S2, pj_sz S2, pj_bh S2, pj_wt S2, T.2.2, pj_tg S2, pj_fs S2)) h1 h2 hn hs2 hbn n 0 _ _ (by omega) t1, g3⟩
  · rw [if_pos ⟨hkn, fun w => e ((nI_ltI (by omega) (by omega)).mp w)⟩, if_neg e]
    have hni : (nI n).toInt = (n : Int) := nI_toInt (by omega)
    have hz0 : (pj_sz S1 f).toInt = 0 := by rw [hsz]; decide
    obtain ⟨c1, c2, c3, c4, c5, c6⟩ := g1
    refine rw_rq.mpr ⟨⟨fun g h3 h4 => ?_, tgB_h n 0 _ (hdr_re c2), fun g => ?_, c4, ⟨fun j j1 j2 j3 => ?_, c5.2⟩, c6⟩, g2⟩
    · by_cases eg : g = f
      · subst eg
        have hsu : upd (pj_sz S1) g (nI n) g = nI n := pk_us
        have hB : ∀ o n', o + n' ≤ 256 → (o + n' ≤ 40 ∨ 100 ≤ o) → (o + n' ≤ 4 ∨ 8 ≤ o) → re_f (tgB g x n 0 (re_set B0 g 4 4 (nI n))) g o n' = re_f B0 g o n' := fun o n' w1 w2 w3 => by
          rw [tgB_f n 0 _ (by omega) g o n' w1 (by omega), rso (by omega) (by omega) w1]
        obtain ⟨q1, q2, q3, q4, q5, q6, q7, q8, q9, q10⟩ := hr
        show rc (tgB g x n 0 (re_set B0 g 4 4 (nI n))) (pj_kd S1) (upd (pj_sz S1) g (nI n)) (pj_bh S1) (pj_lc S1) (pj_bl S1) (mlkt g x n 0 (pj_tg S1)) g
        unfold rc near
        rw [hsu, hB 0 2 (by omega) (by omega) (by omega), hB 20 4 (by omega) (by omega) (by omega), hB 26 2 (by omega) (by omega) (by omega), hB 28 4 (by omega) (by omega) (by omega)]
        refine ⟨q1, ?_, q3, q4, q5, fun w => ⟨fun i hi => ?_, hbl⟩, fun w => ?_, fun i hi => ?_, q9, fun w => ?_⟩
        · rw [tgB_f n 0 _ (by omega) g 4 4 (by omega) (by omega), rs4 (by omega) h2]
        · rw [tgB_b h1 h2 n 0 _ (by omega) i hi, rso (by omega) (by omega) (by omega), hby i hi, mlkt_at]
          by_cases ei : i < n
          · rw [if_pos (by omega), if_neg (nI_ge ei (by omega)), if_pos (by omega), Nat.add_sub_cancel_left, b_and, tb_eq]
          · rw [if_neg (by omega), if_pos (nI_le (by omega) (by omega))]
        · exact absurd ⟨hkd, fun w2 => e (by have := (nI_leI (by omega) (by omega)).mp w2; omega)⟩ w
        · rw [hB _ _ (by unfold gap at hi; omega) (by unfold gap at hi; omega) (by unfold gap at hi; omega)]; exact q8 i hi
        · rw [hkd] at w; exact absurd w (by decide)
      · refine rc_fr (c1 g h3 h4) (fun o n' w1 w2 => ?_) ?_ rfl (pk_un eg) rfl (fun _ _ => rfl) (fun i hi => ?_)
        · rw [tgB_f n 0 _ (by omega) g o n' w1 (Or.inl eg), rso (Or.inl eg) (by omega) w1]
        · rw [tgB_f n 0 _ (by omega) g 20 4 (by omega) (Or.inl eg), rso (Or.inl eg) (by omega) (by omega)]
          exact (c1 g h3 h4).2.2.1
        · show mlkt f x n 0 (pj_tg S1) (60 * g + i) = pj_tg S1 (60 * g + i)
          rw [mlkt_at, if_neg (by omega)]
    · show 0 ≤ (upd (pj_sz S1) f (nI n) g).toInt ∧ (upd (pj_sz S1) f (nI n) g).toInt ≤ 15360
      by_cases eg : g = f
      · rw [eg, pk_us]; omega
      · rw [pk_un eg]; exact c3 g
    · obtain ⟨w1, w2, c, w3, w4⟩ := c5.1 j j1 j2 j3
      refine ⟨w1, w2, c, w3, fun i hi => ⟨(w4 i hi).1, fun w => (w4 i hi).2 ?_⟩⟩
      have w : (upd (pj_sz S1) f (nI n) (j / 15)).toInt ≤ ((1024 * (j % 15) + i : Nat) : Int) := w
      by_cases ej : j / 15 = f
      · rw [ej]; omega
      · rwa [pk_un ej] at w
end LK
theorem p_link : PU_link rl := by
  rintro B tk fr X S x1 x2 ⟨ws, h⟩
  have hfr : fr = 0 ↔ mf1 (pj_tk S) 128 0 0 = 0 := by
    have hf : fr = nI (mf1 (pj_tk S) 128 0 0) := h.2.2.2.2.2.2.2.2
    have hl := mf1_le (tk := pj_tk S) 128 0 0
    rw [hf]
    generalize mf1 (pj_tk S) 128 0 0 = m at hl
    exact ⟨fun w => Decidable.byContradiction fun q => nI_ne0 (by omega) (by omega) w, fun w => by rw [w]; rfl⟩
  have ha := abs12 h
  have hc : mlk_c S x1.toInt = lk_c B fr x1.toInt := by
    unfold mlk_c lk_c
    rw [ha]
    by_cases e : x1.toInt < 1 ∨ 1000 < x1.toInt
    · rw [if_pos e, if_neg (by omega)]
    · rw [if_neg e, if_pos (by omega)]
      by_cases e2 : mff (pj_kd S) 12 1 = 0 ∨ (59 < x1.toInt ∧ mf1 (pj_tk S) 128 0 0 = 0)
      · rw [if_pos e2, if_pos (e2.imp id (fun w => ⟨w.1, hfr.mpr w.2⟩))]
      · rw [if_neg e2, if_neg (fun w => e2 (w.imp id (fun w => ⟨w.1, hfr.mp w.2⟩)))]
  unfold mlk
  rw [hc]
  refine ⟨by unfold lk_c; split; omega; split <;> omega, ?_⟩
  by_cases e : lk_c B fr x1.toInt = 0
  · have e1 : ¬ (x1.toInt < 1 ∨ 1000 < x1.toInt) := fun w => by unfold lk_c at e; rw [if_pos w] at e; cases e
    have e2 : ¬ (mff (pj_kd S) 12 1 = 0 ∨ (59 < x1.toInt ∧ mf1 (pj_tk S) 128 0 0 = 0)) := fun w => by
      have := hc.trans e
      unfold mlk_c at this
      rw [if_pos (by omega), if_pos w] at this; cases this
    obtain ⟨n, hn⟩ : ∃ n : Nat, x1.toInt = n := ⟨x1.toInt.toNat, by omega⟩
    have hq := (mff_0 (kd := pj_kd S) 12 1).resolve_left (fun w => e2 (Or.inl w))
    rw [if_pos e, e]
    unfold cif
    rw [if_pos rfl, if_pos rfl, if_pos rfl, if_pos rfl, if_pos rfl, hn, Int.toNat_natCast]
    refine ⟨?_, fun _ => by rw [ha], ws, ?_⟩
    · unfold mlkF mlk1
      by_cases e5 : 59 < n
      · rw [if_pos e5]; rfl
      · rw [if_neg e5]; rfl
    · unfold lk_S
      dsimp only
      rw [ha]
      exact lk_ok h (by omega) (by omega) rfl hq.2.2 (by omega) (by omega) (fun w => by
        have : ¬ mf1 (pj_tk S) 128 0 0 = 0 := fun w2 => e2 (Or.inr ⟨by omega, w2⟩)
        generalize mf1 (pj_tk S) 128 0 0 = m at this
        omega)
  · rw [if_neg e]
    unfold cif
    rw [if_neg e, if_neg e, if_neg e, if_neg e, if_neg e]
    exact ⟨rfl, fun w => absurd w e, ws, h⟩
