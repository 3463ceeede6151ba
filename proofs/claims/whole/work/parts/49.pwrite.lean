/-! pure: write and paint -/
theorem rc_sz {B B' kd sz bh lc tg : Nat → Int32} {bl : Nat → Nat} {f : Nat} {v : Int32} (h : rc B kd sz bh lc bl tg f) (h0 : kd f ≠ 0) (hn : ¬ near kd (upd sz f v) f) (hw : ∀ k, k < 15 → re_f B f (40 + 4 * k) 4 = nI (bl (15 * f + k))) (hb : ∀ o n, o + n ≤ 256 → (o + n ≤ 4 ∨ 8 ≤ o) → re_f B' f o n = re_f B f o n) (hv : re_f B' f 4 4 = v) : rc B' kd (upd sz f v) bh lc bl tg f := by
  obtain ⟨q1, q2, q3, q4, q5, q6, q7, q8, q9, q10⟩ := h
  unfold rc
  rw [pk_us, hb 0 2 (by omega) (by omega), hb 20 4 (by omega) (by omega), hb 26 2 (by omega) (by omega), hb 28 4 (by omega) (by omega)]
  refine ⟨q1, hv, q3, q4, q5, fun w => absurd w hn, fun w j hj => ?_, fun i hi => ?_, q9, fun w => absurd w h0⟩
  · rw [hb _ _ (by omega) (by omega)]; exact hw j hj
  · rw [hb _ _ (by unfold gap at hi; omega) (by unfold gap at hi; omega)]; exact q8 i hi
section SZ
variable {B tk : Nat → Int32} {fr : Int32} {X : Nat → Option (Nat → Int32)} {S : mst} {f : Nat} {v : Int32}
theorem sz_ok (h : rq B tk fr X S) (h1 : 1 ≤ f) (h2 : f ≤ 12) (h0 : pj_kd S f ≠ 0) (hn : ¬ near (pj_kd S) (upd (pj_sz S) f v) f) (hw : ∀ k, k < 15 → re_f B f (40 + 4 * k) 4 = nI (pj_bl S (15 * f + k))) (hv1 : (pj_sz S f).toInt ≤ v.toInt) (hv2 : v.toInt ≤ 15360) : rq (re_set B f 4 4 v) tk fr X (mssz S f v) := by
  have hz := h.2.2.1 f
  refine ⟨fun g h3 h4 => ?_, hdr_re h.2.1, fun g => ?_, h.2.2.2.1, ⟨fun j j1 j2 j3 => ?_, h.2.2.2.2.1.2⟩, h.2.2.2.2.2⟩
  · by_cases eg : g = f
    · subst eg
      exact rc_sz (h.1 g h3 h4) h0 hn hw (fun o n w1 w2 => rso (by omega) (by omega) w1) (rs4 (by omega) h4)
    · exact rc_fr (h.1 g h3 h4) (fun o n w1 w2 => rso (by omega) (by omega) w1) ((rso (by omega) (by omega) (by omega)).trans (h.1 g h3 h4).2.2.1) rfl (pk_un eg) rfl (fun _ _ => rfl) (fun _ _ => rfl)
  · show 0 ≤ (upd (pj_sz S) f v g).toInt ∧ (upd (pj_sz S) f v g).toInt ≤ 15360
    by_cases eg : g = f
    · rw [eg, pk_us]; omega
    · rw [pk_un eg]; exact h.2.2.1 g
  · obtain ⟨w1, w2, c, w3, w4⟩ := h.2.2.2.2.1.1 j j1 j2 j3
    refine ⟨w1, w2, c, w3, fun i hi => ⟨(w4 i hi).1, fun w => (w4 i hi).2 ?_⟩⟩
    have w : (upd (pj_sz S) f v (j / 15)).toInt ≤ ((1024 * (j % 15) + i : Nat) : Int) := w
    by_cases ej : j / 15 = f
    · rw [ej, pk_us] at w
      rw [ej]; omega
    · rwa [pk_un ej] at w
end SZ
theorem imx_eq (x y : Int32) : imx x y = if y ≤ x then x else y := by
  unfold imx
  by_cases e : x < y
  · rw [if_pos e, if_neg (fun w => by rw [Int32.le_iff_toInt_le] at w; rw [Int32.lt_iff_toInt_lt] at e; omega)]
  · rw [if_neg e, if_pos (by rw [Int32.lt_iff_toInt_lt] at e; rw [Int32.le_iff_toInt_le]; omega)]
section PREP
variable {B tk : Nat → Int32} {fr : Int32} {X : Nat → Option (Nat → Int32)} {S : mst} {f a n : Nat}
theorem plain_far {kd sz : Nat → Int32} {f : Nat} (h : kd f = nI 1) : ¬ near kd sz f := fun w => by
  have := w.1; rw [h] at this; exact absurd this (by decide)
theorem prep_ok (h : rq B tk fr X S) (h1 : 1 ≤ f) (h2 : f ≤ 12) (hk : pj_kd S f = nI 1) (hn : 1 ≤ n) (ha : a + n ≤ 15360) (hw : mwt (pj_bl S) f ((a + n - 1) / 1024 + 1 - a / 1024) (a / 1024) 0 ≤ mf1 (pj_tk S) 128 0 0) :
    rq (prC (B, tk, fr, X) f a n).1 (prC (B, tk, fr, X) f a n).2.1 (prC (B, tk, fr, X) f a n).2.2.1 (prC (B, tk, fr, X) f a n).2.2.2 (mtaM S f a n) ∧ re_f (prC (B, tk, fr, X) f a n).1 f 4 4 = pj_sz (mtaM S f a n) f ∧ ((a + n : Nat) : Int) ≤ (pj_sz (mtaM S f a n) f).toInt ∧ ∀ i, i < n → pj_bl (mtaM S f a n) (15 * f + (a + i) / 1024) ≠ 0 := by
  have hkd : pj_kd S f ≠ 0 := by rw [hk]; decide
  have hfar := plain_far (sz := pj_sz S) hk
  have hz := h.2.2.1 f
  obtain ⟨s1, -, s3⟩ := prS_ok h1 h2 hkd hfar ((a + n - 1) / 1024 + 1 - a / 1024) (a / 1024) B tk fr X (pj_dk S) (pj_tk S) (pj_bl S) (by omega) h hw
  unfold prC pr_B pr_S mtaM mta
  dsimp only
  generalize prS f ((a + n - 1) / 1024 + 1 - a / 1024) (a / 1024) (B, tk, fr, X) = U at s1 ⊢
  generalize mtaS f ((a + n - 1) / 1024 + 1 - a / 1024) (a / 1024) (pj_dk S, pj_tk S, pj_bl S) = T at s1 s3 ⊢
  have hU := s1.1 f h1 h2
  have hs : re_f U.1 f 4 4 = pj_sz S f := hU.2.1
  have hv : imx (re_f U.1 f 4 4) (nI (a + n)) = (if nI (a + n) ≤ pj_sz S f then pj_sz S f else nI (a + n)) := by rw [imx_eq, hs]
  have hm : (if nI (a + n) ≤ pj_sz S f then pj_sz S f else nI (a + n)).toInt = max (pj_sz S f).toInt ((a + n : Nat) : Int) := by
    by_cases e : nI (a + n) ≤ pj_sz S f
    · rw [if_pos e]
      rw [Int32.le_iff_toInt_le, nI_toInt (by omega)] at e
      omega
    · rw [if_neg e, nI_toInt (by omega)]
      rw [Int32.le_iff_toInt_le, nI_toInt (by omega)] at e
      omega
  unfold msz
  rw [hv]
  generalize (if nI (a + n) ≤ pj_sz S f then pj_sz S f else nI (a + n)) = v at hm ⊢
  have hfar2 : ¬ near (pj_kd S) (upd (pj_sz S) f v) f := plain_far hk
  have hR := sz_ok (v := v) s1 h1 h2 hkd hfar2 (fun k hk => hU.2.2.2.2.2.2.1 hfar k hk) (by show (pj_sz S f).toInt ≤ _; omega) (by omega)
  refine ⟨hR, ?_, ?_, fun i hi => ?_⟩
  · rw [rs4 (by omega) h2]; exact pk_us.symm
  · show ((a + n : Nat) : Int) ≤ (upd (pj_sz S) f v f).toInt
    rw [pk_us]; omega
  · exact s3 ((a + i) / 1024) (by omega) (by omega)
end PREP
section WP
variable {B tk : Nat → Int32} {fr : Int32} {X : Nat → Option (Nat → Int32)} {S : mst} {ws : List Nat}
theorem may_eq (h : rw_ ws B tk fr X S) (f : Nat) (a n : Int) {k : Nat} (hk : k ≤ 4000) : mmay_c S f a n k = wr_c B fr f a n k := by
  unfold mmay_c wr_c
  by_cases e : re_kind B f = nI 1 ∧ 1 ≤ n ∧ n ≤ k ∧ 0 ≤ a ∧ a ≤ 15360 - n
  · have e1 := (kp h f).mp e.1
    rw [if_pos e, if_pos ⟨e1, ⟨e.2.1, e.2.2.1⟩, e.2.2.2.1, by omega⟩]
    have hf : fr = nI (mf1 (pj_tk S) 128 0 0) := h.2.2.2.2.2.2.2.2
    have hl := mf1_le (tk := pj_tk S) 128 0 0
    have hm := mwt_le (bl := pj_bl S) (f := f) ((a.toNat + n.toNat - 1) / 1024 + 1 - a.toNat / 1024) (a.toNat / 1024) 0
    rw [want_eq (h.1 f (by omega) e1.1.1.2) h.2.2.2.1 _ _ _ (by omega), hf]
    by_cases e2 : mwt (pj_bl S) f ((a.toNat + n.toNat - 1) / 1024 + 1 - a.toNat / 1024) (a.toNat / 1024) 0 ≤ mf1 (pj_tk S) 128 0 0
    · rw [if_pos e2, if_pos ((nI_leI (by omega) (by omega)).mpr e2)]
    · rw [if_neg e2, if_neg (fun w => e2 ((nI_leI (by omega) (by omega)).mp w))]
  · rw [if_neg e, if_neg (fun w => e ⟨(kp h f).mpr w.1, w.2.1.1, w.2.1.2, w.2.2.1, by omega⟩)]
theorem wr_lt (B : Nat → Int32) (fr : Int32) (f : Nat) (a n : Int) (k : Nat) : wr_c B fr f a n k < 3 := by unfold wr_c; split; split <;> omega; omega
theorem may_0 {f : Nat} {a n : Int} {k : Nat} (h : mmay_c S f a n k = 0) : mmay_P S f a n k ∧ mwt (pj_bl S) f ((a.toNat + n.toNat - 1) / 1024 + 1 - a.toNat / 1024) (a.toNat / 1024) 0 ≤ mf1 (pj_tk S) 128 0 0 := by
  unfold mmay_c at h
  by_cases e : (((f ≠ 0 ∧ f ≤ 12) ∧ ¬ pj_kd S f ≤ 0) ∧ pj_kd S f = nI 1) ∧ (1 ≤ n ∧ n ≤ k) ∧ 0 ≤ a ∧ a + n ≤ 15360
  · rw [if_pos e] at h
    refine ⟨e, ?_⟩
    refine Decidable.byContradiction fun w => ?_
    rw [if_neg w] at h; cases h
  · rw [if_neg e] at h; cases h
end WP
theorem p_write : PU_write rl := by
  rintro B tk fr X S x1 x2 x3 x4 ⟨ws, h⟩
  generalize x1.toNatClampNeg = f
  have hc := may_eq h f x2.toInt x4.toInt (k := 8) (by omega)
  unfold mwr
  rw [hc]
  refine ⟨wr_lt _ _ _ _ _ _, ?_⟩
  by_cases e : wr_c B fr f x2.toInt x4.toInt 8 = 0
  · obtain ⟨⟨e1, e2, e3⟩, e4⟩ := may_0 (hc.trans e)
    obtain ⟨a, ha⟩ : ∃ a : Nat, x2.toInt = a := ⟨x2.toInt.toNat, by omega⟩
    obtain ⟨n, hn⟩ : ∃ n : Nat, x4.toInt = n := ⟨x4.toInt.toNat, by omega⟩
    rw [if_pos e, e]
    unfold cif
    rw [if_pos rfl, if_pos rfl, if_pos rfl, if_pos rfl, if_pos rfl]
    rw [ha, hn] at e4 ⊢
    rw [Int.toNat_natCast, Int.toNat_natCast] at e4 ⊢
    obtain ⟨r1, r2, r3, r4⟩ := prep_ok (rw_rq.mp (rw_cod 0 h)).1 (f := f) (a := a) (n := n) (by omega) e1.1.1.2 e1.2 (by omega) (by omega) e4
    refine ⟨rfl, fun _ => r2, ws, rw_rq.mpr ⟨?_, (rw_rq.mp h).2⟩⟩
    unfold wrX_
    exact sb_ok (by omega) e1.1.1.2 (by omega) (by omega) r3 r4 n _ x3 (Nat.le_refl _) (by simp) (by rw [Nat.sub_self]; exact r1)
  · rw [if_neg e]
    unfold cif
    rw [if_neg e, if_neg e, if_neg e, if_neg e, if_neg e]
    exact ⟨rfl, fun w => absurd w e, ws, h⟩
theorem p_paint : PU_paint rl := by
  rintro B tk fr X S x1 x2 x3 x4 ⟨ws, h⟩
  generalize x1.toNatClampNeg = f
  have hc := may_eq h f x2.toInt x3.toInt (k := 4000) (by omega)
  unfold mpa
  rw [hc]
  refine ⟨wr_lt _ _ _ _ _ _, ?_⟩
  by_cases e : wr_c B fr f x2.toInt x3.toInt 4000 = 0
  · obtain ⟨⟨e1, e2, e3⟩, e4⟩ := may_0 (hc.trans e)
    obtain ⟨a, ha⟩ : ∃ a : Nat, x2.toInt = a := ⟨x2.toInt.toNat, by omega⟩
    obtain ⟨n, hn⟩ : ∃ n : Nat, x3.toInt = n := ⟨x3.toInt.toNat, by omega⟩
    rw [if_pos e, e]
    unfold cif
    rw [if_pos rfl, if_pos rfl, if_pos rfl, if_pos rfl, if_pos rfl]
    rw [ha, hn] at e4 ⊢
    rw [Int.toNat_natCast, Int.toNat_natCast] at e4 ⊢
    obtain ⟨r1, r2, r3, r4⟩ := prep_ok (rw_rq.mp (rw_cod 0 h)).1 (f := f) (a := a) (n := n) (by omega) e1.1.1.2 e1.2 (by omega) (by omega) e4
    refine ⟨rfl, fun _ => r2, ws, rw_rq.mpr ⟨?_, (rw_rq.mp h).2⟩⟩
    unfold paX_
    refine pt_ok (by omega) e1.1.1.2 (by omega) (by omega) r3 r4 _ _ _ (Nat.le_refl _) (by omega) ?_
    rw [show min (a + n) (max a (a / 1024 * 1024)) - a = 0 by omega]
    exact r1
  · rw [if_neg e]
    unfold cif
    rw [if_neg e, if_neg e, if_neg e, if_neg e, if_neg e]
    exact ⟨rfl, fun w => absurd w e, ws, h⟩
