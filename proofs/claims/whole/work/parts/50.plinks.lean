/-! pure: links, drop, finish -/
theorem rc_lc {B B' kd sz bh bh' lc tg : Nat → Int32} {bl : Nat → Nat} {f n : Nat} {v : Int32} (h : rc B kd sz bh lc bl tg f) (h0 : kd f ≠ 0) (hv : v = nI n) (hn : n ≤ 1000) (hb : ∀ o n, o + n ≤ 256 → (o + n ≤ 20 ∨ 24 ≤ o) → (o + n ≤ 26 ∨ 28 ≤ o) → re_f B' f o n = re_f B f o n) (hl : re_f B' f 26 2 = v) (hh : re_f B' f 20 4 = bh' f) : rc B' kd sz bh' (upd lc f v) bl tg f := by
  obtain ⟨q1, q2, q3, q4, q5, q6, q7, q8, q9, q10⟩ := h
  have hvi : v.toInt = (n : Int) := by rw [hv, nI_toInt (by omega)]
  unfold rc
  rw [pk_us, hb 0 2 (by omega) (by omega) (by omega), hb 4 4 (by omega) (by omega) (by omega), hb 28 4 (by omega) (by omega) (by omega)]
  refine ⟨q1, q2, hh, hl, q5, fun w => ⟨fun i hi => ?_, (q6 w).2⟩, fun w j hj => ?_, fun i hi => ?_, ⟨by omega, by omega⟩, fun w => absurd w h0⟩
  · rw [hb _ _ (by omega) (by omega) (by omega)]; exact (q6 w).1 i hi
  · rw [hb _ _ (by omega) (by omega) (by omega)]; exact q7 w j hj
  · rw [hb _ _ (by unfold gap at hi; omega) (by unfold gap at hi; omega) (by unfold gap at hi; omega)]; exact q8 i hi
theorem nlt_iff {x y : Int32} (h : 0 ≤ y.toInt ∧ y.toInt ≤ 1000) : x < -y ↔ x.toInt < - y.toInt := by
  have e : (-y).toInt = - y.toInt := by
    have : -y = 0 - y := by simp
    rw [this, z_sub (x := 0) (y := y) (a := 0) rfl rfl (by omega) (by omega)]; omega
  rw [Int32.lt_iff_toInt_lt, e]
section LNK
variable {B tk : Nat → Int32} {fr : Int32} {X : Nat → Option (Nat → Int32)} {S : mst} {ws : List Nat} {f : Nat}
theorem wt_1 (h : rw_ ws B tk fr X S) (hf : f ∈ ws) : pj_wt S f = nI 1 := by
  have hr := h.2.2.2.2.1.1.2.2.1 f hf
  rcases h.2.2.2.2.1.1.2.2.2 f hr.1 hr.2 with q | q
  · exact q.1
  · exact absurd hf q.2.1
theorem wt_0 (h : rw_ ws B tk fr X S) (h1 : 1 ≤ f) (h2 : f ≤ 12) (hf : f ∉ ws) : pj_wt S f = nI 0 := by
  rcases h.2.2.2.2.1.1.2.2.2 f h1 h2 with q | q
  · exact absurd q.2 hf
  · exact q.1
theorem mrst_add {T : mw} {y : Int32} (hy : y = nI 1) (hw : T.2.1 f = nI 0) : mrst T f y = (upd T.1 f T.2.2, upd T.2.1 f (vp_nar .boolean (nI 1)), nI f) := by
  subst hy
  unfold mrst
  rw [if_neg (by rw [hw]; decide), if_neg (by decide)]
theorem mrst_rem {T : mw} {y : Int32} (hy : y = nI 0) (hw : T.2.1 f = nI 1) : mrst T f y = (upd (rlp (upd T.2.1 f (vp_nar .boolean (nI 0))) f 12 1 T.1) f (nI 0), upd T.2.1 f (vp_nar .boolean (nI 0)), if T.2.2 = nI f then T.1 f else T.2.2) := by
  subst hy
  unfold mrst
  rw [if_neg (by rw [hw]; decide), if_pos (by decide)]
theorem mrst_eq {T : mw} {y : Int32} (hw : y = T.2.1 f) : mrst T f y = T := if_pos hw
theorem li_ok (h : rw_ ws B tk fr X S) (h1 : 1 ≤ f) (h2 : f ≤ 12) (hk : pj_kd S f ≠ 0) {x : Int32} {n : Nat} (hn : n ≤ 1000) (hx : pj_lc S f + x = nI n) : ∃ ws', rw_ ws' (li_B B f x (nI f)) tk fr X (nI 0, pj_dk S, pj_tk S, pj_kd S, upd (pj_lc S) f (nI n), pj_sz S, (mrst (pj_bh S, pj_wt S, pj_fs S) f (mby (nI n))).1, (mrst (pj_bh S, pj_wt S, pj_fs S) f (mby (nI n))).2.1, pj_bl S, pj_tg S, (mrst (pj_bh S, pj_wt S, pj_fs S) f (mby (nI n))).2.2) := by
  have hr := h.1 f h1 h2
  have hl : re_f B f 26 2 = pj_lc S f := hr.2.2.2.1
  have hiff := h.2.2.2.2.1.2 f h1 h2
  have hh : hdr (re_set B f 26 2 (nI n)) (pj_fs S) := hdr_re h.2.1
  have hb : ∀ g, 1 ≤ g → g ≤ 12 → re_f (re_set B f 26 2 (nI n)) g 20 4 = pj_bh S g := fun g h3 h4 => by
    rw [rso (by omega) (by omega) (by omega)]; exact (h.1 g h3 h4).2.2.1
  have hbw : ∀ g o n', o + n' ≤ 256 → (g ≠ f ∨ o + n' ≤ 26 ∨ 28 ≤ o) → re_f (re_set B f 26 2 (nI n)) g o n' = re_f B g o n' := fun g o n' w1 w2 => rso (by omega) (by omega) w1
  have hbl : re_f (re_set B f 26 2 (nI n)) f 26 2 = nI n := rs2 (by omega) h2 (by omega)
  have hmby : mby (nI n) = if n = 0 then nI 1 else nI 0 := by
    unfold mby
    by_cases e : n = 0
    · rw [if_pos e, e, if_pos (by decide)]
    · rw [if_neg e, if_neg (nI_ne0 (by omega) (by omega))]
  have hn0 : nI n = 0 ↔ n = 0 := ⟨fun w => Decidable.byContradiction fun q => nI_ne0 (by omega) (by omega) w, fun w => by rw [w]; rfl⟩
  unfold li_B li_B1
  rw [hl, hx]
  generalize re_set B f 26 2 (nI n) = B1 at hh hb hbw hbl
  obtain ⟨r1, r2, r3, r4, ⟨r5, r6⟩, r7, r8⟩ := h
  by_cases e1 : pj_lc S f = 0
  · have hf : f ∈ ws := hiff.mpr ⟨hk, e1⟩
    have hw : pj_wt S f = nI 1 := by
      rcases r5.2.2.2 f h1 h2 with q | q
      · exact q.1
      · exact absurd hf q.2.1
    by_cases e2 : n = 0
    · rw [if_neg (fun w => w.2 (hn0.mpr e2)), if_neg (fun w => w.1 e1), mrst_eq (by rw [hmby, if_pos e2]; exact hw.symm)]
      refine ⟨ws, fun g h3 h4 => ?_, hh, r3, r4, ⟨r5, fun g h3 h4 => ?_⟩, r7, r8⟩
      · by_cases eg : g = f
        · subst eg
          exact rc_lc (r1 g h3 h4) hk rfl hn (fun o n w1 w2 w3 => hbw g o n w1 (by omega)) hbl (hb g h3 h4)
        · exact rc_fr (r1 g h3 h4) (fun o n w1 w2 => hbw g o n w1 (by omega)) (hb g h3 h4) rfl rfl (pk_un eg) (fun _ _ => rfl) (fun _ _ => rfl)
      · show g ∈ ws ↔ pj_kd S g ≠ 0 ∧ upd (pj_lc S) f (nI n) g = 0
        by_cases eg : g = f
        · subst eg; rw [pk_us]; exact ⟨fun _ => ⟨hk, hn0.mpr e2⟩, fun _ => hf⟩
        · rw [pk_un eg]; exact r6 g h3 h4
    · rw [if_pos ⟨e1, fun w => e2 (hn0.mp w)⟩, if_neg (fun w => w.1 e1), mrst_rem (by rw [hmby, if_neg e2]) hw]
      obtain ⟨l1, l2, l3, l4⟩ := LR hb hh r5 h1 h2 hf
      refine ⟨ws.erase f, fun g h3 h4 => ?_, l2, r3, r4, ⟨l3, fun g h3 h4 => ?_⟩, r7, r8⟩
      · by_cases eg : g = f
        · subst eg
          refine rc_lc (r1 g h3 h4) hk rfl hn (fun o n w1 w2 w3 => ?_) ?_ (l1 g h3 h4)
          · rw [l4 _ _ _ w2 w1, hbw g o n w1 (by omega)]
          · rw [l4 _ _ _ (by omega) (by omega), hbl]
        · refine rc_fr (r1 g h3 h4) (fun o n w1 w2 => ?_) (l1 g h3 h4) rfl rfl (pk_un eg) (fun _ _ => rfl) (fun _ _ => rfl)
          rw [l4 _ _ _ w2 w1, hbw g o n w1 (by omega)]
      · show g ∈ ws.erase f ↔ pj_kd S g ≠ 0 ∧ upd (pj_lc S) f (nI n) g = 0
        rw [r5.2.1.mem_erase_iff]
        by_cases eg : g = f
        · subst eg; rw [pk_us]; exact ⟨fun w => absurd rfl w.1, fun w => absurd (hn0.mp w.2) e2⟩
        · rw [pk_un eg]; exact ⟨fun w => (r6 g h3 h4).mp w.2, fun w => ⟨eg, (r6 g h3 h4).mpr w⟩⟩
  · have hf : f ∉ ws := fun w => e1 (hiff.mp w).2
    have hw : pj_wt S f = nI 0 := by
      rcases r5.2.2.2 f h1 h2 with q | q
      · exact absurd q.2 hf
      · exact q.1
    by_cases e2 : n = 0
    · rw [if_neg (fun w => w.2 (hn0.mpr e2)), if_pos ⟨e1, hn0.mpr e2⟩, mrst_add (by rw [hmby, if_pos e2]) hw]
      obtain ⟨l1, l2, l3, l4⟩ := LA hb hh r5 h1 h2 hf
      refine ⟨f :: ws, fun g h3 h4 => ?_, l2, r3, r4, ⟨l3, fun g h3 h4 => ?_⟩, r7, r8⟩
      · by_cases eg : g = f
        · subst eg
          refine rc_lc (r1 g h3 h4) hk rfl hn (fun o n w1 w2 w3 => ?_) ?_ (l1 g h3 h4)
          · rw [l4 _ _ _ w2 w1, hbw g o n w1 (by omega)]
          · rw [l4 _ _ _ (by omega) (by omega), hbl]
        · refine rc_fr (r1 g h3 h4) (fun o n w1 w2 => ?_) (l1 g h3 h4) rfl rfl (pk_un eg) (fun _ _ => rfl) (fun _ _ => rfl)
          rw [l4 _ _ _ w2 w1, hbw g o n w1 (by omega)]
      · show g ∈ f :: ws ↔ pj_kd S g ≠ 0 ∧ upd (pj_lc S) f (nI n) g = 0
        rw [List.mem_cons]
        by_cases eg : g = f
        · subst eg; rw [pk_us]; exact ⟨fun w => ⟨hk, hn0.mpr e2⟩, fun w => Or.inl rfl⟩
        · rw [pk_un eg]; exact ⟨fun w => (r6 g h3 h4).mp (w.resolve_left eg), fun w => Or.inr ((r6 g h3 h4).mpr w)⟩
    · rw [if_neg (fun w => e1 w.1), if_neg (fun w => e2 (hn0.mp w.2)), mrst_eq (by rw [hmby, if_neg e2]; exact hw.symm)]
      refine ⟨ws, fun g h3 h4 => ?_, hh, r3, r4, ⟨r5, fun g h3 h4 => ?_⟩, r7, r8⟩
      · by_cases eg : g = f
        · subst eg
          exact rc_lc (r1 g h3 h4) hk rfl hn (fun o n w1 w2 w3 => hbw g o n w1 (by omega)) hbl (hb g h3 h4)
        · exact rc_fr (r1 g h3 h4) (fun o n w1 w2 => hbw g o n w1 (by omega)) (hb g h3 h4) rfl rfl (pk_un eg) (fun _ _ => rfl) (fun _ _ => rfl)
      · show g ∈ ws ↔ pj_kd S g ≠ 0 ∧ upd (pj_lc S) f (nI n) g = 0
        by_cases eg : g = f
        · subst eg; rw [pk_us]; exact ⟨fun w => absurd w hf, fun w => absurd (hn0.mp w.2) e2⟩
        · rw [pk_un eg]; exact r6 g h3 h4
end LNK
theorem p_links : PU_links rl := by
  rintro B tk fr X S x1 x2 ⟨ws, h⟩
  have hx1 : ∀ f, x1.toNatClampNeg = f → 1 ≤ f → x1 = nI f := fun f e h0 => z_cl e h0
  generalize x1.toNatClampNeg = f at hx1 ⊢
  have hc : mli_c S f x2 = li_c B f x2 := by
    unfold mli_c li_c
    by_cases e : re_kind B f = 0
    · rw [if_pos (Or.inl e), if_neg (fun q => (kz h _).mp e q.1)]
    · have e2 := Decidable.not_not.mp (fun q => e ((kz h _).mpr q))
      have hr := h.1 f (by omega) e2.1.2
      have hl := hr.2.2.2.2.2.2.2.2.1
      have e3 : ∀ y : Int32, x2 ≤ nI 1000 - pj_lc S f ↔ x2.toInt ≤ 1000 - (pj_lc S f).toInt := fun y => by
        rw [Int32.le_iff_toInt_le, z_sub (x := nI 1000) (a := 1000) (by decide) rfl (by omega) (by omega)]
      have e5 := nlt_iff (x := x2) hl
      rw [hr.2.2.2.1]
      by_cases e4 : 0 ≤ (pj_lc S f).toInt + x2.toInt ∧ (pj_lc S f).toInt + x2.toInt ≤ 1000
      · rw [if_pos ⟨e2, e4⟩, if_neg (by
          rintro (q | q | q)
          · exact e q
          · have := e5.mp q; omega
          · exact q ((e3 0).mpr (by omega)))]
      · rw [if_neg (fun w => e4 w.2), if_pos (Or.inr (by
          by_cases e6 : x2.toInt < - (pj_lc S f).toInt
          · exact Or.inl (e5.mpr e6)
          · exact Or.inr (fun w => by have := (e3 0).mp w; omega)))]
  unfold mli
  rw [hc]
  refine ⟨by unfold li_c; split <;> omega, ?_⟩
  simp only [cif_s]
  by_cases e : li_c B f x2 = 0
  · have e1 : ((f ≠ 0 ∧ f ≤ 12) ∧ ¬ pj_kd S f ≤ 0) ∧ 0 ≤ (pj_lc S f).toInt + x2.toInt ∧ (pj_lc S f).toInt + x2.toInt ≤ 1000 := by
      refine Decidable.byContradiction fun w => ?_
      have := hc.trans e
      unfold mli_c at this
      rw [if_neg w] at this; cases this
    have hr := h.1 f (by omega) e1.1.1.2
    have hk : pj_kd S f ≠ 0 := fun w => e1.1.2 (by rw [w]; decide)
    have hx := z_add (x := pj_lc S f) (y := x2) rfl rfl (by omega) (by omega)
    obtain ⟨n, hn⟩ : ∃ n : Nat, (pj_lc S f + x2).toInt = n := ⟨(pj_lc S f + x2).toInt.toNat, by omega⟩
    have hx2 : pj_lc S f + x2 = nI n := z_i hn (by omega)
    rw [if_pos e, e, hr.2.2.2.1, pk_us, hx1 f rfl (by omega)]
    unfold cif
    rw [if_pos rfl, if_pos rfl, hx2]
    exact ⟨rfl, fun _ => rfl, li_ok h (by omega) e1.1.1.2 hk (by omega) hx2⟩
  · rw [if_neg e]
    unfold cif
    rw [if_neg e, if_neg e]
    exact ⟨rfl, fun w => absurd w e, ws, h⟩
section GO
variable {B tk : Nat → Int32} {fr : Int32} {X : Nat → Option (Nat → Int32)} {S : mst} {ws : List Nat} {f : Nat}
theorem go_ok (h : rw_ ws B tk fr X S) (hf : f ∈ ws) : rw_ (ws.erase f) (lgC (B, tk, fr) f (nI f)).1 (lgC (B, tk, fr) f (nI f)).2.1 (lgC (B, tk, fr) f (nI f)).2.2 X (mgo S f) := by
  have hw := wt_1 h hf
  obtain ⟨r1, r2, r3, r4, ⟨r5, r6⟩, r7, r8⟩ := h
  obtain ⟨h1, h2⟩ := r5.2.2.1 f hf
  obtain ⟨l1, l2, l3, l4⟩ := LR (fun g h3 h4 => (r1 g h3 h4).2.2.1) r2 r5 h1 h2 hf
  unfold lgC lg_S mgo
  rw [mrst_rem (T := (pj_bh S, pj_wt S, pj_fs S)) rfl hw]
  dsimp only at l1 l2 l3 ⊢
  have lf : upd (rlp (upd (pj_wt S) f (vp_nar .boolean (nI 0))) f 12 1 (pj_bh S)) f (nI 0) f = nI 0 := pk_us
  generalize upd (rlp (upd (pj_wt S) f (vp_nar .boolean (nI 0))) f 12 1 (pj_bh S)) f (nI 0) = bh' at l1 l3 lf ⊢
  generalize upd (pj_wt S) f (vp_nar .boolean (nI 0)) = wt' at l3 ⊢
  generalize (if pj_fs S = nI f then pj_bh S f else pj_fs S) = fs' at l2 l3 ⊢
  have q1 : rq (wa_rem B f (nI f)) tk fr X (mput (pj_cd S, pj_dk S, pj_tk S, pj_kd S, pj_lc S, pj_sz S, bh', wt', pj_bl S, pj_tg S, fs') (pj_dk S, pj_tk S, pj_bl S)) :=
    ⟨fun g h3 h4 => rc_fr (r1 g h3 h4) (fun o n w1 w2 => l4 g o n w2 w1) (l1 g h3 h4) rfl rfl rfl (fun _ _ => rfl) (fun _ _ => rfl), l2, r3, r4, r7, r8⟩
  have q2 := gbS_ok h1 h2 15 0 _ _ _ _ _ (by omega) q1
  have hz : ∀ k, k < 15 → (mgbS f 15 0 (pj_tk S, pj_bl S)).2 (15 * f + k) = 0 := fun k hk => by rw [mgbS_at, if_pos (by omega)]
  generalize gbS f 15 0 (wa_rem B f (nI f), tk, fr) = U at q2 ⊢
  generalize mgbS f 15 0 (pj_tk S, pj_bl S) = T at q2 hz ⊢
  obtain ⟨s1, s2, s3, s4, s5, s6⟩ := q2
  refine ⟨fun g h3 h4 => ?_, hdr_re s2, fun g => ?_, s4, ⟨l3, fun g h3 h4 => ?_⟩, ⟨fun j j1 j2 j3 => ?_, s5.2⟩, s6⟩
  · by_cases eg : g = f
    · subst eg
      have hk : upd (pj_kd S) g (nI 0) g = nI 0 := pk_us
      have hs : upd (pj_sz S) g (nI 0) g = nI 0 := pk_us
      have hl : upd (pj_lc S) g (nI 0) g = nI 0 := pk_us
      have hq : ∀ o n, n ≤ 4 → o + n ≤ 256 → re_f (re_set U.1 g 0 256 (nI 0)) g o n = nI 0 := fun o n w1 w2 => rs_z (by omega) h2 w1 w2
      show rc (re_set U.1 g 0 256 (nI 0)) (upd (pj_kd S) g (nI 0)) (upd (pj_sz S) g (nI 0)) bh' (upd (pj_lc S) g (nI 0)) T.2 (pj_tg S) g
      unfold rc near
      rw [hk, hs, hl, lf, mbo_z hz, hq 0 2 (by omega) (by omega), hq 4 4 (by omega) (by omega), hq 20 4 (by omega) (by omega), hq 26 2 (by omega) (by omega), hq 28 4 (by omega) (by omega)]
      refine ⟨⟨Or.inl rfl, by decide⟩, rfl, rfl, rfl, rfl, fun w => absurd w.1 (by decide), fun w k hk => ?_, fun i hi => ?_, ⟨by decide, by decide⟩, fun _ => ⟨rfl, rfl, hz⟩⟩
      · rw [hq _ _ (by omega) (by omega), hz k hk]
      · exact hq _ _ (by omega) (by unfold gap at hi; omega)
    · refine rc_fr (s1 g h3 h4) (fun o n w1 w2 => rso (Or.inl eg) (by omega) w1) ?_ (pk_un eg) (pk_un eg) (pk_un eg) (fun _ _ => rfl) (fun _ _ => rfl)
      rw [rso (Or.inl eg) (by omega) (by omega)]
      exact (s1 g h3 h4).2.2.1
  · show 0 ≤ (upd (pj_sz S) f (nI 0) g).toInt ∧ (upd (pj_sz S) f (nI 0) g).toInt ≤ 15360
    by_cases eg : g = f
    · rw [eg, pk_us]; decide
    · rw [pk_un eg]; exact r3 g
  · show g ∈ ws.erase f ↔ upd (pj_kd S) f (nI 0) g ≠ 0 ∧ upd (pj_lc S) f (nI 0) g = 0
    rw [r5.2.1.mem_erase_iff]
    by_cases eg : g = f
    · subst eg; rw [pk_us]; exact ⟨fun w => absurd rfl w.1, fun w => absurd rfl w.1⟩
    · rw [pk_un eg, pk_un eg]; exact ⟨fun w => (r6 g h3 h4).mp w.2, fun w => ⟨eg, (r6 g h3 h4).mpr w⟩⟩
  · obtain ⟨w1, w2, c, w3, w4⟩ := s5.1 j j1 j2 j3
    refine ⟨w1, w2, c, w3, fun i hi => ⟨(w4 i hi).1, fun w => (w4 i hi).2 ?_⟩⟩
    have w : (upd (pj_sz S) f (nI 0) (j / 15)).toInt ≤ ((1024 * (j % 15) + i : Nat) : Int) := w
    have ej : j / 15 ≠ f := fun e => j3 (by
      have := hz (j % 15) (by omega)
      rw [show 15 * f + j % 15 = j by omega] at this
      exact this)
    rwa [pk_un ej] at w
end GO
theorem p_drop : PU_drop rl := by
  rintro B tk fr X S x1 ⟨ws, h⟩
  have hx1 : ∀ f, x1.toNatClampNeg = f → 1 ≤ f → x1 = nI f := fun f e h0 => z_cl e h0
  generalize x1.toNatClampNeg = f at hx1 ⊢
  have hlc : ∀ f, 1 ≤ f → f ≤ 12 → (pj_lc S f ≤ 0 ↔ pj_lc S f = 0) := fun f h1 h2 => by
    have hl := (h.1 f h1 h2).2.2.2.2.2.2.2.2.1
    rw [Int32.le_iff_toInt_le]
    have e0 : (0 : Int32).toInt = 0 := by decide
    refine ⟨fun w => Int32.toInt_inj.mp (by omega), fun w => by rw [w]; exact Int.le_refl _⟩
  have hc : mdr_c S f = dr_c B f := by
    unfold mdr_c dr_c
    by_cases e : re_kind B f = 0
    · rw [if_pos e, if_neg ((kz h _).mp e)]
    · have e2 := Decidable.not_not.mp (fun q => e ((kz h _).mpr q))
      rw [if_neg e, if_pos e2, (h.1 f (by omega) e2.1.2).2.2.2.1]
      by_cases e3 : pj_lc S f = 0
      · rw [if_pos e3, if_pos ((hlc f (by omega) e2.1.2).mpr e3)]
      · rw [if_neg e3, if_neg (fun w => e3 ((hlc f (by omega) e2.1.2).mp w))]
  unfold mdr
  rw [hc]
  refine ⟨by unfold dr_c; split; omega; split <;> omega, ?_⟩
  simp only [cif_s]
  by_cases e : dr_c B f = 0
  · have e1 : ¬ re_kind B f = 0 := fun w => by unfold dr_c at e; rw [if_pos w] at e; cases e
    have e2 := Decidable.not_not.mp (fun q => e1 ((kz h _).mpr q))
    have hr := h.1 f (by omega) e2.1.2
    have e3 : pj_lc S f = 0 := by
      refine Decidable.byContradiction fun w => ?_
      unfold dr_c at e
      rw [if_neg e1, hr.2.2.2.1, if_neg w] at e; cases e
    have hk : pj_kd S f ≠ 0 := fun w => e2.2 (by rw [w]; decide)
    have hf : f ∈ ws := (h.2.2.2.2.1.2 f (by omega) e2.1.2).mpr ⟨hk, e3⟩
    rw [if_pos e, e, hx1 f rfl (by omega)]
    unfold cif
    rw [if_pos rfl, if_pos rfl, if_pos rfl, if_pos rfl]
    exact ⟨rfl, fun _ => rc_nb hr, _, go_ok (rw_cod 0 h) hf⟩
  · rw [if_neg e]
    unfold cif
    rw [if_neg e, if_neg e, if_neg e, if_neg e]
    exact ⟨rfl, fun w => absurd w e, ws, h⟩
theorem fin_ok {X : Nat → Option (Nat → Int32)} : ∀ (k n : Nat) (B tk : Nat → Int32) (fr : Int32) (S : mst) (ws : List Nat), ws.length ≤ k → rw_ ws B tk fr X S → (fnS k (B, tk, fr) n).2 = (mfin k S n).2 ∧ rl (fnS k (B, tk, fr) n).1.1 (fnS k (B, tk, fr) n).1.2.1 (fnS k (B, tk, fr) n).1.2.2 X (mfin k S n).1 ∧ mokF k S
  | 0, n, B, tk, fr, S, ws, hl, h => by
    have hw := h.2.2.2.2.1.1.1
    rcases ws with _ | ⟨g, t⟩
    · refine ⟨rfl, ⟨[], h⟩, ?_⟩
      have hw : pj_fs S = nI 0 := hw
      show pj_fs S ≤ 0
      rw [hw]; decide
    · exact absurd hl (by simp)
  | k + 1, n, B, tk, fr, S, ws, hl, h => by
    have hw := h.2.2.2.2.1.1.1
    have hB := h.2.1.1
    rw [fnS, mfin, mokF]
    dsimp only
    rw [hB]
    rcases ws with _ | ⟨g, t⟩
    · have hw : pj_fs S = nI 0 := hw
      rw [hw, if_pos (show nI 0 = 0 from rfl), if_pos (by decide)]
      exact ⟨rfl, ⟨[], h⟩, Or.inl (by decide)⟩
    · have hg := h.2.2.2.2.1.1.2.2.1 g List.mem_cons_self
      have hw : pj_fs S = nI g := hw.1
      rw [hw, if_neg (nI_ne0 (by omega) (by omega)), if_neg (nI_nle (by omega) (by omega)), nI_clamp (by omega)]
      have := go_ok h (f := g) List.mem_cons_self
      rw [List.erase_cons_head] at this
      obtain ⟨a1, a2, a3⟩ := fin_ok k (n + 1) _ _ _ _ t (by simp at hl; omega) this
      exact ⟨a1, a2, Or.inr ⟨hg, a3⟩⟩
theorem p_finish : PU_finish rl := by
  rintro B tk fr X S ⟨ws, h⟩
  obtain ⟨a1, a2, -⟩ := fin_ok 12 0 B tk fr (mcod S 0) ws (WL_len h.2.2.2.2.1.1) h
  exact ⟨congrArg nI a1, a2⟩
theorem p_ok : PU_ok rl := by
  rintro B tk fr X S ⟨ws, h⟩
  exact ⟨h.2.2.2.1, h.2.2.1, (fin_ok 12 0 B tk fr (mcod S 0) ws (WL_len h.2.2.2.2.1.1) h).2.2⟩
