/-! pure: a file is made -/
theorem fld_z {B : Nat → Int32} {f o : Nat} (h : ∀ i, i < 4 → re_f B f (o + i) 1 = nI 0) : re_f B f o 4 = nI 0 := by
  by_cases e : f = 0 ∨ 12 < f
  · exact re_f_0 e
  · rw [re_f_in (by omega) (by omega)]
    refine fr_num_z (by omega) (fun i h1 h2 => ?_)
    have := h (i - (768 + 256 * f + o)) (by omega)
    rwa [re_f_in (by omega) (by omega), fr_num_1, show 768 + 256 * f + (o + (i - (768 + 256 * f + o))) = i by omega] at this
theorem fld_y {B : Nat → Int32} {f o n i : Nat} (hn : n ≤ 4) (hi : i < n) (h : re_f B f o n = nI 0) : re_f B f (o + i) 1 = nI 0 := by
  rw [re_b hn hi, h]
  have : i < 4 := by omega
  clear hi
  revert i; decide
theorem rc_new {B B' kd sz bh bh' lc tg : Nat → Int32} {bl : Nat → Nat} {f : Nat} {k v : Int32} {n : Nat} (h : rc B kd sz bh lc bl tg f) (h0 : kd f = 0) (hk : k = nI 1 ∨ k = nI 3) (hv : v = nI n) (hn : n ≤ 1000)
    (hb : ∀ o n, 2 ≤ o → o + n ≤ 256 → (o + n ≤ 20 ∨ 24 ≤ o) → (o + n ≤ 26 ∨ 28 ≤ o) → re_f B' f o n = re_f B f o n) (hm : re_f B' f 0 2 = md k) (hl : re_f B' f 26 2 = v) (hh : re_f B' f 20 4 = bh' f) : rc B' (upd kd f k) sz bh' (upd lc f v) bl tg f := by
  obtain ⟨q1, q2, q3, q4, q5, q6, q7, q8, q9, q10⟩ := h
  obtain ⟨e1, e2, e3⟩ := q10 h0
  have hnn : ¬ near kd sz f := fun w => by
    have := w.1; rw [h0] at this; exact absurd this (by decide)
  have hz : ∀ i, i < 60 → re_f B f (40 + i) 1 = nI 0 := fun i hi => by
    have := fld_y (n := 4) (i := i % 4) (by omega) (by omega) ((q7 hnn (i / 4) (by omega)).trans (by rw [e3 _ (by omega)]))
    rwa [show 40 + 4 * (i / 4) + i % 4 = 40 + i by omega] at this
  have hvi : v.toInt = (n : Int) := by rw [hv, nI_toInt (by omega)]
  unfold rc near
  rw [pk_us, pk_us, hb 4 4 (by omega) (by omega) (by omega) (by omega), hb 28 4 (by omega) (by omega) (by omega) (by omega)]
  refine ⟨⟨Or.inr hk, hm⟩, q2, hh, hl, q5, fun w => ⟨fun i hi => ?_, e3⟩, fun w j hj => ?_, fun i hi => ?_, ⟨by omega, by omega⟩, fun w => ?_⟩
  · rw [hb _ _ (by omega) (by omega) (by omega) (by omega), hz i hi, e1, if_pos]
    exact nI_pos' (by omega)
  · rw [hb _ _ (by omega) (by omega) (by omega) (by omega)]; exact q7 hnn j hj
  · rw [hb _ _ (by unfold gap at hi; omega) (by unfold gap at hi; omega) (by unfold gap at hi; omega) (by unfold gap at hi; omega)]; exact q8 i hi
  · exact absurd w (by rcases hk with q | q <;> rw [q] <;> decide)
theorem beg_f {B : Nat → Int32} {f g o n : Nat} {k v : Int32} (h : g ≠ f ∨ (2 ≤ o ∧ (o + n ≤ 26 ∨ 28 ≤ o))) (h2 : o + n ≤ 256) : re_f (re_beg B f k v) g o n = re_f B g o n := by
  unfold re_beg
  rw [rso (by omega) (by omega) h2, rso (by omega) (by omega) h2]
theorem beg_m {B : Nat → Int32} {f : Nat} {k v : Int32} (h1 : 1 ≤ f) (h2 : f ≤ 12) (hk : k = nI 1 ∨ k = nI 3) : re_f (re_beg B f k v) f 0 2 = md k := by
  unfold re_beg
  rw [rso (by omega) (by omega) (by omega)]
  rcases hk with rfl | rfl
  · exact rs2 (v := 32768) (by omega) h2 (by omega)
  · exact rs2 (v := 40960) (by omega) h2 (by omega)
theorem beg_l {B : Nat → Int32} {f n : Nat} {k : Int32} (h1 : 1 ≤ f) (h2 : f ≤ 12) (hn : n ≤ 1000) : re_f (re_beg B f k (nI n)) f 26 2 = nI n := by
  unfold re_beg
  exact rs2 (by omega) h2 (by omega)
section BEG
variable {B tk : Nat → Int32} {fr : Int32} {X : Nat → Option (Nat → Int32)} {S : mst} {ws : List Nat}
theorem mbeg_eq (h : rw_ ws B tk fr X S) {f : Nat} {k v : Int32} (h1 : 1 ≤ f) (h2 : f ≤ 12) (hf : mff (pj_kd S) 12 1 = f) (h0 : pj_kd S f = 0) : mbeg S k v = (pj_cd S, pj_dk S, pj_tk S, upd (pj_kd S) f k, upd (pj_lc S) f v, pj_sz S, (mrst (pj_bh S, pj_wt S, pj_fs S) f (mby v)).1, (mrst (pj_bh S, pj_wt S, pj_fs S) f (mby v)).2.1, pj_bl S, pj_tg S, (mrst (pj_bh S, pj_wt S, pj_fs S) f (mby v)).2.2) := by
  obtain ⟨e1, e2, e3⟩ := (h.1 f h1 h2).2.2.2.2.2.2.2.2.2 h0
  unfold mbeg
  rw [hf, upd_id (f := pj_sz S) (x := nI 0) e1, mz15_id 15 0 (pj_bl S) (fun i _ q => e3 i (by omega))]
theorem beg_ok (h : rw_ ws B tk fr X S) {f n : Nat} {k : Int32} (h1 : 1 ≤ f) (h2 : f ≤ 12) (hf : mff (pj_kd S) 12 1 = f) (h0 : pj_kd S f = 0) (hk : k = nI 1 ∨ k = nI 3) (hn : n ≤ 1000) : rw_ (if n = 0 then f :: ws else ws) (if n = 0 then wa_add (re_beg B f k (nI n)) f (nI f) else re_beg B f k (nI n)) tk fr X (mbeg S k (nI n)) := by
  obtain ⟨g1, g2⟩ := gone_0 h h1 h2 h0
  have hwt : pj_wt S f = nI 0 := by
    rcases h.2.2.2.2.1.1.2.2.2 f h1 h2 with q | q
    · exact absurd q.2 g2
    · exact q.1
  rw [mbeg_eq h h1 h2 hf h0]
  obtain ⟨r1, r2, r3, r4, ⟨r5, r6⟩, r7, r8⟩ := h
  have hne : k ≠ 0 := by rcases hk with q | q <;> rw [q] <;> decide
  have hh : hdr (re_beg B f k (nI n)) (pj_fs S) := hdr_re (hdr_re r2)
  have hb : ∀ g, 1 ≤ g → g ≤ 12 → re_f (re_beg B f k (nI n)) g 20 4 = pj_bh S g := fun g h3 h4 => by
    rw [beg_f (by omega) (by omega)]; exact (r1 g h3 h4).2.2.1
  by_cases e : n = 0
  · subst e
    rw [if_pos rfl, if_pos rfl]
    have em : mrst (pj_bh S, pj_wt S, pj_fs S) f (mby (nI 0)) = (upd (pj_bh S) f (pj_fs S), upd (pj_wt S) f (vp_nar .boolean (nI 1)), nI f) := by
      have e1 : mby (nI 0) = nI 1 := by decide
      unfold mrst
      rw [e1, if_neg (by show ¬ nI 1 = pj_wt S f; rw [hwt]; decide), if_neg (by decide)]
    rw [em]
    obtain ⟨l1, l2, l3, l4⟩ := LA hb hh r5 h1 h2 g2
    refine ⟨fun g h3 h4 => ?_, l2, r3, r4, ⟨l3, fun g h3 h4 => ?_⟩, r7, r8⟩
    · by_cases eg : g = f
      · subst eg
        refine rc_new (r1 g h3 h4) h0 hk rfl (Nat.zero_le _) (fun o n w1 w2 w3 w4 => ?_) ?_ ?_ (l1 g h3 h4)
        · rw [l4 _ _ _ w3 w2, beg_f (by omega) w2]
        · rw [l4 _ _ _ (by omega) (by omega), beg_m h1 h2 hk]
        · rw [l4 _ _ _ (by omega) (by omega), beg_l h1 h2 (Nat.zero_le _)]
      · refine rc_fr (r1 g h3 h4) (fun o n w1 w2 => ?_) (l1 g h3 h4) (pk_un eg) rfl (pk_un eg) (fun _ _ => rfl) (fun _ _ => rfl)
        rw [l4 _ _ _ w2 w1, beg_f (Or.inl eg) w1]
    · by_cases eg : g = f
      · subst eg
        refine ⟨fun _ => ⟨?_, ?_⟩, fun _ => List.mem_cons_self⟩
        · show upd (pj_kd S) g k g ≠ 0
          rw [pk_us]; exact hne
        · show upd (pj_lc S) g (nI 0) g = 0
          rw [pk_us]; rfl
      · show g ∈ f :: ws ↔ upd (pj_kd S) f k g ≠ 0 ∧ upd (pj_lc S) f (nI 0) g = 0
        rw [pk_un eg, pk_un eg, List.mem_cons]
        exact ⟨fun w => (r6 g h3 h4).mp (w.resolve_left eg), fun w => Or.inr ((r6 g h3 h4).mpr w)⟩
  · rw [if_neg e, if_neg e]
    have em : mrst (pj_bh S, pj_wt S, pj_fs S) f (mby (nI n)) = (pj_bh S, pj_wt S, pj_fs S) := by
      have e1 : mby (nI n) = nI 0 := by unfold mby; rw [if_neg (nI_ne0 (by omega) (by omega))]
      unfold mrst
      rw [e1, if_pos (show nI 0 = pj_wt S f from hwt.symm)]
    rw [em]
    refine ⟨fun g h3 h4 => ?_, hh, r3, r4, ⟨r5, fun g h3 h4 => ?_⟩, r7, r8⟩
    · by_cases eg : g = f
      · subst eg
        exact rc_new (r1 g h3 h4) h0 hk rfl hn (fun o n w1 w2 w3 w4 => beg_f (by omega) w2) (beg_m h1 h2 hk) (beg_l h1 h2 hn) (hb g h3 h4)
      · exact rc_fr (r1 g h3 h4) (fun o n w1 w2 => beg_f (Or.inl eg) w1) (hb g h3 h4) (pk_un eg) rfl (pk_un eg) (fun _ _ => rfl) (fun _ _ => rfl)
    · by_cases eg : g = f
      · subst eg
        refine ⟨fun w => absurd w g2, fun w => ?_⟩
        have : upd (pj_lc S) g (nI n) g = 0 := w.2
        rw [pk_us] at this
        exact absurd this (nI_ne0 (by omega) (by omega))
      · show g ∈ ws ↔ upd (pj_kd S) f k g ≠ 0 ∧ upd (pj_lc S) f (nI n) g = 0
        rw [pk_un eg, pk_un eg]; exact r6 g h3 h4
end BEG
theorem rw_cod {ws : List Nat} {B tk : Nat → Int32} {fr : Int32} {X : Nat → Option (Nat → Int32)} {S : mst} (c : Nat) (h : rw_ ws B tk fr X S) : rw_ ws B tk fr X (mcod S c) := h
theorem p_make : PU_make rl := by
  rintro B tk fr X S x1 ⟨ws, h⟩
  have hc : mmk_c S x1.toInt = mk_c B x1.toInt := by
    unfold mmk_c mk_c
    rw [abs12 h]
    by_cases e : x1.toInt < 0 ∨ 1000 < x1.toInt
    · rw [if_pos e, if_neg (by omega)]
    · rw [if_neg e, if_pos (by omega)]
  have h3 : mk_c B x1.toInt < 3 := by unfold mk_c; split; omega; split <;> omega
  unfold mmk
  rw [hc]
  simp only [cif_s]
  by_cases e : mk_c B x1.toInt = 0
  · have e1 : ¬ (x1.toInt < 0 ∨ 1000 < x1.toInt) := fun w => by unfold mk_c at e; rw [if_pos w] at e; cases e
    have e2 : ¬ re_abs B 12 1 = 0 := fun w => by unfold mk_c at e; rw [if_neg e1, if_pos w] at e; cases e
    rw [if_pos e]
    refine ⟨h3, by rw [e]; rfl, fun _ => by rw [if_pos e, abs12 h], ?_⟩
    unfold cif
    rw [if_pos e]
    have ha := abs12 h
    obtain ⟨n, hn⟩ : ∃ n : Nat, x1.toInt = n := ⟨x1.toInt.toNat, by omega⟩
    have hx : x1 = nI n := z_i hn (by omega)
    have hq := mff_0 (kd := pj_kd S) 12 1
    rw [← ha] at hq
    have hq2 := hq.resolve_left e2
    have hB := beg_ok (k := nI 1) (n := n) (rw_cod 0 h) (by omega) (by omega) ha.symm hq2.2.2 (Or.inl rfl) (by omega)
    unfold mk_B
    rw [← hx] at hB
    rw [hn]
    by_cases e5 : n = 0
    · rw [if_pos e5] at hB
      rw [if_pos (by omega)]
      rw [if_pos e5] at hB
      exact ⟨_, hB⟩
    · rw [if_neg e5] at hB
      rw [if_neg (by omega)]
      rw [if_neg e5] at hB
      exact ⟨_, hB⟩
  · rw [if_neg e]
    refine ⟨h3, rfl, fun w => absurd w e, ?_⟩
    unfold cif
    rw [if_neg e]
    exact ⟨ws, h⟩
