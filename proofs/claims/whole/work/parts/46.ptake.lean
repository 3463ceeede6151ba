/-! pure: blocks are taken and given back -/
def rq (B tk : Nat → Int32) (fr : Int32) (X : Nat → Option (Nat → Int32)) (S : mst) : Prop :=
  (∀ f, 1 ≤ f → f ≤ 12 → rc B (pj_kd S) (pj_sz S) (pj_bh S) (pj_lc S) (pj_bl S) (pj_tg S) f) ∧ hdr B (pj_fs S) ∧ zOK (pj_sz S) ∧ bOK (pj_bl S) ∧ bks X (pj_dk S) (pj_tk S) (pj_bl S) (pj_sz S) ∧ tks tk (pj_tk S) fr
theorem rw_rq {ws : List Nat} {B tk : Nat → Int32} {fr : Int32} {X : Nat → Option (Nat → Int32)} {S : mst} : rw_ ws B tk fr X S ↔ rq B tk fr X S ∧ wtg (pj_kd S) (pj_lc S) (pj_bh S) (pj_wt S) (pj_fs S) ws :=
  ⟨fun h => ⟨⟨h.1, h.2.1, h.2.2.1, h.2.2.2.1, h.2.2.2.2.2.1, h.2.2.2.2.2.2⟩, h.2.2.2.2.1⟩, fun h => ⟨h.1.1, h.1.2.1, h.1.2.2.1, h.1.2.2.2.1, h.2, h.1.2.2.2.2.1, h.1.2.2.2.2.2⟩⟩
def mput (S : mst) (T : m3) : mst := (pj_cd S, T.1, T.2.1, pj_kd S, pj_lc S, pj_sz S, pj_bh S, pj_wt S, T.2.2, pj_tg S, pj_fs S)
theorem lf_sp {tk : Nat → Int32} : ∀ k b, (db_lf tk k b = 0 ∧ ∀ i, b ≤ i → i < b + k → tk i ≠ 0) ∨ (b ≤ db_lf tk k b ∧ db_lf tk k b < b + k ∧ tk (db_lf tk k b) = 0 ∧ ∀ i, b ≤ i → i < db_lf tk k b → tk i ≠ 0)
  | 0, b => Or.inl ⟨rfl, fun i h1 h2 => absurd h2 (by omega)⟩
  | k + 1, b => by
    rw [db_lf]
    by_cases e : tk b = 0
    · rw [if_pos e]; exact Or.inr ⟨by omega, by omega, e, fun i h1 h2 => absurd h2 (by omega)⟩
    · rw [if_neg e]
      rcases lf_sp (tk := tk) k (b + 1) with q | q
      · refine Or.inl ⟨q.1, fun i h1 h2 => ?_⟩
        by_cases w : i = b
        · rw [w]; exact e
        · exact q.2 i (by omega) (by omega)
      · refine Or.inr ⟨by omega, by omega, q.2.2.1, fun i h1 h2 => ?_⟩
        by_cases w : i = b
        · rw [w]; exact e
        · exact q.2.2.2 i (by omega) h2
theorem mt1_sp {tk : Nat → Int32} {g : Nat} : ∀ n x, (mt1 tk g n x = x ∧ ∀ i, 1 ≤ i → i ≤ n → g ≤ i → tk i ≠ 0) ∨ (1 ≤ mt1 tk g n x ∧ mt1 tk g n x ≤ n ∧ g ≤ mt1 tk g n x ∧ tk (mt1 tk g n x) = 0 ∧ ∀ i, 1 ≤ i → g ≤ i → i < mt1 tk g n x → tk i ≠ 0)
  | 0, x => Or.inl ⟨rfl, fun i h1 h2 => absurd h2 (by omega)⟩
  | n + 1, x => by
    rw [mt1]
    by_cases e : tk (n + 1) = 0 ∧ g ≤ n + 1
    · rw [if_pos e]
      rcases mt1_sp (tk := tk) (g := g) n (n + 1) with q | q
      · rw [q.1]; exact Or.inr ⟨by omega, by omega, e.2, e.1, fun i h1 h2 h3 => q.2 i h1 (by omega) h2⟩
      · exact Or.inr ⟨q.1, by omega, q.2.2⟩
    · rw [if_neg e]
      rcases mt1_sp (tk := tk) (g := g) n x with q | q
      · refine Or.inl ⟨q.1, fun i h1 h2 h3 => ?_⟩
        by_cases w : i = n + 1
        · rw [w] at h3 ⊢; exact fun w2 => e ⟨w2, h3⟩
        · exact q.2 i h1 (by omega) h3
      · exact Or.inr ⟨q.1, by omega, q.2.2⟩
theorem mt2_sp {tk : Nat → Int32} {g : Nat} : ∀ n x, x < g → (∀ i, 1 ≤ i → i ≤ n → g ≤ i → tk i ≠ 0) → (mt2 tk g n x = x ∧ ∀ i, 1 ≤ i → i ≤ n → tk i ≠ 0) ∨ (1 ≤ mt2 tk g n x ∧ mt2 tk g n x ≤ n ∧ tk (mt2 tk g n x) = 0 ∧ ∀ i, 1 ≤ i → i < mt2 tk g n x → tk i ≠ 0)
  | 0, x, _, _ => Or.inl ⟨rfl, fun i h1 h2 => absurd h2 (by omega)⟩
  | n + 1, x, hx, hg => by
    rw [mt2, if_neg (by omega)]
    by_cases e : tk (n + 1) = 0
    · rw [if_pos e]
      have hn : n + 1 < g := by
        refine Decidable.byContradiction fun w => hg (n + 1) (by omega) (by omega) (by omega) e
      rcases mt2_sp (tk := tk) (g := g) n (n + 1) hn (fun i h1 h2 h3 => hg i h1 (by omega) h3) with q | q
      · rw [q.1]; exact Or.inr ⟨by omega, by omega, e, fun i h1 h2 => q.2 i h1 (by omega)⟩
      · exact Or.inr ⟨q.1, by omega, q.2.2⟩
    · rw [if_neg e]
      rcases mt2_sp (tk := tk) (g := g) n x hx (fun i h1 h2 h3 => hg i h1 (by omega) h3) with q | q
      · refine Or.inl ⟨q.1, fun i h1 h2 => ?_⟩
        by_cases w : i = n + 1
        · rw [w]; exact e
        · exact q.2 i h1 (by omega)
      · exact Or.inr ⟨q.1, by omega, q.2.2⟩
theorem cn_ex {p : Nat → Bool} : ∀ k q, 0 < cn p k q → ∃ i, q ≤ i ∧ i < q + k ∧ p i = true
  | 0, _, h => absurd h (by rw [cn]; omega)
  | k + 1, q, h => by
    rw [cn] at h
    by_cases e : p q = true
    · exact ⟨q, by omega, by omega, e⟩
    · rw [if_neg e] at h
      obtain ⟨i, h1, h2, h3⟩ := cn_ex (p := p) k (q + 1) (by omega)
      exact ⟨i, by omega, by omega, h3⟩
theorem fnd {tc tk : Nat → Int32} {g : Nat} (hg : 4 ≤ g) (hg2 : g ≤ 128) (he : ∀ b, 4 ≤ b → b < 128 → tc b = tk b) (hz : ∀ b, b < 4 → tk b ≠ 0) (hf : 0 < mf1 tk 128 0 0) : dx_tb tc (g : Int) = mt2 tk g 127 (mt1 tk g 127 0) ∧ 4 ≤ dx_tb tc (g : Int) ∧ dx_tb tc (g : Int) < 128 ∧ tk (dx_tb tc (g : Int)) = 0 := by
  rw [mf1_cn, Nat.zero_add] at hf
  obtain ⟨e, -, e2, e3⟩ := cn_ex 128 0 hf
  have e4 : tk e = 0 := of_decide_eq_true e3
  have e5 : 4 ≤ e := Decidable.byContradiction fun w => hz e (by omega) e4
  have hm : (max (g : Int) 4).toNat = g := by omega
  unfold dx_tb
  rw [hm]
  rcases lf_sp (tk := tc) (128 - g) g with ⟨q1, q2⟩ | ⟨q1, q2, q3, q4⟩
  · rw [if_pos q1]
    have hn : ∀ i, 1 ≤ i → i ≤ 127 → g ≤ i → tk i ≠ 0 := fun i h1 h2 h3 => by rw [← he i (by omega) (by omega)]; exact q2 i h3 (by omega)
    rcases mt1_sp (tk := tk) (g := g) 127 0 with ⟨p1, p2⟩ | ⟨p1, p2, p3, p4, -⟩
    · rw [p1]
      rcases mt2_sp (tk := tk) (g := g) 127 0 (by omega) hn with ⟨w1, w2⟩ | ⟨w1, w2, w3, w4⟩
      · exact absurd e4 (w2 e (by omega) (by omega))
      · have w5 : 4 ≤ mt2 tk g 127 0 := Decidable.byContradiction fun w => hz _ (by omega) w3
        rcases lf_sp (tk := tc) 124 4 with ⟨v1, v2⟩ | ⟨v1, v2, v3, v4⟩
        · exact absurd e4 (by rw [← he e e5 e2]; exact v2 e e5 (by omega))
        · have v5 : tk (db_lf tc 124 4) = 0 := by rw [← he _ v1 (by omega)]; exact v3
          refine ⟨?_, v1, by omega, v5⟩
          rcases Nat.lt_trichotomy (db_lf tc 124 4) (mt2 tk g 127 0) with u | u | u
          · exact absurd v5 (w4 _ (by omega) u)
          · exact u
          · exact absurd w3 (by rw [← he _ w5 (by omega)]; exact v4 _ w5 u)
    · exact absurd p4 (hn _ p1 p2 p3)
  · rw [if_neg (by omega)]
    have q5 : tk (db_lf tc (128 - g) g) = 0 := by rw [← he _ (by omega) (by omega)]; exact q3
    rcases mt1_sp (tk := tk) (g := g) 127 0 with ⟨p1, p2⟩ | ⟨p1, p2, p3, p4, p5⟩
    · exact absurd q5 (p2 _ (by omega) (by omega) q1)
    · have hm2 : mt2 tk g 127 (mt1 tk g 127 0) = mt1 tk g 127 0 := by
        show (if g ≤ mt1 tk g 127 0 then mt1 tk g 127 0 else _) = _
        rw [if_pos p3]
      rw [hm2]
      refine ⟨?_, by omega, by omega, q5⟩
      rcases Nat.lt_trichotomy (db_lf tc (128 - g) g) (mt1 tk g 127 0) with u | u | u
      · exact absurd q5 (p5 _ (by omega) q1 u)
      · exact u
      · exact absurd p4 (by rw [← he _ (by omega) (by omega)]; exact q4 _ p3 u)
theorem mzd_at {fd : Nat} : ∀ (n i : Nat) (d : Nat → Int32) (j : Nat), mzd fd n i d j = if 1024 * fd + i ≤ j ∧ j < 1024 * fd + i + n then nI 0 else d j
  | 0, i, d, j => by rw [mzd, if_neg (by omega)]
  | n + 1, i, d, j => by
    rw [mzd, mzd_at n (i + 1)]
    by_cases e : j = 1024 * fd + i
    · rw [if_neg (by omega), if_pos (by omega), e, pk_us]; decide
    · rw [pk_un e]
      by_cases e2 : 1024 * fd + (i + 1) ≤ j ∧ j < 1024 * fd + (i + 1) + n
      · rw [if_pos e2, if_pos (by omega)]
      · rw [if_neg e2, if_neg (by omega)]
theorem mbo_un {bl : Nat → Nat} {f k v : Nat} (hk : k < 15) : mbo (un bl (15 * f + k) v) f 15 0 0 + (if bl (15 * f + k) = 0 then 0 else 1) = mbo bl f 15 0 0 + (if v = 0 then 0 else 1) := by
  rw [mbo_cn, mbo_cn, Nat.zero_add, Nat.zero_add]
  have := cn_pt (p := fun q => decide (bl (15 * f + q) ≠ 0)) (p' := fun q => decide (un bl (15 * f + k) v (15 * f + q) ≠ 0)) (j := k) 15 0 (by omega) (by omega) (fun i hi => by rw [un_n (by omega)])
  rw [un_s] at this
  by_cases e1 : bl (15 * f + k) = 0 <;> by_cases e2 : v = 0 <;> simp [e1, e2] at this ⊢ <;> omega
theorem mf1_up {tk : Nat → Int32} {b : Nat} {v : Int32} (hb : b < 128) : mf1 (upd tk b v) 128 0 0 + (if tk b = 0 then 1 else 0) = mf1 tk 128 0 0 + (if v = 0 then 1 else 0) := by
  rw [mf1_cn, mf1_cn, Nat.zero_add, Nat.zero_add]
  have := cn_pt (p := fun q => decide (tk q = 0)) (p' := fun q => decide (upd tk b v q = 0)) (j := b) 128 0 (by omega) (by omega) (fun i hi => by rw [pk_un hi])
  rw [pk_us] at this
  by_cases e1 : tk b = 0 <;> by_cases e2 : v = 0 <;> simp [e1, e2] at this ⊢ <;> omega
theorem rc_bl {B B' kd sz bh lc tg : Nat → Int32} {bl : Nat → Nat} {f k v : Nat} (h : rc B kd sz bh lc bl tg f) (hk : k < 15) (hn : ¬ near kd sz f) (h0 : kd f = 0 → v = 0) (hb : ∀ o n, o + n ≤ 256 → (o + n ≤ 28 ∨ 32 ≤ o) → (o + n ≤ 40 + 4 * k ∨ 44 + 4 * k ≤ o) → re_f B' f o n = re_f B f o n) (hv : re_f B' f (40 + 4 * k) 4 = nI v) (hm : re_f B' f 28 4 = nI (2 * mbo (un bl (15 * f + k) v) f 15 0 0)) : rc B' kd sz bh lc (un bl (15 * f + k) v) tg f := by
  obtain ⟨q1, q2, q3, q4, q5, q6, q7, q8, q9, q10⟩ := h
  unfold rc
  rw [hb 0 2 (by omega) (by omega) (by omega), hb 4 4 (by omega) (by omega) (by omega), hb 20 4 (by omega) (by omega) (by omega), hb 26 2 (by omega) (by omega) (by omega)]
  refine ⟨q1, q2, q3, q4, hm, fun w => absurd w hn, fun w j hj => ?_, fun i hi => ?_, q9, fun w => ⟨(q10 w).1, (q10 w).2.1, fun j hj => ?_⟩⟩
  · by_cases e : j = k
    · subst e; rw [hv, un_s]
    · rw [hb _ _ (by omega) (by omega) (by omega), un_n (by omega)]; exact q7 hn j hj
  · rw [hb _ _ (by unfold gap at hi; omega) (by unfold gap at hi; omega) (by unfold gap at hi; omega)]; exact q8 i hi
  · by_cases e : j = k
    · subst e; rw [un_s]; exact h0 w
    · rw [un_n (by omega)]; exact (q10 w).2.2 j hj
section TAK
variable {B tk : Nat → Int32} {fr : Int32} {X : Nat → Option (Nat → Int32)} {S : mst} {d t : Nat → Int32} {b : Nat → Nat} {f k : Nat}
theorem goal_ok (h : rq B tk fr X (mput S (d, t, b))) (h1 : 1 ≤ f) (h2 : f ≤ 12) (hk : k < 15) : (bo_goal B f k).toInt = ((mt_g b f k : Nat) : Int) ∧ 4 ≤ mt_g b f k ∧ mt_g b f k ≤ 128 := by
  unfold bo_goal mt_g mt_b
  rcases k with _ | k
  · have e : re_blk B f (((0 : Nat) : Int) - ((1 : Nat) : Int)) = 0 := by
      unfold re_blk; rw [if_pos (by omega)]; rfl
    rw [if_pos e, if_pos rfl, if_pos rfl]
    exact ⟨by decide, by omega, by omega⟩
  · have e : re_blk B f (((k + 1 : Nat) : Int) - ((1 : Nat) : Int)) = nI (b (15 * f + k)) := by
      rw [show ((k + 1 : Nat) : Int) - ((1 : Nat) : Int) = ((k : Nat) : Int) by omega]
      exact rc_blk (h.1 f h1 h2) (by omega)
    have hb : b (15 * f + k) < 128 := h.2.2.2.1 (15 * f + k)
    rw [e, if_neg (show ¬ k + 1 = 0 by omega), show 15 * f + (k + 1) - 1 = 15 * f + k by omega]
    by_cases e2 : b (15 * f + k) = 0
    · rw [e2, if_pos (by decide), if_pos rfl]; exact ⟨by decide, by omega, by omega⟩
    · rw [if_neg (nI_ne0 (by omega) (by omega)), if_neg e2, nI_add, nI_toInt (by omega)]
      have := (h.2.2.2.2.1.1 (15 * f + k) (by omega) (by omega) e2).1
      have h9 : pj_bl (mput S (d, t, b)) (15 * f + k) = b (15 * f + k) := rfl
      exact ⟨rfl, by omega, by omega⟩
theorem fnd_ok (h : rq B tk fr X (mput S (d, t, b))) (h1 : 1 ≤ f) (h2 : f ≤ 12) (hk : k < 15) (hf : 0 < mf1 t 128 0 0) : tb_b (B, tk, fr, X) f k = mtd t b f k ∧ 4 ≤ mtd t b f k ∧ mtd t b f k < 128 ∧ t (mtd t b f k) = 0 := by
  obtain ⟨g1, g2, g3⟩ := goal_ok h h1 h2 hk
  have := fnd (g := mt_g b f k) g2 g3 h.2.2.2.2.2.1 h.2.2.2.2.2.2.1 hf
  unfold tb_b mtd
  rw [g1]
  have e : mt2 t (mt_g b f k) 127 (mt1 t (mt_g b f k) 127 0) = dx_tb tk (mt_g b f k : Int) := this.1.symm
  rw [e]
  exact ⟨rfl, this.2⟩
theorem tb_ok (h : rq B tk fr X (mput S (d, t, b))) (h1 : 1 ≤ f) (h2 : f ≤ 12) (hk : k < 15) (hkd : pj_kd S f ≠ 0) (hn : ¬ near (pj_kd S) (pj_sz S) f) (h0 : b (15 * f + k) = 0) (hf : 0 < mf1 t 128 0 0) :
    rq (tbS (B, tk, fr, X) f k).1 (tbS (B, tk, fr, X) f k).2.1 (tbS (B, tk, fr, X) f k).2.2.1 (tbS (B, tk, fr, X) f k).2.2.2 (mput S (mtk (d, t, b) f k)) ∧ mf1 (mtk (d, t, b) f k).2.1 128 0 0 + 1 = mf1 t 128 0 0 := by
  obtain ⟨e1, e2, e3, e4⟩ := fnd_ok h h1 h2 hk hf
  have hr := h.1 f h1 h2
  have hml := mbo_le (bl := b) (f := f) 15 0 0
  have hmb := mbo_un (bl := b) (f := f) (k := k) (v := mtd t b f k) hk
  rw [if_pos h0, if_neg (by omega), Nat.add_zero] at hmb
  have hfm : mf1 (upd t (mtd t b f k) (vp_nar .boolean (nI 1))) 128 0 0 + 1 = mf1 t 128 0 0 := by
    have := mf1_up (tk := t) (b := mtd t b f k) (v := vp_nar .boolean (nI 1)) e3
    rw [if_pos e4, if_neg (by decide)] at this
    omega
  have hfl := mf1_le (tk := t) 128 0 0
  unfold tbS mtk dx_tk dx_tf dx_tx
  rw [e1, if_neg (by omega), if_neg (by omega), if_neg (by omega), if_neg (by omega)]
  dsimp only
  have hD := mzd_at (fd := mtd t b f k) 1024 0 d
  generalize mzd (mtd t b f k) 1024 0 d = D at hD ⊢
  clear e1
  generalize mtd t b f k = w0 at *
  refine ⟨⟨fun g h3 h4 => ?_, ?_, h.2.2.1, un_lt h.2.2.2.1 e3, ⟨fun j j1 j2 j3 => ?_, fun i j i1 i2 j1 j2 hij h5 => ?_⟩, fun c c1 c2 => ?_, fun c c1 => ?_, ?_⟩, hfm⟩
  · by_cases eg : g = f
    · subst eg
      refine rc_bl hr hk hn (fun w => absurd w hkd) (fun o n w1 w2 w3 => ?_) ?_ ?_
      · unfold re_add
        rw [rso (by omega) (by omega) w1, rso (by omega) (by omega) w1]
      · unfold re_add
        rw [rso (by omega) (by omega) (by omega), rs4 (by omega) h2]
      · unfold re_add
        rw [rs4 (by omega) h2]
        have e5 : re_nb (re_set B g (40 + 4 * k) 4 (nI (w0))) g = nI (mbo b g 15 0 0) := by
          have := rc_nb hr
          unfold re_nb at this ⊢
          rw [rso (by omega) (by omega) (by omega)]; exact this
        rw [e5, nI_add, pk_mul, ← hmb]
    · refine rc_fr (h.1 g h3 h4) (fun o n w1 w2 => ?_) ?_ rfl rfl rfl (fun i hi => un_n (by omega)) (fun _ _ => rfl)
      · unfold re_add
        rw [rso (by omega) (by omega) w1, rso (by omega) (by omega) w1]
      · unfold re_add
        rw [rso (by omega) (by omega) (by omega), rso (by omega) (by omega) (by omega)]
        exact (h.1 g h3 h4).2.2.1
  · exact hdr_re (hdr_re h.2.1)
  · show 4 ≤ un b (15 * f + k) (w0) j ∧ upd t (w0) (vp_nar .boolean (nI 1)) (un b (15 * f + k) (w0) j) ≠ 0 ∧ ∃ c, va_up X (w0) (some fun _ => 0) (un b (15 * f + k) (w0) j) = some c ∧ ∀ i, i < 1024 → c i = D (1024 * un b (15 * f + k) (w0) j + i) ∧ ((pj_sz S (j / 15)).toInt ≤ ((1024 * (j % 15) + i : Nat) : Int) → c i = nI 0)
    by_cases ej : j = 15 * f + k
    · rw [ej, un_s, pk_us]
      refine ⟨e2, by decide, fun _ => 0, if_pos rfl, fun i hi => ⟨?_, fun _ => rfl⟩⟩
      rw [hD, if_pos (by omega)]; rfl
    · rw [un_n ej]
      have j4 : b j ≠ 0 := by
        have : un b (15 * f + k) (w0) j ≠ 0 := j3
        rwa [un_n ej] at this
      obtain ⟨w1, w2, c, w3, w4⟩ := h.2.2.2.2.1.1 j j1 j2 j4
      have hne : b j ≠ w0 := fun q => w2 (by show t (b j) = 0; rw [q]; exact e4)
      rw [pk_un hne]
      refine ⟨w1, w2, c, ?_, fun i hi => ⟨?_, (w4 i hi).2⟩⟩
      · unfold va_up; rw [if_neg hne]; exact w3
      · rw [hD, if_neg (by omega)]; exact (w4 i hi).1
  · have hij : un b (15 * f + k) (w0) i = un b (15 * f + k) (w0) j := hij
    have h5 : un b (15 * f + k) (w0) i ≠ 0 := h5
    have key : ∀ j, 15 ≤ j → j < 195 → b j = w0 → False := fun j j1 j2 w => by
      have w2 := (h.2.2.2.2.1.1 j j1 j2 (show b j ≠ 0 by omega)).2.1
      exact w2 (by show t (b j) = 0; rw [w]; exact e4)
    by_cases ei : i = 15 * f + k
    · by_cases ej : j = 15 * f + k
      · rw [ei, ej]
      · rw [ei, un_s, un_n ej] at hij
        exact (key j j1 j2 hij.symm).elim
    · by_cases ej : j = 15 * f + k
      · rw [ej, un_s, un_n ei] at hij
        exact (key i i1 i2 hij).elim
      · rw [un_n ei, un_n ej] at hij
        rw [un_n ei] at h5
        exact h.2.2.2.2.1.2 i j i1 i2 j1 j2 hij h5
  · show upd tk (w0) (vp_nar .boolean (nI 1)) c = upd t (w0) (vp_nar .boolean (nI 1)) c
    by_cases ec : c = w0
    · rw [ec, pk_us, pk_us]
    · rw [pk_un ec, pk_un ec]; exact h.2.2.2.2.2.1 c c1 c2
  · show upd t (w0) (vp_nar .boolean (nI 1)) c ≠ 0
    rw [pk_un (by omega)]; exact h.2.2.2.2.2.2.1 c c1
  · show fr - nI 1 = nI (mf1 (upd t (w0) (vp_nar .boolean (nI 1))) 128 0 0)
    have : fr = nI (mf1 t 128 0 0) := h.2.2.2.2.2.2.2
    rw [this, pk_sub (by omega), ← hfm, Nat.add_sub_cancel]
end TAK
