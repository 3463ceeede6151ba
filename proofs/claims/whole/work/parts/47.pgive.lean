/-! pure: blocks are given back; the loops -/
section GIV
variable {B tk : Nat → Int32} {fr : Int32} {X : Nat → Option (Nat → Int32)} {S : mst} {d t : Nat → Int32} {b : Nat → Nat} {f k : Nat}
theorem gb1 (h : rq B tk fr X (mput S (d, t, b))) (h1 : 1 ≤ f) (h2 : f ≤ 12) (hk : k < 15) (h0 : b (15 * f + k) ≠ 0) :
    rq (re_rem B f k) (db_gt tk (re_blk B f ((k : Nat) : Int)).toInt) (db_gf tk fr (re_blk B f ((k : Nat) : Int)).toInt) X (mput S (d, upd t (b (15 * f + k)) (vp_nar .boolean (nI 0)), un b (15 * f + k) 0)) := by
  have hr := h.1 f h1 h2
  have e3 : b (15 * f + k) < 128 := h.2.2.2.1 (15 * f + k)
  obtain ⟨e2, e4, -⟩ := h.2.2.2.2.1.1 (15 * f + k) (by omega) (by omega) h0
  have e2 : 4 ≤ b (15 * f + k) := e2
  have e4 : t (b (15 * f + k)) ≠ 0 := e4
  have e5 : tk (b (15 * f + k)) ≠ 0 := by
    have : tk (b (15 * f + k)) = t (b (15 * f + k)) := h.2.2.2.2.2.1 _ e2 e3
    rw [this]; exact e4
  have hbk : re_blk B f ((k : Nat) : Int) = nI (b (15 * f + k)) := rc_blk hr hk
  have hn : ¬ near (pj_kd S) (pj_sz S) f := fun w => h0 ((hr.2.2.2.2.2.1 w).2 k hk)
  have hkd : pj_kd S f = 0 → False := fun w => h0 ((hr.2.2.2.2.2.2.2.2.2 w).2.2 k hk)
  have hml := mbo_le (bl := b) (f := f) 15 0 0
  have hmb := mbo_un (bl := b) (f := f) (k := k) (v := 0) hk
  rw [if_neg h0, if_pos rfl] at hmb
  have hfm : mf1 (upd t (b (15 * f + k)) (vp_nar .boolean (nI 0))) 128 0 0 = mf1 t 128 0 0 + 1 := by
    have := mf1_up (tk := t) (b := b (15 * f + k)) (v := vp_nar .boolean (nI 0)) e3
    rw [if_neg e4, if_pos (by decide)] at this
    omega
  unfold db_gt db_gf
  rw [hbk, nI_toInt (by omega), Int.toNat_natCast, if_neg (by rintro (w | w | w); omega; omega; exact e5 w), if_neg (by rintro (w | w | w); omega; omega; exact e5 w)]
  refine ⟨fun g h3 h4 => ?_, ?_, h.2.2.1, un_lt h.2.2.2.1 (by omega), ⟨fun j j1 j2 j3 => ?_, fun i j i1 i2 j1 j2 hij h5 => ?_⟩, fun c c1 c2 => ?_, fun c c1 => ?_, ?_⟩
  · by_cases eg : g = f
    · subst eg
      refine rc_bl hr hk hn (fun w => rfl) (fun o n w1 w2 w3 => ?_) ?_ ?_
      · unfold re_rem
        rw [rso (by omega) (by omega) w1, rso (by omega) (by omega) w1]
      · unfold re_rem
        rw [rso (by omega) (by omega) (by omega), rs4 (by omega) h2]
      · unfold re_rem
        rw [rs4 (by omega) h2]
        have e5 : re_nb (re_set B g (40 + 4 * k) 4 (nI 0)) g = nI (mbo b g 15 0 0) := by
          have := rc_nb hr
          unfold re_nb at this ⊢
          rw [rso (by omega) (by omega) (by omega)]; exact this
        have e6 : mbo b g 15 0 0 - 1 = mbo (un b (15 * g + k) 0) g 15 0 0 := by omega
        rw [e5, pk_sub (by omega), pk_mul, e6]
    · refine rc_fr (h.1 g h3 h4) (fun o n w1 w2 => ?_) ?_ rfl rfl rfl (fun i hi => un_n (by omega)) (fun _ _ => rfl)
      · unfold re_rem
        rw [rso (by omega) (by omega) w1, rso (by omega) (by omega) w1]
      · unfold re_rem
        rw [rso (by omega) (by omega) (by omega), rso (by omega) (by omega) (by omega)]
        exact (h.1 g h3 h4).2.2.1
  · exact hdr_re (hdr_re h.2.1)
  · have ej : j ≠ 15 * f + k := fun w => j3 (by rw [w]; exact un_s)
    have eu : un b (15 * f + k) 0 j = b j := un_n ej
    show 4 ≤ un b (15 * f + k) 0 j ∧ upd t (b (15 * f + k)) (vp_nar .boolean (nI 0)) (un b (15 * f + k) 0 j) ≠ 0 ∧ ∃ c, X (un b (15 * f + k) 0 j) = some c ∧ ∀ i, i < 1024 → c i = d (1024 * un b (15 * f + k) 0 j + i) ∧ ((pj_sz S (j / 15)).toInt ≤ ((1024 * (j % 15) + i : Nat) : Int) → c i = nI 0)
    have j4 : b j ≠ 0 := fun w => j3 (eu.trans w)
    rw [eu]
    obtain ⟨w1, w2, w3⟩ := h.2.2.2.2.1.1 j j1 j2 j4
    have hne : b j ≠ b (15 * f + k) := fun q => ej (h.2.2.2.2.1.2 j (15 * f + k) j1 j2 (by omega) (by omega) q j4)
    rw [pk_un hne]
    exact ⟨w1, w2, w3⟩
  · have hij : un b (15 * f + k) 0 i = un b (15 * f + k) 0 j := hij
    have h5 : un b (15 * f + k) 0 i ≠ 0 := h5
    have ei : i ≠ 15 * f + k := fun w => h5 (by rw [w]; exact un_s)
    have ej : j ≠ 15 * f + k := fun w => h5 (by rw [hij, w]; exact un_s)
    rw [un_n ei, un_n ej] at hij
    rw [un_n ei] at h5
    exact h.2.2.2.2.1.2 i j i1 i2 j1 j2 hij h5
  · show upd tk (b (15 * f + k)) (vp_nar .boolean (nI 0)) c = upd t (b (15 * f + k)) (vp_nar .boolean (nI 0)) c
    by_cases ec : c = b (15 * f + k)
    · rw [ec, pk_us, pk_us]
    · rw [pk_un ec, pk_un ec]; exact h.2.2.2.2.2.1 c c1 c2
  · show upd t (b (15 * f + k)) (vp_nar .boolean (nI 0)) c ≠ 0
    rw [pk_un (by omega)]; exact h.2.2.2.2.2.2.1 c c1
  · show fr + nI 1 = nI (mf1 (upd t (b (15 * f + k)) (vp_nar .boolean (nI 0))) 128 0 0)
    have : fr = nI (mf1 t 128 0 0) := h.2.2.2.2.2.2.2
    rw [this, nI_add, hfm]
end GIV
theorem gbS_ok {S : mst} {X : Nat → Option (Nat → Int32)} {d : Nat → Int32} {f : Nat} (h1 : 1 ≤ f) (h2 : f ≤ 12) : ∀ (n q : Nat) (B tk : Nat → Int32) (fr : Int32) (t : Nat → Int32) (b : Nat → Nat), q + n ≤ 15 → rq B tk fr X (mput S (d, t, b)) → rq (gbS f n q (B, tk, fr)).1 (gbS f n q (B, tk, fr)).2.1 (gbS f n q (B, tk, fr)).2.2 X (mput S (d, (mgbS f n q (t, b)).1, (mgbS f n q (t, b)).2))
  | 0, _, _, _, _, _, _, _, h => h
  | n + 1, q, B, tk, fr, t, b, hq, h => by
    have hbk : re_blk B f ((q : Nat) : Int) = nI (b (15 * f + q)) := rc_blk (h.1 f h1 h2) (by omega)
    have e3 : b (15 * f + q) < 128 := h.2.2.2.1 (15 * f + q)
    rw [gbS, mgbS]
    dsimp only
    by_cases e : b (15 * f + q) = 0
    · rw [if_pos (by rw [hbk, e]; rfl)]
      unfold mgT mgB
      rw [if_pos e, if_pos e]
      exact gbS_ok h1 h2 n (q + 1) B tk fr t b (by omega) h
    · rw [if_neg (by rw [hbk]; exact nI_ne0 (by omega) (by omega))]
      unfold mgT mgB
      rw [if_neg e, if_neg e]
      exact gbS_ok h1 h2 n (q + 1) _ _ _ _ _ (by omega) (gb1 h h1 h2 (by omega) e)
theorem mgbS_at {f : Nat} : ∀ (n q : Nat) (t : Nat → Int32) (b : Nat → Nat) (j : Nat), (mgbS f n q (t, b)).2 j = if 15 * f + q ≤ j ∧ j < 15 * f + q + n then 0 else b j
  | 0, q, t, b, j => by rw [mgbS, if_neg (by omega)]
  | n + 1, q, t, b, j => by
    rw [mgbS, mgbS_at n (q + 1)]
    dsimp only
    unfold mgB
    by_cases e : j = 15 * f + q
    · have : (if b (15 * f + q) = 0 then b else un b (15 * f + q) 0) j = 0 := by
        rw [e]
        by_cases e2 : b (15 * f + q) = 0
        · rw [if_pos e2, e2]
        · rw [if_neg e2, un_s]
      rw [this, ite_self, if_pos (by omega)]
    · have : (if b (15 * f + q) = 0 then b else un b (15 * f + q) 0) j = b j := by
        by_cases e2 : b (15 * f + q) = 0
        · rw [if_pos e2]
        · rw [if_neg e2, un_n e]
      rw [this]
      by_cases e2 : 15 * f + (q + 1) ≤ j ∧ j < 15 * f + (q + 1) + n
      · rw [if_pos e2, if_pos (by omega)]
      · rw [if_neg e2, if_neg (by omega)]
theorem mcl1_b {f z : Nat} : ∀ (n k : Nat) (T : (Nat → Int32) × (Nat → Nat)), z ≤ 1024 * k → mcl1 f z n k T = mgbS f n k T
  | 0, _, _, _ => rfl
  | n + 1, k, T, h => by rw [mcl1, mgbS, if_neg (by omega), mcl1_b n (k + 1) _ (by omega)]
theorem mcl1_a {f z q : Nat} (hq : ∀ k, k < q ↔ 1024 * k < z) : ∀ (n k : Nat) (T : (Nat → Int32) × (Nat → Nat)), k ≤ q → q ≤ k + n → mcl1 f z n k T = mgbS f (k + n - q) q T
  | 0, k, T, h1, h2 => by rw [mcl1, show k + 0 - q = 0 by omega, mgbS]
  | n + 1, k, T, h1, h2 => by
    rcases Nat.lt_or_eq_of_le h1 with e | e
    · rw [mcl1, if_pos ((hq k).mp e), mcl1_a hq n (k + 1) T (by omega) (by omega), show k + 1 + n - q = k + (n + 1) - q by omega]
    · subst e
      have : z ≤ 1024 * k := Decidable.byContradiction fun w => Nat.lt_irrefl k ((hq k).mpr (by omega))
      rw [mcl1_b (n + 1) k T this, Nat.add_sub_cancel_left]
theorem rs_q_lt (z k : Nat) : k < rs_q z ↔ 1024 * k < z := by
  unfold rs_q
  by_cases e : z % 1024 = 0
  · rw [if_pos e]; omega
  · rw [if_neg e]; omega
theorem want_eq {B kd sz bh lc tg : Nat → Int32} {b : Nat → Nat} {f : Nat} (h : rc B kd sz bh lc b tg f) (hb : ∀ j, b j < 128) : ∀ (n q w : Nat), q + n ≤ 15 → bo_want B f n q w = mwt b f n q w
  | 0, _, _, _ => rfl
  | n + 1, q, w, hq => by
    have hbk : re_blk B f ((q : Nat) : Int) = nI (b (15 * f + q)) := rc_blk h (by omega)
    have := hb (15 * f + q)
    rw [bo_want, mwt, hbk, want_eq h hb n (q + 1) _ (by omega)]
    congr 1
    by_cases e : b (15 * f + q) = 0
    · rw [if_pos e, e, if_pos (by decide)]
    · rw [if_neg e, if_neg (nI_ne0 (by omega) (by omega))]
theorem prS_ok {S : mst} {f : Nat} (h1 : 1 ≤ f) (h2 : f ≤ 12) (hkd : pj_kd S f ≠ 0) (hn : ¬ near (pj_kd S) (pj_sz S) f) : ∀ (n q : Nat) (B tk : Nat → Int32) (fr : Int32) (X : Nat → Option (Nat → Int32)) (d t : Nat → Int32) (b : Nat → Nat), q + n ≤ 15 → rq B tk fr X (mput S (d, t, b)) → mwt b f n q 0 ≤ mf1 t 128 0 0 →
    rq (prS f n q (B, tk, fr, X)).1 (prS f n q (B, tk, fr, X)).2.1 (prS f n q (B, tk, fr, X)).2.2.1 (prS f n q (B, tk, fr, X)).2.2.2 (mput S (mtaS f n q (d, t, b))) ∧ (∀ j, b j ≠ 0 → (mtaS f n q (d, t, b)).2.2 j ≠ 0) ∧ ∀ k, q ≤ k → k < q + n → (mtaS f n q (d, t, b)).2.2 (15 * f + k) ≠ 0
  | 0, q, _, _, _, _, _, _, _, _, h, _ => ⟨h, fun _ h => h, fun k w1 w2 => absurd w2 (by omega)⟩
  | n + 1, q, B, tk, fr, X, d, t, b, hq, h, hw => by
    have hbk : re_blk B f ((q : Nat) : Int) = nI (b (15 * f + q)) := rc_blk (h.1 f h1 h2) (by omega)
    have e3 : b (15 * f + q) < 128 := h.2.2.2.1 (15 * f + q)
    rw [mwt_cn, Nat.zero_add, cn] at hw
    rw [prS, mtaS]
    by_cases e : b (15 * f + q) = 0
    · have e9 : re_blk (B, tk, fr, X).1 f ((q : Nat) : Int) = 0 := by rw [hbk, e]; rfl
      rw [if_pos e9, if_pos (show (d, t, b).2.2 (15 * f + q) = 0 from e)]
      rw [if_pos (decide_eq_true e)] at hw
      obtain ⟨r1, r2⟩ := tb_ok h h1 h2 (k := q) (by omega) hkd hn e (by omega)
      obtain ⟨-, u1, -, -⟩ := fnd_ok h h1 h2 (k := q) (by omega) (by omega)
      have hb2 : (mtk (d, t, b) f q).2.2 = un b (15 * f + q) (mtd t b f q) := rfl
      have hu : ∀ j, b j ≠ 0 → (mtk (d, t, b) f q).2.2 j ≠ 0 := fun j hj => by
        rw [hb2, un_n (fun w => hj (by rw [w]; exact e))]; exact hj
      have hus : (mtk (d, t, b) f q).2.2 (15 * f + q) ≠ 0 := by rw [hb2, un_s]; omega
      have hcn : cn (fun k => decide ((mtk (d, t, b) f q).2.2 (15 * f + k) = 0)) n (q + 1) = cn (fun k => decide (b (15 * f + k) = 0)) n (q + 1) := cn_eq n (q + 1) (fun i i1 i2 => by rw [hb2, un_n (by omega)])
      generalize mtk (d, t, b) f q = T at r1 r2 hu hus hcn ⊢
      generalize tbS (B, tk, fr, X) f q = U at r1 ⊢
      obtain ⟨s1, s2, s3⟩ := prS_ok h1 h2 hkd hn n (q + 1) U.1 U.2.1 U.2.2.1 U.2.2.2 T.1 T.2.1 T.2.2 (by omega) r1 (by rw [mwt_cn, Nat.zero_add, hcn]; omega)
      refine ⟨s1, fun j hj => s2 j (hu j hj), fun k k1 k2 => ?_⟩
      by_cases ek : k = q
      · rw [ek]; exact s2 _ hus
      · exact s3 k (by omega) (by omega)
    · have e9 : ¬ re_blk (B, tk, fr, X).1 f ((q : Nat) : Int) = 0 := by rw [hbk]; exact nI_ne0 (by omega) (by omega)
      rw [if_neg e9, if_neg (show ¬ (d, t, b).2.2 (15 * f + q) = 0 from e)]
      rw [if_neg (by simpa using e), Nat.zero_add] at hw
      obtain ⟨s1, s2, s3⟩ := prS_ok h1 h2 hkd hn n (q + 1) B tk fr X d t b (by omega) h (by rw [mwt_cn, Nat.zero_add]; exact hw)
      refine ⟨s1, s2, fun k k1 k2 => ?_⟩
      by_cases ek : k = q
      · rw [ek]; exact s2 _ e
      · exact s3 k (by omega) (by omega)
