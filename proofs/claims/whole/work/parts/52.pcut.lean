/-! pure: cut; the beginning -/
theorem row_fill_at {x : Int32} : ∀ (n i : Nat) (r : Nat → Int32) (j : Nat), row_fill x r i n j = if i ≤ j ∧ j < i + n then vp_nar .byte x else r j
  | 0, i, r, j => by rw [row_fill, if_neg (by omega)]
  | n + 1, i, r, j => by
    rw [row_fill, row_fill_at n (i + 1)]
    by_cases e : j = i
    · rw [if_neg (by omega), if_pos (by omega), e, pk_us]
    · rw [pk_un e]
      by_cases e2 : i + 1 ≤ j ∧ j < i + 1 + n
      · rw [if_pos e2, if_pos (by omega)]
      · rw [if_neg e2, if_neg (by omega)]
theorem mcl2_at {bl : Nat → Nat} {f q : Nat} {h : Int32} (hq : q < 15) (hb : bl (15 * f + q) ≠ 0) : ∀ (n i : Nat) (d : Nat → Int32) (p : Nat), 1024 * q < i → i ≤ 1024 * (q + 1) → 1024 * (q + 1) ≤ i + n → mcl2 bl f h n i d p = if 1024 * bl (15 * f + q) + (i - 1024 * q) ≤ p ∧ p < 1024 * bl (15 * f + q) + 1024 ∧ (((p - 1024 * bl (15 * f + q)) + 1024 * q : Nat) : Int) < h.toInt then nI 0 else d p
  | 0, i, d, p, h1, h2, h3 => by rw [mcl2, if_neg (by omega)]
  | n + 1, i, d, p, h1, h2, h3 => by
    rw [mcl2]
    by_cases e1 : h ≤ nI i
    · rw [if_pos e1, if_neg]
      rw [Int32.le_iff_toInt_le, nI_toInt (by omega)] at e1
      omega
    · rw [if_neg e1]
      rw [Int32.le_iff_toInt_le, nI_toInt (by omega)] at e1
      by_cases e2 : i % 1024 = 0
      · rw [if_pos e2, if_neg (by omega)]
      · have e3 : i / 1024 = q := by omega
        have e4 : i % 1024 = i - 1024 * q := by omega
        rw [if_neg e2, e3, if_neg hb, mcl2_at hq hb n (i + 1) _ p (by omega) (by omega) (by omega), e4]
        by_cases e5 : p = 1024 * bl (15 * f + q) + (i - 1024 * q)
        · rw [if_neg (by omega), if_pos (by omega), e5, pk_us]; decide
        · rw [pk_un e5]
          by_cases e6 : 1024 * bl (15 * f + q) + (i + 1 - 1024 * q) ≤ p ∧ p < 1024 * bl (15 * f + q) + 1024 ∧ (((p - 1024 * bl (15 * f + q)) + 1024 * q : Nat) : Int) < h.toInt
          · rw [if_pos e6, if_pos (by omega)]
          · rw [if_neg e6, if_neg (by omega)]
theorem mcl2_0 {bl : Nat → Nat} {f q : Nat} {h : Int32} (hb : bl (15 * f + q) = 0) : ∀ (n i : Nat) (d : Nat → Int32), 1024 * q < i → i ≤ 1024 * (q + 1) → mcl2 bl f h n i d = d
  | 0, i, d, h1, h2 => rfl
  | n + 1, i, d, h1, h2 => by
    rw [mcl2]
    by_cases e1 : h ≤ nI i
    · rw [if_pos e1]
    · rw [if_neg e1]
      by_cases e2 : i % 1024 = 0
      · rw [if_pos e2]
      · have e3 : i / 1024 = q := by omega
        rw [if_neg e2, e3, if_pos hb, mcl2_0 hb n (i + 1) d (by omega) (by omega)]
section CUT
variable {B tk : Nat → Int32} {fr : Int32} {X : Nat → Option (Nat → Int32)} {S : mst} {f z : Nat}
theorem cut_bks {dk t sz : Nat → Int32} {bl : Nat → Nat} (h : bks X dk t bl sz) (h1 : 1 ≤ f) (h2 : f ≤ 12) (hz : z ≤ 15360) (hb : ∀ j, bl j < 128) (hg : ∀ k, rs_q z ≤ k → k < 15 → bl (15 * f + k) = 0) {y : Int32} (hy : y = if z / 1024 < 15 then nI (bl (15 * f + z / 1024)) else nI 0) :
    bks (if y = 0 then X else dx_clr X y.toInt (z % 1024) 1024) (mcl2 bl f (sz f) 1024 z dk) t bl (upd sz f (nI z)) := by
  have hni : (nI z).toInt = (z : Int) := nI_toInt (by omega)
  refine ⟨fun j j1 j2 j3 => ?_, h.2⟩
  obtain ⟨w1, w2, c, w3, w4⟩ := h.1 j j1 j2 j3
  refine ⟨w1, w2, ?_⟩
  have hsz : (upd sz f (nI z) (j / 15)).toInt = if j / 15 = f then (z : Int) else (sz (j / 15)).toInt := by
    by_cases e : j / 15 = f
    · rw [if_pos e, e, pk_us, hni]
    · rw [if_neg e, pk_un e]
  have hjq : j / 15 = f → j % 15 < rs_q z := fun e => Decidable.byContradiction fun w => j3 (by
    have := hg (j % 15) (by omega) (by omega)
    rwa [show 15 * f + j % 15 = j by omega] at this)
  rw [hsz]
  by_cases e0 : z % 1024 = 0
  · have hrq : rs_q z = z / 1024 := by unfold rs_q; rw [if_pos e0]
    have hy0 : y = 0 := by
      rw [hy]
      by_cases e : z / 1024 < 15
      · rw [if_pos e, hg (z / 1024) (by omega) e]; rfl
      · rw [if_neg e]; rfl
    have hd : mcl2 bl f (sz f) 1024 z dk = dk := by
      show (if sz f ≤ nI z then dk else if z % 1024 = 0 then dk else _) = dk
      rw [if_pos e0, ite_self]
    rw [if_pos hy0, hd]
    refine ⟨c, w3, fun i hi => ⟨(w4 i hi).1, fun w => ?_⟩⟩
    by_cases e : j / 15 = f
    · rw [if_pos e] at w
      have := hjq e
      omega
    · rw [if_neg e] at w; exact (w4 i hi).2 w
  · have hrq : rs_q z = z / 1024 + 1 := by unfold rs_q; rw [if_neg e0]
    have hq15 : z / 1024 < 15 := by omega
    rw [if_pos hq15] at hy
    have hb0 := hb (15 * f + z / 1024)
    by_cases e1 : bl (15 * f + z / 1024) = 0
    · rw [if_pos (by rw [hy, e1]; rfl), mcl2_0 (q := z / 1024) e1 1024 z dk (by omega) (by omega)]
      refine ⟨c, w3, fun i hi => ⟨(w4 i hi).1, fun w => ?_⟩⟩
      by_cases e : j / 15 = f
      · rw [if_pos e] at w
        have := hjq e
        have : j % 15 ≠ z / 1024 := fun w9 => j3 (by rw [← e1]; congr 1; omega)
        omega
      · rw [if_neg e] at w; exact (w4 i hi).2 w
    · rw [if_neg (by rw [hy]; exact nI_ne0 (by omega) (by omega))]
      obtain ⟨-, -, c0, v3, v4⟩ := h.1 (15 * f + z / 1024) (by omega) (by omega) e1
      have hX : dx_clr X y.toInt (z % 1024) 1024 = va_up X (bl (15 * f + z / 1024)) (some (row_fill (nI 0) c0 (z % 1024) (1024 - z % 1024))) := by
        unfold dx_clr
        rw [hy, nI_toInt (by omega), if_neg (by omega), Int.toNat_natCast, v3]
      rw [hX]
      have hD := mcl2_at (bl := bl) (f := f) (h := sz f) hq15 e1 1024 z dk
      by_cases e2 : bl j = bl (15 * f + z / 1024)
      · have ej : j = 15 * f + z / 1024 := h.2 j _ j1 j2 (by omega) (by omega) e2 j3
        have ej1 : j / 15 = f := by omega
        have ej2 : j % 15 = z / 1024 := by omega
        rw [e2, up_s, if_pos ej1, ej2]
        refine ⟨_, rfl, fun i hi => ?_⟩
        obtain ⟨v5, v6⟩ := v4 i hi
        rw [show (15 * f + z / 1024) / 15 = f by omega, show (15 * f + z / 1024) % 15 = z / 1024 by omega] at v6
        have hv0 : vp_nar .byte (nI 0) = nI 0 := by decide
        rw [row_fill_at, hv0, hD _ (by omega) (by omega) (by omega)]
        by_cases e3 : z % 1024 ≤ i
        · rw [if_pos (by omega)]
          refine ⟨?_, fun _ => rfl⟩
          by_cases e4 : ((i + 1024 * (z / 1024) : Nat) : Int) < (sz f).toInt
          · rw [if_pos (by omega)]
          · rw [if_neg (by omega), ← v5, v6 (by omega)]
        · rw [if_neg (by omega), if_neg (by omega)]
          exact ⟨v5, fun w => absurd w (by omega)⟩
      · rw [up_n e2]
        refine ⟨c, w3, fun i hi => ?_⟩
        rw [hD _ (by omega) (by omega) (by omega), if_neg (by omega)]
        refine ⟨(w4 i hi).1, fun w => ?_⟩
        by_cases e : j / 15 = f
        · rw [if_pos e] at w
          have := hjq e
          have : j % 15 ≠ z / 1024 := fun w9 => e2 (by congr 1; omega)
          omega
        · rw [if_neg e] at w; exact (w4 i hi).2 w
theorem cut_ok (h : rq B tk fr X S) (h1 : 1 ≤ f) (h2 : f ≤ 12) (hk : pj_kd S f = nI 1) (hz : z ≤ 15360) : rq (re_set (rs_S (B, tk, fr, X) f z).1 f 4 4 (nI z)) (rs_S (B, tk, fr, X) f z).2.1 (rs_S (B, tk, fr, X) f z).2.2 (rs_X (B, tk, fr, X) f z) (nI 0, mcl2 (mcl1 f z 15 0 (pj_tk S, pj_bl S)).2 f (pj_sz S f) 1024 z (pj_dk S), (mcl1 f z 15 0 (pj_tk S, pj_bl S)).1, pj_kd S, pj_lc S, upd (pj_sz S) f (nI z), pj_bh S, pj_wt S, (mcl1 f z 15 0 (pj_tk S, pj_bl S)).2, pj_tg S, pj_fs S) := by
  have hq15 : rs_q z ≤ 15 := by unfold rs_q; split <;> omega
  have hni : (nI z).toInt = (z : Int) := nI_toInt (by omega)
  have hkd : pj_kd S f ≠ 0 := by rw [hk]; decide
  have q2 := gbS_ok (S := S) (d := pj_dk S) h1 h2 (15 - rs_q z) (rs_q z) B tk fr (pj_tk S) (pj_bl S) (by omega) h
  have hm : mcl1 f z 15 0 (pj_tk S, pj_bl S) = mgbS f (15 - rs_q z) (rs_q z) (pj_tk S, pj_bl S) := by
    rw [mcl1_a (rs_q_lt z) 15 0 _ (by omega) (by omega), Nat.zero_add]
  have hg : ∀ k, rs_q z ≤ k → k < 15 → (mgbS f (15 - rs_q z) (rs_q z) (pj_tk S, pj_bl S)).2 (15 * f + k) = 0 := fun k w1 w2 => by
    rw [mgbS_at, if_pos (by omega)]
  rw [hm]
  unfold rs_X rs_S
  dsimp only
  generalize gbS f (15 - rs_q z) (rs_q z) (B, tk, fr) = U at q2 ⊢
  generalize mgbS f (15 - rs_q z) (rs_q z) (pj_tk S, pj_bl S) = T at q2 hg ⊢
  obtain ⟨c1, c2, c3, c4, c5, c6⟩ := q2
  have hbk : re_blk U.1 f ((z / 1024 : Nat) : Int) = if z / 1024 < 15 then nI (T.2 (15 * f + z / 1024)) else nI 0 := by
    by_cases e : z / 1024 < 15
    · rw [if_pos e]; exact rc_blk (c1 f h1 h2) e
    · rw [if_neg e]
      unfold re_blk
      rw [if_pos (by omega)]
  refine ⟨fun g h3 h4 => ?_, hdr_re c2, fun g => ?_, c4, ?_, c6⟩
  · by_cases eg : g = f
    · subst eg
      exact rc_sz (c1 g h3 h4) hkd (plain_far hk) (fun k hk9 => (c1 g h3 h4).2.2.2.2.2.2.1 (plain_far hk) k hk9) (fun o n w1 w2 => rso (by omega) (by omega) w1) (rs4 (by omega) h4)
    · exact rc_fr (c1 g h3 h4) (fun o n w1 w2 => rso (by omega) (by omega) w1) ((rso (by omega) (by omega) (by omega)).trans (c1 g h3 h4).2.2.1) rfl (pk_un eg) rfl (fun _ _ => rfl) (fun _ _ => rfl)
  · show 0 ≤ (upd (pj_sz S) f (nI z) g).toInt ∧ (upd (pj_sz S) f (nI z) g).toInt ≤ 15360
    by_cases eg : g = f
    · rw [eg, pk_us]; omega
    · rw [pk_un eg]; exact h.2.2.1 g
  · have c5 : bks X (pj_dk S) T.1 T.2 (pj_sz S) := c5
    have := cut_bks c5 h1 h2 hz c4 hg hbk
    generalize mcl2 T.2 f (pj_sz S f) 1024 z (pj_dk S) = D at this ⊢
    exact this
end CUT
theorem p_cut : PU_cut rl := by
  rintro B tk fr X S x1 x2 ⟨ws, h⟩
  generalize x1.toNatClampNeg = f
  have hc : mcu_c S f x2.toInt = cu_c B f x2.toInt := by
    unfold mcu_c cu_c
    by_cases e : re_kind B f = nI 1 ∧ 0 ≤ x2.toInt ∧ x2.toInt ≤ 15360
    · rw [if_pos e, if_pos ⟨(kp h f).mp e.1, e.2⟩]
    · rw [if_neg e, if_neg (fun w => e ⟨(kp h f).mpr w.1, w.2⟩)]
  unfold mcu
  rw [hc]
  refine ⟨by unfold cu_c; split <;> omega, ?_⟩
  by_cases e : cu_c B f x2.toInt = 0
  · have e1 : re_kind B f = nI 1 ∧ 0 ≤ x2.toInt ∧ x2.toInt ≤ 15360 := by
      refine Decidable.byContradiction fun w => ?_
      unfold cu_c at e; rw [if_neg w] at e; cases e
    have e2 := (kp h f).mp e1.1
    obtain ⟨z, hz⟩ : ∃ n : Nat, x2.toInt = n := ⟨x2.toInt.toNat, by omega⟩
    rw [if_pos e, e]
    unfold cif
    rw [if_pos rfl, if_pos rfl, if_pos rfl, if_pos rfl, if_pos rfl, hz, Int.toNat_natCast]
    refine ⟨rfl, fun _ => (h.1 f (by omega) e2.1.1.2).2.1, ws, rw_rq.mpr ⟨cut_ok (rw_rq.mp h).1 (by omega) e2.1.1.2 e2.2 (by omega), (rw_rq.mp h).2⟩⟩
  · rw [if_neg e]
    unfold cif
    rw [if_neg e, if_neg e, if_neg e, if_neg e, if_neg e]
    exact ⟨rfl, fun w => absurd w e, ws, h⟩
theorem p_all : PU rl := ⟨p_ok, p_make, p_link, p_write, p_paint, p_read, p_cut, p_links, p_drop, p_about, p_block, p_count, p_byteOf, p_finish⟩
theorem tk0_at (b : Nat) : tk0 b = if b < 4 then nI 1 else 0 := by
  unfold tk0
  have e : vp_nar .boolean (nI 1) = nI 1 := by decide
  rw [e]
  by_cases e3 : b = 3
  · rw [e3, pk_us, if_pos (by omega)]
  rw [pk_un e3]
  by_cases e2 : b = 2
  · rw [e2, pk_us, if_pos (by omega)]
  rw [pk_un e2]
  by_cases e1 : b = 1
  · rw [e1, pk_us, if_pos (by omega)]
  rw [pk_un e1]
  by_cases e0 : b = 0
  · rw [e0, pk_us, if_pos (by omega)]
  rw [pk_un e0, if_neg (by omega)]
theorem cn_1 {p : Nat → Bool} : ∀ k q, (∀ i, q ≤ i → i < q + k → p i = true) → cn p k q = k
  | 0, _, _ => rfl
  | k + 1, q, h => by rw [cn, h q (by omega) (by omega), cn_1 k (q + 1) (fun i h1 h2 => h i (by omega) (by omega)), if_pos rfl]; omega
theorem num_0 {a n : Nat} (hn : n ≤ 4) : fr_num (fun _ => 0) a n = nI 0 := fr_num_z hn (fun _ _ _ => by decide)
theorem ref_0 {f o n : Nat} (hn : n ≤ 4) : re_f (fun _ => 0) f o n = nI 0 := by
  unfold re_f
  split
  · rfl
  · exact num_0 hn
theorem p_start : rl (fun _ => 0) (fun _ => 0) (nI 124) (fun _ => none) S0 := by
  have hw : WL (pj_bh S0) (pj_wt S0) (pj_fs S0) [] := ⟨rfl, List.nodup_nil, fun g hg => absurd hg (by simp), fun g _ _ => Or.inr ⟨rfl, by simp, rfl⟩⟩
  refine ⟨[], fun f h1 h2 => ?_, ⟨num_0 (by omega), fun i _ _ => num_0 (by omega)⟩, fun f => (show 0 ≤ (0 : Int32).toInt ∧ (0 : Int32).toInt ≤ 15360 by decide), fun i => (show 0 < 128 by decide), ⟨hw, fun f h1 h2 => ⟨fun w => absurd w (by simp), fun w => absurd rfl w.1⟩⟩, ⟨fun j j1 j2 j3 => absurd rfl j3, fun i j _ _ _ _ _ w => absurd rfl w⟩, fun b h1 h2 => ?_, fun b hb => ?_, ?_⟩
  · have hm : mbo (fun _ => 0) f 15 0 0 = 0 := mbo_z (fun _ _ => rfl)
    show rc (fun _ => 0) (fun _ => 0) (fun _ => 0) (fun _ => 0) (fun _ => 0) (fun _ => 0) (fun _ => 0) f
    unfold rc
    rw [hm, ref_0 (by omega), ref_0 (by omega), ref_0 (by omega), ref_0 (by omega), ref_0 (by omega)]
    exact ⟨⟨Or.inl rfl, show nI 0 = md 0 by decide⟩, rfl, rfl, rfl, rfl, fun w => absurd w.1 (show ¬ (0 : Int32) = nI 3 by decide), fun _ k _ => ref_0 (by omega), fun i _ => ref_0 (by omega), (show 0 ≤ (0 : Int32).toInt ∧ (0 : Int32).toInt ≤ 1000 by decide), fun _ => ⟨rfl, rfl, fun _ _ => rfl⟩⟩
  · show (0 : Int32) = tk0 b
    rw [tk0_at, if_neg (by omega)]
  · show tk0 b ≠ 0
    rw [tk0_at, if_pos hb]; decide
  · show nI 124 = nI (mf1 tk0 128 0 0)
    have e : mf1 tk0 128 0 0 = 124 := by
      rw [mf1_cn, Nat.zero_add]
      have h4 : ∀ i, decide (tk0 i = 0) = decide (¬ i < 4) := fun i => by
        rw [tk0_at]
        by_cases w : i < 4
        · rw [if_pos w]; simp [w]; decide
        · rw [if_neg w]; simp [w]
      rw [cn, cn, cn, cn, h4, h4, h4, h4, cn_1 124 _ (fun i h1 h2 => by show decide (tk0 i = 0) = true; rw [h4]; simp; omega)]
      rfl
    rw [e]
