/-! pure: the readers -/
theorem cif_s {α : Type} (c : Nat) (a : α) : cif c a a = a := by unfold cif; split <;> rfl
theorem by4 (x : Int32) {j : Nat} (hj : j < 4) : (x >>> (nI (8 * j) &&& 31)) &&& nI 255 = nI (byN x.toBitVec.toNat j) := by
  have hs : ((nI (8 * j) &&& 31).toBitVec.smod 32).toNat = 8 * j := by
    revert j; decide
  have e1 : (x >>> (nI (8 * j) &&& 31)).toBitVec = x.toBitVec.sshiftRight (8 * j) := by
    rw [Int32.toBitVec_shiftRight, BitVec.sshiftRight_eq', hs]
  rw [pk_and _ (m := nI 255) 8 (by decide)]
  congr 1
  rw [e1]
  have e2 : x.toBitVec.sshiftRight (8 * j) &&& (BitVec.ofNat 32 255) = (x.toBitVec >>> (8 * j)) &&& (BitVec.ofNat 32 255) := by
    apply BitVec.eq_of_getLsbD_eq
    intro i hi
    rw [BitVec.getLsbD_and, BitVec.getLsbD_and]
    have hm : ∀ i < 32, 8 ≤ i → (BitVec.ofNat 32 255).getLsbD i = false := by decide
    rcases Nat.lt_or_ge i 8 with z | z
    · rw [BitVec.getLsbD_sshiftRight, BitVec.getLsbD_ushiftRight]
      have h1 : ¬ 32 ≤ i := by omega
      have h2 : 8 * j + i < 32 := by omega
      simp [h1, h2]
    · rw [hm i hi z]; simp
  have e3 := congrArg BitVec.toNat e2
  rw [BitVec.toNat_and, BitVec.toNat_and, BitVec.toNat_ushiftRight, Nat.shiftRight_eq_div_pow] at e3
  have e4 : (BitVec.ofNat 32 255).toNat = 2 ^ 8 - 1 := by decide
  rw [e4, Nat.and_two_pow_sub_one_eq_mod, Nat.and_two_pow_sub_one_eq_mod] at e3
  rw [e3]
  unfold byN
  rw [Nat.pow_mul]
theorem le_b {c : Nat → Nat} : ∀ n a j, (∀ i, a ≤ i → i < a + n → c i < 256) → j < n → byN (le c a n) j = c (a + j)
  | 0, _, _, _, h => absurd h (by omega)
  | n + 1, a, j, hc, h => by
    have h0 := hc a (by omega) (by omega)
    rcases j with _ | j
    · unfold byN; rw [le, Nat.pow_zero, Nat.div_one]; simp; omega
    · have h1 := le_b n (a + 1) j (fun i h1 h2 => hc i (by omega) (by omega)) (by omega)
      rw [show a + (j + 1) = a + 1 + j by omega, ← h1]
      unfold byN
      rw [le, Nat.pow_succ, Nat.mul_comm (256 ^ j) 256, ← Nat.div_div_eq_div_mul, show (c a + 256 * le c (a + 1) n) / 256 = le c (a + 1) n by omega]
theorem fld_b {B : Nat → Int32} {a n j : Nat} (hn : n ≤ 4) (hj : j < n) : fr_num B (a + j) 1 = (fr_num B a n >>> (nI (8 * j) &&& 31)) &&& nI 255 := by
  have hc : ∀ i, (B i).toBitVec.toNat % 256 < 256 ∧ B i &&& nI 255 = nI ((B i).toBitVec.toNat % 256) := fun i => ⟨Nat.mod_lt _ (by decide), pk_and _ (m := nI 255) 8 (by decide)⟩
  have hl := le_lt (c := fun i => (B i).toBitVec.toNat % 256) n a (fun i _ _ => (hc i).1)
  have h4 : (256 : Nat) ^ n ≤ 256 ^ 4 := Nat.pow_le_pow_right (by decide) hn
  rw [by4 _ (by omega), fr_num_le (c := fun i => (B i).toBitVec.toNat % 256) n a hn (fun i _ _ => hc i), pk_tn (Nat.lt_of_lt_of_le hl (by simpa using h4)), le_b n a j (fun i _ _ => (hc i).1) hj, fr_num_1, (hc _).2]
theorem re_b {B : Nat → Int32} {f o n j : Nat} (hn : n ≤ 4) (hj : j < n) : re_f B f (o + j) 1 = (re_f B f o n >>> (nI (8 * j) &&& 31)) &&& nI 255 := by
  unfold re_f
  by_cases e : f = 0 ∨ 12 < f
  · rw [if_pos e, if_pos e]
    have : j < 4 := by omega
    clear hj
    revert j; decide
  · rw [if_neg e, if_neg e, ← Nat.add_assoc]; exact fld_b hn hj
theorem sz_59 {x : Int32} : nI 59 < x ↔ nI 60 ≤ x := by
  rw [Int32.lt_iff_toInt_lt, Int32.le_iff_toInt_le, nI_toInt (by decide), nI_toInt (by decide)]; omega
section RD
variable {B tk : Nat → Int32} {fr : Int32} {X : Nat → Option (Nat → Int32)} {S : mst} {ws : List Nat}
theorem near_iff (h : rw_ ws B tk fr X S) {f : Nat} (h1 : 1 ≤ f) (h2 : f ≤ 12) : (re_kind B f = nI 3 ∧ ¬ nI 59 < re_f B f 4 4) ↔ near (pj_kd S) (pj_sz S) f := by
  have hc := h.1 f h1 h2
  unfold near
  rw [rc_kind hc, hc.2.1, sz_59]
theorem dx_in {z : Nat} {c : Nat → Int32} {i : Nat} (hz : z < 128) (h : X z = some c) : dx_at X (nI z).toInt i = c i &&& nI 255 := by
  unfold dx_at
  rw [nI_toInt (by omega), if_neg (by omega), Int.toNat_natCast, h]
theorem p_block : PU_block rl := by
  rintro B tk fr X S x1 x2 ⟨ws, h⟩
  have hc : bk_c B x1.toNatClampNeg x2.toInt = mbk_c S x1.toNatClampNeg x2.toInt := by
    unfold bk_c mbk_c
    by_cases e : re_kind B x1.toNatClampNeg = 0
    · rw [if_pos (Or.inl e), if_neg (fun q => (kz h _).mp e q.1)]
    · have e2 := Decidable.not_not.mp (fun q => e ((kz h _).mpr q))
      by_cases e3 : 0 ≤ x2.toInt ∧ x2.toInt ≤ 14
      · rw [if_neg (by rintro (q | q | q); exact e q; omega; omega), if_pos ⟨e2, e3⟩]
      · rw [if_pos (by omega), if_neg (fun q => e3 q.2)]
  simp only [cif_s, ← hc]
  refine ⟨by unfold bk_c; split <;> omega, rfl, fun q => ?_, ws, h⟩
  rw [if_pos q]
  unfold bk_c at q
  have q2 : ¬ (re_kind B x1.toNatClampNeg = 0 ∨ x2.toInt < 0 ∨ 15 ≤ x2.toInt) := fun w => by rw [if_pos w] at q; cases q
  have q3 := Decidable.not_not.mp (fun w => q2 (Or.inl ((kz h _).mpr w)))
  obtain ⟨k, hk⟩ : ∃ k : Nat, x2.toInt = k := ⟨x2.toInt.toNat, by omega⟩
  rw [hk, Int.toNat_natCast]
  exact rc_blk (h.1 _ (by omega) q3.1.2) (by omega)
theorem gone_0 (h : rw_ ws B tk fr X S) {f : Nat} (h1 : 1 ≤ f) (h2 : f ≤ 12) (e : pj_kd S f = 0) : pj_bh S f = nI 0 ∧ f ∉ ws := by
  have hw : f ∉ ws := fun q => ((h.2.2.2.2.1.2 f h1 h2).mp q).1 e
  rcases h.2.2.2.2.1.1.2.2.2 f h1 h2 with q | q
  · exact absurd q.2 hw
  · exact ⟨q.2.2, hw⟩
theorem p_about : PU_about rl := by
  rintro B tk fr X S x1 x2 ⟨ws, h⟩
  have hf : x1.toNatClampNeg = x1.toInt.toNat := rfl
  have hc : ab_c x1.toNatClampNeg x2.toInt = mab_c x1.toInt x2.toInt := by
    unfold ab_c mab_c
    rw [hf]
    by_cases e : x1.toInt.toNat ≠ 0 ∧ x1.toInt.toNat ≤ 12 ∧ 0 ≤ x2.toInt ∧ x2.toInt ≤ 5
    · rw [if_pos e, if_pos (by omega)]
    · rw [if_neg e, if_neg (by omega)]
  simp only [cif_s, ← hc]
  refine ⟨by unfold ab_c; split <;> omega, rfl, fun q => ?_, ws, h⟩
  rw [if_pos q]
  have q2 : x1.toNatClampNeg ≠ 0 ∧ x1.toNatClampNeg ≤ 12 ∧ 0 ≤ x2.toInt ∧ x2.toInt ≤ 5 := by
    refine Decidable.byContradiction fun w => ?_
    unfold ab_c at q; rw [if_neg w] at q; cases q
  rw [hf] at q2 ⊢
  have hr := h.1 x1.toInt.toNat (by omega) q2.2.1
  have hb := rc_blk hr (k := 0) (by omega)
  rw [Nat.add_zero] at hb
  unfold ab_r mab_r
  rw [rc_kind hr, hr.2.1, hr.2.2.1, hr.2.2.2.1, rc_nb hr, hb]
  by_cases e : pj_kd S x1.toInt.toNat = 0
  · obtain ⟨e1, e2, e3⟩ := hr.2.2.2.2.2.2.2.2.2 e
    have e4 := e3 0 (by omega)
    rw [Nat.add_zero] at e4
    rw [if_pos e, e, e1, e2, e4, mbo_z e3, (gone_0 h (by omega) q2.2.1 e).1]
    repeat' split
    all_goals rfl
  · rw [if_neg e]
theorem re_cnt_cn {B : Nat → Int32} : ∀ k f n, re_cnt B k f n = n + cn (fun f => decide (¬ re_kind B f = 0)) k f
  | 0, _, _ => rfl
  | k + 1, f, n => by
    rw [re_cnt, cn, re_cnt_cn k]
    by_cases e : re_kind B f = 0
    · rw [if_pos e, if_neg (by simpa using e)]; omega
    · rw [if_neg e, if_pos (by simpa using e)]; omega
theorem p_count : PU_count rl := by
  rintro B tk fr X S x1 ⟨ws, h⟩
  have hc : mco_c x1.toInt = co_c x1.toInt := rfl
  simp only [cif_s, hc]
  refine ⟨by unfold co_c; split <;> omega, rfl, fun q => ?_, ws, h⟩
  rw [if_pos q]
  unfold co_r mco_r
  have hw := h.2.2.2.2.1.1
  rw [mcn_cn, h.2.2.2.2.2.2.2.2, h.2.1.1, re_cnt_cn, many_ok (fun g h1 h2 => (h.1 g h1 h2).2.2.1) ws 12 0 _ hw.1 hw.2.2.1 (WL_len hw), WL_cnt hw]
  rw [cn_eq (p := fun f => decide (¬ re_kind B f = 0)) (p' := fun f => decide (¬ pj_kd S f ≤ 0)) 12 1 (fun i h1 h2 => by
    have hr := h.1 i h1 (by omega)
    show decide (¬ re_kind B i = 0) = decide (¬ pj_kd S i ≤ 0)
    rw [rc_kind hr, decide_eq_decide, rc_kdc hr])]
theorem p_read : PU_read rl := by
  rintro B tk fr X S x1 x2 ⟨ws, h⟩
  generalize hf : x1.toNatClampNeg = f
  have hz := h.2.2.1 f
  have hsz : ∀ f, (pj_sz S f - nI 1).toInt = (pj_sz S f).toInt - 1 := fun f => by
    have hz := h.2.2.1 f
    exact z_sub rfl (by decide) (by omega) (by omega)
  have hc : rd_c B f x2.toInt = mrd_c S f x2.toInt := by
    unfold rd_c mrd_c
    by_cases e : re_kind B f = 0
    · rw [if_pos e, if_neg ((kz h _).mp e)]
    · have e2 := Decidable.not_not.mp (fun q => e ((kz h _).mpr q))
      rw [if_neg e, if_pos e2, (h.1 f (by omega) e2.1.2).2.1, hsz]
      by_cases e3 : x2.toInt < 0 ∨ (pj_sz S f).toInt ≤ x2.toInt
      · rw [if_pos e3, if_neg (by omega)]
      · rw [if_neg e3, if_pos (by omega)]
  simp only [cif_s, ← hc]
  refine ⟨by unfold rd_c; split; omega; split <;> omega, rfl, fun q => ?_, ws, h⟩
  rw [if_pos q]
  have q1 : ¬ re_kind B f = 0 := fun w => by unfold rd_c at q; rw [if_pos w] at q; cases q
  have q2 := Decidable.not_not.mp (fun w => q1 ((kz h _).mpr w))
  have hr := h.1 f (by omega) q2.1.2
  have q3 : ¬ (x2.toInt < 0 ∨ (pj_sz S f).toInt ≤ x2.toInt) := fun w => by
    unfold rd_c at q
    rw [if_neg q1, hr.2.1, if_pos w] at q; cases q
  obtain ⟨i, hi⟩ : ∃ i : Nat, x2.toInt = i := ⟨x2.toInt.toNat, by omega⟩
  rw [hi, Int.toNat_natCast]
  unfold bo_ax mrd_r
  by_cases e : near (pj_kd S) (pj_sz S) f
  · rw [if_pos ((near_iff h (by omega) q2.1.2).mpr e), if_pos (show pj_kd S f = nI 3 ∧ ¬ nI 60 ≤ pj_sz S f from e)]
    have e60 : (pj_sz S f).toInt < 60 := by
      have := e.2
      rw [Int32.le_iff_toInt_le, nI_toInt (by decide)] at this; omega
    rw [(hr.2.2.2.2.2.1 e).1 i (by omega), if_neg]
    rw [Int32.le_iff_toInt_le, nI_toInt (by omega)]; omega
  · rw [if_neg (fun w => e ((near_iff h (by omega) q2.1.2).mp w)), if_neg (show ¬ (pj_kd S f = nI 3 ∧ ¬ nI 60 ≤ pj_sz S f) from e), rc_blk hr (by omega)]
    have hb := h.2.2.2.1 (15 * f + i / 1024)
    by_cases e2 : pj_bl S (15 * f + i / 1024) = 0
    · rw [e2, if_pos (by decide), if_pos rfl]
    · rw [if_neg (nI_ne0 (by omega) (by omega)), if_neg e2]
      obtain ⟨-, -, c, hx, hd⟩ := h.2.2.2.2.2.1.1 (15 * f + i / 1024) (by omega) (by omega) e2
      rw [dx_in hb hx, (hd _ (Nat.mod_lt _ (by decide))).1]
theorem mpt_in {v : Int32} {j n : Nat} {z : Int} (hz : z = (j : Int)) (hj : j < n) : mpt v z (n : Int) = (v >>> (nI (8 * j) &&& 31)) &&& nI 255 := by
  unfold mpt
  rw [hz, if_neg (by omega), Int.toNat_natCast]
theorem mpt_out {v : Int32} {n z : Int} (h : z < 0 ∨ n ≤ z) : mpt v z n = nI 0 := if_pos h
theorem mpt_z {n z : Int} (hn : n ≤ 4) : mpt (nI 0) z n = nI 0 := by
  unfold mpt
  by_cases h : z < 0 ∨ n ≤ z
  · exact if_pos h
  · rw [if_neg h]
    have : z.toNat < 4 := by omega
    generalize z.toNat = j at this
    revert j; decide
theorem rec_b (h : rw_ ws B tk fr X S) {f i : Nat} (h1 : 1 ≤ f) (h2 : f ≤ 12) (hi : i < 256) : re_f B f i 1 = mrec S f i := by
  have hr := h.1 f h1 h2
  have key : ∀ (o n : Nat) (x : Int32), n ≤ 4 → re_f B f o n = x → o ≤ i → i < o + n → re_f B f i 1 = mpt x ((i : Int) - (o : Int)) (n : Int) := fun o n x hn hx ho hio => by
    obtain ⟨j, rfl⟩ : ∃ j, i = o + j := ⟨i - o, by omega⟩
    rw [re_b (n := n) hn (by omega), hx, mpt_in (j := j) (by omega) (by omega)]
  unfold mrec
  by_cases e : pj_kd S f = 0
  · obtain ⟨e1, e2, e3⟩ := hr.2.2.2.2.2.2.2.2.2 e
    rw [if_pos e]
    have k2 : ∀ (o n : Nat), n ≤ 4 → re_f B f o n = nI 0 → o ≤ i → i < o + n → re_f B f i 1 = nI 0 := fun o n hn hx ho hio => by
      rw [key o n _ hn hx ho hio, mpt_z (by omega)]
    by_cases g : gap i
    · exact hr.2.2.2.2.2.2.2.1 i g
    · unfold gap at g
      by_cases c1 : i < 2
      · exact k2 0 2 (by omega) (by rw [hr.1.2, e]; decide) (by omega) (by omega)
      by_cases c2 : i < 8
      · exact k2 4 4 (by omega) (by rw [hr.2.1, e1]; rfl) (by omega) (by omega)
      by_cases c3 : i < 24
      · exact k2 20 4 (by omega) (by rw [hr.2.2.1, (gone_0 h h1 h2 e).1]) (by omega) (by omega)
      by_cases c4 : i < 28
      · exact k2 26 2 (by omega) (by rw [hr.2.2.2.1, e2]; rfl) (by omega) (by omega)
      by_cases c5 : i < 32
      · exact k2 28 4 (by omega) (by rw [hr.2.2.2.2.1, mbo_z e3]) (by omega) (by omega)
      have hn : ¬ near (pj_kd S) (pj_sz S) f := fun w => by
        have := w.1; rw [e] at this; exact absurd this (by decide)
      exact k2 (40 + 4 * ((i - 40) / 4)) 4 (by omega) (by rw [hr.2.2.2.2.2.2.1 hn _ (by omega), e3 _ (by omega)]) (by omega) (by omega)
  · rw [if_neg e]
    by_cases c6 : 40 ≤ i ∧ i < 100
    · rw [if_pos c6]
      by_cases hn : near (pj_kd S) (pj_sz S) f
      · rw [if_pos (show pj_kd S f = nI 3 ∧ ¬ nI 60 ≤ pj_sz S f from hn)]
        have := (hr.2.2.2.2.2.1 hn).1 (i - 40) (by omega)
        rwa [show 40 + (i - 40) = i by omega] at this
      · rw [if_neg (show ¬ (pj_kd S f = nI 3 ∧ ¬ nI 60 ≤ pj_sz S f) from hn)]
        have := key (40 + 4 * ((i - 40) / 4)) 4 _ (by omega) (hr.2.2.2.2.2.2.1 hn _ (by omega)) (by omega) (by omega)
        rw [this]
        congr 1
        omega
    · rw [if_neg c6]
      have em : (if pj_kd S f = nI 1 then nI 32768 else nI 40960) = md (pj_kd S f) := by
        rcases hr.1.1 with w | w | w
        · exact absurd w e
        · rw [w]; decide
        · rw [w]; decide
      rw [em]
      have hz : ∀ x : Int32, x + nI 0 = x := fun x => by simp [nI_0]
      have hz2 : ∀ x : Int32, nI 0 + x = x := fun x => by simp [nI_0]
      by_cases g : gap i
      · rw [hr.2.2.2.2.2.2.2.1 i g]
        unfold gap at g
        rw [mpt_out (by omega), mpt_out (by omega), mpt_out (by omega), mpt_out (by omega), mpt_out (by omega)]
        decide
      · unfold gap at g
        by_cases c1 : i < 2
        · rw [key 0 2 _ (by omega) hr.1.2 (by omega) (by omega), mpt_out (z := (i : Int) - ((4 : Nat) : Int)) (by omega), mpt_out (z := (i : Int) - ((20 : Nat) : Int)) (by omega), mpt_out (z := (i : Int) - ((26 : Nat) : Int)) (by omega), mpt_out (z := (i : Int) - ((28 : Nat) : Int)) (by omega), hz, hz, hz, hz]
          rfl
        by_cases c2 : i < 8
        · rw [key 4 4 _ (by omega) hr.2.1 (by omega) (by omega), mpt_out (z := (i : Int)) (by omega), mpt_out (z := (i : Int) - ((20 : Nat) : Int)) (by omega), mpt_out (z := (i : Int) - ((26 : Nat) : Int)) (by omega), mpt_out (z := (i : Int) - ((28 : Nat) : Int)) (by omega), hz, hz, hz, hz2]
        by_cases c3 : i < 24
        · rw [key 20 4 _ (by omega) hr.2.2.1 (by omega) (by omega), mpt_out (z := (i : Int)) (by omega), mpt_out (z := (i : Int) - ((4 : Nat) : Int)) (by omega), mpt_out (z := (i : Int) - ((26 : Nat) : Int)) (by omega), mpt_out (z := (i : Int) - ((28 : Nat) : Int)) (by omega), hz, hz, hz, hz2]
        by_cases c4 : i < 28
        · rw [key 26 2 _ (by omega) hr.2.2.2.1 (by omega) (by omega), mpt_out (z := (i : Int)) (by omega), mpt_out (z := (i : Int) - ((4 : Nat) : Int)) (by omega), mpt_out (z := (i : Int) - ((20 : Nat) : Int)) (by omega), mpt_out (z := (i : Int) - ((28 : Nat) : Int)) (by omega), hz, hz, hz, hz2]
        · rw [key 28 4 _ (by omega) hr.2.2.2.2.1 (by omega) (by omega), mpt_out (z := (i : Int)) (by omega), mpt_out (z := (i : Int) - ((4 : Nat) : Int)) (by omega), mpt_out (z := (i : Int) - ((20 : Nat) : Int)) (by omega), mpt_out (z := (i : Int) - ((26 : Nat) : Int)) (by omega), hz, hz, hz, hz2]
theorem p_byteOf : PU_byteOf rl := by
  rintro B tk fr X S x1 x2 ⟨ws, h⟩
  have hc : by_c x1.toInt x2.toInt = mby_c x1.toInt x2.toInt := by
    unfold by_c mby_c
    by_cases e : 0 ≤ x1.toInt ∧ x1.toInt < 4 ∧ 0 ≤ x2.toInt ∧ x2.toInt < 1024
    · rw [if_pos e, if_pos (by omega)]
    · rw [if_neg e, if_neg (by omega)]
  simp only [cif_s, ← hc]
  refine ⟨by unfold by_c; split <;> omega, rfl, fun q => ?_, ws, h⟩
  rw [if_pos q]
  have q2 : 0 ≤ x1.toInt ∧ x1.toInt < 4 ∧ 0 ≤ x2.toInt ∧ x2.toInt < 1024 := by
    refine Decidable.byContradiction fun w => ?_
    unfold by_c at q; rw [if_neg w] at q; cases q
  obtain ⟨z, hz⟩ : ∃ i : Nat, x1.toInt = i := ⟨x1.toInt.toNat, by omega⟩
  obtain ⟨u, hu⟩ : ∃ i : Nat, x2.toInt = i := ⟨x2.toInt.toNat, by omega⟩
  rw [hz, hu, Int.toNat_natCast, Int.toNat_natCast]
  unfold mby_r
  by_cases e : z = 0
  · rw [if_pos e, e, Nat.zero_mul, Nat.zero_add]
    by_cases e2 : u < 232 ∨ 236 ≤ u
    · rw [h.2.1.2 u (by omega) e2, mpt_out (by omega)]
    · obtain ⟨j, rfl⟩ : ∃ j, u = 232 + j := ⟨u - 232, by omega⟩
      rw [fld_b (n := 4) (by omega) (by omega), h.2.1.1, mpt_in (j := j) (by omega) (by omega)]
  · rw [if_neg e, ← rec_b h (by omega) (by omega) (Nat.mod_lt _ (by decide)), re_f_in (by omega) (by omega)]
    congr 1
    omega
end RD
