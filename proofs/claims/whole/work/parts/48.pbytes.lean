/-! pure: bytes are written -/
def adr (bl : Nat → Nat) (f p : Nat) : Nat := 1024 * bl (15 * f + p / 1024) + p % 1024
theorem up_s {α : Type} {g : Nat → α} {k : Nat} {v : α} : va_up g k v k = v := if_pos rfl
theorem up_n {α : Type} {g : Nat → α} {k j : Nat} {v : α} (h : j ≠ k) : va_up g k v j = g j := if_neg h
section PUT
variable {B tk : Nat → Int32} {fr : Int32} {X : Nat → Option (Nat → Int32)} {S : mst} {D : Nat → Int32} {f p : Nat}
theorem adr_inj {X : Nat → Option (Nat → Int32)} {dk tk sz : Nat → Int32} {bl : Nat → Nat} (h : bks X dk tk bl sz) (h1 : 1 ≤ f) (h2 : f ≤ 12) {p q : Nat} (hp : p < 15360) (hq : q < 15360) (h0 : bl (15 * f + p / 1024) ≠ 0) (e : adr bl f p = adr bl f q) : p = q := by
  unfold adr at e
  have e1 : bl (15 * f + p / 1024) = bl (15 * f + q / 1024) := by omega
  have := h.2 _ _ (by omega) (by omega) (by omega) (by omega) e1 h0
  omega
theorem put_ok (h : rq B tk fr X (msdk S D)) (h1 : 1 ≤ f) (h2 : f ≤ 12) (hp : p < 15360) (h0 : pj_bl S (15 * f + p / 1024) ≠ 0) (hs : (p : Int) < (pj_sz S f).toInt) {x y : Int32} (hx : x.toInt8 = y.toInt8) :
    rq B tk fr (dx_put X (re_blk B f ((p / 1024 : Nat) : Int)).toInt (p % 1024) x) (msdk S (mset D (pj_bl S) f p y)) := by
  have e3 : pj_bl S (15 * f + p / 1024) < 128 := h.2.2.2.1 (15 * f + p / 1024)
  have hbk : re_blk B f ((p / 1024 : Nat) : Int) = nI (pj_bl S (15 * f + p / 1024)) := rc_blk (h.1 f h1 h2) (by omega)
  obtain ⟨-, -, c, hc, hd⟩ := h.2.2.2.2.1.1 (15 * f + p / 1024) (by omega) (by omega) h0
  have hc : X (pj_bl S (15 * f + p / 1024)) = some c := hc
  have hput : dx_put X (re_blk B f ((p / 1024 : Nat) : Int)).toInt (p % 1024) x = va_up X (pj_bl S (15 * f + p / 1024)) (some (upd c (p % 1024) (vp_nar .byte (y.toInt8.toInt32)))) := by
    unfold dx_put
    rw [hbk, nI_toInt (by omega), if_neg (by omega), Int.toNat_natCast, hc, hx]
  rw [hput]
  unfold mset
  refine ⟨h.1, h.2.1, h.2.2.1, h.2.2.2.1, ⟨fun j j1 j2 j3 => ?_, h.2.2.2.2.1.2⟩, h.2.2.2.2.2⟩
  have j3 : pj_bl S j ≠ 0 := j3
  show 4 ≤ pj_bl S j ∧ pj_tk S (pj_bl S j) ≠ 0 ∧ ∃ c', va_up X (pj_bl S (15 * f + p / 1024)) (some (upd c (p % 1024) (vp_nar .byte (y.toInt8.toInt32)))) (pj_bl S j) = some c' ∧ ∀ i, i < 1024 → c' i = upd D (1024 * pj_bl S (15 * f + p / 1024) + p % 1024) (vp_nar .byte (y.toInt8.toInt32)) (1024 * pj_bl S j + i) ∧ ((pj_sz S (j / 15)).toInt ≤ ((1024 * (j % 15) + i : Nat) : Int) → c' i = nI 0)
  obtain ⟨w1, w2, c2, w3, w4⟩ := h.2.2.2.2.1.1 j j1 j2 j3
  refine ⟨w1, w2, ?_⟩
  by_cases e : pj_bl S j = pj_bl S (15 * f + p / 1024)
  · have ej : j = 15 * f + p / 1024 := h.2.2.2.2.1.2 j _ j1 j2 (by omega) (by omega) e j3
    rw [e, up_s]
    refine ⟨_, rfl, fun i hi => ?_⟩
    by_cases ei : i = p % 1024
    · rw [ei, pk_us, pk_us]
      refine ⟨rfl, fun w => ?_⟩
      have hj1 : j / 15 = f := by omega
      have hj2 : j % 15 = p / 1024 := by omega
      rw [hj1, hj2] at w
      omega
    · rw [pk_un ei, pk_un (by omega)]
      have := hd i hi
      rw [← ej] at this
      refine ⟨?_, this.2⟩
      rw [← e]
      exact this.1
  · rw [up_n e]
    refine ⟨c2, w3, fun i hi => ?_⟩
    have hmod := Nat.mod_lt p (show 0 < 1024 by decide)
    rw [pk_un (by omega)]
    exact w4 i hi
end PUT
theorem upd_c {d : Nat → Int32} {i j : Nat} {x y : Int32} (h : i ≠ j) : upd (upd d i x) j y = upd (upd d j y) i x := by
  funext k
  by_cases e1 : k = i
  · subst e1; rw [pk_un h, pk_us, pk_us]
  · by_cases e2 : k = j
    · subst e2; rw [pk_us, pk_un e1, pk_us]
    · rw [pk_un e2, pk_un e1, pk_un e1, pk_un e2]
theorem mwrd_c {bl : Nat → Nat} {f a n : Nat} {r : Int64} {p : Nat} {v : Int32} : ∀ (k i : Nat) (d : Nat → Int32), (∀ j, i ≤ j → j < i + k → adr bl f (a + j) ≠ p) → mwrd bl f a n r k i (upd d p v) = upd (mwrd bl f a n r k i d) p v
  | 0, _, _, _ => rfl
  | k + 1, i, d, h => by
    have h0 := h i (by omega) (by omega)
    unfold adr at h0
    rw [mwrd, mwrd, mset, mset, upd_c (fun e => h0 e.symm), mwrd_c k (i + 1) _ (fun j h1 h2 => h j (by omega) (by omega))]
theorem sh_u (r : Int64) : ((r.toUInt64 >>> ((nI 8).toInt64.toUInt64 &&& Int64.toUInt64 63)).toInt64).toBitVec = r.toBitVec >>> 8 := by
  have e : ((nI 8).toInt64.toUInt64 &&& Int64.toUInt64 63).toBitVec % 64 = 8#64 := by decide
  show (r.toUInt64 >>> ((nI 8).toInt64.toUInt64 &&& Int64.toUInt64 63)).toBitVec = _
  rw [UInt64.toBitVec_shiftRight, e]
  rfl
theorem sh_b {r ρ : Int64} {k : Nat} (hk : k < 8) (h : ρ.toBitVec = r.toBitVec >>> (8 * k)) : ρ.toInt32.toInt8 = ((r >>> ((nI (8 * k)).toInt64 &&& 63)).toInt32).toInt8 := by
  have hs : (((nI (8 * k)).toInt64 &&& 63).toBitVec.smod 64).toNat = 8 * k := by
    clear h
    revert k; decide
  have e1 : (r >>> ((nI (8 * k)).toInt64 &&& 63)).toBitVec = r.toBitVec.sshiftRight (8 * k) := by
    rw [Int64.toBitVec_shiftRight, BitVec.sshiftRight_eq', hs]
  apply Int8.toBitVec_inj.mp
  rw [Int32.toBitVec_toInt8, Int32.toBitVec_toInt8, Int64.toBitVec_toInt32, Int64.toBitVec_toInt32, e1, h]
  apply BitVec.eq_of_getLsbD_eq
  intro i hi
  rw [BitVec.getLsbD_signExtend, BitVec.getLsbD_signExtend, BitVec.getLsbD_signExtend, BitVec.getLsbD_signExtend, BitVec.getLsbD_ushiftRight, BitVec.getLsbD_sshiftRight]
  have h1 : i < 32 := by omega
  have h2 : i < 64 := by omega
  have h3 : 8 * k + i < 64 := by omega
  have h4 : ¬ 64 ≤ i := by omega
  simp [hi, h1, h2, h3]
section LOOP
variable {B tk : Nat → Int32} {fr : Int32} {S : mst} {f a n : Nat}
theorem sb_ok {r : Int64} {d0 : Nat → Int32} (h1 : 1 ≤ f) (h2 : f ≤ 12) (hn : n ≤ 8) (ha : a + n ≤ 15360) (hs : ((a + n : Nat) : Int) ≤ (pj_sz S f).toInt) (hb : ∀ i, i < n → pj_bl S (15 * f + (a + i) / 1024) ≠ 0) : ∀ (m : Nat) (X : Nat → Option (Nat → Int32)) (ρ : Int64), m ≤ n → ρ.toBitVec = r.toBitVec >>> (8 * (n - m)) → rq B tk fr X (msdk S (mwrd (pj_bl S) f a n r (n - m) m d0)) → rq B tk fr (sbX B f a m X ρ) (msdk S (mwrd (pj_bl S) f a n r n 0 d0))
  | 0, X, ρ, _, _, h => h
  | m + 1, X, ρ, hm, hρ, h => by
    rw [sbX]
    refine sb_ok h1 h2 hn ha hs hb m _ _ (by omega) ?_ ?_
    · rw [sh_u, hρ, ← BitVec.shiftRight_add, show 8 * (n - (m + 1)) + 8 = 8 * (n - m) by omega]
    · have e : mwrd (pj_bl S) f a n r (n - m) m d0 = mset (mwrd (pj_bl S) f a n r (n - (m + 1)) (m + 1) d0) (pj_bl S) f (a + m) ((r >>> ((nI (8 * (n - 1 - m))).toInt64 &&& 63)).toInt32) := by
        rw [show n - m = n - (m + 1) + 1 by omega, mwrd, mset, mset]
        refine mwrd_c _ _ _ (fun j j1 j2 e => ?_)
        have := adr_inj h.2.2.2.2.1 h1 h2 (p := a + j) (q := a + m) (by omega) (by omega) (hb j (by omega)) e
        omega
      rw [e]
      exact put_ok h h1 h2 (by omega) (hb m (by omega)) (by omega) (by
        rw [show n - 1 - m = n - (m + 1) by omega]
        exact sh_b (by omega) hρ)
theorem mpad_add {bl : Nat → Nat} {x : Int32} : ∀ (k1 k2 i : Nat) (d : Nat → Int32), mpad bl f a x (k1 + k2) i d = mpad bl f a x k2 (i + k1) (mpad bl f a x k1 i d)
  | 0, k2, i, d => by rw [Nat.zero_add]; rfl
  | k1 + 1, k2, i, d => by rw [show k1 + 1 + k2 = (k1 + k2) + 1 by omega, mpad, mpad, mpad_add k1 k2 (i + 1), show i + (k1 + 1) = i + 1 + k1 by omega]
theorem row_ok {x : Int32} (h1 : 1 ≤ f) (h2 : f ≤ 12) (ha : a + n ≤ 15360) (hs : ((a + n : Nat) : Int) ≤ (pj_sz S f).toInt) (hb : ∀ i, i < n → pj_bl S (15 * f + (a + i) / 1024) ≠ 0) {q : Nat} : ∀ (m u i : Nat) (X : Nat → Option (Nat → Int32)) (D : Nat → Int32), a + i = 1024 * q + u → u + m ≤ 1024 → i + m ≤ n → rq B tk fr X (msdk S D) → rq B tk fr (dx_pat X (re_blk B f ((q : Nat) : Int)).toInt u (u + m) (x + nI (7 * i))) (msdk S (mpad (pj_bl S) f a x m i D))
  | 0, u, i, X, D, _, _, _, h => by
    have e : dx_pat X (re_blk B f ((q : Nat) : Int)).toInt u (u + 0) (x + nI (7 * i)) = X := by
      unfold dx_pat
      split
      · rfl
      · split
        · rfl
        · rename_i r hr
          rw [Nat.add_zero, Nat.sub_self, row_pat]
          funext j
          by_cases e : j = (re_blk B f ((q : Nat) : Int)).toInt.toNat
          · rw [e, up_s, hr]
          · rw [up_n e]
    rw [e]
    exact h
  | m + 1, u, i, X, D, hi, hu, hin, h => by
    have hd : (a + i) / 1024 = q := by omega
    have hm : (a + i) % 1024 = u := by omega
    have h0 := hb i (by omega)
    have e3 : pj_bl S (15 * f + q) < 128 := h.2.2.2.1 (15 * f + q)
    have hbk : re_blk B f ((q : Nat) : Int) = nI (pj_bl S (15 * f + q)) := rc_blk (h.1 f h1 h2) (by omega)
    have hp := put_ok (x := x + nI (7 * i)) (y := x + nI (7 * i)) h h1 h2 (p := a + i) (by omega) h0 (by omega) rfl
    rw [hd] at h0
    obtain ⟨-, -, c, hc, -⟩ := h.2.2.2.2.1.1 (15 * f + q) (by omega) (by omega) h0
    have hc : X (pj_bl S (15 * f + q)) = some c := hc
    have := row_ok (x := x) h1 h2 ha hs hb (q := q) m (u + 1) (i + 1) _ _ (by omega) (by omega) (by omega) hp
    rw [mpad]
    have e : dx_pat X (re_blk B f ((q : Nat) : Int)).toInt u (u + (m + 1)) (x + nI (7 * i)) = dx_pat (dx_put X (re_blk B f (((a + i) / 1024 : Nat) : Int)).toInt ((a + i) % 1024) (x + nI (7 * i))) (re_blk B f ((q : Nat) : Int)).toInt (u + 1) (u + 1 + m) (x + nI (7 * (i + 1))) := by
      rw [hd, hm, hbk, nI_toInt (by omega)]
      unfold dx_pat dx_put
      have hz : ¬ (((pj_bl S (15 * f + q) : Nat) : Int) < 0 ∨ 128 ≤ ((pj_bl S (15 * f + q) : Nat) : Int)) := by omega
      rw [if_neg hz, if_neg hz, if_neg hz, Int.toNat_natCast, hc]
      dsimp only
      rw [up_s]
      dsimp only
      rw [Nat.add_sub_cancel_left, Nat.add_sub_cancel_left, row_pat]
      have e7 : x + nI (7 * i) + Int32.ofInt 7 = x + nI (7 * (i + 1)) := by
        rw [show Int32.ofInt 7 = nI 7 by decide, Int32.add_assoc, nI_add, show 7 * i + 7 = 7 * (i + 1) by omega]
      rw [e7]
      funext j
      by_cases ej : j = pj_bl S (15 * f + q)
      · rw [ej, up_s, up_s]
      · rw [up_n ej, up_n ej, up_n ej]
    rw [e]
    exact this
theorem pt_ok {x : Int32} {d0 : Nat → Int32} (h1 : 1 ≤ f) (h2 : f ≤ 12) (hn : 1 ≤ n) (ha : a + n ≤ 15360) (hs : ((a + n : Nat) : Int) ≤ (pj_sz S f).toInt) (hb : ∀ i, i < n → pj_bl S (15 * f + (a + i) / 1024) ≠ 0) : ∀ (k q : Nat) (X : Nat → Option (Nat → Int32)), a / 1024 ≤ q → q + k = (a + n - 1) / 1024 + 1 → rq B tk fr X (msdk S (mpad (pj_bl S) f a x (min (a + n) (max a (q * 1024)) - a) 0 d0)) → rq B tk fr (ptX B f a n x k q X) (msdk S (mpad (pj_bl S) f a x n 0 d0))
  | 0, q, X, hq, hk, h => by
    rw [show min (a + n) (max a (q * 1024)) - a = n by omega] at h
    exact h
  | k + 1, q, X, hq, hk, h => by
    rw [ptX]
    refine pt_ok h1 h2 hn ha hs hb k (q + 1) _ (by omega) (by omega) ?_
    have e : min (a + n) (max a ((q + 1) * 1024)) - a = (min (a + n) (max a (q * 1024)) - a) + (min (a + n - q * 1024) 1024 - (a - q * 1024)) := by omega
    rw [e, mpad_add, Nat.zero_add]
    have := row_ok (x := x) h1 h2 ha hs hb (q := q) (min (a + n - q * 1024) 1024 - (a - q * 1024)) (a - q * 1024) (min (a + n) (max a (q * 1024)) - a) _ _ (by omega) (by omega) (by omega) h
    rw [show a - q * 1024 + (min (a + n - q * 1024) 1024 - (a - q * 1024)) = min (a + n - q * 1024) 1024 by omega] at this
    rw [show q * 1024 + (a - q * 1024) - a = min (a + n) (max a (q * 1024)) - a by omega]
    exact this
end LOOP
