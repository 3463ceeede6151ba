/-! pure: counting; the relation between the two states -/
def cn (p : Nat → Bool) : Nat → Nat → Nat
  | 0, _ => 0
  | k + 1, q => (if p q then 1 else 0) + cn p k (q + 1)
theorem cn_eq {p p' : Nat → Bool} : ∀ k q, (∀ i, q ≤ i → i < q + k → p i = p' i) → cn p k q = cn p' k q
  | 0, _, _ => rfl
  | k + 1, q, h => by rw [cn, cn, h q (by omega) (by omega), cn_eq k (q + 1) (fun i h1 h2 => h i (by omega) (by omega))]
theorem cn_pt {p p' : Nat → Bool} {j : Nat} : ∀ k q, q ≤ j → j < q + k → (∀ i, i ≠ j → p' i = p i) → cn p' k q + (if p j then 1 else 0) = cn p k q + (if p' j then 1 else 0)
  | 0, q, h1, h2, _ => absurd h2 (by omega)
  | k + 1, q, h1, h2, h => by
    rw [cn, cn]
    by_cases e : q = j
    · subst e
      rw [cn_eq (p := p') (p' := p) k (q + 1) (fun i h3 h4 => h i (by omega))]
      omega
    · have h5 := cn_pt k (q + 1) (by omega) (by omega) h
      rw [h q e]
      omega
theorem cn_le {p : Nat → Bool} : ∀ k q, cn p k q ≤ k
  | 0, _ => Nat.le_refl _
  | k + 1, q => by rw [cn]; have := cn_le (p := p) k (q + 1); split <;> omega
theorem cn_0 {p : Nat → Bool} : ∀ k q, (∀ i, q ≤ i → i < q + k → p i = false) → cn p k q = 0
  | 0, _, _ => rfl
  | k + 1, q, h => by rw [cn, h q (by omega) (by omega), cn_0 k (q + 1) (fun i h1 h2 => h i (by omega) (by omega))]; rfl
theorem cn_pos {p : Nat → Bool} {j : Nat} : ∀ k q, q ≤ j → j < q + k → p j = true → 0 < cn p k q
  | 0, q, h1, h2, _ => absurd h2 (by omega)
  | k + 1, q, h1, h2, h => by
    rw [cn]
    by_cases e : q = j
    · subst e; rw [if_pos h]; omega
    · have := cn_pos k (q + 1) (by omega) (by omega) h; omega
theorem mf1_cn {tk : Nat → Int32} : ∀ k b n, mf1 tk k b n = n + cn (fun b => decide (tk b = 0)) k b
  | 0, _, _ => rfl
  | k + 1, b, n => by
    rw [mf1, cn, mf1_cn k]
    by_cases e : tk b = 0
    · rw [if_pos e, if_pos (decide_eq_true e)]; omega
    · rw [if_neg e, if_neg (by simpa using e)]; omega
theorem mbo_cn {bl : Nat → Nat} {f : Nat} : ∀ k b n, mbo bl f k b n = n + cn (fun q => decide (bl (15 * f + q) ≠ 0)) k b
  | 0, _, _ => rfl
  | k + 1, b, n => by
    rw [mbo, cn, mbo_cn k]
    by_cases e : bl (15 * f + b) = 0
    · rw [if_pos e, if_neg (by simpa using e)]; omega
    · rw [if_neg e, if_pos (by simpa using e)]; omega
theorem mwt_cn {bl : Nat → Nat} {f : Nat} : ∀ k b n, mwt bl f k b n = n + cn (fun q => decide (bl (15 * f + q) = 0)) k b
  | 0, _, _ => rfl
  | k + 1, b, n => by
    rw [mwt, cn, mwt_cn k]
    by_cases e : bl (15 * f + b) = 0
    · rw [if_pos e, if_pos (decide_eq_true e)]; omega
    · rw [if_neg e, if_neg (by simpa using e)]; omega
theorem mcn_cn {kd wt : Nat → Int32} : ∀ k f a b, mcn kd wt k f a b = (a + cn (fun f => decide (¬ kd f ≤ 0)) k f, b + cn (fun f => decide (¬ wt f = 0)) k f)
  | 0, _, _, _ => rfl
  | k + 1, f, a, b => by
    rw [mcn, cn, cn, mcn_cn k]
    by_cases e : kd f ≤ 0 <;> by_cases e2 : wt f = 0
    · rw [if_pos e, if_pos e2, if_neg (by simpa using e), if_neg (by simpa using e2)]; simp
    · rw [if_pos e, if_neg e2, if_neg (by simpa using e), if_pos (by simpa using e2)]; simp; omega
    · rw [if_neg e, if_pos e2, if_pos (by simpa using e), if_neg (by simpa using e2)]; simp; omega
    · rw [if_neg e, if_neg e2, if_pos (by simpa using e), if_pos (by simpa using e2)]; simp; omega
def md (k : Int32) : Int32 := if k = nI 1 then nI 32768 else if k = nI 3 then nI 40960 else nI 0
def near (kd sz : Nat → Int32) (f : Nat) : Prop := kd f = nI 3 ∧ ¬ nI 60 ≤ sz f
def gap (i : Nat) : Prop := (2 ≤ i ∧ i < 4) ∨ (8 ≤ i ∧ i < 20) ∨ (24 ≤ i ∧ i < 26) ∨ (32 ≤ i ∧ i < 40) ∨ (100 ≤ i ∧ i < 256)
/-- a file's record -/
def rc (B kd sz bh lc : Nat → Int32) (bl : Nat → Nat) (tg : Nat → Int32) (f : Nat) : Prop :=
  ((kd f = 0 ∨ kd f = nI 1 ∨ kd f = nI 3) ∧ re_f B f 0 2 = md (kd f)) ∧ re_f B f 4 4 = sz f ∧ re_f B f 20 4 = bh f ∧ re_f B f 26 2 = lc f ∧ re_f B f 28 4 = nI (2 * mbo bl f 15 0 0) ∧
  (near kd sz f → (∀ i, i < 60 → re_f B f (40 + i) 1 = if sz f ≤ nI i then nI 0 else tg (60 * f + i) &&& nI 255) ∧ ∀ k, k < 15 → bl (15 * f + k) = 0) ∧
  (¬ near kd sz f → ∀ k, k < 15 → re_f B f (40 + 4 * k) 4 = nI (bl (15 * f + k))) ∧
  (∀ i, gap i → re_f B f i 1 = nI 0) ∧ (0 ≤ (lc f).toInt ∧ (lc f).toInt ≤ 1000) ∧ (kd f = 0 → sz f = 0 ∧ lc f = 0 ∧ ∀ k, k < 15 → bl (15 * f + k) = 0)
def hdr (B : Nat → Int32) (fs : Int32) : Prop := fr_num B 232 4 = fs ∧ ∀ i, i < 1024 → (i < 232 ∨ 236 ≤ i) → fr_num B i 1 = nI 0
/-- the list of waiting files -/
def chn (bh : Nat → Int32) : List Nat → Int32 → Prop
  | [], x => x = nI 0
  | g :: t, x => x = nI g ∧ chn bh t (bh g)
def WL (bh wt : Nat → Int32) (fs : Int32) (ws : List Nat) : Prop := chn bh ws fs ∧ ws.Nodup ∧ (∀ g ∈ ws, 1 ≤ g ∧ g ≤ 12) ∧ ∀ g, 1 ≤ g → g ≤ 12 → (wt g = nI 1 ∧ g ∈ ws) ∨ (wt g = nI 0 ∧ g ∉ ws ∧ bh g = nI 0)
def wtg (kd lc bh wt : Nat → Int32) (fs : Int32) (ws : List Nat) : Prop := WL bh wt fs ws ∧ ∀ f, 1 ≤ f → f ≤ 12 → (f ∈ ws ↔ (kd f ≠ 0 ∧ lc f = 0))
def bks (X : Nat → Option (Nat → Int32)) (dk tk : Nat → Int32) (bl : Nat → Nat) (sz : Nat → Int32) : Prop :=
  (∀ j, 15 ≤ j → j < 195 → bl j ≠ 0 → 4 ≤ bl j ∧ tk (bl j) ≠ 0 ∧ ∃ c, X (bl j) = some c ∧ ∀ i, i < 1024 → c i = dk (1024 * bl j + i) ∧ ((sz (j / 15)).toInt ≤ ((1024 * (j % 15) + i : Nat) : Int) → c i = nI 0)) ∧
  ∀ i j, 15 ≤ i → i < 195 → 15 ≤ j → j < 195 → bl i = bl j → bl i ≠ 0 → i = j
def tks (tc tk : Nat → Int32) (fr : Int32) : Prop := (∀ b, 4 ≤ b → b < 128 → tc b = tk b) ∧ (∀ b, b < 4 → tk b ≠ 0) ∧ fr = nI (mf1 tk 128 0 0)
def rw_ (ws : List Nat) (B tk : Nat → Int32) (fr : Int32) (X : Nat → Option (Nat → Int32)) (S : mst) : Prop :=
  (∀ f, 1 ≤ f → f ≤ 12 → rc B (pj_kd S) (pj_sz S) (pj_bh S) (pj_lc S) (pj_bl S) (pj_tg S) f) ∧ hdr B (pj_fs S) ∧ zOK (pj_sz S) ∧ bOK (pj_bl S) ∧ wtg (pj_kd S) (pj_lc S) (pj_bh S) (pj_wt S) (pj_fs S) ws ∧ bks X (pj_dk S) (pj_tk S) (pj_bl S) (pj_sz S) ∧ tks tk (pj_tk S) fr
def rl : RL := fun B tk fr X S => ∃ ws : List Nat, rw_ ws B tk fr X S
section RCD
variable {B kd sz bh lc : Nat → Int32} {bl : Nat → Nat} {tg : Nat → Int32} {f : Nat}
theorem rc_kind (h : rc B kd sz bh lc bl tg f) : re_kind B f = kd f := by
  obtain ⟨⟨h1, h2⟩, -⟩ := h
  unfold re_kind
  rw [h2]
  rcases h1 with h | h | h <;> rw [h] <;> decide
theorem rc_kdc (h : rc B kd sz bh lc bl tg f) : kd f ≤ 0 ↔ kd f = 0 := by
  obtain ⟨⟨h1, h2⟩, -⟩ := h
  rcases h1 with h | h | h <;> rw [h] <;> decide
theorem rc_nb (h : rc B kd sz bh lc bl tg f) : re_nb B f = nI (mbo bl f 15 0 0) := by
  have hm := mbo_le (bl := bl) (f := f) 15 0 0
  unfold re_nb
  rw [h.2.2.2.2.1, pk_div (by omega) (by decide) (by decide), Nat.mul_div_cancel_left _ (by decide)]
theorem mbo_0 (h : mbo bl f 15 0 0 = 0) : ∀ k, k < 15 → bl (15 * f + k) = 0 := fun k hk => by
  by_cases e : bl (15 * f + k) = 0
  · exact e
  · rw [mbo_cn, Nat.zero_add] at h
    have := cn_pos (p := fun q => decide (bl (15 * f + q) ≠ 0)) (j := k) 15 0 (by omega) (by omega) (by simpa using e)
    omega
theorem mbo_z (h : ∀ k, k < 15 → bl (15 * f + k) = 0) : mbo bl f 15 0 0 = 0 := by
  rw [mbo_cn, cn_0 15 0 (fun i _ h2 => by simpa using h i (by omega))]
theorem rc_blk (h : rc B kd sz bh lc bl tg f) {k : Nat} (hk : k < 15) : re_blk B f ((k : Nat) : Int) = nI (bl (15 * f + k)) := by
  have hm := mbo_le (bl := bl) (f := f) 15 0 0
  unfold re_blk
  rw [rc_nb h]
  by_cases e : mbo bl f 15 0 0 = 0
  · rw [if_pos (Or.inr (Or.inr (by rw [e]; rfl))), mbo_0 e k hk]
  · rw [if_neg (by rintro (q | q | q); omega; omega; exact nI_ne0 (by omega) (by omega) q), Int.toNat_natCast]
    refine h.2.2.2.2.2.2.1 (fun hn => e ?_) k hk
    exact mbo_z (h.2.2.2.2.2.1 hn).2
end RCD
section RLD
variable {B tk : Nat → Int32} {fr : Int32} {X : Nat → Option (Nat → Int32)} {S : mst} {ws : List Nat}
theorem re_kind_0 {f : Nat} (h : f = 0 ∨ 12 < f) : re_kind B f = nI 0 := by
  unfold re_kind
  rw [re_f_0 h]; decide
theorem kz (h : rw_ ws B tk fr X S) (f : Nat) : re_kind B f = 0 ↔ ¬ ((f ≠ 0 ∧ f ≤ 12) ∧ ¬ pj_kd S f ≤ 0) := by
  by_cases e : f ≠ 0 ∧ f ≤ 12
  · have hc := h.1 f (by omega) e.2
    rw [rc_kind hc, rc_kdc hc]
    exact ⟨fun q w => w.2 q, fun q => Decidable.byContradiction fun w => q ⟨e, w⟩⟩
  · exact ⟨fun _ q => e q.1, fun _ => re_kind_0 (by omega)⟩
theorem kp (h : rw_ ws B tk fr X S) (f : Nat) : re_kind B f = nI 1 ↔ (((f ≠ 0 ∧ f ≤ 12) ∧ ¬ pj_kd S f ≤ 0) ∧ pj_kd S f = nI 1) := by
  by_cases e : f ≠ 0 ∧ f ≤ 12
  · have hc := h.1 f (by omega) e.2
    rw [rc_kind hc, rc_kdc hc]
    exact ⟨fun q => ⟨⟨e, by rw [q]; decide⟩, q⟩, fun q => q.2⟩
  · exact ⟨fun q => by rw [re_kind_0 (by omega)] at q; exact absurd q (by decide), fun q => absurd q.1.1 e⟩
theorem abs_eq (h : rw_ ws B tk fr X S) : ∀ k f, 1 ≤ f → f + k ≤ 13 → re_abs B k f = mff (pj_kd S) k f
  | 0, _, _, _ => rfl
  | k + 1, f, h1, h2 => by rw [re_abs, mff, rc_kind (h.1 f h1 (by omega)), abs_eq h k (f + 1) (by omega) (by omega)]
theorem abs12 (h : rw_ ws B tk fr X S) : re_abs B 12 1 = mff (pj_kd S) 12 1 := abs_eq h 12 1 (by omega) (by omega)
end RLD
