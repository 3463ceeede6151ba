/-! pure: the list of waiting files in the records -/
theorem hdr_re {B : Nat → Int32} {fs : Int32} {f o n : Nat} {x : Int32} (h : hdr B fs) : hdr (re_set B f o n x) fs := by
  refine ⟨?_, fun i h1 h2 => ?_⟩
  · rw [rsh (by omega)]; exact h.1
  · rw [rsh (by omega)]; exact h.2 i h1 h2
theorem hdr_fr {B : Nat → Int32} {fs x : Int32} (h : hdr B fs) : hdr (fr_set B 232 4 x) x := by
  refine ⟨fr_num_w, fun i h1 h2 => ?_⟩
  rw [fr_num_o (by omega)]; exact h.2 i h1 h2
section LST
variable {B bh wt : Nat → Int32} {fs : Int32} {ws : List Nat} {f : Nat}
theorem LA (hb : ∀ g, 1 ≤ g → g ≤ 12 → re_f B g 20 4 = bh g) (hh : hdr B fs) (hw : WL bh wt fs ws) (h1 : 1 ≤ f) (h2 : f ≤ 12) (hf : f ∉ ws) :
    (∀ g, 1 ≤ g → g ≤ 12 → re_f (wa_add B f (nI f)) g 20 4 = upd bh f fs g) ∧ hdr (wa_add B f (nI f)) (nI f) ∧ WL (upd bh f fs) (upd wt f (vp_nar .boolean (nI 1))) (nI f) (f :: ws) ∧ ∀ g o n, (o + n ≤ 20 ∨ 24 ≤ o) → o + n ≤ 256 → re_f (wa_add B f (nI f)) g o n = re_f B g o n := by
  unfold wa_add
  refine ⟨fun g h3 h4 => ?_, hdr_fr (hdr_re hh), ⟨⟨rfl, ?_⟩, List.nodup_cons.mpr ⟨hf, hw.2.1⟩, fun g hg => ?_, fun g h3 h4 => ?_⟩, fun g o n h3 h4 => ?_⟩
  · rw [hsr]
    by_cases e : g = f
    · subst e; rw [rs4 (by omega) h2, pk_us, hh.1]
    · rw [rso (Or.inl e) (by omega) (by omega), pk_un e, hb g h3 h4]
  · rw [pk_us]
    exact chn_eq ws _ (fun g hg => pk_un (fun q => hf (by rw [← q]; exact hg))) hw.1
  · rcases List.mem_cons.mp hg with rfl | q
    · exact ⟨h1, h2⟩
    · exact hw.2.2.1 g q
  · by_cases e : g = f
    · subst e; exact Or.inl ⟨by rw [pk_us]; decide, List.mem_cons_self⟩
    · rw [pk_un e, pk_un e]
      rcases hw.2.2.2 g h3 h4 with ⟨q1, q2⟩ | ⟨q1, q2, q3⟩
      · exact Or.inl ⟨q1, List.mem_cons_of_mem _ q2⟩
      · exact Or.inr ⟨q1, fun w => by rcases List.mem_cons.mp w with w | w; exact e w; exact q2 w, q3⟩
  · rw [hsr, rso (Or.inr (by omega)) (by omega) h4]
theorem LR (hb : ∀ g, 1 ≤ g → g ≤ 12 → re_f B g 20 4 = bh g) (hh : hdr B fs) (hw : WL bh wt fs ws) (h1 : 1 ≤ f) (h2 : f ≤ 12) (hf : f ∈ ws) :
    (∀ g, 1 ≤ g → g ≤ 12 → re_f (wa_rem B f (nI f)) g 20 4 = upd (rlp (upd wt f (vp_nar .boolean (nI 0))) f 12 1 bh) f (nI 0) g) ∧ hdr (wa_rem B f (nI f)) (if fs = nI f then bh f else fs) ∧ WL (upd (rlp (upd wt f (vp_nar .boolean (nI 0))) f 12 1 bh) f (nI 0)) (upd wt f (vp_nar .boolean (nI 0))) (if fs = nI f then bh f else fs) (ws.erase f) ∧ ∀ g o n, (o + n ≤ 20 ∨ 24 ≤ o) → o + n ≤ 256 → re_f (wa_rem B f (nI f)) g o n = re_f B g o n := by
  have hwf : upd wt f (vp_nar .boolean (nI 0)) f = 0 := by rw [pk_us]; decide
  have hwg : ∀ g, g ∈ ws → wt g = nI 1 := fun g hg => by
    have hr := hw.2.2.1 g hg
    rcases hw.2.2.2 g hr.1 hr.2 with q | q
    · exact q.1
    · exact absurd hg q.2.1
  have hbh : ∀ g, 1 ≤ g → g ≤ 12 → g ≠ f → upd (rlp (upd wt f (vp_nar .boolean (nI 0))) f 12 1 bh) f (nI 0) g = if g ∈ ws ∧ bh g = nI f then bh f else bh g := fun g h3 h4 e => by
    rw [pk_un e, rlp_at hwf, pk_un e]
    rcases hw.2.2.2 g h3 h4 with ⟨q1, q2⟩ | ⟨q1, q2, q3⟩
    · by_cases e2 : bh g = nI f
      · rw [if_pos ⟨by omega, by rw [q1]; decide, e2⟩, if_pos ⟨q2, e2⟩]
      · rw [if_neg (fun w => e2 w.2.2), if_neg (fun w => e2 w.2)]
    · rw [if_neg (fun w => w.2.1 (by rw [q1]; decide)), if_neg (fun w => q2 w.1)]
  have hbf : upd (rlp (upd wt f (vp_nar .boolean (nI 0))) f 12 1 bh) f (nI 0) f = nI 0 := pk_us
  have hWL : WL (upd (rlp (upd wt f (vp_nar .boolean (nI 0))) f 12 1 bh) f (nI 0)) (upd wt f (vp_nar .boolean (nI 0))) (if fs = nI f then bh f else fs) (ws.erase f) := by
    refine ⟨chn_rm ⟨h1, h2⟩ ws fs hw.1 hw.2.1 hw.2.2.1 hf (fun g hg e => ?_), hw.2.1.erase f, fun g hg => hw.2.2.1 g (List.mem_of_mem_erase hg), fun g h3 h4 => ?_⟩
    · rw [hbh g (hw.2.2.1 g hg).1 (hw.2.2.1 g hg).2 e]
      by_cases e2 : bh g = nI f
      · rw [if_pos ⟨hg, e2⟩, if_pos e2]
      · rw [if_neg (fun w => e2 w.2), if_neg e2]
    · by_cases e : g = f
      · subst e
        exact Or.inr ⟨by rw [pk_us]; decide, fun w => (hw.2.1.mem_erase_iff.mp w).1 rfl, hbf⟩
      · rw [pk_un e, hbh g h3 h4 e]
        rcases hw.2.2.2 g h3 h4 with ⟨q1, q2⟩ | ⟨q1, q2, q3⟩
        · exact Or.inl ⟨q1, hw.2.1.mem_erase_iff.mpr ⟨e, q2⟩⟩
        · exact Or.inr ⟨q1, fun w => q2 (List.mem_of_mem_erase w), by rw [if_neg (fun w => q2 w.1), q3]⟩
  by_cases e : fs = nI f
  · have hB : wa_rem B f (nI f) = re_set (fr_set B 232 4 (bh f)) f 20 4 (nI 0) := by
      unfold wa_rem wa_rem1
      rw [if_pos (by rw [hh.1, e]), hb f h1 h2]
    rw [hB]
    refine ⟨fun g h3 h4 => ?_, ?_, hWL, fun g o n h3 h4 => ?_⟩
    · by_cases e2 : g = f
      · subst e2; rw [rs4 (by omega) h2, hbf]
      · rw [rso (Or.inl e2) (by omega) (by omega), hsr, hb g h3 h4, hbh g h3 h4 e2, if_neg]
        rintro ⟨w1, w2⟩
        rcases ws with _ | ⟨a, t⟩
        · cases hf
        · have ha := hw.2.2.1 a List.mem_cons_self
          have : a = f := (nI_eq (by omega) (by omega)).mp (hw.1.1.symm.trans e)
          subst this
          exact (List.nodup_cons.mp hw.2.1).1 (chn_in ⟨h1, h2⟩ t a fs hw.1 hw.2.2.1 g w1 w2)
    · rw [if_pos e]; exact hdr_re (hdr_fr hh)
    · rw [rso (Or.inr (by omega)) (by omega) h4, hsr]
  · rcases ws with _ | ⟨a, t⟩
    · cases hf
    have ha := hw.2.2.1 a List.mem_cons_self
    have hfa : f ≠ a := fun q => e (by rw [hw.1.1, q])
    have hft : f ∈ t := by
      rcases List.mem_cons.mp hf with q | q
      · exact absurd q hfa
      · exact q
    have hlen := WL_len hw
    obtain ⟨p, hp1, hp2, hp3⟩ := bef_ok hb ⟨h1, h2⟩ t 12 a (by rw [← hw.1.1]; exact hw.1) hw.2.2.1 hft (by simp at hlen; omega)
    have hp := hw.2.2.1 p hp1
    have hB : wa_rem B f (nI f) = re_set (re_set B p 20 4 (bh f)) f 20 4 (nI 0) := by
      unfold wa_rem wa_rem1
      rw [if_neg (by rw [hh.1]; exact e), hb f h1 h2, hh.1, hw.1.1, hp3, nI_clamp (by omega)]
    rw [hB]
    refine ⟨fun g h3 h4 => ?_, ?_, hWL, fun g o n h3 h4 => ?_⟩
    · by_cases e2 : g = f
      · subst e2; rw [rs4 (by omega) h2, hbf]
      · rw [rso (Or.inl e2) (by omega) (by omega), hbh g h3 h4 e2]
        by_cases e3 : g = p
        · subst e3; rw [rs4 (by omega) h4, if_pos ⟨hp1, hp2⟩]
        · rw [rso (Or.inl e3) (by omega) (by omega), hb g h3 h4, if_neg]
          exact fun w => e3 (chn_un ⟨h1, h2⟩ (a :: t) fs hw.1 hw.2.1 hw.2.2.1 g w.1 p hp1 w.2 hp2)
    · rw [if_neg e]; exact hdr_re (hdr_re hh)
    · rw [rso (Or.inr (by omega)) (by omega) h4, rso (Or.inr (by omega)) (by omega) h4]
end LST
/-! pure: a record that is not touched -/
theorem rc_fr {B B' kd kd' sz sz' bh bh' lc lc' tg tg' : Nat → Int32} {bl bl' : Nat → Nat} {f : Nat} (h : rc B kd sz bh lc bl tg f) (hb : ∀ o n, o + n ≤ 256 → (o + n ≤ 20 ∨ 24 ≤ o) → re_f B' f o n = re_f B f o n) (hh : re_f B' f 20 4 = bh' f) (h1 : kd' f = kd f) (h2 : sz' f = sz f) (h4 : lc' f = lc f) (h5 : ∀ k, k < 15 → bl' (15 * f + k) = bl (15 * f + k)) (h6 : ∀ i, i < 60 → tg' (60 * f + i) = tg (60 * f + i)) : rc B' kd' sz' bh' lc' bl' tg' f := by
  have hm : mbo bl' f 15 0 0 = mbo bl f 15 0 0 := by
    rw [mbo_cn, mbo_cn]
    exact congrArg _ (cn_eq 15 0 (fun i _ h => by rw [h5 i (by omega)]))
  unfold rc near
  rw [h1, h2, h4, hm, hb 0 2 (by omega) (by omega), hb 4 4 (by omega) (by omega), hh, hb 26 2 (by omega) (by omega), hb 28 4 (by omega) (by omega)]
  obtain ⟨q1, q2, q3, q4, q5, q6, q7, q8, q9, q10⟩ := h
  refine ⟨q1, q2, rfl, q4, q5, fun w => ⟨fun i hi => ?_, fun k hk => ?_⟩, fun w k hk => ?_, fun i hi => ?_, q9, fun w => ?_⟩
  · rw [hb _ _ (by omega) (by omega), (q6 w).1 i hi, h6 i hi]
  · rw [h5 k hk]; exact (q6 w).2 k hk
  · rw [hb _ _ (by omega) (by omega), q7 w k hk, h5 k hk]
  · rw [hb _ _ (by unfold gap at hi; omega) (by unfold gap at hi; omega)]; exact q8 i hi
  · refine ⟨(q10 w).1, (q10 w).2.1, fun k hk => ?_⟩
    rw [h5 k hk]; exact (q10 w).2.2 k hk
theorem upd_id {f : Nat → Int32} {k : Nat} {x : Int32} (h : f k = x) : upd f k x = f := by
  funext j
  by_cases e : j = k
  · subst e; rw [pk_us, h]
  · rw [pk_un e]
theorem un_s {f : Nat → Nat} {k v : Nat} : un f k v k = v := if_pos rfl
theorem un_n {f : Nat → Nat} {k v j : Nat} (h : j ≠ k) : un f k v j = f j := if_neg h
theorem un_id {f : Nat → Nat} {k v : Nat} (h : f k = v) : un f k v = f := by
  funext j
  by_cases e : j = k
  · subst e; rw [un_s, h]
  · rw [un_n e]
theorem mz15_id {f : Nat} : ∀ (n k : Nat) (b : Nat → Nat), (∀ i, k ≤ i → i < k + n → b (15 * f + i) = 0) → mz15 f n k b = b
  | 0, _, _, _ => rfl
  | n + 1, k, b, h => by rw [mz15, un_id (h k (by omega) (by omega)), mz15_id n (k + 1) b (fun i h1 h2 => h i (by omega) (by omega))]
theorem mff_0 {kd : Nat → Int32} : ∀ k f, mff kd k f = 0 ∨ (f ≤ mff kd k f ∧ mff kd k f < f + k ∧ kd (mff kd k f) = 0)
  | 0, _ => Or.inl rfl
  | k + 1, f => by
    rw [mff]
    by_cases e : kd f = 0
    · rw [if_pos e]; exact Or.inr ⟨by omega, by omega, e⟩
    · rw [if_neg e]
      rcases mff_0 (kd := kd) k (f + 1) with q | q
      · exact Or.inl q
      · exact Or.inr ⟨by omega, by omega, q.2.2⟩
