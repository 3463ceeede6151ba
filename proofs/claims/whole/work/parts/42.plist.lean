/-! pure: the list of waiting files -/
theorem nI_ne {a b : Nat} (ha : a < 2 ^ 31) (hb : b < 2 ^ 31) (h : a ≠ b) : nI a ≠ nI b := fun e => h ((nI_eq ha hb).mp e)
theorem chn_eq {bh bh' : Nat → Int32} : ∀ (ws : List Nat) (x : Int32), (∀ g ∈ ws, bh' g = bh g) → chn bh ws x → chn bh' ws x
  | [], _, _, h => h
  | a :: t, x, hg, h => ⟨h.1, by rw [hg a List.mem_cons_self]; exact chn_eq t _ (fun g q => hg g (List.mem_cons_of_mem _ q)) h.2⟩
theorem chn_in {bh : Nat → Int32} {f : Nat} (hf : 1 ≤ f ∧ f ≤ 12) : ∀ (ws : List Nat) (a : Nat) (x : Int32), chn bh (a :: ws) x → (∀ g ∈ a :: ws, 1 ≤ g ∧ g ≤ 12) → ∀ g ∈ a :: ws, bh g = nI f → f ∈ ws
  | [], a, x, h, _, g, hg, e => by
    rcases List.mem_cons.mp hg with rfl | hg
    · exact absurd (h.2.symm.trans e) (nI_ne (by omega) (by omega) (by omega))
    · cases hg
  | c :: t, a, x, h, hr, g, hg, e => by
    have hc := hr c (List.mem_cons_of_mem _ List.mem_cons_self)
    rcases List.mem_cons.mp hg with rfl | hg
    · have e2 : bh g = nI c := h.2.1
      have : c = f := (nI_eq (by omega) (by omega)).mp (e2.symm.trans e)
      rw [this]; exact List.mem_cons_self
    · exact List.mem_cons_of_mem _ (chn_in hf t c _ h.2 (fun g q => hr g (List.mem_cons_of_mem _ q)) g hg e)
theorem chn_un {bh : Nat → Int32} {f : Nat} (hf : 1 ≤ f ∧ f ≤ 12) : ∀ (ws : List Nat) (x : Int32), chn bh ws x → ws.Nodup → (∀ g ∈ ws, 1 ≤ g ∧ g ≤ 12) → ∀ g1 ∈ ws, ∀ g2 ∈ ws, bh g1 = nI f → bh g2 = nI f → g1 = g2
  | [], _, _, _, _, g1, h1, _, _, _, _ => by cases h1
  | a :: t, x, h, hn, hr, g1, h1, g2, h2, e1, e2 => by
    have hn2 := (List.nodup_cons.mp hn).2
    have hr2 : ∀ g ∈ t, 1 ≤ g ∧ g ≤ 12 := fun g q => hr g (List.mem_cons_of_mem _ q)
    have key : ∀ g ∈ t, bh g = nI f → bh a = nI f → False := fun g hg e ea => by
      rcases t with _ | ⟨c, t⟩
      · cases hg
      · have hc := hr2 c List.mem_cons_self
        have e3 : bh a = nI c := h.2.1
        have : c = f := (nI_eq (by omega) (by omega)).mp (e3.symm.trans ea)
        subst this
        exact (List.nodup_cons.mp hn2).1 (chn_in hf t c _ h.2 hr2 g hg e)
    rcases List.mem_cons.mp h1 with w1 | w1 <;> rcases List.mem_cons.mp h2 with w2 | w2
    · rw [w1, w2]
    · exact (key g2 w2 e2 (by rw [← w1]; exact e1)).elim
    · exact (key g1 w1 e1 (by rw [← w2]; exact e2)).elim
    · exact chn_un hf t _ h.2 hn2 hr2 g1 w1 g2 w2 e1 e2
theorem chn_rm {bh bh' : Nat → Int32} {f : Nat} (hf : 1 ≤ f ∧ f ≤ 12) : ∀ (ws : List Nat) (x : Int32), chn bh ws x → ws.Nodup → (∀ g ∈ ws, 1 ≤ g ∧ g ≤ 12) → f ∈ ws → (∀ g ∈ ws, g ≠ f → bh' g = if bh g = nI f then bh f else bh g) → chn bh' (ws.erase f) (if x = nI f then bh f else x)
  | [], _, _, _, _, h, _ => by cases h
  | a :: t, x, h, hn, hr, hm, hb => by
    have hn1 := (List.nodup_cons.mp hn).1
    have hn2 := (List.nodup_cons.mp hn).2
    have ha := hr a List.mem_cons_self
    have hr2 : ∀ g ∈ t, 1 ≤ g ∧ g ≤ 12 := fun g q => hr g (List.mem_cons_of_mem _ q)
    by_cases e : a = f
    · subst e
      rw [List.erase_cons_head, if_pos h.1]
      refine chn_eq t _ (fun g hg => ?_) h.2
      have hga : g ≠ a := fun q => hn1 (by rw [← q]; exact hg)
      rw [hb g (List.mem_cons_of_mem _ hg) hga, if_neg (fun q => hn1 (chn_in hf t a x h hr g (List.mem_cons_of_mem _ hg) q))]
    · have hx : x ≠ nI f := by rw [h.1]; exact nI_ne (by omega) (by omega) e
      rw [List.erase_cons_tail (by simpa using e), if_neg hx]
      refine ⟨h.1, ?_⟩
      rw [hb a List.mem_cons_self e]
      refine chn_rm hf t (bh a) h.2 hn2 hr2 ?_ (fun g hg => hb g (List.mem_cons_of_mem _ hg))
      rcases List.mem_cons.mp hm with q | q
      · exact absurd q.symm e
      · exact q
theorem bef_ok {B bh : Nat → Int32} {f : Nat} (hb : ∀ g, 1 ≤ g → g ≤ 12 → re_f B g 20 4 = bh g) (hf : 1 ≤ f ∧ f ≤ 12) : ∀ (t : List Nat) (k g : Nat), chn bh (g :: t) (nI g) → (∀ a ∈ g :: t, 1 ≤ a ∧ a ≤ 12) → f ∈ t → t.length ≤ k → ∃ p, p ∈ g :: t ∧ bh p = nI f ∧ wa_bef B (nI f) k (nI g) = nI p
  | [], _, _, _, _, h, _ => by cases h
  | c :: t, k, g, h, hr, hm, hk => by
    have hg := hr g List.mem_cons_self
    have hc := hr c (List.mem_cons_of_mem _ List.mem_cons_self)
    have e3 : bh g = nI c := h.2.1
    rcases k with _ | k
    · exact absurd hk (by simp)
    rw [wa_bef, if_neg (nI_ne0 (by omega) (by omega)), nI_clamp (by omega), hb g hg.1 hg.2]
    by_cases e : bh g = nI f
    · rw [if_pos e]; exact ⟨g, List.mem_cons_self, e, rfl⟩
    · rw [if_neg e, e3]
      have hcf : f ≠ c := fun q => e (by rw [e3, q])
      obtain ⟨p, h1, h2, h3⟩ := bef_ok hb hf t k c (by rw [← e3] ; exact ⟨e3, h.2.2⟩) (fun a q => hr a (List.mem_cons_of_mem _ q)) (by
        rcases List.mem_cons.mp hm with q | q
        · exact absurd q hcf
        · exact q) (by simp at hk; omega)
      exact ⟨p, List.mem_cons_of_mem _ h1, h2, h3⟩
theorem many_ok {B bh : Nat → Int32} (hb : ∀ g, 1 ≤ g → g ≤ 12 → re_f B g 20 4 = bh g) : ∀ (ws : List Nat) (k n : Nat) (x : Int32), chn bh ws x → (∀ a ∈ ws, 1 ≤ a ∧ a ≤ 12) → ws.length ≤ k → wa_many B k x n = n + ws.length
  | [], k, n, x, h, _, _ => by
    rcases k with _ | k
    · rfl
    · rw [wa_many, if_pos (show x = 0 from h)]; rfl
  | g :: t, k, n, x, h, hr, hk => by
    have hg := hr g List.mem_cons_self
    rcases k with _ | k
    · exact absurd hk (by simp)
    rw [wa_many, h.1, if_neg (nI_ne0 (by omega) (by omega)), nI_clamp (by omega), hb g hg.1 hg.2, many_ok hb t k (n + 1) (bh g) h.2 (fun a q => hr a (List.mem_cons_of_mem _ q)) (by simp at hk; omega)]
    simp; omega
theorem cn_mem : ∀ ws : List Nat, ws.Nodup → (∀ g ∈ ws, 1 ≤ g ∧ g ≤ 12) → cn (fun f => decide (f ∈ ws)) 12 1 = ws.length
  | [], _, _ => cn_0 12 1 (fun i _ _ => by simp)
  | g :: t, hn, hr => by
    have hg := hr g List.mem_cons_self
    have h1 := cn_mem t (List.nodup_cons.mp hn).2 (fun a q => hr a (List.mem_cons_of_mem _ q))
    have h2 := cn_pt (p := fun f => decide (f ∈ t)) (p' := fun f => decide (f ∈ g :: t)) (j := g) 12 1 (by omega) (by omega) (fun i hi => by simp [hi])
    rw [if_neg (by simpa using (List.nodup_cons.mp hn).1), if_pos (by simp)] at h2
    rw [List.length_cons]; omega
theorem WL_len {bh wt : Nat → Int32} {fs : Int32} {ws : List Nat} (h : WL bh wt fs ws) : ws.length ≤ 12 := by
  rw [← cn_mem ws h.2.1 h.2.2.1]; exact cn_le 12 1
theorem WL_cnt {bh wt : Nat → Int32} {fs : Int32} {ws : List Nat} (h : WL bh wt fs ws) : cn (fun f => decide (¬ wt f = 0)) 12 1 = ws.length := by
  rw [← cn_mem ws h.2.1 h.2.2.1]
  refine cn_eq 12 1 (fun i h1 h2 => ?_)
  rcases h.2.2.2 i h1 (by omega) with ⟨q1, q2⟩ | ⟨q1, q2, -⟩
  · rw [q1, decide_eq_true q2]; decide
  · rw [q1, decide_eq_false q2]; decide
theorem rlp_at {wt : Nat → Int32} {f : Nat} (hf : wt f = 0) : ∀ (k g : Nat) (b : Nat → Int32) (j : Nat), rlp wt f k g b j = if (g ≤ j ∧ j < g + k) ∧ ¬ wt j = 0 ∧ b j = nI f then b f else b j
  | 0, g, b, j => by rw [rlp, if_neg (by omega)]
  | k + 1, g, b, j => by
    have hbf : upd b g (if wt g = 0 then b g else if b g = nI f then b f else b g) f = b f := by
      by_cases e : f = g
      · subst e; rw [pk_us, if_pos hf]
      · rw [pk_un e]
    rw [rlp, rlp_at hf k (g + 1), hbf]
    by_cases e : j = g
    · subst e
      rw [if_neg (by omega), pk_us]
      by_cases e2 : wt j = 0
      · rw [if_pos e2, if_neg (fun q => q.2.1 e2)]
      · rw [if_neg e2]
        by_cases e3 : b j = nI f
        · rw [if_pos e3, if_pos ⟨by omega, e2, e3⟩]
        · rw [if_neg e3, if_neg (fun q => e3 q.2.2)]
    · rw [pk_un e]
      by_cases e2 : (g + 1 ≤ j ∧ j < g + 1 + k) ∧ ¬ wt j = 0 ∧ b j = nI f
      · rw [if_pos e2, if_pos ⟨by omega, e2.2⟩]
      · rw [if_neg e2, if_neg (fun q => e2 ⟨by omega, q.2⟩)]
