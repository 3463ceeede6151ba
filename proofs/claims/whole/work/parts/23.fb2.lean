/-! FileBody: the public methods that write -/
def mk_c (B : Nat → Int32) (z : Int) : Nat := if z < 0 ∨ 1000 < z then 1 else if re_abs B 12 1 = 0 then 2 else 0
def mk_B (B : Nat → Int32) (z : Int) (x : Int32) : Nat → Int32 := if z = 0 then wa_add (re_beg B (re_abs B 12 1) (nI 1) x) (re_abs B 12 1) (nI (re_abs B 12 1)) else re_beg B (re_abs B 12 1) (nI 1) x
def lk_c (B : Nat → Int32) (fr : Int32) (n : Int) : Nat := if n < 1 ∨ 1000 < n then 1 else if re_abs B 12 1 = 0 ∨ (59 < n ∧ fr = 0) then 2 else 0
def lk_S (S : cs) (n : Nat) (x : Int32) : cs := tg_S (re_set (re_beg S.1 (re_abs S.1 12 1) (nI 3) (nI 1)) (re_abs S.1 12 1) 4 4 (nI n), S.2.1, S.2.2.1, S.2.2.2) (re_abs S.1 12 1) n x
def wr_c (B : Nat → Int32) (fr : Int32) (f : Nat) (a n : Int) (k : Nat) : Nat := if re_kind B f = nI 1 ∧ 1 ≤ n ∧ n ≤ k ∧ 0 ≤ a ∧ a ≤ 15360 - n then (if nI (bo_want B f ((a.toNat + n.toNat - 1) / 1024 + 1 - a.toNat / 1024) (a.toNat / 1024) 0) ≤ fr then 0 else 2) else 1
def prC (S : cs) (f a n : Nat) : cs := (pr_B S f a n, (pr_S S f a n).2.1, (pr_S S f a n).2.2.1, (pr_S S f a n).2.2.2)
def wrX_ (S : cs) (f a n : Nat) (r : Int64) : Nat → Option (Nat → Int32) := sbX (prC S f a n).1 f a n (prC S f a n).2.2.2 r
def paX_ (S : cs) (f a n : Nat) (x : Int32) : Nat → Option (Nat → Int32) := ptX (prC S f a n).1 f a n x ((a + n - 1) / 1024 + 1 - a / 1024) (a / 1024) (prC S f a n).2.2.2
def cu_c (B : Nat → Int32) (f : Nat) (z : Int) : Nat := if re_kind B f = nI 1 ∧ 0 ≤ z ∧ z ≤ 15360 then 0 else 1
def li_c (B : Nat → Int32) (f : Nat) (x : Int32) : Nat := if re_kind B f = 0 ∨ x < -(re_f B f 26 2) ∨ ¬ x ≤ nI 1000 - re_f B f 26 2 then 1 else 0
def li_B1 (B : Nat → Int32) (f : Nat) (x y : Int32) : Nat → Int32 := if ¬ re_f B f 26 2 = 0 ∧ re_f B f 26 2 + x = 0 then wa_add (re_set B f 26 2 (re_f B f 26 2 + x)) f y else re_set B f 26 2 (re_f B f 26 2 + x)
def li_B (B : Nat → Int32) (f : Nat) (x y : Int32) : Nat → Int32 := if re_f B f 26 2 = 0 ∧ ¬ re_f B f 26 2 + x = 0 then wa_rem (li_B1 B f x y) f y else li_B1 B f x y
def dr_c (B : Nat → Int32) (f : Nat) : Nat := if re_kind B f = 0 then 1 else if re_f B f 26 2 = 0 then 0 else 2
def lgC (S : c3) (f : Nat) (x : Int32) : c3 := (re_set (lg_S S f x).1 f 0 256 (nI 0), (lg_S S f x).2.1, (lg_S S f x).2.2)
def fnS : Nat → c3 → Nat → c3 × Nat
  | 0, S, n => (S, n)
  | k + 1, S, n => if fr_num S.1 232 4 = 0 then (S, n) else fnS k (lgC S (fr_num S.1 232 4).toNatClampNeg (fr_num S.1 232 4)) (n + 1)
theorem m_Fb_make : mV R_Fb y_Fb_make (Cond.code y_Fb_make c_Fb_make 3 (some .int)) 1 := ⟨⟨w_205, w_206, w_1, w_207⟩, by decide +kernel⟩
set_option maxHeartbeats 4000000 in
set_option maxRecDepth 100000 in
theorem k_Fb_make (l : Launch) (hl9 : l.stackTraces = false) {D : va_G} {ct : Nat → ClassId} {ad : Nat → Nat} {B : Nat → Int32} {tk : Nat → Int32} {fr : Int32} {X : Nat → Option (Nat → Int32)} {A : Nat → Prop} {z : Int} {x_z : Int32} (hx_z : x_z.toInt = z)  : vx_Met l y_Fb_make (Cond.code y_Fb_make c_Fb_make 3 (some .int) :: wA) (rmk 7 1 6) (va_Pc [.ref (ad 0), .int x_z] (cS A D ct ad B tk fr X)) (tQ (mk_c B z) (some (.int (nI (re_abs B 12 1)))) A D ct ad (mk_B B z x_z) tk fr X) (tX (mk_c B z) nIAE nISE) 1 6 A := by
  refine vx_ofW (cc := c_Fb_make) (maxL := 3) (ret := (some .int)) (by decide +kernel) rfl ?_
  intro p e s m args below meth c s₁ B0 hml ht9 hv
  obtain ⟨rfl, hA, hE, hK, g, LP, pr, hrx, hP, hD⟩ := hv
  have hS : va_S A s.heap s.heap [] := va_S.rf
  have hx := B0.exec
  have hb := B0.bytes
  have hr := B0.returns
  have hts := fun w (h : w ∈ wA) => atoms_spec (ws := Cond.code y_Fb_make c_Fb_make 3 (some .int) :: wA) B0.pre w (List.mem_cons_of_mem _ h)
  have hown : s.vm.findClass R_Fb = some m.cls := findClass_of_methodNamed B0.named
  have hlocks := B0.notSynchronized
  have hl := lv_entry ([.ref (ad 0), .int x_z]) (n := 3) (Nat.le_of_ble_eq_true rfl)
  rw [lg_entry_eq]
  generalize (lg_sl ([.ref (ad 0), .int x_z]) ++ List.replicate (3 - (lg_sl ([.ref (ad 0), .int x_z])).length) Slot.unset).toArray = ls at hl ⊢
  have hl : lv_has ls 3 [(0, .ref (ad 0)), (1, .int x_z)] := hl
  have hf_z := z_lt x_z
  have hg_z := z_ge x_z
  rw [hx_z] at hf_z hg_z
  refine lv_iload_n hx hb d_Fb_make_0 rfl (lv_at hl 1 rfl) ?_
  refine lz_if_lt (tgt := 11) hx hb hx_z d_Fb_make_1 (by decide) (fun c_1 => ?_) (fun c_1 => ?_)
  · skip
    exact thFb hx hb hl9 at_IAE (is := 52) (text := "links is not 0 .. 1000") (by decide) hown hts hE hS rfl (hl.1.trans hml.symm) d_Fb_make_11 d_Fb_make_14 d_Fb_make_15 d_Fb_make_17 d_Fb_make_20 ht9 (Nat.le_of_ble_eq_true rfl) (Nat.le_of_ble_eq_true rfl) (show 0 + 1 ≤ 1 by omega) (show 0 + 6 ≤ 6 by omega) hlocks (fun t9 hk9 => ⟨Or.inl ⟨(by unfold mk_c; rw [if_pos (by omega)]), rfl⟩, hk9⟩) (by omega) (by omega)
  · skip
    refine lv_iload_n hx hb d_Fb_make_4 rfl (lv_at hl 1 rfl) ?_
    refine lv_sipush (v := nI 1000) hx hb d_Fb_make_5 (by decide) ?_
    refine lz_icmp_le (tgt := 21) hx hb hx_z (nI_toInt (by omega)) d_Fb_make_8 (by decide) (fun c_2 => ?_) (fun c_2 => ?_)
    · skip
      refine lv_aload_n hx hb d_Fb_make_21 rfl (lv_at hl 0 rfl) ?_
      refine va_get (D := D) (ci := 5) (v := .ref (ad 2)) (C := R_Fb) (T := T_Fb) (N := 5) hx hb hts u_Fb hown hK hP 0 rfl rfl 2 (by decide) (hts _ w_102) (fun _ h9 => h9) rfl d_Fb_make_22 ?_
      refine rdV ⟨hx, hb, hml, hown, hts⟩ hK hP (k_Re_leastAbsent l  ) w_276 m_Re_leastAbsent ⟨by decide, by decide⟩ 2 rfl rfl rfl hl.1 rfl (Nat.le_of_ble_eq_true rfl) d_Fb_make_25 ⟨show 0 ≤ 1 by omega, show 0 ≤ 6 by omega⟩ ?_
      obtain ⟨f, hf9⟩ : ∃ f : Nat, f = re_abs B 12 1 := ⟨_, rfl⟩
      have hl9f : f ≤ 12 := by have := re_abs_le (B := B) 12 1 (by omega); omega
      refine W.eq (g2 := F0 m 28 ls [.int (nI f)]) (by rw [hf9]) ?_
      refine lv_istore_n (lv' := [(2, .int (nI f)), (0, .ref (ad 0)), (1, .int x_z)]) hx hb d_Fb_make_28 rfl hl (by decide) rfl (fun ls hl => ?_)
      refine lv_iload_n hx hb d_Fb_make_29 rfl (lv_at hl 0 rfl) ?_
      refine ln_if_ne (tgt := 43) hx hb (by omega) d_Fb_make_30 (by decide) (fun c_3 => ?_) (fun c_3 => ?_)
      · skip
        refine lv_aload_n hx hb d_Fb_make_43 rfl (lv_at hl 1 rfl) ?_
        refine va_get (D := D) (ci := 5) (v := .ref (ad 2)) (C := R_Fb) (T := T_Fb) (N := 5) hx hb hts u_Fb hown hK hP 0 rfl rfl 2 (by decide) (hts _ w_102) (fun _ h9 => h9) rfl d_Fb_make_44 ?_
        refine lv_iload_n hx hb d_Fb_make_47 rfl (lv_at hl 0 rfl) ?_
        refine lv_iconst (v := nI 1) hx hb d_Fb_make_48 (by decide) ?_
        refine lv_iload_n hx hb d_Fb_make_49 rfl (lv_at hl 2 rfl) ?_
        refine wrV ⟨hx, hb, hml, hown, hts⟩ hK hP hD hS hA (k_Re_begin l (f := f) (x_f := nI f) (k := (nI 1)) (v := x_z) (nI_clamp (by omega)) ) w_300 m_Re_begin ⟨by decide, by decide⟩ 2 rfl rfl rfl hl.1 rfl (Nat.le_of_ble_eq_true rfl) d_Fb_make_50 ⟨show 0 + 0 ≤ 1 by omega, show 0 + 0 ≤ 6 by omega⟩ (fun H locs hP hD hS => ?_)
        have hP : va_P D vwC (wsC ct ad (re_beg B f (nI 1) x_z) g tk fr LP pr) H := hP
        have hD : va_D A (wsC ct ad (re_beg B f (nI 1) x_z) g tk fr LP pr) := hD
        refine W.eq (g2 := F0 m 53 ls []) rfl ?_
        refine lv_iload_n hx hb d_Fb_make_53 rfl (lv_at hl 2 rfl) ?_
        refine lz_if_ne (tgt := 65) hx hb hx_z d_Fb_make_54 (by decide) (fun c_4 => ?_) (fun c_4 => ?_)
        · skip
          refine lv_iload_n hx hb d_Fb_make_65 rfl (lv_at hl 0 rfl) ?_
          have hC9 : cX A D ct ad (re_beg B f (nI 1) x_z) tk fr X H := ⟨g, LP, pr, hrx, hP, hD⟩
          have e9 : cX A D ct ad (re_beg B f (nI 1) x_z) tk fr X = cX A D ct ad (mk_B B z x_z) tk fr X := (by unfold mk_B; first | (rw [if_pos (by omega), ← hf9]; done) | rw [if_neg (by omega), ← hf9])
          rw [e9] at hC9
          refine W.widen (k := 1) (n := 6) (by omega) (by omega) ?_
          exact vx_ret (W.iret (v := nI f) hx hb hr (fun t9 ht hW => ⟨(by unfold mk_c; rw [if_neg (by omega), if_neg (by omega)]), congrArg (fun z => Outcome.returned (some (Value.int z))) (show nI f = (nI (re_abs B 12 1)) from (by rw [hf9])), by rw [ht]; exact hC9, hS.F ht⟩) hS.2.2 d_Fb_make_66)
        · skip
          refine lv_aload_n hx hb d_Fb_make_57 rfl (lv_at hl 1 rfl) ?_
          refine va_get (D := D) (ci := 5) (v := .ref (ad 4)) (C := R_Fb) (T := T_Fb) (N := 5) hx hb hts u_Fb hown hK hP 0 rfl rfl 3 (by decide) (hts _ w_103) (fun _ h9 => h9) rfl d_Fb_make_58 ?_
          refine lv_iload_n hx hb d_Fb_make_61 rfl (lv_at hl 0 rfl) ?_
          refine wrV ⟨hx, hb, hml, hown, hts⟩ hK hP hD hS hA (k_Wa_add l (f := f) (x_f := nI f) (nI_clamp (by omega)) ) w_310 m_Wa_add ⟨by decide, by decide⟩ 4 rfl rfl rfl hl.1 rfl (Nat.le_of_ble_eq_true rfl) d_Fb_make_62 ⟨show 0 + 0 ≤ 1 by omega, show 0 + 0 ≤ 6 by omega⟩ (fun H locs hP hD hS => ?_)
          have hP : va_P D vwC (wsC ct ad (wa_add (re_beg B f (nI 1) x_z) f (nI f)) g tk fr LP pr) H := hP
          have hD : va_D A (wsC ct ad (wa_add (re_beg B f (nI 1) x_z) f (nI f)) g tk fr LP pr) := hD
          refine W.eq (g2 := F0 m 65 ls []) rfl ?_
          refine lv_iload_n hx hb d_Fb_make_65 rfl (lv_at hl 0 rfl) ?_
          have hC9 : cX A D ct ad (wa_add (re_beg B f (nI 1) x_z) f (nI f)) tk fr X H := ⟨g, LP, pr, hrx, hP, hD⟩
          have e9 : cX A D ct ad (wa_add (re_beg B f (nI 1) x_z) f (nI f)) tk fr X = cX A D ct ad (mk_B B z x_z) tk fr X := (by unfold mk_B; first | (rw [if_pos (by omega), ← hf9]; done) | rw [if_neg (by omega), ← hf9])
          rw [e9] at hC9
          refine W.widen (k := 1) (n := 6) (by omega) (by omega) ?_
          exact vx_ret (W.iret (v := nI f) hx hb hr (fun t9 ht hW => ⟨(by unfold mk_c; rw [if_neg (by omega), if_neg (by omega)]), congrArg (fun z => Outcome.returned (some (Value.int z))) (show nI f = (nI (re_abs B 12 1)) from (by rw [hf9])), by rw [ht]; exact hC9, hS.F ht⟩) hS.2.2 d_Fb_make_66)
      · skip
        exact thFb hx hb hl9 at_ISE (is := 63) (text := "all files are there") (by decide) hown hts hE hS rfl (hl.1.trans hml.symm) d_Fb_make_33 d_Fb_make_36 d_Fb_make_37 d_Fb_make_39 d_Fb_make_42 ht9 (Nat.le_of_ble_eq_true rfl) (Nat.le_of_ble_eq_true rfl) (show 0 + 1 ≤ 1 by omega) (show 0 + 6 ≤ 6 by omega) hlocks (fun t9 hk9 => ⟨Or.inr ⟨(by unfold mk_c; rw [if_neg (by omega), if_pos (by omega)]), rfl⟩, hk9⟩) (by omega) (by omega)
    · skip
      exact thFb hx hb hl9 at_IAE (is := 52) (text := "links is not 0 .. 1000") (by decide) hown hts hE hS rfl (hl.1.trans hml.symm) d_Fb_make_11 d_Fb_make_14 d_Fb_make_15 d_Fb_make_17 d_Fb_make_20 ht9 (Nat.le_of_ble_eq_true rfl) (Nat.le_of_ble_eq_true rfl) (show 0 + 1 ≤ 1 by omega) (show 0 + 6 ≤ 6 by omega) hlocks (fun t9 hk9 => ⟨Or.inl ⟨(by unfold mk_c; rw [if_pos (by omega)]), rfl⟩, hk9⟩) (by omega) (by omega)
theorem m_Fb_link : mV R_Fb y_Fb_link (Cond.code y_Fb_link c_Fb_link 4 (some .int)) 2 := ⟨⟨w_318, w_319, w_1, w_320⟩, by decide +kernel⟩
set_option maxHeartbeats 4000000 in
set_option maxRecDepth 100000 in
theorem k_Fb_link (l : Launch) (hl9 : l.stackTraces = false) {D : va_G} {ct : Nat → ClassId} {ad : Nat → Nat} {B : Nat → Int32} {tk : Nat → Int32} {fr : Int32} {X : Nat → Option (Nat → Int32)} {A : Nat → Prop} {n : Int} {x_n : Int32} (hx_n : x_n.toInt = n) {x : Int32}  : vx_Met l y_Fb_link (Cond.code y_Fb_link c_Fb_link 4 (some .int) :: wA) (rmk 7 2 1030) (va_Pc [.ref (ad 0), .int x_n, .int x] (cS A D ct ad B tk fr X)) (tQ (lk_c B fr n) (some (.int (nI (re_abs B 12 1)))) A D ct ad ((lk_S (B, tk, fr, X) n.toNat x).1) ((lk_S (B, tk, fr, X) n.toNat x).2.1) ((lk_S (B, tk, fr, X) n.toNat x).2.2.1) ((lk_S (B, tk, fr, X) n.toNat x).2.2.2)) (tX (lk_c B fr n) nIAE nISE) 2 1030 A := by
  refine vx_ofW (cc := c_Fb_link) (maxL := 4) (ret := (some .int)) (by decide +kernel) rfl ?_
  intro p e s m args below meth c s₁ B0 hml ht9 hv
  obtain ⟨rfl, hA, hE, hK, g, LP, pr, hrx, hP, hD⟩ := hv
  have hS : va_S A s.heap s.heap [] := va_S.rf
  have hx := B0.exec
  have hb := B0.bytes
  have hr := B0.returns
  have hts := fun w (h : w ∈ wA) => atoms_spec (ws := Cond.code y_Fb_link c_Fb_link 4 (some .int) :: wA) B0.pre w (List.mem_cons_of_mem _ h)
  have hown : s.vm.findClass R_Fb = some m.cls := findClass_of_methodNamed B0.named
  have hlocks := B0.notSynchronized
  have hl := lv_entry ([.ref (ad 0), .int x_n, .int x]) (n := 4) (Nat.le_of_ble_eq_true rfl)
  rw [lg_entry_eq]
  generalize (lg_sl ([.ref (ad 0), .int x_n, .int x]) ++ List.replicate (4 - (lg_sl ([.ref (ad 0), .int x_n, .int x])).length) Slot.unset).toArray = ls at hl ⊢
  have hl : lv_has ls 4 [(0, .ref (ad 0)), (1, .int x_n), (2, .int x)] := hl
  have hf_n := z_lt x_n
  have hg_n := z_ge x_n
  rw [hx_n] at hf_n hg_n
  refine lv_iload_n hx hb d_Fb_link_0 rfl (lv_at hl 1 rfl) ?_
  refine lv_iconst (v := nI 1) hx hb d_Fb_link_1 (by decide) ?_
  refine lz_icmp_lt (tgt := 12) hx hb hx_n (nI_toInt (by omega)) d_Fb_link_2 (by decide) (fun c_1 => ?_) (fun c_1 => ?_)
  · skip
    exact thFb hx hb hl9 at_IAE (is := 74) (text := "n is not 1 .. 1000") (by decide) hown hts hE hS rfl (hl.1.trans hml.symm) d_Fb_link_12 d_Fb_link_15 d_Fb_link_16 d_Fb_link_18 d_Fb_link_21 ht9 (Nat.le_of_ble_eq_true rfl) (Nat.le_of_ble_eq_true rfl) (show 0 + 1 ≤ 2 by omega) (show 0 + 6 ≤ 1030 by omega) hlocks (fun t9 hk9 => ⟨Or.inl ⟨(by unfold lk_c; rw [if_pos (by omega)]), rfl⟩, hk9⟩) (by omega) (by omega)
  · skip
    refine lv_iload_n hx hb d_Fb_link_5 rfl (lv_at hl 1 rfl) ?_
    refine lv_sipush (v := nI 1000) hx hb d_Fb_link_6 (by decide) ?_
    refine lz_icmp_le (tgt := 22) hx hb hx_n (nI_toInt (by omega)) d_Fb_link_9 (by decide) (fun c_2 => ?_) (fun c_2 => ?_)
    · skip
      obtain ⟨n1, rfl⟩ := Int.eq_ofNat_of_zero_le (show 0 ≤ n by omega)
      obtain rfl : x_n = nI n1 := z_i hx_n (by omega)
      refine lv_aload_n hx hb d_Fb_link_22 rfl (lv_at hl 0 rfl) ?_
      refine va_get (D := D) (ci := 5) (v := .ref (ad 2)) (C := R_Fb) (T := T_Fb) (N := 5) hx hb hts u_Fb hown hK hP 0 rfl rfl 2 (by decide) (hts _ w_102) (fun _ h9 => h9) rfl d_Fb_link_23 ?_
      refine rdV ⟨hx, hb, hml, hown, hts⟩ hK hP (k_Re_leastAbsent l  ) w_276 m_Re_leastAbsent ⟨by decide, by decide⟩ 2 rfl rfl rfl hl.1 rfl (Nat.le_of_ble_eq_true rfl) d_Fb_link_26 ⟨show 0 ≤ 2 by omega, show 0 ≤ 1030 by omega⟩ ?_
      obtain ⟨f, hf9⟩ : ∃ f : Nat, f = re_abs B 12 1 := ⟨_, rfl⟩
      have hl9f : f ≤ 12 := by have := re_abs_le (B := B) 12 1 (by omega); omega
      refine W.eq (g2 := F0 m 29 ls [.int (nI f)]) (by rw [hf9]) ?_
      refine lv_istore_n (lv' := [(3, .int (nI f)), (0, .ref (ad 0)), (1, .int (nI n1)), (2, .int x)]) hx hb d_Fb_link_29 rfl hl (by decide) rfl (fun ls hl => ?_)
      refine lv_iload_n hx hb d_Fb_link_30 rfl (lv_at hl 0 rfl) ?_
      refine ln_if_ne (tgt := 44) hx hb (by omega) d_Fb_link_31 (by decide) (fun c_3 => ?_) (fun c_3 => ?_)
      · skip
        refine lv_iload_n hx hb d_Fb_link_44 rfl (lv_at hl 2 rfl) ?_
        refine lv_bipush (v := nI 59) hx hb d_Fb_link_45 (by decide) ?_
        refine ln_icmp_le (tgt := 70) hx hb (by omega) (by omega) d_Fb_link_47 (by decide) (fun c_4 => ?_) (fun c_4 => ?_)
        · skip
          refine lv_aload_n hx hb d_Fb_link_70 rfl (lv_at hl 1 rfl) ?_
          refine va_get (D := D) (ci := 5) (v := .ref (ad 2)) (C := R_Fb) (T := T_Fb) (N := 5) hx hb hts u_Fb hown hK hP 0 rfl rfl 2 (by decide) (hts _ w_102) (fun _ h9 => h9) rfl d_Fb_link_71 ?_
          refine lv_iload_n hx hb d_Fb_link_74 rfl (lv_at hl 0 rfl) ?_
          refine lv_iconst (v := nI 3) hx hb d_Fb_link_75 (by decide) ?_
          refine lv_iconst (v := nI 1) hx hb d_Fb_link_76 (by decide) ?_
          refine wrV ⟨hx, hb, hml, hown, hts⟩ hK hP hD hS hA (k_Re_begin l (f := f) (x_f := nI f) (k := (nI 3)) (v := (nI 1)) (nI_clamp (by omega)) ) w_300 m_Re_begin ⟨by decide, by decide⟩ 2 rfl rfl rfl hl.1 rfl (Nat.le_of_ble_eq_true rfl) d_Fb_link_77 ⟨show 0 + 0 ≤ 2 by omega, show 0 + 0 ≤ 1030 by omega⟩ (fun H locs hP hD hS => ?_)
          have hP : va_P D vwC (wsC ct ad (re_beg B f (nI 3) (nI 1)) g tk fr LP pr) H := hP
          have hD : va_D A (wsC ct ad (re_beg B f (nI 3) (nI 1)) g tk fr LP pr) := hD
          refine W.eq (g2 := F0 m 80 ls []) rfl ?_
          refine lv_aload_n hx hb d_Fb_link_80 rfl (lv_at hl 1 rfl) ?_
          refine va_get (D := D) (ci := 5) (v := .ref (ad 2)) (C := R_Fb) (T := T_Fb) (N := 5) hx hb hts u_Fb hown hK hP 0 rfl rfl 2 (by decide) (hts _ w_102) (fun _ h9 => h9) rfl d_Fb_link_81 ?_
          refine lv_iload_n hx hb d_Fb_link_84 rfl (lv_at hl 0 rfl) ?_
          refine lv_iload_n hx hb d_Fb_link_85 rfl (lv_at hl 2 rfl) ?_
          refine wrV ⟨hx, hb, hml, hown, hts⟩ hK hP hD hS hA (k_Re_setSize l (f := f) (x_f := nI f) (v := (nI n1)) (nI_clamp (by omega)) ) w_327 m_Re_setSize ⟨by decide, by decide⟩ 2 rfl rfl rfl hl.1 rfl (Nat.le_of_ble_eq_true rfl) d_Fb_link_86 ⟨show 0 + 0 ≤ 2 by omega, show 0 + 0 ≤ 1030 by omega⟩ (fun H locs hP hD hS => ?_)
          have hP : va_P D vwC (wsC ct ad (re_set (re_beg B f (nI 3) (nI 1)) f 4 4 (nI n1)) g tk fr LP pr) H := hP
          have hD : va_D A (wsC ct ad (re_set (re_beg B f (nI 3) (nI 1)) f 4 4 (nI n1)) g tk fr LP pr) := hD
          refine W.eq (g2 := F0 m 89 ls []) rfl ?_
          refine lv_aload_n hx hb d_Fb_link_89 rfl (lv_at hl 1 rfl) ?_
          refine va_get (D := D) (ci := 5) (v := .ref (ad 5)) (C := R_Fb) (T := T_Fb) (N := 5) hx hb hts u_Fb hown hK hP 0 rfl rfl 4 (by decide) (hts _ w_104) (fun _ h9 => h9) rfl d_Fb_link_90 ?_
          refine lv_iload_n hx hb d_Fb_link_93 rfl (lv_at hl 0 rfl) ?_
          refine lv_iload_n hx hb d_Fb_link_94 rfl (lv_at hl 2 rfl) ?_
          refine lv_iload_n hx hb d_Fb_link_95 rfl (lv_at hl 3 rfl) ?_
          refine wrX ⟨hx, hb, hml, hown, hts⟩ hE hK hrx hP hD hS hA (k_Bo_setTarget l (f := f) (x_f := nI f) (n := n1) (x := x) (nI_clamp (by omega)) (by omega) (fun w => by have w2 := w.2; rw [re_f_in (by omega) (by omega), re_set_in (by omega) (by omega), fr_num_set (by decide) (by omega) (by omega), nI_ltI (by decide) (by omega)] at w2; omega)) w_331 m_Bo_setTarget ⟨by decide, by decide⟩ 5 rfl rfl rfl hl.1 rfl (Nat.le_of_ble_eq_true rfl) d_Fb_link_96 ⟨show 0 + 1 ≤ 2 by omega, show 0 + 1024 ≤ 1030 by omega⟩ (fun H locs g LP pr hrx hP hD hS => ?_)
          refine W.eq (g2 := F0 m 99 ls []) rfl ?_
          refine lv_iload_n hx hb d_Fb_link_99 rfl (lv_at hl 0 rfl) ?_
          have hC9 : cX A D ct ad ((tg_S ((re_set (re_beg B f (nI 3) (nI 1)) f 4 4 (nI n1)), tk, fr, X) f n1 x).1) ((tg_S ((re_set (re_beg B f (nI 3) (nI 1)) f 4 4 (nI n1)), tk, fr, X) f n1 x).2.1) ((tg_S ((re_set (re_beg B f (nI 3) (nI 1)) f 4 4 (nI n1)), tk, fr, X) f n1 x).2.2.1) ((tg_S ((re_set (re_beg B f (nI 3) (nI 1)) f 4 4 (nI n1)), tk, fr, X) f n1 x).2.2.2) H := ⟨g, LP, pr, hrx, hP, hD⟩
          have e9 : cX A D ct ad ((tg_S ((re_set (re_beg B f (nI 3) (nI 1)) f 4 4 (nI n1)), tk, fr, X) f n1 x).1) ((tg_S ((re_set (re_beg B f (nI 3) (nI 1)) f 4 4 (nI n1)), tk, fr, X) f n1 x).2.1) ((tg_S ((re_set (re_beg B f (nI 3) (nI 1)) f 4 4 (nI n1)), tk, fr, X) f n1 x).2.2.1) ((tg_S ((re_set (re_beg B f (nI 3) (nI 1)) f 4 4 (nI n1)), tk, fr, X) f n1 x).2.2.2) = cX A D ct ad ((lk_S (B, tk, fr, X) ((n1 : Nat) : Int).toNat x).1) ((lk_S (B, tk, fr, X) ((n1 : Nat) : Int).toNat x).2.1) ((lk_S (B, tk, fr, X) ((n1 : Nat) : Int).toNat x).2.2.1) ((lk_S (B, tk, fr, X) ((n1 : Nat) : Int).toNat x).2.2.2) := (by unfold lk_S; rw [← hf9]; rfl)
          rw [e9] at hC9
          refine W.widen (k := 2) (n := 1030) (by omega) (by omega) ?_
          exact vx_ret (W.iret (v := nI f) hx hb hr (fun t9 ht hW => ⟨(by unfold lk_c; rw [if_neg (by omega), if_neg (by rintro (q | q); omega; first | omega | exact absurd q.2 (by assumption))]), congrArg (fun z => Outcome.returned (some (Value.int z))) (show nI f = (nI (re_abs B 12 1)) from (by rw [hf9])), by rw [ht]; exact hC9, hS.F ht⟩) hS.2.2 d_Fb_link_100)
        · skip
          refine lv_aload_n hx hb d_Fb_link_50 rfl (lv_at hl 1 rfl) ?_
          refine va_get (D := D) (ci := 5) (v := .ref (ad 1)) (C := R_Fb) (T := T_Fb) (N := 5) hx hb hts u_Fb hown hK hP 0 rfl rfl 1 (by decide) (hts _ w_101) (fun _ h9 => h9) rfl d_Fb_link_51 ?_
          refine rdV ⟨hx, hb, hml, hown, hts⟩ hK hP (k_Db_howManyFree l  ) w_322 m_Db_howManyFree ⟨by decide, by decide⟩ 1 rfl rfl rfl hl.1 rfl (Nat.le_of_ble_eq_true rfl) d_Fb_link_54 ⟨show 0 ≤ 2 by omega, show 0 ≤ 1030 by omega⟩ ?_
          refine lv_if_ne (tgt := 70) hx hb d_Fb_link_57 (by decide) (fun c_5 => ?_) (fun c_5 => ?_)
          · skip
            refine lv_aload_n hx hb d_Fb_link_70 rfl (lv_at hl 1 rfl) ?_
            refine va_get (D := D) (ci := 5) (v := .ref (ad 2)) (C := R_Fb) (T := T_Fb) (N := 5) hx hb hts u_Fb hown hK hP 0 rfl rfl 2 (by decide) (hts _ w_102) (fun _ h9 => h9) rfl d_Fb_link_71 ?_
            refine lv_iload_n hx hb d_Fb_link_74 rfl (lv_at hl 0 rfl) ?_
            refine lv_iconst (v := nI 3) hx hb d_Fb_link_75 (by decide) ?_
            refine lv_iconst (v := nI 1) hx hb d_Fb_link_76 (by decide) ?_
            refine wrV ⟨hx, hb, hml, hown, hts⟩ hK hP hD hS hA (k_Re_begin l (f := f) (x_f := nI f) (k := (nI 3)) (v := (nI 1)) (nI_clamp (by omega)) ) w_300 m_Re_begin ⟨by decide, by decide⟩ 2 rfl rfl rfl hl.1 rfl (Nat.le_of_ble_eq_true rfl) d_Fb_link_77 ⟨show 0 + 0 ≤ 2 by omega, show 0 + 0 ≤ 1030 by omega⟩ (fun H locs hP hD hS => ?_)
            have hP : va_P D vwC (wsC ct ad (re_beg B f (nI 3) (nI 1)) g tk fr LP pr) H := hP
            have hD : va_D A (wsC ct ad (re_beg B f (nI 3) (nI 1)) g tk fr LP pr) := hD
            refine W.eq (g2 := F0 m 80 ls []) rfl ?_
            refine lv_aload_n hx hb d_Fb_link_80 rfl (lv_at hl 1 rfl) ?_
            refine va_get (D := D) (ci := 5) (v := .ref (ad 2)) (C := R_Fb) (T := T_Fb) (N := 5) hx hb hts u_Fb hown hK hP 0 rfl rfl 2 (by decide) (hts _ w_102) (fun _ h9 => h9) rfl d_Fb_link_81 ?_
            refine lv_iload_n hx hb d_Fb_link_84 rfl (lv_at hl 0 rfl) ?_
            refine lv_iload_n hx hb d_Fb_link_85 rfl (lv_at hl 2 rfl) ?_
            refine wrV ⟨hx, hb, hml, hown, hts⟩ hK hP hD hS hA (k_Re_setSize l (f := f) (x_f := nI f) (v := (nI n1)) (nI_clamp (by omega)) ) w_327 m_Re_setSize ⟨by decide, by decide⟩ 2 rfl rfl rfl hl.1 rfl (Nat.le_of_ble_eq_true rfl) d_Fb_link_86 ⟨show 0 + 0 ≤ 2 by omega, show 0 + 0 ≤ 1030 by omega⟩ (fun H locs hP hD hS => ?_)
            have hP : va_P D vwC (wsC ct ad (re_set (re_beg B f (nI 3) (nI 1)) f 4 4 (nI n1)) g tk fr LP pr) H := hP
            have hD : va_D A (wsC ct ad (re_set (re_beg B f (nI 3) (nI 1)) f 4 4 (nI n1)) g tk fr LP pr) := hD
            refine W.eq (g2 := F0 m 89 ls []) rfl ?_
            refine lv_aload_n hx hb d_Fb_link_89 rfl (lv_at hl 1 rfl) ?_
            refine va_get (D := D) (ci := 5) (v := .ref (ad 5)) (C := R_Fb) (T := T_Fb) (N := 5) hx hb hts u_Fb hown hK hP 0 rfl rfl 4 (by decide) (hts _ w_104) (fun _ h9 => h9) rfl d_Fb_link_90 ?_
            refine lv_iload_n hx hb d_Fb_link_93 rfl (lv_at hl 0 rfl) ?_
            refine lv_iload_n hx hb d_Fb_link_94 rfl (lv_at hl 2 rfl) ?_
            refine lv_iload_n hx hb d_Fb_link_95 rfl (lv_at hl 3 rfl) ?_
            refine wrX ⟨hx, hb, hml, hown, hts⟩ hE hK hrx hP hD hS hA (k_Bo_setTarget l (f := f) (x_f := nI f) (n := n1) (x := x) (nI_clamp (by omega)) (by omega) (fun w => by have w2 := w.2; rw [re_f_in (by omega) (by omega), re_set_in (by omega) (by omega), fr_num_set (by decide) (by omega) (by omega), nI_ltI (by decide) (by omega)] at w2; omega)) w_331 m_Bo_setTarget ⟨by decide, by decide⟩ 5 rfl rfl rfl hl.1 rfl (Nat.le_of_ble_eq_true rfl) d_Fb_link_96 ⟨show 0 + 1 ≤ 2 by omega, show 0 + 1024 ≤ 1030 by omega⟩ (fun H locs g LP pr hrx hP hD hS => ?_)
            refine W.eq (g2 := F0 m 99 ls []) rfl ?_
            refine lv_iload_n hx hb d_Fb_link_99 rfl (lv_at hl 0 rfl) ?_
            have hC9 : cX A D ct ad ((tg_S ((re_set (re_beg B f (nI 3) (nI 1)) f 4 4 (nI n1)), tk, fr, X) f n1 x).1) ((tg_S ((re_set (re_beg B f (nI 3) (nI 1)) f 4 4 (nI n1)), tk, fr, X) f n1 x).2.1) ((tg_S ((re_set (re_beg B f (nI 3) (nI 1)) f 4 4 (nI n1)), tk, fr, X) f n1 x).2.2.1) ((tg_S ((re_set (re_beg B f (nI 3) (nI 1)) f 4 4 (nI n1)), tk, fr, X) f n1 x).2.2.2) H := ⟨g, LP, pr, hrx, hP, hD⟩
            have e9 : cX A D ct ad ((tg_S ((re_set (re_beg B f (nI 3) (nI 1)) f 4 4 (nI n1)), tk, fr, X) f n1 x).1) ((tg_S ((re_set (re_beg B f (nI 3) (nI 1)) f 4 4 (nI n1)), tk, fr, X) f n1 x).2.1) ((tg_S ((re_set (re_beg B f (nI 3) (nI 1)) f 4 4 (nI n1)), tk, fr, X) f n1 x).2.2.1) ((tg_S ((re_set (re_beg B f (nI 3) (nI 1)) f 4 4 (nI n1)), tk, fr, X) f n1 x).2.2.2) = cX A D ct ad ((lk_S (B, tk, fr, X) ((n1 : Nat) : Int).toNat x).1) ((lk_S (B, tk, fr, X) ((n1 : Nat) : Int).toNat x).2.1) ((lk_S (B, tk, fr, X) ((n1 : Nat) : Int).toNat x).2.2.1) ((lk_S (B, tk, fr, X) ((n1 : Nat) : Int).toNat x).2.2.2) := (by unfold lk_S; rw [← hf9]; rfl)
            rw [e9] at hC9
            refine W.widen (k := 2) (n := 1030) (by omega) (by omega) ?_
            exact vx_ret (W.iret (v := nI f) hx hb hr (fun t9 ht hW => ⟨(by unfold lk_c; rw [if_neg (by omega), if_neg (by rintro (q | q); omega; first | omega | exact absurd q.2 (by assumption))]), congrArg (fun z => Outcome.returned (some (Value.int z))) (show nI f = (nI (re_abs B 12 1)) from (by rw [hf9])), by rw [ht]; exact hC9, hS.F ht⟩) hS.2.2 d_Fb_link_100)
          · skip
            exact thFb hx hb hl9 at_ISE (is := 79) (text := "no block is free for the target") (by decide) hown hts hE hS rfl (hl.1.trans hml.symm) d_Fb_link_60 d_Fb_link_63 d_Fb_link_64 d_Fb_link_66 d_Fb_link_69 ht9 (Nat.le_of_ble_eq_true rfl) (Nat.le_of_ble_eq_true rfl) (show 0 + 1 ≤ 2 by omega) (show 0 + 6 ≤ 1030 by omega) hlocks (fun t9 hk9 => ⟨Or.inr ⟨(by unfold lk_c; rw [if_neg (by omega), if_pos (Or.inr ⟨by omega, by assumption⟩)]), rfl⟩, hk9⟩) (by omega) (by omega)
      · skip
        exact thFb hx hb hl9 at_ISE (is := 63) (text := "all files are there") (by decide) hown hts hE hS rfl (hl.1.trans hml.symm) d_Fb_link_34 d_Fb_link_37 d_Fb_link_38 d_Fb_link_40 d_Fb_link_43 ht9 (Nat.le_of_ble_eq_true rfl) (Nat.le_of_ble_eq_true rfl) (show 0 + 1 ≤ 2 by omega) (show 0 + 6 ≤ 1030 by omega) hlocks (fun t9 hk9 => ⟨Or.inr ⟨(by unfold lk_c; rw [if_neg (by omega), if_pos (Or.inl (by omega))]), rfl⟩, hk9⟩) (by omega) (by omega)
    · skip
      exact thFb hx hb hl9 at_IAE (is := 74) (text := "n is not 1 .. 1000") (by decide) hown hts hE hS rfl (hl.1.trans hml.symm) d_Fb_link_12 d_Fb_link_15 d_Fb_link_16 d_Fb_link_18 d_Fb_link_21 ht9 (Nat.le_of_ble_eq_true rfl) (Nat.le_of_ble_eq_true rfl) (show 0 + 1 ≤ 2 by omega) (show 0 + 6 ≤ 1030 by omega) hlocks (fun t9 hk9 => ⟨Or.inl ⟨(by unfold lk_c; rw [if_pos (by omega)]), rfl⟩, hk9⟩) (by omega) (by omega)
theorem m_Fb_write : mV R_Fb y_Fb_write (Cond.code y_Fb_write c_Fb_write 6 (some .int)) 4 := ⟨⟨w_387, w_388, w_1, w_389⟩, by decide +kernel⟩
set_option maxHeartbeats 4000000 in
set_option maxRecDepth 100000 in
theorem k_Fb_write (l : Launch) (hl9 : l.stackTraces = false) {D : va_G} {ct : Nat → ClassId} {ad : Nat → Nat} {B : Nat → Int32} {tk : Nat → Int32} {fr : Int32} {X : Nat → Option (Nat → Int32)} {A : Nat → Prop} {f : Nat} {x_f : Int32} (hx_f : x_f.toNatClampNeg = f) {a : Int} {x_a : Int32} (hx_a : x_a.toInt = a) {r : Int64} {n : Int} {x_n : Int32} (hx_n : x_n.toInt = n)  : vx_Met l y_Fb_write (Cond.code y_Fb_write c_Fb_write 6 (some .int) :: wA) (rmk 7 8 5138) (va_Pc [.ref (ad 0), .int x_f, .int x_a, .long r, .int x_n] (cS A D ct ad B tk fr X)) (tQ (wr_c B fr f a n 8) (some (.int (re_f (prC (B, tk, fr, X) f a.toNat n.toNat).1 f 4 4))) A D ct ad ((prC (B, tk, fr, X) f a.toNat n.toNat).1) ((prC (B, tk, fr, X) f a.toNat n.toNat).2.1) ((prC (B, tk, fr, X) f a.toNat n.toNat).2.2.1) (wrX_ (B, tk, fr, X) f a.toNat n.toNat r)) (tX (wr_c B fr f a n 8) nIAE nISE) 8 5138 A := by
  refine vx_ofW (cc := c_Fb_write) (maxL := 6) (ret := (some .int)) (by decide +kernel) rfl ?_
  intro p e s m args below meth c s₁ B0 hml ht9 hv
  obtain ⟨rfl, hA, hE, hK, g, LP, pr, hrx, hP, hD⟩ := hv
  have hS : va_S A s.heap s.heap [] := va_S.rf
  have hx := B0.exec
  have hb := B0.bytes
  have hr := B0.returns
  have hts := fun w (h : w ∈ wA) => atoms_spec (ws := Cond.code y_Fb_write c_Fb_write 6 (some .int) :: wA) B0.pre w (List.mem_cons_of_mem _ h)
  have hown : s.vm.findClass R_Fb = some m.cls := findClass_of_methodNamed B0.named
  have hlocks := B0.notSynchronized
  have hl := lv_entry ([.ref (ad 0), .int x_f, .int x_a, .long r, .int x_n]) (n := 6) (Nat.le_of_ble_eq_true rfl)
  rw [lg_entry_eq]
  generalize (lg_sl ([.ref (ad 0), .int x_f, .int x_a, .long r, .int x_n]) ++ List.replicate (6 - (lg_sl ([.ref (ad 0), .int x_f, .int x_a, .long r, .int x_n])).length) Slot.unset).toArray = ls at hl ⊢
  have hl : lv_has ls 6 [(0, .ref (ad 0)), (1, .int x_f), (2, .int x_a), (3, .long r), (5, .int x_n)] := hl
  have hf_f : x_f.toInt.toNat = f := hx_f
  have hg_f := z_lt x_f
  have hf_a := z_lt x_a
  have hg_a := z_ge x_a
  rw [hx_a] at hf_a hg_a
  have hf_n := z_lt x_n
  have hg_n := z_ge x_n
  rw [hx_n] at hf_n hg_n
  refine lv_aload_n hx hb d_Fb_write_0 rfl (lv_at hl 0 rfl) ?_
  refine lv_iload_n hx hb d_Fb_write_1 rfl (lv_at hl 1 rfl) ?_
  refine lv_iload_n hx hb d_Fb_write_2 rfl (lv_at hl 2 rfl) ?_
  refine lv_iload hx hb d_Fb_write_3 (lv_at hl 4 rfl) ?_
  refine lv_bipush (v := nI 8) hx hb d_Fb_write_5 (by decide) ?_
  refine ckV ⟨hx, hb, hml, hown, hts⟩ hE hK hrx hP hD hS hA rfl (k_Fb_checkSpan l hl9 (f := f) (x_f := x_f) (a := a) (x_a := x_a) (n := n) (x_n := x_n) (k := 8) hx_f hx_a hx_n (by omega)) w_390 m_Fb_checkSpan ⟨by decide, by decide⟩ 0 rfl rfl rfl hl.1 rfl (Nat.le_of_ble_eq_true rfl) d_Fb_write_7 ⟨show 0 + 2 ≤ 8 by omega, show 0 + 12 ≤ 5138 by omega⟩ ht9 hlocks (fun c9 t9 hk9 => ⟨Or.inl ⟨(if_neg c9), rfl⟩, hk9⟩) (by omega) (by omega) (fun p_1 locs hS => ?_)
  obtain ⟨q1, q2, q3, q4, q5⟩ := p_1
  obtain ⟨a1, rfl⟩ := Int.eq_ofNat_of_zero_le (show 0 ≤ a by omega)
  obtain rfl : x_a = nI a1 := z_i hx_a (by omega)
  obtain ⟨n1, rfl⟩ := Int.eq_ofNat_of_zero_le (show 0 ≤ n by omega)
  obtain rfl : x_n = nI n1 := z_i hx_n (by omega)
  have hc9 : wr_c B fr f ((a1 : Nat) : Int) ((n1 : Nat) : Int) 8 = if nI (bo_want B f ((a1 + n1 - 1) / 1024 + 1 - a1 / 1024) (a1 / 1024) 0) ≤ fr then 0 else 2 := if_pos ⟨q1, by omega⟩
  refine lv_aload_n hx hb d_Fb_write_10 rfl (lv_at hl 0 rfl) ?_
  refine lv_iload_n hx hb d_Fb_write_11 rfl (lv_at hl 1 rfl) ?_
  refine lv_iload_n hx hb d_Fb_write_12 rfl (lv_at hl 2 rfl) ?_
  refine lv_iload hx hb d_Fb_write_13 (lv_at hl 4 rfl) ?_
  refine ckV ⟨hx, hb, hml, hown, hts⟩ hE hK hrx hP hD hS hA rfl (k_Fb_checkFreeBlocks l hl9 (f := f) (x_f := x_f) (a := a1) (n := n1) hx_f (by omega) (by omega)) w_402 m_Fb_checkFreeBlocks ⟨by decide, by decide⟩ 0 rfl rfl rfl hl.1 rfl (Nat.le_of_ble_eq_true rfl) d_Fb_write_15 ⟨show (0 + 2) + 1 ≤ 8 by omega, show (0 + 12) + 6 ≤ 5138 by omega⟩ ht9 hlocks (fun c9 t9 hk9 => ⟨Or.inr ⟨(by rw [hc9, if_neg c9]), rfl⟩, hk9⟩) (by omega) (by omega) (fun p_2 locs hS => ?_)
  refine lv_aload_n hx hb d_Fb_write_18 rfl (lv_at hl 0 rfl) ?_
  refine va_get (D := D) (ci := 5) (v := .ref (ad 5)) (C := R_Fb) (T := T_Fb) (N := 5) hx hb hts u_Fb hown hK hP 0 rfl rfl 4 (by decide) (hts _ w_104) (fun _ h9 => h9) rfl d_Fb_write_19 ?_
  refine lv_iload_n hx hb d_Fb_write_22 rfl (lv_at hl 1 rfl) ?_
  refine lv_iload_n hx hb d_Fb_write_23 rfl (lv_at hl 2 rfl) ?_
  refine lv_iload hx hb d_Fb_write_24 (lv_at hl 4 rfl) ?_
  refine wrX ⟨hx, hb, hml, hown, hts⟩ hE hK hrx hP hD hS hA (k_Bo_prepare l (f := f) (x_f := x_f) (a := a1) (n := n1) hx_f (by omega) (by omega) (by omega)) w_414 m_Bo_prepare ⟨by decide, by decide⟩ 5 rfl rfl rfl hl.1 rfl (Nat.le_of_ble_eq_true rfl) d_Fb_write_26 ⟨show ((0 + 2) + 1) + 5 ≤ 8 by omega, show ((0 + 12) + 6) + 5120 ≤ 5138 by omega⟩ (fun H locs g LP pr hrx hP hD hS => ?_)
  refine W.eq (g2 := F0 m 29 ls []) rfl ?_
  refine lv_aload_n hx hb d_Fb_write_29 rfl (lv_at hl 0 rfl) ?_
  refine va_get (D := D) (ci := 5) (v := .ref (ad 5)) (C := R_Fb) (T := T_Fb) (N := 5) hx hb hts u_Fb hown hK hP 0 rfl rfl 4 (by decide) (hts _ w_104) (fun _ h9 => h9) rfl d_Fb_write_30 ?_
  refine lv_iload_n hx hb d_Fb_write_33 rfl (lv_at hl 1 rfl) ?_
  refine lv_iload_n hx hb d_Fb_write_34 rfl (lv_at hl 2 rfl) ?_
  refine lv_lload_n hx hb d_Fb_write_35 rfl (lv_at hl 3 rfl) ?_
  refine lv_iload hx hb d_Fb_write_36 (lv_at hl 4 rfl) ?_
  refine wrX ⟨hx, hb, hml, hown, hts⟩ hE hK hrx hP hD hS hA (k_Bo_setBytes l (f := f) (x_f := x_f) (a := a1) (r := r) (n := n1) hx_f (by omega) (by omega)) w_421 m_Bo_setBytes ⟨by decide, by decide⟩ 5 rfl rfl rfl hl.1 rfl (Nat.le_of_ble_eq_true rfl) d_Fb_write_38 ⟨show (((0 + 2) + 1) + 5) + 0 ≤ 8 by omega, show (((0 + 12) + 6) + 5120) + 0 ≤ 5138 by omega⟩ (fun H locs g LP pr hrx hP hD hS => ?_)
  refine W.eq (g2 := F0 m 41 ls []) rfl ?_
  refine lv_aload_n hx hb d_Fb_write_41 rfl (lv_at hl 0 rfl) ?_
  refine va_get (D := D) (ci := 5) (v := .ref (ad 2)) (C := R_Fb) (T := T_Fb) (N := 5) hx hb hts u_Fb hown hK hP 0 rfl rfl 2 (by decide) (hts _ w_102) (fun _ h9 => h9) rfl d_Fb_write_42 ?_
  refine lv_iload_n hx hb d_Fb_write_45 rfl (lv_at hl 1 rfl) ?_
  refine rdV ⟨hx, hb, hml, hown, hts⟩ hK hP (k_Re_sizeOf l (f := f) (x_f := x_f) hx_f ) w_425 m_Re_sizeOf ⟨by decide, by decide⟩ 2 rfl rfl rfl hl.1 rfl (Nat.le_of_ble_eq_true rfl) d_Fb_write_46 ⟨show (((0 + 2) + 1) + 5) ≤ 8 by omega, show (((0 + 12) + 6) + 5120) ≤ 5138 by omega⟩ ?_
  have hC9 : cX A D ct ad (pr_B (B, tk, fr, X) f a1 n1) ((pr_S (B, tk, fr, X) f a1 n1).2.1) ((pr_S (B, tk, fr, X) f a1 n1).2.2.1) (sbX (pr_B (B, tk, fr, X) f a1 n1) f a1 n1 ((pr_S (B, tk, fr, X) f a1 n1).2.2.2) r) H := ⟨g, LP, pr, hrx, hP, hD⟩
  have e9 : cX A D ct ad (pr_B (B, tk, fr, X) f a1 n1) ((pr_S (B, tk, fr, X) f a1 n1).2.1) ((pr_S (B, tk, fr, X) f a1 n1).2.2.1) (sbX (pr_B (B, tk, fr, X) f a1 n1) f a1 n1 ((pr_S (B, tk, fr, X) f a1 n1).2.2.2) r) = cX A D ct ad ((prC (B, tk, fr, X) f ((a1 : Nat) : Int).toNat ((n1 : Nat) : Int).toNat).1) ((prC (B, tk, fr, X) f ((a1 : Nat) : Int).toNat ((n1 : Nat) : Int).toNat).2.1) ((prC (B, tk, fr, X) f ((a1 : Nat) : Int).toNat ((n1 : Nat) : Int).toNat).2.2.1) (wrX_ (B, tk, fr, X) f ((a1 : Nat) : Int).toNat ((n1 : Nat) : Int).toNat r) := rfl
  rw [e9] at hC9
  refine W.widen (k := 8) (n := 5138) (by omega) (by omega) ?_
  exact vx_ret (W.iret (v := re_f (pr_B (B, tk, fr, X) f a1 n1) f 4 4) hx hb hr (fun t9 ht hW => ⟨(by rw [hc9, if_pos p_2]), congrArg (fun z => Outcome.returned (some (Value.int z))) (show re_f (pr_B (B, tk, fr, X) f a1 n1) f 4 4 = (re_f (prC (B, tk, fr, X) f ((a1 : Nat) : Int).toNat ((n1 : Nat) : Int).toNat).1 f 4 4) from rfl), by rw [ht]; exact hC9, hS.F ht⟩) hS.2.2 d_Fb_write_49)
theorem m_Fb_paint : mV R_Fb y_Fb_paint (Cond.code y_Fb_paint c_Fb_paint 5 (some .int)) 4 := ⟨⟨w_430, w_431, w_1, w_432⟩, by decide +kernel⟩
set_option maxHeartbeats 4000000 in
set_option maxRecDepth 100000 in
theorem k_Fb_paint (l : Launch) (hl9 : l.stackTraces = false) {D : va_G} {ct : Nat → ClassId} {ad : Nat → Nat} {B : Nat → Int32} {tk : Nat → Int32} {fr : Int32} {X : Nat → Option (Nat → Int32)} {A : Nat → Prop} {f : Nat} {x_f : Int32} (hx_f : x_f.toNatClampNeg = f) {a : Int} {x_a : Int32} (hx_a : x_a.toInt = a) {n : Int} {x_n : Int32} (hx_n : x_n.toInt = n) {x : Int32}  : vx_Met l y_Fb_paint (Cond.code y_Fb_paint c_Fb_paint 5 (some .int) :: wA) (rmk 7 8 5138) (va_Pc [.ref (ad 0), .int x_f, .int x_a, .int x_n, .int x] (cS A D ct ad B tk fr X)) (tQ (wr_c B fr f a n 4000) (some (.int (re_f (prC (B, tk, fr, X) f a.toNat n.toNat).1 f 4 4))) A D ct ad ((prC (B, tk, fr, X) f a.toNat n.toNat).1) ((prC (B, tk, fr, X) f a.toNat n.toNat).2.1) ((prC (B, tk, fr, X) f a.toNat n.toNat).2.2.1) (paX_ (B, tk, fr, X) f a.toNat n.toNat x)) (tX (wr_c B fr f a n 4000) nIAE nISE) 8 5138 A := by
  refine vx_ofW (cc := c_Fb_paint) (maxL := 5) (ret := (some .int)) (by decide +kernel) rfl ?_
  intro p e s m args below meth c s₁ B0 hml ht9 hv
  obtain ⟨rfl, hA, hE, hK, g, LP, pr, hrx, hP, hD⟩ := hv
  have hS : va_S A s.heap s.heap [] := va_S.rf
  have hx := B0.exec
  have hb := B0.bytes
  have hr := B0.returns
  have hts := fun w (h : w ∈ wA) => atoms_spec (ws := Cond.code y_Fb_paint c_Fb_paint 5 (some .int) :: wA) B0.pre w (List.mem_cons_of_mem _ h)
  have hown : s.vm.findClass R_Fb = some m.cls := findClass_of_methodNamed B0.named
  have hlocks := B0.notSynchronized
  have hl := lv_entry ([.ref (ad 0), .int x_f, .int x_a, .int x_n, .int x]) (n := 5) (Nat.le_of_ble_eq_true rfl)
  rw [lg_entry_eq]
  generalize (lg_sl ([.ref (ad 0), .int x_f, .int x_a, .int x_n, .int x]) ++ List.replicate (5 - (lg_sl ([.ref (ad 0), .int x_f, .int x_a, .int x_n, .int x])).length) Slot.unset).toArray = ls at hl ⊢
  have hl : lv_has ls 5 [(0, .ref (ad 0)), (1, .int x_f), (2, .int x_a), (3, .int x_n), (4, .int x)] := hl
  have hf_f : x_f.toInt.toNat = f := hx_f
  have hg_f := z_lt x_f
  have hf_a := z_lt x_a
  have hg_a := z_ge x_a
  rw [hx_a] at hf_a hg_a
  have hf_n := z_lt x_n
  have hg_n := z_ge x_n
  rw [hx_n] at hf_n hg_n
  refine lv_aload_n hx hb d_Fb_paint_0 rfl (lv_at hl 0 rfl) ?_
  refine lv_iload_n hx hb d_Fb_paint_1 rfl (lv_at hl 1 rfl) ?_
  refine lv_iload_n hx hb d_Fb_paint_2 rfl (lv_at hl 2 rfl) ?_
  refine lv_iload_n hx hb d_Fb_paint_3 rfl (lv_at hl 3 rfl) ?_
  refine lv_sipush (v := nI 4000) hx hb d_Fb_paint_4 (by decide) ?_
  refine ckV ⟨hx, hb, hml, hown, hts⟩ hE hK hrx hP hD hS hA rfl (k_Fb_checkSpan l hl9 (f := f) (x_f := x_f) (a := a) (x_a := x_a) (n := n) (x_n := x_n) (k := 4000) hx_f hx_a hx_n (by omega)) w_390 m_Fb_checkSpan ⟨by decide, by decide⟩ 0 rfl rfl rfl hl.1 rfl (Nat.le_of_ble_eq_true rfl) d_Fb_paint_7 ⟨show 0 + 2 ≤ 8 by omega, show 0 + 12 ≤ 5138 by omega⟩ ht9 hlocks (fun c9 t9 hk9 => ⟨Or.inl ⟨(if_neg c9), rfl⟩, hk9⟩) (by omega) (by omega) (fun p_1 locs hS => ?_)
  obtain ⟨q1, q2, q3, q4, q5⟩ := p_1
  obtain ⟨a1, rfl⟩ := Int.eq_ofNat_of_zero_le (show 0 ≤ a by omega)
  obtain rfl : x_a = nI a1 := z_i hx_a (by omega)
  obtain ⟨n1, rfl⟩ := Int.eq_ofNat_of_zero_le (show 0 ≤ n by omega)
  obtain rfl : x_n = nI n1 := z_i hx_n (by omega)
  have hc9 : wr_c B fr f ((a1 : Nat) : Int) ((n1 : Nat) : Int) 4000 = if nI (bo_want B f ((a1 + n1 - 1) / 1024 + 1 - a1 / 1024) (a1 / 1024) 0) ≤ fr then 0 else 2 := if_pos ⟨q1, by omega⟩
  refine lv_aload_n hx hb d_Fb_paint_10 rfl (lv_at hl 0 rfl) ?_
  refine lv_iload_n hx hb d_Fb_paint_11 rfl (lv_at hl 1 rfl) ?_
  refine lv_iload_n hx hb d_Fb_paint_12 rfl (lv_at hl 2 rfl) ?_
  refine lv_iload_n hx hb d_Fb_paint_13 rfl (lv_at hl 3 rfl) ?_
  refine ckV ⟨hx, hb, hml, hown, hts⟩ hE hK hrx hP hD hS hA rfl (k_Fb_checkFreeBlocks l hl9 (f := f) (x_f := x_f) (a := a1) (n := n1) hx_f (by omega) (by omega)) w_402 m_Fb_checkFreeBlocks ⟨by decide, by decide⟩ 0 rfl rfl rfl hl.1 rfl (Nat.le_of_ble_eq_true rfl) d_Fb_paint_14 ⟨show (0 + 2) + 1 ≤ 8 by omega, show (0 + 12) + 6 ≤ 5138 by omega⟩ ht9 hlocks (fun c9 t9 hk9 => ⟨Or.inr ⟨(by rw [hc9, if_neg c9]), rfl⟩, hk9⟩) (by omega) (by omega) (fun p_2 locs hS => ?_)
  refine lv_aload_n hx hb d_Fb_paint_17 rfl (lv_at hl 0 rfl) ?_
  refine va_get (D := D) (ci := 5) (v := .ref (ad 5)) (C := R_Fb) (T := T_Fb) (N := 5) hx hb hts u_Fb hown hK hP 0 rfl rfl 4 (by decide) (hts _ w_104) (fun _ h9 => h9) rfl d_Fb_paint_18 ?_
  refine lv_iload_n hx hb d_Fb_paint_21 rfl (lv_at hl 1 rfl) ?_
  refine lv_iload_n hx hb d_Fb_paint_22 rfl (lv_at hl 2 rfl) ?_
  refine lv_iload_n hx hb d_Fb_paint_23 rfl (lv_at hl 3 rfl) ?_
  refine wrX ⟨hx, hb, hml, hown, hts⟩ hE hK hrx hP hD hS hA (k_Bo_prepare l (f := f) (x_f := x_f) (a := a1) (n := n1) hx_f (by omega) (by omega) (by omega)) w_414 m_Bo_prepare ⟨by decide, by decide⟩ 5 rfl rfl rfl hl.1 rfl (Nat.le_of_ble_eq_true rfl) d_Fb_paint_24 ⟨show ((0 + 2) + 1) + 5 ≤ 8 by omega, show ((0 + 12) + 6) + 5120 ≤ 5138 by omega⟩ (fun H locs g LP pr hrx hP hD hS => ?_)
  refine W.eq (g2 := F0 m 27 ls []) rfl ?_
  refine lv_aload_n hx hb d_Fb_paint_27 rfl (lv_at hl 0 rfl) ?_
  refine va_get (D := D) (ci := 5) (v := .ref (ad 5)) (C := R_Fb) (T := T_Fb) (N := 5) hx hb hts u_Fb hown hK hP 0 rfl rfl 4 (by decide) (hts _ w_104) (fun _ h9 => h9) rfl d_Fb_paint_28 ?_
  refine lv_iload_n hx hb d_Fb_paint_31 rfl (lv_at hl 1 rfl) ?_
  refine lv_iload_n hx hb d_Fb_paint_32 rfl (lv_at hl 2 rfl) ?_
  refine lv_iload_n hx hb d_Fb_paint_33 rfl (lv_at hl 3 rfl) ?_
  refine lv_iload hx hb d_Fb_paint_34 (lv_at hl 4 rfl) ?_
  refine wrX ⟨hx, hb, hml, hown, hts⟩ hE hK hrx hP hD hS hA (k_Bo_setPattern l (f := f) (x_f := x_f) (a := a1) (n := n1) (x := x) hx_f (by omega) (by omega)) w_433 m_Bo_setPattern ⟨by decide, by decide⟩ 5 rfl rfl rfl hl.1 rfl (Nat.le_of_ble_eq_true rfl) d_Fb_paint_36 ⟨show (((0 + 2) + 1) + 5) + 0 ≤ 8 by omega, show (((0 + 12) + 6) + 5120) + 0 ≤ 5138 by omega⟩ (fun H locs g LP pr hrx hP hD hS => ?_)
  refine W.eq (g2 := F0 m 39 ls []) rfl ?_
  refine lv_aload_n hx hb d_Fb_paint_39 rfl (lv_at hl 0 rfl) ?_
  refine va_get (D := D) (ci := 5) (v := .ref (ad 2)) (C := R_Fb) (T := T_Fb) (N := 5) hx hb hts u_Fb hown hK hP 0 rfl rfl 2 (by decide) (hts _ w_102) (fun _ h9 => h9) rfl d_Fb_paint_40 ?_
  refine lv_iload_n hx hb d_Fb_paint_43 rfl (lv_at hl 1 rfl) ?_
  refine rdV ⟨hx, hb, hml, hown, hts⟩ hK hP (k_Re_sizeOf l (f := f) (x_f := x_f) hx_f ) w_425 m_Re_sizeOf ⟨by decide, by decide⟩ 2 rfl rfl rfl hl.1 rfl (Nat.le_of_ble_eq_true rfl) d_Fb_paint_44 ⟨show (((0 + 2) + 1) + 5) ≤ 8 by omega, show (((0 + 12) + 6) + 5120) ≤ 5138 by omega⟩ ?_
  have hC9 : cX A D ct ad (pr_B (B, tk, fr, X) f a1 n1) ((pr_S (B, tk, fr, X) f a1 n1).2.1) ((pr_S (B, tk, fr, X) f a1 n1).2.2.1) (ptX (pr_B (B, tk, fr, X) f a1 n1) f a1 n1 x ((a1 + n1 - 1) / 1024 + 1 - a1 / 1024) (a1 / 1024) ((pr_S (B, tk, fr, X) f a1 n1).2.2.2)) H := ⟨g, LP, pr, hrx, hP, hD⟩
  have e9 : cX A D ct ad (pr_B (B, tk, fr, X) f a1 n1) ((pr_S (B, tk, fr, X) f a1 n1).2.1) ((pr_S (B, tk, fr, X) f a1 n1).2.2.1) (ptX (pr_B (B, tk, fr, X) f a1 n1) f a1 n1 x ((a1 + n1 - 1) / 1024 + 1 - a1 / 1024) (a1 / 1024) ((pr_S (B, tk, fr, X) f a1 n1).2.2.2)) = cX A D ct ad ((prC (B, tk, fr, X) f ((a1 : Nat) : Int).toNat ((n1 : Nat) : Int).toNat).1) ((prC (B, tk, fr, X) f ((a1 : Nat) : Int).toNat ((n1 : Nat) : Int).toNat).2.1) ((prC (B, tk, fr, X) f ((a1 : Nat) : Int).toNat ((n1 : Nat) : Int).toNat).2.2.1) (paX_ (B, tk, fr, X) f ((a1 : Nat) : Int).toNat ((n1 : Nat) : Int).toNat x) := rfl
  rw [e9] at hC9
  refine W.widen (k := 8) (n := 5138) (by omega) (by omega) ?_
  exact vx_ret (W.iret (v := re_f (pr_B (B, tk, fr, X) f a1 n1) f 4 4) hx hb hr (fun t9 ht hW => ⟨(by rw [hc9, if_pos p_2]), congrArg (fun z => Outcome.returned (some (Value.int z))) (show re_f (pr_B (B, tk, fr, X) f a1 n1) f 4 4 = (re_f (prC (B, tk, fr, X) f ((a1 : Nat) : Int).toNat ((n1 : Nat) : Int).toNat).1 f 4 4) from rfl), by rw [ht]; exact hC9, hS.F ht⟩) hS.2.2 d_Fb_paint_47)
theorem m_Fb_cut : mV R_Fb y_Fb_cut (Cond.code y_Fb_cut c_Fb_cut 4 (some .int)) 2 := ⟨⟨w_489, w_490, w_1, w_491⟩, by decide +kernel⟩
set_option maxHeartbeats 4000000 in
set_option maxRecDepth 100000 in
theorem k_Fb_cut (l : Launch) (hl9 : l.stackTraces = false) {D : va_G} {ct : Nat → ClassId} {ad : Nat → Nat} {B : Nat → Int32} {tk : Nat → Int32} {fr : Int32} {X : Nat → Option (Nat → Int32)} {A : Nat → Prop} {f : Nat} {x_f : Int32} (hx_f : x_f.toNatClampNeg = f) {z : Int} {x_z : Int32} (hx_z : x_z.toInt = z)  : vx_Met l y_Fb_cut (Cond.code y_Fb_cut c_Fb_cut 4 (some .int) :: wA) (rmk 7 2 12) (va_Pc [.ref (ad 0), .int x_f, .int x_z] (cS A D ct ad B tk fr X)) (tQ (cu_c B f z) (some (.int (re_f B f 4 4))) A D ct ad (re_set (rs_S (B, tk, fr, X) f z.toNat).1 f 4 4 (nI z.toNat)) ((rs_S (B, tk, fr, X) f z.toNat).2.1) ((rs_S (B, tk, fr, X) f z.toNat).2.2) (rs_X (B, tk, fr, X) f z.toNat)) (tX (cu_c B f z) nIAE nIAE) 2 12 A := by
  refine vx_ofW (cc := c_Fb_cut) (maxL := 4) (ret := (some .int)) (by decide +kernel) rfl ?_
  intro p e s m args below meth c s₁ B0 hml ht9 hv
  obtain ⟨rfl, hA, hE, hK, g, LP, pr, hrx, hP, hD⟩ := hv
  have hS : va_S A s.heap s.heap [] := va_S.rf
  have hx := B0.exec
  have hb := B0.bytes
  have hr := B0.returns
  have hts := fun w (h : w ∈ wA) => atoms_spec (ws := Cond.code y_Fb_cut c_Fb_cut 4 (some .int) :: wA) B0.pre w (List.mem_cons_of_mem _ h)
  have hown : s.vm.findClass R_Fb = some m.cls := findClass_of_methodNamed B0.named
  have hlocks := B0.notSynchronized
  have hl := lv_entry ([.ref (ad 0), .int x_f, .int x_z]) (n := 4) (Nat.le_of_ble_eq_true rfl)
  rw [lg_entry_eq]
  generalize (lg_sl ([.ref (ad 0), .int x_f, .int x_z]) ++ List.replicate (4 - (lg_sl ([.ref (ad 0), .int x_f, .int x_z])).length) Slot.unset).toArray = ls at hl ⊢
  have hl : lv_has ls 4 [(0, .ref (ad 0)), (1, .int x_f), (2, .int x_z)] := hl
  have hf_f : x_f.toInt.toNat = f := hx_f
  have hg_f := z_lt x_f
  have hf_z := z_lt x_z
  have hg_z := z_ge x_z
  rw [hx_z] at hf_z hg_z
  refine lv_aload_n hx hb d_Fb_cut_0 rfl (lv_at hl 0 rfl) ?_
  refine lv_iload_n hx hb d_Fb_cut_1 rfl (lv_at hl 1 rfl) ?_
  refine ckV ⟨hx, hb, hml, hown, hts⟩ hE hK hrx hP hD hS hA rfl (k_Fb_checkPlain l hl9 (f := f) (x_f := x_f) hx_f ) w_394 m_Fb_checkPlain ⟨by decide, by decide⟩ 0 rfl rfl rfl hl.1 rfl (Nat.le_of_ble_eq_true rfl) d_Fb_cut_2 ⟨show 0 + 1 ≤ 2 by omega, show 0 + 6 ≤ 12 by omega⟩ ht9 hlocks (fun c9 t9 hk9 => ⟨Or.inl ⟨(if_neg (fun q => c9 q.1)), rfl⟩, hk9⟩) (by omega) (by omega) (fun p_1 locs hS => ?_)
  refine lv_iload_n hx hb d_Fb_cut_5 rfl (lv_at hl 2 rfl) ?_
  refine lz_if_lt (tgt := 16) hx hb hx_z d_Fb_cut_6 (by decide) (fun c_2 => ?_) (fun c_2 => ?_)
  · skip
    exact thFb hx hb hl9 at_IAE (is := 124) (text := "size is not 0 .. 15360") (by decide) hown hts hE hS rfl (hl.1.trans hml.symm) d_Fb_cut_16 d_Fb_cut_19 d_Fb_cut_20 d_Fb_cut_22 d_Fb_cut_25 ht9 (Nat.le_of_ble_eq_true rfl) (Nat.le_of_ble_eq_true rfl) (show (0 + 1) + 1 ≤ 2 by omega) (show (0 + 6) + 6 ≤ 12 by omega) hlocks (fun t9 hk9 => ⟨Or.inl ⟨(if_neg (fun q => absurd q.2 (by omega))), rfl⟩, hk9⟩) (by omega) (by omega)
  · skip
    refine lv_iload_n hx hb d_Fb_cut_9 rfl (lv_at hl 2 rfl) ?_
    refine lv_sipush (v := nI 15360) hx hb d_Fb_cut_10 (by decide) ?_
    refine lz_icmp_le (tgt := 26) hx hb hx_z (nI_toInt (by omega)) d_Fb_cut_13 (by decide) (fun c_3 => ?_) (fun c_3 => ?_)
    · skip
      obtain ⟨z1, rfl⟩ := Int.eq_ofNat_of_zero_le (show 0 ≤ z by omega)
      obtain rfl : x_z = nI z1 := z_i hx_z (by omega)
      refine lv_aload_n hx hb d_Fb_cut_26 rfl (lv_at hl 0 rfl) ?_
      refine va_get (D := D) (ci := 5) (v := .ref (ad 2)) (C := R_Fb) (T := T_Fb) (N := 5) hx hb hts u_Fb hown hK hP 0 rfl rfl 2 (by decide) (hts _ w_102) (fun _ h9 => h9) rfl d_Fb_cut_27 ?_
      refine lv_iload_n hx hb d_Fb_cut_30 rfl (lv_at hl 1 rfl) ?_
      refine rdV ⟨hx, hb, hml, hown, hts⟩ hK hP (k_Re_sizeOf l (f := f) (x_f := x_f) hx_f ) w_425 m_Re_sizeOf ⟨by decide, by decide⟩ 2 rfl rfl rfl hl.1 rfl (Nat.le_of_ble_eq_true rfl) d_Fb_cut_31 ⟨show (0 + 1) ≤ 2 by omega, show (0 + 6) ≤ 12 by omega⟩ ?_
      refine lv_istore_n (lv' := [(3, .int (re_f B f 4 4)), (0, .ref (ad 0)), (1, .int x_f), (2, .int (nI z1))]) hx hb d_Fb_cut_34 rfl hl (by decide) rfl (fun ls hl => ?_)
      refine lv_aload_n hx hb d_Fb_cut_35 rfl (lv_at hl 1 rfl) ?_
      refine va_get (D := D) (ci := 5) (v := .ref (ad 5)) (C := R_Fb) (T := T_Fb) (N := 5) hx hb hts u_Fb hown hK hP 0 rfl rfl 4 (by decide) (hts _ w_104) (fun _ h9 => h9) rfl d_Fb_cut_36 ?_
      refine lv_iload_n hx hb d_Fb_cut_39 rfl (lv_at hl 2 rfl) ?_
      refine lv_iload_n hx hb d_Fb_cut_40 rfl (lv_at hl 3 rfl) ?_
      refine wrX ⟨hx, hb, hml, hown, hts⟩ hE hK hrx hP hD hS hA (k_Bo_resize l (f := f) (x_f := x_f) (z := z1) hx_f (by omega)) w_493 m_Bo_resize ⟨by decide, by decide⟩ 5 rfl rfl rfl hl.1 rfl (Nat.le_of_ble_eq_true rfl) d_Fb_cut_41 ⟨show (0 + 1) + 0 ≤ 2 by omega, show (0 + 6) + 0 ≤ 12 by omega⟩ (fun H locs g LP pr hrx hP hD hS => ?_)
      refine W.eq (g2 := F0 m 44 ls []) rfl ?_
      refine lv_iload_n hx hb d_Fb_cut_44 rfl (lv_at hl 0 rfl) ?_
      have hC9 : cX A D ct ad (re_set (rs_S (B, tk, fr, X) f z1).1 f 4 4 (nI z1)) ((rs_S (B, tk, fr, X) f z1).2.1) ((rs_S (B, tk, fr, X) f z1).2.2) (rs_X (B, tk, fr, X) f z1) H := ⟨g, LP, pr, hrx, hP, hD⟩
      have e9 : cX A D ct ad (re_set (rs_S (B, tk, fr, X) f z1).1 f 4 4 (nI z1)) ((rs_S (B, tk, fr, X) f z1).2.1) ((rs_S (B, tk, fr, X) f z1).2.2) (rs_X (B, tk, fr, X) f z1) = cX A D ct ad (re_set (rs_S (B, tk, fr, X) f ((z1 : Nat) : Int).toNat).1 f 4 4 (nI ((z1 : Nat) : Int).toNat)) ((rs_S (B, tk, fr, X) f ((z1 : Nat) : Int).toNat).2.1) ((rs_S (B, tk, fr, X) f ((z1 : Nat) : Int).toNat).2.2) (rs_X (B, tk, fr, X) f ((z1 : Nat) : Int).toNat) := rfl
      rw [e9] at hC9
      refine W.widen (k := 2) (n := 12) (by omega) (by omega) ?_
      exact vx_ret (W.iret (v := re_f B f 4 4) hx hb hr (fun t9 ht hW => ⟨(if_pos ⟨p_1, by omega⟩), congrArg (fun z => Outcome.returned (some (Value.int z))) (show re_f B f 4 4 = (re_f B f 4 4) from rfl), by rw [ht]; exact hC9, hS.F ht⟩) hS.2.2 d_Fb_cut_45)
    · skip
      exact thFb hx hb hl9 at_IAE (is := 124) (text := "size is not 0 .. 15360") (by decide) hown hts hE hS rfl (hl.1.trans hml.symm) d_Fb_cut_16 d_Fb_cut_19 d_Fb_cut_20 d_Fb_cut_22 d_Fb_cut_25 ht9 (Nat.le_of_ble_eq_true rfl) (Nat.le_of_ble_eq_true rfl) (show (0 + 1) + 1 ≤ 2 by omega) (show (0 + 6) + 6 ≤ 12 by omega) hlocks (fun t9 hk9 => ⟨Or.inl ⟨(if_neg (fun q => absurd q.2 (by omega))), rfl⟩, hk9⟩) (by omega) (by omega)
theorem m_Fb_links : mV R_Fb y_Fb_links (Cond.code y_Fb_links c_Fb_links 5 (some .int)) 2 := ⟨⟨w_769, w_770, w_1, w_771⟩, by decide +kernel⟩
set_option maxHeartbeats 4000000 in
set_option maxRecDepth 100000 in
theorem k_Fb_links (l : Launch) (hl9 : l.stackTraces = false) {D : va_G} {ct : Nat → ClassId} {ad : Nat → Nat} {B : Nat → Int32} {tk : Nat → Int32} {fr : Int32} {X : Nat → Option (Nat → Int32)} {A : Nat → Prop} {f : Nat} {x_f : Int32} (hx_f : x_f.toNatClampNeg = f) {x : Int32}  : vx_Met l y_Fb_links (Cond.code y_Fb_links c_Fb_links 5 (some .int) :: wA) (rmk 7 2 12) (va_Pc [.ref (ad 0), .int x_f, .int x] (cS A D ct ad B tk fr X)) (tQ (li_c B f x) (some (.int (re_f B f 26 2 + x))) A D ct ad (li_B B f x x_f) tk fr X) (tX (li_c B f x) nIAE nIAE) 2 12 A := by
  refine vx_ofW (cc := c_Fb_links) (maxL := 5) (ret := (some .int)) (by decide +kernel) rfl ?_
  intro p e s m args below meth c s₁ B0 hml ht9 hv
  obtain ⟨rfl, hA, hE, hK, g, LP, pr, hrx, hP, hD⟩ := hv
  have hS : va_S A s.heap s.heap [] := va_S.rf
  have hx := B0.exec
  have hb := B0.bytes
  have hr := B0.returns
  have hts := fun w (h : w ∈ wA) => atoms_spec (ws := Cond.code y_Fb_links c_Fb_links 5 (some .int) :: wA) B0.pre w (List.mem_cons_of_mem _ h)
  have hown : s.vm.findClass R_Fb = some m.cls := findClass_of_methodNamed B0.named
  have hlocks := B0.notSynchronized
  have hl := lv_entry ([.ref (ad 0), .int x_f, .int x]) (n := 5) (Nat.le_of_ble_eq_true rfl)
  rw [lg_entry_eq]
  generalize (lg_sl ([.ref (ad 0), .int x_f, .int x]) ++ List.replicate (5 - (lg_sl ([.ref (ad 0), .int x_f, .int x])).length) Slot.unset).toArray = ls at hl ⊢
  have hl : lv_has ls 5 [(0, .ref (ad 0)), (1, .int x_f), (2, .int x)] := hl
  have hf_f : x_f.toInt.toNat = f := hx_f
  have hg_f := z_lt x_f
  refine lv_aload_n hx hb d_Fb_links_0 rfl (lv_at hl 0 rfl) ?_
  refine lv_iload_n hx hb d_Fb_links_1 rfl (lv_at hl 1 rfl) ?_
  refine ckV ⟨hx, hb, hml, hown, hts⟩ hE hK hrx hP hD hS hA rfl (k_Fb_checkThere l hl9 (f := f) (x_f := x_f) hx_f ) w_452 m_Fb_checkThere ⟨by decide, by decide⟩ 0 rfl rfl rfl hl.1 rfl (Nat.le_of_ble_eq_true rfl) d_Fb_links_2 ⟨show 0 + 1 ≤ 2 by omega, show 0 + 6 ≤ 12 by omega⟩ ht9 hlocks (fun c9 t9 hk9 => ⟨Or.inl ⟨(if_pos (Or.inl (Decidable.not_not.mp c9))), rfl⟩, hk9⟩) (by omega) (by omega) (fun p_1 locs hS => ?_)
  refine lv_aload_n hx hb d_Fb_links_5 rfl (lv_at hl 0 rfl) ?_
  refine va_get (D := D) (ci := 5) (v := .ref (ad 2)) (C := R_Fb) (T := T_Fb) (N := 5) hx hb hts u_Fb hown hK hP 0 rfl rfl 2 (by decide) (hts _ w_102) (fun _ h9 => h9) rfl d_Fb_links_6 ?_
  refine lv_iload_n hx hb d_Fb_links_9 rfl (lv_at hl 1 rfl) ?_
  refine rdV ⟨hx, hb, hml, hown, hts⟩ hK hP (k_Re_linksOf l (f := f) (x_f := x_f) hx_f ) w_772 m_Re_linksOf ⟨by decide, by decide⟩ 2 rfl rfl rfl hl.1 rfl (Nat.le_of_ble_eq_true rfl) d_Fb_links_10 ⟨show (0 + 1) ≤ 2 by omega, show (0 + 6) ≤ 12 by omega⟩ ?_
  refine lv_istore_n (lv' := [(3, .int (re_f B f 26 2)), (0, .ref (ad 0)), (1, .int x_f), (2, .int x)]) hx hb d_Fb_links_13 rfl hl (by decide) rfl (fun ls hl => ?_)
  refine lv_iload_n hx hb d_Fb_links_14 rfl (lv_at hl 3 rfl) ?_
  refine lv_iload_n hx hb d_Fb_links_15 rfl (lv_at hl 0 rfl) ?_
  refine lv_ineg hx hb d_Fb_links_16 ?_
  refine lv_icmp_lt (tgt := 29) hx hb d_Fb_links_17 (by decide) (fun c_2 => ?_) (fun c_2 => ?_)
  · skip
    exact thFb hx hb hl9 at_IAE (is := 132) (text := "links would not be 0 .. 1000") (by decide) hown hts hE hS rfl (hl.1.trans hml.symm) d_Fb_links_29 d_Fb_links_32 d_Fb_links_33 d_Fb_links_35 d_Fb_links_38 ht9 (Nat.le_of_ble_eq_true rfl) (Nat.le_of_ble_eq_true rfl) (show (0 + 1) + 1 ≤ 2 by omega) (show (0 + 6) + 6 ≤ 12 by omega) hlocks (fun t9 hk9 => ⟨Or.inl ⟨(if_pos (Or.inr (by first | exact Or.inl (by assumption) | exact Or.inr (by assumption)))), rfl⟩, hk9⟩) (by omega) (by omega)
  · skip
    refine lv_iload_n hx hb d_Fb_links_20 rfl (lv_at hl 3 rfl) ?_
    refine lv_sipush (v := nI 1000) hx hb d_Fb_links_21 (by decide) ?_
    refine lv_iload_n hx hb d_Fb_links_24 rfl (lv_at hl 0 rfl) ?_
    refine lv_isub hx hb d_Fb_links_25 ?_
    refine lv_icmp_le (tgt := 39) hx hb d_Fb_links_26 (by decide) (fun c_3 => ?_) (fun c_3 => ?_)
    · skip
      refine lv_iload_n hx hb d_Fb_links_39 rfl (lv_at hl 0 rfl) ?_
      refine lv_iload_n hx hb d_Fb_links_40 rfl (lv_at hl 3 rfl) ?_
      refine lv_iadd hx hb d_Fb_links_41 ?_
      refine lv_istore (lv' := [(4, .int ((re_f B f 26 2) + x)), (3, .int (re_f B f 26 2)), (0, .ref (ad 0)), (1, .int x_f), (2, .int x)]) hx hb d_Fb_links_42 hl (by decide) rfl (fun ls hl => ?_)
      refine lv_aload_n hx hb d_Fb_links_44 rfl (lv_at hl 2 rfl) ?_
      refine va_get (D := D) (ci := 5) (v := .ref (ad 2)) (C := R_Fb) (T := T_Fb) (N := 5) hx hb hts u_Fb hown hK hP 0 rfl rfl 2 (by decide) (hts _ w_102) (fun _ h9 => h9) rfl d_Fb_links_45 ?_
      refine lv_iload_n hx hb d_Fb_links_48 rfl (lv_at hl 3 rfl) ?_
      refine lv_iload hx hb d_Fb_links_49 (lv_at hl 0 rfl) ?_
      refine wrV ⟨hx, hb, hml, hown, hts⟩ hK hP hD hS hA (k_Re_setLinks l (f := f) (x_f := x_f) (v := ((re_f B f 26 2) + x)) hx_f ) w_777 m_Re_setLinks ⟨by decide, by decide⟩ 2 rfl rfl rfl hl.1 rfl (Nat.le_of_ble_eq_true rfl) d_Fb_links_51 ⟨show (0 + 1) + 0 ≤ 2 by omega, show (0 + 6) + 0 ≤ 12 by omega⟩ (fun H locs hP hD hS => ?_)
      have hP : va_P D vwC (wsC ct ad (re_set B f 26 2 ((re_f B f 26 2) + x)) g tk fr LP pr) H := hP
      have hD : va_D A (wsC ct ad (re_set B f 26 2 ((re_f B f 26 2) + x)) g tk fr LP pr) := hD
      refine W.eq (g2 := F0 m 54 ls []) rfl ?_
      refine lv_iload_n hx hb d_Fb_links_54 rfl (lv_at hl 1 rfl) ?_
      refine lv_if_eq (tgt := 71) hx hb d_Fb_links_55 (by decide) (fun c_4 => ?_) (fun c_4 => ?_)
      · skip
        refine lv_iload_n hx hb d_Fb_links_71 rfl (lv_at hl 1 rfl) ?_
        refine lv_if_ne (tgt := 88) hx hb d_Fb_links_72 (by decide) (fun c_5 => ?_) (fun c_5 => ?_)
        · skip
          refine lv_iload hx hb d_Fb_links_88 (lv_at hl 0 rfl) ?_
          have hC9 : cX A D ct ad (re_set B f 26 2 ((re_f B f 26 2) + x)) tk fr X H := ⟨g, LP, pr, hrx, hP, hD⟩
          have e9 : cX A D ct ad (re_set B f 26 2 ((re_f B f 26 2) + x)) tk fr X = cX A D ct ad (li_B B f x x_f) tk fr X := (by unfold li_B li_B1; first | exact absurd (show re_f B f 26 2 = 0 by assumption) (by assumption) | (rw [if_pos ⟨by assumption, by assumption⟩, if_pos ⟨by assumption, by assumption⟩]; done) | (rw [if_neg (fun q => absurd q.1 (by assumption)), if_pos ⟨by assumption, by assumption⟩]; done) | (rw [if_neg (fun q => q.2 (by assumption)), if_pos ⟨by assumption, by assumption⟩]; done) | (rw [if_pos ⟨by assumption, by assumption⟩, if_neg (fun q => q.1 (by assumption))]; done) | (rw [if_pos ⟨by assumption, by assumption⟩, if_neg (fun q => absurd q.2 (by assumption))]; done) | (rw [if_neg (fun q => absurd q.1 (by assumption)), if_neg (fun q => absurd q.2 (by assumption))]; done) | (rw [if_neg (fun q => q.2 (by assumption)), if_neg (fun q => q.1 (by assumption))]; done))
          rw [e9] at hC9
          refine W.widen (k := 2) (n := 12) (by omega) (by omega) ?_
          exact vx_ret (W.iret (v := (re_f B f 26 2) + x) hx hb hr (fun t9 ht hW => ⟨(if_neg (by rintro (q | q | q); exact p_1 q; exact absurd q (by assumption); exact q (by assumption))), congrArg (fun z => Outcome.returned (some (Value.int z))) (show (re_f B f 26 2) + x = (re_f B f 26 2 + x) from rfl), by rw [ht]; exact hC9, hS.F ht⟩) hS.2.2 d_Fb_links_90)
        · skip
          refine lv_iload hx hb d_Fb_links_75 (lv_at hl 0 rfl) ?_
          refine lv_if_eq (tgt := 88) hx hb d_Fb_links_77 (by decide) (fun c_6 => ?_) (fun c_6 => ?_)
          · skip
            refine lv_iload hx hb d_Fb_links_88 (lv_at hl 0 rfl) ?_
            have hC9 : cX A D ct ad (re_set B f 26 2 ((re_f B f 26 2) + x)) tk fr X H := ⟨g, LP, pr, hrx, hP, hD⟩
            have e9 : cX A D ct ad (re_set B f 26 2 ((re_f B f 26 2) + x)) tk fr X = cX A D ct ad (li_B B f x x_f) tk fr X := (by unfold li_B li_B1; first | exact absurd (show re_f B f 26 2 = 0 by assumption) (by assumption) | (rw [if_pos ⟨by assumption, by assumption⟩, if_pos ⟨by assumption, by assumption⟩]; done) | (rw [if_neg (fun q => absurd q.1 (by assumption)), if_pos ⟨by assumption, by assumption⟩]; done) | (rw [if_neg (fun q => q.2 (by assumption)), if_pos ⟨by assumption, by assumption⟩]; done) | (rw [if_pos ⟨by assumption, by assumption⟩, if_neg (fun q => q.1 (by assumption))]; done) | (rw [if_pos ⟨by assumption, by assumption⟩, if_neg (fun q => absurd q.2 (by assumption))]; done) | (rw [if_neg (fun q => absurd q.1 (by assumption)), if_neg (fun q => absurd q.2 (by assumption))]; done) | (rw [if_neg (fun q => q.2 (by assumption)), if_neg (fun q => q.1 (by assumption))]; done))
            rw [e9] at hC9
            refine W.widen (k := 2) (n := 12) (by omega) (by omega) ?_
            exact vx_ret (W.iret (v := (re_f B f 26 2) + x) hx hb hr (fun t9 ht hW => ⟨(if_neg (by rintro (q | q | q); exact p_1 q; exact absurd q (by assumption); exact q (by assumption))), congrArg (fun z => Outcome.returned (some (Value.int z))) (show (re_f B f 26 2) + x = (re_f B f 26 2 + x) from rfl), by rw [ht]; exact hC9, hS.F ht⟩) hS.2.2 d_Fb_links_90)
          · skip
            refine lv_aload_n hx hb d_Fb_links_80 rfl (lv_at hl 2 rfl) ?_
            refine va_get (D := D) (ci := 5) (v := .ref (ad 4)) (C := R_Fb) (T := T_Fb) (N := 5) hx hb hts u_Fb hown hK hP 0 rfl rfl 3 (by decide) (hts _ w_103) (fun _ h9 => h9) rfl d_Fb_links_81 ?_
            refine lv_iload_n hx hb d_Fb_links_84 rfl (lv_at hl 3 rfl) ?_
            refine wrV ⟨hx, hb, hml, hown, hts⟩ hK hP hD hS hA (k_Wa_remove l (f := f) (x_f := x_f) hx_f ) w_148 m_Wa_remove ⟨by decide, by decide⟩ 4 rfl rfl rfl hl.1 rfl (Nat.le_of_ble_eq_true rfl) d_Fb_links_85 ⟨show (0 + 1) + 0 ≤ 2 by omega, show (0 + 6) + 0 ≤ 12 by omega⟩ (fun H locs hP hD hS => ?_)
            have hP : va_P D vwC (wsC ct ad (wa_rem (re_set B f 26 2 ((re_f B f 26 2) + x)) f x_f) g tk fr LP pr) H := hP
            have hD : va_D A (wsC ct ad (wa_rem (re_set B f 26 2 ((re_f B f 26 2) + x)) f x_f) g tk fr LP pr) := hD
            refine W.eq (g2 := F0 m 88 ls []) rfl ?_
            refine lv_iload hx hb d_Fb_links_88 (lv_at hl 0 rfl) ?_
            have hC9 : cX A D ct ad (wa_rem (re_set B f 26 2 ((re_f B f 26 2) + x)) f x_f) tk fr X H := ⟨g, LP, pr, hrx, hP, hD⟩
            have e9 : cX A D ct ad (wa_rem (re_set B f 26 2 ((re_f B f 26 2) + x)) f x_f) tk fr X = cX A D ct ad (li_B B f x x_f) tk fr X := (by unfold li_B li_B1; first | exact absurd (show re_f B f 26 2 = 0 by assumption) (by assumption) | (rw [if_pos ⟨by assumption, by assumption⟩, if_pos ⟨by assumption, by assumption⟩]; done) | (rw [if_neg (fun q => absurd q.1 (by assumption)), if_pos ⟨by assumption, by assumption⟩]; done) | (rw [if_neg (fun q => q.2 (by assumption)), if_pos ⟨by assumption, by assumption⟩]; done) | (rw [if_pos ⟨by assumption, by assumption⟩, if_neg (fun q => q.1 (by assumption))]; done) | (rw [if_pos ⟨by assumption, by assumption⟩, if_neg (fun q => absurd q.2 (by assumption))]; done) | (rw [if_neg (fun q => absurd q.1 (by assumption)), if_neg (fun q => absurd q.2 (by assumption))]; done) | (rw [if_neg (fun q => q.2 (by assumption)), if_neg (fun q => q.1 (by assumption))]; done))
            rw [e9] at hC9
            refine W.widen (k := 2) (n := 12) (by omega) (by omega) ?_
            exact vx_ret (W.iret (v := (re_f B f 26 2) + x) hx hb hr (fun t9 ht hW => ⟨(if_neg (by rintro (q | q | q); exact p_1 q; exact absurd q (by assumption); exact q (by assumption))), congrArg (fun z => Outcome.returned (some (Value.int z))) (show (re_f B f 26 2) + x = (re_f B f 26 2 + x) from rfl), by rw [ht]; exact hC9, hS.F ht⟩) hS.2.2 d_Fb_links_90)
      · skip
        refine lv_iload hx hb d_Fb_links_58 (lv_at hl 0 rfl) ?_
        refine lv_if_ne (tgt := 71) hx hb d_Fb_links_60 (by decide) (fun c_7 => ?_) (fun c_7 => ?_)
        · skip
          refine lv_iload_n hx hb d_Fb_links_71 rfl (lv_at hl 1 rfl) ?_
          refine lv_if_ne (tgt := 88) hx hb d_Fb_links_72 (by decide) (fun c_8 => ?_) (fun c_8 => ?_)
          · skip
            refine lv_iload hx hb d_Fb_links_88 (lv_at hl 0 rfl) ?_
            have hC9 : cX A D ct ad (re_set B f 26 2 ((re_f B f 26 2) + x)) tk fr X H := ⟨g, LP, pr, hrx, hP, hD⟩
            have e9 : cX A D ct ad (re_set B f 26 2 ((re_f B f 26 2) + x)) tk fr X = cX A D ct ad (li_B B f x x_f) tk fr X := (by unfold li_B li_B1; first | exact absurd (show re_f B f 26 2 = 0 by assumption) (by assumption) | (rw [if_pos ⟨by assumption, by assumption⟩, if_pos ⟨by assumption, by assumption⟩]; done) | (rw [if_neg (fun q => absurd q.1 (by assumption)), if_pos ⟨by assumption, by assumption⟩]; done) | (rw [if_neg (fun q => q.2 (by assumption)), if_pos ⟨by assumption, by assumption⟩]; done) | (rw [if_pos ⟨by assumption, by assumption⟩, if_neg (fun q => q.1 (by assumption))]; done) | (rw [if_pos ⟨by assumption, by assumption⟩, if_neg (fun q => absurd q.2 (by assumption))]; done) | (rw [if_neg (fun q => absurd q.1 (by assumption)), if_neg (fun q => absurd q.2 (by assumption))]; done) | (rw [if_neg (fun q => q.2 (by assumption)), if_neg (fun q => q.1 (by assumption))]; done))
            rw [e9] at hC9
            refine W.widen (k := 2) (n := 12) (by omega) (by omega) ?_
            exact vx_ret (W.iret (v := (re_f B f 26 2) + x) hx hb hr (fun t9 ht hW => ⟨(if_neg (by rintro (q | q | q); exact p_1 q; exact absurd q (by assumption); exact q (by assumption))), congrArg (fun z => Outcome.returned (some (Value.int z))) (show (re_f B f 26 2) + x = (re_f B f 26 2 + x) from rfl), by rw [ht]; exact hC9, hS.F ht⟩) hS.2.2 d_Fb_links_90)
          · skip
            refine lv_iload hx hb d_Fb_links_75 (lv_at hl 0 rfl) ?_
            refine lv_if_eq (tgt := 88) hx hb d_Fb_links_77 (by decide) (fun c_9 => ?_) (fun c_9 => ?_)
            · skip
              refine lv_iload hx hb d_Fb_links_88 (lv_at hl 0 rfl) ?_
              have hC9 : cX A D ct ad (re_set B f 26 2 ((re_f B f 26 2) + x)) tk fr X H := ⟨g, LP, pr, hrx, hP, hD⟩
              have e9 : cX A D ct ad (re_set B f 26 2 ((re_f B f 26 2) + x)) tk fr X = cX A D ct ad (li_B B f x x_f) tk fr X := (by unfold li_B li_B1; first | exact absurd (show re_f B f 26 2 = 0 by assumption) (by assumption) | (rw [if_pos ⟨by assumption, by assumption⟩, if_pos ⟨by assumption, by assumption⟩]; done) | (rw [if_neg (fun q => absurd q.1 (by assumption)), if_pos ⟨by assumption, by assumption⟩]; done) | (rw [if_neg (fun q => q.2 (by assumption)), if_pos ⟨by assumption, by assumption⟩]; done) | (rw [if_pos ⟨by assumption, by assumption⟩, if_neg (fun q => q.1 (by assumption))]; done) | (rw [if_pos ⟨by assumption, by assumption⟩, if_neg (fun q => absurd q.2 (by assumption))]; done) | (rw [if_neg (fun q => absurd q.1 (by assumption)), if_neg (fun q => absurd q.2 (by assumption))]; done) | (rw [if_neg (fun q => q.2 (by assumption)), if_neg (fun q => q.1 (by assumption))]; done))
              rw [e9] at hC9
              refine W.widen (k := 2) (n := 12) (by omega) (by omega) ?_
              exact vx_ret (W.iret (v := (re_f B f 26 2) + x) hx hb hr (fun t9 ht hW => ⟨(if_neg (by rintro (q | q | q); exact p_1 q; exact absurd q (by assumption); exact q (by assumption))), congrArg (fun z => Outcome.returned (some (Value.int z))) (show (re_f B f 26 2) + x = (re_f B f 26 2 + x) from rfl), by rw [ht]; exact hC9, hS.F ht⟩) hS.2.2 d_Fb_links_90)
            · skip
              refine lv_aload_n hx hb d_Fb_links_80 rfl (lv_at hl 2 rfl) ?_
              refine va_get (D := D) (ci := 5) (v := .ref (ad 4)) (C := R_Fb) (T := T_Fb) (N := 5) hx hb hts u_Fb hown hK hP 0 rfl rfl 3 (by decide) (hts _ w_103) (fun _ h9 => h9) rfl d_Fb_links_81 ?_
              refine lv_iload_n hx hb d_Fb_links_84 rfl (lv_at hl 3 rfl) ?_
              refine wrV ⟨hx, hb, hml, hown, hts⟩ hK hP hD hS hA (k_Wa_remove l (f := f) (x_f := x_f) hx_f ) w_148 m_Wa_remove ⟨by decide, by decide⟩ 4 rfl rfl rfl hl.1 rfl (Nat.le_of_ble_eq_true rfl) d_Fb_links_85 ⟨show (0 + 1) + 0 ≤ 2 by omega, show (0 + 6) + 0 ≤ 12 by omega⟩ (fun H locs hP hD hS => ?_)
              have hP : va_P D vwC (wsC ct ad (wa_rem (re_set B f 26 2 ((re_f B f 26 2) + x)) f x_f) g tk fr LP pr) H := hP
              have hD : va_D A (wsC ct ad (wa_rem (re_set B f 26 2 ((re_f B f 26 2) + x)) f x_f) g tk fr LP pr) := hD
              refine W.eq (g2 := F0 m 88 ls []) rfl ?_
              refine lv_iload hx hb d_Fb_links_88 (lv_at hl 0 rfl) ?_
              have hC9 : cX A D ct ad (wa_rem (re_set B f 26 2 ((re_f B f 26 2) + x)) f x_f) tk fr X H := ⟨g, LP, pr, hrx, hP, hD⟩
              have e9 : cX A D ct ad (wa_rem (re_set B f 26 2 ((re_f B f 26 2) + x)) f x_f) tk fr X = cX A D ct ad (li_B B f x x_f) tk fr X := (by unfold li_B li_B1; first | exact absurd (show re_f B f 26 2 = 0 by assumption) (by assumption) | (rw [if_pos ⟨by assumption, by assumption⟩, if_pos ⟨by assumption, by assumption⟩]; done) | (rw [if_neg (fun q => absurd q.1 (by assumption)), if_pos ⟨by assumption, by assumption⟩]; done) | (rw [if_neg (fun q => q.2 (by assumption)), if_pos ⟨by assumption, by assumption⟩]; done) | (rw [if_pos ⟨by assumption, by assumption⟩, if_neg (fun q => q.1 (by assumption))]; done) | (rw [if_pos ⟨by assumption, by assumption⟩, if_neg (fun q => absurd q.2 (by assumption))]; done) | (rw [if_neg (fun q => absurd q.1 (by assumption)), if_neg (fun q => absurd q.2 (by assumption))]; done) | (rw [if_neg (fun q => q.2 (by assumption)), if_neg (fun q => q.1 (by assumption))]; done))
              rw [e9] at hC9
              refine W.widen (k := 2) (n := 12) (by omega) (by omega) ?_
              exact vx_ret (W.iret (v := (re_f B f 26 2) + x) hx hb hr (fun t9 ht hW => ⟨(if_neg (by rintro (q | q | q); exact p_1 q; exact absurd q (by assumption); exact q (by assumption))), congrArg (fun z => Outcome.returned (some (Value.int z))) (show (re_f B f 26 2) + x = (re_f B f 26 2 + x) from rfl), by rw [ht]; exact hC9, hS.F ht⟩) hS.2.2 d_Fb_links_90)
        · skip
          refine lv_aload_n hx hb d_Fb_links_63 rfl (lv_at hl 2 rfl) ?_
          refine va_get (D := D) (ci := 5) (v := .ref (ad 4)) (C := R_Fb) (T := T_Fb) (N := 5) hx hb hts u_Fb hown hK hP 0 rfl rfl 3 (by decide) (hts _ w_103) (fun _ h9 => h9) rfl d_Fb_links_64 ?_
          refine lv_iload_n hx hb d_Fb_links_67 rfl (lv_at hl 3 rfl) ?_
          refine wrV ⟨hx, hb, hml, hown, hts⟩ hK hP hD hS hA (k_Wa_add l (f := f) (x_f := x_f) hx_f ) w_310 m_Wa_add ⟨by decide, by decide⟩ 4 rfl rfl rfl hl.1 rfl (Nat.le_of_ble_eq_true rfl) d_Fb_links_68 ⟨show (0 + 1) + 0 ≤ 2 by omega, show (0 + 6) + 0 ≤ 12 by omega⟩ (fun H locs hP hD hS => ?_)
          have hP : va_P D vwC (wsC ct ad (wa_add (re_set B f 26 2 ((re_f B f 26 2) + x)) f x_f) g tk fr LP pr) H := hP
          have hD : va_D A (wsC ct ad (wa_add (re_set B f 26 2 ((re_f B f 26 2) + x)) f x_f) g tk fr LP pr) := hD
          refine W.eq (g2 := F0 m 71 ls []) rfl ?_
          refine lv_iload_n hx hb d_Fb_links_71 rfl (lv_at hl 1 rfl) ?_
          refine lv_if_ne (tgt := 88) hx hb d_Fb_links_72 (by decide) (fun c_10 => ?_) (fun c_10 => ?_)
          · skip
            refine lv_iload hx hb d_Fb_links_88 (lv_at hl 0 rfl) ?_
            have hC9 : cX A D ct ad (wa_add (re_set B f 26 2 ((re_f B f 26 2) + x)) f x_f) tk fr X H := ⟨g, LP, pr, hrx, hP, hD⟩
            have e9 : cX A D ct ad (wa_add (re_set B f 26 2 ((re_f B f 26 2) + x)) f x_f) tk fr X = cX A D ct ad (li_B B f x x_f) tk fr X := (by unfold li_B li_B1; first | exact absurd (show re_f B f 26 2 = 0 by assumption) (by assumption) | (rw [if_pos ⟨by assumption, by assumption⟩, if_pos ⟨by assumption, by assumption⟩]; done) | (rw [if_neg (fun q => absurd q.1 (by assumption)), if_pos ⟨by assumption, by assumption⟩]; done) | (rw [if_neg (fun q => q.2 (by assumption)), if_pos ⟨by assumption, by assumption⟩]; done) | (rw [if_pos ⟨by assumption, by assumption⟩, if_neg (fun q => q.1 (by assumption))]; done) | (rw [if_pos ⟨by assumption, by assumption⟩, if_neg (fun q => absurd q.2 (by assumption))]; done) | (rw [if_neg (fun q => absurd q.1 (by assumption)), if_neg (fun q => absurd q.2 (by assumption))]; done) | (rw [if_neg (fun q => q.2 (by assumption)), if_neg (fun q => q.1 (by assumption))]; done))
            rw [e9] at hC9
            refine W.widen (k := 2) (n := 12) (by omega) (by omega) ?_
            exact vx_ret (W.iret (v := (re_f B f 26 2) + x) hx hb hr (fun t9 ht hW => ⟨(if_neg (by rintro (q | q | q); exact p_1 q; exact absurd q (by assumption); exact q (by assumption))), congrArg (fun z => Outcome.returned (some (Value.int z))) (show (re_f B f 26 2) + x = (re_f B f 26 2 + x) from rfl), by rw [ht]; exact hC9, hS.F ht⟩) hS.2.2 d_Fb_links_90)
          · skip
            refine lv_iload hx hb d_Fb_links_75 (lv_at hl 0 rfl) ?_
            refine lv_if_eq (tgt := 88) hx hb d_Fb_links_77 (by decide) (fun c_11 => ?_) (fun c_11 => ?_)
            · skip
              refine lv_iload hx hb d_Fb_links_88 (lv_at hl 0 rfl) ?_
              have hC9 : cX A D ct ad (wa_add (re_set B f 26 2 ((re_f B f 26 2) + x)) f x_f) tk fr X H := ⟨g, LP, pr, hrx, hP, hD⟩
              have e9 : cX A D ct ad (wa_add (re_set B f 26 2 ((re_f B f 26 2) + x)) f x_f) tk fr X = cX A D ct ad (li_B B f x x_f) tk fr X := (by unfold li_B li_B1; first | exact absurd (show re_f B f 26 2 = 0 by assumption) (by assumption) | (rw [if_pos ⟨by assumption, by assumption⟩, if_pos ⟨by assumption, by assumption⟩]; done) | (rw [if_neg (fun q => absurd q.1 (by assumption)), if_pos ⟨by assumption, by assumption⟩]; done) | (rw [if_neg (fun q => q.2 (by assumption)), if_pos ⟨by assumption, by assumption⟩]; done) | (rw [if_pos ⟨by assumption, by assumption⟩, if_neg (fun q => q.1 (by assumption))]; done) | (rw [if_pos ⟨by assumption, by assumption⟩, if_neg (fun q => absurd q.2 (by assumption))]; done) | (rw [if_neg (fun q => absurd q.1 (by assumption)), if_neg (fun q => absurd q.2 (by assumption))]; done) | (rw [if_neg (fun q => q.2 (by assumption)), if_neg (fun q => q.1 (by assumption))]; done))
              rw [e9] at hC9
              refine W.widen (k := 2) (n := 12) (by omega) (by omega) ?_
              exact vx_ret (W.iret (v := (re_f B f 26 2) + x) hx hb hr (fun t9 ht hW => ⟨(if_neg (by rintro (q | q | q); exact p_1 q; exact absurd q (by assumption); exact q (by assumption))), congrArg (fun z => Outcome.returned (some (Value.int z))) (show (re_f B f 26 2) + x = (re_f B f 26 2 + x) from rfl), by rw [ht]; exact hC9, hS.F ht⟩) hS.2.2 d_Fb_links_90)
            · skip
              refine lv_aload_n hx hb d_Fb_links_80 rfl (lv_at hl 2 rfl) ?_
              refine va_get (D := D) (ci := 5) (v := .ref (ad 4)) (C := R_Fb) (T := T_Fb) (N := 5) hx hb hts u_Fb hown hK hP 0 rfl rfl 3 (by decide) (hts _ w_103) (fun _ h9 => h9) rfl d_Fb_links_81 ?_
              refine lv_iload_n hx hb d_Fb_links_84 rfl (lv_at hl 3 rfl) ?_
              refine wrV ⟨hx, hb, hml, hown, hts⟩ hK hP hD hS hA (k_Wa_remove l (f := f) (x_f := x_f) hx_f ) w_148 m_Wa_remove ⟨by decide, by decide⟩ 4 rfl rfl rfl hl.1 rfl (Nat.le_of_ble_eq_true rfl) d_Fb_links_85 ⟨show (0 + 1) + 0 ≤ 2 by omega, show (0 + 6) + 0 ≤ 12 by omega⟩ (fun H locs hP hD hS => ?_)
              have hP : va_P D vwC (wsC ct ad (wa_rem (wa_add (re_set B f 26 2 ((re_f B f 26 2) + x)) f x_f) f x_f) g tk fr LP pr) H := hP
              have hD : va_D A (wsC ct ad (wa_rem (wa_add (re_set B f 26 2 ((re_f B f 26 2) + x)) f x_f) f x_f) g tk fr LP pr) := hD
              refine W.eq (g2 := F0 m 88 ls []) rfl ?_
              refine lv_iload hx hb d_Fb_links_88 (lv_at hl 0 rfl) ?_
              have hC9 : cX A D ct ad (wa_rem (wa_add (re_set B f 26 2 ((re_f B f 26 2) + x)) f x_f) f x_f) tk fr X H := ⟨g, LP, pr, hrx, hP, hD⟩
              have e9 : cX A D ct ad (wa_rem (wa_add (re_set B f 26 2 ((re_f B f 26 2) + x)) f x_f) f x_f) tk fr X = cX A D ct ad (li_B B f x x_f) tk fr X := (by unfold li_B li_B1; first | exact absurd (show re_f B f 26 2 = 0 by assumption) (by assumption) | (rw [if_pos ⟨by assumption, by assumption⟩, if_pos ⟨by assumption, by assumption⟩]; done) | (rw [if_neg (fun q => absurd q.1 (by assumption)), if_pos ⟨by assumption, by assumption⟩]; done) | (rw [if_neg (fun q => q.2 (by assumption)), if_pos ⟨by assumption, by assumption⟩]; done) | (rw [if_pos ⟨by assumption, by assumption⟩, if_neg (fun q => q.1 (by assumption))]; done) | (rw [if_pos ⟨by assumption, by assumption⟩, if_neg (fun q => absurd q.2 (by assumption))]; done) | (rw [if_neg (fun q => absurd q.1 (by assumption)), if_neg (fun q => absurd q.2 (by assumption))]; done) | (rw [if_neg (fun q => q.2 (by assumption)), if_neg (fun q => q.1 (by assumption))]; done))
              rw [e9] at hC9
              refine W.widen (k := 2) (n := 12) (by omega) (by omega) ?_
              exact vx_ret (W.iret (v := (re_f B f 26 2) + x) hx hb hr (fun t9 ht hW => ⟨(if_neg (by rintro (q | q | q); exact p_1 q; exact absurd q (by assumption); exact q (by assumption))), congrArg (fun z => Outcome.returned (some (Value.int z))) (show (re_f B f 26 2) + x = (re_f B f 26 2 + x) from rfl), by rw [ht]; exact hC9, hS.F ht⟩) hS.2.2 d_Fb_links_90)
    · skip
      exact thFb hx hb hl9 at_IAE (is := 132) (text := "links would not be 0 .. 1000") (by decide) hown hts hE hS rfl (hl.1.trans hml.symm) d_Fb_links_29 d_Fb_links_32 d_Fb_links_33 d_Fb_links_35 d_Fb_links_38 ht9 (Nat.le_of_ble_eq_true rfl) (Nat.le_of_ble_eq_true rfl) (show (0 + 1) + 1 ≤ 2 by omega) (show (0 + 6) + 6 ≤ 12 by omega) hlocks (fun t9 hk9 => ⟨Or.inl ⟨(if_pos (Or.inr (by first | exact Or.inl (by assumption) | exact Or.inr (by assumption)))), rfl⟩, hk9⟩) (by omega) (by omega)
theorem m_Fb_drop : mV R_Fb y_Fb_drop (Cond.code y_Fb_drop c_Fb_drop 2 (some .int)) 1 := ⟨⟨w_782, w_783, w_1, w_784⟩, by decide +kernel⟩
set_option maxHeartbeats 4000000 in
set_option maxRecDepth 100000 in
theorem k_Fb_drop (l : Launch) (hl9 : l.stackTraces = false) {D : va_G} {ct : Nat → ClassId} {ad : Nat → Nat} {B : Nat → Int32} {tk : Nat → Int32} {fr : Int32} {X : Nat → Option (Nat → Int32)} {A : Nat → Prop} {f : Nat} {x_f : Int32} (hx_f : x_f.toNatClampNeg = f)  : vx_Met l y_Fb_drop (Cond.code y_Fb_drop c_Fb_drop 2 (some .int) :: wA) (rmk 7 2 12) (va_Pc [.ref (ad 0), .int x_f] (cS A D ct ad B tk fr X)) (tQ (dr_c B f) (some (.int (re_nb B f))) A D ct ad ((lgC (B, tk, fr) f x_f).1) ((lgC (B, tk, fr) f x_f).2.1) ((lgC (B, tk, fr) f x_f).2.2) X) (tX (dr_c B f) nIAE nISE) 2 12 A := by
  refine vx_ofW (cc := c_Fb_drop) (maxL := 2) (ret := (some .int)) (by decide +kernel) rfl ?_
  intro p e s m args below meth c s₁ B0 hml ht9 hv
  obtain ⟨rfl, hA, hE, hK, g, LP, pr, hrx, hP, hD⟩ := hv
  have hS : va_S A s.heap s.heap [] := va_S.rf
  have hx := B0.exec
  have hb := B0.bytes
  have hr := B0.returns
  have hts := fun w (h : w ∈ wA) => atoms_spec (ws := Cond.code y_Fb_drop c_Fb_drop 2 (some .int) :: wA) B0.pre w (List.mem_cons_of_mem _ h)
  have hown : s.vm.findClass R_Fb = some m.cls := findClass_of_methodNamed B0.named
  have hlocks := B0.notSynchronized
  have hl := lv_entry ([.ref (ad 0), .int x_f]) (n := 2) (Nat.le_of_ble_eq_true rfl)
  rw [lg_entry_eq]
  generalize (lg_sl ([.ref (ad 0), .int x_f]) ++ List.replicate (2 - (lg_sl ([.ref (ad 0), .int x_f])).length) Slot.unset).toArray = ls at hl ⊢
  have hl : lv_has ls 2 [(0, .ref (ad 0)), (1, .int x_f)] := hl
  have hf_f : x_f.toInt.toNat = f := hx_f
  have hg_f := z_lt x_f
  refine lv_aload_n hx hb d_Fb_drop_0 rfl (lv_at hl 0 rfl) ?_
  refine lv_iload_n hx hb d_Fb_drop_1 rfl (lv_at hl 1 rfl) ?_
  refine ckV ⟨hx, hb, hml, hown, hts⟩ hE hK hrx hP hD hS hA rfl (k_Fb_checkThere l hl9 (f := f) (x_f := x_f) hx_f ) w_452 m_Fb_checkThere ⟨by decide, by decide⟩ 0 rfl rfl rfl hl.1 rfl (Nat.le_of_ble_eq_true rfl) d_Fb_drop_2 ⟨show 0 + 1 ≤ 2 by omega, show 0 + 6 ≤ 12 by omega⟩ ht9 hlocks (fun c9 t9 hk9 => ⟨Or.inl ⟨(if_pos (Decidable.not_not.mp c9)), rfl⟩, hk9⟩) (by omega) (by omega) (fun p_1 locs hS => ?_)
  refine lv_aload_n hx hb d_Fb_drop_5 rfl (lv_at hl 0 rfl) ?_
  refine va_get (D := D) (ci := 5) (v := .ref (ad 2)) (C := R_Fb) (T := T_Fb) (N := 5) hx hb hts u_Fb hown hK hP 0 rfl rfl 2 (by decide) (hts _ w_102) (fun _ h9 => h9) rfl d_Fb_drop_6 ?_
  refine lv_iload_n hx hb d_Fb_drop_9 rfl (lv_at hl 1 rfl) ?_
  refine rdV ⟨hx, hb, hml, hown, hts⟩ hK hP (k_Re_linksOf l (f := f) (x_f := x_f) hx_f ) w_772 m_Re_linksOf ⟨by decide, by decide⟩ 2 rfl rfl rfl hl.1 rfl (Nat.le_of_ble_eq_true rfl) d_Fb_drop_10 ⟨show (0 + 1) ≤ 2 by omega, show (0 + 6) ≤ 12 by omega⟩ ?_
  refine lv_if_eq (tgt := 26) hx hb d_Fb_drop_13 (by decide) (fun c_2 => ?_) (fun c_2 => ?_)
  · skip
    refine lv_aload_n hx hb d_Fb_drop_26 rfl (lv_at hl 0 rfl) ?_
    refine lv_iload_n hx hb d_Fb_drop_27 rfl (lv_at hl 1 rfl) ?_
    refine wrV ⟨hx, hb, hml, hown, hts⟩ hK hP hD hS hA (k_Fb_letGo l (f := f) (x_f := x_f) hx_f ) w_128 m_Fb_letGo ⟨by decide, by decide⟩ 0 rfl rfl rfl hl.1 rfl (Nat.le_of_ble_eq_true rfl) d_Fb_drop_28 ⟨show (0 + 1) + 0 ≤ 2 by omega, show (0 + 6) + 0 ≤ 12 by omega⟩ (fun H locs hP hD hS => ?_)
    have hP : va_P D vwC (wsC ct ad (re_set (lg_S (B, tk, fr) f x_f).1 f 0 256 (nI 0)) g ((lg_S (B, tk, fr) f x_f).2.1) ((lg_S (B, tk, fr) f x_f).2.2) LP pr) H := hP
    have hD : va_D A (wsC ct ad (re_set (lg_S (B, tk, fr) f x_f).1 f 0 256 (nI 0)) g ((lg_S (B, tk, fr) f x_f).2.1) ((lg_S (B, tk, fr) f x_f).2.2) LP pr) := hD
    refine W.eq (g2 := F0 m 31 ls [.int (re_nb B f)]) rfl ?_
    have hC9 : cX A D ct ad (re_set (lg_S (B, tk, fr) f x_f).1 f 0 256 (nI 0)) ((lg_S (B, tk, fr) f x_f).2.1) ((lg_S (B, tk, fr) f x_f).2.2) X H := ⟨g, LP, pr, hrx, hP, hD⟩
    have e9 : cX A D ct ad (re_set (lg_S (B, tk, fr) f x_f).1 f 0 256 (nI 0)) ((lg_S (B, tk, fr) f x_f).2.1) ((lg_S (B, tk, fr) f x_f).2.2) X = cX A D ct ad ((lgC (B, tk, fr) f x_f).1) ((lgC (B, tk, fr) f x_f).2.1) ((lgC (B, tk, fr) f x_f).2.2) X := rfl
    rw [e9] at hC9
    refine W.widen (k := 2) (n := 12) (by omega) (by omega) ?_
    exact vx_ret (W.iret (v := re_nb B f) hx hb hr (fun t9 ht hW => ⟨(by unfold dr_c; rw [if_neg p_1, if_pos (by assumption)]), congrArg (fun z => Outcome.returned (some (Value.int z))) (show re_nb B f = (re_nb B f) from rfl), by rw [ht]; exact hC9, hS.F ht⟩) hS.2.2 d_Fb_drop_31)
  · skip
    exact thFb hx hb hl9 at_ISE (is := 140) (text := "the file has links") (by decide) hown hts hE hS rfl (hl.1.trans hml.symm) d_Fb_drop_16 d_Fb_drop_19 d_Fb_drop_20 d_Fb_drop_22 d_Fb_drop_25 ht9 (Nat.le_of_ble_eq_true rfl) (Nat.le_of_ble_eq_true rfl) (show (0 + 1) + 1 ≤ 2 by omega) (show (0 + 6) + 6 ≤ 12 by omega) hlocks (fun t9 hk9 => ⟨Or.inr ⟨(by unfold dr_c; rw [if_neg p_1, if_neg (by assumption)]), rfl⟩, hk9⟩) (by omega) (by omega)
theorem m_Fb_finish : mV R_Fb y_Fb_finish (Cond.code y_Fb_finish c_Fb_finish 2 (some .int)) 0 := ⟨⟨w_117, w_118, w_1, w_119⟩, by decide +kernel⟩
set_option maxHeartbeats 4000000 in
set_option maxRecDepth 100000 in
theorem k_Fb_finish (l : Launch) {D : va_G} {ct : Nat → ClassId} {ad : Nat → Nat} {B : Nat → Int32} {tk : Nat → Int32} {fr : Int32} {X : Nat → Option (Nat → Int32)} {A : Nat → Prop}   : Met l y_Fb_finish (Cond.code y_Fb_finish c_Fb_finish 2 (some .int) :: wA) (rmk 7 0 0) (va_Pc [.ref (ad 0)] (cS A D ct ad B tk fr X)) (xQ (some (.int (nI ((fnS 12 (B, tk, fr) 0).2)))) A D ct ad ((fnS 12 (B, tk, fr) 0).1.1) ((fnS 12 (B, tk, fr) 0).1.2.1) ((fnS 12 (B, tk, fr) 0).1.2.2) X) 0 0 A := by
  refine Met.ofW (cc := c_Fb_finish) (maxL := 2) (ret := (some .int)) (by decide +kernel) rfl ?_
  intro p e s m args below meth c s₁ B0 hml hv
  obtain ⟨rfl, hA, hE, hK, g, LP, pr, hrx, hP, hD⟩ := hv
  have hS : va_S A s.heap s.heap [] := va_S.rf
  have hx := B0.exec
  have hb := B0.bytes
  have hr := B0.returns
  have hts := fun w (h : w ∈ wA) => atoms_spec (ws := Cond.code y_Fb_finish c_Fb_finish 2 (some .int) :: wA) B0.pre w (List.mem_cons_of_mem _ h)
  have hown : s.vm.findClass R_Fb = some m.cls := findClass_of_methodNamed B0.named
  have hlocks := B0.notSynchronized
  have hl := lv_entry ([.ref (ad 0)]) (n := 2) (Nat.le_of_ble_eq_true rfl)
  rw [lg_entry_eq]
  generalize (lg_sl ([.ref (ad 0)]) ++ List.replicate (2 - (lg_sl ([.ref (ad 0)])).length) Slot.unset).toArray = ls at hl ⊢
  have hl : lv_has ls 2 [(0, .ref (ad 0))] := hl
  refine lv_iconst (v := nI 0) hx hb d_Fb_finish_0 (by decide) ?_
  refine lv_istore_n (lv' := [(1, .int (nI 0)), (0, .ref (ad 0))]) hx hb d_Fb_finish_1 rfl hl (by decide) rfl (fun ls hl => ?_)
  have loop2 : ∀ (n9 : Nat) (n : Nat) (S : c3), 12 - n < n9 → n ≤ 12 → fnS 12 (B, tk, fr) 0 = fnS (12 - n) S n → ∀ (H : Heap) (locs : List Loc), va_P D vwC (wsC ct ad S.1 g S.2.1 S.2.2 LP pr) H → va_D A (wsC ct ad S.1 g S.2.1 S.2.2 LP pr) → va_S A s.heap H locs → ∀ ls : Array Slot, lv_has ls 2 [(0, .ref (ad 0)), (1, .int (nI n))] → W p l e (headSpec (Cond.code y_Fb_finish c_Fb_finish 2 (some .int) :: wA) (rmk 7 0 0)).room s m ([.ref (ad 0)] : List Value).toArray below meth c H locs 0 0 (MQ below (xQ (some (.int (nI ((fnS 12 (B, tk, fr) 0).2)))) A D ct ad ((fnS 12 (B, tk, fr) 0).1.1) ((fnS 12 (B, tk, fr) 0).1.2.1) ((fnS 12 (B, tk, fr) 0).1.2.2) X) ([.ref (ad 0)] : List Value).toArray s 0 0 A) (F0 m 2 ls []) := by
    intro n9
    induction n9 with
    | zero => intro n S h8 h9 h10 H locs hP hD hS ls hl; exact absurd h8 (by omega)
    | succ n9 ih =>
      intro n S h8 h9 h10 H locs hP hD hS ls hl
      refine lv_iload_n hx hb d_Fb_finish_2 rfl (lv_at hl 1 rfl) ?_
      refine lv_bipush (v := nI 12) hx hb d_Fb_finish_3 (by decide) ?_
      refine ln_icmp_ge (tgt := 36) hx hb (by omega) (by omega) d_Fb_finish_5 (by decide) (fun c_1 => ?_) (fun c_1 => ?_)
      · skip
        refine lv_iload_n hx hb d_Fb_finish_36 rfl (lv_at hl 1 rfl) ?_
        have hC9 : cX A D ct ad S.1 S.2.1 S.2.2 X H := ⟨g, LP, pr, hrx, hP, hD⟩
        have e9 : cX A D ct ad S.1 S.2.1 S.2.2 X = cX A D ct ad ((fnS 12 (B, tk, fr) 0).1.1) ((fnS 12 (B, tk, fr) 0).1.2.1) ((fnS 12 (B, tk, fr) 0).1.2.2) X := (by rw [h10]; first | (rw [show 12 - n = 0 by omega]; rfl) | (rw [show 12 - n = 12 - (n + 1) + 1 by omega, fnS, if_pos (by assumption)]))
        rw [e9] at hC9
        exact W.iret (v := nI n) hx hb hr (fun t9 ht hW => ⟨congrArg (fun z => Outcome.returned (some (Value.int z))) (show nI n = (nI ((fnS 12 (B, tk, fr) 0).2)) from (congrArg nI (by rw [h10]; first | (rw [show 12 - n = 0 by omega]; rfl) | (rw [show 12 - n = 12 - (n + 1) + 1 by omega, fnS, if_pos (by assumption)])))), by rw [ht]; exact hC9, hS.F ht⟩) hS.2.2 d_Fb_finish_37
      · skip
        refine lv_aload_n hx hb d_Fb_finish_8 rfl (lv_at hl 0 rfl) ?_
        refine va_get (D := D) (ci := 5) (v := .ref (ad 4)) (C := R_Fb) (T := T_Fb) (N := 5) hx hb hts u_Fb hown hK hP 0 rfl rfl 3 (by decide) (hts _ w_103) (fun _ h9 => h9) rfl d_Fb_finish_9 ?_
        refine rdV ⟨hx, hb, hml, hown, hts⟩ hK hP (k_Wa_first l  ) w_120 m_Wa_first ⟨by decide, by decide⟩ 4 rfl rfl rfl hl.1 rfl (Nat.le_of_ble_eq_true rfl) d_Fb_finish_12 ⟨Nat.zero_le _, Nat.zero_le _⟩ ?_
        refine lv_if_eq (tgt := 36) hx hb d_Fb_finish_15 (by decide) (fun c_2 => ?_) (fun c_2 => ?_)
        · skip
          refine lv_iload_n hx hb d_Fb_finish_36 rfl (lv_at hl 1 rfl) ?_
          have hC9 : cX A D ct ad S.1 S.2.1 S.2.2 X H := ⟨g, LP, pr, hrx, hP, hD⟩
          have e9 : cX A D ct ad S.1 S.2.1 S.2.2 X = cX A D ct ad ((fnS 12 (B, tk, fr) 0).1.1) ((fnS 12 (B, tk, fr) 0).1.2.1) ((fnS 12 (B, tk, fr) 0).1.2.2) X := (by rw [h10]; first | (rw [show 12 - n = 0 by omega]; rfl) | (rw [show 12 - n = 12 - (n + 1) + 1 by omega, fnS, if_pos (by assumption)]))
          rw [e9] at hC9
          exact W.iret (v := nI n) hx hb hr (fun t9 ht hW => ⟨congrArg (fun z => Outcome.returned (some (Value.int z))) (show nI n = (nI ((fnS 12 (B, tk, fr) 0).2)) from (congrArg nI (by rw [h10]; first | (rw [show 12 - n = 0 by omega]; rfl) | (rw [show 12 - n = 12 - (n + 1) + 1 by omega, fnS, if_pos (by assumption)])))), by rw [ht]; exact hC9, hS.F ht⟩) hS.2.2 d_Fb_finish_37
        · skip
          refine lv_aload_n hx hb d_Fb_finish_18 rfl (lv_at hl 0 rfl) ?_
          refine lv_aload_n hx hb d_Fb_finish_19 rfl (lv_at hl 0 rfl) ?_
          refine va_get (D := D) (ci := 5) (v := .ref (ad 4)) (C := R_Fb) (T := T_Fb) (N := 5) hx hb hts u_Fb hown hK hP 0 rfl rfl 3 (by decide) (hts _ w_103) (fun _ h9 => h9) rfl d_Fb_finish_20 ?_
          refine rdV ⟨hx, hb, hml, hown, hts⟩ hK hP (k_Wa_first l  ) w_120 m_Wa_first ⟨by decide, by decide⟩ 4 rfl rfl rfl hl.1 rfl (Nat.le_of_ble_eq_true rfl) d_Fb_finish_23 ⟨Nat.zero_le _, Nat.zero_le _⟩ ?_
          refine wrV ⟨hx, hb, hml, hown, hts⟩ hK hP hD hS hA (k_Fb_letGo l (f := (fr_num S.1 232 4).toNatClampNeg) (x_f := (fr_num S.1 232 4)) rfl ) w_128 m_Fb_letGo ⟨by decide, by decide⟩ 0 rfl rfl rfl hl.1 rfl (Nat.le_of_ble_eq_true rfl) d_Fb_finish_26 ⟨Nat.zero_le _, Nat.zero_le _⟩ (fun H locs hP hD hS => ?_)
          have hP : va_P D vwC (wsC ct ad (re_set (lg_S (S.1, S.2.1, S.2.2) (fr_num S.1 232 4).toNatClampNeg (fr_num S.1 232 4)).1 (fr_num S.1 232 4).toNatClampNeg 0 256 (nI 0)) g ((lg_S (S.1, S.2.1, S.2.2) (fr_num S.1 232 4).toNatClampNeg (fr_num S.1 232 4)).2.1) ((lg_S (S.1, S.2.1, S.2.2) (fr_num S.1 232 4).toNatClampNeg (fr_num S.1 232 4)).2.2) LP pr) H := hP
          have hD : va_D A (wsC ct ad (re_set (lg_S (S.1, S.2.1, S.2.2) (fr_num S.1 232 4).toNatClampNeg (fr_num S.1 232 4)).1 (fr_num S.1 232 4).toNatClampNeg 0 256 (nI 0)) g ((lg_S (S.1, S.2.1, S.2.2) (fr_num S.1 232 4).toNatClampNeg (fr_num S.1 232 4)).2.1) ((lg_S (S.1, S.2.1, S.2.2) (fr_num S.1 232 4).toNatClampNeg (fr_num S.1 232 4)).2.2) LP pr) := hD
          refine W.eq (g2 := F0 m 29 ls [.int (re_nb S.1 (fr_num S.1 232 4).toNatClampNeg)]) rfl ?_
          refine lv_pop hx hb d_Fb_finish_29 rfl ?_
          refine lv_iinc (v := nI (n + 1)) (lv' := [(1, .int (nI (n + 1))), (0, .ref (ad 0))]) hx hb d_Fb_finish_30 hl (k := 1) rfl (ln_inc (by decide)) (by decide) rfl (fun ls hl => ?_)
          refine lv_goto (tgt := 2) hx hb d_Fb_finish_33 (by decide) ?_
          exact ih (n + 1) ((re_set (lg_S (S.1, S.2.1, S.2.2) (fr_num S.1 232 4).toNatClampNeg (fr_num S.1 232 4)).1 (fr_num S.1 232 4).toNatClampNeg 0 256 (nI 0)), ((lg_S (S.1, S.2.1, S.2.2) (fr_num S.1 232 4).toNatClampNeg (fr_num S.1 232 4)).2.1), ((lg_S (S.1, S.2.1, S.2.2) (fr_num S.1 232 4).toNatClampNeg (fr_num S.1 232 4)).2.2)) (by omega) (by omega) (by rw [h10, show 12 - n = 12 - (n + 1) + 1 by omega, fnS, if_neg (by assumption)]; rfl) _ _ hP hD hS ls (lv_sub hl [1, 0] rfl)
  exact loop2 13 0 (B, tk, fr) (by omega) (by omega) rfl _ _ hP hD hS ls (lv_sub hl [1, 0] rfl)
