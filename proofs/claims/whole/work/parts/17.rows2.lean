/-! rows of blocks -/
theorem wsC_row2 {ct : Nat → ClassId} {ad : Nat → Nat} {B : Nat → Int32} {g : Nat → Option Nat} {tk : Nat → Int32} {fr : Int32} {LP : List Nat} {pr : Nat → Nat → Int32} {y : Nat} {r : Nat → Int32} (h : y ∈ LP) : ∃ k : Nat, (wsC ct ad B g tk fr LP (va_up pr y r))[k]? = some (y, .inl (ct 0, 1024, .inl r)) := by
  obtain ⟨k, hk⟩ := wsC_row (ct := ct) (ad := ad) (B := B) (g := g) (tk := tk) (fr := fr) (pr := va_up pr y r) h
  rw [va_up_self] at hk
  exact ⟨k, hk⟩
theorem wsC_set2 {A : Nat → Prop} {ct : Nat → ClassId} {ad : Nat → Nat} {B : Nat → Int32} {g : Nat → Option Nat} {tk : Nat → Int32} {fr : Int32} {LP : List Nat} {pr : Nat → Nat → Int32} {y k : Nat} {r r2 : Nat → Int32} (hD : va_D A (wsC ct ad B g tk fr LP (va_up pr y r))) (h : y ∈ LP) (hk : (wsC ct ad B g tk fr LP (va_up pr y r))[k]? = some (y, .inl (ct 0, 1024, .inl r))) :
    (wsC ct ad B g tk fr LP (va_up pr y r)).set k (y, .inl (ct 0, 1024, .inl r2)) = wsC ct ad B g tk fr LP (va_up pr y r2) := by
  rw [wsC_set hD h (by rw [va_up_self]; exact hk), bx_uu]
theorem rX_some {g : Nat → Option Nat} {LP : List Nat} {pr : Nat → Nat → Int32} {X : Nat → Option (Nat → Int32)} {b : Nat} (h : rX g LP pr X) (hb : b < 128) (hn : g b ≠ none) : ∃ (y : Nat) (r : Nat → Int32), g b = some y ∧ y ∈ LP ∧ X b = some r ∧ ∀ i, i < 1024 → pr y i = r i := by
  rcases h.1 b hb with ⟨h1, -⟩ | h1
  · exact absurd h1 hn
  · exact h1
theorem rX_none {g : Nat → Option Nat} {LP : List Nat} {pr : Nat → Nat → Int32} {X : Nat → Option (Nat → Int32)} {b : Nat} (h : rX g LP pr X) (hb : b < 128) (hn : ¬ (g b ≠ none)) : X b = none := by
  rcases h.1 b hb with ⟨-, h1⟩ | ⟨y, r, h1, -⟩
  · exact h1
  · exact absurd (by rw [h1]; exact fun q => by cases q) hn
theorem rX_put {g : Nat → Option Nat} {LP : List Nat} {pr : Nat → Nat → Int32} {X : Nat → Option (Nat → Int32)} {b y : Nat} {r r2 : Nat → Int32} (h : rX g LP pr X) (hb : b < 128) (hy : g b = some y) (hr : ∀ i, i < 1024 → r i = r2 i) : rX g LP (va_up pr y r) (va_up X b (some r2)) := by
  refine ⟨fun c hc => ?_, h.2⟩
  by_cases e : c = b
  · subst e
    refine Or.inr ⟨y, r2, hy, rX_gOK h c y hb hy, va_up_self _ _ _, fun i hi => ?_⟩
    rw [va_up_self]; exact hr i hi
  · rw [va_up_ne _ _ e]
    rcases h.1 c hc with ⟨h1, h2⟩ | ⟨z, q, h1, h2, h3, h4⟩
    · exact Or.inl ⟨h1, h2⟩
    · refine Or.inr ⟨z, q, h1, h2, h3, fun i hi => ?_⟩
      have hz : z ≠ y := fun w => e (h.2 c b y hc hb (by rw [h1, w]) hy)
      rw [va_up_ne _ _ hz]; exact h4 i hi
theorem rX_new {g : Nat → Option Nat} {LP : List Nat} {pr : Nat → Nat → Int32} {X : Nat → Option (Nat → Int32)} {b y : Nat} {r r2 : Nat → Int32} (h : rX g LP pr X) (hb : b < 128) (hy : y ∉ LP) (hr : ∀ i, i < 1024 → r i = r2 i) : rX (va_up g b (some y)) (LP ++ [y]) (va_up pr y r) (va_up X b (some r2)) := by
  have key : ∀ c z, c < 128 → g c = some z → z ≠ y := fun c z hc hz w => hy (by rw [← w]; exact rX_gOK h c z hc hz)
  refine ⟨fun c hc => ?_, fun c d z hc hd h1 h2 => ?_⟩
  · by_cases e : c = b
    · subst e
      exact Or.inr ⟨y, r2, va_up_self _ _ _, List.mem_append.mpr (Or.inr (List.mem_singleton.mpr rfl)), va_up_self _ _ _, fun i hi => by rw [va_up_self]; exact hr i hi⟩
    · rw [va_up_ne _ _ e, va_up_ne _ _ e]
      rcases h.1 c hc with h1 | ⟨z, q, h1, h2, h3, h4⟩
      · exact Or.inl h1
      · exact Or.inr ⟨z, q, h1, List.mem_append.mpr (Or.inl h2), h3, fun i hi => by rw [va_up_ne _ _ (key c z hc h1)]; exact h4 i hi⟩
  · by_cases e : c = b
    · by_cases e2 : d = b
      · rw [e, e2]
      · rw [e, va_up_self] at h1
        rw [va_up_ne _ _ e2] at h2
        cases h1
        exact absurd rfl (key d y hd h2)
    · by_cases e2 : d = b
      · rw [e2, va_up_self] at h2
        rw [va_up_ne _ _ e] at h1
        cases h2
        exact absurd rfl (key c y hc h1)
      · rw [va_up_ne _ _ e] at h1
        rw [va_up_ne _ _ e2] at h2
        exact h.2 c d z hc hd h1 h2
def row_fill (x : Int32) : (Nat → Int32) → Nat → Nat → (Nat → Int32)
  | r, _, 0 => r
  | r, i, n + 1 => row_fill x (upd r i (vp_nar .byte x)) (i + 1) n
def row_pat : (Nat → Int32) → Nat → Nat → Int32 → (Nat → Int32)
  | r, _, 0, _ => r
  | r, i, n + 1, x => row_pat (upd r i (vp_nar .byte (x.toInt8.toInt32))) (i + 1) n (x + Int32.ofInt 7)
theorem upd_agree {r q : Nat → Int32} {i : Nat} {x : Int32} (h : ∀ j, j < 1024 → r j = q j) : ∀ j, j < 1024 → upd r i x j = upd q i x j := by
  intro j hj
  by_cases e : j = i
  · rw [e, pk_us, pk_us]
  · rw [pk_un e, pk_un e]; exact h j hj
theorem row_fill_agree (x : Int32) : ∀ (n i : Nat) (r q : Nat → Int32), (∀ j, j < 1024 → r j = q j) → ∀ j, j < 1024 → row_fill x r i n j = row_fill x q i n j
  | 0, _, _, _, h => h
  | n + 1, i, r, q, h => row_fill_agree x n (i + 1) _ _ (upd_agree h)
theorem row_pat_agree : ∀ (n i : Nat) (x : Int32) (r q : Nat → Int32), (∀ j, j < 1024 → r j = q j) → ∀ j, j < 1024 → row_pat r i n x j = row_pat q i n x j
  | 0, _, _, _, _, h => h
  | n + 1, i, x, r, q, h => row_pat_agree n (i + 1) _ _ _ (upd_agree h)
theorem row_fill_out (x : Int32) : ∀ (n i : Nat) (r : Nat → Int32) (j : Nat), (j < i ∨ i + n ≤ j) → row_fill x r i n j = r j
  | 0, _, _, _, _ => rfl
  | n + 1, i, r, j, h => by rw [row_fill, row_fill_out x n (i + 1) _ j (by omega), pk_un (by omega)]
theorem row_fill_in (x : Int32) : ∀ (n i : Nat) (r : Nat → Int32) (j : Nat), i ≤ j → j < i + n → row_fill x r i n j = vp_nar .byte x
  | 0, _, _, _, h1, h2 => absurd h2 (by omega)
  | n + 1, i, r, j, h1, h2 => by
    rw [row_fill]
    rcases Nat.eq_or_lt_of_le h1 with e | e
    · rw [row_fill_out x n (i + 1) _ j (by omega), ← e, pk_us]
    · exact row_fill_in x n (i + 1) _ j (by omega) (by omega)
def dx_at (X : Nat → Option (Nat → Int32)) (z : Int) (i : Nat) : Int32 := if z < 0 ∨ 128 ≤ z then nI 0 else match X z.toNat with
  | none => nI 0
  | some r => r i &&& nI 255
def dx_put (X : Nat → Option (Nat → Int32)) (z : Int) (i : Nat) (v : Int32) : Nat → Option (Nat → Int32) := if z < 0 ∨ 128 ≤ z then X else match X z.toNat with
  | none => X
  | some r => va_up X z.toNat (some (upd r i (vp_nar .byte (v.toInt8.toInt32))))
def dx_clr (X : Nat → Option (Nat → Int32)) (z : Int) (u v : Nat) : Nat → Option (Nat → Int32) := if z < 0 ∨ 128 ≤ z then X else match X z.toNat with
  | none => X
  | some r => va_up X z.toNat (some (row_fill (nI 0) r u (v - u)))
def dx_pat (X : Nat → Option (Nat → Int32)) (z : Int) (u v : Nat) (x : Int32) : Nat → Option (Nat → Int32) := if z < 0 ∨ 128 ≤ z then X else match X z.toNat with
  | none => X
  | some r => va_up X z.toNat (some (row_pat r u (v - u) x))
theorem db_at_X {g : Nat → Option Nat} {LP : List Nat} {pr : Nat → Nat → Int32} {X : Nat → Option (Nat → Int32)} {z : Int} {i : Nat} (h : rX g LP pr X) (hi : i < 1024) : db_at g pr z i = dx_at X z i := by
  unfold db_at dx_at
  rcases Decidable.em (z < 0 ∨ 128 ≤ z) with q | q
  · rw [if_pos q, if_pos q]
  · rw [if_neg q, if_neg q]
    rcases h.1 z.toNat (by omega) with ⟨h1, h2⟩ | ⟨y, r, h1, h2, h3, h4⟩
    · rw [h1, h2]
    · rw [h1, h3]; show pr y i &&& nI 255 = r i &&& nI 255; rw [h4 i hi]
theorem m_Ar_fill : mS y_Ar_fill (Cond.code y_Ar_fill c_Ar_fill 4 none) 2 := ⟨⟨w_369, w_14, w_370⟩, by decide +kernel⟩
set_option maxHeartbeats 4000000 in
set_option maxRecDepth 100000 in
theorem k_Ar_fill (l : Launch) {D : va_G} {ct : Nat → ClassId} {ad : Nat → Nat} {B : Nat → Int32} {g : Nat → Option Nat} {tk : Nat → Int32} {fr : Int32} {LP : List Nat} {pr : Nat → Nat → Int32} {A : Nat → Prop} {y : Nat} (hyL : y ∈ LP) {x : Int32}  : Met l y_Ar_fill (Cond.code y_Ar_fill c_Ar_fill 4 none :: wA) (rmk 1 0 0) (va_Pc [.ref y, .int x] (cW A D (tyC ct) (wsC ct ad B g tk fr LP pr))) (wQ none A D (wsC ct ad B g tk fr LP (va_up pr y (row_fill x (pr y) 0 1024)))) 0 0 A := by
  refine va_MetF (cc := c_Ar_fill) (maxL := 4) (ret := none) (by decide +kernel) rfl ?_
  intro p e s m args below meth c s₁ B0 hml hv
  obtain ⟨rfl, hA, hP, hD, hK⟩ := hv
  have hS : va_S A s.heap s.heap [] := va_S.rf
  have hx := B0.exec
  have hb := B0.bytes
  have hr := B0.returns
  have hts := fun w (h : w ∈ wA) => atoms_spec (ws := Cond.code y_Ar_fill c_Ar_fill 4 none :: wA) B0.pre w (List.mem_cons_of_mem _ h)
  have hown : s.vm.findClass R_Ar = some m.cls := findClass_of_methodNamed B0.named
  have hlocks := B0.notSynchronized
  have hl := lv_entry ([.ref y, .int x]) (n := 4) (Nat.le_of_ble_eq_true rfl)
  rw [lg_entry_eq]
  generalize (lg_sl ([.ref y, .int x]) ++ List.replicate (4 - (lg_sl ([.ref y, .int x])).length) Slot.unset).toArray = ls at hl ⊢
  have hl : lv_has ls 4 [(0, .ref y), (1, .int x)] := hl
  obtain ⟨k9, hk9⟩ := wsC_row (ct := ct) (ad := ad) (B := B) (g := g) (tk := tk) (fr := fr) (pr := pr) hyL
  refine lv_iconst (v := nI 0) hx hb d_Ar_fill_0 (by decide) ?_
  refine lv_istore_n (lv' := [(2, .int (nI 0)), (0, .ref y), (1, .int x)]) hx hb d_Ar_fill_1 rfl hl (by decide) rfl (fun ls hl => ?_)
  refine lv_aload_n hx hb d_Ar_fill_2 rfl (lv_at hl 1 rfl) ?_
  refine va_alen hx hb hK hP k9 0 hk9 rfl (v := nI 1024) rfl d_Ar_fill_3 ?_
  refine lv_istore_n (lv' := [(3, .int (nI 1024)), (2, .int (nI 0)), (0, .ref y), (1, .int x)]) hx hb d_Ar_fill_4 rfl hl (by decide) rfl (fun ls hl => ?_)
  have loop5 : ∀ (n9 : Nat) (i : Nat) (r : Nat → Int32), 1024 - i < n9 → i ≤ 1024 → row_fill x (pr y) 0 1024 = row_fill x r i (1024 - i) → ∀ (H : Heap) (locs : List Loc), va_P D vwC (wsC ct ad B g tk fr LP (va_up pr y r)) H → va_D A (wsC ct ad B g tk fr LP (va_up pr y r)) → va_S A s.heap H locs → ∀ ls : Array Slot, lv_has ls 4 [(0, .ref y), (1, .int x), (2, .int (nI i)), (3, .int (nI 1024))] → W p l e (headSpec (Cond.code y_Ar_fill c_Ar_fill 4 none :: wA) (rmk 1 0 0)).room s m ([.ref y, .int x] : List Value).toArray below meth c H locs 0 0 (MQ below (wQ none A D (wsC ct ad B g tk fr LP (va_up pr y (row_fill x (pr y) 0 1024)))) ([.ref y, .int x] : List Value).toArray s 0 0 A) (F0 m 5 ls []) := by
    intro n9
    induction n9 with
    | zero => intro i r h8 h9 h10 H locs hP hD hS ls hl; exact absurd h8 (by omega)
    | succ n9 ih =>
      intro i r h8 h9 h10 H locs hP hD hS ls hl
      refine lv_iload_n hx hb d_Ar_fill_5 rfl (lv_at hl 2 rfl) ?_
      refine lv_iload_n hx hb d_Ar_fill_6 rfl (lv_at hl 3 rfl) ?_
      refine ln_icmp_ge (tgt := 20) hx hb (by omega) (by omega) d_Ar_fill_7 (by decide) (fun c_1 => ?_) (fun c_1 => ?_)
      · skip
        have e9 : wsC ct ad B g tk fr LP (va_up pr y r) = wsC ct ad B g tk fr LP (va_up pr y (row_fill x (pr y) 0 1024)) := (by rw [h10, show 1024 - i = 0 by omega]; rfl)
        rw [e9] at hP hD
        exact W.vret hx hb hr (fun t9 ht hW => ⟨rfl, by rw [ht]; exact hP, hD, hS.F ht⟩) hS.2.2 d_Ar_fill_20
      · skip
        obtain ⟨k9, hk9⟩ := wsC_row2 (ct := ct) (ad := ad) (B := B) (g := g) (tk := tk) (fr := fr) (pr := pr) (r := r) hyL
        refine lv_aload_n hx hb d_Ar_fill_10 rfl (lv_at hl 0 rfl) ?_
        refine lv_iload_n hx hb d_Ar_fill_11 rfl (lv_at hl 2 rfl) ?_
        refine lv_iload_n hx hb d_Ar_fill_12 rfl (lv_at hl 1 rfl) ?_
        refine ln_bast hx hb hK hP hD hS k9 0 hk9 rfl (by omega) (by decide) d_Ar_fill_13 (fun H locs hP8 hD8 hS => ?_)
        rw [wsC_set2 hD hyL hk9] at hP8 hD8
        have hP : va_P D vwC (wsC ct ad B g tk fr LP (va_up pr y (upd r i (vp_nar .byte x)))) H := hP8
        have hD : va_D A (wsC ct ad B g tk fr LP (va_up pr y (upd r i (vp_nar .byte x)))) := hD8
        refine lv_iinc (v := nI (i + 1)) (lv' := [(2, .int (nI (i + 1))), (0, .ref y), (1, .int x), (3, .int (nI 1024))]) hx hb d_Ar_fill_14 hl (k := 2) rfl (ln_inc (by decide)) (by decide) rfl (fun ls hl => ?_)
        refine lv_goto (tgt := 5) hx hb d_Ar_fill_17 (by decide) ?_
        exact ih (i + 1) (upd r i (vp_nar .byte x)) (by omega) (by omega) (by rw [h10, show 1024 - i = 1024 - (i + 1) + 1 by omega, row_fill]) _ _ hP hD hS ls (lv_sub hl [1, 2, 0, 3] rfl)
  have hP : va_P D vwC (wsC ct ad B g tk fr LP (va_up pr y (pr y))) s.heap := by rw [va_up_eta]; exact hP
  have hD : va_D A (wsC ct ad B g tk fr LP (va_up pr y (pr y))) := by rw [va_up_eta]; exact hD
  exact loop5 1025 0 (pr y) (by omega) (by omega) rfl _ _ hP hD hS ls (lv_sub hl [2, 3, 1, 0] rfl)
theorem m_Ar_rangeCheck : mS y_Ar_rangeCheck (Cond.code y_Ar_rangeCheck c_Ar_rangeCheck 3 none) 3 := ⟨⟨w_506, w_14, w_507⟩, by decide +kernel⟩
set_option maxHeartbeats 4000000 in
set_option maxRecDepth 100000 in
theorem k_Ar_rangeCheck (l : Launch) {D : va_G} {ct : Nat → ClassId} {ad : Nat → Nat} {B : Nat → Int32} {g : Nat → Option Nat} {tk : Nat → Int32} {fr : Int32} {LP : List Nat} {pr : Nat → Nat → Int32} {A : Nat → Prop} {n : Nat} {u : Nat} {v : Nat} (h0 : u ≤ v) (h1 : v ≤ n) (h2 : n < 2147483648) : Met l y_Ar_rangeCheck (Cond.code y_Ar_rangeCheck c_Ar_rangeCheck 3 none :: wA) (rmk 1 0 0) (va_Pc [.int (nI n), .int (nI u), .int (nI v)] (cW A D (tyC ct) (wsC ct ad B g tk fr LP pr))) (wQ none A D (wsC ct ad B g tk fr LP pr)) 0 0 A := by
  refine va_MetF (cc := c_Ar_rangeCheck) (maxL := 3) (ret := none) (by decide +kernel) rfl ?_
  intro p e s m args below meth c s₁ B0 hml hv
  obtain ⟨rfl, hA, hP, hD, hK⟩ := hv
  have hS : va_S A s.heap s.heap [] := va_S.rf
  have hx := B0.exec
  have hb := B0.bytes
  have hr := B0.returns
  have hts := fun w (h : w ∈ wA) => atoms_spec (ws := Cond.code y_Ar_rangeCheck c_Ar_rangeCheck 3 none :: wA) B0.pre w (List.mem_cons_of_mem _ h)
  have hown : s.vm.findClass R_Ar = some m.cls := findClass_of_methodNamed B0.named
  have hlocks := B0.notSynchronized
  have hl := lv_entry ([.int (nI n), .int (nI u), .int (nI v)]) (n := 3) (Nat.le_of_ble_eq_true rfl)
  rw [lg_entry_eq]
  generalize (lg_sl ([.int (nI n), .int (nI u), .int (nI v)]) ++ List.replicate (3 - (lg_sl ([.int (nI n), .int (nI u), .int (nI v)])).length) Slot.unset).toArray = ls at hl ⊢
  have hl : lv_has ls 3 [(0, .int (nI n)), (1, .int (nI u)), (2, .int (nI v))] := hl
  refine lv_iload_n hx hb d_Ar_rangeCheck_0 rfl (lv_at hl 1 rfl) ?_
  refine lv_iload_n hx hb d_Ar_rangeCheck_1 rfl (lv_at hl 2 rfl) ?_
  refine ln_icmp_le (tgt := 46) hx hb (by omega) (by omega) d_Ar_rangeCheck_2 (by decide) (fun c_1 => ?_) (fun c_1 => ?_)
  · skip
    refine lv_iload_n hx hb d_Ar_rangeCheck_46 rfl (lv_at hl 1 rfl) ?_
    refine ln_if_ge (tgt := 59) hx hb (by omega) d_Ar_rangeCheck_47 (by decide) ?_
    refine lv_iload_n hx hb d_Ar_rangeCheck_59 rfl (lv_at hl 2 rfl) ?_
    refine lv_iload_n hx hb d_Ar_rangeCheck_60 rfl (lv_at hl 0 rfl) ?_
    refine ln_icmp_le (tgt := 73) hx hb (by omega) (by omega) d_Ar_rangeCheck_61 (by decide) (fun c_3 => ?_) (fun c_3 => ?_)
    · skip
      have e9 : wsC ct ad B g tk fr LP pr = wsC ct ad B g tk fr LP pr := rfl
      rw [e9] at hP hD
      exact W.vret hx hb hr (fun t9 ht hW => ⟨rfl, by rw [ht]; exact hP, hD, hS.F ht⟩) hS.2.2 d_Ar_rangeCheck_73
    · exact absurd c_3 (by omega)
  · exact absurd c_1 (by omega)
theorem m_Ar_fill4 : mS y_Ar_fill4 (Cond.code y_Ar_fill4 c_Ar_fill4 5 none) 4 := ⟨⟨w_503, w_14, w_504⟩, by decide +kernel⟩
set_option maxHeartbeats 4000000 in
set_option maxRecDepth 100000 in
theorem k_Ar_fill4 (l : Launch) {D : va_G} {ct : Nat → ClassId} {ad : Nat → Nat} {B : Nat → Int32} {g : Nat → Option Nat} {tk : Nat → Int32} {fr : Int32} {LP : List Nat} {pr : Nat → Nat → Int32} {A : Nat → Prop} {y : Nat} (hyL : y ∈ LP) {u : Nat} {v : Nat} {x : Int32} (h0 : u ≤ v) (h1 : v ≤ 1024) : Met l y_Ar_fill4 (Cond.code y_Ar_fill4 c_Ar_fill4 5 none :: wA) (rmk 2 0 0) (va_Pc [.ref y, .int (nI u), .int (nI v), .int x] (cW A D (tyC ct) (wsC ct ad B g tk fr LP pr))) (wQ none A D (wsC ct ad B g tk fr LP (va_up pr y (row_fill x (pr y) u (v - u))))) 0 0 A := by
  refine va_MetF (cc := c_Ar_fill4) (maxL := 5) (ret := none) (by decide +kernel) rfl ?_
  intro p e s m args below meth c s₁ B0 hml hv
  obtain ⟨rfl, hA, hP, hD, hK⟩ := hv
  have hS : va_S A s.heap s.heap [] := va_S.rf
  have hx := B0.exec
  have hb := B0.bytes
  have hr := B0.returns
  have hts := fun w (h : w ∈ wA) => atoms_spec (ws := Cond.code y_Ar_fill4 c_Ar_fill4 5 none :: wA) B0.pre w (List.mem_cons_of_mem _ h)
  have hown : s.vm.findClass R_Ar = some m.cls := findClass_of_methodNamed B0.named
  have hlocks := B0.notSynchronized
  have hl := lv_entry ([.ref y, .int (nI u), .int (nI v), .int x]) (n := 5) (Nat.le_of_ble_eq_true rfl)
  rw [lg_entry_eq]
  generalize (lg_sl ([.ref y, .int (nI u), .int (nI v), .int x]) ++ List.replicate (5 - (lg_sl ([.ref y, .int (nI u), .int (nI v), .int x])).length) Slot.unset).toArray = ls at hl ⊢
  have hl : lv_has ls 5 [(0, .ref y), (1, .int (nI u)), (2, .int (nI v)), (3, .int x)] := hl
  obtain ⟨k9, hk9⟩ := wsC_row (ct := ct) (ad := ad) (B := B) (g := g) (tk := tk) (fr := fr) (pr := pr) hyL
  refine lv_aload_n hx hb d_Ar_fill4_0 rfl (lv_at hl 0 rfl) ?_
  refine va_alen hx hb hK hP k9 0 hk9 rfl (v := nI 1024) rfl d_Ar_fill4_1 ?_
  refine lv_iload_n hx hb d_Ar_fill4_2 rfl (lv_at hl 1 rfl) ?_
  refine lv_iload_n hx hb d_Ar_fill4_3 rfl (lv_at hl 2 rfl) ?_
  refine wrS ⟨hx, hb, hml, hown, hts⟩ hK hP hD hS hA (k_Ar_rangeCheck l (n := 1024) (u := u) (v := v) (by omega) (by omega) (by omega)) w_505 m_Ar_rangeCheck ⟨by decide, by decide⟩ rfl hl.1 rfl (Nat.le_of_ble_eq_true rfl) d_Ar_fill4_4 ⟨Nat.zero_le _, Nat.zero_le _⟩ (fun H locs hP hD hS => ?_)
  have hP : va_P D vwC (wsC ct ad B g tk fr LP pr) H := hP
  have hD : va_D A (wsC ct ad B g tk fr LP pr) := hD
  refine W.eq (g2 := F0 m 7 ls []) rfl ?_
  refine lv_iload_n hx hb d_Ar_fill4_7 rfl (lv_at hl 1 rfl) ?_
  refine lv_istore (lv' := [(4, .int (nI u)), (0, .ref y), (1, .int (nI u)), (2, .int (nI v)), (3, .int x)]) hx hb d_Ar_fill4_8 hl (by decide) rfl (fun ls hl => ?_)
  have loop10 : ∀ (n9 : Nat) (i : Nat) (r : Nat → Int32), v - i < n9 → i ≤ v → row_fill x (pr y) u (v - u) = row_fill x r i (v - i) → ∀ (H : Heap) (locs : List Loc), va_P D vwC (wsC ct ad B g tk fr LP (va_up pr y r)) H → va_D A (wsC ct ad B g tk fr LP (va_up pr y r)) → va_S A s.heap H locs → ∀ ls : Array Slot, lv_has ls 5 [(0, .ref y), (1, .int (nI u)), (2, .int (nI v)), (3, .int x), (4, .int (nI i))] → W p l e (headSpec (Cond.code y_Ar_fill4 c_Ar_fill4 5 none :: wA) (rmk 2 0 0)).room s m ([.ref y, .int (nI u), .int (nI v), .int x] : List Value).toArray below meth c H locs 0 0 (MQ below (wQ none A D (wsC ct ad B g tk fr LP (va_up pr y (row_fill x (pr y) u (v - u))))) ([.ref y, .int (nI u), .int (nI v), .int x] : List Value).toArray s 0 0 A) (F0 m 10 ls []) := by
    intro n9
    induction n9 with
    | zero => intro i r h8 h9 h10 H locs hP hD hS ls hl; exact absurd h8 (by omega)
    | succ n9 ih =>
      intro i r h8 h9 h10 H locs hP hD hS ls hl
      refine lv_iload hx hb d_Ar_fill4_10 (lv_at hl 4 rfl) ?_
      refine lv_iload_n hx hb d_Ar_fill4_12 rfl (lv_at hl 2 rfl) ?_
      refine ln_icmp_ge (tgt := 27) hx hb (by omega) (by omega) d_Ar_fill4_13 (by decide) (fun c_1 => ?_) (fun c_1 => ?_)
      · skip
        have e9 : wsC ct ad B g tk fr LP (va_up pr y r) = wsC ct ad B g tk fr LP (va_up pr y (row_fill x (pr y) u (v - u))) := (by rw [h10, show v - i = 0 by omega]; rfl)
        rw [e9] at hP hD
        exact W.vret hx hb hr (fun t9 ht hW => ⟨rfl, by rw [ht]; exact hP, hD, hS.F ht⟩) hS.2.2 d_Ar_fill4_27
      · skip
        obtain ⟨k9, hk9⟩ := wsC_row2 (ct := ct) (ad := ad) (B := B) (g := g) (tk := tk) (fr := fr) (pr := pr) (r := r) hyL
        refine lv_aload_n hx hb d_Ar_fill4_16 rfl (lv_at hl 0 rfl) ?_
        refine lv_iload hx hb d_Ar_fill4_17 (lv_at hl 4 rfl) ?_
        refine lv_iload_n hx hb d_Ar_fill4_19 rfl (lv_at hl 3 rfl) ?_
        refine ln_bast hx hb hK hP hD hS k9 0 hk9 rfl (by omega) (by decide) d_Ar_fill4_20 (fun H locs hP8 hD8 hS => ?_)
        rw [wsC_set2 hD hyL hk9] at hP8 hD8
        have hP : va_P D vwC (wsC ct ad B g tk fr LP (va_up pr y (upd r i (vp_nar .byte x)))) H := hP8
        have hD : va_D A (wsC ct ad B g tk fr LP (va_up pr y (upd r i (vp_nar .byte x)))) := hD8
        refine lv_iinc (v := nI (i + 1)) (lv' := [(4, .int (nI (i + 1))), (0, .ref y), (1, .int (nI u)), (2, .int (nI v)), (3, .int x)]) hx hb d_Ar_fill4_21 hl (k := 4) rfl (ln_inc (by decide)) (by decide) rfl (fun ls hl => ?_)
        refine lv_goto (tgt := 10) hx hb d_Ar_fill4_24 (by decide) ?_
        exact ih (i + 1) (upd r i (vp_nar .byte x)) (by omega) (by omega) (by rw [h10, show v - i = v - (i + 1) + 1 by omega, row_fill]) _ _ hP hD hS ls (lv_sub hl [1, 2, 3, 4, 0] rfl)
  have hP : va_P D vwC (wsC ct ad B g tk fr LP (va_up pr y (pr y))) H := by rw [va_up_eta]; exact hP
  have hD : va_D A (wsC ct ad B g tk fr LP (va_up pr y (pr y))) := by rw [va_up_eta]; exact hD
  exact loop10 (v - u + 1) u (pr y) (by omega) (by omega) rfl _ _ hP hD hS ls (lv_sub hl [1, 2, 3, 4, 0] rfl)
