/-! Front and Records: what is read -/
/-- the number in n bytes from a on, lowest first -/
def fr_num (B : Nat → Int32) : Nat → Nat → Int32
  | _, 0 => 0
  | a, n + 1 => (fr_num B (a + 1) n <<< (nI 8 &&& 31)) ||| (B a &&& nI 255)
theorem i_sub1 {j : Nat} (h : j < 2 ^ 30) : (nI j - nI 1).toInt = (j : Int) - 1 := pk_sub_toInt h (by decide)
theorem i_of {x : Int32} {j : Nat} (h : x.toInt = (j : Int)) (hj : j < 2 ^ 31) : x = nI j := Int32.toInt_inj.mp (by rw [h, nI_toInt hj])
theorem i_dec {j : Nat} (h : j < 2 ^ 30) : (nI j + Int32.ofInt (-1)).toInt = (j : Int) - 1 := by
  have e : nI j + Int32.ofInt (-1) = nI j - nI 1 := by rw [Int32.sub_eq_add_neg]; rfl
  rw [e]; exact i_sub1 h
theorem m_Fr_number : mV R_Fr y_Fr_number (Cond.code y_Fr_number c_Fr_number 5 (some .int)) 2 := ⟨⟨w_125, w_126, w_2, w_127⟩, by decide +kernel⟩
set_option maxHeartbeats 4000000 in
set_option maxRecDepth 100000 in
theorem k_Fr_number (l : Launch) {D : va_G} {ct : Nat → ClassId} {ad : Nat → Nat} {B : Nat → Int32} {g : Nat → Option Nat} {tk : Nat → Int32} {fr : Int32} {LP : List Nat} {pr : Nat → Nat → Int32} {a : Nat} {n : Nat} (h0 : a + n ≤ 4096) (h1 : 0 < n) : Met l y_Fr_number (Cond.code y_Fr_number c_Fr_number 5 (some .int) :: wA) (rmk 1 0 0) (va_Pc [.ref (ad 3), .int (nI a), .int (nI n)] (cR D (tyC ct) (wsC ct ad B g tk fr LP pr))) (QcRead (fr_num B a n)) 0 0 (fun _ => False) := by
  refine Met.ofW (cc := c_Fr_number) (maxL := 5) (ret := (some .int)) (by decide +kernel) rfl ?_
  intro p e s m args below meth c s₁ B0 hml hv
  obtain ⟨rfl, hP, hK⟩ := hv
  have hx := B0.exec
  have hb := B0.bytes
  have hr := B0.returns
  have hts := fun w (h : w ∈ wA) => atoms_spec (ws := Cond.code y_Fr_number c_Fr_number 5 (some .int) :: wA) B0.pre w (List.mem_cons_of_mem _ h)
  have hown : s.vm.findClass R_Fr = some m.cls := findClass_of_methodNamed B0.named
  have hlocks := B0.notSynchronized
  have hl := lv_entry ([.ref (ad 3), .int (nI a), .int (nI n)]) (n := 5) (Nat.le_of_ble_eq_true rfl)
  rw [lg_entry_eq]
  generalize (lg_sl ([.ref (ad 3), .int (nI a), .int (nI n)]) ++ List.replicate (5 - (lg_sl ([.ref (ad 3), .int (nI a), .int (nI n)])).length) Slot.unset).toArray = ls at hl ⊢
  have hl : lv_has ls 5 [(0, .ref (ad 3)), (1, .int (nI a)), (2, .int (nI n))] := hl
  refine lv_iconst (v := nI 0) hx hb d_Fr_number_0 (by decide) ?_
  refine lv_istore_n (lv' := [(3, .int (nI 0)), (0, .ref (ad 3)), (1, .int (nI a)), (2, .int (nI n))]) hx hb d_Fr_number_1 rfl hl (by decide) rfl (fun ls hl => ?_)
  refine lv_iload_n hx hb d_Fr_number_2 rfl (lv_at hl 2 rfl) ?_
  refine lv_iload_n hx hb d_Fr_number_3 rfl (lv_at hl 3 rfl) ?_
  refine ln_iadd hx hb d_Fr_number_4 ?_
  refine lv_iconst (v := nI 1) hx hb d_Fr_number_5 (by decide) ?_
  refine lv_isub hx hb d_Fr_number_6 ?_
  refine lv_istore (lv' := [(4, .int ((nI (a + n)) - (nI 1))), (3, .int (nI 0)), (0, .ref (ad 3)), (1, .int (nI a)), (2, .int (nI n))]) hx hb d_Fr_number_7 hl (by decide) rfl (fun ls hl => ?_)
  have loop9 : ∀ (n9 : Nat) (j : Nat) (i : Int32) (v : Int32), j - a < n9 → a ≤ j → j ≤ a + n → i.toInt = (j : Int) - 1 → v = fr_num B j (a + n - j) → ∀ ls : Array Slot, lv_has ls 5 [(0, .ref (ad 3)), (1, .int (nI a)), (2, .int (nI n)), (3, .int v), (4, .int i)] → W p l e (headSpec (Cond.code y_Fr_number c_Fr_number 5 (some .int) :: wA) (rmk 1 0 0)).room s m ([.ref (ad 3), .int (nI a), .int (nI n)] : List Value).toArray below meth c s.heap [] 0 0 (MQ below (QcRead (fr_num B a n)) ([.ref (ad 3), .int (nI a), .int (nI n)] : List Value).toArray s 0 0 (fun _ => False)) (F0 m 9 ls []) := by
    intro n9
    induction n9 with
    | zero => intro j i v h8 h9 h10 hi hv9 ls hl; exact absurd h8 (by omega)
    | succ n9 ih =>
      intro j i v h8 h9 h10 hi hv9 ls hl
      refine lv_iload hx hb d_Fr_number_9 (lv_at hl 4 rfl) ?_
      refine lv_iload_n hx hb d_Fr_number_11 rfl (lv_at hl 1 rfl) ?_
      refine lv_icmp_lt (tgt := 53) hx hb d_Fr_number_12 (by decide) (fun c_1 => ?_) (fun c_1 => ?_)
      · skip
        refine lv_iload_n hx hb d_Fr_number_53 rfl (lv_at hl 3 rfl) ?_
        exact W.iret (v := v) hx hb hr (fun t9 ht hW => ⟨congrArg (fun z => Outcome.returned (some (Value.int z))) (show v = (fr_num B a n) from (by rw [hv9]; have q := Int32.lt_iff_toInt_lt.mp c_1; rw [hi, nI_toInt (by omega)] at q; rw [show j = a by omega, show a + n - a = n by omega])), ht⟩) (fun q h => nomatch h) d_Fr_number_54
      · skip
        have hj : ∃ j9, j = a + j9 + 1 := ⟨j - a - 1, by rw [Int32.lt_iff_toInt_lt, hi, nI_toInt (by omega)] at c_1; omega⟩
        obtain ⟨j9, rfl⟩ := hj
        obtain rfl : i = nI (a + j9) := i_of (by rw [hi]; omega) (by omega)
        refine lv_iload hx hb d_Fr_number_15 (lv_at hl 4 rfl) ?_
        refine ln_if_lt (tgt := 47) hx hb (by omega) d_Fr_number_17 (by decide) ?_
        refine lv_iload hx hb d_Fr_number_20 (lv_at hl 4 rfl) ?_
        refine lv_aload_n hx hb d_Fr_number_22 rfl (lv_at hl 0 rfl) ?_
        refine va_get (D := D) (ci := 2) (v := .ref (ad 6)) (C := R_Fr) (T := T_Fr) (N := 1) hx hb hts u_Fr hown hK hP 3 rfl rfl 0 (by decide) (hts _ w_40) (fun _ h9 => h9) rfl d_Fr_number_23 ?_
        refine va_alen hx hb hK hP 6 0 rfl rfl (v := nI 4096) rfl d_Fr_number_26 ?_
        refine ln_icmp_ge (tgt := 47) hx hb (by omega) (by omega) d_Fr_number_27 (by decide) (fun c_3 => ?_) (fun c_3 => ?_)
        · exact absurd c_3 (by omega)
        · skip
          refine lv_iload_n hx hb d_Fr_number_30 rfl (lv_at hl 3 rfl) ?_
          refine lv_bipush (v := nI 8) hx hb d_Fr_number_31 (by decide) ?_
          refine lv_ishl hx hb d_Fr_number_33 ?_
          refine lv_aload_n hx hb d_Fr_number_34 rfl (lv_at hl 0 rfl) ?_
          refine va_get (D := D) (ci := 2) (v := .ref (ad 6)) (C := R_Fr) (T := T_Fr) (N := 1) hx hb hts u_Fr hown hK hP 3 rfl rfl 0 (by decide) (hts _ w_40) (fun _ h9 => h9) rfl d_Fr_number_35 ?_
          refine lv_iload hx hb d_Fr_number_38 (lv_at hl 4 rfl) ?_
          refine ln_bald hx hb hK hP 6 0 rfl rfl (by omega) (by decide) d_Fr_number_40 ?_
          refine lv_sipush (v := nI 255) hx hb d_Fr_number_41 (by decide) ?_
          refine lv_iand hx hb d_Fr_number_44 ?_
          refine lv_ior hx hb d_Fr_number_45 ?_
          refine lv_istore_n (lv' := [(3, .int ((v <<< ((nI 8) &&& 31)) ||| ((B (a + j9)) &&& (nI 255)))), (0, .ref (ad 3)), (1, .int (nI a)), (2, .int (nI n)), (4, .int (nI (a + j9)))]) hx hb d_Fr_number_46 rfl hl (by decide) rfl (fun ls hl => ?_)
          have z_4 : ((nI (a + j9)) + Int32.ofInt (-1)).toInt = ((a + j9 : Nat) : Int) + (-1) := z_add (nI_toInt (by omega)) (by decide) (by omega) (by omega)
          refine lv_iinc (v := (nI (a + j9)) + Int32.ofInt (-1)) (lv' := [(4, .int ((nI (a + j9)) + Int32.ofInt (-1))), (3, .int ((v <<< ((nI 8) &&& 31)) ||| ((B (a + j9)) &&& (nI 255)))), (0, .ref (ad 3)), (1, .int (nI a)), (2, .int (nI n))]) hx hb d_Fr_number_47 hl (k := 4) rfl (rfl) (by decide) rfl (fun ls hl => ?_)
          refine lv_goto (tgt := 9) hx hb d_Fr_number_50 (by decide) ?_
          exact ih (a + j9) ((nI (a + j9)) + Int32.ofInt (-1)) ((v <<< ((nI 8) &&& 31)) ||| ((B (a + j9)) &&& (nI 255))) (by omega) (by omega) (by omega) (i_dec (by omega)) (by rw [hv9, show a + n - (a + j9) = (a + n - (a + j9 + 1)) + 1 by omega, fr_num]) ls (lv_sub hl [2, 3, 4, 1, 0] rfl)
  exact loop9 (n + 1) (a + n) (nI (a + n) - nI 1) (nI 0) (by omega) (by omega) (by omega) (i_sub1 (by omega)) (by rw [Nat.sub_self]; rfl) ls (lv_sub hl [2, 3, 4, 1, 0] rfl)
