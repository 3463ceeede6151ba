/-! throwing -/
def nIAE : String := "java/lang/IllegalArgumentException"
def nISE : String := "java/lang/IllegalStateException"
def nIOE : String := "java/lang/IndexOutOfBoundsException"
abbrev ups : List String := ["java/lang/RuntimeException", "java/lang/Exception"]
def kF (st t : State) : Prop := st.heap.size ≤ t.heap.size ∧ ∀ q : Nat, q < st.heap.size → t.heap[q]? = st.heap[q]?
/-- what a throw of the class E at the entries ik, ic needs of the words -/
def atOK (ik ic : Nat) (E : String) : Prop := (Cond.classLink R_Fb ik E ∈ wA ∧ Cond.initialized E ∈ wA ∧ Bundle.fit E = true) ∧ (vx_atS R_Fb ic E ups).all (fun w => decide (w ∈ lw_tbl) && (goodWord w || (w.onTables && w.keepsFace))) = true ∧ ∀ w ∈ Cond.classLink R_Fb ik E :: Cond.initialized E :: vx_atS R_Fb ic E ups, vx_ot w = true
theorem at_words {L : List Cond} {args : Array Value} {s : State} (h : L.all (fun w => decide (w ∈ lw_tbl) && (goodWord w || (w.onTables && w.keepsFace))) = true) (h1 : ∀ w ∈ wA, w.before args s = true) (h2 : ∀ w ∈ wF, w.before #[] s = true) : ∀ w ∈ L, w.before args s = true := by
  intro w hw
  have h3 := List.all_eq_true.mp h w hw
  simp only [Bool.and_eq_true, Bool.or_eq_true, decide_eq_true_eq] at h3
  rcases h3.2 with q | q
  · exact h1 w (List.mem_filter.mpr ⟨h3.1, q⟩)
  · exact va_any q.1 (h2 w (List.mem_filter.mpr ⟨h3.1, by simp only [Bool.and_eq_true]; exact q⟩))
def ckQ (P : Prop) : Array Value → State → Outcome → State → Prop := fun _ st o t => P ∧ o = .returned none ∧ t.heap = st.heap
def ckX (P : Prop) (E0 : String) : String → State → State → Prop := fun E st t => ¬ P ∧ E = E0 ∧ kF st t
section RWT
variable {p : Program} {l : Launch} {e : Env} {R : Room} {s : State} {m : MethodId} {args : Array Value} {below : List Frame} {meth : Method} {c : Code} {H : Heap} {locs : List Loc} {cells slots : Nat} {Q : State → Prop}
variable {cc : ByteArray} {pc : Nat} {ls : Array Slot} {rest st0 : List Value}
variable {D : va_G} {own C : String} {T : u_T} {N ci idx maxL nL n k mc ms : Nat} {y : MethodName} {bytes : ByteArray} {ret : Option FieldType} {r : Int32} {v : Option Value} {b : Nat} {As : List Value} {fs : List Value} {A : Nat → Prop}
variable {ct : Nat → ClassId} {ad : Nat → Nat} {B : Nat → Int32} {tk : Nat → Int32} {fr : Int32} {X : Nat → Option (Nat → Int32)} {g : Nat → Option Nat} {LP : List Nat} {pr : Nat → Nat → Int32}
variable {Qc : Array Value → State → Outcome → State → Prop} {XC : String → State → State → Prop}
theorem thFb (hx : p.tables.exec = Jvm.exec) (hb : c.code = cc) (hl9 : l.stackTraces = false) {E text : String} {ik is ic : Nat} (ha : atOK ik ic E) (htx : (is, text) ∈ strs) (hown : s.vm.findClass R_Fb = some m.cls) (hts : ∀ w ∈ wA, w.before args s = true) (hE : eC ct A s) (hS : va_S A s.heap H locs) (hH : H = s.heap) (hsize : ls.size = c.maxLocals)
    (d0 : decode cc pc = .ok (.new ik, 3)) (d3 : decode cc (pc + 3) = .ok (.dup, 1)) (d4 : decode cc (pc + 4) = .ok (.ldc is, 2)) (d6 : decode cc (pc + 6) = .ok (.invokespecial ic, 3)) (d9 : decode cc (pc + 9) = .ok (.athrow, 1))
    (ht : ∀ x ∈ c.exceptionTable.toList, False) (hRf : 6 ≤ R.frames) (hRl : (rest.map fun v => v.category).sum + 82 ≤ R.locals) (hRc : cells + 1 ≤ R.cells) (hRs : slots + 6 ≤ R.slots) (hlocks : meth.locks = false)
    (hx9 : ∀ t : State, kF s t → XC E s t) (hc : cells + 1 ≤ mc) (hs : slots + 6 ≤ ms) :
    W p l e R s m args below meth c H locs cells slots (vx_MQ below Qc XC args s mc ms A) (F0 m pc ls rest) := by
  obtain ⟨⟨h1, h2, h3⟩, h4, h5⟩ := ha
  obtain ⟨-, hF, hU, hN, hst⟩ := hE
  obtain ⟨sa, hsa⟩ := hst _ htx
  exact vx_throwS (names := ups) hx hb hl9 hown h3 (by decide +kernel) (hts _ h1) (hts _ h2) hsa (at_words h4 hts hF) h5 hU hN hS hsize d0 d3 d4 d6 d9 (fun x hx => (ht x hx).elim) hRf hRl hRc hRs hlocks (fun t hal hz hk => hx9 t ⟨by rw [← hH]; exact hz, fun q hq => by rw [← hH] at hq ⊢; exact hk q hq⟩) hS.2.2 hc hs
/-- a call that only looks, and throws where P doesn't hold -/
theorem ckV (S : CallFix p m c cc nL s args wA own) (hE : eC ct A s) (hK : va_K D vwC (tyC ct) s) (hr : rX g LP pr X) (hP : va_P D vwC (wsC ct ad B g tk fr LP pr) H) (hD : va_D A (wsC ct ad B g tk fr LP pr)) (hS : va_S A s.heap H locs) (hA : ∀ q : Nat, s.heap.size ≤ q → A q) (hH : H = s.heap)
    {P : Prop} {E0 : String} {mc0 ms0 : Nat} (hM : vx_Met l y (Cond.code y bytes maxL ret :: wA) (rmk k mc0 ms0) (va_Pc (.ref b :: As) (cS A D ct ad B tk fr X)) (ckQ P) (ckX P E0) mc0 ms0 A)
    (m1 : Cond.methodLink own idx y ∈ wA) (hm : mV C y (Cond.code y bytes maxL ret) n) (hR : 10 * k + 1 ≤ R.frames ∧ 8 + (maxL + 11) + 100 * k ≤ R.locals)
    (q0 : Nat) (he : (wsC ct ad B g tk fr LP pr)[q0]? = some (b, .inr (ci, fs))) (hc : vwC[ci]? = some (C, T, N)) (hn : As.length = n) (hsz : ls.size = nL) (hst : st0 = As.reverse ++ .ref b :: rest) (hW : (rest.map fun v => v.category).sum ≤ 8)
    (hdg : decode cc pc = .ok (.invokevirtual idx, 3)) (hf : cells + mc0 ≤ R.cells ∧ slots + ms0 ≤ R.slots) (ht : ∀ x ∈ c.exceptionTable.toList, False) (hlocks : meth.locks = false)
    (hthr : ¬ P → ∀ t : State, kF s t → XC E0 s t) (hmc : cells + mc0 ≤ mc) (hms : slots + ms0 ≤ ms)
    (kk : P → ∀ locs1 : List Loc, va_S A s.heap H locs1 → W p l e R s m args below meth c H locs1 (cells + mc0) (slots + ms0) (vx_MQ below Qc XC args s mc ms A) (F0 m (pc + 3) ls rest)) : W p l e R s m args below meth c H locs cells slots (vx_MQ below Qc XC args s mc ms A) (F0 m pc ls st0) := by
  obtain ⟨⟨m2, m3, m4, m5⟩, hd⟩ := hm
  have hrun := vx_runV (As := As) (rest := rest) (H := H) (locs := locs) (cells := cells) (slots := slots) (g := F0 m pc ls st0) (e := e) (below := below) (meth := meth) S hM (cwV n S.2.2.2.2 (gV m1 m2 m3 m4 m5) rfl rfl rfl hd hR) ⟨cS_blind, va_recv hK hP (ci := ci) (q0 := q0) hc he, fun U hU hW => ⟨rfl, fun q hq => hA q (by rw [hU] at hq; exact Nat.le_trans hS.1 hq), eC_moved hW (by rw [hU]; exact hS) hE, va_K.moved hW.alike hK, g, LP, pr, hr, by rw [hU]; exact hP, hD⟩⟩ rfl hn hsz hst (lv_room hW) hdg hf
  intro T hT X0
  rcases hrun T hT X0 with ⟨v1, st₀, t, T', L, h0, X', hL, e1, e2, ⟨hp, hv, hh⟩, st⟩ | ⟨q, st₀, t, T', L, E, ce, h0, X', hL, e1, e2, ⟨hnp, hEE, hkF⟩, hce, hcv, hcl, st⟩
  · cases hv
    obtain ⟨t2, a1, b1⟩ := kk hp (locs ++ L) ⟨hS.1, hS.2.1, fun q hq => by
      rcases List.mem_append.mp hq with h | h
      · exact hS.2.2 q h
      · exact hL q h⟩ T' (by rw [e1, hh, h0]) X'
    exact ⟨t2, st t2 a1, b1⟩
  · subst hEE
    have hw : vx_W p l e R s m args below meth c T'.heap (locs ++ L) (cells + mc0) (slots + ms0) (vx_MQ below Qc XC args s mc ms A) (F0 m pc ls rest) q := vx_out (fun x hx => (ht x hx).elim) hlocks (by rw [e1]; exact hce) hcv hcl (fun t9 h9 _ => hthr hnp t9 ⟨by rw [h9, e1, ← hH, ← h0]; exact hkF.1, fun z hz => by rw [h9, e1, hkF.2 z (by rw [h0, hH]; exact hz), h0, hH]⟩) (fun z hz => by
      rcases List.mem_append.mp hz with h | h
      · exact hS.2.2 z h
      · exact hL z h) hmc hms
    obtain ⟨t2, a1, b1⟩ := hw T' rfl X'
    exact ⟨t2, st.trans a1, b1⟩
/-- the end of a public method: its code, its answer, the state behind it -/
def tQ (code : Nat) (v : Option Value) (A : Nat → Prop) (D : va_G) (ct : Nat → ClassId) (ad : Nat → Nat) (B : Nat → Int32) (tk : Nat → Int32) (fr : Int32) (X : Nat → Option (Nat → Int32)) : Array Value → State → Outcome → State → Prop := fun a st oc t => code = 0 ∧ xQ v A D ct ad B tk fr X a st oc t
def tX (code : Nat) (E1 E2 : String) : String → State → State → Prop := fun E st t => ((code = 1 ∧ E = E1) ∨ (code = 2 ∧ E = E2)) ∧ kF st t
end RWT
set_option maxRecDepth 100000 in
theorem at_IAE : atOK 50 54 nIAE := ⟨⟨wA_t 208 (by decide +kernel) (by decide +kernel), wA_t 11 (by decide +kernel) (by decide +kernel), by decide +kernel⟩, by decide +kernel, by decide +kernel⟩
set_option maxRecDepth 100000 in
theorem at_ISE : atOK 61 65 nISE := ⟨⟨wA_t 284 (by decide +kernel) (by decide +kernel), wA_t 12 (by decide +kernel) (by decide +kernel), by decide +kernel⟩, by decide +kernel, by decide +kernel⟩
set_option maxRecDepth 100000 in
theorem at_IOE : atOK 112 116 nIOE := ⟨⟨wA_t 457 (by decide +kernel) (by decide +kernel), wA_t 15 (by decide +kernel) (by decide +kernel), by decide +kernel⟩, by decide +kernel, by decide +kernel⟩
