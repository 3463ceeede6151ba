/-! the law's own state, and its calls -/
def wsMS (ct : Nat → ClassId) (am : Nat → Nat) (S : mst) : va_W := wsM ct am (pj_cd S) (pj_dk S) (pj_tk S) (pj_kd S) (pj_lc S) (pj_sz S) (pj_bh S) (pj_wt S) (pj_bl S) (pj_tg S) (pj_fs S)
theorem wsM_ad {ct : Nat → ClassId} {ad : Nat → Nat} {cd : Int32} {dk tk kd lc sz bh wt : Nat → Int32} {bl : Nat → Nat} {tg : Nat → Int32} {fs : Int32} {k : Nat} {q : Nat × va_E} (h : (wsM ct ad cd dk tk kd lc sz bh wt bl tg fs)[k]? = some q) : k < 10 ∧ q.1 = ad k := by
  unfold wsM at h
  match k, h with
  | 0, h => cases h; exact ⟨by omega, rfl⟩
  | 1, h => cases h; exact ⟨by omega, rfl⟩
  | 2, h => cases h; exact ⟨by omega, rfl⟩
  | 3, h => cases h; exact ⟨by omega, rfl⟩
  | 4, h => cases h; exact ⟨by omega, rfl⟩
  | 5, h => cases h; exact ⟨by omega, rfl⟩
  | 6, h => cases h; exact ⟨by omega, rfl⟩
  | 7, h => cases h; exact ⟨by omega, rfl⟩
  | 8, h => cases h; exact ⟨by omega, rfl⟩
  | 9, h => cases h; exact ⟨by omega, rfl⟩
  | k + 10, h => simp at h
theorem wsM_D {A : Nat → Prop} {ct : Nat → ClassId} {am : Nat → Nat} {S : mst} (hi : ∀ i j, i < 10 → j < 10 → am i = am j → i = j) (hA : ∀ i, i < 10 → A (am i)) : va_D A (wsMS ct am S) := by
  refine ⟨fun i j p q h1 h2 he => ?_, fun k q hk => ?_⟩
  · obtain ⟨a1, a2⟩ := wsM_ad h1
    obtain ⟨b1, b2⟩ := wsM_ad h2
    exact hi i j a1 b1 (by rw [← a2, ← b2]; exact he)
  · obtain ⟨a1, a2⟩ := wsM_ad hk
    rw [a2]; exact hA k a1
/-- what stands while the law runs -/
abbrev lF (s : State) (Ac : Nat → Prop) (D : va_G) (ct : Nat → ClassId) (am : Nat → Nat) (ao hd : Nat) : Prop := (eC ct Ac s) ∧ (va_K D vwC (tyA ct) s) ∧ (va_Nc nISE nIAE s) ∧ (va_Nc nIOE nIAE s) ∧ (∀ q, Ac q → s.heap.size ≤ q) ∧ (∀ q, hd ≤ q → Ac q) ∧ (¬ Ac ao) ∧ (∀ i, i < 10 → ¬ Ac (am i)) ∧ (s.heap.size ≤ ao) ∧ (∀ i, i < 10 → s.heap.size ≤ am i) ∧ (∀ i, i < 10 → am i ≠ ao) ∧ (∀ i j, i < 10 → j < 10 → am i = am j → i = j)
theorem lF.hE {s : State} {Ac : Nat → Prop} {D : va_G} {ct : Nat → ClassId} {am : Nat → Nat} {ao hd : Nat} (h : lF s Ac D ct am ao hd) : eC ct Ac s := h.1
theorem lF.hK {s : State} {Ac : Nat → Prop} {D : va_G} {ct : Nat → ClassId} {am : Nat → Nat} {ao hd : Nat} (h : lF s Ac D ct am ao hd) : va_K D vwC (tyA ct) s := h.2.1
theorem lF.hN1 {s : State} {Ac : Nat → Prop} {D : va_G} {ct : Nat → ClassId} {am : Nat → Nat} {ao hd : Nat} (h : lF s Ac D ct am ao hd) : va_Nc nISE nIAE s := h.2.2.1
theorem lF.hN2 {s : State} {Ac : Nat → Prop} {D : va_G} {ct : Nat → ClassId} {am : Nat → Nat} {ao hd : Nat} (h : lF s Ac D ct am ao hd) : va_Nc nIOE nIAE s := h.2.2.2.1
theorem lF.hc {s : State} {Ac : Nat → Prop} {D : va_G} {ct : Nat → ClassId} {am : Nat → Nat} {ao hd : Nat} (h : lF s Ac D ct am ao hd) : ∀ q, Ac q → s.heap.size ≤ q := h.2.2.2.2.1
theorem lF.hn {s : State} {Ac : Nat → Prop} {D : va_G} {ct : Nat → ClassId} {am : Nat → Nat} {ao hd : Nat} (h : lF s Ac D ct am ao hd) : ∀ q, hd ≤ q → Ac q := h.2.2.2.2.2.1
theorem lF.no {s : State} {Ac : Nat → Prop} {D : va_G} {ct : Nat → ClassId} {am : Nat → Nat} {ao hd : Nat} (h : lF s Ac D ct am ao hd) : ¬ Ac ao := h.2.2.2.2.2.2.1
theorem lF.nm {s : State} {Ac : Nat → Prop} {D : va_G} {ct : Nat → ClassId} {am : Nat → Nat} {ao hd : Nat} (h : lF s Ac D ct am ao hd) : ∀ i, i < 10 → ¬ Ac (am i) := h.2.2.2.2.2.2.2.1
theorem lF.go {s : State} {Ac : Nat → Prop} {D : va_G} {ct : Nat → ClassId} {am : Nat → Nat} {ao hd : Nat} (h : lF s Ac D ct am ao hd) : s.heap.size ≤ ao := h.2.2.2.2.2.2.2.2.1
theorem lF.gm {s : State} {Ac : Nat → Prop} {D : va_G} {ct : Nat → ClassId} {am : Nat → Nat} {ao hd : Nat} (h : lF s Ac D ct am ao hd) : ∀ i, i < 10 → s.heap.size ≤ am i := h.2.2.2.2.2.2.2.2.2.1
theorem lF.mo {s : State} {Ac : Nat → Prop} {D : va_G} {ct : Nat → ClassId} {am : Nat → Nat} {ao hd : Nat} (h : lF s Ac D ct am ao hd) : ∀ i, i < 10 → am i ≠ ao := h.2.2.2.2.2.2.2.2.2.2.1
theorem lF.mi {s : State} {Ac : Nat → Prop} {D : va_G} {ct : Nat → ClassId} {am : Nat → Nat} {ao hd : Nat} (h : lF s Ac D ct am ao hd) : ∀ i j, i < 10 → j < 10 → am i = am j → i = j := h.2.2.2.2.2.2.2.2.2.2.2
/-- the law's state -/
abbrev lS (s : State) (Ac : Nat → Prop) (D : va_G) (ct : Nat → ClassId) (ad am : Nat → Nat) (ao hd : Nat) (B : Nat → Int32) (tk : Nat → Int32) (fr : Int32) (X : Nat → Option (Nat → Int32)) (S : mst) (o : Nat → Int64) (H : Heap) (locs : List Loc) : Prop := (cX Ac D ct ad B tk fr X H) ∧ (va_P D vwC (wsMS ct am S) H) ∧ (va_P D vwC (wO ct ao o) H) ∧ (hd ≤ H.size) ∧ (va_S (fun q => s.heap.size ≤ q) s.heap H locs)
theorem lS.hC {s : State} {Ac : Nat → Prop} {D : va_G} {ct : Nat → ClassId} {ad am : Nat → Nat} {ao hd : Nat} {B : Nat → Int32} {tk : Nat → Int32} {fr : Int32} {X : Nat → Option (Nat → Int32)} {S : mst} {o : Nat → Int64} {H : Heap} {locs : List Loc} (h : lS s Ac D ct ad am ao hd B tk fr X S o H locs) : cX Ac D ct ad B tk fr X H := h.1
theorem lS.hM {s : State} {Ac : Nat → Prop} {D : va_G} {ct : Nat → ClassId} {ad am : Nat → Nat} {ao hd : Nat} {B : Nat → Int32} {tk : Nat → Int32} {fr : Int32} {X : Nat → Option (Nat → Int32)} {S : mst} {o : Nat → Int64} {H : Heap} {locs : List Loc} (h : lS s Ac D ct ad am ao hd B tk fr X S o H locs) : va_P D vwC (wsMS ct am S) H := h.2.1
theorem lS.hO {s : State} {Ac : Nat → Prop} {D : va_G} {ct : Nat → ClassId} {ad am : Nat → Nat} {ao hd : Nat} {B : Nat → Int32} {tk : Nat → Int32} {fr : Int32} {X : Nat → Option (Nat → Int32)} {S : mst} {o : Nat → Int64} {H : Heap} {locs : List Loc} (h : lS s Ac D ct ad am ao hd B tk fr X S o H locs) : va_P D vwC (wO ct ao o) H := h.2.2.1
theorem lS.hz {s : State} {Ac : Nat → Prop} {D : va_G} {ct : Nat → ClassId} {ad am : Nat → Nat} {ao hd : Nat} {B : Nat → Int32} {tk : Nat → Int32} {fr : Int32} {X : Nat → Option (Nat → Int32)} {S : mst} {o : Nat → Int64} {H : Heap} {locs : List Loc} (h : lS s Ac D ct ad am ao hd B tk fr X S o H locs) : hd ≤ H.size := h.2.2.2.1
theorem lS.hS {s : State} {Ac : Nat → Prop} {D : va_G} {ct : Nat → ClassId} {ad am : Nat → Nat} {ao hd : Nat} {B : Nat → Int32} {tk : Nat → Int32} {fr : Int32} {X : Nat → Option (Nat → Int32)} {S : mst} {o : Nat → Int64} {H : Heap} {locs : List Loc} (h : lS s Ac D ct ad am ao hd B tk fr X S o H locs) : va_S (fun q => s.heap.size ≤ q) s.heap H locs := h.2.2.2.2
section LR
variable {p : Program} {l : Launch} {e : Env} {R : Room} {s : State} {m : MethodId} {args : Array Value} {below : List Frame} {meth : Method} {c : Code} {H : Heap} {locs : List Loc} {cells slots : Nat} {Q : State → Prop}
variable {cc : ByteArray} {pc : Nat} {ls : Array Slot} {rest st0 : List Value}
variable {D : va_G} {idx maxL nL n k mc ms : Nat} {y : MethodName} {bytes : ByteArray} {ret : Option FieldType} {r : Int32} {v : Option Value} {As : List Value} {Ac : Nat → Prop}
variable {ct : Nat → ClassId} {ad am : Nat → Nat} {B B' : Nat → Int32} {tk tk' : Nat → Int32} {fr fr' : Int32} {X X' : Nat → Option (Nat → Int32)} {S S' : mst} {ao hd : Nat} {o : Nat → Int64}
theorem lS.sc (hF : lF s Ac D ct am ao hd) (hL : lS s Ac D ct ad am ao hd B tk fr X S o H locs) : va_S Ac s.heap H [] := ⟨hL.hS.1, fun q h1 h2 => hL.hS.2.1 q h1 (by omega), fun _ h => by cases h⟩
theorem lS.cs (hF : lF s Ac D ct am ao hd) (hL : lS s Ac D ct ad am ao hd B tk fr X S o H locs) {U : State} (hU : U.heap = H) (hW : s.WarmedH U.vm) : cS Ac D ct ad B tk fr X U := ⟨fun q hq => hF.hn q (Nat.le_trans hL.hz (by rw [← hU]; exact hq)), eC_moved hW (locs := []) (by rw [hU]; exact hL.sc hF) hF.hE, va_K.moved hW.alike (hF.hK.sub [0, 1, 2] rfl), by rw [hU]; exact hL.hC⟩
/-- a wrapper's call -/
theorem lwC (S0 : CallFix p m c cc nL s args wA R_Lw) (hF : lF s Ac D ct am ao hd) (hL : lS s Ac D ct ad am ao hd B tk fr X S o H locs) {code : Nat} {hh : List (Nat × Nat × Nat × Nat)}
    (hM : Met l y (Cond.codeWith y bytes maxL ret hh :: wA) (rmk k mc ms) (va_Pc As (lC Ac D ct ad B tk fr X ao o)) (lQ code r Ac D ct ad B tk fr X ao o B' tk' fr' X') mc ms (aO Ac ao))
    (m1 : Cond.methodLink R_Lw idx y ∈ wA) (hm : (Cond.static y ∈ wA ∧ Cond.initialized y.cls ∈ wA ∧ Cond.codeWith y bytes maxL ret hh ∈ wA) ∧ (y.cls ≠ "java/lang/invoke/MethodHandle" ∧ y.cls ≠ "java/lang/invoke/VarHandle" ∧ (parseMethodDescriptor y.desc).map (fun d => d.parameters.length) = some n)) (hR : 10 * k + 1 ≤ R.frames ∧ 8 + (maxL + 11) + 100 * k ≤ R.locals)
    (hn : As.length = n) (hsz : ls.size = nL) (hst : st0 = As.reverse ++ rest) (hW : (rest.map fun v => v.category).sum ≤ 8) (hdg : decode cc pc = .ok (.invokestatic idx, 3)) (hf : cells + mc ≤ R.cells ∧ slots + ms ≤ R.slots)
    (kk : ∀ (H1 : Heap) (locs1 : List Loc), lS s Ac D ct ad am ao hd (cif code B' B) (cif code tk' tk) (cif code fr' fr) (cif code X' X) S (cif code (vp_updL o 0 r.toInt64) o) H1 locs1 → W p l e R s m args below meth c H1 locs1 (cells + mc) (slots + ms) Q (F0 m (pc + 3) ls (.int (nI code) :: rest))) : W p l e R s m args below meth c H locs cells slots Q (F0 m pc ls st0) := by
  have hr := vx_runSW (As := As) (rest := rest) (H := H) (locs := locs) (cells := cells) (slots := slots) (g := F0 m pc ls st0) (e := e) (below := below) (meth := meth) S0 hM (vx_cwSW n S0.2.2.2.2 (gS m1 hm.1.1 hm.1.2.1 hm.1.2.2) rfl rfl rfl hm.2 hR) ⟨lC_blind, fun U hU hW => ⟨rfl, hL.cs hF hU hW, ⟨hF.no, by rw [hU]; exact hL.hO, va_K.moved hW.alike (hF.hK.sub [4] rfl)⟩, va_Nc.moved hW.alike hF.hN1, va_Nc.moved hW.alike hF.hN2⟩⟩ rfl hn hsz hst (lv_room hW) hdg hf
  intro T hT X0
  obtain ⟨v1, st₀, t, T', L, h0, X', hLf, e1, e2, ⟨hv, hcx, hpo, hz, hk⟩, st⟩ := hr T hT X0
  cases hv
  rw [h0] at hz hk
  have hg : ∀ q, aO Ac ao q → s.heap.size ≤ q := fun q hq => by
    rcases hq with hq | rfl
    · exact hF.hc q hq
    · exact hF.go
  obtain ⟨t2, a1, b1⟩ := kk T'.heap (locs ++ L) ⟨by rw [e1]; exact hcx, by
      rw [e1]
      exact hL.hM.kept (fun k q hq => hk q.1 (vx_lt hL.hM hq) (fun h => by
        obtain ⟨a1, a2⟩ := wsM_ad hq
        rw [a2] at h
        rcases h with h | h
        · exact hF.nm k a1 h
        · exact hF.mo k a1 h)), by rw [e1]; exact hpo, by rw [e1]; exact Nat.le_trans hL.hz hz, ⟨by rw [e1]; exact Nat.le_trans hL.hS.1 hz, fun q h1 h2 => by rw [e1, hk q (Nat.lt_of_lt_of_le h1 hL.hS.1) (fun h => h2 (hg q h))]; exact hL.hS.2.1 q h1 h2, fun q hq => by
      rcases List.mem_append.mp hq with h | h
      · exact hL.hS.2.2 q h
      · exact hg _ (hLf q h)⟩⟩ T' rfl X'
  exact ⟨t2, st t2 a1, b1⟩
/-- a call of the class itself -/
theorem lwX (S0 : CallFix p m c cc nL s args wA R_Lw) (hF : lF s Ac D ct am ao hd) (hL : lS s Ac D ct ad am ao hd B tk fr X S o H locs)
    (hM : Met l y (Cond.code y bytes maxL ret :: wA) (rmk k mc ms) (va_Pc (.ref (ad 0) :: As) (cS Ac D ct ad B tk fr X)) (xQ v Ac D ct ad B' tk' fr' X') mc ms Ac)
    (m1 : Cond.methodLink R_Lw idx y ∈ wA) (hm : mV R_Fb y (Cond.code y bytes maxL ret) n) (hR : 10 * k + 1 ≤ R.frames ∧ 8 + (maxL + 11) + 100 * k ≤ R.locals)
    (hn : As.length = n) (hsz : ls.size = nL) (hst : st0 = As.reverse ++ .ref (ad 0) :: rest) (hW : (rest.map fun v => v.category).sum ≤ 8) (hdg : decode cc pc = .ok (.invokevirtual idx, 3)) (hf : cells + mc ≤ R.cells ∧ slots + ms ≤ R.slots)
    (kk : ∀ (H1 : Heap) (locs1 : List Loc), lS s Ac D ct ad am ao hd B' tk' fr' X' S o H1 locs1 → W p l e R s m args below meth c H1 locs1 (cells + mc) (slots + ms) Q (F0 m (pc + 3) ls (v.toList ++ rest))) : W p l e R s m args below meth c H locs cells slots Q (F0 m pc ls st0) := by
  obtain ⟨⟨m2, m3, m4, m5⟩, hd9⟩ := hm
  obtain ⟨g, LP, pr, hr9, hP, hD⟩ := hL.hC
  have hr := va_runV (As := As) (rest := rest) (H := H) (locs := locs) (cells := cells) (slots := slots) (g := F0 m pc ls st0) (e := e) (below := below) (meth := meth) S0 hM (cwV n S0.2.2.2.2 (gV m1 m2 m3 m4 m5) rfl rfl rfl hd9 hR) ⟨cS_blind, va_recv hF.hK hP (ci := 5) (q0 := 0) rfl rfl, fun U hU hW => ⟨rfl, hL.cs hF hU hW⟩⟩ rfl hn hsz hst (lv_room hW) hdg hf
  intro T hT X0
  obtain ⟨v1, st₀, t, T', L, h0, X', hLf, e1, e2, ⟨hv, hcx, hz, hk⟩, st⟩ := hr T hT X0
  cases hv
  rw [h0] at hz hk
  obtain ⟨t2, a1, b1⟩ := kk T'.heap (locs ++ L) ⟨by rw [e1]; exact hcx, by
      rw [e1]
      exact hL.hM.kept (fun k q hq => hk q.1 (vx_lt hL.hM hq) (fun h => by
        obtain ⟨a1, a2⟩ := wsM_ad hq
        rw [a2] at h
        exact hF.nm k a1 h)), by rw [e1]; exact wO_kept hL.hO (hk ao (wO_lt hL.hO) hF.no), by rw [e1]; exact Nat.le_trans hL.hz hz, ⟨by rw [e1]; exact Nat.le_trans hL.hS.1 hz, fun q h1 h2 => by rw [e1, hk q (Nat.lt_of_lt_of_le h1 hL.hS.1) (fun h => h2 (hF.hc q h))]; exact hL.hS.2.1 q h1 h2, fun q hq => by
      rcases List.mem_append.mp hq with h | h
      · exact hL.hS.2.2 q h
      · exact hF.hc _ (hLf q h)⟩⟩ T' rfl X'
  exact ⟨t2, st t2 a1, b1⟩
/-- a call of the reference -/
theorem lwM (S0 : CallFix p m c cc nL s args wA R_Lw) (hF : lF s Ac D ct am ao hd) (hL : lS s Ac D ct ad am ao hd B tk fr X S o H locs)
    (hM : ∀ A' : Nat → Prop, Met l y (Cond.code y bytes maxL ret :: wA) (rmk k 0 0) (va_Pc (.ref (am 0) :: As) (cW A' D (tyM ct) (wsMS ct am S))) (wQ v A' D (wsMS ct am S')) 0 0 A')
    (m1 : Cond.methodLink R_Lw idx y ∈ wA) (hm : mV R_Mo y (Cond.code y bytes maxL ret) n) (hR : 10 * k + 1 ≤ R.frames ∧ 8 + (maxL + 11) + 100 * k ≤ R.locals)
    (hn : As.length = n) (hsz : ls.size = nL) (hst : st0 = As.reverse ++ .ref (am 0) :: rest) (hW : (rest.map fun v => v.category).sum ≤ 8) (hdg : decode cc pc = .ok (.invokevirtual idx, 3)) (hf : cells ≤ R.cells ∧ slots ≤ R.slots)
    (kk : ∀ (H1 : Heap) (locs1 : List Loc), lS s Ac D ct ad am ao hd B tk fr X S' o H1 locs1 → W p l e R s m args below meth c H1 locs1 cells slots Q (F0 m (pc + 3) ls (v.toList ++ rest))) : W p l e R s m args below meth c H locs cells slots Q (F0 m pc ls st0) := by
  obtain ⟨⟨m2, m3, m4, m5⟩, hd9⟩ := hm
  have hr := va_runV (As := As) (rest := rest) (H := H) (locs := locs) (cells := cells) (slots := slots) (g := F0 m pc ls st0) (e := e) (below := below) (meth := meth) S0 (hM (fun q => (∃ i, i < 10 ∧ q = am i) ∨ H.size ≤ q)) (cwV n S0.2.2.2.2 (gV m1 m2 m3 m4 m5) rfl rfl rfl hd9 hR) ⟨cW_blind, va_recv hF.hK hL.hM (ci := 6) (q0 := 0) rfl rfl, fun U hU hW => ⟨rfl, fun q hq => Or.inr (by rw [hU] at hq; exact hq), by rw [hU]; exact hL.hM, wsM_D hF.mi (fun i hi => Or.inl ⟨i, hi, rfl⟩), va_K.moved hW.alike (hF.hK.sub [0, 1, 3] rfl)⟩⟩ rfl hn hsz hst (lv_room hW) hdg hf
  intro T hT X0
  obtain ⟨v1, st₀, t, T', L, h0, X', hLf, e1, e2, ⟨hv, hp, hd, hz, hk⟩, st⟩ := hr T hT X0
  cases hv
  rw [h0] at hz hk
  have hg : ∀ q, ((∃ i, i < 10 ∧ q = am i) ∨ H.size ≤ q) → s.heap.size ≤ q := fun q hq => by
    rcases hq with ⟨i, hi, rfl⟩ | hq
    · exact hF.gm i hi
    · exact Nat.le_trans hL.hS.1 hq
  obtain ⟨t2, a1, b1⟩ := kk T'.heap (locs ++ L) ⟨by
      rw [e1]
      exact cX_kept hL.hC (fun q hq hA => hk q hq (fun h => by
        rcases h with ⟨i, hi, rfl⟩ | h
        · exact hF.nm i hi hA
        · omega)), by rw [e1]; exact hp, by
      rw [e1]
      exact wO_kept hL.hO (hk ao (wO_lt hL.hO) (fun h => by
        rcases h with ⟨i, hi, h⟩ | h
        · exact hF.mo i hi h.symm
        · have := wO_lt hL.hO; omega)), by rw [e1]; exact Nat.le_trans hL.hz hz, ⟨by rw [e1]; exact Nat.le_trans hL.hS.1 hz, fun q h1 h2 => by rw [e1, hk q (Nat.lt_of_lt_of_le h1 hL.hS.1) (fun h => h2 (hg q h))]; exact hL.hS.2.1 q h1 h2, fun q hq => by
      rcases List.mem_append.mp hq with h | h
      · exact hL.hS.2.2 q h
      · exact hg _ (hLf q h)⟩⟩ T' rfl X'
  exact ⟨t2, st t2 a1, b1⟩
/-- script[j] -/
theorem lwS (hx : p.tables.exec = Jvm.exec) (hb : c.code = cc) {b L : Nat} {xs : Nat → Int32} (hX : va_X b L xs s s.heap) (hbl : b < s.heap.size) (hL : lS s Ac D ct ad am ao hd B tk fr X S o H locs) {j : Nat} (hj : j < L) (hL2 : L < 2 ^ 31) (hdg : decode cc pc = .ok (.iaload, 1))
    (kk : W p l e R s m args below meth c H locs cells slots Q (F0 m (pc + 1) ls (.int (xs j) :: rest))) : W p l e R s m args below meth c H locs cells slots Q (F0 m pc ls (.int (nI j) :: .ref b :: rest)) :=
  va_sld hx hb hX hbl (A := fun q => s.heap.size ≤ q) (by omega) hL.hS (vp_in_nI hj hL2) hdg (by rw [nI_clamp (by omega)]; exact kk)
end LR
