/-! rooms, worlds, words: what every contract here is said in -/
def rmk (k mc ms : Nat) : Room := { frames := 10 * k, cells := mc, slots := ms, locals := 100 * k }
/-- a reader's world -/
def cR (D : va_G) (tys : List (ClassId × FieldType)) (ws : va_W) (U : State) : Prop := va_P D vwC ws U.heap ∧ va_K D vwC tys U
/-- a writer's world: A says which cells may change -/
def cW (A : Nat → Prop) (D : va_G) (tys : List (ClassId × FieldType)) (ws : va_W) (U : State) : Prop := (∀ q : Nat, U.heap.size ≤ q → A q) ∧ va_P D vwC ws U.heap ∧ va_D A ws ∧ va_K D vwC tys U
theorem cR_blind {D : va_G} {tys : List (ClassId × FieldType)} {ws : va_W} {av : List Value} : FrameBlind (va_Pc av (cR D tys ws)) := fun a U g mk q => ⟨q.1, q.2.1, va_K.moved (u := U) (U := U.calling g mk a) (Vm.Alike.refl U.vm) q.2.2⟩
theorem cW_blind {A : Nat → Prop} {D : va_G} {tys : List (ClassId × FieldType)} {ws : va_W} {av : List Value} : FrameBlind (va_Pc av (cW A D tys ws)) := fun a U g mk q => ⟨q.1, q.2.1, q.2.2.1, q.2.2.2.1, va_K.moved (u := U) (U := U.calling g mk a) (Vm.Alike.refl U.vm) q.2.2.2.2⟩
theorem gV {own C : String} {idx : Nat} {y : MethodName} {cw : Cond} (m1 : Cond.methodLink own idx y ∈ wA) (m2 : Cond.instanceMethod y ∈ wA) (m3 : Cond.selects C y y ∈ wA) (m4 : Cond.initialized C ∈ wA) (m5 : cw ∈ wA) : GoodIn wA (wsV own idx C y (cw :: wA)) := by
  intro w hw
  have h : w ∈ wA := by
    unfold wsV at hw
    simp only [List.mem_append, List.mem_cons, List.not_mem_nil, or_false] at hw
    rcases hw with (rfl | rfl | rfl | rfl) | rfl | h
    · exact m1
    · exact m2
    · exact m3
    · exact m4
    · exact m5
    · exact h
  exact ⟨h, wA_good h⟩
theorem gS {own : String} {idx : Nat} {y : MethodName} {cw : Cond} (m1 : Cond.methodLink own idx y ∈ wA) (m2 : Cond.static y ∈ wA) (m4 : Cond.initialized y.cls ∈ wA) (m5 : cw ∈ wA) : GoodIn wA (va_wsS own idx y (cw :: wA)) := by
  intro w hw
  have h : w ∈ wA := by
    unfold va_wsS at hw
    simp only [List.mem_append, List.mem_cons, List.not_mem_nil, or_false] at hw
    rcases hw with (rfl | rfl | rfl) | rfl | h
    · exact m1
    · exact m2
    · exact m4
    · exact m5
    · exact h
  exact ⟨h, wA_good h⟩
theorem gC {cw : Cond} (m5 : cw ∈ wA) : GoodIn wA (cw :: wA) := by
  intro w hw
  have h : w ∈ wA := by
    rcases List.mem_cons.mp hw with rfl | h
    · exact m5
    · exact h
  exact ⟨h, wA_good h⟩
/-- what a called method's own words are: an instance's, by its class -/
def mV (C : String) (y : MethodName) (cw : Cond) (n : Nat) : Prop := (Cond.instanceMethod y ∈ wA ∧ Cond.selects C y y ∈ wA ∧ Cond.initialized C ∈ wA ∧ cw ∈ wA) ∧ (y.cls = C ∧ y.cls ≠ "java/lang/invoke/MethodHandle" ∧ y.cls ≠ "java/lang/invoke/VarHandle" ∧ (parseMethodDescriptor y.desc).map (fun d => d.parameters.length) = some n)
def mS (y : MethodName) (cw : Cond) (n : Nat) : Prop := (Cond.static y ∈ wA ∧ Cond.initialized y.cls ∈ wA ∧ cw ∈ wA) ∧ (y.cls ≠ "java/lang/invoke/MethodHandle" ∧ y.cls ≠ "java/lang/invoke/VarHandle" ∧ (parseMethodDescriptor y.desc).map (fun d => d.parameters.length) = some n)
/-- the end of a writer: its answer, the world behind it, what else stays -/
def wQ (v : Option Value) (A : Nat → Prop) (D : va_G) (ws : va_W) : Array Value → State → Outcome → State → Prop := fun _ st oc t => oc = .returned v ∧ va_P D vwC ws t.heap ∧ va_D A ws ∧ va_F A st t
/-- the same, where what is behind it is known up to a choice -/
def wE {S : Type} (v : S → Option Value) (post : S → Prop) (A : Nat → Prop) (D : va_G) (ws : S → va_W) : Array Value → State → Outcome → State → Prop := fun _ st oc t => ∃ u : S, oc = .returned (v u) ∧ post u ∧ va_P D vwC (ws u) t.heap ∧ va_D A (ws u) ∧ va_F A st t
section RWC
variable {p : Program} {l : Launch} {e : Env} {R : Room} {s : State} {m : MethodId} {args : Array Value} {below : List Frame} {meth : Method} {c : Code} {H : Heap} {locs : List Loc} {cells slots : Nat} {Q : State → Prop}
variable {cc : ByteArray} {pc : Nat} {ls : Array Slot} {rest st0 : List Value}
variable {D : va_G} {tys tys' : List (ClassId × FieldType)} {ws ws' : va_W} {own C : String} {T : u_T} {N ci idx maxL nL n k mc ms : Nat} {y : MethodName} {bytes : ByteArray} {ret : Option FieldType} {r : Int32} {v : Option Value} {b : Nat} {As : List Value} {fs : List Value} {A : Nat → Prop}
/-- a call that only reads, of an object of the world -/
theorem rdV (S : CallFix p m c cc nL s args wA own) (hK : va_K D vwC tys s) (hP : va_P D vwC ws H)
    (hM : Met l y (Cond.code y bytes maxL ret :: wA) (rmk k 0 0) (va_Pc (.ref b :: As) (cR D tys ws)) (QcRead r) 0 0 (fun _ => False))
    (m1 : Cond.methodLink own idx y ∈ wA) (hm : mV C y (Cond.code y bytes maxL ret) n) (hR : 10 * k + 1 ≤ R.frames ∧ 8 + (maxL + 11) + 100 * k ≤ R.locals)
    (q0 : Nat) (he : ws[q0]? = some (b, .inr (ci, fs))) (hc : vwC[ci]? = some (C, T, N)) (hn : As.length = n) (hsz : ls.size = nL) (hst : st0 = As.reverse ++ .ref b :: rest) (hW : (rest.map fun v => v.category).sum ≤ 8)
    (hdg : decode cc pc = .ok (.invokevirtual idx, 3)) (hf : cells ≤ R.cells ∧ slots ≤ R.slots) (kk : W p l e R s m args below meth c H locs cells slots Q (F0 m (pc + 3) ls (.int r :: rest))) : W p l e R s m args below meth c H locs cells slots Q (F0 m pc ls st0) := by
  obtain ⟨⟨m2, m3, m4, m5⟩, hd⟩ := hm
  refine ln_callR (W.runV (As := As) (rest := rest) S hM (cwV n S.2.2.2.2 (gV m1 m2 m3 m4 m5) rfl rfl rfl hd hR) ⟨cR_blind, va_recv hK hP (ci := ci) (q0 := q0) hc he, fun U hU hW => ⟨rfl, by rw [hU]; exact hP, va_K.moved hW.alike hK⟩⟩ rfl hn hsz hst (lv_room hW) hdg ⟨by simpa using hf.1, by simpa using hf.2⟩) kk
theorem rdS (S : CallFix p m c cc nL s args wA own) (hK : va_K D vwC tys s) (hP : va_P D vwC ws H)
    (hM : Met l y (Cond.code y bytes maxL ret :: wA) (rmk k 0 0) (va_Pc As (cR D tys ws)) (QcRead r) 0 0 (fun _ => False))
    (m1 : Cond.methodLink own idx y ∈ wA) (hm : mS y (Cond.code y bytes maxL ret) n) (hR : 10 * k + 1 ≤ R.frames ∧ 8 + (maxL + 11) + 100 * k ≤ R.locals)
    (hn : As.length = n) (hsz : ls.size = nL) (hst : st0 = As.reverse ++ rest) (hW : (rest.map fun v => v.category).sum ≤ 8)
    (hdg : decode cc pc = .ok (.invokestatic idx, 3)) (hf : cells ≤ R.cells ∧ slots ≤ R.slots) (kk : W p l e R s m args below meth c H locs cells slots Q (F0 m (pc + 3) ls (.int r :: rest))) : W p l e R s m args below meth c H locs cells slots Q (F0 m pc ls st0) := by
  obtain ⟨⟨m2, m4, m5⟩, hd⟩ := hm
  refine ln_callR (W.runS (As := As) (rest := rest) S hM (va_cwS n S.2.2.2.2 (gS m1 m2 m4 m5) rfl rfl rfl hd hR) ⟨cR_blind, fun U hU hW => ⟨rfl, by rw [hU]; exact hP, va_K.moved hW.alike hK⟩⟩ rfl hn hsz hst (lv_room hW) hdg ⟨by simpa using hf.1, by simpa using hf.2⟩) kk
theorem wq_run {a : Array Value} {mc ms : Nat} (hr : va_Run p l e R s m args below meth c H locs cells slots mc ms (F0 m pc ls st0) rest (wQ v A D ws' a) A) (hS : va_S A s.heap H locs)
    (kk : ∀ (H1 : Heap) (locs1 : List Loc), va_P D vwC ws' H1 → va_D A ws' → va_S A s.heap H1 locs1 → W p l e R s m args below meth c H1 locs1 (cells + mc) (slots + ms) Q (F0 m (pc + 3) ls (v.toList ++ rest))) : W p l e R s m args below meth c H locs cells slots Q (F0 m pc ls st0) := by
  intro T hT X
  obtain ⟨v1, st₀, t, T', L, h0, X', hL, e1, e2, ⟨hv, hp, hd, hz, hk⟩, st⟩ := hr T hT X
  cases hv
  rw [h0] at hz hk
  obtain ⟨t2, a1, b1⟩ := kk T'.heap (locs ++ L) (by rw [e1]; exact hp) hd
    ⟨Nat.le_trans hS.1 (by rw [e1]; exact hz), fun q h1 h2 => by rw [e1, hk q (Nat.lt_of_lt_of_le h1 hS.1) h2]; exact hS.2.1 q h1 h2, fun q hq => by
      rcases List.mem_append.mp hq with h | h
      · exact hS.2.2 q h
      · exact hL q h⟩ T' rfl X'
  exact ⟨t2, st t2 a1, b1⟩
/-- a call that writes, of an object of the world -/
theorem wrV (S : CallFix p m c cc nL s args wA own) (hK : va_K D vwC tys s) (hP : va_P D vwC ws H) (hD : va_D A ws) (hS : va_S A s.heap H locs) (hA : ∀ q : Nat, s.heap.size ≤ q → A q)
    (hM : Met l y (Cond.code y bytes maxL ret :: wA) (rmk k mc ms) (va_Pc (.ref b :: As) (cW A D tys ws)) (wQ v A D ws') mc ms A)
    (m1 : Cond.methodLink own idx y ∈ wA) (hm : mV C y (Cond.code y bytes maxL ret) n) (hR : 10 * k + 1 ≤ R.frames ∧ 8 + (maxL + 11) + 100 * k ≤ R.locals)
    (q0 : Nat) (he : ws[q0]? = some (b, .inr (ci, fs))) (hc : vwC[ci]? = some (C, T, N)) (hn : As.length = n) (hsz : ls.size = nL) (hst : st0 = As.reverse ++ .ref b :: rest) (hW : (rest.map fun v => v.category).sum ≤ 8)
    (hdg : decode cc pc = .ok (.invokevirtual idx, 3)) (hf : cells + mc ≤ R.cells ∧ slots + ms ≤ R.slots)
    (kk : ∀ (H1 : Heap) (locs1 : List Loc), va_P D vwC ws' H1 → va_D A ws' → va_S A s.heap H1 locs1 → W p l e R s m args below meth c H1 locs1 (cells + mc) (slots + ms) Q (F0 m (pc + 3) ls (v.toList ++ rest))) : W p l e R s m args below meth c H locs cells slots Q (F0 m pc ls st0) := by
  obtain ⟨⟨m2, m3, m4, m5⟩, hd⟩ := hm
  exact wq_run (va_runV (As := As) (rest := rest) S hM (cwV n S.2.2.2.2 (gV m1 m2 m3 m4 m5) rfl rfl rfl hd hR) ⟨cW_blind, va_recv hK hP (ci := ci) (q0 := q0) hc he, fun U hU hW => ⟨rfl, fun q hq => hA q (by rw [hU] at hq; exact Nat.le_trans hS.1 hq), by rw [hU]; exact hP, hD, va_K.moved hW.alike hK⟩⟩ rfl hn hsz hst (lv_room hW) hdg hf) hS kk
end RWC
/-! the class's world -/
def wsC (ct : Nat → ClassId) (ad : Nat → Nat) (B : Nat → Int32) (g : Nat → Option Nat) (tk : Nat → Int32) (fr : Int32) (LP : List Nat) (pr : Nat → Nat → Int32) : va_W :=
  [(ad 0, .inr (5, [.ref (ad 3), .ref (ad 1), .ref (ad 2), .ref (ad 4), .ref (ad 5)])), (ad 1, .inr (1, [.ref (ad 7), .ref (ad 8), .int fr])), (ad 2, .inr (3, [.ref (ad 3)])), (ad 3, .inr (2, [.ref (ad 6)])), (ad 4, .inr (4, [.ref (ad 3), .ref (ad 2)])), (ad 5, .inr (0, [.ref (ad 1), .ref (ad 2)])),
   (ad 6, .inl (ct 0, 4096, .inl B)), (ad 7, .inl (ct 2, 128, .inr (.inr (.inr (.inr g))))), (ad 8, .inl (ct 1, 128, .inl tk))] ++ va_pl LP (fun a => .inl (ct 0, 1024, .inl (pr a)))
def tyC (ct : Nat → ClassId) : List (ClassId × FieldType) := [(ct 0, .byte), (ct 1, .boolean), (ct 2, .array .byte)]
