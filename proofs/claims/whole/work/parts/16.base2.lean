/-! what the class's larger methods are said in: the rows of blocks as contents, and what the launch gives -/
/-- words on the tables that no warming changes -/
def wF : List Cond := lw_tbl.filter (fun w => w.onTables && w.keepsFace)
theorem wF_moved {s U : State} (hW : s.WarmedH U.vm) (h : ∀ w ∈ wF, w.before #[] s = true) : ∀ w ∈ wF, w.before #[] U = true := by
  intro w hw
  have hg := (List.mem_filter.mp hw).2
  simp only [Bool.and_eq_true] at hg
  have h1 := Cond.before_shiftedFace (State.Shifted.of_warmed hW) w hg.2 (h w hw)
  have e := Cond.onTables_vm (A := #[]) (A' := #[]) (U := s) (U' := U) U.vm w hg.1
  have hU : U.setVm U.vm = U := rfl
  rw [hU] at e
  rw [← e]
  exact h1
/-- the texts of the class's exceptions -/
def strs : List (Nat × String) := [(52, "links is not 0 .. 1000"), (63, "all files are there"), (74, "n is not 1 .. 1000"), (79, "no block is free for the target"), (187, "there is no such plain file"), (189, "so many bytes can't be written at once"), (191, "the place is not in a file"), (197, "fewer blocks are free than are wanted"), (185, "there is no such file"), (114, "i is not 0 .. size less 1"), (124, "size is not 0 .. 15360"), (132, "links would not be 0 .. 1000"), (140, "the file has links"), (152, "file is not 1 .. 12"), (166, "what is not 0 .. 5"), (168, "piece is not 0 .. 14"), (176, "what is not 0 .. 3"), (178, "block is not 0 .. 3"), (180, "i is not 0 .. 1023")]
/-- the class of arrays of byte arrays -/
def rA (ct : Nat → ClassId) (U : State) : Prop := ∃ kA kB : Class, U.vm.classes[ct 2]? = some kA ∧ kA.kind = .array (ct 0) (.array .byte) ∧ U.vm.classes[ct 0]? = some kB
theorem rA_moved {ct : Nat → ClassId} {u U : State} (hvm : u.vm.Alike U.vm) (h : rA ct u) : rA ct U := by
  obtain ⟨kA, kB, h1, h2, h3⟩ := h
  obtain ⟨kA', hA, eA⟩ := hvm.2.2 _ _ h1
  obtain ⟨kB', hB, eB⟩ := hvm.2.2 _ _ h3
  exact ⟨kA', kB', hA, by rw [eA]; exact h2, hB⟩
/-- the rows of blocks: what block b holds, none where no row has been made -/
def rX (g : Nat → Option Nat) (LP : List Nat) (pr : Nat → Nat → Int32) (X : Nat → Option (Nat → Int32)) : Prop :=
  (∀ b, b < 128 → (g b = none ∧ X b = none) ∨ ∃ (y : Nat) (r : Nat → Int32), g b = some y ∧ y ∈ LP ∧ X b = some r ∧ ∀ i, i < 1024 → pr y i = r i) ∧ ∀ b c y, b < 128 → c < 128 → g b = some y → g c = some y → b = c
theorem rX_gOK {g : Nat → Option Nat} {LP : List Nat} {pr : Nat → Nat → Int32} {X : Nat → Option (Nat → Int32)} (h : rX g LP pr X) : gOK g LP := by
  intro b y hb hy
  rcases h.1 b hb with ⟨h1, -⟩ | ⟨z, r, h1, h2, -⟩
  · rw [h1] at hy; cases hy
  · rw [h1] at hy; cases hy; exact h2
theorem wsC_set {A : Nat → Prop} {ct : Nat → ClassId} {ad : Nat → Nat} {B : Nat → Int32} {g : Nat → Option Nat} {tk : Nat → Int32} {fr : Int32} {LP : List Nat} {pr : Nat → Nat → Int32} {y k : Nat} {r : Nat → Int32} (hD : va_D A (wsC ct ad B g tk fr LP pr)) (h : y ∈ LP) (hk : (wsC ct ad B g tk fr LP pr)[k]? = some (y, .inl (ct 0, 1024, .inl (pr y)))) :
    (wsC ct ad B g tk fr LP pr).set k (y, .inl (ct 0, 1024, .inl r)) = wsC ct ad B g tk fr LP (va_up pr y r) := by
  refine (va_pl_set hD h hk).trans ?_
  show _ ++ va_pl LP _ = _ ++ va_pl LP _
  congr 2
  funext a
  by_cases e : a = y
  · subst e; simp [va_up]
  · simp [va_up, e]
theorem va_up_eta {α : Type} (f : Nat → α) (y : Nat) : va_up f y (f y) = f := by
  funext a
  by_cases e : a = y
  · subst e; simp [va_up]
  · simp [va_up, e]
/-- the class's world, its rows as contents -/
def cX (A : Nat → Prop) (D : va_G) (ct : Nat → ClassId) (ad : Nat → Nat) (B : Nat → Int32) (tk : Nat → Int32) (fr : Int32) (X : Nat → Option (Nat → Int32)) (H : Heap) : Prop :=
  ∃ (g : Nat → Option Nat) (LP : List Nat) (pr : Nat → Nat → Int32), rX g LP pr X ∧ va_P D vwC (wsC ct ad B g tk fr LP pr) H ∧ va_D A (wsC ct ad B g tk fr LP pr)
section EC
/-- what the launch gives: the exceptions' static fields, their texts, words on the tables -/
def eC (ct : Nat → ClassId) (A : Nat → Prop) (U : State) : Prop := rA ct U ∧ (∀ w ∈ wF, w.before #[] U = true) ∧ vx_Zq Bundle.tN "UNASSIGNED_STACK" Bundle.steD A U U.heap ∧ vx_Zq Bundle.tN "SUPPRESSED_SENTINEL" Bundle.listD A U U.heap ∧ ∀ q ∈ strs, ∃ sa : Nat, vk_R R_Fb q.1 q.2 sa U
theorem eC_moved {ct : Nat → ClassId} {A : Nat → Prop} {s U : State} {locs : List Loc} (hW : s.WarmedH U.vm) (hS : va_S A s.heap U.heap locs) (h : eC ct A s) : eC ct A U := by
  obtain ⟨h1, h2, h3, h4, h5⟩ := h
  refine ⟨rA_moved hW.alike h1, wF_moved hW h2, (h3.kept hS.2.1).moved hW.alike, (h4.kept hS.2.1).moved hW.alike, fun q hq => ?_⟩
  obtain ⟨sa, h⟩ := h5 q hq
  exact ⟨sa, vk_R.warm hW h⟩
theorem eC_same {ct : Nat → ClassId} {A : Nat → Prop} {u U : State} (hv : U.vm = u.vm) (hh : U.heap = u.heap) (h : eC ct A u) : eC ct A U := by
  obtain ⟨h1, h2, h3, h4, h5⟩ := h
  have hal : u.vm.Alike U.vm := by rw [hv]; exact Vm.Alike.refl u.vm
  refine ⟨rA_moved hal h1, fun w hw => ?_, by rw [hh]; exact h3.moved hal, by rw [hh]; exact h4.moved hal, fun q hq => ?_⟩
  · have hg := (List.mem_filter.mp hw).2
    simp only [Bool.and_eq_true] at hg
    exact va_tabs hg.1 hv.symm (h2 w hw)
  · obtain ⟨sa, h⟩ := h5 q hq
    exact ⟨sa, vk_R.same hv h⟩
end EC
/-- a larger method's start -/
def cS (A : Nat → Prop) (D : va_G) (ct : Nat → ClassId) (ad : Nat → Nat) (B : Nat → Int32) (tk : Nat → Int32) (fr : Int32) (X : Nat → Option (Nat → Int32)) (U : State) : Prop := (∀ q : Nat, U.heap.size ≤ q → A q) ∧ eC ct A U ∧ va_K D vwC (tyC ct) U ∧ cX A D ct ad B tk fr X U.heap
theorem cS_blind {A : Nat → Prop} {D : va_G} {ct : Nat → ClassId} {ad : Nat → Nat} {B : Nat → Int32} {tk : Nat → Int32} {fr : Int32} {X : Nat → Option (Nat → Int32)} {av : List Value} : FrameBlind (va_Pc av (cS A D ct ad B tk fr X)) := fun a U g mk q => ⟨q.1, q.2.1, eC_same (u := U) (U := U.calling g mk a) rfl rfl q.2.2.1, va_K.moved (u := U) (U := U.calling g mk a) (Vm.Alike.refl U.vm) q.2.2.2.1, q.2.2.2.2⟩
/-- .. and its end -/
def xQ (v : Option Value) (A : Nat → Prop) (D : va_G) (ct : Nat → ClassId) (ad : Nat → Nat) (B : Nat → Int32) (tk : Nat → Int32) (fr : Int32) (X : Nat → Option (Nat → Int32)) : Array Value → State → Outcome → State → Prop := fun _ st oc t => oc = .returned v ∧ cX A D ct ad B tk fr X t.heap ∧ va_F A st t
section RWX
variable {p : Program} {l : Launch} {e : Env} {R : Room} {s : State} {m : MethodId} {args : Array Value} {below : List Frame} {meth : Method} {c : Code} {H : Heap} {locs : List Loc} {cells slots : Nat} {Q : State → Prop}
variable {cc : ByteArray} {pc : Nat} {ls : Array Slot} {rest st0 : List Value}
variable {D : va_G} {tys tys' : List (ClassId × FieldType)} {ws ws' : va_W} {own C : String} {T : u_T} {N ci idx maxL nL n k mc ms : Nat} {y : MethodName} {bytes : ByteArray} {ret : Option FieldType} {r : Int32} {v : Option Value} {b : Nat} {As : List Value} {fs : List Value} {A : Nat → Prop}
variable {ct : Nat → ClassId} {ad : Nat → Nat} {B B' : Nat → Int32} {tk tk' : Nat → Int32} {fr fr' : Int32} {X X' : Nat → Option (Nat → Int32)} {g : Nat → Option Nat} {LP : List Nat} {pr : Nat → Nat → Int32}
theorem wrS (S : CallFix p m c cc nL s args wA own) (hK : va_K D vwC tys s) (hP : va_P D vwC ws H) (hD : va_D A ws) (hS : va_S A s.heap H locs) (hA : ∀ q : Nat, s.heap.size ≤ q → A q)
    (hM : Met l y (Cond.code y bytes maxL ret :: wA) (rmk k mc ms) (va_Pc As (cW A D tys ws)) (wQ v A D ws') mc ms A)
    (m1 : Cond.methodLink own idx y ∈ wA) (hm : mS y (Cond.code y bytes maxL ret) n) (hR : 10 * k + 1 ≤ R.frames ∧ 8 + (maxL + 11) + 100 * k ≤ R.locals)
    (hn : As.length = n) (hsz : ls.size = nL) (hst : st0 = As.reverse ++ rest) (hW : (rest.map fun v => v.category).sum ≤ 8)
    (hdg : decode cc pc = .ok (.invokestatic idx, 3)) (hf : cells + mc ≤ R.cells ∧ slots + ms ≤ R.slots)
    (kk : ∀ (H1 : Heap) (locs1 : List Loc), va_P D vwC ws' H1 → va_D A ws' → va_S A s.heap H1 locs1 → W p l e R s m args below meth c H1 locs1 (cells + mc) (slots + ms) Q (F0 m (pc + 3) ls (v.toList ++ rest))) : W p l e R s m args below meth c H locs cells slots Q (F0 m pc ls st0) := by
  obtain ⟨⟨m2, m4, m5⟩, hd⟩ := hm
  exact wq_run (va_runS (As := As) (rest := rest) S hM (va_cwS n S.2.2.2.2 (gS m1 m2 m4 m5) rfl rfl rfl hd hR) ⟨cW_blind, fun U hU hW => ⟨rfl, fun q hq => hA q (by rw [hU] at hq; exact Nat.le_trans hS.1 hq), by rw [hU]; exact hP, hD, va_K.moved hW.alike hK⟩⟩ rfl hn hsz hst (lv_room hW) hdg hf) hS kk
theorem xq_run {a : Array Value} {mc ms : Nat} (hr : va_Run p l e R s m args below meth c H locs cells slots mc ms (F0 m pc ls st0) rest (xQ v A D ct ad B' tk' fr' X' a) A) (hS : va_S A s.heap H locs)
    (kk : ∀ (H1 : Heap) (locs1 : List Loc) (g : Nat → Option Nat) (LP : List Nat) (pr : Nat → Nat → Int32), rX g LP pr X' → va_P D vwC (wsC ct ad B' g tk' fr' LP pr) H1 → va_D A (wsC ct ad B' g tk' fr' LP pr) → va_S A s.heap H1 locs1 → W p l e R s m args below meth c H1 locs1 (cells + mc) (slots + ms) Q (F0 m (pc + 3) ls (v.toList ++ rest))) : W p l e R s m args below meth c H locs cells slots Q (F0 m pc ls st0) := by
  intro T hT X
  obtain ⟨v1, st₀, t, T', L, h0, X', hL, e1, e2, ⟨hv, ⟨g, LP, pr, hr9, hp, hd⟩, hz, hk⟩, st⟩ := hr T hT X
  cases hv
  rw [h0] at hz hk
  obtain ⟨t2, a1, b1⟩ := kk T'.heap (locs ++ L) g LP pr hr9 (by rw [e1]; exact hp) hd
    ⟨Nat.le_trans hS.1 (by rw [e1]; exact hz), fun q h1 h2 => by rw [e1, hk q (Nat.lt_of_lt_of_le h1 hS.1) h2]; exact hS.2.1 q h1 h2, fun q hq => by
      rcases List.mem_append.mp hq with h | h
      · exact hS.2.2 q h
      · exact hL q h⟩ T' rfl X'
  exact ⟨t2, st t2 a1, b1⟩
/-- a call of a larger method -/
theorem wrX (S : CallFix p m c cc nL s args wA own) (hE : eC ct A s) (hK : va_K D vwC (tyC ct) s) (hr : rX g LP pr X) (hP : va_P D vwC (wsC ct ad B g tk fr LP pr) H) (hD : va_D A (wsC ct ad B g tk fr LP pr)) (hS : va_S A s.heap H locs) (hA : ∀ q : Nat, s.heap.size ≤ q → A q)
    (hM : Met l y (Cond.code y bytes maxL ret :: wA) (rmk k mc ms) (va_Pc (.ref b :: As) (cS A D ct ad B tk fr X)) (xQ v A D ct ad B' tk' fr' X') mc ms A)
    (m1 : Cond.methodLink own idx y ∈ wA) (hm : mV C y (Cond.code y bytes maxL ret) n) (hR : 10 * k + 1 ≤ R.frames ∧ 8 + (maxL + 11) + 100 * k ≤ R.locals)
    (q0 : Nat) (he : (wsC ct ad B g tk fr LP pr)[q0]? = some (b, .inr (ci, fs))) (hc : vwC[ci]? = some (C, T, N)) (hn : As.length = n) (hsz : ls.size = nL) (hst : st0 = As.reverse ++ .ref b :: rest) (hW : (rest.map fun v => v.category).sum ≤ 8)
    (hdg : decode cc pc = .ok (.invokevirtual idx, 3)) (hf : cells + mc ≤ R.cells ∧ slots + ms ≤ R.slots)
    (kk : ∀ (H1 : Heap) (locs1 : List Loc) (g : Nat → Option Nat) (LP : List Nat) (pr : Nat → Nat → Int32), rX g LP pr X' → va_P D vwC (wsC ct ad B' g tk' fr' LP pr) H1 → va_D A (wsC ct ad B' g tk' fr' LP pr) → va_S A s.heap H1 locs1 → W p l e R s m args below meth c H1 locs1 (cells + mc) (slots + ms) Q (F0 m (pc + 3) ls (v.toList ++ rest))) : W p l e R s m args below meth c H locs cells slots Q (F0 m pc ls st0) := by
  obtain ⟨⟨m2, m3, m4, m5⟩, hd⟩ := hm
  exact xq_run (va_runV (As := As) (rest := rest) S hM (cwV n S.2.2.2.2 (gV m1 m2 m3 m4 m5) rfl rfl rfl hd hR) ⟨cS_blind, va_recv hK hP (ci := ci) (q0 := q0) hc he, fun U hU hW => ⟨rfl, fun q hq => hA q (by rw [hU] at hq; exact Nat.le_trans hS.1 hq), eC_moved hW (by rw [hU]; exact hS) hE, va_K.moved hW.alike hK, g, LP, pr, hr, by rw [hU]; exact hP, hD⟩⟩ rfl hn hsz hst (lv_room hW) hdg hf) hS kk
end RWX
