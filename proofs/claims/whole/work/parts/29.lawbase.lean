/-! the law's wrappers: what they stand on -/
theorem w_cIAE : Cond.castable nIAE nIAE ∈ wF := List.mem_filter.mpr ⟨List.mem_append_right _ (List.mem_of_getElem? (i := 210) (by decide +kernel)), by decide +kernel⟩
theorem w_cISE : Cond.castable nISE nISE ∈ wF := List.mem_filter.mpr ⟨List.mem_append_right _ (List.mem_of_getElem? (i := 286) (by decide +kernel)), by decide +kernel⟩
theorem w_cIOE : Cond.castable nIOE nIOE ∈ wF := List.mem_filter.mpr ⟨List.mem_append_right _ (List.mem_of_getElem? (i := 459) (by decide +kernel)), by decide +kernel⟩
/-- the law's own array of one long -/
def wO (ct : Nat → ClassId) (ao : Nat) (o : Nat → Int64) : va_W := [(ao, .inl (ct 4, 1, .inr (.inl o)))]
def cif {α : Type} (code : Nat) (a b : α) : α := if code = 0 then a else b
/-- a wrapper's start -/
def lC (A : Nat → Prop) (D : va_G) (ct : Nat → ClassId) (ad : Nat → Nat) (B : Nat → Int32) (tk : Nat → Int32) (fr : Int32) (X : Nat → Option (Nat → Int32)) (ao : Nat) (o : Nat → Int64) (U : State) : Prop :=
  cS A D ct ad B tk fr X U ∧ (¬ A ao ∧ va_P D vwC (wO ct ao o) U.heap ∧ va_K D vwC [(ct 4, .long)] U) ∧ va_Nc nISE nIAE U ∧ va_Nc nIOE nIAE U
theorem lC_blind {A : Nat → Prop} {D : va_G} {ct : Nat → ClassId} {ad : Nat → Nat} {B : Nat → Int32} {tk : Nat → Int32} {fr : Int32} {X : Nat → Option (Nat → Int32)} {ao : Nat} {o : Nat → Int64} {av : List Value} : FrameBlind (va_Pc av (lC A D ct ad B tk fr X ao o)) := fun a U g mk q => ⟨q.1, (cS_blind (av := av) a U g mk ⟨q.1, q.2.1⟩).2, ⟨q.2.2.1.1, q.2.2.1.2.1, va_K.moved (u := U) (U := U.calling g mk a) (Vm.Alike.refl U.vm) q.2.2.1.2.2⟩, va_Nc.moved (u := U) (U := U.calling g mk a) (Vm.Alike.refl U.vm) q.2.2.2.1, va_Nc.moved (u := U) (U := U.calling g mk a) (Vm.Alike.refl U.vm) q.2.2.2.2⟩
def aO (A : Nat → Prop) (ao : Nat) : Nat → Prop := fun q => A q ∨ q = ao
/-- .. and its end -/
def lQ (code : Nat) (r : Int32) (A : Nat → Prop) (D : va_G) (ct : Nat → ClassId) (ad : Nat → Nat) (B : Nat → Int32) (tk : Nat → Int32) (fr : Int32) (X : Nat → Option (Nat → Int32)) (ao : Nat) (o : Nat → Int64) (B' : Nat → Int32) (tk' : Nat → Int32) (fr' : Int32) (X' : Nat → Option (Nat → Int32)) : Array Value → State → Outcome → State → Prop := fun _ st oc t =>
  oc = .returned (some (.int (nI code))) ∧ cX A D ct ad (cif code B' B) (cif code tk' tk) (cif code fr' fr) (cif code X' X) t.heap ∧ va_P D vwC (wO ct ao (cif code (vp_updL o 0 r.toInt64) o)) t.heap ∧ va_F (aO A ao) st t
theorem cX_kept {A : Nat → Prop} {D : va_G} {ct : Nat → ClassId} {ad : Nat → Nat} {B : Nat → Int32} {tk : Nat → Int32} {fr : Int32} {X : Nat → Option (Nat → Int32)} {H H1 : Heap} (h : cX A D ct ad B tk fr X H) (hk : ∀ q : Nat, q < H.size → A q → H1[q]? = H[q]?) : cX A D ct ad B tk fr X H1 := by
  obtain ⟨g, LP, pr, h1, h2, h3⟩ := h
  exact ⟨g, LP, pr, h1, h2.kept (fun k q hq => hk q.1 (vx_lt h2 hq) (h3.2 k q hq)), h3⟩
theorem wO_lt {D : va_G} {ct : Nat → ClassId} {ao : Nat} {o : Nat → Int64} {H : Heap} (h : va_P D vwC (wO ct ao o) H) : ao < H.size := vx_lt h (k := 0) (q := (ao, _)) rfl
theorem wO_kept {D : va_G} {ct : Nat → ClassId} {ao : Nat} {o : Nat → Int64} {H H1 : Heap} (h : va_P D vwC (wO ct ao o) H) (hk : H1[ao]? = H[ao]?) : va_P D vwC (wO ct ao o) H1 := h.kept (fun k q hq => by
  rcases k with _ | k
  · cases hq; exact hk
  · cases hq)
theorem va_Ptail {D : va_G} {cl : List vw_C} {x : Nat × va_E} {ws : va_W} {H : Heap} (h : va_P D cl (x :: ws) H) : va_P D cl ws H := fun k q hk => h (k + 1) q hk
theorem va_Phead {D : va_G} {cl : List vw_C} {x : Nat × va_E} {ws : va_W} {H : Heap} (h : va_P D cl (x :: ws) H) : va_P D cl [x] H := fun k q hk => by
  rcases k with _ | k
  · cases hk; exact h 0 _ rfl
  · cases hk
section LWB
variable {p : Program} {l : Launch} {e : Env} {R : Room} {s : State} {m : MethodId} {args : Array Value} {below : List Frame} {meth : Method} {c : Code} {H : Heap} {locs : List Loc} {cells slots : Nat} {Q : State → Prop}
variable {cc : ByteArray} {pc : Nat} {ls : Array Slot} {rest st0 : List Value}
variable {D : va_G} {own C : String} {idx maxL nL n k mc ms : Nat} {y : MethodName} {bytes : ByteArray} {ret : Option FieldType} {r : Int32} {v : Option Value} {b : Nat} {As : List Value} {A : Nat → Prop}
variable {ct : Nat → ClassId} {ad : Nat → Nat} {B B' : Nat → Int32} {tk tk' : Nat → Int32} {fr fr' : Int32} {X X' : Nat → Option (Nat → Int32)} {ao : Nat} {o : Nat → Int64}
/-- a call of a public method, as the first thing that a method does -/
theorem tcV (S : CallFix p m c cc nL s args wA own) (hE : eC ct A s) (hK : va_K D vwC (tyC ct) s) (hC : cX A D ct ad B tk fr X s.heap) (hA : ∀ q : Nat, s.heap.size ≤ q → A q)
    {code : Nat} {E1 E2 : String} (hM : vx_Met l y (Cond.code y bytes maxL ret :: wA) (rmk k mc ms) (va_Pc (.ref (ad 0) :: As) (cS A D ct ad B tk fr X)) (tQ code v A D ct ad B' tk' fr' X') (tX code E1 E2) mc ms A)
    (m1 : Cond.methodLink own idx y ∈ wA) (hm : mV R_Fb y (Cond.code y bytes maxL ret) n) (hR : 10 * k + 1 ≤ R.frames ∧ 8 + (maxL + 11) + 100 * k ≤ R.locals)
    (hn : As.length = n) (hsz : ls.size = nL) (hst : st0 = As.reverse ++ .ref (ad 0) :: rest) (hW : (rest.map fun v => v.category).sum ≤ 8)
    (hdg : decode cc pc = .ok (.invokevirtual idx, 3)) (hf : 0 + mc ≤ R.cells ∧ 0 + ms ≤ R.slots)
    (k0 : code = 0 → ∀ (H1 : Heap) (locs1 : List Loc), cX A D ct ad B' tk' fr' X' H1 → va_S A s.heap H1 locs1 → W p l e R s m args below meth c H1 locs1 (0 + mc) (0 + ms) Q (F0 m (pc + 3) ls (v.toList ++ rest)))
    (kx : ∀ E : String, ((code = 1 ∧ E = E1) ∨ (code = 2 ∧ E = E2)) → ∀ (H1 : Heap) (locs1 : List Loc) (q : Nat) (ce : Cell), (∀ z : Nat, z < s.heap.size → H1[z]? = s.heap[z]?) → va_S A s.heap H1 locs1 → H1[q]? = some ce → ce.vm = .none → s.vm.findClass E = some ce.cls → vx_W p l e R s m args below meth c H1 locs1 (0 + mc) (0 + ms) Q (F0 m pc ls rest) q) :
    W p l e R s m args below meth c s.heap [] 0 0 Q (F0 m pc ls st0) := by
  obtain ⟨⟨m2, m3, m4, m5⟩, hd⟩ := hm
  obtain ⟨g, LP, pr, hr, hP, hD⟩ := hC
  have hrun := vx_runV (As := As) (rest := rest) (H := s.heap) (locs := []) (cells := 0) (slots := 0) (g := F0 m pc ls st0) (e := e) (below := below) (meth := meth) S hM (cwV n S.2.2.2.2 (gV m1 m2 m3 m4 m5) rfl rfl rfl hd hR) ⟨cS_blind, va_recv hK hP (ci := 5) (q0 := 0) rfl rfl, fun U hU hW => ⟨rfl, fun q hq => hA q (by rw [hU] at hq; exact hq), eC_moved hW (locs := []) (by rw [hU]; exact va_S.rf) hE, va_K.moved hW.alike hK, g, LP, pr, hr, by rw [hU]; exact hP, hD⟩⟩ rfl hn hsz hst (lv_room hW) hdg hf
  intro T hT X0
  rcases hrun T hT X0 with ⟨v1, st₀, t, T', L, h0, X', hL, e1, e2, ⟨hc0, hv, hcx, hz, hk⟩, st⟩ | ⟨q, st₀, t, T', L, E, ce, h0, X', hL, e1, e2, ⟨hcd, hkF⟩, hce, hcv, hcl, st⟩
  · cases hv
    rw [h0] at hz hk
    obtain ⟨t2, a1, b1⟩ := k0 hc0 T'.heap ([] ++ L) (by rw [e1]; exact hcx) ⟨by rw [e1]; exact hz, fun q h1 h2 => by rw [e1]; exact hk q h1 h2, hL⟩ T' rfl X'
    exact ⟨t2, st t2 a1, b1⟩
  · obtain ⟨t2, a1, b1⟩ := kx E hcd T'.heap ([] ++ L) q ce (fun z hz => by rw [e1, ← h0]; exact hkF.2 z (by rw [h0]; exact hz)) ⟨by rw [e1, ← h0]; exact hkF.1, fun z h1 h2 => by rw [e1, ← h0]; exact hkF.2 z (by rw [h0]; exact h1), hL⟩ (by rw [e1]; exact hce) hcv hcl T' rfl X'
    exact ⟨t2, st.trans a1, b1⟩
/-- out[0] = v, beside the class's world -/
theorem putO (hx : p.tables.exec = Jvm.exec) (hb : c.code = cc) (hKo : va_K D vwC [(ct 4, .long)] s) (hC : cX A D ct ad B tk fr X H) (hPo : va_P D vwC (wO ct ao o) H) (hao : ¬ A ao) (hS : va_S A s.heap H locs) {z : Int64} (hdg : decode cc pc = .ok (.lastore, 1))
    (kk : ∀ (H1 : Heap) (locs1 : List Loc), cX A D ct ad B tk fr X H1 → va_P D vwC (wO ct ao (vp_updL o 0 z)) H1 → va_S (aO A ao) s.heap H1 locs1 → W p l e R s m args below meth c H1 locs1 cells slots Q (F0 m (pc + 1) ls rest)) : W p l e R s m args below meth c H locs cells slots Q (F0 m pc ls (.long z :: .int (nI 0) :: .ref ao :: rest)) := by
  obtain ⟨g, LP, pr, hr, hP, hD⟩ := hC
  have hPj : va_P D vwC (wO ct ao o ++ wsC ct ad B g tk fr LP pr) H := hPo.app hP
  have hDo : va_D (aO A ao) (wO ct ao o) := by
    refine ⟨fun i j p q hi hj _ => ?_, fun k q hk => ?_⟩
    · rcases i with _ | i
      · rcases j with _ | j
        · rfl
        · cases hj
      · cases hi
    · rcases k with _ | k
      · cases hk; exact Or.inr rfl
      · cases hk
  have hDj : va_D (aO A ao) (wO ct ao o ++ wsC ct ad B g tk fr LP pr) := hDo.app (hD.weaken (fun k q _ h => Or.inl h)) (fun i j p q hi hj he => by
    rcases i with _ | i
    · cases hi; exact hao (by rw [show ao = q.1 from he]; exact hD.2 j q hj)
    · cases hi)
  have hSj : va_S (aO A ao) s.heap H locs := ⟨hS.1, fun q h1 h2 => hS.2.1 q h1 (fun h => h2 (Or.inl h)), fun q h => Or.inl (hS.2.2 q h)⟩
  refine ln_last hx hb hKo hPj hDj hSj 0 0 rfl rfl (by omega) (by decide) hdg (fun H1 locs1 h1 h2 h3 => kk H1 locs1 ⟨g, LP, pr, hr, va_Ptail h1, hD⟩ (va_Phead h1) h3)
end LWB
