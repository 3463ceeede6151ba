/-! making things: arrays of a known class, constructors' calls -/
def aoK (U : State) : Prop := (Cond.arrayOver (.array .byte)).before #[] U = true
theorem aoK_moved {u U : State} (hvm : u.vm.Alike U.vm) (h : aoK u) : aoK U := Jvm.Stand.arrayOver_alikeB hvm h
section NEW
variable {p : Program} {l : Launch} {e : Env} {R : Room} {s : State} {m : MethodId} {args : Array Value} {below : List Frame} {meth : Method} {c : Code} {H : Heap} {locs : List Loc} {cells slots : Nat} {Q : State → Prop}
variable {cc : ByteArray} {pc : Nat} {ls : Array Slot} {rest st0 : List Value}
variable {D : va_G} {A : Nat → Prop} {ws : va_W} {tys : List (ClassId × FieldType)} {N : Nat} {cT : ClassId} {H0 : Heap}
theorem ln_newP {atype : ArrayType} {ty : FieldType} (hx : p.tables.exec = Jvm.exec) (hb : c.code = cc) (hN : N < 2 ^ 25) (harr : (Cond.arrayClass (newarray.typeOf atype)).before args s = true) (hty : newarray.typeOf atype = ty) (hK : va_K D vwC tys s) (t0 : Nat) (ht : tys[t0]? = some (cT, ty)) (hra : ∀ cA : ClassId, va_RA s cA ty → s.vm.findClass ("[" ++ ty.toString) = some cA) (hP : va_P D vwC ws H) (hD : va_D A ws) (hS : va_S A H0 H locs) (hA : ∀ q : Nat, H0.size ≤ q → A q)
    {a0 : vp_A} (ha : ∀ cA : ClassId, vp_cell cA a0 = arrV cA N (fun _ => defaultValue ty)) (hw : componentBytes ty ≤ 8) (hcells : cells + 1 ≤ R.cells) (hslots : slots + N ≤ R.slots) (hdg : decode cc pc = .ok (.newarray atype, 2))
    (kk : ∀ (q : Nat) (H1 : Heap), va_P D vwC (ws ++ [(q, .inl (cT, a0))]) H1 → va_D A (ws ++ [(q, .inl (cT, a0))]) → va_S A H0 H1 locs → W p l e R s m args below meth c H1 locs (cells + 1) (slots + N) Q (F0 m (pc + 2) ls (.ref q :: rest))) : W p l e R s m args below meth c H locs cells slots Q (F0 m pc ls (.int (nI N) :: rest)) := by
  refine va_newa (atype := atype) (a0 := a0) (ty := ty) hx hb harr hty hK hP hD hS hA ha (nI_pos (by omega)) (nI_clamp (by omega)) (Nat.le_trans (Nat.mul_le_mul_left N hw) (by omega)) hcells hslots hdg (fun q cA H1 hK1 hP1 hD1 hS1 => ?_)
  have e1 := hra cA (hK1.2 tys.length (cA, ty) (by simp)).2
  have e2 := hra cT (hK.2 t0 (cT, ty) ht).2
  obtain rfl : cA = cT := Option.some.inj (e1.symm.trans e2)
  exact kk q H1 hP1 hD1 hS1
/-- new byte[N][] -/
theorem ln_newA (hx : p.tables.exec = Jvm.exec) (hb : c.code = cc) {own : String} {idx : Nat} (hN : N < 2 ^ 25) (hown : s.vm.findClass own = some m.cls) (hcl : (Cond.classLink own idx "[B").before args s = true) (hov : aoK s) (hK : va_K D vwC tys s) (t0 : Nat) (ht : tys[t0]? = some (cT, .array .byte)) (hP : va_P D vwC ws H) (hD : va_D A ws) (hS : va_S A H0 H locs) (hA : ∀ q : Nat, H0.size ≤ q → A q)
    (hcells : cells + 1 ≤ R.cells) (hslots : slots + N ≤ R.slots) (hdg : decode cc pc = .ok (.anewarray idx, 3))
    (kk : ∀ (q : Nat) (H1 : Heap), va_P D vwC (ws ++ [(q, .inl (cT, N, .inr (.inr (.inr (.inr (fun _ => none))))))]) H1 → va_D A (ws ++ [(q, .inl (cT, N, .inr (.inr (.inr (.inr (fun _ => none))))))]) → va_S A H0 H1 locs → W p l e R s m args below meth c H1 locs (cells + 1) (slots + N) Q (F0 m (pc + 3) ls (.ref q :: rest))) : W p l e R s m args below meth c H locs cells slots Q (F0 m pc ls (.int (nI N) :: rest)) := by
  intro T hT X
  have hc2 : (nI N).toNatClampNeg = N := nI_clamp (by omega)
  obtain ⟨vm₁, cA, kA, comp, hW1, f1, f2, f3, f4, X', st⟩ := X.anewarrayArrK hx (ty := .byte) hown hcl (Jvm.Stand.arrayOver_alikeB (Vm.Alike.refl s.vm) hov) (g := F0 m pc ls (.int (nI N) :: rest)) rfl (by rw [hb]; exact hdg) rfl (nI_pos (by omega)) (by rw [hc2]; omega) hcells (by rw [hc2]; exact hslots)
  have e2 : s.vm.findClass ("[" ++ (FieldType.array .byte).toString) = some cT := (hK.2 t0 (cT, .array .byte) ht).2
  obtain rfl : cA = cT := Option.some.inj (f1.symm.trans e2)
  rw [hc2] at X' st
  generalize hH1 : H.push ({ cls := cA, slots := Array.replicate N .null, vm := .none } : Cell) = H1
  have z1 : H1.size = H.size + 1 := by rw [← hH1, Array.size_push]
  have e1 : H1[H.size]? = some (arrV cA N (fun _ => .null)) := by rw [← hH1, Array.getElem?_push_size, ← arrV_new]
  have o1 : ∀ q : Nat, q < H.size → H1[q]? = H[q]? := fun q hq => by rw [← hH1, Array.getElem?_push, if_neg (Nat.ne_of_lt hq)]
  have hk : ∀ (k : Nat) (x : Nat × va_E), ws[k]? = some x → H1[x.1]? = H[x.1]? := fun k x hx => o1 x.1 ((hP k x hx).lt)
  obtain ⟨t2, a1, b1⟩ := kk H.size H1 ((hP.kept hk).app (fun k x hx => by
    rcases k with _ | k
    · cases hx; exact e1
    · cases hx)) (hD.push hP rfl (hA _ hS.1)) ⟨Nat.le_trans hS.1 (by omega), fun x h1 h2 => (o1 x (Nat.lt_of_lt_of_le h1 hS.1)).trans (hS.2.1 x h1 h2), hS.2.2⟩ ((T.setVm vm₁).pushCell { cls := cA, slots := Array.replicate N .null, vm := .none }) (by rw [← hH1, ← hT]; rfl) X'
  exact ⟨t2, st t2 (by rw [hT]; exact a1), b1⟩
/-- a constructor's call has come back: what it made stands beside the rest -/
theorem cn_run {S : Type} {post : S → Prop} {wN : S → va_W} {w0 : va_W} {a mc ms : Nat} {e0 : va_E} {av : Array Value} (hr : va_Run p l e R s m args below meth c H locs cells slots mc ms (F0 m pc ls st0) rest (wE (fun _ : S => none) post (va_A [(a, e0)] H.size) D wN av) (va_A [(a, e0)] H.size))
    (hP : va_P D vwC (w0 ++ [(a, e0)]) H) (hD : va_D A (w0 ++ [(a, e0)])) (hS : va_S A H0 H locs) (hA : ∀ q : Nat, H0.size ≤ q → A q)
    (kk : ∀ (u : S) (H1 : Heap) (locs1 : List Loc), post u → va_P D vwC (w0 ++ wN u) H1 → va_D A (w0 ++ wN u) → va_S A H0 H1 locs1 → W p l e R s m args below meth c H1 locs1 (cells + mc) (slots + ms) Q (F0 m (pc + 3) ls rest)) : W p l e R s m args below meth c H locs cells slots Q (F0 m pc ls st0) := by
  intro T hT X
  obtain ⟨v1, st₀, t, T', L, h0, X', hL, e1, e2, ⟨u, hv, hpo, hp, hd, hz, hk⟩, st⟩ := hr T hT X
  cases hv
  rw [h0] at hz hk
  have ha : (w0 ++ [(a, e0)])[w0.length]? = some (a, e0) := by simp
  have hin : ∀ (k : Nat) (q : Nat × va_E), w0[k]? = some q → (w0 ++ [(a, e0)])[k]? = some q := fun k q hq => by rw [List.getElem?_append_left (List.getElem?_eq_some_iff.mp hq).1]; exact hq
  have hlt : ∀ (k : Nat) (q : Nat × va_E), w0[k]? = some q → q.1 < H.size ∧ q.1 ≠ a := fun k q hq => by
    refine ⟨vx_lt hP (hin k q hq), fun he => ?_⟩
    have h9 := hD.1 k w0.length q (a, e0) (hin k q hq) ha he
    have h8 := (List.getElem?_eq_some_iff.mp hq).1
    omega
  have hfr : ∀ q, va_A [(a, e0)] H.size q → A q := fun q hq => by
    rcases hq with ⟨k, e9, hk9⟩ | hq
    · rcases k with _ | k
      · cases hk9; exact hD.2 _ _ ha
      · cases hk9
    · exact hA q (Nat.le_trans hS.1 hq)
  have hno : ∀ (k : Nat) (q : Nat × va_E), w0[k]? = some q → ¬ va_A [(a, e0)] H.size q.1 := fun k q hq h9 => by
    obtain ⟨h1, h2⟩ := hlt k q hq
    rcases h9 with ⟨k, e9, hk9⟩ | h9
    · rcases k with _ | k
      · cases hk9; exact h2 rfl
      · cases hk9
    · omega
  have hP1 : va_P D vwC (w0 ++ wN u) t.heap := by
    refine va_P.app (fun k q hq => ?_) hp
    exact (hP k q (hin k q hq)).kept (hk q.1 (hlt k q hq).1 (hno k q hq))
  have hD0 : va_D A w0 := ⟨fun i j p q hi hj => hD.1 i j p q (hin i p hi) (hin j q hj), fun k q hq => hD.2 k q (hin k q hq)⟩
  have hD1 : va_D A (w0 ++ wN u) := hD0.app (hd.weaken (fun k q _ h => hfr _ h)) (fun i j p q hi hj he => hno i p hi (by rw [he]; exact hd.2 j q hj))
  obtain ⟨t2, a1, b1⟩ := kk u T'.heap (locs ++ L) hpo (by rw [e1]; exact hP1) hD1
    ⟨Nat.le_trans hS.1 (by rw [e1]; exact hz), fun q h1 h2 => by rw [e1, hk q (Nat.lt_of_lt_of_le h1 hS.1) (fun h => h2 (hfr q h))]; exact hS.2.1 q h1 h2, fun q hq => by
      rcases List.mem_append.mp hq with h | h
      · exact hS.2.2 q h
      · exact hfr _ (hL q h)⟩ T' rfl X'
  exact ⟨t2, st t2 a1, b1⟩
end NEW
