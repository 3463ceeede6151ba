/-! what the Statement gives at the law's entry -/
theorem prA {s : State} {args : Array Value} {ty : FieldType} (h : (Cond.arrayClass ty).before args s = true) : ∃ c : ClassId, s.vm.findClass ("[" ++ ty.toString) = some c ∧ ArrOfT s c ty := by
  obtain ⟨c, k, comp, h1, h2, h3⟩ := Cond.arrayClass_spec h
  exact ⟨c, h1, fun N z => ⟨(fun k h => by cases h), k, h2, comp, h3⟩⟩
theorem st_D {s : State} {args : Array Value} (hts : ∀ w ∈ wA, w.before args s = true) : ∃ D : va_G, ∀ (k : Nat) (q : vw_C), vwC[k]? = some q → u_Kn s q.1 q.2.1 q.2.2 (D.1 k) (D.2 k) := by
  obtain ⟨c0, i0, h0⟩ := u_known (C := R_Bo) (T := T_Bo) (N := 2) (n := 2) hts u_Bo (hts _ w_88)
  obtain ⟨c1, i1, h1⟩ := u_known (C := R_Db) (T := T_Db) (N := 3) (n := 3) hts u_Db (hts _ w_46)
  obtain ⟨c2, i2, h2⟩ := u_known (C := R_Fr) (T := T_Fr) (N := 1) (n := 1) hts u_Fr (hts _ w_35)
  obtain ⟨c3, i3, h3⟩ := u_known (C := R_Re) (T := T_Re) (N := 1) (n := 1) hts u_Re (hts _ w_65)
  obtain ⟨c4, i4, h4⟩ := u_known (C := R_Wa) (T := T_Wa) (N := 2) (n := 2) hts u_Wa (hts _ w_75)
  obtain ⟨c5, i5, h5⟩ := u_known (C := R_Fb) (T := T_Fb) (N := 5) (n := 5) hts u_Fb (hts _ w_27)
  obtain ⟨c6, i6, h6⟩ := u_known (C := R_Mo) (T := T_Mo) (N := 11) (n := 11) hts u_Mo (hts _ w_833)
  refine ⟨(fun k => if k = 0 then c0 else if k = 1 then c1 else if k = 2 then c2 else if k = 3 then c3 else if k = 4 then c4 else if k = 5 then c5 else c6, fun k => if k = 0 then i0 else if k = 1 then i1 else if k = 2 then i2 else if k = 3 then i3 else if k = 4 then i4 else if k = 5 then i5 else i6), ?_⟩
  intro k q hq
  match k, hq with
  | 0, hq => cases hq; exact h0
  | 1, hq => cases hq; exact h1
  | 2, hq => cases hq; exact h2
  | 3, hq => cases hq; exact h3
  | 4, hq => cases hq; exact h4
  | 5, hq => cases hq; exact h5
  | 6, hq => cases hq; exact h6
  | k + 7, hq => simp [vwC] at hq
def ctL (a b c d e : ClassId) : Nat → ClassId := fun i => if i = 0 then a else if i = 1 then b else if i = 2 then c else if i = 3 then d else e
theorem st_K {s : State} {b : Nat} (hts : ∀ w ∈ lw_tbl, w.before #[Value.ref b] s = true) : ∃ (D : va_G) (ct : Nat → ClassId), va_K D vwC (tyA ct) s ∧ rA ct s ∧ aoK s := by
  have hA := wA_hts hts
  obtain ⟨D, hD⟩ := st_D hA
  have hov : (Cond.arrayOver (.array .byte)).before #[Value.ref b] s = true := hts _ (List.mem_append_right _ (List.mem_of_getElem? (i := 52) (by decide +kernel)))
  obtain ⟨comp, c2, k2, g1, -, g3, g4, g5⟩ := Jvm.Stand.arrayOver_specB hov
  obtain ⟨c0, a0, b0⟩ := prA (hA _ w_44)
  obtain ⟨c1, a1, b1⟩ := prA (hA _ w_63)
  obtain ⟨c3, a3, b3⟩ := prA (hA _ w_873)
  obtain ⟨c4, a4, b4⟩ := prA (hA _ w_1006)
  obtain rfl : comp = c0 := Option.some.inj (g1.symm.trans a0)
  have hc0 : ∃ kB : Class, s.vm.classes[comp]? = some kB := by obtain ⟨kB, h, -⟩ := Vm.findClass_spec g1; exact ⟨kB, h⟩
  obtain ⟨kB, hkB⟩ := hc0
  refine ⟨D, ctL comp c1 c2 c3 c4, ⟨hD, fun k q hq => ?_⟩, ⟨k2, kB, g3, g4, hkB⟩, Jvm.Stand.arrayOver_alikeB (Vm.Alike.refl s.vm) hov⟩
  match k, hq with
  | 0, hq => cases hq; exact ⟨b0, a0⟩
  | 1, hq => cases hq; exact ⟨b1, a1⟩
  | 2, hq => cases hq; exact ⟨fun N z => ⟨(fun k h => by cases h), k2, g3, comp, g4⟩, g5⟩
  | 3, hq => cases hq; exact ⟨b3, a3⟩
  | 4, hq => cases hq; exact ⟨b4, a4⟩
  | k + 5, hq => simp [tyA] at hq
theorem st_S {s : State} {args : Array Value} {k : Nat} {tx : String} (h1 : (Cond.stringRef R_Fb k tx).before args s = true) (h2 : (Cond.exactly (.string R_Fb k) "java/lang/String").before args s = true) : ∃ sa : Nat, vk_R R_Fb k tx sa s := by
  obtain ⟨a, c, cA, kA, q1, -⟩ := Cond.exactly_spec (args := args) (first := s) (o := none) (s := s) (idx := []) (t := .string R_Fb k) (cls := "java/lang/String") h2
  exact ⟨a, vk_R.of h1 q1⟩
