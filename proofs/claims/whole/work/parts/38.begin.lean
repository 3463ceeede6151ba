/-! THE CLAIM OUT OF ONE WALK OF THE LAW'S BODY. Your part is whole_start (and what it stands on); all else here is the same for every law, but numbers. -/
def R_law : String := "FileBodyLaw"
def lw_P (b : Addr) (xs : List Int32) (args : Array Value) (s : State) : Prop := args = #[.ref b] ∧ s.IntsAt b xs ∧ xs.length ≤ 3072 ∧ (Jvm.Cond.and given_1 narrow_1).before args s = true
def lw_Q (_ : Array Value) (s : State) (o : Outcome) (t : State) : Prop := o = .returned (some (.int 1)) ∧ Framed s o t [] 601024 7293033
def lw_Z (below : List Frame) (a : Array Value) (s : State) : State → Prop := fun t => ∃ o, t.status = .running ∧ Ended t below o ∧ lw_Q a s o t
/-- the law's own end, with 1 on the stack, nothing written that was there before, its room as the claim has it -/
theorem lw_ret {p : Program} {l : Launch} {e : Env} {s : State} {m : MethodId} {below : List Frame} {meth : Method} {c : Code} {b : Nat} (hx : p.tables.exec = Jvm.exec) (hb : c.code = code) (hr : meth.sig.returnType = ret) (hlocks : meth.locks = false) {pc : Nat} {H : Heap} {ls : Array Slot} (hdg : decode code pc = .ok (.ireturn, 1)) : W p l e room_1 s m #[Value.ref b] below meth c H [] 601024 7293033 (lw_Z below #[Value.ref b] s) (F0 m pc ls [.int 1]) := by
  intro T hT X
  obtain ⟨fs, hret, hrun, hended, hW, hframe⟩ := X.leave (v := some (.int 1)) (hlocks := hlocks) (fun h => by rw [hr] at h; cases h)
  have hmeth' : T.vm.method? m = some meth := X.method'
  refine ⟨T.setFrames fs, ?_, .returned (some (.int 1)), hrun, hended, rfl, ⟨_, rfl⟩, hW, hframe⟩
  jvm_step X.here [X.here.top, hx, hb, hdg, hmeth', hr, ret, narrow_b1]
  (try refine ⟨rfl, ?_⟩); (try refine ⟨rfl, ?_⟩)
  first | (intro acts; rw [hret _ acts rfl rfl rfl]) | rw [hret _ _ rfl rfl rfl]
  exact Steps.refl _
/-- what holds at the law's entry: the machine, the code, the tables' words (any of lw_tbl by 'hts w (by decide +kernel)'), the script of L ints xs at the cell b, what the Statement gives of the start (any of its parts by flat_of_before) -/
def lw_At (p : Program) (s : State) (m : MethodId) (meth : Method) (c : Code) (b L : Nat) (xs : Nat → Int32) : Prop :=
  p.tables.exec = Jvm.exec ∧ c.code = code ∧ meth.sig.returnType = ret ∧ c.maxLocals = 7 ∧ s.vm.findClass R_law = some m.cls ∧ (∀ w ∈ lw_tbl, w.before #[Value.ref b] s = true) ∧ va_X b L xs s s.heap ∧ b < s.heap.size ∧ meth.locks = false ∧ (Jvm.Cond.and given_1 narrow_1).before #[Value.ref b] s = true
def S0 : mst := (nI 0, fun _ => 0, tk0, fun _ => 0, fun _ => 0, fun _ => 0, fun _ => 0, fun _ => 0, fun _ => 0, fun _ => 0, nI 0)
theorem cX_weak {A A' : Nat → Prop} {D : va_G} {ct : Nat → ClassId} {ad : Nat → Nat} {B : Nat → Int32} {tk : Nat → Int32} {fr : Int32} {X : Nat → Option (Nat → Int32)} {H : Heap} (h : cX A D ct ad B tk fr X H) (hA : ∀ q : Nat, q < H.size → A q → A' q) : cX A' D ct ad B tk fr X H := by
  obtain ⟨g, LP, pr, h1, h2, h3⟩ := h
  exact ⟨g, LP, pr, h1, h2, h3.weaken (fun k q hq h => hA q.1 (vx_lt h2 hq) h)⟩
theorem wsM_get {ct : Nat → ClassId} {ad : Nat → Nat} {cd : Int32} {dk tk kd lc sz bh wt : Nat → Int32} {bl : Nat → Nat} {tg : Nat → Int32} {fs : Int32} {k : Nat} (hk : k < 10) : ∃ e : va_E, (wsM ct ad cd dk tk kd lc sz bh wt bl tg fs)[k]? = some (ad k, e) := by
  match k, hk with
  | 0, _ => exact ⟨_, rfl⟩
  | 1, _ => exact ⟨_, rfl⟩
  | 2, _ => exact ⟨_, rfl⟩
  | 3, _ => exact ⟨_, rfl⟩
  | 4, _ => exact ⟨_, rfl⟩
  | 5, _ => exact ⟨_, rfl⟩
  | 6, _ => exact ⟨_, rfl⟩
  | 7, _ => exact ⟨_, rfl⟩
  | 8, _ => exact ⟨_, rfl⟩
  | 9, _ => exact ⟨_, rfl⟩
  | k + 10, h => omega
theorem iq_run {p : Program} {l : Launch} {e : Env} {R : Room} {s : State} {m : MethodId} {args : Array Value} {below : List Frame} {meth : Method} {c : Code} {H : Heap} {locs : List Loc} {cells slots mc ms : Nat} {Q : State → Prop} {pc : Nat} {ls : Array Slot} {rest st0 : List Value} {D : va_G} {A : Nat → Prop} {ct : Nat → ClassId} {a : Nat} {av : Array Value} (hr : va_Run p l e R s m args below meth c H locs cells slots mc ms (F0 m pc ls st0) rest (iQ a A D ct av) A) (hS : va_S A s.heap H locs)
    (kk : ∀ (ad : Nat → Nat) (H1 : Heap) (locs1 : List Loc), ad 0 = a → cX A D ct ad (fun _ => 0) (fun _ => 0) (nI 124) (fun _ => none) H1 → va_S A s.heap H1 locs1 → W p l e R s m args below meth c H1 locs1 (cells + mc) (slots + ms) Q (F0 m (pc + 3) ls rest)) : W p l e R s m args below meth c H locs cells slots Q (F0 m pc ls st0) := by
  intro T hT X
  obtain ⟨v1, st₀, t, T', L, h0, X', hL, e1, e2, ⟨ad, hv, had, hcx, hz, hk⟩, st⟩ := hr T hT X
  cases hv
  rw [h0] at hz hk
  obtain ⟨t2, a1, b1⟩ := kk ad T'.heap (locs ++ L) had (by rw [e1]; exact hcx)
    ⟨Nat.le_trans hS.1 (by rw [e1]; exact hz), fun q h1 h2 => by rw [e1, hk q (Nat.lt_of_lt_of_le h1 hS.1) h2]; exact hS.2.1 q h1 h2, fun q hq => by
      rcases List.mem_append.mp hq with h | h
      · exact hS.2.2 q h
      · exact hL q h⟩ T' rfl X'
  exact ⟨t2, st t2 a1, b1⟩
theorem va_P0 {D : va_G} {H : Heap} : va_P D vwC [] H := fun k q h => by simp at h
theorem va_D0 {A : Nat → Prop} : va_D A [] := ⟨fun i j p q h => by simp at h, fun k q h => by simp at h⟩
set_option maxHeartbeats 4000000 in
set_option maxRecDepth 100000 in
theorem whole_open {rl : RL} (P : PU rl) (hi : rl (fun _ => 0) (fun _ => 0) (nI 124) (fun _ => none) S0) {p : Program} {e : Env} {s : State} {m : MethodId} {below : List Frame} {meth : Method} {c : Code} (l : Launch) (hl9 : l.stackTraces = false) {b L : Nat} {xs : Nat → Int32} (hL2 : L ≤ 3072) (C0 : lw_At p s m meth c b L xs) : W p l e room_1 s m #[Value.ref b] below meth c s.heap [] 0 0 (lw_Z below #[Value.ref b] s) (entryFrame m ([Value.ref b] : List Value).toArray 7) := by
  obtain ⟨hx, hb, hr, hml, hown, hts, hX, hbl, hlocks, hgv⟩ := id C0
  have hA := wA_hts hts
  obtain ⟨D, ct, hK, hra, hov⟩ := st_K hts
  obtain ⟨hN1, hN2⟩ := st_N hgv
  obtain ⟨hn1, hn2⟩ := st_L hts
  have hown : s.vm.findClass R_Lw = some m.cls := hown
  have hl := lv_entry ([.ref b]) (n := 7) (Nat.le_of_ble_eq_true rfl)
  rw [lg_entry_eq]
  generalize (lg_sl ([.ref b]) ++ List.replicate (7 - (lg_sl ([.ref b])).length) Slot.unset).toArray = ls at hl ⊢
  have hl : lv_has ls 7 [(0, .ref b)] := hl
  refine va_new (D := D) (ci := 5) (fs := [.null, .null, .null, .null, .null]) (C := R_Fb) (T := T_Fb) (N := 5) (A := fun q => s.heap.size ≤ q) hx hb hA u_Fb t_Fb t_Fb_ok hown (hA _ w_26) (hA _ w_27) (hA _ w_1) hK va_P0 va_D0 (va_S.rf (H0 := s.heap)) (fun _ h => h) rfl (fun j hj => by rcases (show j = 0 ∨ j = 1 ∨ j = 2 ∨ j = 3 ∨ j = 4 by omega) with rfl | rfl | rfl | rfl | rfl <;> rfl) (show 0 + 1 ≤ 601024 by omega) (show 0 + 5 ≤ 7293033 by omega) d_Lw_law_0 (fun a H hP hD hS => ?_)
  refine lv_dup hx hb d_Lw_law_3 rfl ?_
  refine iq_run (va_runI (As := []) (rest := [.ref a]) ⟨hx, hb, hml, hown, hA⟩ (k_Fb_init l (A := fun q => s.heap.size ≤ q)) (cwI 0 hA (gC w_30) rfl rfl rfl (hA _ w_1) (hA _ w_28) (hA _ w_29) rfl (by decide +kernel) ⟨by decide, by decide⟩) ⟨cN_blind, fun U hU hW => ⟨rfl, ⟨⟨fun q hq => Nat.le_trans hS.1 (by rw [hU] at hq; exact hq), by rw [hU]; exact hP, hD, va_K.moved hW.alike hK⟩, aoK_moved hW.alike hov⟩, va_Nw.warmM hW hn1, va_Nw.warmM hW hn2⟩⟩ rfl rfl hl.1 rfl (lv_room (Nat.le_of_ble_eq_true rfl)) d_Lw_law_4 ⟨show 0 + 1 + 8 ≤ 601024 by omega, show 0 + 5 + 4361 ≤ 7293033 by omega⟩) hS (fun ad H1 locs1 ha hC hS1 => ?_)
  subst ha
  refine lv_astore_n (lv' := [(1, .ref (ad 0)), (0, .ref b)]) hx hb d_Lw_law_7 rfl hl (by decide) rfl (fun ls hl => ?_)
  refine va_forget (fun q hq => hS1.2.2 q hq) ?_
  refine va_new (D := D) (ci := 6) (fs := [.int 0, .null, .null, .null, .null, .null, .null, .null, .null, .null, .int 0]) (C := R_Mo) (T := T_Mo) (N := 11) (A := fun q => H1.size ≤ q) hx hb hA u_Mo t_Mo t_Mo_ok hown (hA _ w_832) (hA _ w_833) (hA _ w_7) hK va_P0 va_D0 (va_S.rf (H0 := H1)) (fun _ h => h) rfl (fun j hj => by rcases (show j = 0 ∨ j = 1 ∨ j = 2 ∨ j = 3 ∨ j = 4 ∨ j = 5 ∨ j = 6 ∨ j = 7 ∨ j = 8 ∨ j = 9 ∨ j = 10 by omega) with rfl | rfl | rfl | rfl | rfl | rfl | rfl | rfl | rfl | rfl | rfl <;> rfl) (show 0 + 1 + 8 + 1 ≤ 601024 by omega) (show 0 + 5 + 4361 + 11 ≤ 7293033 by omega) d_Lw_law_8 (fun am0 H2 hP2 hD2 hS2 => ?_)
  refine lv_dup hx hb d_Lw_law_11 rfl ?_
  refine cn_run (w0 := []) (va_runI (As := []) (rest := [.ref am0]) ⟨hx, hb, hml, hown, hA⟩ (k_Mo_init l) (cwI 0 hA (gC w_836) rfl rfl rfl (hA _ w_7) (hA _ w_834) (hA _ w_835) rfl (by decide +kernel) ⟨by decide, by decide⟩) ⟨cW_blind, fun U hU hW => ⟨rfl, fun q9 hq => Or.inr (by rw [hU] at hq; exact hq), by rw [hU]; exact hP2, va_D1, va_K.moved hW.alike hK⟩⟩ rfl rfl hl.1 rfl (lv_room (Nat.le_of_ble_eq_true rfl)) d_Lw_law_12 ⟨show 0 + 1 + 8 + 1 + 9 ≤ 601024 by omega, show 0 + 5 + 4361 + 11 + 132240 ≤ 7293033 by omega⟩) hP2 hD2 hS2 (fun _ h => h) (fun am H3 locs3 ham hP3 hD3 hS3 => ?_)
  subst ham
  refine lv_astore_n (lv' := [(2, .ref (am 0)), (1, .ref (ad 0)), (0, .ref b)]) hx hb d_Lw_law_15 rfl hl (by decide) rfl (fun ls hl => ?_)
  refine va_forget (fun q hq => Nat.le_trans hS1.1 (hS3.2.2 q hq)) ?_
  refine lv_iconst (v := nI 1) hx hb d_Lw_law_16 (by decide) ?_
  refine ln_newP (atype := .long) (ty := .long) (N := 1) (a0 := (1, .inr (.inl (fun _ => 0)))) (A := fun q => H3.size ≤ q) hx hb (by decide) (hA _ w_1006) rfl hK 4 rfl (fun _ h => h) va_P0 va_D0 (va_S.rf (H0 := H3)) (fun _ h => h) (fun cA => vp_cell_l cA _ (fun _ => 0)) (by decide) (show 0 + 1 + 8 + 1 + 9 + 1 ≤ 601024 by omega) (show 0 + 5 + 4361 + 11 + 132240 + 1 ≤ 7293033 by omega) d_Lw_law_17 (fun ao H4 hP4 hD4 hS4 => ?_)
  refine lv_astore_n (lv' := [(3, .ref ao), (2, .ref (am 0)), (1, .ref (ad 0)), (0, .ref b)]) hx hb d_Lw_law_19 rfl hl (by decide) rfl (fun ls hl => ?_)
  refine lv_iconst (v := nI 0) hx hb d_Lw_law_20 (by decide) ?_
  refine lv_istore (lv' := [(4, .int (nI 0)), (3, .ref ao), (2, .ref (am 0)), (1, .ref (ad 0)), (0, .ref b)]) hx hb d_Lw_law_21 hl (by decide) rfl (fun ls hl => ?_)
  have hP3 : va_P D vwC (wsMS ct am S0) H3 := hP3
  have hD3 : va_D (fun q => H1.size ≤ q) (wsMS ct am S0) := hD3
  have hP4 : va_P D vwC (wO ct ao (fun _ => 0)) H4 := hP4
  have hD4 : va_D (fun q => H3.size ≤ q) (wO ct ao (fun _ => 0)) := hD4
  have z1 : s.heap.size ≤ H1.size := hS1.1
  have z3 : H1.size ≤ H3.size := hS3.1
  have z4 : H3.size ≤ H4.size := hS4.1
  have za : H3.size ≤ ao := hD4.2 0 _ rfl
  have zb : ao < H4.size := wO_lt hP4
  have zm : ∀ i, i < 10 → H1.size ≤ am i ∧ am i < H3.size := fun i hi => by
    obtain ⟨e9, h9⟩ : ∃ e : va_E, (wsMS ct am S0)[i]? = some (am i, e) := wsM_get hi
    exact ⟨hD3.2 i _ h9, vx_lt hP3 h9⟩
  have hF : lF s (fun q => s.heap.size ≤ q ∧ ¬ (H1.size ≤ q ∧ q < H4.size)) D ct am ao H4.size := by
    refine ⟨st_E hts hgv hra (fun a h1 h2 => by omega), hK, hN1, hN2, fun q h => h.1, fun q h => ⟨by omega, by omega⟩, fun h => h.2 ⟨by omega, by omega⟩, fun i hi h => ?_, by omega, fun i hi => ?_, fun i hi h => ?_, fun i j hi hj h => ?_⟩
    · have := zm i hi; exact h.2 ⟨by omega, by omega⟩
    · have := zm i hi; omega
    · have := zm i hi; omega
    · obtain ⟨e9, h9⟩ : ∃ e : va_E, (wsMS ct am S0)[i]? = some (am i, e) := wsM_get hi
      obtain ⟨e8, h8⟩ : ∃ e : va_E, (wsMS ct am S0)[j]? = some (am j, e) := wsM_get hj
      exact hD3.1 i j _ _ h9 h8 h
  have hLS : lS s (fun q => s.heap.size ≤ q ∧ ¬ (H1.size ≤ q ∧ q < H4.size)) D ct ad am ao H4.size (fun _ => 0) (fun _ => 0) (nI 124) (fun _ => none) S0 (fun _ => 0) H4 [] := by
    refine ⟨cX_kept (cX_weak hC (fun q hq h => ⟨h, by omega⟩)) (fun q hq _ => (hS4.2.1 q (by omega) (by omega)).trans (hS3.2.1 q hq (by omega))), hP3.kept (fun k q hq => hS4.2.1 q.1 (vx_lt hP3 hq) (by have := vx_lt hP3 hq; omega)), hP4, Nat.le_refl _, ⟨by omega, fun q h1 h2 => ((hS4.2.1 q (by omega) (by omega)).trans (hS3.2.1 q (by omega) (by omega))).trans (hS1.2.1 q h1 h2), fun _ h => by cases h⟩⟩
  refine W.widen (k := 20 + 8 * 0) (n := 140000 + 5138 * 0) (by omega) (by omega) ?_
  refine lw_loop P l hl9 hx hb hml hown hA hX hbl hL2 hF (fun n H locs ls hn hS => ?_) 513 0 _ _ _ _ S0 _ H4 [] ls (by omega) (by omega) hi hLS (lv_sub hl [4, 3, 2, 1, 0] rfl)
  refine va_forget (fun q hq => hS.2.2 q hq) ?_
  refine lv_iconst (v := nI 1) hx hb d_Lw_law_987 (by decide) ?_
  refine W.widen (k := 601024) (n := 7293033) (by omega) (by omega) ?_
  exact lw_ret hx hb hr hlocks d_Lw_law_988
