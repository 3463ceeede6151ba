section
-- ===== PART A: goes FIRST, ahead of the names: the tables' words, and 'selects' of the private methods out of them =====
/-- a private method of a class that the tables say can be made, by its rows of tables_1 -/
def lw_okq (q : MethodName × Nat) : Prop := (q.1.cls ≠ "java/lang/invoke/MethodHandle" ∧ q.1.cls ≠ "java/lang/invoke/VarHandle") ∧ Cond.instantiable q.1.cls q.2 ∈ tables_1 ∧ Cond.privateMethod q.1 ∈ tables_1 ∧ Cond.instanceMethod q.1 ∈ tables_1
theorem lw_p0 : lw_okq (⟨"FileBody", "letGo", "(I)I"⟩, 5) := ⟨⟨by decide +kernel, by decide +kernel⟩, List.mem_of_getElem? (i := 27) (by decide +kernel), List.mem_of_getElem? (i := 129) (by decide +kernel), List.mem_of_getElem? (i := 130) (by decide +kernel)⟩
theorem lw_p1 : lw_okq (⟨"FileBody$Records", "field", "(III)I"⟩, 1) := ⟨⟨by decide +kernel, by decide +kernel⟩, List.mem_of_getElem? (i := 65) (by decide +kernel), List.mem_of_getElem? (i := 137) (by decide +kernel), List.mem_of_getElem? (i := 138) (by decide +kernel)⟩
theorem lw_p2 : lw_okq (⟨"FileBody$Waiting", "setFirst", "(I)V"⟩, 2) := ⟨⟨by decide +kernel, by decide +kernel⟩, List.mem_of_getElem? (i := 75) (by decide +kernel), List.mem_of_getElem? (i := 158) (by decide +kernel), List.mem_of_getElem? (i := 159) (by decide +kernel)⟩
theorem lw_p3 : lw_okq (⟨"FileBody$Waiting", "fileBefore", "(I)I"⟩, 2) := ⟨⟨by decide +kernel, by decide +kernel⟩, List.mem_of_getElem? (i := 75) (by decide +kernel), List.mem_of_getElem? (i := 166) (by decide +kernel), List.mem_of_getElem? (i := 167) (by decide +kernel)⟩
theorem lw_p4 : lw_okq (⟨"FileBody$Records", "setField", "(IIII)V"⟩, 1) := ⟨⟨by decide +kernel, by decide +kernel⟩, List.mem_of_getElem? (i := 65) (by decide +kernel), List.mem_of_getElem? (i := 174) (by decide +kernel), List.mem_of_getElem? (i := 175) (by decide +kernel)⟩
theorem lw_p5 : lw_okq (⟨"java/lang/Throwable", "fillInStackTrace", "(I)Ljava/lang/Throwable;"⟩, 6) := ⟨⟨by decide +kernel, by decide +kernel⟩, List.mem_of_getElem? (i := 248) (by decide +kernel), List.mem_of_getElem? (i := 246) (by decide +kernel), List.mem_of_getElem? (i := 247) (by decide +kernel)⟩
theorem lw_p6 : lw_okq (⟨"FileBody$Bodies", "takeBlock", "(II)V"⟩, 2) := ⟨⟨by decide +kernel, by decide +kernel⟩, List.mem_of_getElem? (i := 88) (by decide +kernel), List.mem_of_getElem? (i := 354) (by decide +kernel), List.mem_of_getElem? (i := 355) (by decide +kernel)⟩
theorem lw_p7 : lw_okq (⟨"FileBody$DataBlocks", "leastFree", "(I)I"⟩, 3) := ⟨⟨by decide +kernel, by decide +kernel⟩, List.mem_of_getElem? (i := 46) (by decide +kernel), List.mem_of_getElem? (i := 362) (by decide +kernel), List.mem_of_getElem? (i := 363) (by decide +kernel)⟩
theorem lw_p8 : lw_okq (⟨"FileBody$DataBlocks", "hasSpan", "(III)Z"⟩, 3) := ⟨⟨by decide +kernel, by decide +kernel⟩, List.mem_of_getElem? (i := 46) (by decide +kernel), List.mem_of_getElem? (i := 380) (by decide +kernel), List.mem_of_getElem? (i := 381) (by decide +kernel)⟩
theorem lw_p9 : lw_okq (⟨"FileBody", "checkSpan", "(IIII)V"⟩, 5) := ⟨⟨by decide +kernel, by decide +kernel⟩, List.mem_of_getElem? (i := 27) (by decide +kernel), List.mem_of_getElem? (i := 391) (by decide +kernel), List.mem_of_getElem? (i := 392) (by decide +kernel)⟩
theorem lw_p10 : lw_okq (⟨"FileBody", "checkPlain", "(I)V"⟩, 5) := ⟨⟨by decide +kernel, by decide +kernel⟩, List.mem_of_getElem? (i := 27) (by decide +kernel), List.mem_of_getElem? (i := 395) (by decide +kernel), List.mem_of_getElem? (i := 396) (by decide +kernel)⟩
theorem lw_p11 : lw_okq (⟨"FileBody", "checkFreeBlocks", "(III)V"⟩, 5) := ⟨⟨by decide +kernel, by decide +kernel⟩, List.mem_of_getElem? (i := 27) (by decide +kernel), List.mem_of_getElem? (i := 403) (by decide +kernel), List.mem_of_getElem? (i := 404) (by decide +kernel)⟩
theorem lw_p12 : lw_okq (⟨"FileBody", "checkThere", "(I)V"⟩, 5) := ⟨⟨by decide +kernel, by decide +kernel⟩, List.mem_of_getElem? (i := 27) (by decide +kernel), List.mem_of_getElem? (i := 453) (by decide +kernel), List.mem_of_getElem? (i := 454) (by decide +kernel)⟩
theorem lw_p13 : lw_okq (⟨"FileBodyModel", "freeFile", "()I"⟩, 11) := ⟨⟨by decide +kernel, by decide +kernel⟩, List.mem_of_getElem? (i := 833) (by decide +kernel), List.mem_of_getElem? (i := 887) (by decide +kernel), List.mem_of_getElem? (i := 888) (by decide +kernel)⟩
theorem lw_p14 : lw_okq (⟨"FileBodyModel", "begin", "(II)I"⟩, 11) := ⟨⟨by decide +kernel, by decide +kernel⟩, List.mem_of_getElem? (i := 833) (by decide +kernel), List.mem_of_getElem? (i := 891) (by decide +kernel), List.mem_of_getElem? (i := 892) (by decide +kernel)⟩
theorem lw_p15 : lw_okq (⟨"FileBodyModel", "rest", "(IZ)V"⟩, 11) := ⟨⟨by decide +kernel, by decide +kernel⟩, List.mem_of_getElem? (i := 833) (by decide +kernel), List.mem_of_getElem? (i := 895) (by decide +kernel), List.mem_of_getElem? (i := 896) (by decide +kernel)⟩
def lw_privs_1 : List (MethodName × Nat) := [(⟨"FileBody", "letGo", "(I)I"⟩, 5), (⟨"FileBody$Records", "field", "(III)I"⟩, 1), (⟨"FileBody$Waiting", "setFirst", "(I)V"⟩, 2), (⟨"FileBody$Waiting", "fileBefore", "(I)I"⟩, 2), (⟨"FileBody$Records", "setField", "(IIII)V"⟩, 1), (⟨"java/lang/Throwable", "fillInStackTrace", "(I)Ljava/lang/Throwable;"⟩, 6), (⟨"FileBody$Bodies", "takeBlock", "(II)V"⟩, 2), (⟨"FileBody$DataBlocks", "leastFree", "(I)I"⟩, 3), (⟨"FileBody$DataBlocks", "hasSpan", "(III)Z"⟩, 3), (⟨"FileBody", "checkSpan", "(IIII)V"⟩, 5), (⟨"FileBody", "checkPlain", "(I)V"⟩, 5), (⟨"FileBody", "checkFreeBlocks", "(III)V"⟩, 5), (⟨"FileBody", "checkThere", "(I)V"⟩, 5), (⟨"FileBodyModel", "freeFile", "()I"⟩, 11), (⟨"FileBodyModel", "begin", "(II)I"⟩, 11), (⟨"FileBodyModel", "rest", "(IZ)V"⟩, 11)]
theorem lw_r1 : ∀ q ∈ lw_privs_1, lw_okq q := List.forall_mem_cons.mpr ⟨lw_p0, List.forall_mem_cons.mpr ⟨lw_p1, List.forall_mem_cons.mpr ⟨lw_p2, List.forall_mem_cons.mpr ⟨lw_p3, List.forall_mem_cons.mpr ⟨lw_p4, List.forall_mem_cons.mpr ⟨lw_p5, List.forall_mem_cons.mpr ⟨lw_p6, List.forall_mem_cons.mpr ⟨lw_p7, List.forall_mem_cons.mpr ⟨lw_p8, List.forall_mem_cons.mpr ⟨lw_p9, List.forall_mem_cons.mpr ⟨lw_p10, List.forall_mem_cons.mpr ⟨lw_p11, List.forall_mem_cons.mpr ⟨lw_p12, List.forall_mem_cons.mpr ⟨lw_p13, List.forall_mem_cons.mpr ⟨lw_p14, List.forall_mem_cons.mpr ⟨lw_p15, fun _ h => absurd h List.not_mem_nil⟩⟩⟩⟩⟩⟩⟩⟩⟩⟩⟩⟩⟩⟩⟩⟩
theorem lw_p16 : lw_okq (⟨"FileBodyModel", "freeOnes", "()I"⟩, 11) := ⟨⟨by decide +kernel, by decide +kernel⟩, List.mem_of_getElem? (i := 833) (by decide +kernel), List.mem_of_getElem? (i := 903) (by decide +kernel), List.mem_of_getElem? (i := 904) (by decide +kernel)⟩
theorem lw_p17 : lw_okq (⟨"FileBodyModel", "take", "(II)V"⟩, 11) := ⟨⟨by decide +kernel, by decide +kernel⟩, List.mem_of_getElem? (i := 833) (by decide +kernel), List.mem_of_getElem? (i := 907) (by decide +kernel), List.mem_of_getElem? (i := 908) (by decide +kernel)⟩
theorem lw_p18 : lw_okq (⟨"FileBodyModel", "may", "(IIII)Z"⟩, 11) := ⟨⟨by decide +kernel, by decide +kernel⟩, List.mem_of_getElem? (i := 833) (by decide +kernel), List.mem_of_getElem? (i := 915) (by decide +kernel), List.mem_of_getElem? (i := 916) (by decide +kernel)⟩
theorem lw_p19 : lw_okq (⟨"FileBodyModel", "isPlain", "(I)Z"⟩, 11) := ⟨⟨by decide +kernel, by decide +kernel⟩, List.mem_of_getElem? (i := 833) (by decide +kernel), List.mem_of_getElem? (i := 919) (by decide +kernel), List.mem_of_getElem? (i := 920) (by decide +kernel)⟩
theorem lw_p20 : lw_okq (⟨"FileBodyModel", "isFile", "(I)Z"⟩, 11) := ⟨⟨by decide +kernel, by decide +kernel⟩, List.mem_of_getElem? (i := 833) (by decide +kernel), List.mem_of_getElem? (i := 923) (by decide +kernel), List.mem_of_getElem? (i := 924) (by decide +kernel)⟩
theorem lw_p21 : lw_okq (⟨"FileBodyModel", "wanted", "(III)I"⟩, 11) := ⟨⟨by decide +kernel, by decide +kernel⟩, List.mem_of_getElem? (i := 833) (by decide +kernel), List.mem_of_getElem? (i := 929) (by decide +kernel), List.mem_of_getElem? (i := 930) (by decide +kernel)⟩
theorem lw_p22 : lw_okq (⟨"FileBodyModel", "takeAll", "(III)V"⟩, 11) := ⟨⟨by decide +kernel, by decide +kernel⟩, List.mem_of_getElem? (i := 833) (by decide +kernel), List.mem_of_getElem? (i := 933) (by decide +kernel), List.mem_of_getElem? (i := 934) (by decide +kernel)⟩
theorem lw_p23 : lw_okq (⟨"FileBodyModel", "set", "(III)V"⟩, 11) := ⟨⟨by decide +kernel, by decide +kernel⟩, List.mem_of_getElem? (i := 833) (by decide +kernel), List.mem_of_getElem? (i := 937) (by decide +kernel), List.mem_of_getElem? (i := 938) (by decide +kernel)⟩
theorem lw_p24 : lw_okq (⟨"FileBodyModel", "giveBack", "(II)V"⟩, 11) := ⟨⟨by decide +kernel, by decide +kernel⟩, List.mem_of_getElem? (i := 833) (by decide +kernel), List.mem_of_getElem? (i := 953) (by decide +kernel), List.mem_of_getElem? (i := 954) (by decide +kernel)⟩
theorem lw_p25 : lw_okq (⟨"FileBodyModel", "go", "(I)I"⟩, 11) := ⟨⟨by decide +kernel, by decide +kernel⟩, List.mem_of_getElem? (i := 833) (by decide +kernel), List.mem_of_getElem? (i := 965) (by decide +kernel), List.mem_of_getElem? (i := 966) (by decide +kernel)⟩
theorem lw_p26 : lw_okq (⟨"FileBodyModel", "blocksOf", "(I)I"⟩, 11) := ⟨⟨by decide +kernel, by decide +kernel⟩, List.mem_of_getElem? (i := 833) (by decide +kernel), List.mem_of_getElem? (i := 969) (by decide +kernel), List.mem_of_getElem? (i := 970) (by decide +kernel)⟩
theorem lw_p27 : lw_okq (⟨"FileBodyModel", "recordByte", "(II)I"⟩, 11) := ⟨⟨by decide +kernel, by decide +kernel⟩, List.mem_of_getElem? (i := 833) (by decide +kernel), List.mem_of_getElem? (i := 1000) (by decide +kernel), List.mem_of_getElem? (i := 1001) (by decide +kernel)⟩
def lw_privs_2 : List (MethodName × Nat) := [(⟨"FileBodyModel", "freeOnes", "()I"⟩, 11), (⟨"FileBodyModel", "take", "(II)V"⟩, 11), (⟨"FileBodyModel", "may", "(IIII)Z"⟩, 11), (⟨"FileBodyModel", "isPlain", "(I)Z"⟩, 11), (⟨"FileBodyModel", "isFile", "(I)Z"⟩, 11), (⟨"FileBodyModel", "wanted", "(III)I"⟩, 11), (⟨"FileBodyModel", "takeAll", "(III)V"⟩, 11), (⟨"FileBodyModel", "set", "(III)V"⟩, 11), (⟨"FileBodyModel", "giveBack", "(II)V"⟩, 11), (⟨"FileBodyModel", "go", "(I)I"⟩, 11), (⟨"FileBodyModel", "blocksOf", "(I)I"⟩, 11), (⟨"FileBodyModel", "recordByte", "(II)I"⟩, 11)]
theorem lw_r2 : ∀ q ∈ lw_privs_2, lw_okq q := List.forall_mem_cons.mpr ⟨lw_p16, List.forall_mem_cons.mpr ⟨lw_p17, List.forall_mem_cons.mpr ⟨lw_p18, List.forall_mem_cons.mpr ⟨lw_p19, List.forall_mem_cons.mpr ⟨lw_p20, List.forall_mem_cons.mpr ⟨lw_p21, List.forall_mem_cons.mpr ⟨lw_p22, List.forall_mem_cons.mpr ⟨lw_p23, List.forall_mem_cons.mpr ⟨lw_p24, List.forall_mem_cons.mpr ⟨lw_p25, List.forall_mem_cons.mpr ⟨lw_p26, List.forall_mem_cons.mpr ⟨lw_p27, fun _ h => absurd h List.not_mem_nil⟩⟩⟩⟩⟩⟩⟩⟩⟩⟩⟩⟩
def lw_privs : List (MethodName × Nat) := lw_privs_1 ++ (lw_privs_2)
def lw_tbl : List Cond := k2_sels lw_privs ++ tables_1
theorem lw_privs_ok : ∀ q ∈ lw_privs, lw_okq q := by
  show ∀ q ∈ lw_privs_1 ++ (lw_privs_2), lw_okq q
  exact List.forall_mem_append.mpr ⟨lw_r1, lw_r2⟩
-- ===== end of PART A; then your names; then what follows =====
end
section
/-! ===== BEGIN words of one list among another's, by their places ===== -/
theorem goodIn_r {big : List Cond} (ws : List Cond) (ps : List Nat) (hp : ws = ps.filterMap (fun i => big[i]?)) (h : ws.all goodWord = true) : GoodIn big ws := by
  intro w hw
  have h1 := List.all_eq_true.mp h w hw
  rw [hp] at hw
  obtain ⟨i, -, hi⟩ := List.mem_filterMap.mp hw
  have hm : w ∈ big := by first | exact List.mem_of_getElem? hi | exact List.getElem?_mem hi
  exact ⟨hm, good_of_word h1⟩
theorem goodIn_app {big a b : List Cond} (ha : GoodIn big a) (hb : GoodIn big b) : GoodIn big (a ++ b) := fun w h => (List.mem_append.mp h).elim (ha w) (hb w)
theorem goodIn_ca {big a b : List Cond} {c : Cond} (ha : GoodIn big (c :: a)) (hb : GoodIn big b) : GoodIn big (c :: (a ++ b)) := fun w h => (List.mem_cons.mp h).elim (fun e => ha w (List.mem_cons.mpr (Or.inl e))) (fun h => (List.mem_append.mp h).elim (fun h => ha w (List.mem_cons.mpr (Or.inr h))) (hb w))
theorem goodIn_sub {big ws : List Cond} (hm : ∀ w ∈ ws, w ∈ big) (h : ws.all goodWord = true) : GoodIn big ws := fun w hw => ⟨hm w hw, good_of_word (List.all_eq_true.mp h w hw)⟩
/-! ===== END ===== -/

/-! ===== BEGIN exceptions that leave a method, and their catching by the caller (launches without stack traces) ===== -/
section VXA
/-! The laws vx_back, vx_callV, vx_callS, vx_callSW, vx_throw0, vx_throwS follow proofs of the library, with one case more: JvmDerived/Free/Laws.lean (Back.of_free), Shelf42/LK1.lean (callV, callS), Shelf/KitTraced.lean (throwNew0V, throwNewS). -/
/-- where a method has thrown q: the class by its name, the cell, what was written, the world -/
def vx_T (XC : String → State → State → Prop) (st : State) (q : Addr) (t : State) (mc ms : Nat) (free : Addr → Prop) : Prop :=
  ∃ (E : String) (ce : Cell) (L : List Loc), XC E st t ∧ t.heap[q]? = some ce ∧ ce.vm = .none ∧ st.vm.findClass E = some ce.cls ∧ st.WarmedH t.vm ∧ st.sameButNew ({ t with vm := st.vm } : State) L mc ms ∧ ∀ z ∈ L, free z.base
def vx_Q (Qc : Array Value → State → Outcome → State → Prop) (XC : String → State → State → Prop) (mc ms : Nat) (free : Addr → Prop) : Array Value → State → Outcome → State → Prop := fun a st o t =>
  (Qc a st o t ∧ ∃ L, FrameEnd st o t L mc ms ∧ ∀ q ∈ L, free q.base) ∨ ∃ q, o = .threw q ∧ vx_T XC st q t mc ms free
/-- a callee that returns or throws -/
def vx_Met (l : Launch) (y : MethodName) (ws : List Cond) (rm : Room) (Pc : Array Value → State → Prop) (Qc : Array Value → State → Outcome → State → Prop) (XC : String → State → State → Prop) (mc ms : Nat) (free : Addr → Prop) : Prop :=
  MetFree l y (headSpec ws rm) Pc (fun _ _ _ _ _ => True) (vx_Q Qc XC mc ms free)
def vx_Post (XC : String → State → State → Prop) (mc ms : Nat) (free : Addr → Prop) : Pt → Array Value → Addr → Pt → Prop := fun A a q B =>
  ∃ (g : JFrame) (mk : MethodId) (t : State) (L : List Loc) (E : String) (ce : Cell), B.U.heap = t.heap ∧ B.U.vm = t.vm ∧ XC E (A.U.calling g mk a) t ∧ t.heap[q]? = some ce ∧ ce.vm = .none ∧ A.U.vm.findClass E = some ce.cls ∧ B.locs = A.locs ++ L ∧ (∀ z ∈ L, free z.base) ∧ B.cells = A.cells + mc ∧ B.slots = A.slots + ms
def vx_Back (l : Launch) (R : Room) (p : Program) (e : Env) (below : List Frame) (s : State) (sargs : Array Value) (y : MethodName) (len W9 : Nat)
    (Pre : Pt → Array Value → Prop) (Post : Pt → Array Value → Option Value → Pt → Prop) (PostX : Pt → Array Value → Addr → Pt → Prop) : Prop :=
  ∀ (m : MethodId) (meth : Method) (c : Code) (A : Pt) (g : JFrame) (ig : Instr) (mk : MethodId) (a : Array Value),
    Stand p l e R s m sargs below meth c A.U A.locs A.cells A.slots → g.method = m → g.locals.size = c.maxLocals → decode c.code g.pc = .ok (ig, len) →
    2 * g.monitorRoom + (g.stack.map fun v => v.category).sum ≤ W9 → A.U.methodNamed? y = some mk → Pre A a →
    (∃ (v : Option Value) (B : Pt), Stand p l e R s m sargs below meth c B.U B.locs B.cells B.slots ∧ Post A a v B ∧
      Steps p.tables e below (doInvoke e (A.U.setTop g) [] mk a).1 (B.U.setTop { g with pc := g.pc + len, stack := v.toList ++ g.stack })) ∨
    (∃ (q : Addr) (B : Pt), Stand p l e R s m sargs below meth c B.U B.locs B.cells B.slots ∧ PostX A a q B ∧
      Steps p.tables e below (doInvoke e (A.U.setTop g) [] mk a).1 ((B.U.setTop g).pushFrame (.throwing q)))
section Payer
variable {l : Launch} {R : Room} {p : Program} {e : Env} {below : List Frame} {s : State} {sargs : Array Value} {y : MethodName} {len W9 : Nat}
theorem vx_back {ws : List Cond} {rm : Room} {Pc : Array Value → State → Prop} {Qc : Array Value → State → Outcome → State → Prop} {XC : String → State → State → Prop} {mc ms : Nat} {free : Addr → Prop} {bytes : ByteArray} {maxL : Nat} {ret : Option FieldType}
    (hM : vx_Met l y ws rm Pc Qc XC mc ms free) (hblind : FrameBlind Pc) (hrc : rm.cells = mc) (hrs : rm.slots = ms)
    (hframes : rm.frames + 1 ≤ R.frames) (hlocals : W9 + (maxL + 11) + rm.locals ≤ R.locals)
    (hws : ∀ w ∈ ws, ∀ a' U, s.WarmedH U.vm → w.before a' U = true) (hcode : Cond.code y bytes maxL ret ∈ ws) (hinit : ∀ a' U, s.WarmedH U.vm → (Cond.initialized y.cls).before a' U = true) :
    vx_Back l R p e below s sargs y len W9 (PreOf R mc ms Pc) (PostOf Qc mc ms free) (vx_Post XC mc ms free) := by
  intro m meth c A g ig mk a X hg hsize hdg hW hn hp
  have h1 : (headSpec ws rm).pre.before a A.U = true := atoms_intro fun w hw => hws w hw _ _ X.warmed
  have h2 : (Cond.code y bytes maxL ret).before a A.U = true := hws _ hcode _ _ X.warmed
  have h3 : (Cond.initialized y.cls).before a A.U = true := hinit _ _ X.warmed
  have h4 : A.cells + (headSpec ws rm).room.cells ≤ R.cells := by rw [show (headSpec ws rm).room.cells = mc from hrc]; exact hp.1
  have h5 : A.slots + (headSpec ws rm).room.slots ≤ R.slots := by rw [show (headSpec ws rm).room.slots = ms from hrs]; exact hp.2.1
  have hPc : Pc a (A.U.calling g mk a) := hblind _ _ _ _ hp.2.2
  obtain ⟨U, Ls, c0, s0⟩ := A
  dsimp only [Pt.U, Pt.locs, Pt.cells, Pt.slots] at h1 h2 h3 h4 h5 X hn hPc ⊢
  obtain ⟨methY, cY, hmY, hcY, -, hlY, -, -, -, -⟩ := Cond.code_spec hn h2
  obtain ⟨kY, hkY, -⟩ := className_of_methodNamed hn
  have hinitY : kY.init = .initialized := Cond.initialized_spec (findClass_of_methodNamed hn) hkY h3
  have h : At U g.method c below := by rw [hg]; exact X.here
  have hlocals9 : W9 + (maxL + 11) + (headSpec ws rm).room.locals ≤ R.locals := hlocals
  have happ : (headSpec ws rm).appliesLoose y e.platform (U.calling g mk a) = true :=
    Spec.appliesLoose_calling (g := g) h hdg hn hkY hinitY
      (X.room_calling (g := g) (R' := (headSpec ws rm).room) hsize hmY hcY hframes (by rw [hlY]; omega) h4 h5) h1
  obtain ⟨mid, hmid⟩ := h.above
  have hfr : (U.setTop g).frames = (.java g :: mid) ++ below := by rw [State.frames_setTop' g h.top, hmid]; rfl
  obtain ⟨o, s₂, hsteps, -, hend, hq⟩ := Steps.callFree hM p X.admits X.cas X.clock (acts := []) hfr happ hPc trivial
  have hq' : vx_Q Qc XC mc ms free a (U.calling g mk a) o s₂ := hq
  rw [State.frames_setTop' g h.top] at hend
  obtain ⟨g₀, hg0⟩ := Option.isSome_iff_exists.mp h.top
  obtain ⟨r, hr⟩ := State.topJava?_eq_some.mp hg0
  have hr' : (({ U with heap := s₂.heap, slotsUsed := s₂.slotsUsed } : State).setVm s₂.vm).frames = .java g₀ :: r := hr
  rcases hq' with ⟨hqc, L, hfe, hL⟩ | ⟨q, rfl, E, ce, L, hx, hce, hcv, hcl, hW₂, hsm, hL⟩
  · obtain ⟨⟨v, rfl⟩, hW₂, e2, q2, q3, q4, q5, q6⟩ := id hfe
    have e3 : s₂ = ({ (U.calling g mk a).setFrames s₂.frames with heap := s₂.heap, slotsUsed := s₂.slotsUsed } : State).setVm s₂.vm := by
      have : s₂ = ({ s₂ with vm := (U.calling g mk a).vm } : State).setVm s₂.vm := rfl
      rw [e2] at this
      exact this
    obtain ⟨c₂, i₂, len₂, hc₂, hd₂, hf₂⟩ := hend
    have hW' : U.WarmedH s₂.vm := hW₂
    have hcc : c₂ = c := by
      have h1 : s₂.code? g.method = U.code? g.method := by
        rw [State.code?_eq, State.code?_eq, hW'.alike.method?]
      exact Option.some.inj (hc₂.symm.trans (h1.trans h.code))
    subst hcc
    have hlen : len₂ = len := by rw [hdg] at hd₂; cases hd₂; rfl
    subst hlen
    have hs₂ : s₂ = (({ U with heap := s₂.heap, slotsUsed := s₂.slotsUsed } : State).setVm s₂.vm).setTop { g with pc := g.pc + len₂, stack := v.toList ++ g.stack } := by
      refine e3.trans ?_
      rw [hf₂, State.calling_eq h.top, State.setFrames_setFrames, State.setTop_of_frames _ hr', hr]
      rfl
    have hsame : U.sameButNew ({ U with heap := s₂.heap, slotsUsed := s₂.slotsUsed } : State) L mc ms := by
      refine ⟨?_, q2, q3, q4, q5, q6⟩
      obtain ⟨t, ht, -⟩ := State.frames_cons hr
      show ({ U with heap := s₂.heap, slotsUsed := s₂.slotsUsed } : State) = { U.setFrames U.frames with heap := s₂.heap, slotsUsed := s₂.slotsUsed }
      rw [State.setFrames_self ht]
    subst hg
    refine Or.inl ⟨v, ⟨(({ U with heap := s₂.heap, slotsUsed := s₂.slotsUsed } : State).setVm s₂.vm), Ls ++ L, c0 + mc, s0 + ms⟩,
      ⟨X.admits, X.cas, X.clock, X.frames, X.room, X.hears, X.method, X.code, (X.here.setHeapUsed s₂.heap s₂.slotsUsed).setVm hW'.alike, X.tail, State.WarmedH.trans X.warmed hW', X.limits, X.bytes, X.same.trans (hsame.setVm s.vm)⟩,
      ⟨g, mk, s₂, L, rfl, rfl, hqc, rfl, hL, rfl, rfl⟩, ?_⟩
    show Steps p.tables e below _ ((({ U with heap := s₂.heap, slotsUsed := s₂.slotsUsed } : State).setVm s₂.vm).setTop { g with pc := g.pc + len₂, stack := v.toList ++ g.stack })
    rw [← hs₂]
    exact hsteps
  · obtain ⟨e2, q2, q3, q4, q5, q6⟩ := id hsm
    have e3 : s₂ = ({ (U.calling g mk a).setFrames s₂.frames with heap := s₂.heap, slotsUsed := s₂.slotsUsed } : State).setVm s₂.vm := by
      have : s₂ = ({ s₂ with vm := (U.calling g mk a).vm } : State).setVm s₂.vm := rfl
      rw [e2] at this
      exact this
    have hf₂ : s₂.frames = .throwing q :: .java g :: U.frames.tail := hend
    have hW' : U.WarmedH s₂.vm := hW₂
    have hs₂ : s₂ = ((({ U with heap := s₂.heap, slotsUsed := s₂.slotsUsed } : State).setVm s₂.vm).setTop g).pushFrame (.throwing q) := by
      refine e3.trans ?_
      rw [hf₂, State.calling_eq h.top, State.setFrames_setFrames, State.pushFrame, State.frames_setTop _ hr', State.setTop_of_frames _ hr', State.setFrames_setFrames, hr]
      rfl
    have hsame : U.sameButNew ({ U with heap := s₂.heap, slotsUsed := s₂.slotsUsed } : State) L mc ms := by
      refine ⟨?_, q2, q3, q4, q5, q6⟩
      obtain ⟨t, ht, -⟩ := State.frames_cons hr
      show ({ U with heap := s₂.heap, slotsUsed := s₂.slotsUsed } : State) = { U.setFrames U.frames with heap := s₂.heap, slotsUsed := s₂.slotsUsed }
      rw [State.setFrames_self ht]
    subst hg
    refine Or.inr ⟨q, ⟨(({ U with heap := s₂.heap, slotsUsed := s₂.slotsUsed } : State).setVm s₂.vm), Ls ++ L, c0 + mc, s0 + ms⟩,
      ⟨X.admits, X.cas, X.clock, X.frames, X.room, X.hears, X.method, X.code, (X.here.setHeapUsed s₂.heap s₂.slotsUsed).setVm hW'.alike, X.tail, State.WarmedH.trans X.warmed hW', X.limits, X.bytes, X.same.trans (hsame.setVm s.vm)⟩,
      ⟨g, mk, s₂, L, E, ce, rfl, rfl, hx, hce, hcv, hcl, rfl, hL, rfl, rfl⟩, ?_⟩
    show Steps p.tables e below _ (((({ U with heap := s₂.heap, slotsUsed := s₂.slotsUsed } : State).setVm s₂.vm).setTop g).pushFrame (.throwing q))
    rw [← hs₂]
    exact hsteps
end Payer
section Calls
variable {p : Program} {l : Launch} {e : Env} {R : Room} {s : State} {m : MethodId} {args : Array Value} {below : List Frame} {meth : Method} {c : Code} {T : State} {locs : List Loc} {cells slots : Nat}
theorem vx_callV (X : Stand p l e R s m args below meth c T locs cells slots) (hexec : p.tables.exec = Jvm.exec) {own C : String} {index : Nat} {y : MethodName} {bytes : ByteArray} {maxL : Nat} {ret : Option FieldType}
    (hown : s.vm.findClass own = some m.cls) (hlink : (Cond.methodLink own index y).before args s = true) (hinst : (Cond.instanceMethod y).before args s = true) (hsel : (Cond.selects C y y).before args s = true)
    (hcode : (Cond.code y bytes maxL ret).before args s = true) (hy : y.cls ≠ "java/lang/invoke/MethodHandle" ∧ y.cls ≠ "java/lang/invoke/VarHandle")
    {W9 : Nat} {Pre : Pt → Array Value → Prop} {Post : Pt → Array Value → Option Value → Pt → Prop} {PostX : Pt → Array Value → Addr → Pt → Prop} (hK : vx_Back l R p e below s args y 3 W9 Pre Post PostX)
    {b : Addr} {cellB : Cell} (hcell : T.heap[b]? = some cellB) (hobj : cellB.vm.isStatics = false) (hcls : s.vm.findClass C = some cellB.cls)
    {g : JFrame} (hg : g.method = m) (hsize : g.locals.size = c.maxLocals) {argsL rest : List Value} (hlen : ∀ sig, parseMethodDescriptor y.desc = some sig → argsL.length = sig.parameters.length)
    (hstack : g.stack = argsL.reverse ++ .ref b :: rest) (hW : 2 * g.monitorRoom + (rest.map fun v => v.category).sum ≤ W9) (hdg : decode c.code g.pc = .ok (.invokevirtual index, 3))
    (hpre : ∀ vm₁, s.WarmedH vm₁ → Pre ⟨T.setVm vm₁, locs, cells, slots⟩ (Value.ref b :: argsL).toArray) :
    (∃ (v : Option Value) (vm₁ : Vm) (B : Pt), s.WarmedH vm₁ ∧ Stand p l e R s m args below meth c B.U B.locs B.cells B.slots ∧ Post ⟨T.setVm vm₁, locs, cells, slots⟩ (Value.ref b :: argsL).toArray v B ∧
      ∀ target, Steps p.tables e below (B.U.setTop { g with pc := g.pc + 3, stack := v.toList ++ rest }) target → Steps p.tables e below (T.setTop g) target) ∨
    (∃ (q : Addr) (vm₁ : Vm) (B : Pt), s.WarmedH vm₁ ∧ Stand p l e R s m args below meth c B.U B.locs B.cells B.slots ∧ PostX ⟨T.setVm vm₁, locs, cells, slots⟩ (Value.ref b :: argsL).toArray q B ∧
      Steps p.tables e below (T.setTop g) ((B.U.setTop { g with stack := rest }).pushFrame (.throwing q))) := by
  obtain ⟨mk, methM, hnamed, hmethM, hstM, habM⟩ := Cond.instanceMethod_spec hinst
  obtain ⟨methM', cM, hmethM', -, -, -, -, -, -, hsigM⟩ := Cond.code_spec hnamed hcode
  cases hmethM.symm.trans hmethM'
  obtain ⟨c2, r2, m2, q1, q2, q3, q4, kP, hkP, hkPi⟩ := Cond.selects_spec hsel
  cases hcls.symm.trans q1
  cases (State.methodFound?_of_named hnamed hy).symm.trans q2
  cases hnamed.symm.trans q3
  have hselP : selectMethod e.platform s.vm cellB.cls mk = .method mk := by rw [Launch.admits_selectMethod X.admits]; exact q4
  obtain ⟨vm₁, X₁, hstep₁⟩ := X.invokevirtual hexec hown hlink hnamed hmethM hstM hkP hkPi hy (a := b) (cell := cellB) hcell
    (fun z h => by rw [h] at hobj; cases hobj) hselP hmethM habM hkP hkPi (g := g) hg (argsL := argsL) (rest := rest) (hlen _ hsigM) hstack hdg
  rcases hK m meth c ⟨T.setVm vm₁, locs, cells, slots⟩ { g with stack := rest } (.invokevirtual index) mk (Value.ref b :: argsL).toArray X₁ hg hsize hdg hW (X₁.named hnamed) (hpre vm₁ X₁.warmed) with ⟨v, B, X', hpost, hsteps⟩ | ⟨q, B, X', hpost, hsteps⟩
  · exact Or.inl ⟨v, vm₁, B, X₁.warmed, X', hpost, fun target h => hstep₁ _ fun acts => by rw [doInvoke_state]; exact hsteps.trans h⟩
  · exact Or.inr ⟨q, vm₁, B, X₁.warmed, X', hpost, hstep₁ _ fun acts => by rw [doInvoke_state]; exact hsteps⟩
theorem vx_callS (X : Stand p l e R s m args below meth c T locs cells slots) (hexec : p.tables.exec = Jvm.exec) {own : String} {index : Nat} {y : MethodName} {bytes : ByteArray} {maxL : Nat} {ret : Option FieldType}
    (hown : s.vm.findClass own = some m.cls) (hlink : (Cond.methodLink own index y).before args s = true) (hstat : (Cond.static y).before args s = true) (hinit : (Cond.initialized y.cls).before args s = true)
    (hcode : (Cond.code y bytes maxL ret).before args s = true) (hy : y.cls ≠ "java/lang/invoke/MethodHandle" ∧ y.cls ≠ "java/lang/invoke/VarHandle")
    {W9 : Nat} {Pre : Pt → Array Value → Prop} {Post : Pt → Array Value → Option Value → Pt → Prop} {PostX : Pt → Array Value → Addr → Pt → Prop} (hK : vx_Back l R p e below s args y 3 W9 Pre Post PostX)
    {g : JFrame} (hg : g.method = m) (hsize : g.locals.size = c.maxLocals) {argsL rest : List Value} (hlen : ∀ sig, parseMethodDescriptor y.desc = some sig → argsL.length = sig.parameters.length)
    (hstack : g.stack = argsL.reverse ++ rest) (hW : 2 * g.monitorRoom + (rest.map fun v => v.category).sum ≤ W9) (hdg : decode c.code g.pc = .ok (.invokestatic index, 3))
    (hpre : ∀ vm₁, s.WarmedH vm₁ → Pre ⟨T.setVm vm₁, locs, cells, slots⟩ argsL.toArray) :
    (∃ (v : Option Value) (vm₁ : Vm) (B : Pt), s.WarmedH vm₁ ∧ Stand p l e R s m args below meth c B.U B.locs B.cells B.slots ∧ Post ⟨T.setVm vm₁, locs, cells, slots⟩ argsL.toArray v B ∧
      ∀ target, Steps p.tables e below (B.U.setTop { g with pc := g.pc + 3, stack := v.toList ++ rest }) target → Steps p.tables e below (T.setTop g) target) ∨
    (∃ (q : Addr) (vm₁ : Vm) (B : Pt), s.WarmedH vm₁ ∧ Stand p l e R s m args below meth c B.U B.locs B.cells B.slots ∧ PostX ⟨T.setVm vm₁, locs, cells, slots⟩ argsL.toArray q B ∧
      Steps p.tables e below (T.setTop g) ((B.U.setTop { g with stack := rest }).pushFrame (.throwing q))) := by
  obtain ⟨mk, hnamed⟩ := Cond.code_named hcode
  obtain ⟨methM, cM, hmethM, -, -, -, -, -, -, hsigM⟩ := Cond.code_spec hnamed hcode
  have hstatic : methM.isStatic = true := Cond.static_spec hnamed hmethM hstat
  obtain ⟨kP, hkP, -⟩ := className_of_methodNamed hnamed
  have hinitP : kP.init = .initialized := Cond.initialized_spec (findClass_of_methodNamed hnamed) hkP hinit
  obtain ⟨vm₁, X₁, hstep₁⟩ := X.invokestatic hexec hown hlink hnamed hmethM hstatic hkP hinitP hy (g := g) hg (argsL := argsL) (rest := rest) (hlen _ hsigM) hstack hdg
  rcases hK m meth c ⟨T.setVm vm₁, locs, cells, slots⟩ { g with stack := rest } (.invokestatic index) mk argsL.toArray X₁ hg hsize hdg hW (X₁.named hnamed) (hpre vm₁ X₁.warmed) with ⟨v, B, X', hpost, hsteps⟩ | ⟨q, B, X', hpost, hsteps⟩
  · exact Or.inl ⟨v, vm₁, B, X₁.warmed, X', hpost, fun target h => hstep₁ _ fun acts => by rw [doInvoke_state]; exact hsteps.trans h⟩
  · exact Or.inr ⟨q, vm₁, B, X₁.warmed, X', hpost, hstep₁ _ fun acts => by rw [doInvoke_state]; exact hsteps⟩
end Calls
theorem vx_cls {s : State} {T : State} {vm₁ : Vm} {E : String} {k : ClassId} (hW : s.WarmedH vm₁) (h : (T.setVm vm₁).vm.findClass E = some k) : s.vm.findClass E = some k := by
  have h1 : vm₁.findClass E = some k := h
  rw [hW.alike.findClass] at h1
  exact h1
/-- the method's frame g, with q thrown over it -/
def vx_W (p : Program) (l : Launch) (e : Env) (R : Room) (s : State) (m : MethodId) (args : Array Value) (below : List Frame) (meth : Method) (c : Code) (H : Heap) (locs : List Loc) (cells slots : Nat) (Q : State → Prop) (g : JFrame) (q : Addr) : Prop :=
  ∀ T : State, T.heap = H → Stand p l e R s m args below meth c T locs cells slots → ∃ t, Steps p.tables e below ((T.setTop g).pushFrame (.throwing q)) t ∧ Q t
def vx_Run (p : Program) (l : Launch) (e : Env) (R : Room) (s : State) (m : MethodId) (args : Array Value) (below : List Frame) (meth : Method) (c : Code) (H : Heap) (locs : List Loc) (cells slots mc ms : Nat) (g : JFrame) (rest : List Value) (Qa : State → Outcome → State → Prop) (XC : String → State → State → Prop) (free : Addr → Prop) : Prop :=
  ∀ T : State, T.heap = H → Stand p l e R s m args below meth c T locs cells slots →
    (∃ (v : Option Value) (st₀ t T' : State) (L : List Loc), st₀.heap = H ∧ Stand p l e R s m args below meth c T' (locs ++ L) (cells + mc) (slots + ms) ∧ (∀ q ∈ L, free q.base) ∧ T'.heap = t.heap ∧ T'.vm = t.vm ∧ Qa st₀ (.returned v) t ∧
      Goes p e below T g T' { g with pc := g.pc + 3, stack := v.toList ++ rest }) ∨
    (∃ (q : Addr) (st₀ t T' : State) (L : List Loc) (E : String) (ce : Cell), st₀.heap = H ∧ Stand p l e R s m args below meth c T' (locs ++ L) (cells + mc) (slots + ms) ∧ (∀ z ∈ L, free z.base) ∧ T'.heap = t.heap ∧ T'.vm = t.vm ∧ XC E st₀ t ∧ t.heap[q]? = some ce ∧ ce.vm = .none ∧ s.vm.findClass E = some ce.cls ∧
      Steps p.tables e below (T.setTop g) ((T'.setTop { g with stack := rest }).pushFrame (.throwing q)))
def vx_X {S : Type} (px : S → Prop) (B : String → S → State → Prop) (A : Nat → Prop) : String → State → State → Prop := fun E st t => ∃ u : S, px u ∧ B E u t ∧ va_F A st t
section Runs
variable {p : Program} {l : Launch} {e : Env} {R : Room} {s : State} {m : MethodId} {args : Array Value} {below : List Frame} {meth : Method} {c : Code} {H : Heap} {locs : List Loc} {cells slots : Nat}
variable {y : MethodName} {bytes cc : ByteArray} {maxL nL mc ms n index : Nat} {ret : Option FieldType} {ws : List Cond} {rm : Room} {Pc : Array Value → State → Prop} {Qc : Array Value → State → Outcome → State → Prop} {XC : String → State → State → Prop} {free : Addr → Prop} {Ts : List Cond} {own C : String} {b : Addr} {As rest : List Value} {g : JFrame}
theorem vx_callBack (cb : CallB R s args own index y bytes maxL ret ws rm mc ms n) (hM : vx_Met l y ws rm Pc Qc XC mc ms free) (hbl : FrameBlind Pc) : vx_Back l R p e below s args y 3 8 (PreOf R mc ms Pc) (PostOf Qc mc ms free) (vx_Post XC mc ms free) := by
  obtain ⟨hrc, hrs, hfr, hlo, hws, hcw, -, hini, -⟩ := cb
  exact vx_back (bytes := bytes) (maxL := maxL) (ret := ret) hM hbl hrc hrs hfr hlo hws hcw (fun a' U hW => word_at hW (Or.inl (by first | rfl | simp [Cond.onTables, Cond.keeps, Cond.steady])) hini)
theorem vx_runV (S : CallFix p m c cc nL s args Ts own) (hM : vx_Met l y ws rm Pc Qc XC mc ms free) (cw : CallW R s args own C index y bytes maxL ret ws rm mc ms n) (hp : PreV s H C b Pc As)
    (hg : g.method = m) (hn : As.length = n) (hsize : g.locals.size = nL) (hstack : g.stack = As.reverse ++ .ref b :: rest) (hW : 2 * g.monitorRoom + (rest.map fun v => v.category).sum ≤ 8) (hdg : decode cc g.pc = .ok (.invokevirtual index, 3)) (hf : cells + mc ≤ R.cells ∧ slots + ms ≤ R.slots) :
    vx_Run p l e R s m args below meth c H locs cells slots mc ms g rest (Qc (Value.ref b :: As).toArray) XC free := by
  have hK : vx_Back l R p e below s args y 3 8 (PreOf R mc ms Pc) (PostOf Qc mc ms free) (vx_Post XC mc ms free) := vx_callBack cw.1 hM hp.1
  obtain ⟨⟨-, -, -, -, -, -, hcode, -, hy, hlen, hl⟩, hin, hse⟩ := cw
  obtain ⟨hx, hb, hml, ho, -⟩ := S
  obtain ⟨-, ⟨cellB, hcB, hoB, hclB⟩, hPc⟩ := hp
  intro T hT X
  rcases vx_callV X hx (C := C) (bytes := bytes) (maxL := maxL) (ret := ret) ho hl hin hse hcode hy hK (by rw [hT]; exact hcB) hoB hclB hg (hsize.trans hml.symm) (argsL := As) (rest := rest) (fun sig h => hn.trans (hlen sig h)) hstack hW (by rw [hb]; exact hdg)
    (fun vm₁ hW₁ => ⟨hf.1, hf.2, hPc (T.setVm vm₁) hT hW₁⟩) with ⟨v, vm₁, ⟨U', l2, c2, s2⟩, hW₁, X', ⟨g', mk, t, L, e1, e2, hq, h1, hL, h2, h3⟩, st⟩ | ⟨q, vm₁, ⟨U', l2, c2, s2⟩, hW₁, X', ⟨g', mk, t, L, E, ce, e1, e2, hq, hce, hcv, hcl, h1, hL, h2, h3⟩, st⟩
  · dsimp only [Pt.U, Pt.locs, Pt.cells, Pt.slots] at X' e1 e2 h1 h2 h3 st
    subst h1; subst h2; subst h3
    exact Or.inl ⟨v, (T.setVm vm₁).calling g' mk (Value.ref b :: As).toArray, t, U', L, hT, X', hL, e1, e2, hq, st⟩
  · dsimp only [Pt.U, Pt.locs, Pt.cells, Pt.slots] at X' e1 e2 h1 h2 h3 st hcl
    subst h1; subst h2; subst h3
    exact Or.inr ⟨q, (T.setVm vm₁).calling g' mk (Value.ref b :: As).toArray, t, U', L, E, ce, hT, X', hL, e1, e2, hq, hce, hcv, vx_cls hW₁ hcl, st⟩
theorem vx_runS (S : CallFix p m c cc nL s args Ts own) (hM : vx_Met l y ws rm Pc Qc XC mc ms free) (cw : CallB R s args own index y bytes maxL ret ws rm mc ms n ∧ (Cond.static y).before args s = true) (hp : PreS s H Pc As)
    (hg : g.method = m) (hn : As.length = n) (hsize : g.locals.size = nL) (hstack : g.stack = As.reverse ++ rest) (hW : 2 * g.monitorRoom + (rest.map fun v => v.category).sum ≤ 8) (hdg : decode cc g.pc = .ok (.invokestatic index, 3)) (hf : cells + mc ≤ R.cells ∧ slots + ms ≤ R.slots) :
    vx_Run p l e R s m args below meth c H locs cells slots mc ms g rest (Qc As.toArray) XC free := by
  have hK : vx_Back l R p e below s args y 3 8 (PreOf R mc ms Pc) (PostOf Qc mc ms free) (vx_Post XC mc ms free) := vx_callBack cw.1 hM hp.1
  obtain ⟨⟨-, -, -, -, -, -, hcode, hini, hy, hlen, hl⟩, hstt⟩ := cw
  obtain ⟨hx, hb, hml, ho, -⟩ := S
  intro T hT X
  rcases vx_callS X hx (bytes := bytes) (maxL := maxL) (ret := ret) ho hl hstt hini hcode hy hK hg (hsize.trans hml.symm) (argsL := As) (rest := rest) (fun sig h => hn.trans (hlen sig h)) hstack hW (by rw [hb]; exact hdg)
    (fun vm₁ hW₁ => ⟨hf.1, hf.2, hp.2 (T.setVm vm₁) hT hW₁⟩) with ⟨v, vm₁, ⟨U', l2, c2, s2⟩, hW₁, X', ⟨g', mk, t, L, e1, e2, hq, h1, hL, h2, h3⟩, st⟩ | ⟨q, vm₁, ⟨U', l2, c2, s2⟩, hW₁, X', ⟨g', mk, t, L, E, ce, e1, e2, hq, hce, hcv, hcl, h1, hL, h2, h3⟩, st⟩
  · dsimp only [Pt.U, Pt.locs, Pt.cells, Pt.slots] at X' e1 e2 h1 h2 h3 st
    subst h1; subst h2; subst h3
    exact Or.inl ⟨v, (T.setVm vm₁).calling g' mk As.toArray, t, U', L, hT, X', hL, e1, e2, hq, st⟩
  · dsimp only [Pt.U, Pt.locs, Pt.cells, Pt.slots] at X' e1 e2 h1 h2 h3 st hcl
    subst h1; subst h2; subst h3
    exact Or.inr ⟨q, (T.setVm vm₁).calling g' mk As.toArray, t, U', L, E, ce, hT, X', hL, e1, e2, hq, hce, hcv, vx_cls hW₁ hcl, st⟩
end Runs
section Rows
variable {p : Program} {l : Launch} {e : Env} {R : Room} {s : State} {m : MethodId} {args : Array Value} {below : List Frame} {meth : Method} {c : Code} {H : Heap} {locs : List Loc} {cells slots : Nat} {Q : State → Prop}
variable {mc ms : Nat} {free : Addr → Prop} {A0 A1 : Nat → Prop} {H0 : Heap} {a : Array Value} {pc : Nat} {ls : Array Slot} {st0 rest : List Value}
theorem vx_keep {st₀ t T' : State} {L : List Loc} (h0 : st₀.heap = H) (e1 : T'.heap = t.heap) (hS : va_S A0 H0 H locs) (hA : ∀ q, q < H.size → A1 q → A0 q) (hf : ∀ q, free q → A0 q) (hL : ∀ q ∈ L, free q.base) (hF : va_F A1 st₀ t) :
    H.size ≤ T'.heap.size ∧ (∀ q : Nat, q < H.size → ¬ A1 q → T'.heap[q]? = H[q]?) ∧ va_S A0 H0 T'.heap (locs ++ L) := by
  obtain ⟨hz, hk⟩ := hF
  rw [h0] at hz hk
  exact ⟨by rw [e1]; exact hz, fun q h1 h2 => by rw [e1]; exact hk q h1 h2,
    ⟨Nat.le_trans hS.1 (by rw [e1]; exact hz), fun q h1 h2 => by rw [e1, hk q (Nat.lt_of_lt_of_le h1 hS.1) (fun z => h2 (hA q (Nat.lt_of_lt_of_le h1 hS.1) z))]; exact hS.2.1 q h1 h2, fun q hq => by
      rcases List.mem_append.mp hq with h | h
      · exact hS.2.2 q h
      · exact hf _ (hL q h)⟩⟩
theorem vx_calli {S SX : Type} {post : Int32 → S → Prop} {px : SX → Prop} {B : S → State → Prop} {BX : String → SX → State → Prop} {AX : Nat → Prop} (hr : vx_Run p l e R s m args below meth c H locs cells slots mc ms (F0 m pc ls st0) rest (va_Qi post B A1 a) (vx_X px BX AX) free) (hS : va_S A0 H0 H locs) (hA : ∀ q, q < H.size → A1 q → A0 q) (hf : ∀ q, free q → A0 q) (hAX : ∀ q, q < H.size → AX q → A0 q)
    (kx : ∀ (E : String) (ce : Cell) (q9 : Addr) (u : SX) (t : State) (H1 : Heap) (locs1 : List Loc), t.heap = H1 → s.vm.Alike t.vm → px u → BX E u t → H.size ≤ H1.size → (∀ q : Nat, q < H.size → ¬ AX q → H1[q]? = H[q]?) → va_S A0 H0 H1 locs1 → H1[q9]? = some ce → ce.vm = .none → s.vm.findClass E = some ce.cls → vx_W p l e R s m args below meth c H1 locs1 (cells + mc) (slots + ms) Q (F0 m pc ls rest) q9)
    (kk : ∀ (r : Int32) (u : S) (t : State) (H1 : Heap) (locs1 : List Loc), t.heap = H1 → s.vm.Alike t.vm → post r u → B u t → H.size ≤ H1.size → (∀ q : Nat, q < H.size → ¬ A1 q → H1[q]? = H[q]?) → va_S A0 H0 H1 locs1 → W p l e R s m args below meth c H1 locs1 (cells + mc) (slots + ms) Q (F0 m (pc + 3) ls (.int r :: rest))) : W p l e R s m args below meth c H locs cells slots Q (F0 m pc ls st0) := by
  intro T hT X
  rcases hr T hT X with ⟨v, st₀, t, T', L, h0, X', hL, e1, e2, ⟨⟨r, u, hv, hp, hb⟩, hF⟩, st⟩ | ⟨q, st₀, t, T', L, E, ce, h0, X', hL, e1, e2, ⟨u, hp, hb, hF⟩, hce, hcv, hcl, st⟩
  · cases hv
    obtain ⟨k1, k2, k3⟩ := vx_keep h0 e1 hS hA hf hL hF
    obtain ⟨t2, a1, b1⟩ := kk r u t T'.heap (locs ++ L) e1.symm (by rw [← e2]; exact X'.warmed.alike) hp hb k1 k2 k3 T' rfl X'
    exact ⟨t2, st t2 a1, b1⟩
  · obtain ⟨k1, k2, k3⟩ := vx_keep h0 e1 hS hAX hf hL hF
    obtain ⟨t2, a1, b1⟩ := kx E ce q u t T'.heap (locs ++ L) e1.symm (by rw [← e2]; exact X'.warmed.alike) hp hb k1 k2 k3 (by rw [e1]; exact hce) hcv hcl T' rfl X'
    exact ⟨t2, st.trans a1, b1⟩
theorem vx_calll {S SX : Type} {post : Int64 → S → Prop} {px : SX → Prop} {B : S → State → Prop} {BX : String → SX → State → Prop} {AX : Nat → Prop} (hr : vx_Run p l e R s m args below meth c H locs cells slots mc ms (F0 m pc ls st0) rest (va_Ql post B A1 a) (vx_X px BX AX) free) (hS : va_S A0 H0 H locs) (hA : ∀ q, q < H.size → A1 q → A0 q) (hf : ∀ q, free q → A0 q) (hAX : ∀ q, q < H.size → AX q → A0 q)
    (kx : ∀ (E : String) (ce : Cell) (q9 : Addr) (u : SX) (t : State) (H1 : Heap) (locs1 : List Loc), t.heap = H1 → s.vm.Alike t.vm → px u → BX E u t → H.size ≤ H1.size → (∀ q : Nat, q < H.size → ¬ AX q → H1[q]? = H[q]?) → va_S A0 H0 H1 locs1 → H1[q9]? = some ce → ce.vm = .none → s.vm.findClass E = some ce.cls → vx_W p l e R s m args below meth c H1 locs1 (cells + mc) (slots + ms) Q (F0 m pc ls rest) q9)
    (kk : ∀ (r : Int64) (u : S) (t : State) (H1 : Heap) (locs1 : List Loc), t.heap = H1 → s.vm.Alike t.vm → post r u → B u t → H.size ≤ H1.size → (∀ q : Nat, q < H.size → ¬ A1 q → H1[q]? = H[q]?) → va_S A0 H0 H1 locs1 → W p l e R s m args below meth c H1 locs1 (cells + mc) (slots + ms) Q (F0 m (pc + 3) ls (.long r :: rest))) : W p l e R s m args below meth c H locs cells slots Q (F0 m pc ls st0) := by
  intro T hT X
  rcases hr T hT X with ⟨v, st₀, t, T', L, h0, X', hL, e1, e2, ⟨⟨r, u, hv, hp, hb⟩, hF⟩, st⟩ | ⟨q, st₀, t, T', L, E, ce, h0, X', hL, e1, e2, ⟨u, hp, hb, hF⟩, hce, hcv, hcl, st⟩
  · cases hv
    obtain ⟨k1, k2, k3⟩ := vx_keep h0 e1 hS hA hf hL hF
    obtain ⟨t2, a1, b1⟩ := kk r u t T'.heap (locs ++ L) e1.symm (by rw [← e2]; exact X'.warmed.alike) hp hb k1 k2 k3 T' rfl X'
    exact ⟨t2, st t2 a1, b1⟩
  · obtain ⟨k1, k2, k3⟩ := vx_keep h0 e1 hS hAX hf hL hF
    obtain ⟨t2, a1, b1⟩ := kx E ce q u t T'.heap (locs ++ L) e1.symm (by rw [← e2]; exact X'.warmed.alike) hp hb k1 k2 k3 (by rw [e1]; exact hce) hcv hcl T' rfl X'
    exact ⟨t2, st.trans a1, b1⟩
theorem vx_callf {S SX : Type} {post : UInt32 → S → Prop} {px : SX → Prop} {B : S → State → Prop} {BX : String → SX → State → Prop} {AX : Nat → Prop} (hr : vx_Run p l e R s m args below meth c H locs cells slots mc ms (F0 m pc ls st0) rest (va_Qf post B A1 a) (vx_X px BX AX) free) (hS : va_S A0 H0 H locs) (hA : ∀ q, q < H.size → A1 q → A0 q) (hf : ∀ q, free q → A0 q) (hAX : ∀ q, q < H.size → AX q → A0 q)
    (kx : ∀ (E : String) (ce : Cell) (q9 : Addr) (u : SX) (t : State) (H1 : Heap) (locs1 : List Loc), t.heap = H1 → s.vm.Alike t.vm → px u → BX E u t → H.size ≤ H1.size → (∀ q : Nat, q < H.size → ¬ AX q → H1[q]? = H[q]?) → va_S A0 H0 H1 locs1 → H1[q9]? = some ce → ce.vm = .none → s.vm.findClass E = some ce.cls → vx_W p l e R s m args below meth c H1 locs1 (cells + mc) (slots + ms) Q (F0 m pc ls rest) q9)
    (kk : ∀ (r : UInt32) (u : S) (t : State) (H1 : Heap) (locs1 : List Loc), t.heap = H1 → s.vm.Alike t.vm → post r u → B u t → H.size ≤ H1.size → (∀ q : Nat, q < H.size → ¬ A1 q → H1[q]? = H[q]?) → va_S A0 H0 H1 locs1 → W p l e R s m args below meth c H1 locs1 (cells + mc) (slots + ms) Q (F0 m (pc + 3) ls (.float r :: rest))) : W p l e R s m args below meth c H locs cells slots Q (F0 m pc ls st0) := by
  intro T hT X
  rcases hr T hT X with ⟨v, st₀, t, T', L, h0, X', hL, e1, e2, ⟨⟨r, u, hv, hp, hb⟩, hF⟩, st⟩ | ⟨q, st₀, t, T', L, E, ce, h0, X', hL, e1, e2, ⟨u, hp, hb, hF⟩, hce, hcv, hcl, st⟩
  · cases hv
    obtain ⟨k1, k2, k3⟩ := vx_keep h0 e1 hS hA hf hL hF
    obtain ⟨t2, a1, b1⟩ := kk r u t T'.heap (locs ++ L) e1.symm (by rw [← e2]; exact X'.warmed.alike) hp hb k1 k2 k3 T' rfl X'
    exact ⟨t2, st t2 a1, b1⟩
  · obtain ⟨k1, k2, k3⟩ := vx_keep h0 e1 hS hAX hf hL hF
    obtain ⟨t2, a1, b1⟩ := kx E ce q u t T'.heap (locs ++ L) e1.symm (by rw [← e2]; exact X'.warmed.alike) hp hb k1 k2 k3 (by rw [e1]; exact hce) hcv hcl T' rfl X'
    exact ⟨t2, st.trans a1, b1⟩
theorem vx_calld {S SX : Type} {post : UInt64 → S → Prop} {px : SX → Prop} {B : S → State → Prop} {BX : String → SX → State → Prop} {AX : Nat → Prop} (hr : vx_Run p l e R s m args below meth c H locs cells slots mc ms (F0 m pc ls st0) rest (va_Qd post B A1 a) (vx_X px BX AX) free) (hS : va_S A0 H0 H locs) (hA : ∀ q, q < H.size → A1 q → A0 q) (hf : ∀ q, free q → A0 q) (hAX : ∀ q, q < H.size → AX q → A0 q)
    (kx : ∀ (E : String) (ce : Cell) (q9 : Addr) (u : SX) (t : State) (H1 : Heap) (locs1 : List Loc), t.heap = H1 → s.vm.Alike t.vm → px u → BX E u t → H.size ≤ H1.size → (∀ q : Nat, q < H.size → ¬ AX q → H1[q]? = H[q]?) → va_S A0 H0 H1 locs1 → H1[q9]? = some ce → ce.vm = .none → s.vm.findClass E = some ce.cls → vx_W p l e R s m args below meth c H1 locs1 (cells + mc) (slots + ms) Q (F0 m pc ls rest) q9)
    (kk : ∀ (r : UInt64) (u : S) (t : State) (H1 : Heap) (locs1 : List Loc), t.heap = H1 → s.vm.Alike t.vm → post r u → B u t → H.size ≤ H1.size → (∀ q : Nat, q < H.size → ¬ A1 q → H1[q]? = H[q]?) → va_S A0 H0 H1 locs1 → W p l e R s m args below meth c H1 locs1 (cells + mc) (slots + ms) Q (F0 m (pc + 3) ls (.double r :: rest))) : W p l e R s m args below meth c H locs cells slots Q (F0 m pc ls st0) := by
  intro T hT X
  rcases hr T hT X with ⟨v, st₀, t, T', L, h0, X', hL, e1, e2, ⟨⟨r, u, hv, hp, hb⟩, hF⟩, st⟩ | ⟨q, st₀, t, T', L, E, ce, h0, X', hL, e1, e2, ⟨u, hp, hb, hF⟩, hce, hcv, hcl, st⟩
  · cases hv
    obtain ⟨k1, k2, k3⟩ := vx_keep h0 e1 hS hA hf hL hF
    obtain ⟨t2, a1, b1⟩ := kk r u t T'.heap (locs ++ L) e1.symm (by rw [← e2]; exact X'.warmed.alike) hp hb k1 k2 k3 T' rfl X'
    exact ⟨t2, st t2 a1, b1⟩
  · obtain ⟨k1, k2, k3⟩ := vx_keep h0 e1 hS hAX hf hL hF
    obtain ⟨t2, a1, b1⟩ := kx E ce q u t T'.heap (locs ++ L) e1.symm (by rw [← e2]; exact X'.warmed.alike) hp hb k1 k2 k3 (by rw [e1]; exact hce) hcv hcl T' rfl X'
    exact ⟨t2, st.trans a1, b1⟩
theorem vx_callv {S SX : Type} {post : S → Prop} {px : SX → Prop} {B : S → State → Prop} {BX : String → SX → State → Prop} {AX : Nat → Prop} (hr : vx_Run p l e R s m args below meth c H locs cells slots mc ms (F0 m pc ls st0) rest (va_Qv post B A1 a) (vx_X px BX AX) free) (hS : va_S A0 H0 H locs) (hA : ∀ q, q < H.size → A1 q → A0 q) (hf : ∀ q, free q → A0 q) (hAX : ∀ q, q < H.size → AX q → A0 q)
    (kx : ∀ (E : String) (ce : Cell) (q9 : Addr) (u : SX) (t : State) (H1 : Heap) (locs1 : List Loc), t.heap = H1 → s.vm.Alike t.vm → px u → BX E u t → H.size ≤ H1.size → (∀ q : Nat, q < H.size → ¬ AX q → H1[q]? = H[q]?) → va_S A0 H0 H1 locs1 → H1[q9]? = some ce → ce.vm = .none → s.vm.findClass E = some ce.cls → vx_W p l e R s m args below meth c H1 locs1 (cells + mc) (slots + ms) Q (F0 m pc ls rest) q9)
    (kk : ∀ (u : S) (t : State) (H1 : Heap) (locs1 : List Loc), t.heap = H1 → s.vm.Alike t.vm → post u → B u t → H.size ≤ H1.size → (∀ q : Nat, q < H.size → ¬ A1 q → H1[q]? = H[q]?) → va_S A0 H0 H1 locs1 → W p l e R s m args below meth c H1 locs1 (cells + mc) (slots + ms) Q (F0 m (pc + 3) ls (rest))) : W p l e R s m args below meth c H locs cells slots Q (F0 m pc ls st0) := by
  intro T hT X
  rcases hr T hT X with ⟨v, st₀, t, T', L, h0, X', hL, e1, e2, ⟨⟨u, hv, hp, hb⟩, hF⟩, st⟩ | ⟨q, st₀, t, T', L, E, ce, h0, X', hL, e1, e2, ⟨u, hp, hb, hF⟩, hce, hcv, hcl, st⟩
  · cases hv
    obtain ⟨k1, k2, k3⟩ := vx_keep h0 e1 hS hA hf hL hF
    obtain ⟨t2, a1, b1⟩ := kk u t T'.heap (locs ++ L) e1.symm (by rw [← e2]; exact X'.warmed.alike) hp hb k1 k2 k3 T' rfl X'
    exact ⟨t2, st t2 a1, b1⟩
  · obtain ⟨k1, k2, k3⟩ := vx_keep h0 e1 hS hAX hf hL hF
    obtain ⟨t2, a1, b1⟩ := kx E ce q u t T'.heap (locs ++ L) e1.symm (by rw [← e2]; exact X'.warmed.alike) hp hb k1 k2 k3 (by rw [e1]; exact hce) hcv hcl T' rfl X'
    exact ⟨t2, st.trans a1, b1⟩
/-- caught by the row x of this method's table; the rows ahead don't take it -/
theorem vx_catch {own name : String} {E : String} {ce : Cell} {q : Addr} (hown : s.vm.findClass own = some m.cls) (pre : List ExceptionTableEntry) (x : ExceptionTableEntry) (suf : List ExceptionTableEntry) (hsplit : c.exceptionTable.toList = pre ++ x :: suf)
    (hpass : ∀ z ∈ pre, covers z pc = false ∨ (z.catchType ≠ 0 ∧ ∃ nm : String, (Cond.classLink own z.catchType nm).before args s = true ∧ va_Nc E nm s)) (hx : covers x pc = true) (h0 : x.catchType ≠ 0)
    (hlink : (Cond.classLink own x.catchType name).before args s = true) (hcast : (Cond.castable E name).before args s = true) (hcell : H[q]? = some ce) (hv : ce.vm = .none) (hcl : s.vm.findClass E = some ce.cls)
    (kk : W p l e R s m args below meth c H locs cells slots Q (F0 m x.handlerPc ls [.ref q])) : vx_W p l e R s m args below meth c H locs cells slots Q (F0 m pc ls rest) q := by
  intro T hT X
  have hpl : e.platform.magicAccessors = ({} : Platform).magicAccessors := by rw [X.admits.platform]
  obtain ⟨c3, c4, hc3, hc4, hasg⟩ := Cond.castable_spec hcast
  cases Option.some.inj (hc3.symm.trans hcl)
  obtain ⟨c5, hc5, hcl5⟩ := Cond.classLink_spec hown hlink e.platform hpl
  cases Option.some.inj (hc4.symm.trans hc5)
  obtain ⟨vm', X', st⟩ := X.thenCaughtThrough q (g := F0 m pc ls rest) rfl (Steps.refl _) (by rw [hT]; exact hcell) (by rw [hv]; rfl) (by obtain ⟨k9, h9, -⟩ := Vm.findClass_spec hcl; exact ⟨k9, h9⟩) pre x suf hsplit
    (fun z hz => by
      rcases hpass z hz with h | ⟨hz0, nm, hl1, hn1⟩
      · exact Or.inl h
      · obtain ⟨c6, hc6, hcl6⟩ := Cond.classLink_spec hown hl1 e.platform hpl
        obtain ⟨a8, b8, h1, h2, h3⟩ := hn1
        cases Option.some.inj (h1.symm.trans hcl)
        cases Option.some.inj (h2.symm.trans hc6)
        exact Or.inr ⟨hz0, _, hcl6, h3⟩) hx (Or.inr ⟨h0, c4, hcl5, hasg⟩)
  obtain ⟨t, a1, b1⟩ := kk (T.setVm vm') hT X'
  exact ⟨t, st.trans a1, b1⟩
end Rows
section Ends
variable {p : Program} {l : Launch} {e : Env} {R : Room} {s : State} {m : MethodId} {args : Array Value} {below : List Frame} {meth : Method} {c : Code} {H : Heap} {locs : List Loc} {cells slots : Nat} {Q : State → Prop}
variable {mc ms : Nat} {free : Addr → Prop} {A0 A1 : Nat → Prop} {H0 : Heap} {a : Array Value} {ls : Array Slot} {st0 rest : List Value}
variable {Qc : Array Value → State → Outcome → State → Prop} {XC : String → State → State → Prop}
/-- what a body that may throw owes at its end -/
def vx_MQ (below : List Frame) (Qc : Array Value → State → Outcome → State → Prop) (XC : String → State → State → Prop) (a : Array Value) (s : State) (mc ms : Nat) (free : Addr → Prop) : State → Prop := fun t =>
  ∃ o, t.status = .running ∧ Ended t below o ∧ vx_Q Qc XC mc ms free a s o t
theorem vx_ret {g : JFrame} {mc ms : Nat} (k : W p l e R s m args below meth c H locs cells slots (MQ below Qc args s mc ms free) g) : W p l e R s m args below meth c H locs cells slots (vx_MQ below Qc XC args s mc ms free) g := by
  intro T hT X
  obtain ⟨t, a1, o, b1, b2, b3, b4⟩ := k T hT X
  exact ⟨t, a1, o, b1, b2, Or.inl ⟨b3, b4⟩⟩
/-- not caught here: it goes on to the caller -/
theorem vx_widen {g : JFrame} {q : Addr} {k n : Nat} (h1 : cells ≤ k) (h2 : slots ≤ n) (kk : vx_W p l e R s m args below meth c H locs k n Q g q) : vx_W p l e R s m args below meth c H locs cells slots Q g q := fun T hT X => kk T hT (stand_widen X h1 h2)
theorem vx_out {pc : Nat} {E : String} {ce : Cell} {q : Addr} {mc ms : Nat} (hout : ∀ x ∈ c.exceptionTable.toList, covers x pc = false) (hlocks : meth.locks = false) (hcell : H[q]? = some ce) (hv : ce.vm = .none) (hcl : s.vm.findClass E = some ce.cls)
    (hx : ∀ t : State, t.heap = H → s.vm.Alike t.vm → XC E s t) (hf : ∀ z ∈ locs, free z.base) (hc : cells ≤ mc) (hs : slots ≤ ms) :
    vx_W p l e R s m args below meth c H locs cells slots (vx_MQ below Qc XC args s mc ms free) (F0 m pc ls rest) q := by
  intro T hT X
  obtain ⟨st1, hrun, hend, hW, hsm⟩ := X.leaveThrown q (g := F0 m pc ls rest) rfl rfl rfl hout hlocks
  have hcell9 : (T.setFrames (.throwing q :: below)).heap[q]? = some ce := by
    show T.heap[q]? = some ce
    rw [hT]; exact hcell
  exact ⟨_, st1, .threw q, hrun, hend, Or.inr ⟨q, rfl, E, ce, locs, hx _ hT hW.alike, hcell9, hv, hcl, hW, hsm.mono hc hs, hf⟩⟩
theorem vx_frame {U : State} {k n : Nat} (h : s.sameButNew ({ U with vm := s.vm } : State) locs k n) : s.heap.size ≤ U.heap.size ∧ ∀ q : Nat, q < s.heap.size → (∀ z ∈ locs, z.base ≠ q) → U.heap[q]? = s.heap[q]? := by
  obtain ⟨-, h2, -, -, -, h6⟩ := h
  refine ⟨h2, fun q hq hz => ?_⟩
  obtain ⟨c9, e1, e2, e3, e4⟩ := h6 q _ (Array.getElem?_eq_getElem hq)
  have hs : c9.slots = (s.heap[q]).slots := Array.ext_getElem? fun i => e4 i fun hm => hz _ hm rfl
  have h9 : c9 = s.heap[q] := by
    rw [hs] at e2
    exact e2
  have e5 : U.heap[q]? = some c9 := e1
  rw [e5, h9, Array.getElem?_eq_getElem hq]
/-- the words of a throw but the four that speak of the heap -/
def vx_no (w : Cond) : Bool := decide (w ≠ .isRef (.static Bundle.tN "UNASSIGNED_STACK" Bundle.steD)) && decide (w ≠ .isRef (.static Bundle.tN "SUPPRESSED_SENTINEL" Bundle.listD)) && decide (w ≠ .laysStatic Bundle.tN "UNASSIGNED_STACK" Bundle.steD) && decide (w ≠ .laysStatic Bundle.tN "SUPPRESSED_SENTINEL" Bundle.listD)
def vx_at0 (own : String) (ic : Nat) (X : String) (names : List String) : List Cond := (Bundle.ownAtoms0 own ic X names).filter vx_no
def vx_atS (own : String) (ic : Nat) (X : String) (names : List String) : List Cond := (Bundle.ownAtoms own ic X names).filter vx_no
/-- a word that the tables alone decide, or a good one -/
def vx_ot (w : Cond) : Bool := w.onTables || goodWord w
theorem vx_ot_at {args a' : Array Value} {s U : State} {w : Cond} (hW : s.WarmedH U.vm) (hvm : s.vm = U.vm) (hg : vx_ot w = true) (h : w.before args s = true) : w.before a' U = true := by
  simp only [vx_ot, Bool.or_eq_true] at hg
  rcases hg with hg | hg
  · exact va_tabs hg hvm h
  · exact word_at hW (good_of_word hg) h
/-- a list's words: the good ones out of the method's own list, the others by premises of their own -/
theorem vx_hat {args : Array Value} {s : State} {L B : List Cond} (h1 : ∀ w ∈ L.filter goodWord, w.before args s = true) (h2 : ∀ w ∈ L.filter (fun w => !goodWord w), w ∈ B) (h3 : ∀ w ∈ B, w.before args s = true) : ∀ w ∈ L, w.before args s = true := by
  intro w hw
  by_cases g : goodWord w = true
  · exact h1 w (List.mem_filter.mpr ⟨hw, g⟩)
  · refine h3 w (h2 w (List.mem_filter.mpr ⟨hw, ?_⟩))
    show (!goodWord w) = true
    cases hgw : goodWord w
    · rfl
    · exact absurd hgw g
theorem vx_c {args : Array Value} {s : State} {w : Cond} {B : List Cond} (h : w.before args s = true) (t : ∀ w ∈ B, w.before args s = true) : ∀ w' ∈ w :: B, w'.before args s = true := fun w' h' => (List.mem_cons.mp h').elim (fun e => by rw [e]; exact h) (t w')
theorem vx_n {args : Array Value} {s : State} : ∀ w ∈ ([] : List Cond), w.before args s = true := fun _ h => nomatch h
theorem vx_own {args : Array Value} {s : State} {L : List Cond} (h1 : ∀ w ∈ L.filter vx_no, w.before args s = true)
    (hU : (Cond.isRef (.static Bundle.tN "UNASSIGNED_STACK" Bundle.steD)).before args s = true) (hN : (Cond.isRef (.static Bundle.tN "SUPPRESSED_SENTINEL" Bundle.listD)).before args s = true)
    (lU : (Cond.laysStatic Bundle.tN "UNASSIGNED_STACK" Bundle.steD).before args s = true) (lN : (Cond.laysStatic Bundle.tN "SUPPRESSED_SENTINEL" Bundle.listD).before args s = true) : ∀ w ∈ L, w.before args s = true := by
  intro w hw
  by_cases e1 : w = .isRef (.static Bundle.tN "UNASSIGNED_STACK" Bundle.steD)
  · rw [e1]; exact hU
  · by_cases e2 : w = .isRef (.static Bundle.tN "SUPPRESSED_SENTINEL" Bundle.listD)
    · rw [e2]; exact hN
    · by_cases e3 : w = .laysStatic Bundle.tN "UNASSIGNED_STACK" Bundle.steD
      · rw [e3]; exact lU
      · by_cases e4 : w = .laysStatic Bundle.tN "SUPPRESSED_SENTINEL" Bundle.listD
        · rw [e4]; exact lN
        · exact h1 w (List.mem_filter.mpr ⟨hw, by unfold vx_no; rw [decide_eq_true e1, decide_eq_true e2, decide_eq_true e3, decide_eq_true e4]; rfl⟩)
/-- where a static field lies, its class's statics cell in H -/
def vx_L (C n d : String) (A : Nat → Prop) (U : State) (H : Heap) : Prop := ∃ (c : ClassId) (k : Class) (i : Nat) (f : Field) (a : Nat) (cell : Cell), U.vm.findClass C = some c ∧ U.fieldFound? C n d = some (c, k, i, f) ∧ f.isStatic = true ∧ k.statics = some a ∧ H[a]? = some cell ∧ cell.vm.isStatics = true ∧ cell.cls = c ∧ f.slot < cell.slots.size ∧ k.staticTypes[f.slot]? = some f.type ∧ ¬ A a
theorem vx_L.moved {C n d : String} {A : Nat → Prop} {u U : State} {H : Heap} (hvm : u.vm.Alike U.vm) (h : vx_L C n d A u H) : vx_L C n d A U H := by
  obtain ⟨c, k, i, f, a, cell, h1, h2, h3, h4, h5, h6, h7, h8, h9, h10⟩ := h
  obtain ⟨k', hi', he⟩ := State.fieldFound?_setVm hvm h2
  exact ⟨c, k', i, f, a, cell, by rw [hvm.findClass]; exact h1, hi', h3, by rw [he]; exact h4, h5, h6, h7, h8, by rw [he]; exact h9, h10⟩
theorem vx_L.kept {C n d : String} {A : Nat → Prop} {U : State} {H H1 : Heap} (h : vx_L C n d A U H) (hq : ∀ a : Nat, a < H.size → ¬ A a → H1[a]? = H[a]?) : vx_L C n d A U H1 := by
  obtain ⟨c, k, i, f, a, cell, h1, h2, h3, h4, h5, h6, h7, h8, h9, h10⟩ := h
  exact ⟨c, k, i, f, a, cell, h1, h2, h3, h4, by rw [hq a (Array.getElem?_eq_some_iff.mp h5).1 h10]; exact h5, h6, h7, h8, h9, h10⟩
theorem vx_L.narrow {C n d : String} {A B : Nat → Prop} {U : State} {H : Heap} (h : vx_L C n d A U H) (hAB : ∀ q, B q → A q) : vx_L C n d B U H := by
  obtain ⟨c, k, i, f, a, cell, h1, h2, h3, h4, h5, h6, h7, h8, h9, h10⟩ := h
  exact ⟨c, k, i, f, a, cell, h1, h2, h3, h4, h5, h6, h7, h8, h9, fun z => h10 (hAB _ z)⟩
theorem vx_L.word {C n d : String} {A : Nat → Prop} {s : State} {args : Array Value} (h : vx_L C n d A s s.heap) : (Cond.laysStatic C n d).before args s = true := by
  obtain ⟨c, k, i, f, a, cell, h1, h2, h3, h4, h5, h6, h7, h8, h9, -⟩ := h
  show (Cond.laysStatic C n d).holds args s none s [] = true
  exact Cond.laysStatic_of h1 h2 h3 h4 h5 h6 h7 h8 h9
/-- .. and what it holds: null or some reference -/
def vx_Zq (C n d : String) (A : Nat → Prop) (U : State) (H : Heap) : Prop := va_Zq C n d A U H ∧ vx_L C n d A U H
theorem vx_Zq.moved {C n d : String} {A : Nat → Prop} {u U : State} {H : Heap} (hvm : u.vm.Alike U.vm) (h : vx_Zq C n d A u H) : vx_Zq C n d A U H := ⟨va_Zq.moved hvm h.1, vx_L.moved hvm h.2⟩
theorem vx_Zq.kept {C n d : String} {A : Nat → Prop} {U : State} {H H1 : Heap} (h : vx_Zq C n d A U H) (hq : ∀ a : Nat, a < H.size → ¬ A a → H1[a]? = H[a]?) : vx_Zq C n d A U H1 := ⟨va_Zq.kept h.1 hq, vx_L.kept h.2 hq⟩
theorem vx_Zq.narrow {C n d : String} {A B : Nat → Prop} {U : State} {H : Heap} (h : vx_Zq C n d A U H) (hAB : ∀ q, B q → A q) : vx_Zq C n d B U H := ⟨va_Zq.narrow h.1 hAB, vx_L.narrow h.2 hAB⟩
theorem vx_Zqof {args : Array Value} {s : State} {C n d : String} {A : Nat → Prop} (hl : (Cond.laysStatic C n d).before args s = true) (hini : (Cond.initialized C).before args s = true) (h : (Cond.isRef (.static C n d)).before args s = true) (hA : ∀ a : Nat, a < s.heap.size → ¬ A a) : vx_Zq C n d A s s.heap := by
  refine ⟨va_Zqof hl hini h hA, ?_⟩
  obtain ⟨c, k, i, f, a, cell, h1, h2, h3, h4, h5, h6, h7, h8, h9⟩ := Cond.laysStatic_spec hl
  exact ⟨c, k, i, f, a, cell, h1, h2, h3, h4, h5, h6, h7, h8, h9, hA a (Array.getElem?_eq_some_iff.mp h5).1⟩
theorem vx_isRef {C n d : String} {v : Value} {A : Nat → Prop} {s : State} {args : Array Value} (h : va_Z C n d v A s s.heap) (hv : v.isRef = true) : (Cond.isRef (.static C n d)).before args s = true := by
  obtain ⟨cf, kf, fi, f, a, cell, h1, h2, h3, h4, h5, h6, h7, -⟩ := h
  have he : (Term.static C n d).eval args s none [] s = some v := by
    simp [Term.eval, State.fieldNamed?, h1, h2, h4, h5, h6, h7]
  simp only [Cond.before, Cond.holds, Cond.value, he]
  cases v <;> simp_all [Value.isRef]
theorem vx_isRefq {C n d : String} {A : Nat → Prop} {s : State} {args : Array Value} (h : va_Zq C n d A s s.heap) : (Cond.isRef (.static C n d)).before args s = true := by
  rcases h with h | ⟨t, h⟩
  · exact vx_isRef h rfl
  · exact vx_isRef h rfl
/-- the same frame, seen from here: as if the method were called anew in this heap -/
theorem vx_rebase {T : State} (X : Stand p l e R s m args below meth c T locs cells slots) {R' : Room} (hf : R'.frames ≤ R.frames) (hl : R'.locals ≤ R.locals) (hc : cells + R'.cells ≤ R.cells) (hs : slots + R'.slots ≤ R.slots) :
    Stand p l e R' ((T.setVm s.vm).setFrames (.invoking m args :: below)) m args below meth c T [] 0 0 := by
  have htop : (T.setVm s.vm).topJava?.isSome := X.here.top
  have hF : ((T.setVm s.vm).setFrames (.invoking m args :: below)).frames = .invoking m args :: below := State.frames_setFrames _ (State.cur_lt_of_top htop)
  obtain ⟨g₀, hg0⟩ := Option.isSome_iff_exists.mp htop
  obtain ⟨r, hr⟩ := State.topJava?_eq_some.mp hg0
  have hl9 : e.platform.stackLimits (T.setVm s.vm).me = e.platform.stackLimits s.me := X.limits
  have hb9 : (T.setVm s.vm).me.stackBytes = s.me.stackBytes := X.bytes
  refine ⟨X.admits, X.cas, X.clock, hF, ?_, X.hears, X.method, X.code, X.here, X.tail, X.warmed, ?_, ?_, ?_⟩
  · have h := X.room
    have hU : ((T.setVm s.vm).setFrames (.invoking m args :: below)).localsInUse = s.localsInUse := by
      rw [State.localsInUse_invoking hF (meth := meth) (c := c) X.method X.code, State.localsInUse_invoking X.frames X.method X.code]
    simp only [State.hasRoom, Bool.and_eq_true, decide_eq_true_eq] at h ⊢
    obtain ⟨⟨⟨⟨h1, h2, h3, h4, h5, h6⟩, h7⟩, h8⟩, h9⟩ := h
    rw [X.frames, List.length_cons] at h2 h3
    have q1 := X.heapSize
    have q2 := X.used
    simp only [hF, hU, List.length_cons, State.stackLimits_setFrames, State.stackBytes_setFrames, hl9, hb9]
    refine ⟨⟨⟨⟨by omega, by omega, by omega, by omega, by omega, h6⟩, ?_⟩, ?_⟩, X.book⟩
    · show T.heap.size + R'.cells ≤ e.platform.maxCells
      omega
    · show T.slotsUsed + R'.slots ≤ e.platform.maxSlots
      omega
  · rw [State.stackLimits_setFrames]; rfl
  · rw [State.stackBytes_setFrames]; rfl
  · refine ⟨?_, Nat.le_refl _, Nat.le_refl _, ?_, ?_, fun a c9 h9 => ⟨c9, h9, rfl, rfl, fun _ _ => rfl⟩⟩
    · obtain ⟨t, ht, -⟩ := State.frames_cons hr
      show T.setVm s.vm = { ((T.setVm s.vm).setFrames (.invoking m args :: below)).setFrames (T.setVm s.vm).frames with heap := T.heap, slotsUsed := T.slotsUsed }
      rw [State.setFrames_setFrames, State.setFrames_self ht]
      rfl
    · show T.slotsUsed = T.slotsUsed + ((T.heap.toList.drop T.heap.size).map (·.slots.size)).sum
      rw [List.drop_eq_nil_of_le (Nat.le_of_eq Array.length_toList)]
      rfl
    · show ((T.heap.toList.drop T.heap.size).map (·.slots.size)).sum ≤ 0
      rw [List.drop_eq_nil_of_le (Nat.le_of_eq Array.length_toList)]
      exact Nat.le_refl _
/-- 'throw new E()': new; dup; invokespecial; athrow -/
theorem vx_throw0 {cc : ByteArray} {pc : Nat} (hexec : p.tables.exec = Jvm.exec) (hb : c.code = cc) (hl : l.stackTraces = false) {own cls : String} {names : List String} {ik ic mc ms : Nat} {A : Nat → Prop}
    (hown : s.vm.findClass own = some m.cls) (hcls : Bundle.fit cls = true) (hnames : ∀ n ∈ names, Bundle.fit n = true)
    (hk : (Cond.classLink own ik cls).before args s = true) (hini : (Cond.initialized cls).before args s = true) (hat : ∀ w ∈ vx_at0 own ic cls names, w.before args s = true)
    (hgood : ∀ w ∈ Cond.classLink own ik cls :: Cond.initialized cls :: vx_at0 own ic cls names, vx_ot w = true)
    (hU : vx_Zq Bundle.tN "UNASSIGNED_STACK" Bundle.steD A s s.heap) (hN : vx_Zq Bundle.tN "SUPPRESSED_SENTINEL" Bundle.listD A s s.heap) (hS : va_S A s.heap H locs) (hsize : ls.size = c.maxLocals)
    (d0 : decode cc pc = .ok (.new ik, 3)) (d3 : decode cc (pc + 3) = .ok (.dup, 1)) (d4 : decode cc (pc + 4) = .ok (.invokespecial ic, 3)) (d7 : decode cc (pc + 7) = .ok (.athrow, 1))
    (hout : ∀ x ∈ c.exceptionTable.toList, covers x (pc + 7) = false)
    (hRframes : names.length + 3 < R.frames) (hRlocals : (rest.map fun v => v.category).sum + (13 * (names.length + 1) + 42) ≤ R.locals) (hRcells : cells + 1 ≤ R.cells) (hRslots : slots + 6 ≤ R.slots) (hlocks : meth.locks = false)
    (hx : ∀ t : State, s.vm.Alike t.vm → H.size ≤ t.heap.size → (∀ q : Nat, q < H.size → t.heap[q]? = H[q]?) → XC cls s t)
    (hf : ∀ z ∈ locs, free z.base) (hc : cells + 1 ≤ mc) (hs : slots + 6 ≤ ms) :
    W p l e R s m args below meth c H locs cells slots (vx_MQ below Qc XC args s mc ms free) (F0 m pc ls rest) := by
  intro T hT X
  have htr : e.platform.stackTraces = false := (show e.platform.stackTraces = l.stackTraces by rw [X.admits.platform]).trans hl
  have Y := vx_rebase X (R' := { frames := R.frames, locals := R.locals, cells := 1, slots := 6 }) (Nat.le_refl _) (Nat.le_refl _) hRcells hRslots
  obtain ⟨s', hA⟩ : ∃ z, z = (T.setVm s.vm).setFrames (.invoking m args :: below) := ⟨_, rfl⟩
  rw [← hA] at Y
  have hvm : s'.vm = s.vm := by rw [hA]; rfl
  have hhp : s'.heap = H := by rw [hA]; exact hT
  have hW0 : s.WarmedH s'.vm := by rw [hvm]; exact State.WarmedH.refl s
  have hat' : ∀ w ∈ vx_at0 own ic cls names, w.before args s' = true := fun w hw => vx_ot_at hW0 hvm.symm (hgood w (List.mem_cons_of_mem _ (List.mem_cons_of_mem _ hw))) (hat w hw)
  have hk' : (Cond.classLink own ik cls).before args s' = true := vx_ot_at hW0 hvm.symm (hgood _ List.mem_cons_self) hk
  have hini' : (Cond.initialized cls).before args s' = true := vx_ot_at hW0 hvm.symm (hgood _ (List.mem_cons_of_mem _ List.mem_cons_self)) hini
  have hU' : vx_Zq Bundle.tN "UNASSIGNED_STACK" Bundle.steD A s' s'.heap := by rw [hhp]; exact vx_Zq.moved hW0.alike (hU.kept hS.2.1)
  have hN' : vx_Zq Bundle.tN "SUPPRESSED_SENTINEL" Bundle.listD A s' s'.heap := by rw [hhp]; exact vx_Zq.moved hW0.alike (hN.kept hS.2.1)
  have h : ∀ w ∈ Bundle.ownAtoms0 own ic cls names, w.before args s' = true := vx_own hat' (vx_isRefq hU'.1) (vx_isRefq hN'.1) hU'.2.word hN'.2.word
  have hown' : s'.vm.findClass own = some m.cls := by rw [hvm]; exact hown
  have hins : (Cond.instantiable cls 6).before args s' = true := h _ (by simp [Bundle.ownAtoms0])
  obtain ⟨vm₁, cX, kX, hfX, hkX, -, -, X₁, st1⟩ := Y.newCold hexec (own := own) (C := cls) (index := ik) (n := 6) hown' hk' hins hini'
    (g := F0 m pc ls rest) rfl (by rw [hb]; exact d0) (Nat.le_refl _) (Nat.le_refl _)
  generalize hT1 : (T.setVm vm₁).pushCell { cls := cX, slots := kX.instanceTypes.map defaultValue, vm := .none } = T1 at X₁ st1
  have hcat : (Value.ref T.heap.size).category = 1 := rfl
  have hcellA : T1.heap[T.heap.size]? = some (freshCell cX kX) := by rw [← hT1]; exact State.heap_pushCell_size _ _
  have d3' : decode c.code (pc + 3) = .ok (.dup, 1) := by rw [hb]; exact d3
  obtain ⟨U, hsteps, hrun, hend, hW, hsame, ce, hce, hO⟩ := X₁.ctorThrow0 hexec htr (own := own) (cls := cls) (names := names) (ic := ic) hown' hcls hnames h (fun x hx => nomatch hx) hfX hkX hcellA (by rw [hhp, hT]; exact Nat.le_refl _)
    (g := { method := m, pc := pc + 4, locals := ls, stack := .ref T.heap.size :: .ref T.heap.size :: rest, locked := none }) rfl hsize rfl rfl (rest := rest) rfl
    (by rw [hb]; exact d4) (by rw [hb]; exact d7) hout hRframes (by simp only [List.map_cons, List.sum_cons, hcat]; omega) hlocks
  obtain ⟨f1, f2⟩ := vx_frame hsame
  rw [hhp] at f1 f2
  have hWs : s.WarmedH U.vm := State.WarmedH.trans hW0 hW
  have hcl : s.vm.findClass cls = some ce.cls := by
    have h9 := hO.cls
    rw [hvm] at h9
    exact h9
  have hall : s.sameButNew ({ U with vm := s.vm } : State) locs mc ms := by
    subst hA
    obtain ⟨e1, e2⟩ := hsame
    rw [State.setFrames_setFrames] at e1
    have h2 : (T.setVm s.vm).sameButNew ({ U with vm := s.vm } : State) [] (0 + 1) (0 + 6) := ⟨e1, e2⟩
    have h3 := X.same.trans h2
    rw [List.append_nil] at h3
    exact h3.mono hc hs
  refine ⟨U, ?_, .threw T.heap.size, hrun, hend, Or.inr ⟨T.heap.size, rfl, cls, ce, locs, hx U hWs.alike f1 (fun q hq => f2 q hq (fun z hz => nomatch hz)), hce, hO.vm, hcl, hWs, hall, hf⟩⟩
  refine st1 _ ?_
  show Steps p.tables e below (T1.setTop { method := m, pc := pc + 3, locals := ls, stack := .ref T.heap.size :: rest, locked := none }) _
  jvm_step X₁.here [X₁.here.top, hexec, d3', Value.category]
  exact hsteps
/-- 'throw new E("text")': new; dup; ldc; invokespecial; athrow -/
theorem vx_throwS {cc : ByteArray} {pc : Nat} (hexec : p.tables.exec = Jvm.exec) (hb : c.code = cc) (hl : l.stackTraces = false) {own cls text : String} {names : List String} {ik is ic mc ms sa : Nat} {A : Nat → Prop}
    (hown : s.vm.findClass own = some m.cls) (hcls : Bundle.fit cls = true) (hnames : ∀ n ∈ names, Bundle.fit n = true)
    (hk : (Cond.classLink own ik cls).before args s = true) (hini : (Cond.initialized cls).before args s = true) (hstr : vk_R own is text sa s) (hat : ∀ w ∈ vx_atS own ic cls names, w.before args s = true)
    (hgood : ∀ w ∈ Cond.classLink own ik cls :: Cond.initialized cls :: vx_atS own ic cls names, vx_ot w = true)
    (hU : vx_Zq Bundle.tN "UNASSIGNED_STACK" Bundle.steD A s s.heap) (hN : vx_Zq Bundle.tN "SUPPRESSED_SENTINEL" Bundle.listD A s s.heap) (hS : va_S A s.heap H locs) (hsize : ls.size = c.maxLocals)
    (d0 : decode cc pc = .ok (.new ik, 3)) (d3 : decode cc (pc + 3) = .ok (.dup, 1)) (d4 : decode cc (pc + 4) = .ok (.ldc is, 2)) (d6 : decode cc (pc + 6) = .ok (.invokespecial ic, 3)) (d9 : decode cc (pc + 9) = .ok (.athrow, 1))
    (hout : ∀ x ∈ c.exceptionTable.toList, covers x (pc + 9) = false)
    (hRframes : names.length + 3 < R.frames) (hRlocals : (rest.map fun v => v.category).sum + (13 * (names.length + 1) + 43) ≤ R.locals) (hRcells : cells + 1 ≤ R.cells) (hRslots : slots + 6 ≤ R.slots) (hlocks : meth.locks = false)
    (hx : ∀ t : State, s.vm.Alike t.vm → H.size ≤ t.heap.size → (∀ q : Nat, q < H.size → t.heap[q]? = H[q]?) → XC cls s t)
    (hf : ∀ z ∈ locs, free z.base) (hc : cells + 1 ≤ mc) (hs : slots + 6 ≤ ms) :
    W p l e R s m args below meth c H locs cells slots (vx_MQ below Qc XC args s mc ms free) (F0 m pc ls rest) := by
  intro T hT X
  have htr : e.platform.stackTraces = false := (show e.platform.stackTraces = l.stackTraces by rw [X.admits.platform]).trans hl
  have Y := vx_rebase X (R' := { frames := R.frames, locals := R.locals, cells := 1, slots := 6 }) (Nat.le_refl _) (Nat.le_refl _) hRcells hRslots
  obtain ⟨s', hA⟩ : ∃ z, z = (T.setVm s.vm).setFrames (.invoking m args :: below) := ⟨_, rfl⟩
  rw [← hA] at Y
  have hvm : s'.vm = s.vm := by rw [hA]; rfl
  have hhp : s'.heap = H := by rw [hA]; exact hT
  have hW0 : s.WarmedH s'.vm := by rw [hvm]; exact State.WarmedH.refl s
  have hat' : ∀ w ∈ vx_atS own ic cls names, w.before args s' = true := fun w hw => vx_ot_at hW0 hvm.symm (hgood w (List.mem_cons_of_mem _ (List.mem_cons_of_mem _ hw))) (hat w hw)
  have hk' : (Cond.classLink own ik cls).before args s' = true := vx_ot_at hW0 hvm.symm (hgood _ List.mem_cons_self) hk
  have hini' : (Cond.initialized cls).before args s' = true := vx_ot_at hW0 hvm.symm (hgood _ (List.mem_cons_of_mem _ List.mem_cons_self)) hini
  have hU' : vx_Zq Bundle.tN "UNASSIGNED_STACK" Bundle.steD A s' s'.heap := by rw [hhp]; exact vx_Zq.moved hW0.alike (hU.kept hS.2.1)
  have hN' : vx_Zq Bundle.tN "SUPPRESSED_SENTINEL" Bundle.listD A s' s'.heap := by rw [hhp]; exact vx_Zq.moved hW0.alike (hN.kept hS.2.1)
  have h : ∀ w ∈ Bundle.ownAtoms own ic cls names, w.before args s' = true := vx_own hat' (vx_isRefq hU'.1) (vx_isRefq hN'.1) hU'.2.word hN'.2.word
  have hown' : s'.vm.findClass own = some m.cls := by rw [hvm]; exact hown
  have hins : (Cond.instantiable cls 6).before args s' = true := h _ (by simp [Bundle.ownAtoms])
  obtain ⟨vm₁, cX, kX, hfX, hkX, -, -, X₁, st1⟩ := Y.newCold hexec (own := own) (C := cls) (index := ik) (n := 6) hown' hk' hins hini'
    (g := F0 m pc ls rest) rfl (by rw [hb]; exact d0) (Nat.le_refl _) (Nat.le_refl _)
  generalize hT1 : (T.setVm vm₁).pushCell { cls := cX, slots := kX.instanceTypes.map defaultValue, vm := .none } = T1 at X₁ st1
  have hcat : (Value.ref T.heap.size).category = 1 := rfl
  have hcellA : T1.heap[T.heap.size]? = some (freshCell cX kX) := by rw [← hT1]; exact State.heap_pushCell_size _ _
  have d3' : decode c.code (pc + 3) = .ok (.dup, 1) := by rw [hb]; exact d3
  have d4' : decode c.code (pc + 4) = .ok (.ldc is, 2) := by rw [hb]; exact d4
  have hstr' : vk_R own is text sa s' := vk_R.warm hW0 hstr
  obtain ⟨U, hsteps, hrun, hend, hW, hsame, ce, hce, hO⟩ := X₁.ctorThrowS hexec htr (own := own) (cls := cls) (names := names) (ic := ic) hown' hcls hnames h (fun x hx => nomatch hx) hfX hkX hcellA (by rw [hhp, hT]; exact Nat.le_refl _) (msg := .ref sa) rfl
    (g := { method := m, pc := pc + 6, locals := ls, stack := .ref sa :: .ref T.heap.size :: .ref T.heap.size :: rest, locked := none }) rfl hsize rfl rfl (rest := rest) rfl
    (by rw [hb]; exact d6) (by rw [hb]; exact d9) hout hRframes (by simp only [List.map_cons, List.sum_cons, hcat]; omega) hlocks
  obtain ⟨f1, f2⟩ := vx_frame hsame
  rw [hhp] at f1 f2
  have hWs : s.WarmedH U.vm := State.WarmedH.trans hW0 hW
  have hcl : s.vm.findClass cls = some ce.cls := by
    have h9 := hO.cls
    rw [hvm] at h9
    exact h9
  have hall : s.sameButNew ({ U with vm := s.vm } : State) locs mc ms := by
    subst hA
    obtain ⟨e1, e2⟩ := hsame
    rw [State.setFrames_setFrames] at e1
    have h2 : (T.setVm s.vm).sameButNew ({ U with vm := s.vm } : State) [] (0 + 1) (0 + 6) := ⟨e1, e2⟩
    have h3 := X.same.trans h2
    rw [List.append_nil] at h3
    exact h3.mono hc hs
  refine ⟨U, ?_, .threw T.heap.size, hrun, hend, Or.inr ⟨T.heap.size, rfl, cls, ce, locs, hx U hWs.alike f1 (fun q hq => f2 q hq (fun z hz => nomatch hz)), hce, hO.vm, hcl, hWs, hall, hf⟩⟩
  refine st1 _ ?_
  show Steps p.tables e below (T1.setTop { method := m, pc := pc + 3, locals := ls, stack := .ref T.heap.size :: rest, locked := none }) _
  jvm_step X₁.here [X₁.here.top, hexec, d3', Value.category]
  exact X₁.ldcString hexec (own := own) (text := text) (index := is) (a := sa) hown' hstr'.1 hstr'.2
    (g := { method := m, pc := pc + 4, locals := ls, stack := .ref T.heap.size :: .ref T.heap.size :: rest, locked := none }) rfl d4' _ hsteps
/-- 'throw new E("text")', the text by a wide index -/
theorem vx_throwSW {cc : ByteArray} {pc : Nat} (hexec : p.tables.exec = Jvm.exec) (hb : c.code = cc) (hl : l.stackTraces = false) {own cls text : String} {names : List String} {ik is ic mc ms sa : Nat} {A : Nat → Prop}
    (hown : s.vm.findClass own = some m.cls) (hcls : Bundle.fit cls = true) (hnames : ∀ n ∈ names, Bundle.fit n = true)
    (hk : (Cond.classLink own ik cls).before args s = true) (hini : (Cond.initialized cls).before args s = true) (hstr : vk_R own is text sa s) (hat : ∀ w ∈ vx_atS own ic cls names, w.before args s = true)
    (hgood : ∀ w ∈ Cond.classLink own ik cls :: Cond.initialized cls :: vx_atS own ic cls names, vx_ot w = true)
    (hU : vx_Zq Bundle.tN "UNASSIGNED_STACK" Bundle.steD A s s.heap) (hN : vx_Zq Bundle.tN "SUPPRESSED_SENTINEL" Bundle.listD A s s.heap) (hS : va_S A s.heap H locs) (hsize : ls.size = c.maxLocals)
    (d0 : decode cc pc = .ok (.new ik, 3)) (d3 : decode cc (pc + 3) = .ok (.dup, 1)) (d4 : decode cc (pc + 4) = .ok (.ldc_w is, 3)) (d7 : decode cc (pc + 7) = .ok (.invokespecial ic, 3)) (d10 : decode cc (pc + 10) = .ok (.athrow, 1))
    (hout : ∀ x ∈ c.exceptionTable.toList, covers x (pc + 10) = false)
    (hRframes : names.length + 3 < R.frames) (hRlocals : (rest.map fun v => v.category).sum + (13 * (names.length + 1) + 43) ≤ R.locals) (hRcells : cells + 1 ≤ R.cells) (hRslots : slots + 6 ≤ R.slots) (hlocks : meth.locks = false)
    (hx : ∀ t : State, s.vm.Alike t.vm → H.size ≤ t.heap.size → (∀ q : Nat, q < H.size → t.heap[q]? = H[q]?) → XC cls s t)
    (hf : ∀ z ∈ locs, free z.base) (hc : cells + 1 ≤ mc) (hs : slots + 6 ≤ ms) :
    W p l e R s m args below meth c H locs cells slots (vx_MQ below Qc XC args s mc ms free) (F0 m pc ls rest) := by
  intro T hT X
  have htr : e.platform.stackTraces = false := (show e.platform.stackTraces = l.stackTraces by rw [X.admits.platform]).trans hl
  have Y := vx_rebase X (R' := { frames := R.frames, locals := R.locals, cells := 1, slots := 6 }) (Nat.le_refl _) (Nat.le_refl _) hRcells hRslots
  obtain ⟨s', hA⟩ : ∃ z, z = (T.setVm s.vm).setFrames (.invoking m args :: below) := ⟨_, rfl⟩
  rw [← hA] at Y
  have hvm : s'.vm = s.vm := by rw [hA]; rfl
  have hhp : s'.heap = H := by rw [hA]; exact hT
  have hW0 : s.WarmedH s'.vm := by rw [hvm]; exact State.WarmedH.refl s
  have hat' : ∀ w ∈ vx_atS own ic cls names, w.before args s' = true := fun w hw => vx_ot_at hW0 hvm.symm (hgood w (List.mem_cons_of_mem _ (List.mem_cons_of_mem _ hw))) (hat w hw)
  have hk' : (Cond.classLink own ik cls).before args s' = true := vx_ot_at hW0 hvm.symm (hgood _ List.mem_cons_self) hk
  have hini' : (Cond.initialized cls).before args s' = true := vx_ot_at hW0 hvm.symm (hgood _ (List.mem_cons_of_mem _ List.mem_cons_self)) hini
  have hU' : vx_Zq Bundle.tN "UNASSIGNED_STACK" Bundle.steD A s' s'.heap := by rw [hhp]; exact vx_Zq.moved hW0.alike (hU.kept hS.2.1)
  have hN' : vx_Zq Bundle.tN "SUPPRESSED_SENTINEL" Bundle.listD A s' s'.heap := by rw [hhp]; exact vx_Zq.moved hW0.alike (hN.kept hS.2.1)
  have h : ∀ w ∈ Bundle.ownAtoms own ic cls names, w.before args s' = true := vx_own hat' (vx_isRefq hU'.1) (vx_isRefq hN'.1) hU'.2.word hN'.2.word
  have hown' : s'.vm.findClass own = some m.cls := by rw [hvm]; exact hown
  have hins : (Cond.instantiable cls 6).before args s' = true := h _ (by simp [Bundle.ownAtoms])
  obtain ⟨vm₁, cX, kX, hfX, hkX, -, -, X₁, st1⟩ := Y.newCold hexec (own := own) (C := cls) (index := ik) (n := 6) hown' hk' hins hini'
    (g := F0 m pc ls rest) rfl (by rw [hb]; exact d0) (Nat.le_refl _) (Nat.le_refl _)
  generalize hT1 : (T.setVm vm₁).pushCell { cls := cX, slots := kX.instanceTypes.map defaultValue, vm := .none } = T1 at X₁ st1
  have hcat : (Value.ref T.heap.size).category = 1 := rfl
  have hcellA : T1.heap[T.heap.size]? = some (freshCell cX kX) := by rw [← hT1]; exact State.heap_pushCell_size _ _
  have d3' : decode c.code (pc + 3) = .ok (.dup, 1) := by rw [hb]; exact d3
  have d4' : decode c.code (pc + 4) = .ok (.ldc_w is, 3) := by rw [hb]; exact d4
  have hstr' : vk_R own is text sa s' := vk_R.warm hW0 hstr
  obtain ⟨U, hsteps, hrun, hend, hW, hsame, ce, hce, hO⟩ := X₁.ctorThrowS hexec htr (own := own) (cls := cls) (names := names) (ic := ic) hown' hcls hnames h (fun x hx => nomatch hx) hfX hkX hcellA (by rw [hhp, hT]; exact Nat.le_refl _) (msg := .ref sa) rfl
    (g := { method := m, pc := pc + 7, locals := ls, stack := .ref sa :: .ref T.heap.size :: .ref T.heap.size :: rest, locked := none }) rfl hsize rfl rfl (rest := rest) rfl
    (by rw [hb]; exact d7) (by rw [hb]; exact d10) hout hRframes (by simp only [List.map_cons, List.sum_cons, hcat]; omega) hlocks
  obtain ⟨f1, f2⟩ := vx_frame hsame
  rw [hhp] at f1 f2
  have hWs : s.WarmedH U.vm := State.WarmedH.trans hW0 hW
  have hcl : s.vm.findClass cls = some ce.cls := by
    have h9 := hO.cls
    rw [hvm] at h9
    exact h9
  have hall : s.sameButNew ({ U with vm := s.vm } : State) locs mc ms := by
    subst hA
    obtain ⟨e1, e2⟩ := hsame
    rw [State.setFrames_setFrames] at e1
    have h2 : (T.setVm s.vm).sameButNew ({ U with vm := s.vm } : State) [] (0 + 1) (0 + 6) := ⟨e1, e2⟩
    have h3 := X.same.trans h2
    rw [List.append_nil] at h3
    exact h3.mono hc hs
  refine ⟨U, ?_, .threw T.heap.size, hrun, hend, Or.inr ⟨T.heap.size, rfl, cls, ce, locs, hx U hWs.alike f1 (fun q hq => f2 q hq (fun z hz => nomatch hz)), hce, hO.vm, hcl, hWs, hall, hf⟩⟩
  refine st1 _ ?_
  show Steps p.tables e below (T1.setTop { method := m, pc := pc + 3, locals := ls, stack := .ref T.heap.size :: rest, locked := none }) _
  jvm_step X₁.here [X₁.here.top, hexec, d3', Value.category]
  exact X₁.ldcStringW hexec (own := own) (text := text) (index := is) (a := sa) hown' hstr'.1 hstr'.2
    (g := { method := m, pc := pc + 4, locals := ls, stack := .ref T.heap.size :: .ref T.heap.size :: rest, locked := none }) rfl d4' _ hsteps
end Ends
section Bodies
variable {l : Launch}
theorem vx_ofW {y : MethodName} {ws ws' : List Cond} {rm : Room} {Pc : Array Value → State → Prop} {Qc : Array Value → State → Outcome → State → Prop} {XC : String → State → State → Prop} {mc ms : Nat} {free : Addr → Prop} {cc : ByteArray} {maxL : Nat} {ret : Option FieldType}
    (hy : plainName y.cls = true) (hw : ws = Cond.code y cc maxL ret :: ws')
    (body : ∀ p e s m args below meth c s₁, BodyLoose p l y (headSpec ws rm) cc maxL ret e s m args below meth c s₁ → c.maxLocals = maxL → (∀ x ∈ c.exceptionTable.toList, False) → Pc args s →
      W p l e (headSpec ws rm).room s m args below meth c s.heap [] 0 0 (vx_MQ below Qc XC args s mc ms free) (entryFrame m args maxL)) : vx_Met l y ws rm Pc Qc XC mc ms free := by
  refine MetFree.of_bodyS (code := cc) (maxLocals := maxL) (ret := ret) hy ?_ ?_
  · intro args s m h hn
    obtain ⟨meth, c, h1, h2, h3, h4, h5, h6, -, -⟩ := Cond.code_spec hn (atoms_spec (ws := ws) h _ (by rw [hw]; exact List.mem_cons_self))
    exact ⟨meth, c, h1, h2, h3, h4, h5, h6⟩
  · intro p e s m args below meth c s₁ B hml hP _
    have hh0 : s₁.heap = s.heap := by rw [B.state]; rfl
    have ht : ∀ x ∈ c.exceptionTable.toList, False := by
      obtain ⟨meth9, c9, h1, h2, -, -, -, -, h7, -⟩ := Cond.code_spec B.named (atoms_spec (ws := ws) B.pre _ (by rw [hw]; exact List.mem_cons_self))
      cases Option.some.inj (h1.symm.trans B.method)
      cases Option.some.inj (h2.symm.trans (Stand.of_body B).code)
      intro x hx
      rw [Array.isEmpty_iff.mp h7] at hx
      cases hx
    obtain ⟨t, a1, o, b1, b2, b3⟩ := body p e s m args below meth c s₁ B hml ht hP s₁ hh0 (Stand.of_body B)
    exact ⟨t, o, a1, b1, b2, b3⟩
/-- the table of a body with handlers -/
theorem vx_table {p : Program} {x y : MethodName} {S : Spec} {cc bytes : ByteArray} {maxL maxL' : Nat} {ret ret' : Option FieldType} {e : Env} {s s₁ : State} {m : MethodId} {args : Array Value} {below : List Frame} {meth : Method} {c : Code} {hh : List (Nat × Nat × Nat × Nat)}
    (B : BodyLoose p l y S cc maxL ret e s m args below meth c s₁) (h : (Cond.codeWith y bytes maxL' ret' hh).before args s = true) : c.exceptionTable.toList = tableOf hh := by
  obtain ⟨m9, meth9, c9, hn9, h1, h2, -, -, h6, -⟩ := Cond.codeWith_spec h
  cases Option.some.inj (hn9.symm.trans B.named)
  cases Option.some.inj (h1.symm.trans B.method)
  cases Option.some.inj (h2.symm.trans (Stand.of_body B).code)
  rw [← h6, table_eq]
end Bodies
end VXA
/-! ===== END ===== -/
/-! ===== BEGIN a static call of a method with an exception table ===== -/
section VXS
variable {p : Program} {l : Launch} {e : Env} {R : Room} {s : State} {m : MethodId} {args : Array Value} {below : List Frame} {meth : Method} {c : Code} {T : State} {H : Heap} {locs : List Loc} {cells slots : Nat}
abbrev vx_CSW (R : Room) (s : State) (args : Array Value) (own : String) (index : Nat) (y : MethodName) (bytes : ByteArray) (maxL : Nat) (ret : Option FieldType) (hh : List (Nat × Nat × Nat × Nat)) (ws : List Cond) (rm : Room) (mc ms n : Nat) : Prop :=
  (rm.cells = mc ∧ rm.slots = ms ∧ rm.frames + 1 ≤ R.frames ∧ 8 + (maxL + 11) + rm.locals ≤ R.locals ∧ (∀ w ∈ ws, ∀ (a' : Array Value) (U : State), s.WarmedH U.vm → w.before a' U = true) ∧ Cond.codeWith y bytes maxL ret hh ∈ ws) ∧
  (Cond.codeWith y bytes maxL ret hh).before args s = true ∧ (Cond.initialized y.cls).before args s = true ∧ (y.cls ≠ "java/lang/invoke/MethodHandle" ∧ y.cls ≠ "java/lang/invoke/VarHandle") ∧
  (∀ sig, parseMethodDescriptor y.desc = some sig → n = sig.parameters.length) ∧ (Cond.methodLink own index y).before args s = true ∧ (Cond.static y).before args s = true
theorem vx_cwSW {own : String} {index maxL mc ms : Nat} {y : MethodName} {bytes : ByteArray} {ret : Option FieldType} {hh : List (Nat × Nat × Nat × Nat)} {Ts ws ws' : List Cond} {rm : Room} (n : Nat) (ht : ∀ w ∈ Ts, w.before args s = true) (hT : GoodIn Ts (va_wsS own index y ws)) (hw : ws = Cond.codeWith y bytes maxL ret hh :: ws') (hrc : rm.cells = mc) (hrs : rm.slots = ms)
    (hd : y.cls ≠ "java/lang/invoke/MethodHandle" ∧ y.cls ≠ "java/lang/invoke/VarHandle" ∧ (parseMethodDescriptor y.desc).map (fun d => d.parameters.length) = some n) (hR : rm.frames + 1 ≤ R.frames ∧ 8 + (maxL + 11) + rm.locals ≤ R.locals) :
    vx_CSW R s args own index y bytes maxL ret hh ws rm mc ms n := by
  have ok : ∀ w ∈ va_wsS own index y ws, w.before args s = true := fun w h => ht w (hT w h).1
  have hG : GoodIn Ts ws := fun w h => hT w (by unfold va_wsS; exact List.mem_append_right _ h)
  have hc : Cond.codeWith y bytes maxL ret hh ∈ ws := by rw [hw]; exact List.mem_cons_self
  refine ⟨⟨hrc, hrs, hR.1, hR.2, pay_in ht hG, hc⟩, ht _ (hG _ hc).1, ok _ (by simp [va_wsS]), ⟨hd.1, hd.2.1⟩, fun sig h => ?_, ok _ (by simp [va_wsS]), ok _ (by simp [va_wsS])⟩
  have h2 := hd.2.2
  rw [h] at h2
  exact (Option.some.inj h2).symm
theorem vx_callSW (X : Stand p l e R s m args below meth c T locs cells slots) (hexec : p.tables.exec = Jvm.exec) {own : String} {index : Nat} {y : MethodName} {bytes : ByteArray} {maxL : Nat} {ret : Option FieldType} {hh : List (Nat × Nat × Nat × Nat)}
    (hown : s.vm.findClass own = some m.cls) (hlink : (Cond.methodLink own index y).before args s = true) (hstat : (Cond.static y).before args s = true) (hinit : (Cond.initialized y.cls).before args s = true)
    (hcode : (Cond.codeWith y bytes maxL ret hh).before args s = true) (hy : y.cls ≠ "java/lang/invoke/MethodHandle" ∧ y.cls ≠ "java/lang/invoke/VarHandle")
    {W9 : Nat} {Pre : Pt → Array Value → Prop} {Post : Pt → Array Value → Option Value → Pt → Prop} (hK : Back l R p e below s args y 3 W9 Pre Post)
    {g : JFrame} (hg : g.method = m) (hsize : g.locals.size = c.maxLocals) {argsL rest : List Value} (hlen : ∀ sig, parseMethodDescriptor y.desc = some sig → argsL.length = sig.parameters.length)
    (hstack : g.stack = argsL.reverse ++ rest) (hW : 2 * g.monitorRoom + (rest.map fun v => v.category).sum ≤ W9) (hdg : decode c.code g.pc = .ok (.invokestatic index, 3))
    (hpre : ∀ vm₁, s.WarmedH vm₁ → Pre ⟨T.setVm vm₁, locs, cells, slots⟩ argsL.toArray) :
    ∃ (v : Option Value) (vm₁ : Vm) (B : Pt), s.WarmedH vm₁ ∧ Stand p l e R s m args below meth c B.U B.locs B.cells B.slots ∧ Post ⟨T.setVm vm₁, locs, cells, slots⟩ argsL.toArray v B ∧
      ∀ target, Steps p.tables e below (B.U.setTop { g with pc := g.pc + 3, stack := v.toList ++ rest }) target → Steps p.tables e below (T.setTop g) target := by
  obtain ⟨mk, methM, cM, hnamed, hmethM, -, -, -, -, -, -, hsigM⟩ := Cond.codeWith_spec hcode
  have hstatic : methM.isStatic = true := Cond.static_spec hnamed hmethM hstat
  obtain ⟨kP, hkP, -⟩ := className_of_methodNamed hnamed
  have hinitP : kP.init = .initialized := Cond.initialized_spec (findClass_of_methodNamed hnamed) hkP hinit
  obtain ⟨vm₁, X₁, hstep₁⟩ := X.invokestatic hexec hown hlink hnamed hmethM hstatic hkP hinitP hy (g := g) hg (argsL := argsL) (rest := rest) (hlen _ hsigM) hstack hdg
  obtain ⟨v, B, X', hpost, hsteps⟩ := hK m meth c ⟨T.setVm vm₁, locs, cells, slots⟩ { g with stack := rest } (.invokestatic index) mk argsL.toArray X₁ hg hsize hdg hW (X₁.named hnamed) (hpre vm₁ X₁.warmed)
  exact ⟨v, vm₁, B, X₁.warmed, X', hpost, fun target h => hstep₁ _ fun acts => by rw [doInvoke_state]; exact hsteps.trans h⟩
theorem vx_runSW {y : MethodName} {bytes cc : ByteArray} {maxL nL mc ms n index : Nat} {ret : Option FieldType} {hh : List (Nat × Nat × Nat × Nat)} {ws : List Cond} {rm : Room} {Pc : Array Value → State → Prop} {Qc : Array Value → State → Outcome → State → Prop} {free : Addr → Prop} {Ts : List Cond} {own : String} {As rest : List Value} {g : JFrame}
    (S : CallFix p m c cc nL s args Ts own) (hM : Met l y ws rm Pc Qc mc ms free) (cw : vx_CSW R s args own index y bytes maxL ret hh ws rm mc ms n) (hp : PreS s H Pc As)
    (hg : g.method = m) (hn : As.length = n) (hsize : g.locals.size = nL) (hstack : g.stack = As.reverse ++ rest) (hW : 2 * g.monitorRoom + (rest.map fun v => v.category).sum ≤ 8) (hdg : decode cc g.pc = .ok (.invokestatic index, 3)) (hf : cells + mc ≤ R.cells ∧ slots + ms ≤ R.slots) :
    va_Run p l e R s m args below meth c H locs cells slots mc ms g rest (Qc As.toArray) (free) := by
  obtain ⟨⟨hrc, hrs, hfr, hlo, hws, hcw⟩, hcode, hini, hy, hlen, hl, hstt⟩ := cw
  have hK : Back l R p e below s args y 3 8 (PreOf R mc ms Pc) (PostOf Qc mc ms free) := va_backW (hh := hh) (bytes := bytes) (maxL := maxL) (ret := ret) hM hp.1 hrc hrs hfr hlo hws hcw (fun a' U hW => word_at hW (Or.inl (by first | rfl | simp [Cond.onTables, Cond.keeps, Cond.steady])) hini)
  obtain ⟨hx, hb, hml, ho, -⟩ := S
  intro T hT X
  obtain ⟨v, vm₁, ⟨U', l2, c2, s2⟩, hW₁, X', ⟨g', mk, t, L, e1, e2, hq, h1, hL, h2, h3⟩, st⟩ := vx_callSW X hx (hh := hh) (bytes := bytes) (maxL := maxL) (ret := ret) ho hl hstt hini hcode hy hK hg (hsize.trans hml.symm) (argsL := As) (rest := rest) (fun sig h => hn.trans (hlen sig h)) hstack hW (by rw [hb]; exact hdg)
    (fun vm₁ hW₁ => ⟨hf.1, hf.2, hp.2 (T.setVm vm₁) hT hW₁⟩)
  dsimp only [Pt.U, Pt.locs, Pt.cells, Pt.slots] at X' e1 e2 h1 h2 h3 st
  subst h1; subst h2; subst h3
  exact ⟨v, (T.setVm vm₁).calling g' mk As.toArray, t, U', L, hT, X', hL, e1, e2, hq, st⟩
/-- not caught here, past rows that name other classes: it goes on to the caller -/
theorem vx_outP {p : Program} {l : Launch} {e : Env} {R : Room} {s : State} {m : MethodId} {args : Array Value} {below : List Frame} {meth : Method} {c : Code} {H : Heap} {locs : List Loc} {cells slots : Nat} {free : Addr → Prop} {ls : Array Slot} {rest : List Value} {Qc : Array Value → State → Outcome → State → Prop} {XC : String → State → State → Prop}
    {pc : Nat} {own E : String} {ce : Cell} {q : Addr} {mc ms : Nat} (hown : s.vm.findClass own = some m.cls) (hlocks : meth.locks = false)
    (hpass : ∀ z ∈ c.exceptionTable.toList, covers z pc = false ∨ (z.catchType ≠ 0 ∧ ∃ nm : String, (Cond.classLink own z.catchType nm).before args s = true ∧ va_Nc E nm s)) (hcell : H[q]? = some ce) (hv : ce.vm = .none) (hcl : s.vm.findClass E = some ce.cls)
    (hx : ∀ t : State, t.heap = H → s.vm.Alike t.vm → XC E s t) (hf : ∀ z ∈ locs, free z.base) (hc : cells ≤ mc) (hs : slots ≤ ms) :
    vx_W p l e R s m args below meth c H locs cells slots (vx_MQ below Qc XC args s mc ms free) (F0 m pc ls rest) q := by
  intro T hT X
  have hpl : e.platform.magicAccessors = ({} : Platform).magicAccessors := by rw [X.admits.platform]
  obtain ⟨vm', hW', X', st⟩ := X.outThrough hlocks q (g := F0 m pc ls rest) rfl rfl rfl (cell := ce) (by rw [hT]; exact hcell) (by rw [hv]; rfl)
    (by obtain ⟨k9, h9, -⟩ := Vm.findClass_spec hcl; exact ⟨k9, h9⟩) (fun z hz => by
      rcases hpass z hz with h | ⟨hz0, nm, hl1, hn1⟩
      · exact Or.inl h
      · obtain ⟨c6, hc6, hcl6⟩ := Cond.classLink_spec hown hl1 e.platform hpl
        obtain ⟨a8, b8, h1, h2, h3⟩ := hn1
        cases Option.some.inj (h1.symm.trans hcl)
        cases Option.some.inj (h2.symm.trans hc6)
        exact Or.inr ⟨hz0, _, hcl6, h3⟩)
  obtain ⟨g₀, hfr⟩ := X'.frames_eq
  have hcell9 : ((T.setVm vm').setFrames (.throwing q :: below)).heap[q]? = some ce := by
    show T.heap[q]? = some ce
    rw [hT]; exact hcell
  have hend : Ended ((T.setVm vm').setFrames (.throwing q :: below)) below (.threw q) := State.frames_setFrames _ (State.cur_lt_of_frames hfr)
  refine ⟨(T.setVm vm').setFrames (.throwing q :: below), ?_, .threw q, X'.here.running, hend, Or.inr ⟨q, rfl, E, ce, locs, hx _ hT (X'.ends _).1.alike, hcell9, hv, hcl, (X'.ends _).1, (X'.ends _).2.mono hc hs, hf⟩⟩
  rw [X.pushThrowing_eq]
  exact st
/-- a thing of a world lies in the heap -/
theorem vx_lt {D : va_G} {cl : List vw_C} {ws : va_W} {H1 : Heap} (h : va_P D cl ws H1) {k : Nat} {q : Nat × va_E} (hk : ws[k]? = some q) : q.1 < H1.size := (h k q hk).lt
end VXS
/-! ===== END ===== -/
/-! ===== BEGIN methods with a table of their own: called by a name, returning or throwing ===== -/
section VXH
/-! vx_backW, vx_callVX, vx_callSX, vx_callVW, vx_runVW, vx_runVX, vx_runSX, vx_ofWH follow the same proofs as their sisters above (Free/Laws.lean, Shelf42/LK1.lean); vx_outP calls Shelf42/NT130.lean (outThrough). -/
section
variable {l : Launch} {R : Room} {p : Program} {e : Env} {below : List Frame} {s : State} {sargs : Array Value} {y : MethodName} {len W9 : Nat}
theorem vx_backW {ws : List Cond} {rm : Room} {Pc : Array Value → State → Prop} {Qc : Array Value → State → Outcome → State → Prop} {XC : String → State → State → Prop} {mc ms : Nat} {free : Addr → Prop} {bytes : ByteArray} {maxL : Nat} {ret : Option FieldType} {hh : List (Nat × Nat × Nat × Nat)}
    (hM : vx_Met l y ws rm Pc Qc XC mc ms free) (hblind : FrameBlind Pc) (hrc : rm.cells = mc) (hrs : rm.slots = ms)
    (hframes : rm.frames + 1 ≤ R.frames) (hlocals : W9 + (maxL + 11) + rm.locals ≤ R.locals)
    (hws : ∀ w ∈ ws, ∀ a' U, s.WarmedH U.vm → w.before a' U = true) (hcode : Cond.codeWith y bytes maxL ret hh ∈ ws) (hinit : ∀ a' U, s.WarmedH U.vm → (Cond.initialized y.cls).before a' U = true) :
    vx_Back l R p e below s sargs y len W9 (PreOf R mc ms Pc) (PostOf Qc mc ms free) (vx_Post XC mc ms free) := by
  intro m meth c A g ig mk a X hg hsize hdg hW hn hp
  have h1 : (headSpec ws rm).pre.before a A.U = true := atoms_intro fun w hw => hws w hw _ _ X.warmed
  have h2 : (Cond.codeWith y bytes maxL ret hh).before a A.U = true := hws _ hcode _ _ X.warmed
  have h3 : (Cond.initialized y.cls).before a A.U = true := hinit _ _ X.warmed
  have h4 : A.cells + (headSpec ws rm).room.cells ≤ R.cells := by rw [show (headSpec ws rm).room.cells = mc from hrc]; exact hp.1
  have h5 : A.slots + (headSpec ws rm).room.slots ≤ R.slots := by rw [show (headSpec ws rm).room.slots = ms from hrs]; exact hp.2.1
  have hPc : Pc a (A.U.calling g mk a) := hblind _ _ _ _ hp.2.2
  obtain ⟨U, Ls, c0, s0⟩ := A
  dsimp only [Pt.U, Pt.locs, Pt.cells, Pt.slots] at h1 h2 h3 h4 h5 X hn hPc ⊢
  obtain ⟨m9, methY, cY, hn9, hmY, hcY, -, hlY, -⟩ := Cond.codeWith_spec h2
  cases Option.some.inj (hn9.symm.trans hn)
  obtain ⟨kY, hkY, -⟩ := className_of_methodNamed hn
  have hinitY : kY.init = .initialized := Cond.initialized_spec (findClass_of_methodNamed hn) hkY h3
  have h : At U g.method c below := by rw [hg]; exact X.here
  have hlocals9 : W9 + (maxL + 11) + (headSpec ws rm).room.locals ≤ R.locals := hlocals
  have happ : (headSpec ws rm).appliesLoose y e.platform (U.calling g mk a) = true :=
    Spec.appliesLoose_calling (g := g) h hdg hn hkY hinitY
      (X.room_calling (g := g) (R' := (headSpec ws rm).room) hsize hmY hcY hframes (by rw [hlY]; omega) h4 h5) h1
  obtain ⟨mid, hmid⟩ := h.above
  have hfr : (U.setTop g).frames = (.java g :: mid) ++ below := by rw [State.frames_setTop' g h.top, hmid]; rfl
  obtain ⟨o, s₂, hsteps, -, hend, hq⟩ := Steps.callFree hM p X.admits X.cas X.clock (acts := []) hfr happ hPc trivial
  have hq' : vx_Q Qc XC mc ms free a (U.calling g mk a) o s₂ := hq
  rw [State.frames_setTop' g h.top] at hend
  obtain ⟨g₀, hg0⟩ := Option.isSome_iff_exists.mp h.top
  obtain ⟨r, hr⟩ := State.topJava?_eq_some.mp hg0
  have hr' : (({ U with heap := s₂.heap, slotsUsed := s₂.slotsUsed } : State).setVm s₂.vm).frames = .java g₀ :: r := hr
  rcases hq' with ⟨hqc, L, hfe, hL⟩ | ⟨q, rfl, E, ce, L, hx, hce, hcv, hcl, hW₂, hsm, hL⟩
  · obtain ⟨⟨v, rfl⟩, hW₂, e2, q2, q3, q4, q5, q6⟩ := id hfe
    have e3 : s₂ = ({ (U.calling g mk a).setFrames s₂.frames with heap := s₂.heap, slotsUsed := s₂.slotsUsed } : State).setVm s₂.vm := by
      have : s₂ = ({ s₂ with vm := (U.calling g mk a).vm } : State).setVm s₂.vm := rfl
      rw [e2] at this
      exact this
    obtain ⟨c₂, i₂, len₂, hc₂, hd₂, hf₂⟩ := hend
    have hW' : U.WarmedH s₂.vm := hW₂
    have hcc : c₂ = c := by
      have h1 : s₂.code? g.method = U.code? g.method := by
        rw [State.code?_eq, State.code?_eq, hW'.alike.method?]
      exact Option.some.inj (hc₂.symm.trans (h1.trans h.code))
    subst hcc
    have hlen : len₂ = len := by rw [hdg] at hd₂; cases hd₂; rfl
    subst hlen
    have hs₂ : s₂ = (({ U with heap := s₂.heap, slotsUsed := s₂.slotsUsed } : State).setVm s₂.vm).setTop { g with pc := g.pc + len₂, stack := v.toList ++ g.stack } := by
      refine e3.trans ?_
      rw [hf₂, State.calling_eq h.top, State.setFrames_setFrames, State.setTop_of_frames _ hr', hr]
      rfl
    have hsame : U.sameButNew ({ U with heap := s₂.heap, slotsUsed := s₂.slotsUsed } : State) L mc ms := by
      refine ⟨?_, q2, q3, q4, q5, q6⟩
      obtain ⟨t, ht, -⟩ := State.frames_cons hr
      show ({ U with heap := s₂.heap, slotsUsed := s₂.slotsUsed } : State) = { U.setFrames U.frames with heap := s₂.heap, slotsUsed := s₂.slotsUsed }
      rw [State.setFrames_self ht]
    subst hg
    refine Or.inl ⟨v, ⟨(({ U with heap := s₂.heap, slotsUsed := s₂.slotsUsed } : State).setVm s₂.vm), Ls ++ L, c0 + mc, s0 + ms⟩,
      ⟨X.admits, X.cas, X.clock, X.frames, X.room, X.hears, X.method, X.code, (X.here.setHeapUsed s₂.heap s₂.slotsUsed).setVm hW'.alike, X.tail, State.WarmedH.trans X.warmed hW', X.limits, X.bytes, X.same.trans (hsame.setVm s.vm)⟩,
      ⟨g, mk, s₂, L, rfl, rfl, hqc, rfl, hL, rfl, rfl⟩, ?_⟩
    show Steps p.tables e below _ ((({ U with heap := s₂.heap, slotsUsed := s₂.slotsUsed } : State).setVm s₂.vm).setTop { g with pc := g.pc + len₂, stack := v.toList ++ g.stack })
    rw [← hs₂]
    exact hsteps
  · obtain ⟨e2, q2, q3, q4, q5, q6⟩ := id hsm
    have e3 : s₂ = ({ (U.calling g mk a).setFrames s₂.frames with heap := s₂.heap, slotsUsed := s₂.slotsUsed } : State).setVm s₂.vm := by
      have : s₂ = ({ s₂ with vm := (U.calling g mk a).vm } : State).setVm s₂.vm := rfl
      rw [e2] at this
      exact this
    have hf₂ : s₂.frames = .throwing q :: .java g :: U.frames.tail := hend
    have hW' : U.WarmedH s₂.vm := hW₂
    have hs₂ : s₂ = ((({ U with heap := s₂.heap, slotsUsed := s₂.slotsUsed } : State).setVm s₂.vm).setTop g).pushFrame (.throwing q) := by
      refine e3.trans ?_
      rw [hf₂, State.calling_eq h.top, State.setFrames_setFrames, State.pushFrame, State.frames_setTop _ hr', State.setTop_of_frames _ hr', State.setFrames_setFrames, hr]
      rfl
    have hsame : U.sameButNew ({ U with heap := s₂.heap, slotsUsed := s₂.slotsUsed } : State) L mc ms := by
      refine ⟨?_, q2, q3, q4, q5, q6⟩
      obtain ⟨t, ht, -⟩ := State.frames_cons hr
      show ({ U with heap := s₂.heap, slotsUsed := s₂.slotsUsed } : State) = { U.setFrames U.frames with heap := s₂.heap, slotsUsed := s₂.slotsUsed }
      rw [State.setFrames_self ht]
    subst hg
    refine Or.inr ⟨q, ⟨(({ U with heap := s₂.heap, slotsUsed := s₂.slotsUsed } : State).setVm s₂.vm), Ls ++ L, c0 + mc, s0 + ms⟩,
      ⟨X.admits, X.cas, X.clock, X.frames, X.room, X.hears, X.method, X.code, (X.here.setHeapUsed s₂.heap s₂.slotsUsed).setVm hW'.alike, X.tail, State.WarmedH.trans X.warmed hW', X.limits, X.bytes, X.same.trans (hsame.setVm s.vm)⟩,
      ⟨g, mk, s₂, L, E, ce, rfl, rfl, hx, hce, hcv, hcl, rfl, hL, rfl, rfl⟩, ?_⟩
    show Steps p.tables e below _ (((({ U with heap := s₂.heap, slotsUsed := s₂.slotsUsed } : State).setVm s₂.vm).setTop g).pushFrame (.throwing q))
    rw [← hs₂]
    exact hsteps
end
variable {p : Program} {l : Launch} {e : Env} {R : Room} {s : State} {m : MethodId} {args : Array Value} {below : List Frame} {meth : Method} {c : Code} {T : State} {H : Heap} {locs : List Loc} {cells slots : Nat}
theorem vx_callVX (X : Stand p l e R s m args below meth c T locs cells slots) (hexec : p.tables.exec = Jvm.exec) {own C : String} {index : Nat} {y : MethodName} {bytes : ByteArray} {maxL : Nat} {ret : Option FieldType} {hh : List (Nat × Nat × Nat × Nat)}
    (hown : s.vm.findClass own = some m.cls) (hlink : (Cond.methodLink own index y).before args s = true) (hinst : (Cond.instanceMethod y).before args s = true) (hsel : (Cond.selects C y y).before args s = true)
    (hcode : (Cond.codeWith y bytes maxL ret hh).before args s = true) (hy : y.cls ≠ "java/lang/invoke/MethodHandle" ∧ y.cls ≠ "java/lang/invoke/VarHandle")
    {W9 : Nat} {Pre : Pt → Array Value → Prop} {Post : Pt → Array Value → Option Value → Pt → Prop} {PostX : Pt → Array Value → Addr → Pt → Prop} (hK : vx_Back l R p e below s args y 3 W9 Pre Post PostX)
    {b : Addr} {cellB : Cell} (hcell : T.heap[b]? = some cellB) (hobj : cellB.vm.isStatics = false) (hcls : s.vm.findClass C = some cellB.cls)
    {g : JFrame} (hg : g.method = m) (hsize : g.locals.size = c.maxLocals) {argsL rest : List Value} (hlen : ∀ sig, parseMethodDescriptor y.desc = some sig → argsL.length = sig.parameters.length)
    (hstack : g.stack = argsL.reverse ++ .ref b :: rest) (hW : 2 * g.monitorRoom + (rest.map fun v => v.category).sum ≤ W9) (hdg : decode c.code g.pc = .ok (.invokevirtual index, 3))
    (hpre : ∀ vm₁, s.WarmedH vm₁ → Pre ⟨T.setVm vm₁, locs, cells, slots⟩ (Value.ref b :: argsL).toArray) :
    (∃ (v : Option Value) (vm₁ : Vm) (B : Pt), s.WarmedH vm₁ ∧ Stand p l e R s m args below meth c B.U B.locs B.cells B.slots ∧ Post ⟨T.setVm vm₁, locs, cells, slots⟩ (Value.ref b :: argsL).toArray v B ∧
      ∀ target, Steps p.tables e below (B.U.setTop { g with pc := g.pc + 3, stack := v.toList ++ rest }) target → Steps p.tables e below (T.setTop g) target) ∨
    (∃ (q : Addr) (vm₁ : Vm) (B : Pt), s.WarmedH vm₁ ∧ Stand p l e R s m args below meth c B.U B.locs B.cells B.slots ∧ PostX ⟨T.setVm vm₁, locs, cells, slots⟩ (Value.ref b :: argsL).toArray q B ∧
      Steps p.tables e below (T.setTop g) ((B.U.setTop { g with stack := rest }).pushFrame (.throwing q))) := by
  obtain ⟨mk, methM, hnamed, hmethM, hstM, habM⟩ := Cond.instanceMethod_spec hinst
  obtain ⟨m8, methM', cM, hn8, hmethM', -, -, -, -, -, -, hsigM⟩ := Cond.codeWith_spec hcode
  cases Option.some.inj (hn8.symm.trans hnamed)
  cases hmethM.symm.trans hmethM'
  obtain ⟨c2, r2, m2, q1, q2, q3, q4, kP, hkP, hkPi⟩ := Cond.selects_spec hsel
  cases hcls.symm.trans q1
  cases (State.methodFound?_of_named hnamed hy).symm.trans q2
  cases hnamed.symm.trans q3
  have hselP : selectMethod e.platform s.vm cellB.cls mk = .method mk := by rw [Launch.admits_selectMethod X.admits]; exact q4
  obtain ⟨vm₁, X₁, hstep₁⟩ := X.invokevirtual hexec hown hlink hnamed hmethM hstM hkP hkPi hy (a := b) (cell := cellB) hcell
    (fun z h => by rw [h] at hobj; cases hobj) hselP hmethM habM hkP hkPi (g := g) hg (argsL := argsL) (rest := rest) (hlen _ hsigM) hstack hdg
  rcases hK m meth c ⟨T.setVm vm₁, locs, cells, slots⟩ { g with stack := rest } (.invokevirtual index) mk (Value.ref b :: argsL).toArray X₁ hg hsize hdg hW (X₁.named hnamed) (hpre vm₁ X₁.warmed) with ⟨v, B, X', hpost, hsteps⟩ | ⟨q, B, X', hpost, hsteps⟩
  · exact Or.inl ⟨v, vm₁, B, X₁.warmed, X', hpost, fun target h => hstep₁ _ fun acts => by rw [doInvoke_state]; exact hsteps.trans h⟩
  · exact Or.inr ⟨q, vm₁, B, X₁.warmed, X', hpost, hstep₁ _ fun acts => by rw [doInvoke_state]; exact hsteps⟩
theorem vx_callSX (X : Stand p l e R s m args below meth c T locs cells slots) (hexec : p.tables.exec = Jvm.exec) {own : String} {index : Nat} {y : MethodName} {bytes : ByteArray} {maxL : Nat} {ret : Option FieldType} {hh : List (Nat × Nat × Nat × Nat)}
    (hown : s.vm.findClass own = some m.cls) (hlink : (Cond.methodLink own index y).before args s = true) (hstat : (Cond.static y).before args s = true) (hinit : (Cond.initialized y.cls).before args s = true)
    (hcode : (Cond.codeWith y bytes maxL ret hh).before args s = true) (hy : y.cls ≠ "java/lang/invoke/MethodHandle" ∧ y.cls ≠ "java/lang/invoke/VarHandle")
    {W9 : Nat} {Pre : Pt → Array Value → Prop} {Post : Pt → Array Value → Option Value → Pt → Prop} {PostX : Pt → Array Value → Addr → Pt → Prop} (hK : vx_Back l R p e below s args y 3 W9 Pre Post PostX)
    {g : JFrame} (hg : g.method = m) (hsize : g.locals.size = c.maxLocals) {argsL rest : List Value} (hlen : ∀ sig, parseMethodDescriptor y.desc = some sig → argsL.length = sig.parameters.length)
    (hstack : g.stack = argsL.reverse ++ rest) (hW : 2 * g.monitorRoom + (rest.map fun v => v.category).sum ≤ W9) (hdg : decode c.code g.pc = .ok (.invokestatic index, 3))
    (hpre : ∀ vm₁, s.WarmedH vm₁ → Pre ⟨T.setVm vm₁, locs, cells, slots⟩ argsL.toArray) :
    (∃ (v : Option Value) (vm₁ : Vm) (B : Pt), s.WarmedH vm₁ ∧ Stand p l e R s m args below meth c B.U B.locs B.cells B.slots ∧ Post ⟨T.setVm vm₁, locs, cells, slots⟩ argsL.toArray v B ∧
      ∀ target, Steps p.tables e below (B.U.setTop { g with pc := g.pc + 3, stack := v.toList ++ rest }) target → Steps p.tables e below (T.setTop g) target) ∨
    (∃ (q : Addr) (vm₁ : Vm) (B : Pt), s.WarmedH vm₁ ∧ Stand p l e R s m args below meth c B.U B.locs B.cells B.slots ∧ PostX ⟨T.setVm vm₁, locs, cells, slots⟩ argsL.toArray q B ∧
      Steps p.tables e below (T.setTop g) ((B.U.setTop { g with stack := rest }).pushFrame (.throwing q))) := by
  obtain ⟨mk, methM, cM, hnamed, hmethM, -, -, -, -, -, -, hsigM⟩ := Cond.codeWith_spec hcode
  have hstatic : methM.isStatic = true := Cond.static_spec hnamed hmethM hstat
  obtain ⟨kP, hkP, -⟩ := className_of_methodNamed hnamed
  have hinitP : kP.init = .initialized := Cond.initialized_spec (findClass_of_methodNamed hnamed) hkP hinit
  obtain ⟨vm₁, X₁, hstep₁⟩ := X.invokestatic hexec hown hlink hnamed hmethM hstatic hkP hinitP hy (g := g) hg (argsL := argsL) (rest := rest) (hlen _ hsigM) hstack hdg
  rcases hK m meth c ⟨T.setVm vm₁, locs, cells, slots⟩ { g with stack := rest } (.invokestatic index) mk argsL.toArray X₁ hg hsize hdg hW (X₁.named hnamed) (hpre vm₁ X₁.warmed) with ⟨v, B, X', hpost, hsteps⟩ | ⟨q, B, X', hpost, hsteps⟩
  · exact Or.inl ⟨v, vm₁, B, X₁.warmed, X', hpost, fun target h => hstep₁ _ fun acts => by rw [doInvoke_state]; exact hsteps.trans h⟩
  · exact Or.inr ⟨q, vm₁, B, X₁.warmed, X', hpost, hstep₁ _ fun acts => by rw [doInvoke_state]; exact hsteps⟩
theorem vx_callVW (X : Stand p l e R s m args below meth c T locs cells slots) (hexec : p.tables.exec = Jvm.exec) {own C : String} {index : Nat} {y : MethodName} {bytes : ByteArray} {maxL : Nat} {ret : Option FieldType} {hh : List (Nat × Nat × Nat × Nat)}
    (hown : s.vm.findClass own = some m.cls) (hlink : (Cond.methodLink own index y).before args s = true) (hinst : (Cond.instanceMethod y).before args s = true) (hsel : (Cond.selects C y y).before args s = true)
    (hcode : (Cond.codeWith y bytes maxL ret hh).before args s = true) (hy : y.cls ≠ "java/lang/invoke/MethodHandle" ∧ y.cls ≠ "java/lang/invoke/VarHandle")
    {W9 : Nat} {Pre : Pt → Array Value → Prop} {Post : Pt → Array Value → Option Value → Pt → Prop} (hK : Back l R p e below s args y 3 W9 Pre Post)
    {b : Addr} {cellB : Cell} (hcell : T.heap[b]? = some cellB) (hobj : cellB.vm.isStatics = false) (hcls : s.vm.findClass C = some cellB.cls)
    {g : JFrame} (hg : g.method = m) (hsize : g.locals.size = c.maxLocals) {argsL rest : List Value} (hlen : ∀ sig, parseMethodDescriptor y.desc = some sig → argsL.length = sig.parameters.length)
    (hstack : g.stack = argsL.reverse ++ .ref b :: rest) (hW : 2 * g.monitorRoom + (rest.map fun v => v.category).sum ≤ W9) (hdg : decode c.code g.pc = .ok (.invokevirtual index, 3))
    (hpre : ∀ vm₁, s.WarmedH vm₁ → Pre ⟨T.setVm vm₁, locs, cells, slots⟩ (Value.ref b :: argsL).toArray) :
    ∃ (v : Option Value) (vm₁ : Vm) (B : Pt), s.WarmedH vm₁ ∧ Stand p l e R s m args below meth c B.U B.locs B.cells B.slots ∧ Post ⟨T.setVm vm₁, locs, cells, slots⟩ (Value.ref b :: argsL).toArray v B ∧
      ∀ target, Steps p.tables e below (B.U.setTop { g with pc := g.pc + 3, stack := v.toList ++ rest }) target → Steps p.tables e below (T.setTop g) target := by
  obtain ⟨mk, methM, hnamed, hmethM, hstM, habM⟩ := Cond.instanceMethod_spec hinst
  obtain ⟨m8, methM', cM, hn8, hmethM', -, -, -, -, -, -, hsigM⟩ := Cond.codeWith_spec hcode
  cases Option.some.inj (hn8.symm.trans hnamed)
  cases hmethM.symm.trans hmethM'
  obtain ⟨c2, r2, m2, q1, q2, q3, q4, kP, hkP, hkPi⟩ := Cond.selects_spec hsel
  cases hcls.symm.trans q1
  cases (State.methodFound?_of_named hnamed hy).symm.trans q2
  cases hnamed.symm.trans q3
  have hselP : selectMethod e.platform s.vm cellB.cls mk = .method mk := by rw [Launch.admits_selectMethod X.admits]; exact q4
  obtain ⟨vm₁, X₁, hstep₁⟩ := X.invokevirtual hexec hown hlink hnamed hmethM hstM hkP hkPi hy (a := b) (cell := cellB) hcell
    (fun z h => by rw [h] at hobj; cases hobj) hselP hmethM habM hkP hkPi (g := g) hg (argsL := argsL) (rest := rest) (hlen _ hsigM) hstack hdg
  obtain ⟨v, B, X', hpost, hsteps⟩ := hK m meth c ⟨T.setVm vm₁, locs, cells, slots⟩ { g with stack := rest } (.invokevirtual index) mk (Value.ref b :: argsL).toArray X₁ hg hsize hdg hW (X₁.named hnamed) (hpre vm₁ X₁.warmed)
  exact ⟨v, vm₁, B, X₁.warmed, X', hpost, fun target h => hstep₁ _ fun acts => by rw [doInvoke_state]; exact hsteps.trans h⟩
abbrev vx_CVW (R : Room) (s : State) (args : Array Value) (own C : String) (index : Nat) (y : MethodName) (bytes : ByteArray) (maxL : Nat) (ret : Option FieldType) (hh : List (Nat × Nat × Nat × Nat)) (ws : List Cond) (rm : Room) (mc ms n : Nat) : Prop :=
  (rm.cells = mc ∧ rm.slots = ms ∧ rm.frames + 1 ≤ R.frames ∧ 8 + (maxL + 11) + rm.locals ≤ R.locals ∧ (∀ w ∈ ws, ∀ (a' : Array Value) (U : State), s.WarmedH U.vm → w.before a' U = true) ∧ Cond.codeWith y bytes maxL ret hh ∈ ws) ∧
  (Cond.codeWith y bytes maxL ret hh).before args s = true ∧ (Cond.initialized y.cls).before args s = true ∧ (y.cls ≠ "java/lang/invoke/MethodHandle" ∧ y.cls ≠ "java/lang/invoke/VarHandle") ∧
  (∀ sig, parseMethodDescriptor y.desc = some sig → n = sig.parameters.length) ∧ (Cond.methodLink own index y).before args s = true ∧ (Cond.instanceMethod y).before args s = true ∧ (Cond.selects C y y).before args s = true
theorem vx_cwVW {own C : String} {index maxL mc ms : Nat} {y : MethodName} {bytes : ByteArray} {ret : Option FieldType} {hh : List (Nat × Nat × Nat × Nat)} {Ts ws ws' : List Cond} {rm : Room} (n : Nat) (ht : ∀ w ∈ Ts, w.before args s = true) (hT : GoodIn Ts (wsV own index C y ws)) (hw : ws = Cond.codeWith y bytes maxL ret hh :: ws') (hrc : rm.cells = mc) (hrs : rm.slots = ms)
    (hd : y.cls = C ∧ y.cls ≠ "java/lang/invoke/MethodHandle" ∧ y.cls ≠ "java/lang/invoke/VarHandle" ∧ (parseMethodDescriptor y.desc).map (fun d => d.parameters.length) = some n) (hR : rm.frames + 1 ≤ R.frames ∧ 8 + (maxL + 11) + rm.locals ≤ R.locals) :
    vx_CVW R s args own C index y bytes maxL ret hh ws rm mc ms n := by
  obtain ⟨hC, hd⟩ := hd
  subst hC
  have ok : ∀ w ∈ wsV own index y.cls y ws, w.before args s = true := fun w h => ht w (hT w h).1
  have hG : GoodIn Ts ws := fun w h => hT w (by unfold wsV; exact List.mem_append_right _ h)
  have hc : Cond.codeWith y bytes maxL ret hh ∈ ws := by rw [hw]; exact List.mem_cons_self
  refine ⟨⟨hrc, hrs, hR.1, hR.2, pay_in ht hG, hc⟩, ht _ (hG _ hc).1, ok _ (by simp [wsV]), ⟨hd.1, hd.2.1⟩, fun sig h => ?_, ok _ (by simp [wsV]), ok _ (by simp [wsV]), ok _ (by simp [wsV])⟩
  have h2 := hd.2.2
  rw [h] at h2
  exact (Option.some.inj h2).symm
theorem vx_runVW {y : MethodName} {bytes cc : ByteArray} {maxL nL mc ms n index : Nat} {ret : Option FieldType} {hh : List (Nat × Nat × Nat × Nat)} {ws : List Cond} {rm : Room} {Pc : Array Value → State → Prop} {Qc : Array Value → State → Outcome → State → Prop} {free : Addr → Prop} {Ts : List Cond} {own C : String} {b : Addr} {As rest : List Value} {g : JFrame}
    (S : CallFix p m c cc nL s args Ts own) (hM : Met l y ws rm Pc Qc mc ms free) (cw : vx_CVW R s args own C index y bytes maxL ret hh ws rm mc ms n) (hp : PreV s H C b Pc As)
    (hg : g.method = m) (hn : As.length = n) (hsize : g.locals.size = nL) (hstack : g.stack = As.reverse ++ .ref b :: rest) (hW : 2 * g.monitorRoom + (rest.map fun v => v.category).sum ≤ 8) (hdg : decode cc g.pc = .ok (.invokevirtual index, 3)) (hf : cells + mc ≤ R.cells ∧ slots + ms ≤ R.slots) :
    va_Run p l e R s m args below meth c H locs cells slots mc ms g rest (Qc (Value.ref b :: As).toArray) free := by
  obtain ⟨⟨hrc, hrs, hfr, hlo, hws, hcw⟩, hcode, hini, hy, hlen, hl, hin, hse⟩ := cw
  have hK : Back l R p e below s args y 3 8 (PreOf R mc ms Pc) (PostOf Qc mc ms free) := va_backW (hh := hh) (bytes := bytes) (maxL := maxL) (ret := ret) hM hp.1 hrc hrs hfr hlo hws hcw (fun a' U hW => word_at hW (Or.inl (by first | rfl | simp [Cond.onTables, Cond.keeps, Cond.steady])) hini)
  obtain ⟨hx, hb, hml, ho, -⟩ := S
  obtain ⟨-, ⟨cellB, hcB, hoB, hclB⟩, hPc⟩ := hp
  intro T hT X
  obtain ⟨v, vm₁, ⟨U', l2, c2, s2⟩, hW₁, X', ⟨g', mk, t, L, e1, e2, hq, h1, hL, h2, h3⟩, st⟩ := vx_callVW X hx (C := C) (hh := hh) (bytes := bytes) (maxL := maxL) (ret := ret) ho hl hin hse hcode hy hK (by rw [hT]; exact hcB) hoB hclB hg (hsize.trans hml.symm) (argsL := As) (rest := rest) (fun sig h => hn.trans (hlen sig h)) hstack hW (by rw [hb]; exact hdg)
    (fun vm₁ hW₁ => ⟨hf.1, hf.2, hPc (T.setVm vm₁) hT hW₁⟩)
  dsimp only [Pt.U, Pt.locs, Pt.cells, Pt.slots] at X' e1 e2 h1 h2 h3 st
  subst h1; subst h2; subst h3
  exact ⟨v, (T.setVm vm₁).calling g' mk (Value.ref b :: As).toArray, t, U', L, hT, X', hL, e1, e2, hq, st⟩
section
variable {y : MethodName} {bytes cc : ByteArray} {maxL nL mc ms n index : Nat} {ret : Option FieldType} {ws : List Cond} {rm : Room} {Pc : Array Value → State → Prop} {Qc : Array Value → State → Outcome → State → Prop} {XC : String → State → State → Prop} {free : Addr → Prop} {Ts : List Cond} {own C : String} {b : Addr} {As rest : List Value} {g : JFrame}
theorem vx_runVX {hh : List (Nat × Nat × Nat × Nat)} (S : CallFix p m c cc nL s args Ts own) (hM : vx_Met l y ws rm Pc Qc XC mc ms free) (cw : vx_CVW R s args own C index y bytes maxL ret hh ws rm mc ms n) (hp : PreV s H C b Pc As)
    (hg : g.method = m) (hn : As.length = n) (hsize : g.locals.size = nL) (hstack : g.stack = As.reverse ++ .ref b :: rest) (hW : 2 * g.monitorRoom + (rest.map fun v => v.category).sum ≤ 8) (hdg : decode cc g.pc = .ok (.invokevirtual index, 3)) (hf : cells + mc ≤ R.cells ∧ slots + ms ≤ R.slots) :
    vx_Run p l e R s m args below meth c H locs cells slots mc ms g rest (Qc (Value.ref b :: As).toArray) XC free := by
  obtain ⟨⟨hrc, hrs, hfr, hlo, hws, hcw⟩, hcode, hini, hy, hlen, hl, hin, hse⟩ := cw
  have hK : vx_Back l R p e below s args y 3 8 (PreOf R mc ms Pc) (PostOf Qc mc ms free) (vx_Post XC mc ms free) := vx_backW (hh := hh) (bytes := bytes) (maxL := maxL) (ret := ret) hM hp.1 hrc hrs hfr hlo hws hcw (fun a' U hW => word_at hW (Or.inl (by first | rfl | simp [Cond.onTables, Cond.keeps, Cond.steady])) hini)
  obtain ⟨hx, hb, hml, ho, -⟩ := S
  obtain ⟨-, ⟨cellB, hcB, hoB, hclB⟩, hPc⟩ := hp
  intro T hT X
  rcases vx_callVX X hx (C := C) (hh := hh) (bytes := bytes) (maxL := maxL) (ret := ret) ho hl hin hse hcode hy hK (by rw [hT]; exact hcB) hoB hclB hg (hsize.trans hml.symm) (argsL := As) (rest := rest) (fun sig h => hn.trans (hlen sig h)) hstack hW (by rw [hb]; exact hdg)
    (fun vm₁ hW₁ => ⟨hf.1, hf.2, hPc (T.setVm vm₁) hT hW₁⟩) with ⟨v, vm₁, ⟨U', l2, c2, s2⟩, hW₁, X', ⟨g', mk, t, L, e1, e2, hq, h1, hL, h2, h3⟩, st⟩ | ⟨q, vm₁, ⟨U', l2, c2, s2⟩, hW₁, X', ⟨g', mk, t, L, E, ce, e1, e2, hq, hce, hcv, hcl, h1, hL, h2, h3⟩, st⟩
  · dsimp only [Pt.U, Pt.locs, Pt.cells, Pt.slots] at X' e1 e2 h1 h2 h3 st
    subst h1; subst h2; subst h3
    exact Or.inl ⟨v, (T.setVm vm₁).calling g' mk (Value.ref b :: As).toArray, t, U', L, hT, X', hL, e1, e2, hq, st⟩
  · dsimp only [Pt.U, Pt.locs, Pt.cells, Pt.slots] at X' e1 e2 h1 h2 h3 st hcl
    subst h1; subst h2; subst h3
    exact Or.inr ⟨q, (T.setVm vm₁).calling g' mk (Value.ref b :: As).toArray, t, U', L, E, ce, hT, X', hL, e1, e2, hq, hce, hcv, vx_cls hW₁ hcl, st⟩
theorem vx_runSX {hh : List (Nat × Nat × Nat × Nat)} (S : CallFix p m c cc nL s args Ts own) (hM : vx_Met l y ws rm Pc Qc XC mc ms free) (cw : vx_CSW R s args own index y bytes maxL ret hh ws rm mc ms n) (hp : PreS s H Pc As)
    (hg : g.method = m) (hn : As.length = n) (hsize : g.locals.size = nL) (hstack : g.stack = As.reverse ++ rest) (hW : 2 * g.monitorRoom + (rest.map fun v => v.category).sum ≤ 8) (hdg : decode cc g.pc = .ok (.invokestatic index, 3)) (hf : cells + mc ≤ R.cells ∧ slots + ms ≤ R.slots) :
    vx_Run p l e R s m args below meth c H locs cells slots mc ms g rest (Qc As.toArray) XC free := by
  obtain ⟨⟨hrc, hrs, hfr, hlo, hws, hcw⟩, hcode, hini, hy, hlen, hl, hstt⟩ := cw
  have hK : vx_Back l R p e below s args y 3 8 (PreOf R mc ms Pc) (PostOf Qc mc ms free) (vx_Post XC mc ms free) := vx_backW (hh := hh) (bytes := bytes) (maxL := maxL) (ret := ret) hM hp.1 hrc hrs hfr hlo hws hcw (fun a' U hW => word_at hW (Or.inl (by first | rfl | simp [Cond.onTables, Cond.keeps, Cond.steady])) hini)
  obtain ⟨hx, hb, hml, ho, -⟩ := S
  intro T hT X
  rcases vx_callSX X hx (hh := hh) (bytes := bytes) (maxL := maxL) (ret := ret) ho hl hstt hini hcode hy hK hg (hsize.trans hml.symm) (argsL := As) (rest := rest) (fun sig h => hn.trans (hlen sig h)) hstack hW (by rw [hb]; exact hdg)
    (fun vm₁ hW₁ => ⟨hf.1, hf.2, hp.2 (T.setVm vm₁) hT hW₁⟩) with ⟨v, vm₁, ⟨U', l2, c2, s2⟩, hW₁, X', ⟨g', mk, t, L, e1, e2, hq, h1, hL, h2, h3⟩, st⟩ | ⟨q, vm₁, ⟨U', l2, c2, s2⟩, hW₁, X', ⟨g', mk, t, L, E, ce, e1, e2, hq, hce, hcv, hcl, h1, hL, h2, h3⟩, st⟩
  · dsimp only [Pt.U, Pt.locs, Pt.cells, Pt.slots] at X' e1 e2 h1 h2 h3 st
    subst h1; subst h2; subst h3
    exact Or.inl ⟨v, (T.setVm vm₁).calling g' mk As.toArray, t, U', L, hT, X', hL, e1, e2, hq, st⟩
  · dsimp only [Pt.U, Pt.locs, Pt.cells, Pt.slots] at X' e1 e2 h1 h2 h3 st hcl
    subst h1; subst h2; subst h3
    exact Or.inr ⟨q, (T.setVm vm₁).calling g' mk As.toArray, t, U', L, E, ce, hT, X', hL, e1, e2, hq, hce, hcv, vx_cls hW₁ hcl, st⟩
end
end VXH
theorem vx_ofWH {l : Launch} {y : MethodName} {ws ws' : List Cond} {rm : Room} {Pc : Array Value → State → Prop} {Qc : Array Value → State → Outcome → State → Prop} {XC : String → State → State → Prop} {mc ms : Nat} {free : Addr → Prop} {cc : ByteArray} {maxL : Nat} {ret : Option FieldType} {hh : List (Nat × Nat × Nat × Nat)}
    (hy : plainName y.cls = true) (hw : ws = Cond.codeWith y cc maxL ret hh :: ws')
    (body : ∀ p e s m args below meth c s₁, BodyLoose p l y (headSpec ws rm) cc maxL ret e s m args below meth c s₁ → c.maxLocals = maxL → Pc args s →
      W p l e (headSpec ws rm).room s m args below meth c s.heap [] 0 0 (vx_MQ below Qc XC args s mc ms free) (entryFrame m args maxL)) : vx_Met l y ws rm Pc Qc XC mc ms free := by
  refine MetFree.of_bodyS (code := cc) (maxLocals := maxL) (ret := ret) hy ?_ ?_
  · intro args s m h hn
    obtain ⟨m9, meth, c, hn9, h1, h2, h3, h4, -, h5, h6, -⟩ := Cond.codeWith_spec (atoms_spec (ws := ws) h _ (by rw [hw]; exact List.mem_cons_self))
    cases hn.symm.trans hn9
    exact ⟨meth, c, h1, h2, h3, h4, h5, h6⟩
  · intro p e s m args below meth c s₁ B hml hP _
    have hh0 : s₁.heap = s.heap := by rw [B.state]; rfl
    obtain ⟨t, a1, o, b1, b2, b3⟩ := body p e s m args below meth c s₁ B hml hP s₁ hh0 (Stand.of_body B)
    exact ⟨t, o, a1, b1, b2, b3⟩
/-! ===== END ===== -/
end
section
section RWN
variable {p : Program} {l : Launch} {e : Env} {R : Room} {s : State} {m : MethodId} {args : Array Value} {below : List Frame} {meth : Method} {c : Code} {H : Heap} {locs : List Loc} {cells slots : Nat} {Q : State → Prop}
variable {cc : ByteArray} {pc : Nat} {ls : Array Slot} {rest : List Value}
theorem ln_iadd (hx : p.tables.exec = Jvm.exec) (hb : c.code = cc) {a b : Nat} (hdg : decode cc pc = .ok (.iadd, 1)) (k : W p l e R s m args below meth c H locs cells slots Q (F0 m (pc + 1) ls (.int (nI (a + b)) :: rest))) : W p l e R s m args below meth c H locs cells slots Q (F0 m pc ls (.int (nI b) :: .int (nI a) :: rest)) := lv_iadd hx hb hdg (by rw [nI_add]; exact k)
theorem ln_isub (hx : p.tables.exec = Jvm.exec) (hb : c.code = cc) {a b : Nat} (hdg : decode cc pc = .ok (.isub, 1)) (h : b ≤ a) (k : W p l e R s m args below meth c H locs cells slots Q (F0 m (pc + 1) ls (.int (nI (a - b)) :: rest))) : W p l e R s m args below meth c H locs cells slots Q (F0 m pc ls (.int (nI b) :: .int (nI a) :: rest)) := lv_isub hx hb hdg (by rw [pk_sub h]; exact k)
theorem ln_imul (hx : p.tables.exec = Jvm.exec) (hb : c.code = cc) {a b : Nat} (hdg : decode cc pc = .ok (.imul, 1)) (k : W p l e R s m args below meth c H locs cells slots Q (F0 m (pc + 1) ls (.int (nI (a * b)) :: rest))) : W p l e R s m args below meth c H locs cells slots Q (F0 m pc ls (.int (nI b) :: .int (nI a) :: rest)) := lv_imul hx hb hdg (by rw [pk_mul]; exact k)
theorem ln_idiv (hx : p.tables.exec = Jvm.exec) (hb : c.code = cc) {a b : Nat} (hdg : decode cc pc = .ok (.idiv, 1)) (ha : a < 2 ^ 31) (h0 : 0 < b) (hd : b < 2 ^ 31) (k : W p l e R s m args below meth c H locs cells slots Q (F0 m (pc + 1) ls (.int (nI (a / b)) :: rest))) : W p l e R s m args below meth c H locs cells slots Q (F0 m pc ls (.int (nI b) :: .int (nI a) :: rest)) := lv_idiv hx hb hdg (nI_ne0 h0 hd) (by rw [pk_div ha h0 hd]; exact k)
theorem ln_irem (hx : p.tables.exec = Jvm.exec) (hb : c.code = cc) {a b : Nat} (hdg : decode cc pc = .ok (.irem, 1)) (ha : a < 2 ^ 31) (h0 : 0 < b) (hd : b < 2 ^ 31) (k : W p l e R s m args below meth c H locs cells slots Q (F0 m (pc + 1) ls (.int (nI (a % b)) :: rest))) : W p l e R s m args below meth c H locs cells slots Q (F0 m pc ls (.int (nI b) :: .int (nI a) :: rest)) := lv_irem hx hb hdg (nI_ne0 h0 hd) (by rw [pk_rem ha h0 hd]; exact k)
theorem ln_icmp_eq (hx : p.tables.exec = Jvm.exec) (hb : c.code = cc) {a b : Nat} {off : Int} {tgt : Nat} (ha : a < 2 ^ 31) (hb9 : b < 2 ^ 31) (hdg : decode cc pc = .ok (.if_icmp .eq off, 3)) (ht : (pc : Int) + off = (tgt : Int)) (kt : a = b → W p l e R s m args below meth c H locs cells slots Q (F0 m tgt ls rest)) (kf : a ≠ b → W p l e R s m args below meth c H locs cells slots Q (F0 m (pc + 3) ls rest)) : W p l e R s m args below meth c H locs cells slots Q (F0 m pc ls (.int (nI b) :: .int (nI a) :: rest)) := lv_icmp_eq hx hb hdg ht (fun q => kt ((nI_eq ha hb9).mp q)) (fun q => kf (fun w => q ((nI_eq ha hb9).mpr w)))
theorem ln_icmp_ne (hx : p.tables.exec = Jvm.exec) (hb : c.code = cc) {a b : Nat} {off : Int} {tgt : Nat} (ha : a < 2 ^ 31) (hb9 : b < 2 ^ 31) (hdg : decode cc pc = .ok (.if_icmp .ne off, 3)) (ht : (pc : Int) + off = (tgt : Int)) (kt : a ≠ b → W p l e R s m args below meth c H locs cells slots Q (F0 m tgt ls rest)) (kf : a = b → W p l e R s m args below meth c H locs cells slots Q (F0 m (pc + 3) ls rest)) : W p l e R s m args below meth c H locs cells slots Q (F0 m pc ls (.int (nI b) :: .int (nI a) :: rest)) := lv_icmp_ne hx hb hdg ht (fun q => kt (fun w => q ((nI_eq ha hb9).mpr w))) (fun q => kf ((nI_eq ha hb9).mp q))
theorem ln_icmp_lt (hx : p.tables.exec = Jvm.exec) (hb : c.code = cc) {a b : Nat} {off : Int} {tgt : Nat} (ha : a < 2 ^ 31) (hb9 : b < 2 ^ 31) (hdg : decode cc pc = .ok (.if_icmp .lt off, 3)) (ht : (pc : Int) + off = (tgt : Int)) (kt : a < b → W p l e R s m args below meth c H locs cells slots Q (F0 m tgt ls rest)) (kf : b ≤ a → W p l e R s m args below meth c H locs cells slots Q (F0 m (pc + 3) ls rest)) : W p l e R s m args below meth c H locs cells slots Q (F0 m pc ls (.int (nI b) :: .int (nI a) :: rest)) := lv_icmp_lt hx hb hdg ht (fun q => kt ((nI_ltI ha hb9).mp q)) (fun q => kf (by have w := mt (nI_ltI ha hb9).mpr q; omega))
theorem ln_icmp_ge (hx : p.tables.exec = Jvm.exec) (hb : c.code = cc) {a b : Nat} {off : Int} {tgt : Nat} (ha : a < 2 ^ 31) (hb9 : b < 2 ^ 31) (hdg : decode cc pc = .ok (.if_icmp .ge off, 3)) (ht : (pc : Int) + off = (tgt : Int)) (kt : b ≤ a → W p l e R s m args below meth c H locs cells slots Q (F0 m tgt ls rest)) (kf : a < b → W p l e R s m args below meth c H locs cells slots Q (F0 m (pc + 3) ls rest)) : W p l e R s m args below meth c H locs cells slots Q (F0 m pc ls (.int (nI b) :: .int (nI a) :: rest)) := lv_icmp_ge hx hb hdg ht (fun q => kt ((nI_leI hb9 ha).mp q)) (fun q => kf (by have w := mt (nI_leI hb9 ha).mpr q; omega))
theorem ln_icmp_gt (hx : p.tables.exec = Jvm.exec) (hb : c.code = cc) {a b : Nat} {off : Int} {tgt : Nat} (ha : a < 2 ^ 31) (hb9 : b < 2 ^ 31) (hdg : decode cc pc = .ok (.if_icmp .gt off, 3)) (ht : (pc : Int) + off = (tgt : Int)) (kt : b < a → W p l e R s m args below meth c H locs cells slots Q (F0 m tgt ls rest)) (kf : a ≤ b → W p l e R s m args below meth c H locs cells slots Q (F0 m (pc + 3) ls rest)) : W p l e R s m args below meth c H locs cells slots Q (F0 m pc ls (.int (nI b) :: .int (nI a) :: rest)) := lv_icmp_gt hx hb hdg ht (fun q => kt ((nI_ltI hb9 ha).mp q)) (fun q => kf (by have w := mt (nI_ltI hb9 ha).mpr q; omega))
theorem ln_icmp_le (hx : p.tables.exec = Jvm.exec) (hb : c.code = cc) {a b : Nat} {off : Int} {tgt : Nat} (ha : a < 2 ^ 31) (hb9 : b < 2 ^ 31) (hdg : decode cc pc = .ok (.if_icmp .le off, 3)) (ht : (pc : Int) + off = (tgt : Int)) (kt : a ≤ b → W p l e R s m args below meth c H locs cells slots Q (F0 m tgt ls rest)) (kf : b < a → W p l e R s m args below meth c H locs cells slots Q (F0 m (pc + 3) ls rest)) : W p l e R s m args below meth c H locs cells slots Q (F0 m pc ls (.int (nI b) :: .int (nI a) :: rest)) := lv_icmp_le hx hb hdg ht (fun q => kt ((nI_leI ha hb9).mp q)) (fun q => kf (by have w := mt (nI_leI ha hb9).mpr q; omega))
theorem ln_if_eq (hx : p.tables.exec = Jvm.exec) (hb : c.code = cc) {a : Nat} {off : Int} {tgt : Nat} (ha : a < 2 ^ 31) (hdg : decode cc pc = .ok (.ifCond .eq off, 3)) (ht : (pc : Int) + off = (tgt : Int)) (kt : a = 0 → W p l e R s m args below meth c H locs cells slots Q (F0 m tgt ls rest)) (kf : 0 < a → W p l e R s m args below meth c H locs cells slots Q (F0 m (pc + 3) ls rest)) : W p l e R s m args below meth c H locs cells slots Q (F0 m pc ls (.int (nI a) :: rest)) := lv_if_eq hx hb hdg ht (fun q => kt (by rcases Nat.eq_zero_or_pos a with w | w; exact w; exact absurd q (nI_ne0 w ha))) (fun q => kf (by rcases Nat.eq_zero_or_pos a with w | w; exact absurd (by rw [w]; rfl) q; exact w))
theorem ln_if_ne (hx : p.tables.exec = Jvm.exec) (hb : c.code = cc) {a : Nat} {off : Int} {tgt : Nat} (ha : a < 2 ^ 31) (hdg : decode cc pc = .ok (.ifCond .ne off, 3)) (ht : (pc : Int) + off = (tgt : Int)) (kt : 0 < a → W p l e R s m args below meth c H locs cells slots Q (F0 m tgt ls rest)) (kf : a = 0 → W p l e R s m args below meth c H locs cells slots Q (F0 m (pc + 3) ls rest)) : W p l e R s m args below meth c H locs cells slots Q (F0 m pc ls (.int (nI a) :: rest)) := lv_if_ne hx hb hdg ht (fun q => kt (by rcases Nat.eq_zero_or_pos a with w | w; exact absurd (by rw [w]; rfl) q; exact w)) (fun q => kf (by rcases Nat.eq_zero_or_pos a with w | w; exact w; exact absurd q (nI_ne0 w ha)))
theorem ln_if_gt (hx : p.tables.exec = Jvm.exec) (hb : c.code = cc) {a : Nat} {off : Int} {tgt : Nat} (ha : a < 2 ^ 31) (hdg : decode cc pc = .ok (.ifCond .gt off, 3)) (ht : (pc : Int) + off = (tgt : Int)) (kt : 0 < a → W p l e R s m args below meth c H locs cells slots Q (F0 m tgt ls rest)) (kf : a = 0 → W p l e R s m args below meth c H locs cells slots Q (F0 m (pc + 3) ls rest)) : W p l e R s m args below meth c H locs cells slots Q (F0 m pc ls (.int (nI a) :: rest)) := lv_if_gt hx hb hdg ht (fun q => kt (by have w := (nI_ltI (by omega) ha).mp (show nI 0 < nI a by rw [nI_0]; exact q); exact w)) (fun q => kf (by rcases Nat.eq_zero_or_pos a with w | w; exact w; exact absurd (by rw [← nI_0]; exact nI_lt w ha) q))
theorem ln_if_le (hx : p.tables.exec = Jvm.exec) (hb : c.code = cc) {a : Nat} {off : Int} {tgt : Nat} (ha : a < 2 ^ 31) (hdg : decode cc pc = .ok (.ifCond .le off, 3)) (ht : (pc : Int) + off = (tgt : Int)) (kt : a = 0 → W p l e R s m args below meth c H locs cells slots Q (F0 m tgt ls rest)) (kf : 0 < a → W p l e R s m args below meth c H locs cells slots Q (F0 m (pc + 3) ls rest)) : W p l e R s m args below meth c H locs cells slots Q (F0 m pc ls (.int (nI a) :: rest)) := lv_if_le hx hb hdg ht (fun q => kt (by have w := (nI_leI ha (by omega)).mp (show nI a ≤ nI 0 by rw [nI_0]; exact q); omega)) (fun q => kf (by rcases Nat.eq_zero_or_pos a with w | w; exact absurd (by rw [w, ← nI_0]; exact nI_le (Nat.le_refl 0) (by omega)) q; exact w))
theorem ln_if_lt (hx : p.tables.exec = Jvm.exec) (hb : c.code = cc) {a : Nat} {off : Int} {tgt : Nat} (ha : a < 2 ^ 31) (hdg : decode cc pc = .ok (.ifCond .lt off, 3)) (ht : (pc : Int) + off = (tgt : Int)) (kf : W p l e R s m args below meth c H locs cells slots Q (F0 m (pc + 3) ls rest)) : W p l e R s m args below meth c H locs cells slots Q (F0 m pc ls (.int (nI a) :: rest)) := lv_if_lt hx hb hdg ht (fun q => absurd q (nI_pos ha)) (fun _ => kf)
theorem ln_if_ge (hx : p.tables.exec = Jvm.exec) (hb : c.code = cc) {a : Nat} {off : Int} {tgt : Nat} (ha : a < 2 ^ 31) (hdg : decode cc pc = .ok (.ifCond .ge off, 3)) (ht : (pc : Int) + off = (tgt : Int)) (kt : W p l e R s m args below meth c H locs cells slots Q (F0 m tgt ls rest)) : W p l e R s m args below meth c H locs cells slots Q (F0 m pc ls (.int (nI a) :: rest)) := lv_if_ge hx hb hdg ht (fun _ => kt) (fun q => absurd (nI_pos' ha) q)
theorem ln_inc {a k : Nat} {n : Int} (h : Int32.ofInt n = nI k) : nI a + Int32.ofInt n = nI (a + k) := by rw [h, nI_add]
theorem ln_dec {a : Nat} (h : 0 < a) : nI a + Int32.ofInt (-1) = nI (a - 1) := sb_m1 h
theorem ln_iald (hx : p.tables.exec = Jvm.exec) (hb : c.code = cc) {D : va_G} {cl : List vw_C} {A : Nat → Prop} {ad0 : Nat} {tys : List (ClassId × FieldType)} {ws : va_W} {H0 : Heap} (hK : va_K D cl tys s) (hP : va_P D cl ws H) (q0 t0 : Nat) {cA : ClassId} {n i : Nat} {f : Nat → Int32} (ha : ws[q0]? = some (ad0, .inl (cA, n, .inl f))) (ht : tys[t0]? = some (cA, .int)) (hi : i < n) (hn : n < 2 ^ 31) (hdg : decode cc pc = .ok (.iaload, 1)) (kk : W p l e R s m args below meth c H locs cells slots Q (F0 m (pc + 1) ls (.int (f i) :: rest))) : W p l e R s m args below meth c H locs cells slots Q (F0 m pc ls (.int (nI i) :: .ref ad0 :: rest)) := va_iald hx hb hK hP q0 t0 ha ht (vp_in_nI hi hn) hdg (by rw [nI_clamp (by omega)]; exact kk)
theorem ln_bald (hx : p.tables.exec = Jvm.exec) (hb : c.code = cc) {D : va_G} {cl : List vw_C} {A : Nat → Prop} {ad0 : Nat} {tys : List (ClassId × FieldType)} {ws : va_W} {H0 : Heap} (hK : va_K D cl tys s) (hP : va_P D cl ws H) (q0 t0 : Nat) {cA : ClassId} {n i : Nat} {f : Nat → Int32} (ha : ws[q0]? = some (ad0, .inl (cA, n, .inl f))) (ht : tys[t0]? = some (cA, .byte)) (hi : i < n) (hn : n < 2 ^ 31) (hdg : decode cc pc = .ok (.baload, 1)) (kk : W p l e R s m args below meth c H locs cells slots Q (F0 m (pc + 1) ls (.int (f i) :: rest))) : W p l e R s m args below meth c H locs cells slots Q (F0 m pc ls (.int (nI i) :: .ref ad0 :: rest)) := va_bald hx hb hK hP q0 t0 ha ht (vp_in_nI hi hn) hdg (by rw [nI_clamp (by omega)]; exact kk)
theorem ln_zald (hx : p.tables.exec = Jvm.exec) (hb : c.code = cc) {D : va_G} {cl : List vw_C} {A : Nat → Prop} {ad0 : Nat} {tys : List (ClassId × FieldType)} {ws : va_W} {H0 : Heap} (hK : va_K D cl tys s) (hP : va_P D cl ws H) (q0 t0 : Nat) {cA : ClassId} {n i : Nat} {f : Nat → Int32} (ha : ws[q0]? = some (ad0, .inl (cA, n, .inl f))) (ht : tys[t0]? = some (cA, .boolean)) (hi : i < n) (hn : n < 2 ^ 31) (hdg : decode cc pc = .ok (.baload, 1)) (kk : W p l e R s m args below meth c H locs cells slots Q (F0 m (pc + 1) ls (.int (f i) :: rest))) : W p l e R s m args below meth c H locs cells slots Q (F0 m pc ls (.int (nI i) :: .ref ad0 :: rest)) := va_zald hx hb hK hP q0 t0 ha ht (vp_in_nI hi hn) hdg (by rw [nI_clamp (by omega)]; exact kk)
theorem ln_lald (hx : p.tables.exec = Jvm.exec) (hb : c.code = cc) {D : va_G} {cl : List vw_C} {A : Nat → Prop} {ad0 : Nat} {tys : List (ClassId × FieldType)} {ws : va_W} {H0 : Heap} (hK : va_K D cl tys s) (hP : va_P D cl ws H) (q0 t0 : Nat) {cA : ClassId} {n i : Nat} {f : Nat → Int64} (ha : ws[q0]? = some (ad0, .inl (cA, n, .inr (.inl f)))) (ht : tys[t0]? = some (cA, .long)) (hi : i < n) (hn : n < 2 ^ 31) (hdg : decode cc pc = .ok (.laload, 1)) (kk : W p l e R s m args below meth c H locs cells slots Q (F0 m (pc + 1) ls (.long (f i) :: rest))) : W p l e R s m args below meth c H locs cells slots Q (F0 m pc ls (.int (nI i) :: .ref ad0 :: rest)) := va_lald hx hb hK hP q0 t0 ha ht (vp_in_nI hi hn) hdg (by rw [nI_clamp (by omega)]; exact kk)
theorem ln_iast (hx : p.tables.exec = Jvm.exec) (hb : c.code = cc) {D : va_G} {cl : List vw_C} {A : Nat → Prop} {ad0 : Nat} {tys : List (ClassId × FieldType)} {ws : va_W} {H0 : Heap} (hK : va_K D cl tys s) (hP : va_P D cl ws H) (hD : va_D A ws) (hS : va_S A H0 H locs) (q0 t0 : Nat) {cA : ClassId} {n i : Nat} {f : Nat → Int32} {x : Int32} (ha : ws[q0]? = some (ad0, .inl (cA, n, .inl f))) (ht : tys[t0]? = some (cA, .int)) (hi : i < n) (hn : n < 2 ^ 31) (hdg : decode cc pc = .ok (.iastore, 1)) (kk : ∀ (H1 : Heap) (locs1 : List Loc), va_P D cl (ws.set q0 (ad0, .inl (cA, n, .inl (upd f i x)))) H1 → va_D A (ws.set q0 (ad0, .inl (cA, n, .inl (upd f i x)))) → va_S A H0 H1 locs1 → W p l e R s m args below meth c H1 locs1 cells slots Q (F0 m (pc + 1) ls rest)) : W p l e R s m args below meth c H locs cells slots Q (F0 m pc ls (.int x :: .int (nI i) :: .ref ad0 :: rest)) := va_iast hx hb hK hP hD hS q0 t0 ha ht (vp_in_nI hi hn) hdg (fun H1 locs1 h1 h2 h3 => by rw [nI_clamp (by omega)] at h1 h2; exact kk H1 locs1 h1 h2 h3)
theorem ln_bast (hx : p.tables.exec = Jvm.exec) (hb : c.code = cc) {D : va_G} {cl : List vw_C} {A : Nat → Prop} {ad0 : Nat} {tys : List (ClassId × FieldType)} {ws : va_W} {H0 : Heap} (hK : va_K D cl tys s) (hP : va_P D cl ws H) (hD : va_D A ws) (hS : va_S A H0 H locs) (q0 t0 : Nat) {cA : ClassId} {n i : Nat} {f : Nat → Int32} {x : Int32} (ha : ws[q0]? = some (ad0, .inl (cA, n, .inl f))) (ht : tys[t0]? = some (cA, .byte)) (hi : i < n) (hn : n < 2 ^ 31) (hdg : decode cc pc = .ok (.bastore, 1)) (kk : ∀ (H1 : Heap) (locs1 : List Loc), va_P D cl (ws.set q0 (ad0, .inl (cA, n, .inl (upd f i (vp_nar .byte x))))) H1 → va_D A (ws.set q0 (ad0, .inl (cA, n, .inl (upd f i (vp_nar .byte x))))) → va_S A H0 H1 locs1 → W p l e R s m args below meth c H1 locs1 cells slots Q (F0 m (pc + 1) ls rest)) : W p l e R s m args below meth c H locs cells slots Q (F0 m pc ls (.int x :: .int (nI i) :: .ref ad0 :: rest)) := va_bast hx hb hK hP hD hS q0 t0 ha ht (vp_in_nI hi hn) hdg (fun H1 locs1 h1 h2 h3 => by rw [nI_clamp (by omega)] at h1 h2; exact kk H1 locs1 h1 h2 h3)
theorem ln_zast (hx : p.tables.exec = Jvm.exec) (hb : c.code = cc) {D : va_G} {cl : List vw_C} {A : Nat → Prop} {ad0 : Nat} {tys : List (ClassId × FieldType)} {ws : va_W} {H0 : Heap} (hK : va_K D cl tys s) (hP : va_P D cl ws H) (hD : va_D A ws) (hS : va_S A H0 H locs) (q0 t0 : Nat) {cA : ClassId} {n i : Nat} {f : Nat → Int32} {x : Int32} (ha : ws[q0]? = some (ad0, .inl (cA, n, .inl f))) (ht : tys[t0]? = some (cA, .boolean)) (hi : i < n) (hn : n < 2 ^ 31) (hdg : decode cc pc = .ok (.bastore, 1)) (kk : ∀ (H1 : Heap) (locs1 : List Loc), va_P D cl (ws.set q0 (ad0, .inl (cA, n, .inl (upd f i (vp_nar .boolean x))))) H1 → va_D A (ws.set q0 (ad0, .inl (cA, n, .inl (upd f i (vp_nar .boolean x))))) → va_S A H0 H1 locs1 → W p l e R s m args below meth c H1 locs1 cells slots Q (F0 m (pc + 1) ls rest)) : W p l e R s m args below meth c H locs cells slots Q (F0 m pc ls (.int x :: .int (nI i) :: .ref ad0 :: rest)) := va_zast hx hb hK hP hD hS q0 t0 ha ht (vp_in_nI hi hn) hdg (fun H1 locs1 h1 h2 h3 => by rw [nI_clamp (by omega)] at h1 h2; exact kk H1 locs1 h1 h2 h3)
theorem ln_last (hx : p.tables.exec = Jvm.exec) (hb : c.code = cc) {D : va_G} {cl : List vw_C} {A : Nat → Prop} {ad0 : Nat} {tys : List (ClassId × FieldType)} {ws : va_W} {H0 : Heap} (hK : va_K D cl tys s) (hP : va_P D cl ws H) (hD : va_D A ws) (hS : va_S A H0 H locs) (q0 t0 : Nat) {cA : ClassId} {n i : Nat} {f : Nat → Int64} {x : Int64} (ha : ws[q0]? = some (ad0, .inl (cA, n, .inr (.inl f)))) (ht : tys[t0]? = some (cA, .long)) (hi : i < n) (hn : n < 2 ^ 31) (hdg : decode cc pc = .ok (.lastore, 1)) (kk : ∀ (H1 : Heap) (locs1 : List Loc), va_P D cl (ws.set q0 (ad0, .inl (cA, n, .inr (.inl (vp_updL f i x))))) H1 → va_D A (ws.set q0 (ad0, .inl (cA, n, .inr (.inl (vp_updL f i x))))) → va_S A H0 H1 locs1 → W p l e R s m args below meth c H1 locs1 cells slots Q (F0 m (pc + 1) ls rest)) : W p l e R s m args below meth c H locs cells slots Q (F0 m pc ls (.long x :: .int (nI i) :: .ref ad0 :: rest)) := va_last hx hb hK hP hD hS q0 t0 ha ht (vp_in_nI hi hn) hdg (fun H1 locs1 h1 h2 h3 => by rw [nI_clamp (by omega)] at h1 h2; exact kk H1 locs1 h1 h2 h3)
theorem ln_callR {r : Int32} {a : Array Value} {st0 : List Value} (hr : CallRun p l e R s m args below meth c H locs cells slots 0 0 (F0 m pc ls st0) rest (QcRead r a) (fun _ => False)) (kk : W p l e R s m args below meth c H locs cells slots Q (F0 m (pc + 3) ls (.int r :: rest))) : W p l e R s m args below meth c H locs cells slots Q (F0 m pc ls st0) := W.callR hr kk
end RWN
end
section
def R_Bo : String := "FileBody$Bodies"
def T_Bo : u_T := fun k => match k with
  | 0 => ("FileBody$Bodies", "blocks", "LFileBody$DataBlocks;", true)
  | _ => ("FileBody$Bodies", "records", "LFileBody$Records;", true)
def t_Bo : Nat → FieldType := fun k => match k with
  | 0 => .object "FileBody$DataBlocks"
  | _ => .object "FileBody$Records"
theorem n_Bo : ∀ a, a < 2 → ∀ b, b < 2 → a ≠ b → (T_Bo a).2.1 ≠ (T_Bo b).2.1 := by decide +kernel
theorem t_Bo_ok : ∀ k, k < 2 → parseFieldDescriptor (T_Bo k).2.2.1 = some (t_Bo k) := by decide +kernel
def R_Db : String := "FileBody$DataBlocks"
def T_Db : u_T := fun k => match k with
  | 0 => ("FileBody$DataBlocks", "rows", "[[B", true)
  | 1 => ("FileBody$DataBlocks", "taken", "[Z", true)
  | _ => ("FileBody$DataBlocks", "free", "I", false)
def t_Db : Nat → FieldType := fun k => match k with
  | 0 => .array (.array .byte)
  | 1 => .array .boolean
  | _ => .int
theorem n_Db : ∀ a, a < 3 → ∀ b, b < 3 → a ≠ b → (T_Db a).2.1 ≠ (T_Db b).2.1 := by decide +kernel
theorem t_Db_ok : ∀ k, k < 3 → parseFieldDescriptor (T_Db k).2.2.1 = some (t_Db k) := by decide +kernel
def R_Fr : String := "FileBody$Front"
def T_Fr : u_T := fun k => match k with
  | _ => ("FileBody$Front", "bytes", "[B", true)
def t_Fr : Nat → FieldType := fun k => match k with
  | _ => .array .byte
theorem n_Fr : ∀ a, a < 1 → ∀ b, b < 1 → a ≠ b → (T_Fr a).2.1 ≠ (T_Fr b).2.1 := by decide +kernel
theorem t_Fr_ok : ∀ k, k < 1 → parseFieldDescriptor (T_Fr k).2.2.1 = some (t_Fr k) := by decide +kernel
def R_Re : String := "FileBody$Records"
def T_Re : u_T := fun k => match k with
  | _ => ("FileBody$Records", "front", "LFileBody$Front;", true)
def t_Re : Nat → FieldType := fun k => match k with
  | _ => .object "FileBody$Front"
theorem n_Re : ∀ a, a < 1 → ∀ b, b < 1 → a ≠ b → (T_Re a).2.1 ≠ (T_Re b).2.1 := by decide +kernel
theorem t_Re_ok : ∀ k, k < 1 → parseFieldDescriptor (T_Re k).2.2.1 = some (t_Re k) := by decide +kernel
def R_Wa : String := "FileBody$Waiting"
def T_Wa : u_T := fun k => match k with
  | 0 => ("FileBody$Waiting", "front", "LFileBody$Front;", true)
  | _ => ("FileBody$Waiting", "records", "LFileBody$Records;", true)
def t_Wa : Nat → FieldType := fun k => match k with
  | 0 => .object "FileBody$Front"
  | _ => .object "FileBody$Records"
theorem n_Wa : ∀ a, a < 2 → ∀ b, b < 2 → a ≠ b → (T_Wa a).2.1 ≠ (T_Wa b).2.1 := by decide +kernel
theorem t_Wa_ok : ∀ k, k < 2 → parseFieldDescriptor (T_Wa k).2.2.1 = some (t_Wa k) := by decide +kernel
def R_Fb : String := "FileBody"
def T_Fb : u_T := fun k => match k with
  | 0 => ("FileBody", "front", "LFileBody$Front;", true)
  | 1 => ("FileBody", "blocks", "LFileBody$DataBlocks;", true)
  | 2 => ("FileBody", "records", "LFileBody$Records;", true)
  | 3 => ("FileBody", "waiting", "LFileBody$Waiting;", true)
  | _ => ("FileBody", "bodies", "LFileBody$Bodies;", true)
def t_Fb : Nat → FieldType := fun k => match k with
  | 0 => .object "FileBody$Front"
  | 1 => .object "FileBody$DataBlocks"
  | 2 => .object "FileBody$Records"
  | 3 => .object "FileBody$Waiting"
  | _ => .object "FileBody$Bodies"
theorem n_Fb : ∀ a, a < 5 → ∀ b, b < 5 → a ≠ b → (T_Fb a).2.1 ≠ (T_Fb b).2.1 := by decide +kernel
theorem t_Fb_ok : ∀ k, k < 5 → parseFieldDescriptor (T_Fb k).2.2.1 = some (t_Fb k) := by decide +kernel
def R_Mo : String := "FileBodyModel"
def T_Mo : u_T := fun k => match k with
  | 0 => ("FileBodyModel", "code", "I", false)
  | 1 => ("FileBodyModel", "disk", "[B", true)
  | 2 => ("FileBodyModel", "taken", "[Z", true)
  | 3 => ("FileBodyModel", "kinds", "[I", true)
  | 4 => ("FileBodyModel", "linkCounts", "[I", true)
  | 5 => ("FileBodyModel", "sizes", "[I", true)
  | 6 => ("FileBodyModel", "behind", "[I", true)
  | 7 => ("FileBodyModel", "waits", "[Z", true)
  | 8 => ("FileBodyModel", "blocks", "[I", true)
  | 9 => ("FileBodyModel", "targets", "[B", true)
  | _ => ("FileBodyModel", "first", "I", false)
def t_Mo : Nat → FieldType := fun k => match k with
  | 0 => .int
  | 1 => .array .byte
  | 2 => .array .boolean
  | 3 => .array .int
  | 4 => .array .int
  | 5 => .array .int
  | 6 => .array .int
  | 7 => .array .boolean
  | 8 => .array .int
  | 9 => .array .byte
  | _ => .int
theorem n_Mo : ∀ a, a < 11 → ∀ b, b < 11 → a ≠ b → (T_Mo a).2.1 ≠ (T_Mo b).2.1 := by decide +kernel
theorem t_Mo_ok : ∀ k, k < 11 → parseFieldDescriptor (T_Mo k).2.2.1 = some (t_Mo k) := by decide +kernel
def R_Lw : String := "FileBodyLaw"
def R_Ar : String := "java/util/Arrays"
def R_Ma : String := "java/lang/Math"
abbrev vwC : List vw_C := [(R_Bo, T_Bo, 2), (R_Db, T_Db, 3), (R_Fr, T_Fr, 1), (R_Re, T_Re, 1), (R_Wa, T_Wa, 2), (R_Fb, T_Fb, 5), (R_Mo, T_Mo, 11)]
def y_Fb_init : MethodName := ⟨"FileBody", "<init>", "()V"⟩
abbrev c_Fb_init : ByteArray := prog_1_method_1_code
def y_Fr_init : MethodName := ⟨"FileBody$Front", "<init>", "()V"⟩
abbrev c_Fr_init : ByteArray := prog_4_method_1_code
def y_Db_init : MethodName := ⟨"FileBody$DataBlocks", "<init>", "()V"⟩
abbrev c_Db_init : ByteArray := prog_3_method_1_code
def y_Re_init : MethodName := ⟨"FileBody$Records", "<init>", "(LFileBody$Front;)V"⟩
abbrev c_Re_init : ByteArray := prog_5_method_1_code
def y_Wa_init : MethodName := ⟨"FileBody$Waiting", "<init>", "(LFileBody$Front;LFileBody$Records;)V"⟩
abbrev c_Wa_init : ByteArray := prog_6_method_1_code
def y_Bo_init : MethodName := ⟨"FileBody$Bodies", "<init>", "(LFileBody$DataBlocks;LFileBody$Records;)V"⟩
abbrev c_Bo_init : ByteArray := prog_2_method_1_code
def y_Fb_finish : MethodName := ⟨"FileBody", "finish", "()I"⟩
abbrev c_Fb_finish : ByteArray := prog_1_method_10_code
def y_Wa_first : MethodName := ⟨"FileBody$Waiting", "first", "()I"⟩
abbrev c_Wa_first : ByteArray := prog_6_method_2_code
def y_Fr_number : MethodName := ⟨"FileBody$Front", "number", "(II)I"⟩
abbrev c_Fr_number : ByteArray := prog_4_method_2_code
def y_Fb_letGo : MethodName := ⟨"FileBody", "letGo", "(I)I"⟩
abbrev c_Fb_letGo : ByteArray := prog_1_method_19_code
def y_Re_blocksOf : MethodName := ⟨"FileBody$Records", "blocksOf", "(I)I"⟩
abbrev c_Re_blocksOf : ByteArray := prog_5_method_14_code
def y_Re_field : MethodName := ⟨"FileBody$Records", "field", "(III)I"⟩
abbrev c_Re_field : ByteArray := prog_5_method_21_code
def y_Re_isNumber : MethodName := ⟨"FileBody$Records", "isNumber", "(I)Z"⟩
abbrev c_Re_isNumber : ByteArray := prog_5_method_2_code
def y_Re_startOf : MethodName := ⟨"FileBody$Records", "startOf", "(I)I"⟩
abbrev c_Re_startOf : ByteArray := prog_5_method_23_code
def y_Wa_remove : MethodName := ⟨"FileBody$Waiting", "remove", "(I)V"⟩
abbrev c_Wa_remove : ByteArray := prog_6_method_5_code
def y_Re_behind : MethodName := ⟨"FileBody$Records", "behind", "(I)I"⟩
abbrev c_Re_behind : ByteArray := prog_5_method_10_code
def y_Wa_setFirst : MethodName := ⟨"FileBody$Waiting", "setFirst", "(I)V"⟩
abbrev c_Wa_setFirst : ByteArray := prog_6_method_7_code
def y_Fr_setNumber : MethodName := ⟨"FileBody$Front", "setNumber", "(III)V"⟩
abbrev c_Fr_setNumber : ByteArray := prog_4_method_3_code
def y_Wa_fileBefore : MethodName := ⟨"FileBody$Waiting", "fileBefore", "(I)I"⟩
abbrev c_Wa_fileBefore : ByteArray := prog_6_method_6_code
def y_Re_setBehind : MethodName := ⟨"FileBody$Records", "setBehind", "(II)V"⟩
abbrev c_Re_setBehind : ByteArray := prog_5_method_11_code
def y_Re_setField : MethodName := ⟨"FileBody$Records", "setField", "(IIII)V"⟩
abbrev c_Re_setField : ByteArray := prog_5_method_22_code
def y_Bo_giveBack : MethodName := ⟨"FileBody$Bodies", "giveBack", "(II)V"⟩
abbrev c_Bo_giveBack : ByteArray := prog_2_method_9_code
def y_Re_blockOf : MethodName := ⟨"FileBody$Records", "blockOf", "(II)I"⟩
abbrev c_Re_blockOf : ByteArray := prog_5_method_18_code
def y_Db_give : MethodName := ⟨"FileBody$DataBlocks", "give", "(I)V"⟩
abbrev c_Db_give : ByteArray := prog_3_method_4_code
def y_Re_removeBlock : MethodName := ⟨"FileBody$Records", "removeBlock", "(II)V"⟩
abbrev c_Re_removeBlock : ByteArray := prog_5_method_20_code
def y_Re_erase : MethodName := ⟨"FileBody$Records", "erase", "(I)V"⟩
abbrev c_Re_erase : ByteArray := prog_5_method_6_code
def y_Lw_make : MethodName := ⟨"FileBodyLaw", "make", "(LFileBody;I[J)I"⟩
abbrev c_Lw_make : ByteArray := method_3_code
def y_Fb_make : MethodName := ⟨"FileBody", "make", "(I)I"⟩
abbrev c_Fb_make : ByteArray := prog_1_method_2_code
def y_Re_leastAbsent : MethodName := ⟨"FileBody$Records", "leastAbsent", "()I"⟩
abbrev c_Re_leastAbsent : ByteArray := prog_5_method_3_code
def y_Re_kindOf : MethodName := ⟨"FileBody$Records", "kindOf", "(I)I"⟩
abbrev c_Re_kindOf : ByteArray := prog_5_method_7_code
def y_Re_begin : MethodName := ⟨"FileBody$Records", "begin", "(III)V"⟩
abbrev c_Re_begin : ByteArray := prog_5_method_5_code
def y_Re_setLinks : MethodName := ⟨"FileBody$Records", "setLinks", "(II)V"⟩
abbrev c_Re_setLinks : ByteArray := prog_5_method_13_code
def y_Wa_add : MethodName := ⟨"FileBody$Waiting", "add", "(I)V"⟩
abbrev c_Wa_add : ByteArray := prog_6_method_4_code
def y_Lw_link : MethodName := ⟨"FileBodyLaw", "link", "(LFileBody;II[J)I"⟩
abbrev c_Lw_link : ByteArray := method_4_code
def y_Fb_link : MethodName := ⟨"FileBody", "link", "(II)I"⟩
abbrev c_Fb_link : ByteArray := prog_1_method_3_code
def y_Db_howManyFree : MethodName := ⟨"FileBody$DataBlocks", "howManyFree", "()I"⟩
abbrev c_Db_howManyFree : ByteArray := prog_3_method_2_code
def y_Re_setSize : MethodName := ⟨"FileBody$Records", "setSize", "(II)V"⟩
abbrev c_Re_setSize : ByteArray := prog_5_method_9_code
def y_Bo_setTarget : MethodName := ⟨"FileBody$Bodies", "setTarget", "(III)V"⟩
abbrev c_Bo_setTarget : ByteArray := prog_2_method_3_code
def y_Re_hasTarget : MethodName := ⟨"FileBody$Records", "hasTarget", "(I)Z"⟩
abbrev c_Re_hasTarget : ByteArray := prog_5_method_15_code
def y_Re_sizeOf : MethodName := ⟨"FileBody$Records", "sizeOf", "(I)I"⟩
abbrev c_Re_sizeOf : ByteArray := prog_5_method_8_code
def y_Bo_targetByte : MethodName := ⟨"FileBody$Bodies", "targetByte", "(II)I"⟩
abbrev c_Bo_targetByte : ByteArray := prog_2_method_11_code
def y_Ma_floorMod : MethodName := ⟨"java/lang/Math", "floorMod", "(II)I"⟩
abbrev c_Ma_floorMod : ByteArray := prog_17_method_50_code
def y_Re_setTargetByte : MethodName := ⟨"FileBody$Records", "setTargetByte", "(III)V"⟩
abbrev c_Re_setTargetByte : ByteArray := prog_5_method_17_code
def y_Bo_takeBlock : MethodName := ⟨"FileBody$Bodies", "takeBlock", "(II)V"⟩
abbrev c_Bo_takeBlock : ByteArray := prog_2_method_10_code
def y_Db_take : MethodName := ⟨"FileBody$DataBlocks", "take", "(I)I"⟩
abbrev c_Db_take : ByteArray := prog_3_method_3_code
def y_Db_leastFree : MethodName := ⟨"FileBody$DataBlocks", "leastFree", "(I)I"⟩
abbrev c_Db_leastFree : ByteArray := prog_3_method_9_code
def y_Ar_fill : MethodName := ⟨"java/util/Arrays", "fill", "([BB)V"⟩
abbrev c_Ar_fill : ByteArray := prog_25_method_109_code
def y_Re_addBlock : MethodName := ⟨"FileBody$Records", "addBlock", "(III)V"⟩
abbrev c_Re_addBlock : ByteArray := prog_5_method_19_code
def y_Db_setByte : MethodName := ⟨"FileBody$DataBlocks", "setByte", "(III)V"⟩
abbrev c_Db_setByte : ByteArray := prog_3_method_6_code
def y_Db_hasSpan : MethodName := ⟨"FileBody$DataBlocks", "hasSpan", "(III)Z"⟩
abbrev c_Db_hasSpan : ByteArray := prog_3_method_10_code
def y_Lw_write : MethodName := ⟨"FileBodyLaw", "write", "(LFileBody;IIJI[J)I"⟩
abbrev c_Lw_write : ByteArray := method_5_code
def y_Fb_write : MethodName := ⟨"FileBody", "write", "(IIJI)I"⟩
abbrev c_Fb_write : ByteArray := prog_1_method_4_code
def y_Fb_checkSpan : MethodName := ⟨"FileBody", "checkSpan", "(IIII)V"⟩
abbrev c_Fb_checkSpan : ByteArray := prog_1_method_17_code
def y_Fb_checkPlain : MethodName := ⟨"FileBody", "checkPlain", "(I)V"⟩
abbrev c_Fb_checkPlain : ByteArray := prog_1_method_16_code
def y_Fb_checkFreeBlocks : MethodName := ⟨"FileBody", "checkFreeBlocks", "(III)V"⟩
abbrev c_Fb_checkFreeBlocks : ByteArray := prog_1_method_18_code
def y_Bo_blocksWanted : MethodName := ⟨"FileBody$Bodies", "blocksWanted", "(III)I"⟩
abbrev c_Bo_blocksWanted : ByteArray := prog_2_method_4_code
def y_Bo_lastPiece : MethodName := ⟨"FileBody$Bodies", "lastPiece", "(II)I"⟩
abbrev c_Bo_lastPiece : ByteArray := prog_2_method_12_code
def y_Bo_prepare : MethodName := ⟨"FileBody$Bodies", "prepare", "(III)V"⟩
abbrev c_Bo_prepare : ByteArray := prog_2_method_5_code
def y_Bo_setBytes : MethodName := ⟨"FileBody$Bodies", "setBytes", "(IIJI)V"⟩
abbrev c_Bo_setBytes : ByteArray := prog_2_method_6_code
def y_Lw_paint : MethodName := ⟨"FileBodyLaw", "paint", "(LFileBody;IIII[J)I"⟩
abbrev c_Lw_paint : ByteArray := method_6_code
def y_Fb_paint : MethodName := ⟨"FileBody", "paint", "(IIII)I"⟩
abbrev c_Fb_paint : ByteArray := prog_1_method_5_code
def y_Bo_setPattern : MethodName := ⟨"FileBody$Bodies", "setPattern", "(IIII)V"⟩
abbrev c_Bo_setPattern : ByteArray := prog_2_method_7_code
def y_Db_setPattern : MethodName := ⟨"FileBody$DataBlocks", "setPattern", "(IIII)V"⟩
abbrev c_Db_setPattern : ByteArray := prog_3_method_8_code
def y_Lw_read : MethodName := ⟨"FileBodyLaw", "read", "(LFileBody;II[J)I"⟩
abbrev c_Lw_read : ByteArray := method_7_code
def y_Fb_read : MethodName := ⟨"FileBody", "read", "(II)I"⟩
abbrev c_Fb_read : ByteArray := prog_1_method_6_code
def y_Fb_checkThere : MethodName := ⟨"FileBody", "checkThere", "(I)V"⟩
abbrev c_Fb_checkThere : ByteArray := prog_1_method_15_code
def y_Bo_byteAt : MethodName := ⟨"FileBody$Bodies", "byteAt", "(II)I"⟩
abbrev c_Bo_byteAt : ByteArray := prog_2_method_2_code
def y_Re_targetByte : MethodName := ⟨"FileBody$Records", "targetByte", "(II)I"⟩
abbrev c_Re_targetByte : ByteArray := prog_5_method_16_code
def y_Db_byteAt : MethodName := ⟨"FileBody$DataBlocks", "byteAt", "(II)I"⟩
abbrev c_Db_byteAt : ByteArray := prog_3_method_5_code
def y_Lw_cut : MethodName := ⟨"FileBodyLaw", "cut", "(LFileBody;II[J)I"⟩
abbrev c_Lw_cut : ByteArray := method_8_code
def y_Fb_cut : MethodName := ⟨"FileBody", "cut", "(II)I"⟩
abbrev c_Fb_cut : ByteArray := prog_1_method_7_code
def y_Bo_resize : MethodName := ⟨"FileBody$Bodies", "resize", "(II)V"⟩
abbrev c_Bo_resize : ByteArray := prog_2_method_8_code
def y_Db_clear : MethodName := ⟨"FileBody$DataBlocks", "clear", "(III)V"⟩
abbrev c_Db_clear : ByteArray := prog_3_method_7_code
def y_Ar_fill4 : MethodName := ⟨"java/util/Arrays", "fill", "([BIIB)V"⟩
abbrev c_Ar_fill4 : ByteArray := prog_25_method_110_code
def y_Ar_rangeCheck : MethodName := ⟨"java/util/Arrays", "rangeCheck", "(III)V"⟩
abbrev c_Ar_rangeCheck : ByteArray := prog_25_method_30_code
def y_Lw_links : MethodName := ⟨"FileBodyLaw", "links", "(LFileBody;II[J)I"⟩
abbrev c_Lw_links : ByteArray := method_9_code
def y_Fb_links : MethodName := ⟨"FileBody", "links", "(II)I"⟩
abbrev c_Fb_links : ByteArray := prog_1_method_8_code
def y_Re_linksOf : MethodName := ⟨"FileBody$Records", "linksOf", "(I)I"⟩
abbrev c_Re_linksOf : ByteArray := prog_5_method_12_code
def y_Lw_drop : MethodName := ⟨"FileBodyLaw", "drop", "(LFileBody;I[J)I"⟩
abbrev c_Lw_drop : ByteArray := method_10_code
def y_Fb_drop : MethodName := ⟨"FileBody", "drop", "(I)I"⟩
abbrev c_Fb_drop : ByteArray := prog_1_method_9_code
def y_Lw_about : MethodName := ⟨"FileBodyLaw", "about", "(LFileBody;II[J)I"⟩
abbrev c_Lw_about : ByteArray := method_11_code
def y_Fb_about : MethodName := ⟨"FileBody", "about", "(II)I"⟩
abbrev c_Fb_about : ByteArray := prog_1_method_11_code
def y_Lw_block : MethodName := ⟨"FileBodyLaw", "block", "(LFileBody;II[J)I"⟩
abbrev c_Lw_block : ByteArray := method_12_code
def y_Fb_block : MethodName := ⟨"FileBody", "block", "(II)I"⟩
abbrev c_Fb_block : ByteArray := prog_1_method_12_code
def y_Lw_count : MethodName := ⟨"FileBodyLaw", "count", "(LFileBody;I[J)I"⟩
abbrev c_Lw_count : ByteArray := method_13_code
def y_Fb_count : MethodName := ⟨"FileBody", "count", "(I)I"⟩
abbrev c_Fb_count : ByteArray := prog_1_method_13_code
def y_Re_howManyThere : MethodName := ⟨"FileBody$Records", "howManyThere", "()I"⟩
abbrev c_Re_howManyThere : ByteArray := prog_5_method_4_code
def y_Wa_howMany : MethodName := ⟨"FileBody$Waiting", "howMany", "()I"⟩
abbrev c_Wa_howMany : ByteArray := prog_6_method_3_code
def y_Lw_byteOf : MethodName := ⟨"FileBodyLaw", "byteOf", "(LFileBody;II[J)I"⟩
abbrev c_Lw_byteOf : ByteArray := method_14_code
def y_Fb_byteOf : MethodName := ⟨"FileBody", "byteOf", "(II)I"⟩
abbrev c_Fb_byteOf : ByteArray := prog_1_method_14_code
def y_Mo_init : MethodName := ⟨"FileBodyModel", "<init>", "()V"⟩
abbrev c_Mo_init : ByteArray := prog_8_method_1_code
def y_Mo_thrown : MethodName := ⟨"FileBodyModel", "thrown", "()I"⟩
abbrev c_Mo_thrown : ByteArray := prog_8_method_2_code
def y_Mo_make : MethodName := ⟨"FileBodyModel", "make", "(I)I"⟩
abbrev c_Mo_make : ByteArray := prog_8_method_10_code
def y_Mo_in : MethodName := ⟨"FileBodyModel", "in", "(JJJ)Z"⟩
abbrev c_Mo_in : ByteArray := prog_8_method_3_code
def y_Mo_freeFile : MethodName := ⟨"FileBodyModel", "freeFile", "()I"⟩
abbrev c_Mo_freeFile : ByteArray := prog_8_method_7_code
def y_Mo_begin : MethodName := ⟨"FileBodyModel", "begin", "(II)I"⟩
abbrev c_Mo_begin : ByteArray := prog_8_method_9_code
def y_Mo_rest : MethodName := ⟨"FileBodyModel", "rest", "(IZ)V"⟩
abbrev c_Mo_rest : ByteArray := prog_8_method_8_code
def y_Mo_link : MethodName := ⟨"FileBodyModel", "link", "(II)I"⟩
abbrev c_Mo_link : ByteArray := prog_8_method_11_code
def y_Mo_freeOnes : MethodName := ⟨"FileBodyModel", "freeOnes", "()I"⟩
abbrev c_Mo_freeOnes : ByteArray := prog_8_method_6_code
def y_Mo_take : MethodName := ⟨"FileBodyModel", "take", "(II)V"⟩
abbrev c_Mo_take : ByteArray := prog_8_method_12_code
def y_Mo_write : MethodName := ⟨"FileBodyModel", "write", "(IIJI)I"⟩
abbrev c_Mo_write : ByteArray := prog_8_method_18_code
def y_Mo_may : MethodName := ⟨"FileBodyModel", "may", "(IIII)Z"⟩
abbrev c_Mo_may : ByteArray := prog_8_method_15_code
def y_Mo_isPlain : MethodName := ⟨"FileBodyModel", "isPlain", "(I)Z"⟩
abbrev c_Mo_isPlain : ByteArray := prog_8_method_5_code
def y_Mo_isFile : MethodName := ⟨"FileBodyModel", "isFile", "(I)Z"⟩
abbrev c_Mo_isFile : ByteArray := prog_8_method_4_code
def y_Mo_wanted : MethodName := ⟨"FileBodyModel", "wanted", "(III)I"⟩
abbrev c_Mo_wanted : ByteArray := prog_8_method_14_code
def y_Mo_takeAll : MethodName := ⟨"FileBodyModel", "takeAll", "(III)V"⟩
abbrev c_Mo_takeAll : ByteArray := prog_8_method_16_code
def y_Mo_set : MethodName := ⟨"FileBodyModel", "set", "(III)V"⟩
abbrev c_Mo_set : ByteArray := prog_8_method_17_code
def y_Mo_paint : MethodName := ⟨"FileBodyModel", "paint", "(IIII)I"⟩
abbrev c_Mo_paint : ByteArray := prog_8_method_19_code
def y_Mo_read : MethodName := ⟨"FileBodyModel", "read", "(II)I"⟩
abbrev c_Mo_read : ByteArray := prog_8_method_20_code
def y_Mo_cut : MethodName := ⟨"FileBodyModel", "cut", "(II)I"⟩
abbrev c_Mo_cut : ByteArray := prog_8_method_21_code
def y_Mo_giveBack : MethodName := ⟨"FileBodyModel", "giveBack", "(II)V"⟩
abbrev c_Mo_giveBack : ByteArray := prog_8_method_13_code
def y_Mo_links : MethodName := ⟨"FileBodyModel", "links", "(II)I"⟩
abbrev c_Mo_links : ByteArray := prog_8_method_22_code
def y_Mo_drop : MethodName := ⟨"FileBodyModel", "drop", "(I)I"⟩
abbrev c_Mo_drop : ByteArray := prog_8_method_25_code
def y_Mo_go : MethodName := ⟨"FileBodyModel", "go", "(I)I"⟩
abbrev c_Mo_go : ByteArray := prog_8_method_24_code
def y_Mo_blocksOf : MethodName := ⟨"FileBodyModel", "blocksOf", "(I)I"⟩
abbrev c_Mo_blocksOf : ByteArray := prog_8_method_23_code
def y_Mo_finish : MethodName := ⟨"FileBodyModel", "finish", "()I"⟩
abbrev c_Mo_finish : ByteArray := prog_8_method_26_code
def y_Mo_about : MethodName := ⟨"FileBodyModel", "about", "(II)I"⟩
abbrev c_Mo_about : ByteArray := prog_8_method_27_code
def y_Mo_block : MethodName := ⟨"FileBodyModel", "block", "(II)I"⟩
abbrev c_Mo_block : ByteArray := prog_8_method_28_code
def y_Mo_count : MethodName := ⟨"FileBodyModel", "count", "(I)I"⟩
abbrev c_Mo_count : ByteArray := prog_8_method_29_code
def y_Mo_byteOf : MethodName := ⟨"FileBodyModel", "byteOf", "(II)I"⟩
abbrev c_Mo_byteOf : ByteArray := prog_8_method_32_code
def y_Mo_part : MethodName := ⟨"FileBodyModel", "part", "(III)I"⟩
abbrev c_Mo_part : ByteArray := prog_8_method_30_code
def y_Mo_recordByte : MethodName := ⟨"FileBodyModel", "recordByte", "(II)I"⟩
abbrev c_Mo_recordByte : ByteArray := prog_8_method_31_code
def y_Lw_law : MethodName := ⟨"FileBodyLaw", "law", "([I)Z"⟩
abbrev c_Lw_law : ByteArray := code
def wA : List Cond := lw_tbl.filter goodWord
theorem wA_t {w : Cond} (i : Nat) (h : tables_1[i]? = some w) (hg : goodWord w = true) : w ∈ wA := List.mem_filter.mpr ⟨List.mem_append_right _ (List.mem_of_getElem? h), hg⟩
theorem wA_p {w : Cond} (i : Nat) (h : (k2_sels lw_privs)[i]? = some w) (hg : goodWord w = true) : w ∈ wA := List.mem_filter.mpr ⟨List.mem_append_left _ (List.mem_of_getElem? h), hg⟩
theorem wA_good {w : Cond} (h : w ∈ wA) : (w.onTables && w.keeps) = true ∨ ∃ ty, w = .arrayClass ty := good_of_word (List.mem_filter.mp h).2
theorem wA_hts {args : Array Value} {s : State} (h : ∀ w ∈ lw_tbl, w.before args s = true) : ∀ w ∈ wA, w.before args s = true := fun w hw => h w (List.mem_filter.mp hw).1
theorem w_0 : (Cond.initialized "FileBodyLaw") ∈ wA := wA_t 0 (by decide +kernel) (by decide +kernel)
theorem w_1 : (Cond.initialized "FileBody") ∈ wA := wA_t 1 (by decide +kernel) (by decide +kernel)
theorem w_2 : (Cond.initialized "FileBody$Front") ∈ wA := wA_t 2 (by decide +kernel) (by decide +kernel)
theorem w_3 : (Cond.initialized "FileBody$DataBlocks") ∈ wA := wA_t 3 (by decide +kernel) (by decide +kernel)
theorem w_4 : (Cond.initialized "FileBody$Records") ∈ wA := wA_t 4 (by decide +kernel) (by decide +kernel)
theorem w_5 : (Cond.initialized "FileBody$Waiting") ∈ wA := wA_t 5 (by decide +kernel) (by decide +kernel)
theorem w_6 : (Cond.initialized "FileBody$Bodies") ∈ wA := wA_t 6 (by decide +kernel) (by decide +kernel)
theorem w_7 : (Cond.initialized "FileBodyModel") ∈ wA := wA_t 7 (by decide +kernel) (by decide +kernel)
theorem w_11 : (Cond.initialized "java/lang/IllegalArgumentException") ∈ wA := wA_t 11 (by decide +kernel) (by decide +kernel)
theorem w_12 : (Cond.initialized "java/lang/IllegalStateException") ∈ wA := wA_t 12 (by decide +kernel) (by decide +kernel)
theorem w_13 : (Cond.initialized "java/lang/Math") ∈ wA := wA_t 13 (by decide +kernel) (by decide +kernel)
theorem w_14 : (Cond.initialized "java/util/Arrays") ∈ wA := wA_t 14 (by decide +kernel) (by decide +kernel)
theorem w_15 : (Cond.initialized "java/lang/IndexOutOfBoundsException") ∈ wA := wA_t 15 (by decide +kernel) (by decide +kernel)
theorem w_26 : (Cond.classLink "FileBodyLaw" 8 "FileBody") ∈ wA := wA_t 26 (by decide +kernel) (by decide +kernel)
theorem w_27 : (Cond.instantiable "FileBody" 5) ∈ wA := wA_t 27 (by decide +kernel) (by decide +kernel)
theorem w_28 : (Cond.methodLink "FileBodyLaw" 55 y_Fb_init) ∈ wA := wA_t 28 (by decide +kernel) (by decide +kernel)
theorem w_29 : (Cond.instanceMethod y_Fb_init) ∈ wA := wA_t 29 (by decide +kernel) (by decide +kernel)
theorem w_30 : (Cond.code y_Fb_init prog_1_method_1_code 1 (Option.none : Option FieldType)) ∈ wA := wA_t 30 (by decide +kernel) (by decide +kernel)
theorem w_31 : (Cond.methodLink "FileBody" 3 (⟨"java/lang/Object", "<init>", "()V"⟩ : MethodName)) ∈ wA := wA_t 31 (by decide +kernel) (by decide +kernel)
theorem w_32 : (Cond.instanceMethod (⟨"java/lang/Object", "<init>", "()V"⟩ : MethodName)) ∈ wA := wA_t 32 (by decide +kernel) (by decide +kernel)
theorem w_33 : (Cond.code (⟨"java/lang/Object", "<init>", "()V"⟩ : MethodName) object_method_1_code 1 (Option.none : Option FieldType)) ∈ wA := wA_t 33 (by decide +kernel) (by decide +kernel)
theorem w_34 : (Cond.classLink "FileBody" 9 "FileBody$Front") ∈ wA := wA_t 34 (by decide +kernel) (by decide +kernel)
theorem w_35 : (Cond.instantiable "FileBody$Front" 1) ∈ wA := wA_t 35 (by decide +kernel) (by decide +kernel)
theorem w_37 : (Cond.instanceMethod y_Fr_init) ∈ wA := wA_t 37 (by decide +kernel) (by decide +kernel)
theorem w_38 : (Cond.code y_Fr_init prog_4_method_1_code 1 (Option.none : Option FieldType)) ∈ wA := wA_t 38 (by decide +kernel) (by decide +kernel)
theorem w_39 : (Cond.methodLink "FileBody$Front" 3 (⟨"java/lang/Object", "<init>", "()V"⟩ : MethodName)) ∈ wA := wA_t 39 (by decide +kernel) (by decide +kernel)
theorem w_40 : (Cond.fieldLink "FileBody$Front" 9 "FileBody$Front" "bytes" "[B") ∈ wA := wA_t 40 (by decide +kernel) (by decide +kernel)
theorem w_41 : (Cond.laysFinal "FileBody$Front" "FileBody$Front" "bytes" "[B") ∈ wA := wA_t 41 (by decide +kernel) (by decide +kernel)
theorem w_43 : (Cond.superclass "FileBody$Front" "java/lang/Object") ∈ wA := wA_t 43 (by decide +kernel) (by decide +kernel)
theorem w_44 : (Cond.arrayClass FieldType.byte) ∈ wA := wA_t 44 (by decide +kernel) (by decide +kernel)
theorem w_45 : (Cond.classLink "FileBody" 16 "FileBody$DataBlocks") ∈ wA := wA_t 45 (by decide +kernel) (by decide +kernel)
theorem w_46 : (Cond.instantiable "FileBody$DataBlocks" 3) ∈ wA := wA_t 46 (by decide +kernel) (by decide +kernel)
theorem w_48 : (Cond.instanceMethod y_Db_init) ∈ wA := wA_t 48 (by decide +kernel) (by decide +kernel)
theorem w_49 : (Cond.code y_Db_init prog_3_method_1_code 1 (Option.none : Option FieldType)) ∈ wA := wA_t 49 (by decide +kernel) (by decide +kernel)
theorem w_50 : (Cond.methodLink "FileBody$DataBlocks" 3 (⟨"java/lang/Object", "<init>", "()V"⟩ : MethodName)) ∈ wA := wA_t 50 (by decide +kernel) (by decide +kernel)
theorem w_51 : (Cond.classLink "FileBody$DataBlocks" 9 "[B") ∈ wA := wA_t 51 (by decide +kernel) (by decide +kernel)
theorem w_53 : (Cond.fieldLink "FileBody$DataBlocks" 11 "FileBody$DataBlocks" "rows" "[[B") ∈ wA := wA_t 53 (by decide +kernel) (by decide +kernel)
theorem w_54 : (Cond.fieldLink "FileBody$DataBlocks" 17 "FileBody$DataBlocks" "taken" "[Z") ∈ wA := wA_t 54 (by decide +kernel) (by decide +kernel)
theorem w_55 : (Cond.fieldLink "FileBody$DataBlocks" 21 "FileBody$DataBlocks" "free" "I") ∈ wA := wA_t 55 (by decide +kernel) (by decide +kernel)
theorem w_56 : (Cond.laysFinal "FileBody$DataBlocks" "FileBody$DataBlocks" "rows" "[[B") ∈ wA := wA_t 56 (by decide +kernel) (by decide +kernel)
theorem w_58 : (Cond.laysFinal "FileBody$DataBlocks" "FileBody$DataBlocks" "taken" "[Z") ∈ wA := wA_t 58 (by decide +kernel) (by decide +kernel)
theorem w_60 : (Cond.lays "FileBody$DataBlocks" "FileBody$DataBlocks" "free" "I") ∈ wA := wA_t 60 (by decide +kernel) (by decide +kernel)
theorem w_62 : (Cond.superclass "FileBody$DataBlocks" "java/lang/Object") ∈ wA := wA_t 62 (by decide +kernel) (by decide +kernel)
theorem w_63 : (Cond.arrayClass FieldType.boolean) ∈ wA := wA_t 63 (by decide +kernel) (by decide +kernel)
theorem w_64 : (Cond.classLink "FileBody" 23 "FileBody$Records") ∈ wA := wA_t 64 (by decide +kernel) (by decide +kernel)
theorem w_65 : (Cond.instantiable "FileBody$Records" 1) ∈ wA := wA_t 65 (by decide +kernel) (by decide +kernel)
theorem w_66 : (Cond.methodLink "FileBody" 25 y_Re_init) ∈ wA := wA_t 66 (by decide +kernel) (by decide +kernel)
theorem w_67 : (Cond.instanceMethod y_Re_init) ∈ wA := wA_t 67 (by decide +kernel) (by decide +kernel)
theorem w_68 : (Cond.code y_Re_init prog_5_method_1_code 2 (Option.none : Option FieldType)) ∈ wA := wA_t 68 (by decide +kernel) (by decide +kernel)
theorem w_69 : (Cond.methodLink "FileBody$Records" 3 (⟨"java/lang/Object", "<init>", "()V"⟩ : MethodName)) ∈ wA := wA_t 69 (by decide +kernel) (by decide +kernel)
theorem w_70 : (Cond.fieldLink "FileBody$Records" 9 "FileBody$Records" "front" "LFileBody$Front;") ∈ wA := wA_t 70 (by decide +kernel) (by decide +kernel)
theorem w_71 : (Cond.laysFinal "FileBody$Records" "FileBody$Records" "front" "LFileBody$Front;") ∈ wA := wA_t 71 (by decide +kernel) (by decide +kernel)
theorem w_73 : (Cond.superclass "FileBody$Records" "java/lang/Object") ∈ wA := wA_t 73 (by decide +kernel) (by decide +kernel)
theorem w_74 : (Cond.classLink "FileBody" 32 "FileBody$Waiting") ∈ wA := wA_t 74 (by decide +kernel) (by decide +kernel)
theorem w_75 : (Cond.instantiable "FileBody$Waiting" 2) ∈ wA := wA_t 75 (by decide +kernel) (by decide +kernel)
theorem w_76 : (Cond.methodLink "FileBody" 34 y_Wa_init) ∈ wA := wA_t 76 (by decide +kernel) (by decide +kernel)
theorem w_77 : (Cond.instanceMethod y_Wa_init) ∈ wA := wA_t 77 (by decide +kernel) (by decide +kernel)
theorem w_78 : (Cond.code y_Wa_init prog_6_method_1_code 3 (Option.none : Option FieldType)) ∈ wA := wA_t 78 (by decide +kernel) (by decide +kernel)
theorem w_79 : (Cond.methodLink "FileBody$Waiting" 3 (⟨"java/lang/Object", "<init>", "()V"⟩ : MethodName)) ∈ wA := wA_t 79 (by decide +kernel) (by decide +kernel)
theorem w_80 : (Cond.fieldLink "FileBody$Waiting" 9 "FileBody$Waiting" "front" "LFileBody$Front;") ∈ wA := wA_t 80 (by decide +kernel) (by decide +kernel)
theorem w_81 : (Cond.fieldLink "FileBody$Waiting" 15 "FileBody$Waiting" "records" "LFileBody$Records;") ∈ wA := wA_t 81 (by decide +kernel) (by decide +kernel)
theorem w_82 : (Cond.laysFinal "FileBody$Waiting" "FileBody$Waiting" "front" "LFileBody$Front;") ∈ wA := wA_t 82 (by decide +kernel) (by decide +kernel)
theorem w_84 : (Cond.laysFinal "FileBody$Waiting" "FileBody$Waiting" "records" "LFileBody$Records;") ∈ wA := wA_t 84 (by decide +kernel) (by decide +kernel)
theorem w_86 : (Cond.superclass "FileBody$Waiting" "java/lang/Object") ∈ wA := wA_t 86 (by decide +kernel) (by decide +kernel)
theorem w_87 : (Cond.classLink "FileBody" 41 "FileBody$Bodies") ∈ wA := wA_t 87 (by decide +kernel) (by decide +kernel)
theorem w_88 : (Cond.instantiable "FileBody$Bodies" 2) ∈ wA := wA_t 88 (by decide +kernel) (by decide +kernel)
theorem w_89 : (Cond.methodLink "FileBody" 43 y_Bo_init) ∈ wA := wA_t 89 (by decide +kernel) (by decide +kernel)
theorem w_90 : (Cond.instanceMethod y_Bo_init) ∈ wA := wA_t 90 (by decide +kernel) (by decide +kernel)
theorem w_91 : (Cond.code y_Bo_init prog_2_method_1_code 3 (Option.none : Option FieldType)) ∈ wA := wA_t 91 (by decide +kernel) (by decide +kernel)
theorem w_92 : (Cond.methodLink "FileBody$Bodies" 3 (⟨"java/lang/Object", "<init>", "()V"⟩ : MethodName)) ∈ wA := wA_t 92 (by decide +kernel) (by decide +kernel)
theorem w_93 : (Cond.fieldLink "FileBody$Bodies" 9 "FileBody$Bodies" "blocks" "LFileBody$DataBlocks;") ∈ wA := wA_t 93 (by decide +kernel) (by decide +kernel)
theorem w_94 : (Cond.fieldLink "FileBody$Bodies" 15 "FileBody$Bodies" "records" "LFileBody$Records;") ∈ wA := wA_t 94 (by decide +kernel) (by decide +kernel)
theorem w_95 : (Cond.laysFinal "FileBody$Bodies" "FileBody$Bodies" "blocks" "LFileBody$DataBlocks;") ∈ wA := wA_t 95 (by decide +kernel) (by decide +kernel)
theorem w_97 : (Cond.laysFinal "FileBody$Bodies" "FileBody$Bodies" "records" "LFileBody$Records;") ∈ wA := wA_t 97 (by decide +kernel) (by decide +kernel)
theorem w_99 : (Cond.superclass "FileBody$Bodies" "java/lang/Object") ∈ wA := wA_t 99 (by decide +kernel) (by decide +kernel)
theorem w_100 : (Cond.fieldLink "FileBody" 12 "FileBody" "front" "LFileBody$Front;") ∈ wA := wA_t 100 (by decide +kernel) (by decide +kernel)
theorem w_101 : (Cond.fieldLink "FileBody" 19 "FileBody" "blocks" "LFileBody$DataBlocks;") ∈ wA := wA_t 101 (by decide +kernel) (by decide +kernel)
theorem w_102 : (Cond.fieldLink "FileBody" 28 "FileBody" "records" "LFileBody$Records;") ∈ wA := wA_t 102 (by decide +kernel) (by decide +kernel)
theorem w_103 : (Cond.fieldLink "FileBody" 37 "FileBody" "waiting" "LFileBody$Waiting;") ∈ wA := wA_t 103 (by decide +kernel) (by decide +kernel)
theorem w_104 : (Cond.fieldLink "FileBody" 46 "FileBody" "bodies" "LFileBody$Bodies;") ∈ wA := wA_t 104 (by decide +kernel) (by decide +kernel)
theorem w_105 : (Cond.laysFinal "FileBody" "FileBody" "front" "LFileBody$Front;") ∈ wA := wA_t 105 (by decide +kernel) (by decide +kernel)
theorem w_107 : (Cond.laysFinal "FileBody" "FileBody" "blocks" "LFileBody$DataBlocks;") ∈ wA := wA_t 107 (by decide +kernel) (by decide +kernel)
theorem w_109 : (Cond.laysFinal "FileBody" "FileBody" "records" "LFileBody$Records;") ∈ wA := wA_t 109 (by decide +kernel) (by decide +kernel)
theorem w_111 : (Cond.laysFinal "FileBody" "FileBody" "waiting" "LFileBody$Waiting;") ∈ wA := wA_t 111 (by decide +kernel) (by decide +kernel)
theorem w_113 : (Cond.laysFinal "FileBody" "FileBody" "bodies" "LFileBody$Bodies;") ∈ wA := wA_t 113 (by decide +kernel) (by decide +kernel)
theorem w_115 : (Cond.superclass "FileBody" "java/lang/Object") ∈ wA := wA_t 115 (by decide +kernel) (by decide +kernel)
theorem w_116 : (Cond.methodLink "FileBodyLaw" 95 y_Fb_finish) ∈ wA := wA_t 116 (by decide +kernel) (by decide +kernel)
theorem w_117 : (Cond.instanceMethod y_Fb_finish) ∈ wA := wA_t 117 (by decide +kernel) (by decide +kernel)
theorem w_118 : (Cond.selects "FileBody" y_Fb_finish y_Fb_finish) ∈ wA := wA_t 118 (by decide +kernel) (by decide +kernel)
theorem w_119 : (Cond.code y_Fb_finish prog_1_method_10_code 2 (Option.some FieldType.int)) ∈ wA := wA_t 119 (by decide +kernel) (by decide +kernel)
theorem w_120 : (Cond.methodLink "FileBody" 145 y_Wa_first) ∈ wA := wA_t 120 (by decide +kernel) (by decide +kernel)
theorem w_121 : (Cond.instanceMethod y_Wa_first) ∈ wA := wA_t 121 (by decide +kernel) (by decide +kernel)
theorem w_122 : (Cond.selects "FileBody$Waiting" y_Wa_first y_Wa_first) ∈ wA := wA_t 122 (by decide +kernel) (by decide +kernel)
theorem w_123 : (Cond.code y_Wa_first prog_6_method_2_code 1 (Option.some FieldType.int)) ∈ wA := wA_t 123 (by decide +kernel) (by decide +kernel)
theorem w_124 : (Cond.methodLink "FileBody$Waiting" 19 y_Fr_number) ∈ wA := wA_t 124 (by decide +kernel) (by decide +kernel)
theorem w_125 : (Cond.instanceMethod y_Fr_number) ∈ wA := wA_t 125 (by decide +kernel) (by decide +kernel)
theorem w_126 : (Cond.selects "FileBody$Front" y_Fr_number y_Fr_number) ∈ wA := wA_t 126 (by decide +kernel) (by decide +kernel)
theorem w_127 : (Cond.code y_Fr_number prog_4_method_2_code 5 (Option.some FieldType.int)) ∈ wA := wA_t 127 (by decide +kernel) (by decide +kernel)
theorem w_128 : (Cond.methodLink "FileBody" 142 y_Fb_letGo) ∈ wA := wA_t 128 (by decide +kernel) (by decide +kernel)
theorem w_130 : (Cond.instanceMethod y_Fb_letGo) ∈ wA := wA_t 130 (by decide +kernel) (by decide +kernel)
theorem w_131 : (Cond.code y_Fb_letGo prog_1_method_19_code 3 (Option.some FieldType.int)) ∈ wA := wA_t 131 (by decide +kernel) (by decide +kernel)
theorem w_132 : (Cond.methodLink "FileBody" 157 y_Re_blocksOf) ∈ wA := wA_t 132 (by decide +kernel) (by decide +kernel)
theorem w_133 : (Cond.instanceMethod y_Re_blocksOf) ∈ wA := wA_t 133 (by decide +kernel) (by decide +kernel)
theorem w_134 : (Cond.selects "FileBody$Records" y_Re_blocksOf y_Re_blocksOf) ∈ wA := wA_t 134 (by decide +kernel) (by decide +kernel)
theorem w_135 : (Cond.code y_Re_blocksOf prog_5_method_14_code 2 (Option.some FieldType.int)) ∈ wA := wA_t 135 (by decide +kernel) (by decide +kernel)
theorem w_136 : (Cond.methodLink "FileBody$Records" 29 y_Re_field) ∈ wA := wA_t 136 (by decide +kernel) (by decide +kernel)
theorem w_138 : (Cond.instanceMethod y_Re_field) ∈ wA := wA_t 138 (by decide +kernel) (by decide +kernel)
theorem w_139 : (Cond.code y_Re_field prog_5_method_21_code 4 (Option.some FieldType.int)) ∈ wA := wA_t 139 (by decide +kernel) (by decide +kernel)
theorem w_140 : (Cond.methodLink "FileBody$Records" 39 y_Re_isNumber) ∈ wA := wA_t 140 (by decide +kernel) (by decide +kernel)
theorem w_141 : (Cond.instanceMethod y_Re_isNumber) ∈ wA := wA_t 141 (by decide +kernel) (by decide +kernel)
theorem w_142 : (Cond.selects "FileBody$Records" y_Re_isNumber y_Re_isNumber) ∈ wA := wA_t 142 (by decide +kernel) (by decide +kernel)
theorem w_143 : (Cond.code y_Re_isNumber prog_5_method_2_code 2 (Option.some FieldType.boolean)) ∈ wA := wA_t 143 (by decide +kernel) (by decide +kernel)
theorem w_144 : (Cond.methodLink "FileBody$Records" 43 y_Re_startOf) ∈ wA := wA_t 144 (by decide +kernel) (by decide +kernel)
theorem w_145 : (Cond.static y_Re_startOf) ∈ wA := wA_t 145 (by decide +kernel) (by decide +kernel)
theorem w_146 : (Cond.code y_Re_startOf prog_5_method_23_code 1 (Option.some FieldType.int)) ∈ wA := wA_t 146 (by decide +kernel) (by decide +kernel)
theorem w_147 : (Cond.methodLink "FileBody$Records" 46 y_Fr_number) ∈ wA := wA_t 147 (by decide +kernel) (by decide +kernel)
theorem w_148 : (Cond.methodLink "FileBody" 137 y_Wa_remove) ∈ wA := wA_t 148 (by decide +kernel) (by decide +kernel)
theorem w_149 : (Cond.instanceMethod y_Wa_remove) ∈ wA := wA_t 149 (by decide +kernel) (by decide +kernel)
theorem w_150 : (Cond.selects "FileBody$Waiting" y_Wa_remove y_Wa_remove) ∈ wA := wA_t 150 (by decide +kernel) (by decide +kernel)
theorem w_151 : (Cond.code y_Wa_remove prog_6_method_5_code 3 (Option.none : Option FieldType)) ∈ wA := wA_t 151 (by decide +kernel) (by decide +kernel)
theorem w_152 : (Cond.methodLink "FileBody$Waiting" 25 y_Wa_first) ∈ wA := wA_t 152 (by decide +kernel) (by decide +kernel)
theorem w_153 : (Cond.methodLink "FileBody$Waiting" 29 y_Re_behind) ∈ wA := wA_t 153 (by decide +kernel) (by decide +kernel)
theorem w_154 : (Cond.instanceMethod y_Re_behind) ∈ wA := wA_t 154 (by decide +kernel) (by decide +kernel)
theorem w_155 : (Cond.selects "FileBody$Records" y_Re_behind y_Re_behind) ∈ wA := wA_t 155 (by decide +kernel) (by decide +kernel)
theorem w_156 : (Cond.code y_Re_behind prog_5_method_10_code 2 (Option.some FieldType.int)) ∈ wA := wA_t 156 (by decide +kernel) (by decide +kernel)
theorem w_157 : (Cond.methodLink "FileBody$Waiting" 39 y_Wa_setFirst) ∈ wA := wA_t 157 (by decide +kernel) (by decide +kernel)
theorem w_159 : (Cond.instanceMethod y_Wa_setFirst) ∈ wA := wA_t 159 (by decide +kernel) (by decide +kernel)
theorem w_160 : (Cond.code y_Wa_setFirst prog_6_method_7_code 2 (Option.none : Option FieldType)) ∈ wA := wA_t 160 (by decide +kernel) (by decide +kernel)
theorem w_161 : (Cond.methodLink "FileBody$Waiting" 46 y_Fr_setNumber) ∈ wA := wA_t 161 (by decide +kernel) (by decide +kernel)
theorem w_162 : (Cond.instanceMethod y_Fr_setNumber) ∈ wA := wA_t 162 (by decide +kernel) (by decide +kernel)
theorem w_163 : (Cond.selects "FileBody$Front" y_Fr_setNumber y_Fr_setNumber) ∈ wA := wA_t 163 (by decide +kernel) (by decide +kernel)
theorem w_164 : (Cond.code y_Fr_setNumber prog_4_method_3_code 6 (Option.none : Option FieldType)) ∈ wA := wA_t 164 (by decide +kernel) (by decide +kernel)
theorem w_165 : (Cond.methodLink "FileBody$Waiting" 43 y_Wa_fileBefore) ∈ wA := wA_t 165 (by decide +kernel) (by decide +kernel)
theorem w_167 : (Cond.instanceMethod y_Wa_fileBefore) ∈ wA := wA_t 167 (by decide +kernel) (by decide +kernel)
theorem w_168 : (Cond.code y_Wa_fileBefore prog_6_method_6_code 4 (Option.some FieldType.int)) ∈ wA := wA_t 168 (by decide +kernel) (by decide +kernel)
theorem w_169 : (Cond.methodLink "FileBody$Waiting" 35 y_Re_setBehind) ∈ wA := wA_t 169 (by decide +kernel) (by decide +kernel)
theorem w_170 : (Cond.instanceMethod y_Re_setBehind) ∈ wA := wA_t 170 (by decide +kernel) (by decide +kernel)
theorem w_171 : (Cond.selects "FileBody$Records" y_Re_setBehind y_Re_setBehind) ∈ wA := wA_t 171 (by decide +kernel) (by decide +kernel)
theorem w_172 : (Cond.code y_Re_setBehind prog_5_method_11_code 3 (Option.none : Option FieldType)) ∈ wA := wA_t 172 (by decide +kernel) (by decide +kernel)
theorem w_173 : (Cond.methodLink "FileBody$Records" 21 y_Re_setField) ∈ wA := wA_t 173 (by decide +kernel) (by decide +kernel)
theorem w_175 : (Cond.instanceMethod y_Re_setField) ∈ wA := wA_t 175 (by decide +kernel) (by decide +kernel)
theorem w_176 : (Cond.code y_Re_setField prog_5_method_22_code 5 (Option.none : Option FieldType)) ∈ wA := wA_t 176 (by decide +kernel) (by decide +kernel)
theorem w_177 : (Cond.methodLink "FileBody$Records" 52 y_Fr_setNumber) ∈ wA := wA_t 177 (by decide +kernel) (by decide +kernel)
theorem w_178 : (Cond.methodLink "FileBody" 199 y_Bo_giveBack) ∈ wA := wA_t 178 (by decide +kernel) (by decide +kernel)
theorem w_179 : (Cond.instanceMethod y_Bo_giveBack) ∈ wA := wA_t 179 (by decide +kernel) (by decide +kernel)
theorem w_180 : (Cond.selects "FileBody$Bodies" y_Bo_giveBack y_Bo_giveBack) ∈ wA := wA_t 180 (by decide +kernel) (by decide +kernel)
theorem w_181 : (Cond.code y_Bo_giveBack prog_2_method_9_code 5 (Option.none : Option FieldType)) ∈ wA := wA_t 181 (by decide +kernel) (by decide +kernel)
theorem w_182 : (Cond.methodLink "FileBody$Bodies" 29 y_Re_blockOf) ∈ wA := wA_t 182 (by decide +kernel) (by decide +kernel)
theorem w_183 : (Cond.instanceMethod y_Re_blockOf) ∈ wA := wA_t 183 (by decide +kernel) (by decide +kernel)
theorem w_184 : (Cond.selects "FileBody$Records" y_Re_blockOf y_Re_blockOf) ∈ wA := wA_t 184 (by decide +kernel) (by decide +kernel)
theorem w_185 : (Cond.code y_Re_blockOf prog_5_method_18_code 3 (Option.some FieldType.int)) ∈ wA := wA_t 185 (by decide +kernel) (by decide +kernel)
theorem w_186 : (Cond.methodLink "FileBody$Records" 36 y_Re_blocksOf) ∈ wA := wA_t 186 (by decide +kernel) (by decide +kernel)
theorem w_187 : (Cond.methodLink "FileBody$Bodies" 77 y_Db_give) ∈ wA := wA_t 187 (by decide +kernel) (by decide +kernel)
theorem w_188 : (Cond.instanceMethod y_Db_give) ∈ wA := wA_t 188 (by decide +kernel) (by decide +kernel)
theorem w_189 : (Cond.selects "FileBody$DataBlocks" y_Db_give y_Db_give) ∈ wA := wA_t 189 (by decide +kernel) (by decide +kernel)
theorem w_190 : (Cond.code y_Db_give prog_3_method_4_code 2 (Option.none : Option FieldType)) ∈ wA := wA_t 190 (by decide +kernel) (by decide +kernel)
theorem w_191 : (Cond.methodLink "FileBody$Bodies" 81 y_Re_removeBlock) ∈ wA := wA_t 191 (by decide +kernel) (by decide +kernel)
theorem w_192 : (Cond.instanceMethod y_Re_removeBlock) ∈ wA := wA_t 192 (by decide +kernel) (by decide +kernel)
theorem w_193 : (Cond.selects "FileBody$Records" y_Re_removeBlock y_Re_removeBlock) ∈ wA := wA_t 193 (by decide +kernel) (by decide +kernel)
theorem w_194 : (Cond.code y_Re_removeBlock prog_5_method_20_code 3 (Option.none : Option FieldType)) ∈ wA := wA_t 194 (by decide +kernel) (by decide +kernel)
theorem w_195 : (Cond.methodLink "FileBody" 202 y_Re_erase) ∈ wA := wA_t 195 (by decide +kernel) (by decide +kernel)
theorem w_196 : (Cond.instanceMethod y_Re_erase) ∈ wA := wA_t 196 (by decide +kernel) (by decide +kernel)
theorem w_197 : (Cond.selects "FileBody$Records" y_Re_erase y_Re_erase) ∈ wA := wA_t 197 (by decide +kernel) (by decide +kernel)
theorem w_198 : (Cond.code y_Re_erase prog_5_method_6_code 2 (Option.none : Option FieldType)) ∈ wA := wA_t 198 (by decide +kernel) (by decide +kernel)
theorem w_199 : (Cond.methodLink "FileBodyLaw" 59 y_Lw_make) ∈ wA := wA_t 199 (by decide +kernel) (by decide +kernel)
theorem w_200 : (Cond.static y_Lw_make) ∈ wA := wA_t 200 (by decide +kernel) (by decide +kernel)
theorem w_201 : (Cond.codeWith y_Lw_make method_3_code 4 (Option.some FieldType.int) [(0, 9, 12, 13), (0, 9, 15, 15)]) ∈ wA := wA_t 201 (by decide +kernel) (by decide +kernel)
theorem w_202 : (Cond.classLink "FileBodyLaw" 13 "java/lang/IllegalArgumentException") ∈ wA := wA_t 202 (by decide +kernel) (by decide +kernel)
theorem w_203 : (Cond.classLink "FileBodyLaw" 15 "java/lang/IllegalStateException") ∈ wA := wA_t 203 (by decide +kernel) (by decide +kernel)
theorem w_204 : (Cond.methodLink "FileBodyLaw" 7 y_Fb_make) ∈ wA := wA_t 204 (by decide +kernel) (by decide +kernel)
theorem w_205 : (Cond.instanceMethod y_Fb_make) ∈ wA := wA_t 205 (by decide +kernel) (by decide +kernel)
theorem w_206 : (Cond.selects "FileBody" y_Fb_make y_Fb_make) ∈ wA := wA_t 206 (by decide +kernel) (by decide +kernel)
theorem w_207 : (Cond.code y_Fb_make prog_1_method_2_code 3 (Option.some FieldType.int)) ∈ wA := wA_t 207 (by decide +kernel) (by decide +kernel)
theorem w_208 : (Cond.classLink "FileBody" 50 "java/lang/IllegalArgumentException") ∈ wA := wA_t 208 (by decide +kernel) (by decide +kernel)
theorem w_209 : (Cond.instantiable "java/lang/IllegalArgumentException" 6) ∈ wA := wA_t 209 (by decide +kernel) (by decide +kernel)
theorem w_217 : (Cond.selects "java/lang/IllegalArgumentException" (⟨"java/lang/Throwable", "fillInStackTrace", "(I)Ljava/lang/Throwable;"⟩ : MethodName) (⟨"java/lang/Throwable", "fillInStackTrace", "(I)Ljava/lang/Throwable;"⟩ : MethodName)) ∈ wA := wA_t 217 (by decide +kernel) (by decide +kernel)
theorem w_218 : (Cond.selects "java/lang/IllegalArgumentException" (⟨"java/lang/Throwable", "fillInStackTrace", "()Ljava/lang/Throwable;"⟩ : MethodName) (⟨"java/lang/Throwable", "fillInStackTrace", "()Ljava/lang/Throwable;"⟩ : MethodName)) ∈ wA := wA_t 218 (by decide +kernel) (by decide +kernel)
theorem w_219 : (Cond.lays "java/lang/IllegalArgumentException" "java/lang/Throwable" "cause" "Ljava/lang/Throwable;") ∈ wA := wA_t 219 (by decide +kernel) (by decide +kernel)
theorem w_221 : (Cond.lays "java/lang/IllegalArgumentException" "java/lang/Throwable" "stackTrace" "[Ljava/lang/StackTraceElement;") ∈ wA := wA_t 221 (by decide +kernel) (by decide +kernel)
theorem w_223 : (Cond.lays "java/lang/IllegalArgumentException" "java/lang/Throwable" "suppressedExceptions" "Ljava/util/List;") ∈ wA := wA_t 223 (by decide +kernel) (by decide +kernel)
theorem w_225 : (Cond.lays "java/lang/IllegalArgumentException" "java/lang/Throwable" "detailMessage" "Ljava/lang/String;") ∈ wA := wA_t 225 (by decide +kernel) (by decide +kernel)
theorem w_227 : (Cond.lays "java/lang/IllegalArgumentException" "java/lang/Throwable" "backtrace" "Ljava/lang/Object;") ∈ wA := wA_t 227 (by decide +kernel) (by decide +kernel)
theorem w_230 : (Cond.superclass "java/lang/Throwable" "java/lang/Object") ∈ wA := wA_t 230 (by decide +kernel) (by decide +kernel)
theorem w_233 : (Cond.methodLink "java/lang/Throwable" 1 (⟨"java/lang/Object", "<init>", "()V"⟩ : MethodName)) ∈ wA := wA_t 233 (by decide +kernel) (by decide +kernel)
theorem w_242 : (Cond.selects "java/lang/IllegalStateException" (⟨"java/lang/Throwable", "fillInStackTrace", "()Ljava/lang/Throwable;"⟩ : MethodName) (⟨"java/lang/Throwable", "fillInStackTrace", "()Ljava/lang/Throwable;"⟩ : MethodName)) ∈ wA := wA_t 242 (by decide +kernel) (by decide +kernel)
theorem w_243 : (Cond.selects "java/lang/IndexOutOfBoundsException" (⟨"java/lang/Throwable", "fillInStackTrace", "()Ljava/lang/Throwable;"⟩ : MethodName) (⟨"java/lang/Throwable", "fillInStackTrace", "()Ljava/lang/Throwable;"⟩ : MethodName)) ∈ wA := wA_t 243 (by decide +kernel) (by decide +kernel)
theorem w_251 : (Cond.methodLink "FileBody" 54 (⟨"java/lang/IllegalArgumentException", "<init>", "(Ljava/lang/String;)V"⟩ : MethodName)) ∈ wA := wA_t 251 (by decide +kernel) (by decide +kernel)
theorem w_252 : (Cond.instanceMethod (⟨"java/lang/IllegalArgumentException", "<init>", "(Ljava/lang/String;)V"⟩ : MethodName)) ∈ wA := wA_t 252 (by decide +kernel) (by decide +kernel)
theorem w_253 : (Cond.code (⟨"java/lang/IllegalArgumentException", "<init>", "(Ljava/lang/String;)V"⟩ : MethodName) prog_13_method_2_code 2 (Option.none : Option FieldType)) ∈ wA := wA_t 253 (by decide +kernel) (by decide +kernel)
theorem w_254 : (Cond.methodLink "java/lang/IllegalArgumentException" 7 (⟨"java/lang/RuntimeException", "<init>", "(Ljava/lang/String;)V"⟩ : MethodName)) ∈ wA := wA_t 254 (by decide +kernel) (by decide +kernel)
theorem w_272 : (Cond.lays "java/lang/IllegalArgumentException" "java/lang/Throwable" "depth" "I") ∈ wA := wA_t 272 (by decide +kernel) (by decide +kernel)
theorem w_275 : (Cond.superclass "java/lang/IllegalArgumentException" "java/lang/RuntimeException") ∈ wA := wA_t 275 (by decide +kernel) (by decide +kernel)
theorem w_276 : (Cond.methodLink "FileBody" 57 y_Re_leastAbsent) ∈ wA := wA_t 276 (by decide +kernel) (by decide +kernel)
theorem w_277 : (Cond.instanceMethod y_Re_leastAbsent) ∈ wA := wA_t 277 (by decide +kernel) (by decide +kernel)
theorem w_278 : (Cond.selects "FileBody$Records" y_Re_leastAbsent y_Re_leastAbsent) ∈ wA := wA_t 278 (by decide +kernel) (by decide +kernel)
theorem w_279 : (Cond.code y_Re_leastAbsent prog_5_method_3_code 2 (Option.some FieldType.int)) ∈ wA := wA_t 279 (by decide +kernel) (by decide +kernel)
theorem w_280 : (Cond.methodLink "FileBody$Records" 15 y_Re_kindOf) ∈ wA := wA_t 280 (by decide +kernel) (by decide +kernel)
theorem w_281 : (Cond.instanceMethod y_Re_kindOf) ∈ wA := wA_t 281 (by decide +kernel) (by decide +kernel)
theorem w_282 : (Cond.selects "FileBody$Records" y_Re_kindOf y_Re_kindOf) ∈ wA := wA_t 282 (by decide +kernel) (by decide +kernel)
theorem w_283 : (Cond.code y_Re_kindOf prog_5_method_7_code 2 (Option.some FieldType.int)) ∈ wA := wA_t 283 (by decide +kernel) (by decide +kernel)
theorem w_284 : (Cond.classLink "FileBody" 61 "java/lang/IllegalStateException") ∈ wA := wA_t 284 (by decide +kernel) (by decide +kernel)
theorem w_285 : (Cond.instantiable "java/lang/IllegalStateException" 6) ∈ wA := wA_t 285 (by decide +kernel) (by decide +kernel)
theorem w_287 : (Cond.selects "java/lang/IllegalStateException" (⟨"java/lang/Throwable", "fillInStackTrace", "(I)Ljava/lang/Throwable;"⟩ : MethodName) (⟨"java/lang/Throwable", "fillInStackTrace", "(I)Ljava/lang/Throwable;"⟩ : MethodName)) ∈ wA := wA_t 287 (by decide +kernel) (by decide +kernel)
theorem w_288 : (Cond.lays "java/lang/IllegalStateException" "java/lang/Throwable" "cause" "Ljava/lang/Throwable;") ∈ wA := wA_t 288 (by decide +kernel) (by decide +kernel)
theorem w_289 : (Cond.lays "java/lang/IllegalStateException" "java/lang/Throwable" "stackTrace" "[Ljava/lang/StackTraceElement;") ∈ wA := wA_t 289 (by decide +kernel) (by decide +kernel)
theorem w_290 : (Cond.lays "java/lang/IllegalStateException" "java/lang/Throwable" "suppressedExceptions" "Ljava/util/List;") ∈ wA := wA_t 290 (by decide +kernel) (by decide +kernel)
theorem w_291 : (Cond.lays "java/lang/IllegalStateException" "java/lang/Throwable" "detailMessage" "Ljava/lang/String;") ∈ wA := wA_t 291 (by decide +kernel) (by decide +kernel)
theorem w_292 : (Cond.lays "java/lang/IllegalStateException" "java/lang/Throwable" "backtrace" "Ljava/lang/Object;") ∈ wA := wA_t 292 (by decide +kernel) (by decide +kernel)
theorem w_294 : (Cond.methodLink "FileBody" 65 (⟨"java/lang/IllegalStateException", "<init>", "(Ljava/lang/String;)V"⟩ : MethodName)) ∈ wA := wA_t 294 (by decide +kernel) (by decide +kernel)
theorem w_295 : (Cond.instanceMethod (⟨"java/lang/IllegalStateException", "<init>", "(Ljava/lang/String;)V"⟩ : MethodName)) ∈ wA := wA_t 295 (by decide +kernel) (by decide +kernel)
theorem w_296 : (Cond.code (⟨"java/lang/IllegalStateException", "<init>", "(Ljava/lang/String;)V"⟩ : MethodName) prog_14_method_2_code 2 (Option.none : Option FieldType)) ∈ wA := wA_t 296 (by decide +kernel) (by decide +kernel)
theorem w_297 : (Cond.methodLink "java/lang/IllegalStateException" 7 (⟨"java/lang/RuntimeException", "<init>", "(Ljava/lang/String;)V"⟩ : MethodName)) ∈ wA := wA_t 297 (by decide +kernel) (by decide +kernel)
theorem w_298 : (Cond.lays "java/lang/IllegalStateException" "java/lang/Throwable" "depth" "I") ∈ wA := wA_t 298 (by decide +kernel) (by decide +kernel)
theorem w_299 : (Cond.superclass "java/lang/IllegalStateException" "java/lang/RuntimeException") ∈ wA := wA_t 299 (by decide +kernel) (by decide +kernel)
theorem w_300 : (Cond.methodLink "FileBody" 66 y_Re_begin) ∈ wA := wA_t 300 (by decide +kernel) (by decide +kernel)
theorem w_301 : (Cond.instanceMethod y_Re_begin) ∈ wA := wA_t 301 (by decide +kernel) (by decide +kernel)
theorem w_302 : (Cond.selects "FileBody$Records" y_Re_begin y_Re_begin) ∈ wA := wA_t 302 (by decide +kernel) (by decide +kernel)
theorem w_303 : (Cond.code y_Re_begin prog_5_method_5_code 4 (Option.none : Option FieldType)) ∈ wA := wA_t 303 (by decide +kernel) (by decide +kernel)
theorem w_304 : (Cond.constant "FileBody$Records" 19 (40960 : Int32)) ∈ wA := wA_t 304 (by decide +kernel) (by decide +kernel)
theorem w_305 : (Cond.constant "FileBody$Records" 20 (32768 : Int32)) ∈ wA := wA_t 305 (by decide +kernel) (by decide +kernel)
theorem w_306 : (Cond.methodLink "FileBody$Records" 25 y_Re_setLinks) ∈ wA := wA_t 306 (by decide +kernel) (by decide +kernel)
theorem w_307 : (Cond.instanceMethod y_Re_setLinks) ∈ wA := wA_t 307 (by decide +kernel) (by decide +kernel)
theorem w_308 : (Cond.selects "FileBody$Records" y_Re_setLinks y_Re_setLinks) ∈ wA := wA_t 308 (by decide +kernel) (by decide +kernel)
theorem w_309 : (Cond.code y_Re_setLinks prog_5_method_13_code 3 (Option.none : Option FieldType)) ∈ wA := wA_t 309 (by decide +kernel) (by decide +kernel)
theorem w_310 : (Cond.methodLink "FileBody" 70 y_Wa_add) ∈ wA := wA_t 310 (by decide +kernel) (by decide +kernel)
theorem w_311 : (Cond.instanceMethod y_Wa_add) ∈ wA := wA_t 311 (by decide +kernel) (by decide +kernel)
theorem w_312 : (Cond.selects "FileBody$Waiting" y_Wa_add y_Wa_add) ∈ wA := wA_t 312 (by decide +kernel) (by decide +kernel)
theorem w_313 : (Cond.code y_Wa_add prog_6_method_4_code 2 (Option.none : Option FieldType)) ∈ wA := wA_t 313 (by decide +kernel) (by decide +kernel)
theorem w_314 : (Cond.methodLink "FileBodyLaw" 69 y_Lw_link) ∈ wA := wA_t 314 (by decide +kernel) (by decide +kernel)
theorem w_315 : (Cond.static y_Lw_link) ∈ wA := wA_t 315 (by decide +kernel) (by decide +kernel)
theorem w_316 : (Cond.codeWith y_Lw_link method_4_code 5 (Option.some FieldType.int) [(0, 10, 13, 13), (0, 10, 17, 15)]) ∈ wA := wA_t 316 (by decide +kernel) (by decide +kernel)
theorem w_317 : (Cond.methodLink "FileBodyLaw" 17 y_Fb_link) ∈ wA := wA_t 317 (by decide +kernel) (by decide +kernel)
theorem w_318 : (Cond.instanceMethod y_Fb_link) ∈ wA := wA_t 318 (by decide +kernel) (by decide +kernel)
theorem w_319 : (Cond.selects "FileBody" y_Fb_link y_Fb_link) ∈ wA := wA_t 319 (by decide +kernel) (by decide +kernel)
theorem w_320 : (Cond.code y_Fb_link prog_1_method_3_code 4 (Option.some FieldType.int)) ∈ wA := wA_t 320 (by decide +kernel) (by decide +kernel)
theorem w_322 : (Cond.methodLink "FileBody" 76 y_Db_howManyFree) ∈ wA := wA_t 322 (by decide +kernel) (by decide +kernel)
theorem w_323 : (Cond.instanceMethod y_Db_howManyFree) ∈ wA := wA_t 323 (by decide +kernel) (by decide +kernel)
theorem w_324 : (Cond.selects "FileBody$DataBlocks" y_Db_howManyFree y_Db_howManyFree) ∈ wA := wA_t 324 (by decide +kernel) (by decide +kernel)
theorem w_325 : (Cond.code y_Db_howManyFree prog_3_method_2_code 1 (Option.some FieldType.int)) ∈ wA := wA_t 325 (by decide +kernel) (by decide +kernel)
theorem w_327 : (Cond.methodLink "FileBody" 81 y_Re_setSize) ∈ wA := wA_t 327 (by decide +kernel) (by decide +kernel)
theorem w_328 : (Cond.instanceMethod y_Re_setSize) ∈ wA := wA_t 328 (by decide +kernel) (by decide +kernel)
theorem w_329 : (Cond.selects "FileBody$Records" y_Re_setSize y_Re_setSize) ∈ wA := wA_t 329 (by decide +kernel) (by decide +kernel)
theorem w_330 : (Cond.code y_Re_setSize prog_5_method_9_code 3 (Option.none : Option FieldType)) ∈ wA := wA_t 330 (by decide +kernel) (by decide +kernel)
theorem w_331 : (Cond.methodLink "FileBody" 85 y_Bo_setTarget) ∈ wA := wA_t 331 (by decide +kernel) (by decide +kernel)
theorem w_332 : (Cond.instanceMethod y_Bo_setTarget) ∈ wA := wA_t 332 (by decide +kernel) (by decide +kernel)
theorem w_333 : (Cond.selects "FileBody$Bodies" y_Bo_setTarget y_Bo_setTarget) ∈ wA := wA_t 333 (by decide +kernel) (by decide +kernel)
theorem w_334 : (Cond.code y_Bo_setTarget prog_2_method_3_code 6 (Option.none : Option FieldType)) ∈ wA := wA_t 334 (by decide +kernel) (by decide +kernel)
theorem w_335 : (Cond.methodLink "FileBody$Bodies" 19 y_Re_hasTarget) ∈ wA := wA_t 335 (by decide +kernel) (by decide +kernel)
theorem w_336 : (Cond.instanceMethod y_Re_hasTarget) ∈ wA := wA_t 336 (by decide +kernel) (by decide +kernel)
theorem w_337 : (Cond.selects "FileBody$Records" y_Re_hasTarget y_Re_hasTarget) ∈ wA := wA_t 337 (by decide +kernel) (by decide +kernel)
theorem w_338 : (Cond.code y_Re_hasTarget prog_5_method_15_code 2 (Option.some FieldType.boolean)) ∈ wA := wA_t 338 (by decide +kernel) (by decide +kernel)
theorem w_339 : (Cond.methodLink "FileBody$Records" 33 y_Re_sizeOf) ∈ wA := wA_t 339 (by decide +kernel) (by decide +kernel)
theorem w_340 : (Cond.instanceMethod y_Re_sizeOf) ∈ wA := wA_t 340 (by decide +kernel) (by decide +kernel)
theorem w_341 : (Cond.selects "FileBody$Records" y_Re_sizeOf y_Re_sizeOf) ∈ wA := wA_t 341 (by decide +kernel) (by decide +kernel)
theorem w_342 : (Cond.code y_Re_sizeOf prog_5_method_8_code 2 (Option.some FieldType.int)) ∈ wA := wA_t 342 (by decide +kernel) (by decide +kernel)
theorem w_343 : (Cond.methodLink "FileBody$Bodies" 37 y_Bo_targetByte) ∈ wA := wA_t 343 (by decide +kernel) (by decide +kernel)
theorem w_344 : (Cond.static y_Bo_targetByte) ∈ wA := wA_t 344 (by decide +kernel) (by decide +kernel)
theorem w_345 : (Cond.code y_Bo_targetByte prog_2_method_11_code 2 (Option.some FieldType.int)) ∈ wA := wA_t 345 (by decide +kernel) (by decide +kernel)
theorem w_346 : (Cond.methodLink "FileBody$Bodies" 90 y_Ma_floorMod) ∈ wA := wA_t 346 (by decide +kernel) (by decide +kernel)
theorem w_347 : (Cond.static y_Ma_floorMod) ∈ wA := wA_t 347 (by decide +kernel) (by decide +kernel)
theorem w_348 : (Cond.code y_Ma_floorMod prog_17_method_50_code 3 (Option.some FieldType.int)) ∈ wA := wA_t 348 (by decide +kernel) (by decide +kernel)
theorem w_349 : (Cond.methodLink "FileBody$Bodies" 38 y_Re_setTargetByte) ∈ wA := wA_t 349 (by decide +kernel) (by decide +kernel)
theorem w_350 : (Cond.instanceMethod y_Re_setTargetByte) ∈ wA := wA_t 350 (by decide +kernel) (by decide +kernel)
theorem w_351 : (Cond.selects "FileBody$Records" y_Re_setTargetByte y_Re_setTargetByte) ∈ wA := wA_t 351 (by decide +kernel) (by decide +kernel)
theorem w_352 : (Cond.code y_Re_setTargetByte prog_5_method_17_code 4 (Option.none : Option FieldType)) ∈ wA := wA_t 352 (by decide +kernel) (by decide +kernel)
theorem w_353 : (Cond.methodLink "FileBody$Bodies" 42 y_Bo_takeBlock) ∈ wA := wA_t 353 (by decide +kernel) (by decide +kernel)
theorem w_355 : (Cond.instanceMethod y_Bo_takeBlock) ∈ wA := wA_t 355 (by decide +kernel) (by decide +kernel)
theorem w_356 : (Cond.code y_Bo_takeBlock prog_2_method_10_code 6 (Option.none : Option FieldType)) ∈ wA := wA_t 356 (by decide +kernel) (by decide +kernel)
theorem w_357 : (Cond.methodLink "FileBody$Bodies" 84 y_Db_take) ∈ wA := wA_t 357 (by decide +kernel) (by decide +kernel)
theorem w_358 : (Cond.instanceMethod y_Db_take) ∈ wA := wA_t 358 (by decide +kernel) (by decide +kernel)
theorem w_359 : (Cond.selects "FileBody$DataBlocks" y_Db_take y_Db_take) ∈ wA := wA_t 359 (by decide +kernel) (by decide +kernel)
theorem w_360 : (Cond.code y_Db_take prog_3_method_3_code 3 (Option.some FieldType.int)) ∈ wA := wA_t 360 (by decide +kernel) (by decide +kernel)
theorem w_361 : (Cond.methodLink "FileBody$DataBlocks" 25 y_Db_leastFree) ∈ wA := wA_t 361 (by decide +kernel) (by decide +kernel)
theorem w_363 : (Cond.instanceMethod y_Db_leastFree) ∈ wA := wA_t 363 (by decide +kernel) (by decide +kernel)
theorem w_364 : (Cond.code y_Db_leastFree prog_3_method_9_code 3 (Option.some FieldType.int)) ∈ wA := wA_t 364 (by decide +kernel) (by decide +kernel)
theorem w_365 : (Cond.methodLink "FileBody$DataBlocks" 42 (⟨"java/lang/Math", "max", "(II)I"⟩ : MethodName)) ∈ wA := wA_t 365 (by decide +kernel) (by decide +kernel)
theorem w_366 : (Cond.static (⟨"java/lang/Math", "max", "(II)I"⟩ : MethodName)) ∈ wA := wA_t 366 (by decide +kernel) (by decide +kernel)
theorem w_367 : (Cond.code (⟨"java/lang/Math", "max", "(II)I"⟩ : MethodName) prog_17_method_65_code 2 (Option.some FieldType.int)) ∈ wA := wA_t 367 (by decide +kernel) (by decide +kernel)
theorem w_368 : (Cond.methodLink "FileBody$DataBlocks" 29 y_Ar_fill) ∈ wA := wA_t 368 (by decide +kernel) (by decide +kernel)
theorem w_369 : (Cond.static y_Ar_fill) ∈ wA := wA_t 369 (by decide +kernel) (by decide +kernel)
theorem w_370 : (Cond.code y_Ar_fill prog_25_method_109_code 4 (Option.none : Option FieldType)) ∈ wA := wA_t 370 (by decide +kernel) (by decide +kernel)
theorem w_371 : (Cond.methodLink "FileBody$Bodies" 87 y_Re_addBlock) ∈ wA := wA_t 371 (by decide +kernel) (by decide +kernel)
theorem w_372 : (Cond.instanceMethod y_Re_addBlock) ∈ wA := wA_t 372 (by decide +kernel) (by decide +kernel)
theorem w_373 : (Cond.selects "FileBody$Records" y_Re_addBlock y_Re_addBlock) ∈ wA := wA_t 373 (by decide +kernel) (by decide +kernel)
theorem w_374 : (Cond.code y_Re_addBlock prog_5_method_19_code 4 (Option.none : Option FieldType)) ∈ wA := wA_t 374 (by decide +kernel) (by decide +kernel)
theorem w_375 : (Cond.methodLink "FileBody$Bodies" 46 y_Db_setByte) ∈ wA := wA_t 375 (by decide +kernel) (by decide +kernel)
theorem w_376 : (Cond.instanceMethod y_Db_setByte) ∈ wA := wA_t 376 (by decide +kernel) (by decide +kernel)
theorem w_377 : (Cond.selects "FileBody$DataBlocks" y_Db_setByte y_Db_setByte) ∈ wA := wA_t 377 (by decide +kernel) (by decide +kernel)
theorem w_378 : (Cond.code y_Db_setByte prog_3_method_6_code 4 (Option.none : Option FieldType)) ∈ wA := wA_t 378 (by decide +kernel) (by decide +kernel)
theorem w_379 : (Cond.methodLink "FileBody$DataBlocks" 35 y_Db_hasSpan) ∈ wA := wA_t 379 (by decide +kernel) (by decide +kernel)
theorem w_381 : (Cond.instanceMethod y_Db_hasSpan) ∈ wA := wA_t 381 (by decide +kernel) (by decide +kernel)
theorem w_382 : (Cond.code y_Db_hasSpan prog_3_method_10_code 4 (Option.some FieldType.boolean)) ∈ wA := wA_t 382 (by decide +kernel) (by decide +kernel)
theorem w_383 : (Cond.methodLink "FileBodyLaw" 75 y_Lw_write) ∈ wA := wA_t 383 (by decide +kernel) (by decide +kernel)
theorem w_384 : (Cond.static y_Lw_write) ∈ wA := wA_t 384 (by decide +kernel) (by decide +kernel)
theorem w_385 : (Cond.codeWith y_Lw_write method_5_code 8 (Option.some FieldType.int) [(0, 14, 17, 13), (0, 14, 21, 15)]) ∈ wA := wA_t 385 (by decide +kernel) (by decide +kernel)
theorem w_386 : (Cond.methodLink "FileBodyLaw" 21 y_Fb_write) ∈ wA := wA_t 386 (by decide +kernel) (by decide +kernel)
theorem w_387 : (Cond.instanceMethod y_Fb_write) ∈ wA := wA_t 387 (by decide +kernel) (by decide +kernel)
theorem w_388 : (Cond.selects "FileBody" y_Fb_write y_Fb_write) ∈ wA := wA_t 388 (by decide +kernel) (by decide +kernel)
theorem w_389 : (Cond.code y_Fb_write prog_1_method_4_code 6 (Option.some FieldType.int)) ∈ wA := wA_t 389 (by decide +kernel) (by decide +kernel)
theorem w_390 : (Cond.methodLink "FileBody" 88 y_Fb_checkSpan) ∈ wA := wA_t 390 (by decide +kernel) (by decide +kernel)
theorem w_392 : (Cond.instanceMethod y_Fb_checkSpan) ∈ wA := wA_t 392 (by decide +kernel) (by decide +kernel)
theorem w_393 : (Cond.code y_Fb_checkSpan prog_1_method_17_code 5 (Option.none : Option FieldType)) ∈ wA := wA_t 393 (by decide +kernel) (by decide +kernel)
theorem w_394 : (Cond.methodLink "FileBody" 121 y_Fb_checkPlain) ∈ wA := wA_t 394 (by decide +kernel) (by decide +kernel)
theorem w_396 : (Cond.instanceMethod y_Fb_checkPlain) ∈ wA := wA_t 396 (by decide +kernel) (by decide +kernel)
theorem w_397 : (Cond.code y_Fb_checkPlain prog_1_method_16_code 2 (Option.none : Option FieldType)) ∈ wA := wA_t 397 (by decide +kernel) (by decide +kernel)
theorem w_398 : (Cond.methodLink "FileBody" 154 y_Re_kindOf) ∈ wA := wA_t 398 (by decide +kernel) (by decide +kernel)
theorem w_402 : (Cond.methodLink "FileBody" 92 y_Fb_checkFreeBlocks) ∈ wA := wA_t 402 (by decide +kernel) (by decide +kernel)
theorem w_404 : (Cond.instanceMethod y_Fb_checkFreeBlocks) ∈ wA := wA_t 404 (by decide +kernel) (by decide +kernel)
theorem w_405 : (Cond.code y_Fb_checkFreeBlocks prog_1_method_18_code 4 (Option.none : Option FieldType)) ∈ wA := wA_t 405 (by decide +kernel) (by decide +kernel)
theorem w_406 : (Cond.methodLink "FileBody" 193 y_Bo_blocksWanted) ∈ wA := wA_t 406 (by decide +kernel) (by decide +kernel)
theorem w_407 : (Cond.instanceMethod y_Bo_blocksWanted) ∈ wA := wA_t 407 (by decide +kernel) (by decide +kernel)
theorem w_408 : (Cond.selects "FileBody$Bodies" y_Bo_blocksWanted y_Bo_blocksWanted) ∈ wA := wA_t 408 (by decide +kernel) (by decide +kernel)
theorem w_409 : (Cond.code y_Bo_blocksWanted prog_2_method_4_code 6 (Option.some FieldType.int)) ∈ wA := wA_t 409 (by decide +kernel) (by decide +kernel)
theorem w_410 : (Cond.methodLink "FileBody$Bodies" 49 y_Bo_lastPiece) ∈ wA := wA_t 410 (by decide +kernel) (by decide +kernel)
theorem w_411 : (Cond.static y_Bo_lastPiece) ∈ wA := wA_t 411 (by decide +kernel) (by decide +kernel)
theorem w_412 : (Cond.code y_Bo_lastPiece prog_2_method_12_code 2 (Option.some FieldType.int)) ∈ wA := wA_t 412 (by decide +kernel) (by decide +kernel)
theorem w_414 : (Cond.methodLink "FileBody" 95 y_Bo_prepare) ∈ wA := wA_t 414 (by decide +kernel) (by decide +kernel)
theorem w_415 : (Cond.instanceMethod y_Bo_prepare) ∈ wA := wA_t 415 (by decide +kernel) (by decide +kernel)
theorem w_416 : (Cond.selects "FileBody$Bodies" y_Bo_prepare y_Bo_prepare) ∈ wA := wA_t 416 (by decide +kernel) (by decide +kernel)
theorem w_417 : (Cond.code y_Bo_prepare prog_2_method_5_code 5 (Option.none : Option FieldType)) ∈ wA := wA_t 417 (by decide +kernel) (by decide +kernel)
theorem w_418 : (Cond.methodLink "FileBody$Bodies" 52 y_Re_sizeOf) ∈ wA := wA_t 418 (by decide +kernel) (by decide +kernel)
theorem w_419 : (Cond.methodLink "FileBody$Bodies" 56 (⟨"java/lang/Math", "max", "(II)I"⟩ : MethodName)) ∈ wA := wA_t 419 (by decide +kernel) (by decide +kernel)
theorem w_420 : (Cond.methodLink "FileBody$Bodies" 61 y_Re_setSize) ∈ wA := wA_t 420 (by decide +kernel) (by decide +kernel)
theorem w_421 : (Cond.methodLink "FileBody" 98 y_Bo_setBytes) ∈ wA := wA_t 421 (by decide +kernel) (by decide +kernel)
theorem w_422 : (Cond.instanceMethod y_Bo_setBytes) ∈ wA := wA_t 422 (by decide +kernel) (by decide +kernel)
theorem w_423 : (Cond.selects "FileBody$Bodies" y_Bo_setBytes y_Bo_setBytes) ∈ wA := wA_t 423 (by decide +kernel) (by decide +kernel)
theorem w_424 : (Cond.code y_Bo_setBytes prog_2_method_6_code 10 (Option.none : Option FieldType)) ∈ wA := wA_t 424 (by decide +kernel) (by decide +kernel)
theorem w_425 : (Cond.methodLink "FileBody" 102 y_Re_sizeOf) ∈ wA := wA_t 425 (by decide +kernel) (by decide +kernel)
theorem w_426 : (Cond.methodLink "FileBodyLaw" 79 y_Lw_paint) ∈ wA := wA_t 426 (by decide +kernel) (by decide +kernel)
theorem w_427 : (Cond.static y_Lw_paint) ∈ wA := wA_t 427 (by decide +kernel) (by decide +kernel)
theorem w_428 : (Cond.codeWith y_Lw_paint method_6_code 7 (Option.some FieldType.int) [(0, 14, 17, 13), (0, 14, 21, 15)]) ∈ wA := wA_t 428 (by decide +kernel) (by decide +kernel)
theorem w_429 : (Cond.methodLink "FileBodyLaw" 25 y_Fb_paint) ∈ wA := wA_t 429 (by decide +kernel) (by decide +kernel)
theorem w_430 : (Cond.instanceMethod y_Fb_paint) ∈ wA := wA_t 430 (by decide +kernel) (by decide +kernel)
theorem w_431 : (Cond.selects "FileBody" y_Fb_paint y_Fb_paint) ∈ wA := wA_t 431 (by decide +kernel) (by decide +kernel)
theorem w_432 : (Cond.code y_Fb_paint prog_1_method_5_code 5 (Option.some FieldType.int)) ∈ wA := wA_t 432 (by decide +kernel) (by decide +kernel)
theorem w_433 : (Cond.methodLink "FileBody" 106 y_Bo_setPattern) ∈ wA := wA_t 433 (by decide +kernel) (by decide +kernel)
theorem w_434 : (Cond.instanceMethod y_Bo_setPattern) ∈ wA := wA_t 434 (by decide +kernel) (by decide +kernel)
theorem w_435 : (Cond.selects "FileBody$Bodies" y_Bo_setPattern y_Bo_setPattern) ∈ wA := wA_t 435 (by decide +kernel) (by decide +kernel)
theorem w_436 : (Cond.code y_Bo_setPattern prog_2_method_7_code 10 (Option.none : Option FieldType)) ∈ wA := wA_t 436 (by decide +kernel) (by decide +kernel)
theorem w_437 : (Cond.methodLink "FileBody$Bodies" 64 (⟨"java/lang/Math", "min", "(II)I"⟩ : MethodName)) ∈ wA := wA_t 437 (by decide +kernel) (by decide +kernel)
theorem w_438 : (Cond.static (⟨"java/lang/Math", "min", "(II)I"⟩ : MethodName)) ∈ wA := wA_t 438 (by decide +kernel) (by decide +kernel)
theorem w_439 : (Cond.code (⟨"java/lang/Math", "min", "(II)I"⟩ : MethodName) prog_17_method_69_code 2 (Option.some FieldType.int)) ∈ wA := wA_t 439 (by decide +kernel) (by decide +kernel)
theorem w_440 : (Cond.methodLink "FileBody$Bodies" 67 y_Db_setPattern) ∈ wA := wA_t 440 (by decide +kernel) (by decide +kernel)
theorem w_441 : (Cond.instanceMethod y_Db_setPattern) ∈ wA := wA_t 441 (by decide +kernel) (by decide +kernel)
theorem w_442 : (Cond.selects "FileBody$DataBlocks" y_Db_setPattern y_Db_setPattern) ∈ wA := wA_t 442 (by decide +kernel) (by decide +kernel)
theorem w_443 : (Cond.code y_Db_setPattern prog_3_method_8_code 8 (Option.none : Option FieldType)) ∈ wA := wA_t 443 (by decide +kernel) (by decide +kernel)
theorem w_444 : (Cond.methodLink "FileBodyLaw" 83 y_Lw_read) ∈ wA := wA_t 444 (by decide +kernel) (by decide +kernel)
theorem w_445 : (Cond.static y_Lw_read) ∈ wA := wA_t 445 (by decide +kernel) (by decide +kernel)
theorem w_446 : (Cond.codeWith y_Lw_read method_7_code 5 (Option.some FieldType.int) [(0, 10, 13, 13), (0, 10, 17, 32)]) ∈ wA := wA_t 446 (by decide +kernel) (by decide +kernel)
theorem w_447 : (Cond.classLink "FileBodyLaw" 32 "java/lang/IndexOutOfBoundsException") ∈ wA := wA_t 447 (by decide +kernel) (by decide +kernel)
theorem w_448 : (Cond.methodLink "FileBodyLaw" 29 y_Fb_read) ∈ wA := wA_t 448 (by decide +kernel) (by decide +kernel)
theorem w_449 : (Cond.instanceMethod y_Fb_read) ∈ wA := wA_t 449 (by decide +kernel) (by decide +kernel)
theorem w_450 : (Cond.selects "FileBody" y_Fb_read y_Fb_read) ∈ wA := wA_t 450 (by decide +kernel) (by decide +kernel)
theorem w_451 : (Cond.code y_Fb_read prog_1_method_6_code 3 (Option.some FieldType.int)) ∈ wA := wA_t 451 (by decide +kernel) (by decide +kernel)
theorem w_452 : (Cond.methodLink "FileBody" 109 y_Fb_checkThere) ∈ wA := wA_t 452 (by decide +kernel) (by decide +kernel)
theorem w_454 : (Cond.instanceMethod y_Fb_checkThere) ∈ wA := wA_t 454 (by decide +kernel) (by decide +kernel)
theorem w_455 : (Cond.code y_Fb_checkThere prog_1_method_15_code 2 (Option.none : Option FieldType)) ∈ wA := wA_t 455 (by decide +kernel) (by decide +kernel)
theorem w_457 : (Cond.classLink "FileBody" 112 "java/lang/IndexOutOfBoundsException") ∈ wA := wA_t 457 (by decide +kernel) (by decide +kernel)
theorem w_458 : (Cond.instantiable "java/lang/IndexOutOfBoundsException" 6) ∈ wA := wA_t 458 (by decide +kernel) (by decide +kernel)
theorem w_460 : (Cond.selects "java/lang/IndexOutOfBoundsException" (⟨"java/lang/Throwable", "fillInStackTrace", "(I)Ljava/lang/Throwable;"⟩ : MethodName) (⟨"java/lang/Throwable", "fillInStackTrace", "(I)Ljava/lang/Throwable;"⟩ : MethodName)) ∈ wA := wA_t 460 (by decide +kernel) (by decide +kernel)
theorem w_461 : (Cond.lays "java/lang/IndexOutOfBoundsException" "java/lang/Throwable" "cause" "Ljava/lang/Throwable;") ∈ wA := wA_t 461 (by decide +kernel) (by decide +kernel)
theorem w_462 : (Cond.lays "java/lang/IndexOutOfBoundsException" "java/lang/Throwable" "stackTrace" "[Ljava/lang/StackTraceElement;") ∈ wA := wA_t 462 (by decide +kernel) (by decide +kernel)
theorem w_463 : (Cond.lays "java/lang/IndexOutOfBoundsException" "java/lang/Throwable" "suppressedExceptions" "Ljava/util/List;") ∈ wA := wA_t 463 (by decide +kernel) (by decide +kernel)
theorem w_464 : (Cond.lays "java/lang/IndexOutOfBoundsException" "java/lang/Throwable" "detailMessage" "Ljava/lang/String;") ∈ wA := wA_t 464 (by decide +kernel) (by decide +kernel)
theorem w_465 : (Cond.lays "java/lang/IndexOutOfBoundsException" "java/lang/Throwable" "backtrace" "Ljava/lang/Object;") ∈ wA := wA_t 465 (by decide +kernel) (by decide +kernel)
theorem w_467 : (Cond.methodLink "FileBody" 116 (⟨"java/lang/IndexOutOfBoundsException", "<init>", "(Ljava/lang/String;)V"⟩ : MethodName)) ∈ wA := wA_t 467 (by decide +kernel) (by decide +kernel)
theorem w_468 : (Cond.instanceMethod (⟨"java/lang/IndexOutOfBoundsException", "<init>", "(Ljava/lang/String;)V"⟩ : MethodName)) ∈ wA := wA_t 468 (by decide +kernel) (by decide +kernel)
theorem w_469 : (Cond.code (⟨"java/lang/IndexOutOfBoundsException", "<init>", "(Ljava/lang/String;)V"⟩ : MethodName) prog_15_method_2_code 2 (Option.none : Option FieldType)) ∈ wA := wA_t 469 (by decide +kernel) (by decide +kernel)
theorem w_470 : (Cond.methodLink "java/lang/IndexOutOfBoundsException" 7 (⟨"java/lang/RuntimeException", "<init>", "(Ljava/lang/String;)V"⟩ : MethodName)) ∈ wA := wA_t 470 (by decide +kernel) (by decide +kernel)
theorem w_471 : (Cond.lays "java/lang/IndexOutOfBoundsException" "java/lang/Throwable" "depth" "I") ∈ wA := wA_t 471 (by decide +kernel) (by decide +kernel)
theorem w_472 : (Cond.superclass "java/lang/IndexOutOfBoundsException" "java/lang/RuntimeException") ∈ wA := wA_t 472 (by decide +kernel) (by decide +kernel)
theorem w_473 : (Cond.methodLink "FileBody" 117 y_Bo_byteAt) ∈ wA := wA_t 473 (by decide +kernel) (by decide +kernel)
theorem w_474 : (Cond.instanceMethod y_Bo_byteAt) ∈ wA := wA_t 474 (by decide +kernel) (by decide +kernel)
theorem w_475 : (Cond.selects "FileBody$Bodies" y_Bo_byteAt y_Bo_byteAt) ∈ wA := wA_t 475 (by decide +kernel) (by decide +kernel)
theorem w_476 : (Cond.code y_Bo_byteAt prog_2_method_2_code 4 (Option.some FieldType.int)) ∈ wA := wA_t 476 (by decide +kernel) (by decide +kernel)
theorem w_477 : (Cond.methodLink "FileBody$Bodies" 25 y_Re_targetByte) ∈ wA := wA_t 477 (by decide +kernel) (by decide +kernel)
theorem w_478 : (Cond.instanceMethod y_Re_targetByte) ∈ wA := wA_t 478 (by decide +kernel) (by decide +kernel)
theorem w_479 : (Cond.selects "FileBody$Records" y_Re_targetByte y_Re_targetByte) ∈ wA := wA_t 479 (by decide +kernel) (by decide +kernel)
theorem w_480 : (Cond.code y_Re_targetByte prog_5_method_16_code 3 (Option.some FieldType.int)) ∈ wA := wA_t 480 (by decide +kernel) (by decide +kernel)
theorem w_481 : (Cond.methodLink "FileBody$Bodies" 32 y_Db_byteAt) ∈ wA := wA_t 481 (by decide +kernel) (by decide +kernel)
theorem w_482 : (Cond.instanceMethod y_Db_byteAt) ∈ wA := wA_t 482 (by decide +kernel) (by decide +kernel)
theorem w_483 : (Cond.selects "FileBody$DataBlocks" y_Db_byteAt y_Db_byteAt) ∈ wA := wA_t 483 (by decide +kernel) (by decide +kernel)
theorem w_484 : (Cond.code y_Db_byteAt prog_3_method_5_code 3 (Option.some FieldType.int)) ∈ wA := wA_t 484 (by decide +kernel) (by decide +kernel)
theorem w_485 : (Cond.methodLink "FileBodyLaw" 86 y_Lw_cut) ∈ wA := wA_t 485 (by decide +kernel) (by decide +kernel)
theorem w_486 : (Cond.static y_Lw_cut) ∈ wA := wA_t 486 (by decide +kernel) (by decide +kernel)
theorem w_487 : (Cond.codeWith y_Lw_cut method_8_code 5 (Option.some FieldType.int) [(0, 10, 13, 13)]) ∈ wA := wA_t 487 (by decide +kernel) (by decide +kernel)
theorem w_488 : (Cond.methodLink "FileBodyLaw" 34 y_Fb_cut) ∈ wA := wA_t 488 (by decide +kernel) (by decide +kernel)
theorem w_489 : (Cond.instanceMethod y_Fb_cut) ∈ wA := wA_t 489 (by decide +kernel) (by decide +kernel)
theorem w_490 : (Cond.selects "FileBody" y_Fb_cut y_Fb_cut) ∈ wA := wA_t 490 (by decide +kernel) (by decide +kernel)
theorem w_491 : (Cond.code y_Fb_cut prog_1_method_7_code 4 (Option.some FieldType.int)) ∈ wA := wA_t 491 (by decide +kernel) (by decide +kernel)
theorem w_493 : (Cond.methodLink "FileBody" 126 y_Bo_resize) ∈ wA := wA_t 493 (by decide +kernel) (by decide +kernel)
theorem w_494 : (Cond.instanceMethod y_Bo_resize) ∈ wA := wA_t 494 (by decide +kernel) (by decide +kernel)
theorem w_495 : (Cond.selects "FileBody$Bodies" y_Bo_resize y_Bo_resize) ∈ wA := wA_t 495 (by decide +kernel) (by decide +kernel)
theorem w_496 : (Cond.code y_Bo_resize prog_2_method_8_code 6 (Option.none : Option FieldType)) ∈ wA := wA_t 496 (by decide +kernel) (by decide +kernel)
theorem w_497 : (Cond.methodLink "FileBody$Bodies" 71 y_Bo_giveBack) ∈ wA := wA_t 497 (by decide +kernel) (by decide +kernel)
theorem w_498 : (Cond.methodLink "FileBody$Bodies" 74 y_Db_clear) ∈ wA := wA_t 498 (by decide +kernel) (by decide +kernel)
theorem w_499 : (Cond.instanceMethod y_Db_clear) ∈ wA := wA_t 499 (by decide +kernel) (by decide +kernel)
theorem w_500 : (Cond.selects "FileBody$DataBlocks" y_Db_clear y_Db_clear) ∈ wA := wA_t 500 (by decide +kernel) (by decide +kernel)
theorem w_501 : (Cond.code y_Db_clear prog_3_method_7_code 4 (Option.none : Option FieldType)) ∈ wA := wA_t 501 (by decide +kernel) (by decide +kernel)
theorem w_502 : (Cond.methodLink "FileBody$DataBlocks" 39 y_Ar_fill4) ∈ wA := wA_t 502 (by decide +kernel) (by decide +kernel)
theorem w_503 : (Cond.static y_Ar_fill4) ∈ wA := wA_t 503 (by decide +kernel) (by decide +kernel)
theorem w_504 : (Cond.code y_Ar_fill4 prog_25_method_110_code 5 (Option.none : Option FieldType)) ∈ wA := wA_t 504 (by decide +kernel) (by decide +kernel)
theorem w_505 : (Cond.methodLink "java/util/Arrays" 13 y_Ar_rangeCheck) ∈ wA := wA_t 505 (by decide +kernel) (by decide +kernel)
theorem w_506 : (Cond.static y_Ar_rangeCheck) ∈ wA := wA_t 506 (by decide +kernel) (by decide +kernel)
theorem w_507 : (Cond.code y_Ar_rangeCheck prog_25_method_30_code 3 (Option.none : Option FieldType)) ∈ wA := wA_t 507 (by decide +kernel) (by decide +kernel)
theorem w_508 : (Cond.classLink "java/util/Arrays" 43 "java/lang/IllegalArgumentException") ∈ wA := wA_t 508 (by decide +kernel) (by decide +kernel)
theorem w_509 : (Cond.classLink "java/util/Arrays" 45 "java/lang/StringBuilder") ∈ wA := wA_t 509 (by decide +kernel) (by decide +kernel)
theorem w_511 : (Cond.methodLink "java/util/Arrays" 47 (⟨"java/lang/StringBuilder", "<init>", "()V"⟩ : MethodName)) ∈ wA := wA_t 511 (by decide +kernel) (by decide +kernel)
theorem w_517 : (Cond.methodLink "java/lang/AbstractStringBuilder" 3 (⟨"java/lang/Object", "<init>", "()V"⟩ : MethodName)) ∈ wA := wA_t 517 (by decide +kernel) (by decide +kernel)
theorem w_541 : (Cond.methodLink "java/util/Arrays" 50 (⟨"java/lang/StringBuilder", "append", "(Ljava/lang/String;)Ljava/lang/StringBuilder;"⟩ : MethodName)) ∈ wA := wA_t 541 (by decide +kernel) (by decide +kernel)
theorem w_563 : (Cond.methodLink "jdk/internal/util/ArraysSupport" 194 (⟨"java/lang/Math", "max", "(II)I"⟩ : MethodName)) ∈ wA := wA_t 563 (by decide +kernel) (by decide +kernel)
theorem w_569 : (Cond.methodLink "java/lang/AbstractStringBuilder" 108 (⟨"java/util/Arrays", "copyOf", "([BI)[B"⟩ : MethodName)) ∈ wA := wA_t 569 (by decide +kernel) (by decide +kernel)
theorem w_570 : (Cond.static (⟨"java/util/Arrays", "copyOf", "([BI)[B"⟩ : MethodName)) ∈ wA := wA_t 570 (by decide +kernel) (by decide +kernel)
theorem w_571 : (Cond.code (⟨"java/util/Arrays", "copyOf", "([BI)[B"⟩ : MethodName) prog_25_method_121_code 3 (Option.some (FieldType.array FieldType.byte))) ∈ wA := wA_t 571 (by decide +kernel) (by decide +kernel)
theorem w_572 : (Cond.methodLink "java/util/Arrays" 310 (⟨"[B", "clone", "()Ljava/lang/Object;"⟩ : MethodName)) ∈ wA := wA_t 572 (by decide +kernel) (by decide +kernel)
theorem w_574 : (Cond.native (⟨"java/lang/Object", "clone", "()Ljava/lang/Object;"⟩ : MethodName)) ∈ wA := wA_t 574 (by decide +kernel) (by decide +kernel)
theorem w_575 : (Cond.instanceMethod (⟨"java/lang/Object", "clone", "()Ljava/lang/Object;"⟩ : MethodName)) ∈ wA := wA_t 575 (by decide +kernel) (by decide +kernel)
theorem w_576 : (Cond.selects "[B" (⟨"[B", "clone", "()Ljava/lang/Object;"⟩ : MethodName) (⟨"java/lang/Object", "clone", "()Ljava/lang/Object;"⟩ : MethodName)) ∈ wA := wA_t 576 (by decide +kernel) (by decide +kernel)
theorem w_578 : (Cond.classLink "java/util/Arrays" 311 "[B") ∈ wA := wA_t 578 (by decide +kernel) (by decide +kernel)
theorem w_579 : (Cond.methodLink "java/util/Arrays" 304 (⟨"java/lang/Math", "min", "(II)I"⟩ : MethodName)) ∈ wA := wA_t 579 (by decide +kernel) (by decide +kernel)
theorem w_580 : (Cond.methodLink "java/util/Arrays" 150 (⟨"java/lang/System", "arraycopy", "(Ljava/lang/Object;ILjava/lang/Object;II)V"⟩ : MethodName)) ∈ wA := wA_t 580 (by decide +kernel) (by decide +kernel)
theorem w_657 : (Cond.methodLink "java/util/Arrays" 54 (⟨"java/lang/StringBuilder", "append", "(I)Ljava/lang/StringBuilder;"⟩ : MethodName)) ∈ wA := wA_t 657 (by decide +kernel) (by decide +kernel)
theorem w_684 : (Cond.methodLink "java/util/Arrays" 61 (⟨"java/lang/StringBuilder", "toString", "()Ljava/lang/String;"⟩ : MethodName)) ∈ wA := wA_t 684 (by decide +kernel) (by decide +kernel)
theorem w_696 : (Cond.methodLink "java/lang/String" 1 (⟨"java/lang/Object", "<init>", "()V"⟩ : MethodName)) ∈ wA := wA_t 696 (by decide +kernel) (by decide +kernel)
theorem w_711 : (Cond.methodLink "java/lang/String" 54 (⟨"java/util/Arrays", "copyOfRange", "([BII)[B"⟩ : MethodName)) ∈ wA := wA_t 711 (by decide +kernel) (by decide +kernel)
theorem w_712 : (Cond.static (⟨"java/util/Arrays", "copyOfRange", "([BII)[B"⟩ : MethodName)) ∈ wA := wA_t 712 (by decide +kernel) (by decide +kernel)
theorem w_713 : (Cond.code (⟨"java/util/Arrays", "copyOfRange", "([BII)[B"⟩ : MethodName) prog_25_method_132_code 3 (Option.some (FieldType.array FieldType.byte))) ∈ wA := wA_t 713 (by decide +kernel) (by decide +kernel)
theorem w_714 : (Cond.methodLink "java/util/Arrays" 339 (⟨"java/util/Arrays", "copyOfRangeByte", "([BII)[B"⟩ : MethodName)) ∈ wA := wA_t 714 (by decide +kernel) (by decide +kernel)
theorem w_715 : (Cond.static (⟨"java/util/Arrays", "copyOfRangeByte", "([BII)[B"⟩ : MethodName)) ∈ wA := wA_t 715 (by decide +kernel) (by decide +kernel)
theorem w_716 : (Cond.code (⟨"java/util/Arrays", "copyOfRangeByte", "([BII)[B"⟩ : MethodName) prog_25_method_133_code 5 (Option.some (FieldType.array FieldType.byte))) ∈ wA := wA_t 716 (by decide +kernel) (by decide +kernel)
theorem w_717 : (Cond.methodLink "java/util/Arrays" 343 (⟨"java/util/Arrays", "checkLength", "(II)V"⟩ : MethodName)) ∈ wA := wA_t 717 (by decide +kernel) (by decide +kernel)
theorem w_718 : (Cond.static (⟨"java/util/Arrays", "checkLength", "(II)V"⟩ : MethodName)) ∈ wA := wA_t 718 (by decide +kernel) (by decide +kernel)
theorem w_719 : (Cond.code (⟨"java/util/Arrays", "checkLength", "(II)V"⟩ : MethodName) prog_25_method_131_code 2 (Option.none : Option FieldType)) ∈ wA := wA_t 719 (by decide +kernel) (by decide +kernel)
theorem w_721 : (Cond.methodLink "java/util/Arrays" 65 (⟨"java/lang/IllegalArgumentException", "<init>", "(Ljava/lang/String;)V"⟩ : MethodName)) ∈ wA := wA_t 721 (by decide +kernel) (by decide +kernel)
theorem w_731 : (Cond.methodLink "java/lang/StringUTF16" 126 (⟨"java/util/Arrays", "copyOfRange", "([BII)[B"⟩ : MethodName)) ∈ wA := wA_t 731 (by decide +kernel) (by decide +kernel)
theorem w_745 : (Cond.superclass "java/lang/String" "java/lang/Object") ∈ wA := wA_t 745 (by decide +kernel) (by decide +kernel)
theorem w_746 : (Cond.classLink "java/util/Arrays" 68 "java/lang/ArrayIndexOutOfBoundsException") ∈ wA := wA_t 746 (by decide +kernel) (by decide +kernel)
theorem w_748 : (Cond.methodLink "java/util/Arrays" 70 (⟨"java/lang/ArrayIndexOutOfBoundsException", "<init>", "(I)V"⟩ : MethodName)) ∈ wA := wA_t 748 (by decide +kernel) (by decide +kernel)
theorem w_757 : (Cond.methodLink "java/lang/ArrayIndexOutOfBoundsException" 7 (⟨"java/lang/IndexOutOfBoundsException", "<init>", "(Ljava/lang/String;)V"⟩ : MethodName)) ∈ wA := wA_t 757 (by decide +kernel) (by decide +kernel)
theorem w_764 : (Cond.superclass "java/lang/ArrayIndexOutOfBoundsException" "java/lang/IndexOutOfBoundsException") ∈ wA := wA_t 764 (by decide +kernel) (by decide +kernel)
theorem w_765 : (Cond.methodLink "FileBodyLaw" 89 y_Lw_links) ∈ wA := wA_t 765 (by decide +kernel) (by decide +kernel)
theorem w_766 : (Cond.static y_Lw_links) ∈ wA := wA_t 766 (by decide +kernel) (by decide +kernel)
theorem w_767 : (Cond.codeWith y_Lw_links method_9_code 5 (Option.some FieldType.int) [(0, 10, 13, 13)]) ∈ wA := wA_t 767 (by decide +kernel) (by decide +kernel)
theorem w_768 : (Cond.methodLink "FileBodyLaw" 37 y_Fb_links) ∈ wA := wA_t 768 (by decide +kernel) (by decide +kernel)
theorem w_769 : (Cond.instanceMethod y_Fb_links) ∈ wA := wA_t 769 (by decide +kernel) (by decide +kernel)
theorem w_770 : (Cond.selects "FileBody" y_Fb_links y_Fb_links) ∈ wA := wA_t 770 (by decide +kernel) (by decide +kernel)
theorem w_771 : (Cond.code y_Fb_links prog_1_method_8_code 5 (Option.some FieldType.int)) ∈ wA := wA_t 771 (by decide +kernel) (by decide +kernel)
theorem w_772 : (Cond.methodLink "FileBody" 129 y_Re_linksOf) ∈ wA := wA_t 772 (by decide +kernel) (by decide +kernel)
theorem w_773 : (Cond.instanceMethod y_Re_linksOf) ∈ wA := wA_t 773 (by decide +kernel) (by decide +kernel)
theorem w_774 : (Cond.selects "FileBody$Records" y_Re_linksOf y_Re_linksOf) ∈ wA := wA_t 774 (by decide +kernel) (by decide +kernel)
theorem w_775 : (Cond.code y_Re_linksOf prog_5_method_12_code 2 (Option.some FieldType.int)) ∈ wA := wA_t 775 (by decide +kernel) (by decide +kernel)
theorem w_777 : (Cond.methodLink "FileBody" 134 y_Re_setLinks) ∈ wA := wA_t 777 (by decide +kernel) (by decide +kernel)
theorem w_778 : (Cond.methodLink "FileBodyLaw" 92 y_Lw_drop) ∈ wA := wA_t 778 (by decide +kernel) (by decide +kernel)
theorem w_779 : (Cond.static y_Lw_drop) ∈ wA := wA_t 779 (by decide +kernel) (by decide +kernel)
theorem w_780 : (Cond.codeWith y_Lw_drop method_10_code 4 (Option.some FieldType.int) [(0, 9, 12, 13), (0, 9, 15, 15)]) ∈ wA := wA_t 780 (by decide +kernel) (by decide +kernel)
theorem w_781 : (Cond.methodLink "FileBodyLaw" 40 y_Fb_drop) ∈ wA := wA_t 781 (by decide +kernel) (by decide +kernel)
theorem w_782 : (Cond.instanceMethod y_Fb_drop) ∈ wA := wA_t 782 (by decide +kernel) (by decide +kernel)
theorem w_783 : (Cond.selects "FileBody" y_Fb_drop y_Fb_drop) ∈ wA := wA_t 783 (by decide +kernel) (by decide +kernel)
theorem w_784 : (Cond.code y_Fb_drop prog_1_method_9_code 2 (Option.some FieldType.int)) ∈ wA := wA_t 784 (by decide +kernel) (by decide +kernel)
theorem w_786 : (Cond.methodLink "FileBodyLaw" 99 y_Lw_about) ∈ wA := wA_t 786 (by decide +kernel) (by decide +kernel)
theorem w_787 : (Cond.static y_Lw_about) ∈ wA := wA_t 787 (by decide +kernel) (by decide +kernel)
theorem w_788 : (Cond.codeWith y_Lw_about method_11_code 5 (Option.some FieldType.int) [(0, 10, 13, 13)]) ∈ wA := wA_t 788 (by decide +kernel) (by decide +kernel)
theorem w_789 : (Cond.methodLink "FileBodyLaw" 43 y_Fb_about) ∈ wA := wA_t 789 (by decide +kernel) (by decide +kernel)
theorem w_790 : (Cond.instanceMethod y_Fb_about) ∈ wA := wA_t 790 (by decide +kernel) (by decide +kernel)
theorem w_791 : (Cond.selects "FileBody" y_Fb_about y_Fb_about) ∈ wA := wA_t 791 (by decide +kernel) (by decide +kernel)
theorem w_792 : (Cond.code y_Fb_about prog_1_method_11_code 3 (Option.some FieldType.int)) ∈ wA := wA_t 792 (by decide +kernel) (by decide +kernel)
theorem w_793 : (Cond.methodLink "FileBody" 148 y_Re_isNumber) ∈ wA := wA_t 793 (by decide +kernel) (by decide +kernel)
theorem w_795 : (Cond.methodLink "FileBody" 160 y_Re_blockOf) ∈ wA := wA_t 795 (by decide +kernel) (by decide +kernel)
theorem w_796 : (Cond.methodLink "FileBody" 163 y_Re_behind) ∈ wA := wA_t 796 (by decide +kernel) (by decide +kernel)
theorem w_798 : (Cond.methodLink "FileBodyLaw" 102 y_Lw_block) ∈ wA := wA_t 798 (by decide +kernel) (by decide +kernel)
theorem w_799 : (Cond.static y_Lw_block) ∈ wA := wA_t 799 (by decide +kernel) (by decide +kernel)
theorem w_800 : (Cond.codeWith y_Lw_block method_12_code 5 (Option.some FieldType.int) [(0, 10, 13, 13)]) ∈ wA := wA_t 800 (by decide +kernel) (by decide +kernel)
theorem w_801 : (Cond.methodLink "FileBodyLaw" 46 y_Fb_block) ∈ wA := wA_t 801 (by decide +kernel) (by decide +kernel)
theorem w_802 : (Cond.instanceMethod y_Fb_block) ∈ wA := wA_t 802 (by decide +kernel) (by decide +kernel)
theorem w_803 : (Cond.selects "FileBody" y_Fb_block y_Fb_block) ∈ wA := wA_t 803 (by decide +kernel) (by decide +kernel)
theorem w_804 : (Cond.code y_Fb_block prog_1_method_12_code 3 (Option.some FieldType.int)) ∈ wA := wA_t 804 (by decide +kernel) (by decide +kernel)
theorem w_806 : (Cond.methodLink "FileBodyLaw" 105 y_Lw_count) ∈ wA := wA_t 806 (by decide +kernel) (by decide +kernel)
theorem w_807 : (Cond.static y_Lw_count) ∈ wA := wA_t 807 (by decide +kernel) (by decide +kernel)
theorem w_808 : (Cond.codeWith y_Lw_count method_13_code 4 (Option.some FieldType.int) [(0, 9, 12, 13)]) ∈ wA := wA_t 808 (by decide +kernel) (by decide +kernel)
theorem w_809 : (Cond.methodLink "FileBodyLaw" 49 y_Fb_count) ∈ wA := wA_t 809 (by decide +kernel) (by decide +kernel)
theorem w_810 : (Cond.instanceMethod y_Fb_count) ∈ wA := wA_t 810 (by decide +kernel) (by decide +kernel)
theorem w_811 : (Cond.selects "FileBody" y_Fb_count y_Fb_count) ∈ wA := wA_t 811 (by decide +kernel) (by decide +kernel)
theorem w_812 : (Cond.code y_Fb_count prog_1_method_13_code 2 (Option.some FieldType.int)) ∈ wA := wA_t 812 (by decide +kernel) (by decide +kernel)
theorem w_813 : (Cond.methodLink "FileBody" 170 y_Re_howManyThere) ∈ wA := wA_t 813 (by decide +kernel) (by decide +kernel)
theorem w_814 : (Cond.instanceMethod y_Re_howManyThere) ∈ wA := wA_t 814 (by decide +kernel) (by decide +kernel)
theorem w_815 : (Cond.selects "FileBody$Records" y_Re_howManyThere y_Re_howManyThere) ∈ wA := wA_t 815 (by decide +kernel) (by decide +kernel)
theorem w_816 : (Cond.code y_Re_howManyThere prog_5_method_4_code 3 (Option.some FieldType.int)) ∈ wA := wA_t 816 (by decide +kernel) (by decide +kernel)
theorem w_817 : (Cond.methodLink "FileBody" 173 y_Wa_howMany) ∈ wA := wA_t 817 (by decide +kernel) (by decide +kernel)
theorem w_818 : (Cond.instanceMethod y_Wa_howMany) ∈ wA := wA_t 818 (by decide +kernel) (by decide +kernel)
theorem w_819 : (Cond.selects "FileBody$Waiting" y_Wa_howMany y_Wa_howMany) ∈ wA := wA_t 819 (by decide +kernel) (by decide +kernel)
theorem w_820 : (Cond.code y_Wa_howMany prog_6_method_3_code 3 (Option.some FieldType.int)) ∈ wA := wA_t 820 (by decide +kernel) (by decide +kernel)
theorem w_822 : (Cond.methodLink "FileBodyLaw" 108 y_Lw_byteOf) ∈ wA := wA_t 822 (by decide +kernel) (by decide +kernel)
theorem w_823 : (Cond.static y_Lw_byteOf) ∈ wA := wA_t 823 (by decide +kernel) (by decide +kernel)
theorem w_824 : (Cond.codeWith y_Lw_byteOf method_14_code 5 (Option.some FieldType.int) [(0, 10, 13, 32)]) ∈ wA := wA_t 824 (by decide +kernel) (by decide +kernel)
theorem w_825 : (Cond.methodLink "FileBodyLaw" 52 y_Fb_byteOf) ∈ wA := wA_t 825 (by decide +kernel) (by decide +kernel)
theorem w_826 : (Cond.instanceMethod y_Fb_byteOf) ∈ wA := wA_t 826 (by decide +kernel) (by decide +kernel)
theorem w_827 : (Cond.selects "FileBody" y_Fb_byteOf y_Fb_byteOf) ∈ wA := wA_t 827 (by decide +kernel) (by decide +kernel)
theorem w_828 : (Cond.code y_Fb_byteOf prog_1_method_14_code 3 (Option.some FieldType.int)) ∈ wA := wA_t 828 (by decide +kernel) (by decide +kernel)
theorem w_831 : (Cond.methodLink "FileBody" 182 y_Fr_number) ∈ wA := wA_t 831 (by decide +kernel) (by decide +kernel)
theorem w_832 : (Cond.classLink "FileBodyLaw" 56 "FileBodyModel") ∈ wA := wA_t 832 (by decide +kernel) (by decide +kernel)
theorem w_833 : (Cond.instantiable "FileBodyModel" 11) ∈ wA := wA_t 833 (by decide +kernel) (by decide +kernel)
theorem w_834 : (Cond.methodLink "FileBodyLaw" 58 y_Mo_init) ∈ wA := wA_t 834 (by decide +kernel) (by decide +kernel)
theorem w_835 : (Cond.instanceMethod y_Mo_init) ∈ wA := wA_t 835 (by decide +kernel) (by decide +kernel)
theorem w_836 : (Cond.code y_Mo_init prog_8_method_1_code 2 (Option.none : Option FieldType)) ∈ wA := wA_t 836 (by decide +kernel) (by decide +kernel)
theorem w_837 : (Cond.methodLink "FileBodyModel" 1 (⟨"java/lang/Object", "<init>", "()V"⟩ : MethodName)) ∈ wA := wA_t 837 (by decide +kernel) (by decide +kernel)
theorem w_838 : (Cond.constant "FileBodyModel" 7 (131072 : Int32)) ∈ wA := wA_t 838 (by decide +kernel) (by decide +kernel)
theorem w_839 : (Cond.fieldLink "FileBodyModel" 40 "FileBodyModel" "code" "I") ∈ wA := wA_t 839 (by decide +kernel) (by decide +kernel)
theorem w_840 : (Cond.fieldLink "FileBodyModel" 8 "FileBodyModel" "disk" "[B") ∈ wA := wA_t 840 (by decide +kernel) (by decide +kernel)
theorem w_841 : (Cond.fieldLink "FileBodyModel" 14 "FileBodyModel" "taken" "[Z") ∈ wA := wA_t 841 (by decide +kernel) (by decide +kernel)
theorem w_842 : (Cond.fieldLink "FileBodyModel" 18 "FileBodyModel" "kinds" "[I") ∈ wA := wA_t 842 (by decide +kernel) (by decide +kernel)
theorem w_843 : (Cond.fieldLink "FileBodyModel" 22 "FileBodyModel" "linkCounts" "[I") ∈ wA := wA_t 843 (by decide +kernel) (by decide +kernel)
theorem w_844 : (Cond.fieldLink "FileBodyModel" 25 "FileBodyModel" "sizes" "[I") ∈ wA := wA_t 844 (by decide +kernel) (by decide +kernel)
theorem w_845 : (Cond.fieldLink "FileBodyModel" 28 "FileBodyModel" "behind" "[I") ∈ wA := wA_t 845 (by decide +kernel) (by decide +kernel)
theorem w_846 : (Cond.fieldLink "FileBodyModel" 31 "FileBodyModel" "waits" "[Z") ∈ wA := wA_t 846 (by decide +kernel) (by decide +kernel)
theorem w_847 : (Cond.fieldLink "FileBodyModel" 34 "FileBodyModel" "blocks" "[I") ∈ wA := wA_t 847 (by decide +kernel) (by decide +kernel)
theorem w_848 : (Cond.fieldLink "FileBodyModel" 37 "FileBodyModel" "targets" "[B") ∈ wA := wA_t 848 (by decide +kernel) (by decide +kernel)
theorem w_849 : (Cond.fieldLink "FileBodyModel" 54 "FileBodyModel" "first" "I") ∈ wA := wA_t 849 (by decide +kernel) (by decide +kernel)
theorem w_850 : (Cond.lays "FileBodyModel" "FileBodyModel" "code" "I") ∈ wA := wA_t 850 (by decide +kernel) (by decide +kernel)
theorem w_852 : (Cond.laysFinal "FileBodyModel" "FileBodyModel" "disk" "[B") ∈ wA := wA_t 852 (by decide +kernel) (by decide +kernel)
theorem w_854 : (Cond.laysFinal "FileBodyModel" "FileBodyModel" "taken" "[Z") ∈ wA := wA_t 854 (by decide +kernel) (by decide +kernel)
theorem w_856 : (Cond.laysFinal "FileBodyModel" "FileBodyModel" "kinds" "[I") ∈ wA := wA_t 856 (by decide +kernel) (by decide +kernel)
theorem w_858 : (Cond.laysFinal "FileBodyModel" "FileBodyModel" "linkCounts" "[I") ∈ wA := wA_t 858 (by decide +kernel) (by decide +kernel)
theorem w_860 : (Cond.laysFinal "FileBodyModel" "FileBodyModel" "sizes" "[I") ∈ wA := wA_t 860 (by decide +kernel) (by decide +kernel)
theorem w_862 : (Cond.laysFinal "FileBodyModel" "FileBodyModel" "behind" "[I") ∈ wA := wA_t 862 (by decide +kernel) (by decide +kernel)
theorem w_864 : (Cond.laysFinal "FileBodyModel" "FileBodyModel" "waits" "[Z") ∈ wA := wA_t 864 (by decide +kernel) (by decide +kernel)
theorem w_866 : (Cond.laysFinal "FileBodyModel" "FileBodyModel" "blocks" "[I") ∈ wA := wA_t 866 (by decide +kernel) (by decide +kernel)
theorem w_868 : (Cond.laysFinal "FileBodyModel" "FileBodyModel" "targets" "[B") ∈ wA := wA_t 868 (by decide +kernel) (by decide +kernel)
theorem w_870 : (Cond.lays "FileBodyModel" "FileBodyModel" "first" "I") ∈ wA := wA_t 870 (by decide +kernel) (by decide +kernel)
theorem w_872 : (Cond.superclass "FileBodyModel" "java/lang/Object") ∈ wA := wA_t 872 (by decide +kernel) (by decide +kernel)
theorem w_873 : (Cond.arrayClass FieldType.int) ∈ wA := wA_t 873 (by decide +kernel) (by decide +kernel)
theorem w_874 : (Cond.methodLink "FileBodyLaw" 65 y_Mo_thrown) ∈ wA := wA_t 874 (by decide +kernel) (by decide +kernel)
theorem w_875 : (Cond.instanceMethod y_Mo_thrown) ∈ wA := wA_t 875 (by decide +kernel) (by decide +kernel)
theorem w_876 : (Cond.selects "FileBodyModel" y_Mo_thrown y_Mo_thrown) ∈ wA := wA_t 876 (by decide +kernel) (by decide +kernel)
theorem w_877 : (Cond.code y_Mo_thrown prog_8_method_2_code 1 (Option.some FieldType.int)) ∈ wA := wA_t 877 (by decide +kernel) (by decide +kernel)
theorem w_878 : (Cond.methodLink "FileBodyLaw" 64 y_Mo_make) ∈ wA := wA_t 878 (by decide +kernel) (by decide +kernel)
theorem w_879 : (Cond.instanceMethod y_Mo_make) ∈ wA := wA_t 879 (by decide +kernel) (by decide +kernel)
theorem w_880 : (Cond.selects "FileBodyModel" y_Mo_make y_Mo_make) ∈ wA := wA_t 880 (by decide +kernel) (by decide +kernel)
theorem w_881 : (Cond.code y_Mo_make prog_8_method_10_code 2 (Option.some FieldType.int)) ∈ wA := wA_t 881 (by decide +kernel) (by decide +kernel)
theorem w_882 : (Cond.constantLong "FileBodyModel" 65 (1000 : Int64)) ∈ wA := wA_t 882 (by decide +kernel) (by decide +kernel)
theorem w_883 : (Cond.methodLink "FileBodyModel" 46 y_Mo_in) ∈ wA := wA_t 883 (by decide +kernel) (by decide +kernel)
theorem w_884 : (Cond.static y_Mo_in) ∈ wA := wA_t 884 (by decide +kernel) (by decide +kernel)
theorem w_885 : (Cond.code y_Mo_in prog_8_method_3_code 6 (Option.some FieldType.boolean)) ∈ wA := wA_t 885 (by decide +kernel) (by decide +kernel)
theorem w_886 : (Cond.methodLink "FileBodyModel" 57 y_Mo_freeFile) ∈ wA := wA_t 886 (by decide +kernel) (by decide +kernel)
theorem w_888 : (Cond.instanceMethod y_Mo_freeFile) ∈ wA := wA_t 888 (by decide +kernel) (by decide +kernel)
theorem w_889 : (Cond.code y_Mo_freeFile prog_8_method_7_code 2 (Option.some FieldType.int)) ∈ wA := wA_t 889 (by decide +kernel) (by decide +kernel)
theorem w_890 : (Cond.methodLink "FileBodyModel" 67 y_Mo_begin) ∈ wA := wA_t 890 (by decide +kernel) (by decide +kernel)
theorem w_892 : (Cond.instanceMethod y_Mo_begin) ∈ wA := wA_t 892 (by decide +kernel) (by decide +kernel)
theorem w_893 : (Cond.code y_Mo_begin prog_8_method_9_code 5 (Option.some FieldType.int)) ∈ wA := wA_t 893 (by decide +kernel) (by decide +kernel)
theorem w_894 : (Cond.methodLink "FileBodyModel" 61 y_Mo_rest) ∈ wA := wA_t 894 (by decide +kernel) (by decide +kernel)
theorem w_896 : (Cond.instanceMethod y_Mo_rest) ∈ wA := wA_t 896 (by decide +kernel) (by decide +kernel)
theorem w_897 : (Cond.code y_Mo_rest prog_8_method_8_code 4 (Option.none : Option FieldType)) ∈ wA := wA_t 897 (by decide +kernel) (by decide +kernel)
theorem w_898 : (Cond.methodLink "FileBodyLaw" 72 y_Mo_link) ∈ wA := wA_t 898 (by decide +kernel) (by decide +kernel)
theorem w_899 : (Cond.instanceMethod y_Mo_link) ∈ wA := wA_t 899 (by decide +kernel) (by decide +kernel)
theorem w_900 : (Cond.selects "FileBodyModel" y_Mo_link y_Mo_link) ∈ wA := wA_t 900 (by decide +kernel) (by decide +kernel)
theorem w_901 : (Cond.code y_Mo_link prog_8_method_11_code 7 (Option.some FieldType.int)) ∈ wA := wA_t 901 (by decide +kernel) (by decide +kernel)
theorem w_902 : (Cond.methodLink "FileBodyModel" 71 y_Mo_freeOnes) ∈ wA := wA_t 902 (by decide +kernel) (by decide +kernel)
theorem w_904 : (Cond.instanceMethod y_Mo_freeOnes) ∈ wA := wA_t 904 (by decide +kernel) (by decide +kernel)
theorem w_905 : (Cond.code y_Mo_freeOnes prog_8_method_6_code 3 (Option.some FieldType.int)) ∈ wA := wA_t 905 (by decide +kernel) (by decide +kernel)
theorem w_906 : (Cond.methodLink "FileBodyModel" 74 y_Mo_take) ∈ wA := wA_t 906 (by decide +kernel) (by decide +kernel)
theorem w_908 : (Cond.instanceMethod y_Mo_take) ∈ wA := wA_t 908 (by decide +kernel) (by decide +kernel)
theorem w_909 : (Cond.code y_Mo_take prog_8_method_12_code 7 (Option.none : Option FieldType)) ∈ wA := wA_t 909 (by decide +kernel) (by decide +kernel)
theorem w_910 : (Cond.methodLink "FileBodyLaw" 78 y_Mo_write) ∈ wA := wA_t 910 (by decide +kernel) (by decide +kernel)
theorem w_911 : (Cond.instanceMethod y_Mo_write) ∈ wA := wA_t 911 (by decide +kernel) (by decide +kernel)
theorem w_912 : (Cond.selects "FileBodyModel" y_Mo_write y_Mo_write) ∈ wA := wA_t 912 (by decide +kernel) (by decide +kernel)
theorem w_913 : (Cond.code y_Mo_write prog_8_method_18_code 7 (Option.some FieldType.int)) ∈ wA := wA_t 913 (by decide +kernel) (by decide +kernel)
theorem w_914 : (Cond.methodLink "FileBodyModel" 87 y_Mo_may) ∈ wA := wA_t 914 (by decide +kernel) (by decide +kernel)
theorem w_916 : (Cond.instanceMethod y_Mo_may) ∈ wA := wA_t 916 (by decide +kernel) (by decide +kernel)
theorem w_917 : (Cond.code y_Mo_may prog_8_method_15_code 6 (Option.some FieldType.boolean)) ∈ wA := wA_t 917 (by decide +kernel) (by decide +kernel)
theorem w_918 : (Cond.methodLink "FileBodyModel" 78 y_Mo_isPlain) ∈ wA := wA_t 918 (by decide +kernel) (by decide +kernel)
theorem w_920 : (Cond.instanceMethod y_Mo_isPlain) ∈ wA := wA_t 920 (by decide +kernel) (by decide +kernel)
theorem w_921 : (Cond.code y_Mo_isPlain prog_8_method_5_code 2 (Option.some FieldType.boolean)) ∈ wA := wA_t 921 (by decide +kernel) (by decide +kernel)
theorem w_922 : (Cond.methodLink "FileBodyModel" 50 y_Mo_isFile) ∈ wA := wA_t 922 (by decide +kernel) (by decide +kernel)
theorem w_924 : (Cond.instanceMethod y_Mo_isFile) ∈ wA := wA_t 924 (by decide +kernel) (by decide +kernel)
theorem w_925 : (Cond.code y_Mo_isFile prog_8_method_4_code 2 (Option.some FieldType.boolean)) ∈ wA := wA_t 925 (by decide +kernel) (by decide +kernel)
theorem w_926 : (Cond.constantLong "FileBodyModel" 44 (12 : Int64)) ∈ wA := wA_t 926 (by decide +kernel) (by decide +kernel)
theorem w_927 : (Cond.constantLong "FileBodyModel" 81 (15360 : Int64)) ∈ wA := wA_t 927 (by decide +kernel) (by decide +kernel)
theorem w_928 : (Cond.methodLink "FileBodyModel" 83 y_Mo_wanted) ∈ wA := wA_t 928 (by decide +kernel) (by decide +kernel)
theorem w_930 : (Cond.instanceMethod y_Mo_wanted) ∈ wA := wA_t 930 (by decide +kernel) (by decide +kernel)
theorem w_931 : (Cond.code y_Mo_wanted prog_8_method_14_code 6 (Option.some FieldType.int)) ∈ wA := wA_t 931 (by decide +kernel) (by decide +kernel)
theorem w_932 : (Cond.methodLink "FileBodyModel" 91 y_Mo_takeAll) ∈ wA := wA_t 932 (by decide +kernel) (by decide +kernel)
theorem w_934 : (Cond.instanceMethod y_Mo_takeAll) ∈ wA := wA_t 934 (by decide +kernel) (by decide +kernel)
theorem w_935 : (Cond.code y_Mo_takeAll prog_8_method_16_code 5 (Option.none : Option FieldType)) ∈ wA := wA_t 935 (by decide +kernel) (by decide +kernel)
theorem w_936 : (Cond.methodLink "FileBodyModel" 95 y_Mo_set) ∈ wA := wA_t 936 (by decide +kernel) (by decide +kernel)
theorem w_938 : (Cond.instanceMethod y_Mo_set) ∈ wA := wA_t 938 (by decide +kernel) (by decide +kernel)
theorem w_939 : (Cond.code y_Mo_set prog_8_method_17_code 4 (Option.none : Option FieldType)) ∈ wA := wA_t 939 (by decide +kernel) (by decide +kernel)
theorem w_940 : (Cond.methodLink "FileBodyLaw" 82 y_Mo_paint) ∈ wA := wA_t 940 (by decide +kernel) (by decide +kernel)
theorem w_941 : (Cond.instanceMethod y_Mo_paint) ∈ wA := wA_t 941 (by decide +kernel) (by decide +kernel)
theorem w_942 : (Cond.selects "FileBodyModel" y_Mo_paint y_Mo_paint) ∈ wA := wA_t 942 (by decide +kernel) (by decide +kernel)
theorem w_943 : (Cond.code y_Mo_paint prog_8_method_19_code 6 (Option.some FieldType.int)) ∈ wA := wA_t 943 (by decide +kernel) (by decide +kernel)
theorem w_944 : (Cond.methodLink "FileBodyLaw" 85 y_Mo_read) ∈ wA := wA_t 944 (by decide +kernel) (by decide +kernel)
theorem w_945 : (Cond.instanceMethod y_Mo_read) ∈ wA := wA_t 945 (by decide +kernel) (by decide +kernel)
theorem w_946 : (Cond.selects "FileBodyModel" y_Mo_read y_Mo_read) ∈ wA := wA_t 946 (by decide +kernel) (by decide +kernel)
theorem w_947 : (Cond.code y_Mo_read prog_8_method_20_code 4 (Option.some FieldType.int)) ∈ wA := wA_t 947 (by decide +kernel) (by decide +kernel)
theorem w_948 : (Cond.methodLink "FileBodyLaw" 88 y_Mo_cut) ∈ wA := wA_t 948 (by decide +kernel) (by decide +kernel)
theorem w_949 : (Cond.instanceMethod y_Mo_cut) ∈ wA := wA_t 949 (by decide +kernel) (by decide +kernel)
theorem w_950 : (Cond.selects "FileBodyModel" y_Mo_cut y_Mo_cut) ∈ wA := wA_t 950 (by decide +kernel) (by decide +kernel)
theorem w_951 : (Cond.code y_Mo_cut prog_8_method_21_code 6 (Option.some FieldType.int)) ∈ wA := wA_t 951 (by decide +kernel) (by decide +kernel)
theorem w_952 : (Cond.methodLink "FileBodyModel" 98 y_Mo_giveBack) ∈ wA := wA_t 952 (by decide +kernel) (by decide +kernel)
theorem w_954 : (Cond.instanceMethod y_Mo_giveBack) ∈ wA := wA_t 954 (by decide +kernel) (by decide +kernel)
theorem w_955 : (Cond.code y_Mo_giveBack prog_8_method_13_code 4 (Option.none : Option FieldType)) ∈ wA := wA_t 955 (by decide +kernel) (by decide +kernel)
theorem w_956 : (Cond.methodLink "FileBodyLaw" 91 y_Mo_links) ∈ wA := wA_t 956 (by decide +kernel) (by decide +kernel)
theorem w_957 : (Cond.instanceMethod y_Mo_links) ∈ wA := wA_t 957 (by decide +kernel) (by decide +kernel)
theorem w_958 : (Cond.selects "FileBodyModel" y_Mo_links y_Mo_links) ∈ wA := wA_t 958 (by decide +kernel) (by decide +kernel)
theorem w_959 : (Cond.code y_Mo_links prog_8_method_22_code 3 (Option.some FieldType.int)) ∈ wA := wA_t 959 (by decide +kernel) (by decide +kernel)
theorem w_960 : (Cond.methodLink "FileBodyLaw" 94 y_Mo_drop) ∈ wA := wA_t 960 (by decide +kernel) (by decide +kernel)
theorem w_961 : (Cond.instanceMethod y_Mo_drop) ∈ wA := wA_t 961 (by decide +kernel) (by decide +kernel)
theorem w_962 : (Cond.selects "FileBodyModel" y_Mo_drop y_Mo_drop) ∈ wA := wA_t 962 (by decide +kernel) (by decide +kernel)
theorem w_963 : (Cond.code y_Mo_drop prog_8_method_25_code 2 (Option.some FieldType.int)) ∈ wA := wA_t 963 (by decide +kernel) (by decide +kernel)
theorem w_964 : (Cond.methodLink "FileBodyModel" 105 y_Mo_go) ∈ wA := wA_t 964 (by decide +kernel) (by decide +kernel)
theorem w_966 : (Cond.instanceMethod y_Mo_go) ∈ wA := wA_t 966 (by decide +kernel) (by decide +kernel)
theorem w_967 : (Cond.code y_Mo_go prog_8_method_24_code 4 (Option.some FieldType.int)) ∈ wA := wA_t 967 (by decide +kernel) (by decide +kernel)
theorem w_968 : (Cond.methodLink "FileBodyModel" 101 y_Mo_blocksOf) ∈ wA := wA_t 968 (by decide +kernel) (by decide +kernel)
theorem w_970 : (Cond.instanceMethod y_Mo_blocksOf) ∈ wA := wA_t 970 (by decide +kernel) (by decide +kernel)
theorem w_971 : (Cond.code y_Mo_blocksOf prog_8_method_23_code 4 (Option.some FieldType.int)) ∈ wA := wA_t 971 (by decide +kernel) (by decide +kernel)
theorem w_972 : (Cond.methodLink "FileBodyLaw" 98 y_Mo_finish) ∈ wA := wA_t 972 (by decide +kernel) (by decide +kernel)
theorem w_973 : (Cond.instanceMethod y_Mo_finish) ∈ wA := wA_t 973 (by decide +kernel) (by decide +kernel)
theorem w_974 : (Cond.selects "FileBodyModel" y_Mo_finish y_Mo_finish) ∈ wA := wA_t 974 (by decide +kernel) (by decide +kernel)
theorem w_975 : (Cond.code y_Mo_finish prog_8_method_26_code 3 (Option.some FieldType.int)) ∈ wA := wA_t 975 (by decide +kernel) (by decide +kernel)
theorem w_976 : (Cond.methodLink "FileBodyLaw" 101 y_Mo_about) ∈ wA := wA_t 976 (by decide +kernel) (by decide +kernel)
theorem w_977 : (Cond.instanceMethod y_Mo_about) ∈ wA := wA_t 977 (by decide +kernel) (by decide +kernel)
theorem w_978 : (Cond.selects "FileBodyModel" y_Mo_about y_Mo_about) ∈ wA := wA_t 978 (by decide +kernel) (by decide +kernel)
theorem w_979 : (Cond.code y_Mo_about prog_8_method_27_code 3 (Option.some FieldType.int)) ∈ wA := wA_t 979 (by decide +kernel) (by decide +kernel)
theorem w_980 : (Cond.constantLong "FileBodyModel" 108 (5 : Int64)) ∈ wA := wA_t 980 (by decide +kernel) (by decide +kernel)
theorem w_981 : (Cond.methodLink "FileBodyLaw" 104 y_Mo_block) ∈ wA := wA_t 981 (by decide +kernel) (by decide +kernel)
theorem w_982 : (Cond.instanceMethod y_Mo_block) ∈ wA := wA_t 982 (by decide +kernel) (by decide +kernel)
theorem w_983 : (Cond.selects "FileBodyModel" y_Mo_block y_Mo_block) ∈ wA := wA_t 983 (by decide +kernel) (by decide +kernel)
theorem w_984 : (Cond.code y_Mo_block prog_8_method_28_code 3 (Option.some FieldType.int)) ∈ wA := wA_t 984 (by decide +kernel) (by decide +kernel)
theorem w_985 : (Cond.constantLong "FileBodyModel" 110 (14 : Int64)) ∈ wA := wA_t 985 (by decide +kernel) (by decide +kernel)
theorem w_986 : (Cond.methodLink "FileBodyLaw" 107 y_Mo_count) ∈ wA := wA_t 986 (by decide +kernel) (by decide +kernel)
theorem w_987 : (Cond.instanceMethod y_Mo_count) ∈ wA := wA_t 987 (by decide +kernel) (by decide +kernel)
theorem w_988 : (Cond.selects "FileBodyModel" y_Mo_count y_Mo_count) ∈ wA := wA_t 988 (by decide +kernel) (by decide +kernel)
theorem w_989 : (Cond.code y_Mo_count prog_8_method_29_code 5 (Option.some FieldType.int)) ∈ wA := wA_t 989 (by decide +kernel) (by decide +kernel)
theorem w_990 : (Cond.constantLong "FileBodyModel" 112 (3 : Int64)) ∈ wA := wA_t 990 (by decide +kernel) (by decide +kernel)
theorem w_991 : (Cond.methodLink "FileBodyLaw" 110 y_Mo_byteOf) ∈ wA := wA_t 991 (by decide +kernel) (by decide +kernel)
theorem w_992 : (Cond.instanceMethod y_Mo_byteOf) ∈ wA := wA_t 992 (by decide +kernel) (by decide +kernel)
theorem w_993 : (Cond.selects "FileBodyModel" y_Mo_byteOf y_Mo_byteOf) ∈ wA := wA_t 993 (by decide +kernel) (by decide +kernel)
theorem w_994 : (Cond.code y_Mo_byteOf prog_8_method_32_code 3 (Option.some FieldType.int)) ∈ wA := wA_t 994 (by decide +kernel) (by decide +kernel)
theorem w_995 : (Cond.constantLong "FileBodyModel" 119 (1023 : Int64)) ∈ wA := wA_t 995 (by decide +kernel) (by decide +kernel)
theorem w_996 : (Cond.methodLink "FileBodyModel" 114 y_Mo_part) ∈ wA := wA_t 996 (by decide +kernel) (by decide +kernel)
theorem w_997 : (Cond.static y_Mo_part) ∈ wA := wA_t 997 (by decide +kernel) (by decide +kernel)
theorem w_998 : (Cond.code y_Mo_part prog_8_method_30_code 3 (Option.some FieldType.int)) ∈ wA := wA_t 998 (by decide +kernel) (by decide +kernel)
theorem w_999 : (Cond.methodLink "FileBodyModel" 121 y_Mo_recordByte) ∈ wA := wA_t 999 (by decide +kernel) (by decide +kernel)
theorem w_1001 : (Cond.instanceMethod y_Mo_recordByte) ∈ wA := wA_t 1001 (by decide +kernel) (by decide +kernel)
theorem w_1002 : (Cond.code y_Mo_recordByte prog_8_method_31_code 5 (Option.some FieldType.int)) ∈ wA := wA_t 1002 (by decide +kernel) (by decide +kernel)
theorem w_1003 : (Cond.constant "FileBodyModel" 117 (32768 : Int32)) ∈ wA := wA_t 1003 (by decide +kernel) (by decide +kernel)
theorem w_1004 : (Cond.constant "FileBodyModel" 118 (40960 : Int32)) ∈ wA := wA_t 1004 (by decide +kernel) (by decide +kernel)
theorem w_1005 : (Cond.constantLong "FileBodyLaw" 73 (4294967295 : Int64)) ∈ wA := wA_t 1005 (by decide +kernel) (by decide +kernel)
theorem w_1006 : (Cond.arrayClass FieldType.long) ∈ wA := wA_t 1006 (by decide +kernel) (by decide +kernel)
theorem wp_0 : (Cond.selects "FileBody" y_Fb_letGo y_Fb_letGo) ∈ wA := wA_p 0 (by decide +kernel) (by decide +kernel)
theorem wp_1 : (Cond.selects "FileBody$Records" y_Re_field y_Re_field) ∈ wA := wA_p 1 (by decide +kernel) (by decide +kernel)
theorem wp_2 : (Cond.selects "FileBody$Waiting" y_Wa_setFirst y_Wa_setFirst) ∈ wA := wA_p 2 (by decide +kernel) (by decide +kernel)
theorem wp_3 : (Cond.selects "FileBody$Waiting" y_Wa_fileBefore y_Wa_fileBefore) ∈ wA := wA_p 3 (by decide +kernel) (by decide +kernel)
theorem wp_4 : (Cond.selects "FileBody$Records" y_Re_setField y_Re_setField) ∈ wA := wA_p 4 (by decide +kernel) (by decide +kernel)
theorem wp_6 : (Cond.selects "FileBody$Bodies" y_Bo_takeBlock y_Bo_takeBlock) ∈ wA := wA_p 6 (by decide +kernel) (by decide +kernel)
theorem wp_7 : (Cond.selects "FileBody$DataBlocks" y_Db_leastFree y_Db_leastFree) ∈ wA := wA_p 7 (by decide +kernel) (by decide +kernel)
theorem wp_8 : (Cond.selects "FileBody$DataBlocks" y_Db_hasSpan y_Db_hasSpan) ∈ wA := wA_p 8 (by decide +kernel) (by decide +kernel)
theorem wp_9 : (Cond.selects "FileBody" y_Fb_checkSpan y_Fb_checkSpan) ∈ wA := wA_p 9 (by decide +kernel) (by decide +kernel)
theorem wp_10 : (Cond.selects "FileBody" y_Fb_checkPlain y_Fb_checkPlain) ∈ wA := wA_p 10 (by decide +kernel) (by decide +kernel)
theorem wp_11 : (Cond.selects "FileBody" y_Fb_checkFreeBlocks y_Fb_checkFreeBlocks) ∈ wA := wA_p 11 (by decide +kernel) (by decide +kernel)
theorem wp_12 : (Cond.selects "FileBody" y_Fb_checkThere y_Fb_checkThere) ∈ wA := wA_p 12 (by decide +kernel) (by decide +kernel)
theorem wp_13 : (Cond.selects "FileBodyModel" y_Mo_freeFile y_Mo_freeFile) ∈ wA := wA_p 13 (by decide +kernel) (by decide +kernel)
theorem wp_14 : (Cond.selects "FileBodyModel" y_Mo_begin y_Mo_begin) ∈ wA := wA_p 14 (by decide +kernel) (by decide +kernel)
theorem wp_15 : (Cond.selects "FileBodyModel" y_Mo_rest y_Mo_rest) ∈ wA := wA_p 15 (by decide +kernel) (by decide +kernel)
theorem wp_16 : (Cond.selects "FileBodyModel" y_Mo_freeOnes y_Mo_freeOnes) ∈ wA := wA_p 16 (by decide +kernel) (by decide +kernel)
theorem wp_17 : (Cond.selects "FileBodyModel" y_Mo_take y_Mo_take) ∈ wA := wA_p 17 (by decide +kernel) (by decide +kernel)
theorem wp_18 : (Cond.selects "FileBodyModel" y_Mo_may y_Mo_may) ∈ wA := wA_p 18 (by decide +kernel) (by decide +kernel)
theorem wp_19 : (Cond.selects "FileBodyModel" y_Mo_isPlain y_Mo_isPlain) ∈ wA := wA_p 19 (by decide +kernel) (by decide +kernel)
theorem wp_20 : (Cond.selects "FileBodyModel" y_Mo_isFile y_Mo_isFile) ∈ wA := wA_p 20 (by decide +kernel) (by decide +kernel)
theorem wp_21 : (Cond.selects "FileBodyModel" y_Mo_wanted y_Mo_wanted) ∈ wA := wA_p 21 (by decide +kernel) (by decide +kernel)
theorem wp_22 : (Cond.selects "FileBodyModel" y_Mo_takeAll y_Mo_takeAll) ∈ wA := wA_p 22 (by decide +kernel) (by decide +kernel)
theorem wp_23 : (Cond.selects "FileBodyModel" y_Mo_set y_Mo_set) ∈ wA := wA_p 23 (by decide +kernel) (by decide +kernel)
theorem wp_24 : (Cond.selects "FileBodyModel" y_Mo_giveBack y_Mo_giveBack) ∈ wA := wA_p 24 (by decide +kernel) (by decide +kernel)
theorem wp_25 : (Cond.selects "FileBodyModel" y_Mo_go y_Mo_go) ∈ wA := wA_p 25 (by decide +kernel) (by decide +kernel)
theorem wp_26 : (Cond.selects "FileBodyModel" y_Mo_blocksOf y_Mo_blocksOf) ∈ wA := wA_p 26 (by decide +kernel) (by decide +kernel)
theorem wp_27 : (Cond.selects "FileBodyModel" y_Mo_recordByte y_Mo_recordByte) ∈ wA := wA_p 27 (by decide +kernel) (by decide +kernel)
theorem u_Bo : ∀ w ∈ u_ws R_Bo T_Bo 2, w ∈ wA := fun w h => by
  obtain ⟨k, hk, rfl⟩ := List.mem_map.mp h
  have hk := List.mem_range.mp hk
  match k, hk with
  | 0, _ => exact w_95
  | 1, _ => exact w_97
theorem u_Db : ∀ w ∈ u_ws R_Db T_Db 3, w ∈ wA := fun w h => by
  obtain ⟨k, hk, rfl⟩ := List.mem_map.mp h
  have hk := List.mem_range.mp hk
  match k, hk with
  | 0, _ => exact w_56
  | 1, _ => exact w_58
  | 2, _ => exact w_60
theorem u_Fr : ∀ w ∈ u_ws R_Fr T_Fr 1, w ∈ wA := fun w h => by
  obtain ⟨k, hk, rfl⟩ := List.mem_map.mp h
  have hk := List.mem_range.mp hk
  match k, hk with
  | 0, _ => exact w_41
theorem u_Re : ∀ w ∈ u_ws R_Re T_Re 1, w ∈ wA := fun w h => by
  obtain ⟨k, hk, rfl⟩ := List.mem_map.mp h
  have hk := List.mem_range.mp hk
  match k, hk with
  | 0, _ => exact w_71
theorem u_Wa : ∀ w ∈ u_ws R_Wa T_Wa 2, w ∈ wA := fun w h => by
  obtain ⟨k, hk, rfl⟩ := List.mem_map.mp h
  have hk := List.mem_range.mp hk
  match k, hk with
  | 0, _ => exact w_82
  | 1, _ => exact w_84
theorem u_Fb : ∀ w ∈ u_ws R_Fb T_Fb 5, w ∈ wA := fun w h => by
  obtain ⟨k, hk, rfl⟩ := List.mem_map.mp h
  have hk := List.mem_range.mp hk
  match k, hk with
  | 0, _ => exact w_105
  | 1, _ => exact w_107
  | 2, _ => exact w_109
  | 3, _ => exact w_111
  | 4, _ => exact w_113
theorem u_Mo : ∀ w ∈ u_ws R_Mo T_Mo 11, w ∈ wA := fun w h => by
  obtain ⟨k, hk, rfl⟩ := List.mem_map.mp h
  have hk := List.mem_range.mp hk
  match k, hk with
  | 0, _ => exact w_850
  | 1, _ => exact w_852
  | 2, _ => exact w_854
  | 3, _ => exact w_856
  | 4, _ => exact w_858
  | 5, _ => exact w_860
  | 6, _ => exact w_862
  | 7, _ => exact w_864
  | 8, _ => exact w_866
  | 9, _ => exact w_868
  | 10, _ => exact w_870
end
