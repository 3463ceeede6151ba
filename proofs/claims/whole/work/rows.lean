section
-- ===== PART A: goes FIRST, ahead of the names: the tables' words, and 'selects' of the private methods out of them =====
/-- a private method of a class that the tables say can be made, by its rows of tables_1 -/
def lw_okq (q : MethodName × Nat) : Prop := (q.1.cls ≠ "java/lang/invoke/MethodHandle" ∧ q.1.cls ≠ "java/lang/invoke/VarHandle") ∧ Cond.instantiable q.1.cls q.2 ∈ tables_1 ∧ Cond.privateMethod q.1 ∈ tables_1 ∧ Cond.instanceMethod q.1 ∈ tables_1
theorem lw_p0 : lw_okq (⟨"FileBody", "letGo", "(I)I"⟩, 5) := ⟨⟨by decide +kernel, by decide +kernel⟩, List.mem_of_getElem? (i := 27) (by decide +kernel), List.mem_of_getElem? (i := 129) (by decide +kernel), List.mem_of_getElem? (i := 130) (by decide +kernel)⟩
theorem lw_p1 : lw_okq (⟨"FileBody$Records", "field", "(III)I"⟩, 1) := ⟨⟨by decide +kernel, by decide +kernel⟩, List.mem_of_getElem? (i := 65) (by decide +kernel), List.mem_of_getElem? (i := 137) (by decide +kernel), List.mem_of_getElem? (i := 138) (by decide +kernel)⟩
theorem lw_p2 : lw_okq (⟨"FileBody$Waiting", "setFirst", "(I)V"⟩, 2) := ⟨⟨by decide +kernel, by decide +kernel⟩, List.mem_of_getElem? (i := 75) (by decide +kernel), List.mem_of_getElem? (i := 158) (by decide +kernel), List.mem_of_getElem? (i := 159) (by decide +kernel)⟩
theorem lw_p3 : lw_okq (⟨"FileBody$Waiting", "fileBefore", "(I)I"⟩, 2) := ⟨⟨by decide +kernel, by decide +kernel⟩, List.mem_of_getElem? (i := 75) (by decide +kernel), List.mem_of_getElem? (i := 166) (by decide +kernel), List.mem_of_getElem? (i := 167) (by decide +kernel)⟩
theorem lw_p4 : lw_okq (⟨"FileBody$Records", "setField", "(IIII)V"⟩, 1) := ⟨⟨by decide +kernel, by decide +kernel⟩, List.mem_of_getElem? (i := 65) (by decide +kernel), List.mem_of_getElem? (i := 174) (by decide +kernel), List.mem_of_getElem? (i := 175) (by decide +kernel)⟩
theorem lw_p5 : lw_okq (⟨"java/lang/Throwable", "fillInStackTrace", "(I)Ljava/lang/Throwable;"⟩, 6) := ⟨⟨by decide +kernel, by decide +kernel⟩, List.mem_of_getElem? (i := 248) (by decide +kernel), List.mem_of_getElem? (i := 246) (by decide +kernel), List.mem_of_getElem? (i := 247) (by decide +kernel)⟩
theorem lw_p6 : lw_okq (⟨"FileBody$Bodies", "takeBlock", "(II)V"⟩, 2) := ⟨⟨by decide +kernel, by decide +kernel⟩, List.mem_of_getElem? (i := 88) (by decide +kernel), List.mem_of_getElem? (i := 354) (by decide +kernel), List.mem_of_getElem? (i := 355) (by decide +kernel)⟩
theorem lw_p7 : lw_okq (⟨"FileBody$DataBlocks", "leastFree", "(I)I"⟩, 3) := ⟨⟨by decide +kernel, by decide +kernel⟩, List.mem_of_getElem? (i := 46) (by decide +kernel), List.mem_of_getElem? (i := 362) (by decide +kernel), List.mem_of_getElem? (i := 363) (by decide +kernel)⟩
theorem lw_p8 : lw_okq (⟨"FileBody$DataBlocks", "hasSpan", "(III)Z"⟩, 3) := ⟨⟨by decide +kernel, by decide +kernel⟩, List.mem_of_getElem? (i := 46) (by decide +kernel), List.mem_of_getElem? (i := 380) (by decide +kernel), List.mem_of_getElem? (i := 381) (by decide +kernel)⟩
theorem lw_p9 : lw_okq (⟨"FileBody", "checkSpan", "(IIII)V"⟩, 5) := ⟨⟨by decide +kernel, by decide +kernel⟩, List.mem_of_getElem? (i := 27) (by decide +kernel), List.mem_of_getElem? (i := 391) (by decide +kernel), List.mem_of_getElem? (i := 392) (by decide +kernel)⟩
theorem lw_p10 : lw_okq (⟨"FileBody", "checkPlain", "(I)V"⟩, 5) := ⟨⟨by decide +kernel, by decide +kernel⟩, List.mem_of_getElem? (i := 27) (by decide +kernel), List.mem_of_getElem? (i := 395) (by decide +kernel), List.mem_of_getElem? (i := 396) (by decide +kernel)⟩
theorem lw_p11 : lw_okq (⟨"FileBody", "checkFreeBlocks", "(III)V"⟩, 5) := ⟨⟨by decide +kernel, by decide +kernel⟩, List.mem_of_getElem? (i := 27) (by decide +kernel), List.mem_of_getElem? (i := 403) (by decide +kernel), List.mem_of_getElem? (i := 404) (by decide +kernel)⟩
theorem lw_p12 : lw_okq (⟨"FileBody", "checkThere", "(I)V"⟩, 5) := ⟨⟨by decide +kernel, by decide +kernel⟩, List.mem_of_getElem? (i := 27) (by decide +kernel), List.mem_of_getElem? (i := 453) (by decide +kernel), List.mem_of_getElem? (i := 454) (by decide +kernel)⟩
theorem lw_p13 : lw_okq (⟨"FileBodyModel", "freeFile", "()I"⟩, 11) := ⟨⟨by decide +kernel, by decide +kernel⟩, List.mem_of_getElem? (i := 833) (by decide +kernel), List.mem_of_getElem? (i := 887) (by decide +kernel), List.mem_of_getElem? (i := 888) (by decide +kernel)⟩
theorem lw_p14 : lw_okq (⟨"FileBodyModel", "begin", "(II)I"⟩, 11) := ⟨⟨by decide +kernel, by decide +kernel⟩, List.mem_of_getElem? (i := 833) (by decide +kernel), List.mem_of_getElem? (i := 891) (by decide +kernel), List.mem_of_getElem? (i := 892) (by decide +kernel)⟩
theorem lw_p15 : lw_okq (⟨"FileBodyModel", "rest", "(IZ)V"⟩, 11) := ⟨⟨by decide +kernel, by decide +kernel⟩, List.mem_of_getElem? (i := 833) (by decide +kernel), List.mem_of_getElem? (i := 895) (by decide +kernel), List.mem_of_getElem? (i := 896) (by decide +kernel)⟩
def lw_privs_1 : List (MethodName × Nat) := [(⟨"FileBody", "letGo", "(I)I"⟩, 5), (⟨"FileBody$Records", "field", "(III)I"⟩, 1), (⟨"FileBody$Waiting", "setFirst", "(I)V"⟩, 2), (⟨"FileBody$Waiting", "fileBefore", "(I)I"⟩, 2), (⟨"FileBody$Records", "setField", "(IIII)V"⟩, 1), (⟨"java/lang/Throwable", "fillInStackTrace", "(I)Ljava/lang/Throwable;"⟩, 6), (⟨"FileBody$Bodies", "takeBlock", "(II)V"⟩, 2), (⟨"FileBody$DataBlocks", "leastFree", "(I)I"⟩, 3), (⟨"FileBody$DataBlocks", "hasSpan", "(III)Z"⟩, 3), (⟨"FileBody", "checkSpan", "(IIII)V"⟩, 5), (⟨"FileBody", "checkPlain", "(I)V"⟩, 5), (⟨"FileBody", "checkFreeBlocks", "(III)V"⟩, 5), (⟨"FileBody", "checkThere", "(I)V"⟩, 5), (⟨"FileBodyModel", "freeFile", "()I"⟩, 11), (⟨"FileBodyModel", "begin", "(II)I"⟩, 11), (⟨"FileBodyModel", "rest", "(IZ)V"⟩, 11)]
theorem lw_r1 : ∀ q ∈ lw_privs_1, lw_okq q := List.forall_mem_cons.mpr ⟨lw_p0, List.forall_mem_cons.mpr ⟨lw_p1, List.forall_mem_cons.mpr ⟨lw_p2, List.forall_mem_cons.mpr ⟨lw_p3, List.forall_mem_cons.mpr ⟨lw_p4, List.forall_mem_cons.mpr ⟨lw_p5, List.forall_mem_cons.mpr ⟨lw_p6, List.forall_mem_cons.mpr ⟨lw_p7, List.forall_mem_cons.mpr ⟨lw_p8, List.forall_mem_cons.mpr ⟨lw_p9, List.forall_mem_cons.mpr ⟨lw_p10, List.forall_mem_cons.mpr ⟨lw_p11, List.forall_mem_cons.mpr ⟨lw_p12, List.forall_mem_cons.mpr ⟨lw_p13, List.forall_mem_cons.mpr ⟨lw_p14, List.forall_mem_cons.mpr ⟨lw_p15, fun _ h => absurd h List.not_mem_nil⟩⟩⟩⟩⟩⟩⟩⟩⟩⟩⟩⟩⟩⟩⟩⟩
theorem lw_p16 : lw_okq (⟨"FileBodyModel", "freeOnes", "()I"⟩, 11) := ⟨⟨by decide +kernel, by decide +kernel⟩, List.mem_of_getElem? (i := 833) (by decide +kernel), List.mem_of_getElem? (i := 903) (by decide +kernel), List.mem_of_getElem? (i := 904) (by decide +kernel)⟩
theorem lw_p17 : lw_okq (⟨"FileBodyModel", "take", "(II)V"⟩, 11) := ⟨⟨by decide +kernel, by decide +kernel⟩, List.mem_of_getElem? (i := 833) (by decide +kernel), List.mem_of_getElem? (i := 907) (by decide +kernel), List.mem_of_getElem? (i := 908) (by decide +kernel)⟩
theorem lw_p18 : lw_okq (⟨"FileBodyModel", "may", "(IIII)Z"⟩, 11) := ⟨⟨by decide +kernel, by decide +kernel⟩, List.mem_of_getElem? (i := 833) (by decide +kernel), List.mem_of_getElem? (i := 915) (by decide +kernel), List.mem_of_getElem? (i := 916) (by decide +kernel)⟩
theorem lw_p19 : lw_okq (⟨"FileBodyModel", "isPlain", "(I)Z"⟩, 11) := ⟨⟨by decide +kernel, by decide +kernel⟩, List.mem_of_getElem? (i := 833) (by decide +kernel), List.mem_of_getElem? (i := 919) (by decide +kernel), List.mem_of_getElem? (i := 920) (by decide +kernel)⟩
theorem lw_p20 : lw_okq (⟨"FileBodyModel", "isFile", "(I)Z"⟩, 11) := ⟨⟨by decide +kernel, by decide +kernel⟩, List.mem_of_getElem? (i := 833) (by decide +kernel), List.mem_of_getElem? (i := 923) (by decide +kernel), List.mem_of_getElem? (i := 924) (by decide +kernel)⟩
theorem lw_p21 : lw_okq (⟨"FileBodyModel", "wanted", "(III)I"⟩, 11) := ⟨⟨by decide +kernel, by decide +kernel⟩, List.mem_of_getElem? (i := 833) (by decide +kernel), List.mem_of_getElem? (i := 929) (by decide +kernel), List.mem_of_getElem? (i := 930) (by decide +kernel)⟩
theorem lw_p22 : lw_okq (⟨"FileBodyModel", "takeAll", "(III)V"⟩, 11) := ⟨⟨by decide +kernel, by decide +kernel⟩, List.mem_of_getElem? (i := 833) (by decide +kernel), List.mem_of_getElem? (i := 933) (by decide +kernel), List.mem_of_getElem? (i := 934) (by decide +kernel)⟩
theorem lw_p23 : lw_okq (⟨"FileBodyModel", "set", "(III)V"⟩, 11) := ⟨⟨by decide +kernel, by decide +kernel⟩, List.mem_of_getElem? (i := 833) (by decide +kernel), List.mem_of_getElem? (i := 937) (by decide +kernel), List.mem_of_getElem? (i := 938) (by decide +kernel)⟩
theorem lw_p24 : lw_okq (⟨"FileBodyModel", "giveBack", "(II)V"⟩, 11) := ⟨⟨by decide +kernel, by decide +kernel⟩, List.mem_of_getElem? (i := 833) (by decide +kernel), List.mem_of_getElem? (i := 953) (by decide +kernel), List.mem_of_getElem? (i := 954) (by decide +kernel)⟩
theorem lw_p25 : lw_okq (⟨"FileBodyModel", "go", "(I)I"⟩, 11) := ⟨⟨by decide +kernel, by decide +kernel⟩, List.mem_of_getElem? (i := 833) (by decide +kernel), List.mem_of_getElem? (i := 965) (by decide +kernel), List.mem_of_getElem? (i := 966) (by decide +kernel)⟩
theorem lw_p26 : lw_okq (⟨"FileBodyModel", "blocksOf", "(I)I"⟩, 11) := ⟨⟨by decide +kernel, by decide +kernel⟩, List.mem_of_getElem? (i := 833) (by decide +kernel), List.mem_of_getElem? (i := 969) (by decide +kernel), List.mem_of_getElem? (i := 970) (by decide +kernel)⟩
theorem lw_p27 : lw_okq (⟨"FileBodyModel", "recordByte", "(II)I"⟩, 11) := ⟨⟨by decide +kernel, by decide +kernel⟩, List.mem_of_getElem? (i := 833) (by decide +kernel), List.mem_of_getElem? (i := 1000) (by decide +kernel), List.mem_of_getElem? (i := 1001) (by decide +kernel)⟩
def lw_privs_2 : List (MethodName × Nat) := [(⟨"FileBodyModel", "freeOnes", "()I"⟩, 11), (⟨"FileBodyModel", "take", "(II)V"⟩, 11), (⟨"FileBodyModel", "may", "(IIII)Z"⟩, 11), (⟨"FileBodyModel", "isPlain", "(I)Z"⟩, 11), (⟨"FileBodyModel", "isFile", "(I)Z"⟩, 11), (⟨"FileBodyModel", "wanted", "(III)I"⟩, 11), (⟨"FileBodyModel", "takeAll", "(III)V"⟩, 11), (⟨"FileBodyModel", "set", "(III)V"⟩, 11), (⟨"FileBodyModel", "giveBack", "(II)V"⟩, 11), (⟨"FileBodyModel", "go", "(I)I"⟩, 11), (⟨"FileBodyModel", "blocksOf", "(I)I"⟩, 11), (⟨"FileBodyModel", "recordByte", "(II)I"⟩, 11)]
theorem lw_r2 : ∀ q ∈ lw_privs_2, lw_okq q := List.forall_mem_cons.mpr ⟨lw_p16, List.forall_mem_cons.mpr ⟨lw_p17, List.forall_mem_cons.mpr ⟨lw_p18, List.forall_mem_cons.mpr ⟨lw_p19, List.forall_mem_cons.mpr ⟨lw_p20, List.forall_mem_cons.mpr ⟨lw_p21, List.forall_mem_cons.mpr ⟨lw_p22, List.forall_mem_cons.mpr ⟨lw_p23, List.forall_mem_cons.mpr ⟨lw_p24, List.forall_mem_cons.mpr ⟨lw_p25, List.forall_mem_cons.mpr ⟨lw_p26, List.forall_mem_cons.mpr ⟨lw_p27, fun _ h => absurd h List.not_mem_nil⟩⟩⟩⟩⟩⟩⟩⟩⟩⟩⟩⟩
def lw_privs : List (MethodName × Nat) := lw_privs_1 ++ (lw_privs_2)
def lw_tbl : List Cond := k2_sels lw_privs ++ tables_1
theorem lw_privs_ok : ∀ q ∈ lw_privs, lw_okq q := by
  show ∀ q ∈ lw_privs_1 ++ (lw_privs_2), lw_okq q
  exact List.forall_mem_append.mpr ⟨lw_r1, lw_r2⟩
-- ===== end of PART A; then your names; then what follows =====
end
section
/-! ===== BEGIN words of one list among another's, by their places ===== -/
theorem goodIn_r {big : List Cond} (ws : List Cond) (ps : List Nat) (hp : ws = ps.filterMap (fun i => big[i]?)) (h : ws.all goodWord = true) : GoodIn big ws := by
  intro w hw
  have h1 := List.all_eq_true.mp h w hw
  rw [hp] at hw
  obtain ⟨i, -, hi⟩ := List.mem_filterMap.mp hw
  have hm : w ∈ big := by first | exact List.mem_of_getElem? hi | exact List.getElem?_mem hi
  exact ⟨hm, good_of_word h1⟩
theorem goodIn_app {big a b : List Cond} (ha : GoodIn big a) (hb : GoodIn big b) : GoodIn big (a ++ b) := fun w h => (List.mem_append.mp h).elim (ha w) (hb w)
theorem goodIn_ca {big a b : List Cond} {c : Cond} (ha : GoodIn big (c :: a)) (hb : GoodIn big b) : GoodIn big (c :: (a ++ b)) := fun w h => (List.mem_cons.mp h).elim (fun e => ha w (List.mem_cons.mpr (Or.inl e))) (fun h => (List.mem_append.mp h).elim (fun h => ha w (List.mem_cons.mpr (Or.inr h))) (hb w))
theorem goodIn_sub {big ws : List Cond} (hm : ∀ w ∈ ws, w ∈ big) (h : ws.all goodWord = true) : GoodIn big ws := fun w hw => ⟨hm w hw, good_of_word (List.all_eq_true.mp h w hw)⟩
/-! ===== END ===== -/

/-! ===== BEGIN exceptions that leave a method, and their catching by the caller (launches without stack traces) ===== -/
section VXA
/-! The laws vx_back, vx_callV, vx_callS, vx_callSW, vx_throw0, vx_throwS follow proofs of the library, with one case more: JvmDerived/Free/Laws.lean (Back.of_free), Shelf42/LK1.lean (callV, callS), Shelf/KitTraced.lean (throwNew0V, throwNewS). -/
/-- where a method has thrown q: the class by its name, the cell, what was written, the world -/
def vx_T (XC : String → State → State → Prop) (st : State) (q : Addr) (t : State) (mc ms : Nat) (free : Addr → Prop) : Prop :=
  ∃ (E : String) (ce : Cell) (L : List Loc), XC E st t ∧ t.heap[q]? = some ce ∧ ce.vm = .none ∧ st.vm.findClass E = some ce.cls ∧ st.WarmedH t.vm ∧ st.sameButNew ({ t with vm := st.vm } : State) L mc ms ∧ ∀ z ∈ L, free z.base
def vx_Q (Qc : Array Value → State → Outcome → State → Prop) (XC : String → State → State → Prop) (mc ms : Nat) (free : Addr → Prop) : Array Value → State → Outcome → State → Prop := fun a st o t =>
  (Qc a st o t ∧ ∃ L, FrameEnd st o t L mc ms ∧ ∀ q ∈ L, free q.base) ∨ ∃ q, o = .threw q ∧ vx_T XC st q t mc ms free
/-- a callee that returns or throws -/
def vx_Met (l : Launch) (y : MethodName) (ws : List Cond) (rm : Room) (Pc : Array Value → State → Prop) (Qc : Array Value → State → Outcome → State → Prop) (XC : String → State → State → Prop) (mc ms : Nat) (free : Addr → Prop) : Prop :=
  MetFree l y (headSpec ws rm) Pc (fun _ _ _ _ _ => True) (vx_Q Qc XC mc ms free)
def vx_Post (XC : String → State → State → Prop) (mc ms : Nat) (free : Addr → Prop) : Pt → Array Value → Addr → Pt → Prop := fun A a q B =>
  ∃ (g : JFrame) (mk : MethodId) (t : State) (L : List Loc) (E : String) (ce : Cell), B.U.heap = t.heap ∧ B.U.vm = t.vm ∧ XC E (A.U.calling g mk a) t ∧ t.heap[q]? = some ce ∧ ce.vm = .none ∧ A.U.vm.findClass E = some ce.cls ∧ B.locs = A.locs ++ L ∧ (∀ z ∈ L, free z.base) ∧ B.cells = A.cells + mc ∧ B.slots = A.slots + ms
def vx_Back (l : Launch) (R : Room) (p : Program) (e : Env) (below : List Frame) (s : State) (sargs : Array Value) (y : MethodName) (len W9 : Nat)
    (Pre : Pt → Array Value → Prop) (Post : Pt → Array Value → Option Value → Pt → Prop) (PostX : Pt → Array Value → Addr → Pt → Prop) : Prop :=
  ∀ (m : MethodId) (meth : Method) (c : Code) (A : Pt) (g : JFrame) (ig : Instr) (mk : MethodId) (a : Array Value),
    Stand p l e R s m sargs below meth c A.U A.locs A.cells A.slots → g.method = m → g.locals.size = c.maxLocals → decode c.code g.pc = .ok (ig, len) →
    2 * g.monitorRoom + (g.stack.map fun v => v.category).sum ≤ W9 → A.U.methodNamed? y = some mk → Pre A a →
    (∃ (v : Option Value) (B : Pt), Stand p l e R s m sargs below meth c B.U B.locs B.cells B.slots ∧ Post A a v B ∧
      Steps p.tables e below (doInvoke e (A.U.setTop g) [] mk a).1 (B.U.setTop { g with pc := g.pc + len, stack := v.toList ++ g.stack })) ∨
    (∃ (q : Addr) (B : Pt), Stand p l e R s m sargs below meth c B.U B.locs B.cells B.slots ∧ PostX A a q B ∧
      Steps p.tables e below (doInvoke e (A.U.setTop g) [] mk a).1 ((B.U.setTop g).pushFrame (.throwing q)))
section Payer
variable {l : Launch} {R : Room} {p : Program} {e : Env} {below : List Frame} {s : State} {sargs : Array Value} {y : MethodName} {len W9 : Nat}
theorem vx_back {ws : List Cond} {rm : Room} {Pc : Array Value → State → Prop} {Qc : Array Value → State → Outcome → State → Prop} {XC : String → State → State → Prop} {mc ms : Nat} {free : Addr → Prop} {bytes : ByteArray} {maxL : Nat} {ret : Option FieldType}
    (hM : vx_Met l y ws rm Pc Qc XC mc ms free) (hblind : FrameBlind Pc) (hrc : rm.cells = mc) (hrs : rm.slots = ms)
    (hframes : rm.frames + 1 ≤ R.frames) (hlocals : W9 + (maxL + 11) + rm.locals ≤ R.locals)
    (hws : ∀ w ∈ ws, ∀ a' U, s.WarmedH U.vm → w.before a' U = true) (hcode : Cond.code y bytes maxL ret ∈ ws) (hinit : ∀ a' U, s.WarmedH U.vm → (Cond.initialized y.cls).before a' U = true) :
    vx_Back l R p e below s sargs y len W9 (PreOf R mc ms Pc) (PostOf Qc mc ms free) (vx_Post XC mc ms free) := by
  intro m meth c A g ig mk a X hg hsize hdg hW hn hp
  have h1 : (headSpec ws rm).pre.before a A.U = true := atoms_intro fun w hw => hws w hw _ _ X.warmed
  have h2 : (Cond.code y bytes maxL ret).before a A.U = true := hws _ hcode _ _ X.warmed
  have h3 : (Cond.initialized y.cls).before a A.U = true := hinit _ _ X.warmed
  have h4 : A.cells + (headSpec ws rm).room.cells ≤ R.cells := by rw [show (headSpec ws rm).room.cells = mc from hrc]; exact hp.1
  have h5 : A.slots + (headSpec ws rm).room.slots ≤ R.slots := by rw [show (headSpec ws rm).room.slots = ms from hrs]; exact hp.2.1
  have hPc : Pc a (A.U.calling g mk a) := hblind _ _ _ _ hp.2.2
  obtain ⟨U, Ls, c0, s0⟩ := A
  dsimp only [Pt.U, Pt.locs, Pt.cells, Pt.slots] at h1 h2 h3 h4 h5 X hn hPc ⊢
  obtain ⟨methY, cY, hmY, hcY, -, hlY, -, -, -, -⟩ := Cond.code_spec hn h2
  obtain ⟨kY, hkY, -⟩ := className_of_methodNamed hn
  have hinitY : kY.init = .initialized := Cond.initialized_spec (findClass_of_methodNamed hn) hkY h3
  have h : At U g.method c below := by rw [hg]; exact X.here
  have hlocals9 : W9 + (maxL + 11) + (headSpec ws rm).room.locals ≤ R.locals := hlocals
  have happ : (headSpec ws rm).appliesLoose y e.platform (U.calling g mk a) = true :=
    Spec.appliesLoose_calling (g := g) h hdg hn hkY hinitY
      (X.room_calling (g := g) (R' := (headSpec ws rm).room) hsize hmY hcY hframes (by rw [hlY]; omega) h4 h5) h1
  obtain ⟨mid, hmid⟩ := h.above
  have hfr : (U.setTop g).frames = (.java g :: mid) ++ below := by rw [State.frames_setTop' g h.top, hmid]; rfl
  obtain ⟨o, s₂, hsteps, -, hend, hq⟩ := Steps.callFree hM p X.admits X.cas X.clock (acts := []) hfr happ hPc trivial
  have hq' : vx_Q Qc XC mc ms free a (U.calling g mk a) o s₂ := hq
  rw [State.frames_setTop' g h.top] at hend
  obtain ⟨g₀, hg0⟩ := Option.isSome_iff_exists.mp h.top
  obtain ⟨r, hr⟩ := State.topJava?_eq_some.mp hg0
  have hr' : (({ U with heap := s₂.heap, slotsUsed := s₂.slotsUsed } : State).setVm s₂.vm).frames = .java g₀ :: r := hr
  rcases hq' with ⟨hqc, L, hfe, hL⟩ | ⟨q, rfl, E, ce, L, hx, hce, hcv, hcl, hW₂, hsm, hL⟩
  · obtain ⟨⟨v, rfl⟩, hW₂, e2, q2, q3, q4, q5, q6⟩ := id hfe
    have e3 : s₂ = ({ (U.calling g mk a).setFrames s₂.frames with heap := s₂.heap, slotsUsed := s₂.slotsUsed } : State).setVm s₂.vm := by
      have : s₂ = ({ s₂ with vm := (U.calling g mk a).vm } : State).setVm s₂.vm := rfl
      rw [e2] at this
      exact this
    obtain ⟨c₂, i₂, len₂, hc₂, hd₂, hf₂⟩ := hend
    have hW' : U.WarmedH s₂.vm := hW₂
    have hcc : c₂ = c := by
      have h1 : s₂.code? g.method = U.code? g.method := by
        rw [State.code?_eq, State.code?_eq, hW'.alike.method?]
      exact Option.some.inj (hc₂.symm.trans (h1.trans h.code))
    subst hcc
    have hlen : len₂ = len := by rw [hdg] at hd₂; cases hd₂; rfl
    subst hlen
    have hs₂ : s₂ = (({ U with heap := s₂.heap, slotsUsed := s₂.slotsUsed } : State).setVm s₂.vm).setTop { g with pc := g.pc + len₂, stack := v.toList ++ g.stack } := by
      refine e3.trans ?_
      rw [hf₂, State.calling_eq h.top, State.setFrames_setFrames, State.setTop_of_frames _ hr', hr]
      rfl
    have hsame : U.sameButNew ({ U with heap := s₂.heap, slotsUsed := s₂.slotsUsed } : State) L mc ms := by
      refine ⟨?_, q2, q3, q4, q5, q6⟩
      obtain ⟨t, ht, -⟩ := State.frames_cons hr
      show ({ U with heap := s₂.heap, slotsUsed := s₂.slotsUsed } : State) = { U.setFrames U.frames with heap := s₂.heap, slotsUsed := s₂.slotsUsed }
      rw [State.setFrames_self ht]
    subst hg
    refine Or.inl ⟨v, ⟨(({ U with heap := s₂.heap, slotsUsed := s₂.slotsUsed } : State).setVm s₂.vm), Ls ++ L, c0 + mc, s0 + ms⟩,
      ⟨X.admits, X.cas, X.clock, X.frames, X.room, X.hears, X.method, X.code, (X.here.setHeapUsed s₂.heap s₂.slotsUsed).setVm hW'.alike, X.tail, State.WarmedH.trans X.warmed hW', X.limits, X.bytes, X.same.trans (hsame.setVm s.vm)⟩,
      ⟨g, mk, s₂, L, rfl, rfl, hqc, rfl, hL, rfl, rfl⟩, ?_⟩
    show Steps p.tables e below _ ((({ U with heap := s₂.heap, slotsUsed := s₂.slotsUsed } : State).setVm s₂.vm).setTop { g with pc := g.pc + len₂, stack := v.toList ++ g.stack })
    rw [← hs₂]
    exact hsteps
  · obtain ⟨e2, q2, q3, q4, q5, q6⟩ := id hsm
    have e3 : s₂ = ({ (U.calling g mk a).setFrames s₂.frames with heap := s₂.heap, slotsUsed := s₂.slotsUsed } : State).setVm s₂.vm := by
      have : s₂ = ({ s₂ with vm := (U.calling g mk a).vm } : State).setVm s₂.vm := rfl
      rw [e2] at this
      exact this
    have hf₂ : s₂.frames = .throwing q :: .java g :: U.frames.tail := hend
    have hW' : U.WarmedH s₂.vm := hW₂
    have hs₂ : s₂ = ((({ U with heap := s₂.heap, slotsUsed := s₂.slotsUsed } : State).setVm s₂.vm).setTop g).pushFrame (.throwing q) := by
      refine e3.trans ?_
      rw [hf₂, State.calling_eq h.top, State.setFrames_setFrames, State.pushFrame, State.frames_setTop _ hr', State.setTop_of_frames _ hr', State.setFrames_setFrames, hr]
      rfl
    have hsame : U.sameButNew ({ U with heap := s₂.heap, slotsUsed := s₂.slotsUsed } : State) L mc ms := by
      refine ⟨?_, q2, q3, q4, q5, q6⟩
      obtain ⟨t, ht, -⟩ := State.frames_cons hr
      show ({ U with heap := s₂.heap, slotsUsed := s₂.slotsUsed } : State) = { U.setFrames U.frames with heap := s₂.heap, slotsUsed := s₂.slotsUsed }
      rw [State.setFrames_self ht]
    subst hg
    refine Or.inr ⟨q, ⟨(({ U with heap := s₂.heap, slotsUsed := s₂.slotsUsed } : State).setVm s₂.vm), Ls ++ L, c0 + mc, s0 + ms⟩,
      ⟨X.admits, X.cas, X.clock, X.frames, X.room, X.hears, X.method, X.code, (X.here.setHeapUsed s₂.heap s₂.slotsUsed).setVm hW'.alike, X.tail, State.WarmedH.trans X.warmed hW', X.limits, X.bytes, X.same.trans (hsame.setVm s.vm)⟩,
      ⟨g, mk, s₂, L, E, ce, rfl, rfl, hx, hce, hcv, hcl, rfl, hL, rfl, rfl⟩, ?_⟩
    show Steps p.tables e below _ (((({ U with heap := s₂.heap, slotsUsed := s₂.slotsUsed } : State).setVm s₂.vm).setTop g).pushFrame (.throwing q))
    rw [← hs₂]
    exact hsteps
end Payer
section Calls
variable {p : Program} {l : Launch} {e : Env} {R : Room} {s : State} {m : MethodId} {args : Array Value} {below : List Frame} {meth : Method} {c : Code} {T : State} {locs : List Loc} {cells slots : Nat}
theorem vx_callV (X : Stand p l e R s m args below meth c T locs cells slots) (hexec : p.tables.exec = Jvm.exec) {own C : String} {index : Nat} {y : MethodName} {bytes : ByteArray} {maxL : Nat} {ret : Option FieldType}
    (hown : s.vm.findClass own = some m.cls) (hlink : (Cond.methodLink own index y).before args s = true) (hinst : (Cond.instanceMethod y).before args s = true) (hsel : (Cond.selects C y y).before args s = true)
    (hcode : (Cond.code y bytes maxL ret).before args s = true) (hy : y.cls ≠ "java/lang/invoke/MethodHandle" ∧ y.cls ≠ "java/lang/invoke/VarHandle")
    {W9 : Nat} {Pre : Pt → Array Value → Prop} {Post : Pt → Array Value → Option Value → Pt → Prop} {PostX : Pt → Array Value → Addr → Pt → Prop} (hK : vx_Back l R p e below s args y 3 W9 Pre Post PostX)
    {b : Addr} {cellB : Cell} (hcell : T.heap[b]? = some cellB) (hobj : cellB.vm.isStatics = false) (hcls : s.vm.findClass C = some cellB.cls)
    {g : JFrame} (hg : g.method = m) (hsize : g.locals.size = c.maxLocals) {argsL rest : List Value} (hlen : ∀ sig, parseMethodDescriptor y.desc = some sig → argsL.length = sig.parameters.length)
    (hstack : g.stack = argsL.reverse ++ .ref b :: rest) (hW : 2 * g.monitorRoom + (rest.map fun v => v.category).sum ≤ W9) (hdg : decode c.code g.pc = .ok (.invokevirtual index, 3))
    (hpre : ∀ vm₁, s.WarmedH vm₁ → Pre ⟨T.setVm vm₁, locs, cells, slots⟩ (Value.ref b :: argsL).toArray) :
    (∃ (v : Option Value) (vm₁ : Vm) (B : Pt), s.WarmedH vm₁ ∧ Stand p l e R s m args below meth c B.U B.locs B.cells B.slots ∧ Post ⟨T.setVm vm₁, locs, cells, slots⟩ (Value.ref b :: argsL).toArray v B ∧
      ∀ target, Steps p.tables e below (B.U.setTop { g with pc := g.pc + 3, stack := v.toList ++ rest }) target → Steps p.tables e below (T.setTop g) target) ∨
    (∃ (q : Addr) (vm₁ : Vm) (B : Pt), s.WarmedH vm₁ ∧ Stand p l e R s m args below meth c B.U B.locs B.cells B.slots ∧ PostX ⟨T.setVm vm₁, locs, cells, slots⟩ (Value.ref b :: argsL).toArray q B ∧
      Steps p.tables e below (T.setTop g) ((B.U.setTop { g with stack := rest }).pushFrame (.throwing q))) := by
  obtain ⟨mk, methM, hnamed, hmethM, hstM, habM⟩ := Cond.instanceMethod_spec hinst
  obtain ⟨methM', cM, hmethM', -, -, -, -, -, -, hsigM⟩ := Cond.code_spec hnamed hcode
  cases hmethM.symm.trans hmethM'
  obtain ⟨c2, r2, m2, q1, q2, q3, q4, kP, hkP, hkPi⟩ := Cond.selects_spec hsel
  cases hcls.symm.trans q1
  cases (State.methodFound?_of_named hnamed hy).symm.trans q2
  cases hnamed.symm.trans q3
  have hselP : selectMethod e.platform s.vm cellB.cls mk = .method mk := by rw [Launch.admits_selectMethod X.admits]; exact q4
  obtain ⟨vm₁, X₁, hstep₁⟩ := X.invokevirtual hexec hown hlink hnamed hmethM hstM hkP hkPi hy (a := b) (cell := cellB) hcell
    (fun z h => by rw [h] at hobj; cases hobj) hselP hmethM habM hkP hkPi (g := g) hg (argsL := argsL) (rest := rest) (hlen _ hsigM) hstack hdg
  rcases hK m meth c ⟨T.setVm vm₁, locs, cells, slots⟩ { g with stack := rest } (.invokevirtual index) mk (Value.ref b :: argsL).toArray X₁ hg hsize hdg hW (X₁.named hnamed) (hpre vm₁ X₁.warmed) with ⟨v, B, X', hpost, hsteps⟩ | ⟨q, B, X', hpost, hsteps⟩
  · exact Or.inl ⟨v, vm₁, B, X₁.warmed, X', hpost, fun target h => hstep₁ _ fun acts => by rw [doInvoke_state]; exact hsteps.trans h⟩
  · exact Or.inr ⟨q, vm₁, B, X₁.warmed, X', hpost, hstep₁ _ fun acts => by rw [doInvoke_state]; exact hsteps⟩
theorem vx_callS (X : Stand p l e R s m args below meth c T locs cells slots) (hexec : p.tables.exec = Jvm.exec) {own : String} {index : Nat} {y : MethodName} {bytes : ByteArray} {maxL : Nat} {ret : Option FieldType}
    (hown : s.vm.findClass own = some m.cls) (hlink : (Cond.methodLink own index y).before args s = true) (hstat : (Cond.static y).before args s = true) (hinit : (Cond.initialized y.cls).before args s = true)
    (hcode : (Cond.code y bytes maxL ret).before args s = true) (hy : y.cls ≠ "java/lang/invoke/MethodHandle" ∧ y.cls ≠ "java/lang/invoke/VarHandle")
    {W9 : Nat} {Pre : Pt → Array Value → Prop} {Post : Pt → Array Value → Option Value → Pt → Prop} {PostX : Pt → Array Value → Addr → Pt → Prop} (hK : vx_Back l R p e below s args y 3 W9 Pre Post PostX)
    {g : JFrame} (hg : g.method = m) (hsize : g.locals.size = c.maxLocals) {argsL rest : List Value} (hlen : ∀ sig, parseMethodDescriptor y.desc = some sig → argsL.length = sig.parameters.length)
    (hstack : g.stack = argsL.reverse ++ rest) (hW : 2 * g.monitorRoom + (rest.map fun v => v.category).sum ≤ W9) (hdg : decode c.code g.pc = .ok (.invokestatic index, 3))
    (hpre : ∀ vm₁, s.WarmedH vm₁ → Pre ⟨T.setVm vm₁, locs, cells, slots⟩ argsL.toArray) :
    (∃ (v : Option Value) (vm₁ : Vm) (B : Pt), s.WarmedH vm₁ ∧ Stand p l e R s m args below meth c B.U B.locs B.cells B.slots ∧ Post ⟨T.setVm vm₁, locs, cells, slots⟩ argsL.toArray v B ∧
      ∀ target, Steps p.tables e below (B.U.setTop { g with pc := g.pc + 3, stack := v.toList ++ rest }) target → Steps p.tables e below (T.setTop g) target) ∨
    (∃ (q : Addr) (vm₁ : Vm) (B : Pt), s.WarmedH vm₁ ∧ Stand p l e R s m args below meth c B.U B.locs B.cells B.slots ∧ PostX ⟨T.setVm vm₁, locs, cells, slots⟩ argsL.toArray q B ∧
      Steps p.tables e below (T.setTop g) ((B.U.setTop { g with stack := rest }).pushFrame (.throwing q))) := by
  obtain ⟨mk, hnamed⟩ := Cond.code_named hcode
  obtain ⟨methM, cM, hmethM, -, -, -, -, -, -, hsigM⟩ := Cond.code_spec hnamed hcode
  have hstatic : methM.isStatic = true := Cond.static_spec hnamed hmethM hstat
  obtain ⟨kP, hkP, -⟩ := className_of_methodNamed hnamed
  have hinitP : kP.init = .initialized := Cond.initialized_spec (findClass_of_methodNamed hnamed) hkP hinit
  obtain ⟨vm₁, X₁, hstep₁⟩ := X.invokestatic hexec hown hlink hnamed hmethM hstatic hkP hinitP hy (g := g) hg (argsL := argsL) (rest := rest) (hlen _ hsigM) hstack hdg
  rcases hK m meth c ⟨T.setVm vm₁, locs, cells, slots⟩ { g with stack := rest } (.invokestatic index) mk argsL.toArray X₁ hg hsize hdg hW (X₁.named hnamed) (hpre vm₁ X₁.warmed) with ⟨v, B, X', hpost, hsteps⟩ | ⟨q, B, X', hpost, hsteps⟩
  · exact Or.inl ⟨v, vm₁, B, X₁.warmed, X', hpost, fun target h => hstep₁ _ fun acts => by rw [doInvoke_state]; exact hsteps.trans h⟩
  · exact Or.inr ⟨q, vm₁, B, X₁.warmed, X', hpost, hstep₁ _ fun acts => by rw [doInvoke_state]; exact hsteps⟩
end Calls
theorem vx_cls {s : State} {T : State} {vm₁ : Vm} {E : String} {k : ClassId} (hW : s.WarmedH vm₁) (h : (T.setVm vm₁).vm.findClass E = some k) : s.vm.findClass E = some k := by
  have h1 : vm₁.findClass E = some k := h
  rw [hW.alike.findClass] at h1
  exact h1
/-- the method's frame g, with q thrown over it -/
def vx_W (p : Program) (l : Launch) (e : Env) (R : Room) (s : State) (m : MethodId) (args : Array Value) (below : List Frame) (meth : Method) (c : Code) (H : Heap) (locs : List Loc) (cells slots : Nat) (Q : State → Prop) (g : JFrame) (q : Addr) : Prop :=
  ∀ T : State, T.heap = H → Stand p l e R s m args below meth c T locs cells slots → ∃ t, Steps p.tables e below ((T.setTop g).pushFrame (.throwing q)) t ∧ Q t
def vx_Run (p : Program) (l : Launch) (e : Env) (R : Room) (s : State) (m : MethodId) (args : Array Value) (below : List Frame) (meth : Method) (c : Code) (H : Heap) (locs : List Loc) (cells slots mc ms : Nat) (g : JFrame) (rest : List Value) (Qa : State → Outcome → State → Prop) (XC : String → State → State → Prop) (free : Addr → Prop) : Prop :=
  ∀ T : State, T.heap = H → Stand p l e R s m args below meth c T locs cells slots →
    (∃ (v : Option Value) (st₀ t T' : State) (L : List Loc), st₀.heap = H ∧ Stand p l e R s m args below meth c T' (locs ++ L) (cells + mc) (slots + ms) ∧ (∀ q ∈ L, free q.base) ∧ T'.heap = t.heap ∧ T'.vm = t.vm ∧ Qa st₀ (.returned v) t ∧
      Goes p e below T g T' { g with pc := g.pc + 3, stack := v.toList ++ rest }) ∨
    (∃ (q : Addr) (st₀ t T' : State) (L : List Loc) (E : String) (ce : Cell), st₀.heap = H ∧ Stand p l e R s m args below meth c T' (locs ++ L) (cells + mc) (slots + ms) ∧ (∀ z ∈ L, free z.base) ∧ T'.heap = t.heap ∧ T'.vm = t.vm ∧ XC E st₀ t ∧ t.heap[q]? = some ce ∧ ce.vm = .none ∧ s.vm.findClass E = some ce.cls ∧
      Steps p.tables e below (T.setTop g) ((T'.setTop { g with stack := rest }).pushFrame (.throwing q)))
def vx_X {S : Type} (px : S → Prop) (B : String → S → State → Prop) (A : Nat → Prop) : String → State → State → Prop := fun E st t => ∃ u : S, px u ∧ B E u t ∧ va_F A st t
section Runs
variable {p : Program} {l : Launch} {e : Env} {R : Room} {s : State} {m : MethodId} {args : Array Value} {below : List Frame} {meth : Method} {c : Code} {H : Heap} {locs : List Loc} {cells slots : Nat}
variable {y : MethodName} {bytes cc : ByteArray} {maxL nL mc ms n index : Nat} {ret : Option FieldType} {ws : List Cond} {rm : Room} {Pc : Array Value → State → Prop} {Qc : Array Value → State → Outcome → State → Prop} {XC : String → State → State → Prop} {free : Addr → Prop} {Ts : List Cond} {own C : String} {b : Addr} {As rest : List Value} {g : JFrame}
theorem vx_callBack (cb : CallB R s args own index y bytes maxL ret ws rm mc ms n) (hM : vx_Met l y ws rm Pc Qc XC mc ms free) (hbl : FrameBlind Pc) : vx_Back l R p e below s args y 3 8 (PreOf R mc ms Pc) (PostOf Qc mc ms free) (vx_Post XC mc ms free) := by
  obtain ⟨hrc, hrs, hfr, hlo, hws, hcw, -, hini, -⟩ := cb
  exact vx_back (bytes := bytes) (maxL := maxL) (ret := ret) hM hbl hrc hrs hfr hlo hws hcw (fun a' U hW => word_at hW (Or.inl (by first | rfl | simp [Cond.onTables, Cond.keeps, Cond.steady])) hini)
theorem vx_runV (S : CallFix p m c cc nL s args Ts own) (hM : vx_Met l y ws rm Pc Qc XC mc ms free) (cw : CallW R s args own C index y bytes maxL ret ws rm mc ms n) (hp : PreV s H C b Pc As)
    (hg : g.method = m) (hn : As.length = n) (hsize : g.locals.size = nL) (hstack : g.stack = As.reverse ++ .ref b :: rest) (hW : 2 * g.monitorRoom + (rest.map fun v => v.category).sum ≤ 8) (hdg : decode cc g.pc = .ok (.invokevirtual index, 3)) (hf : cells + mc ≤ R.cells ∧ slots + ms ≤ R.slots) :
    vx_Run p l e R s m args below meth c H locs cells slots mc ms g rest (Qc (Value.ref b :: As).toArray) XC free := by
  have hK : vx_Back l R p e below s args y 3 8 (PreOf R mc ms Pc) (PostOf Qc mc ms free) (vx_Post XC mc ms free) := vx_callBack cw.1 hM hp.1
  obtain ⟨⟨-, -, -, -, -, -, hcode, -, hy, hlen, hl⟩, hin, hse⟩ := cw
  obtain ⟨hx, hb, hml, ho, -⟩ := S
  obtain ⟨-, ⟨cellB, hcB, hoB, hclB⟩, hPc⟩ := hp
  intro T hT X
  rcases vx_callV X hx (C := C) (bytes := bytes) (maxL := maxL) (ret := ret) ho hl hin hse hcode hy hK (by rw [hT]; exact hcB) hoB hclB hg (hsize.trans hml.symm) (argsL := As) (rest := rest) (fun sig h => hn.trans (hlen sig h)) hstack hW (by rw [hb]; exact hdg)
    (fun vm₁ hW₁ => ⟨hf.1, hf.2, hPc (T.setVm vm₁) hT hW₁⟩) with ⟨v, vm₁, ⟨U', l2, c2, s2⟩, hW₁, X', ⟨g', mk, t, L, e1, e2, hq, h1, hL, h2, h3⟩, st⟩ | ⟨q, vm₁, ⟨U', l2, c2, s2⟩, hW₁, X', ⟨g', mk, t, L, E, ce, e1, e2, hq, hce, hcv, hcl, h1, hL, h2, h3⟩, st⟩
  · dsimp only [Pt.U, Pt.locs, Pt.cells, Pt.slots] at X' e1 e2 h1 h2 h3 st
    subst h1; subst h2; subst h3
    exact Or.inl ⟨v, (T.setVm vm₁).calling g' mk (Value.ref b :: As).toArray, t, U', L, hT, X', hL, e1, e2, hq, st⟩
  · dsimp only [Pt.U, Pt.locs, Pt.cells, Pt.slots] at X' e1 e2 h1 h2 h3 st hcl
    subst h1; subst h2; subst h3
    exact Or.inr ⟨q, (T.setVm vm₁).calling g' mk (Value.ref b :: As).toArray, t, U', L, E, ce, hT, X', hL, e1, e2, hq, hce, hcv, vx_cls hW₁ hcl, st⟩
theorem vx_runS (S : CallFix p m c cc nL s args Ts own) (hM : vx_Met l y ws rm Pc Qc XC mc ms free) (cw : CallB R s args own index y bytes maxL ret ws rm mc ms n ∧ (Cond.static y).before args s = true) (hp : PreS s H Pc As)
    (hg : g.method = m) (hn : As.length = n) (hsize : g.locals.size = nL) (hstack : g.stack = As.reverse ++ rest) (hW : 2 * g.monitorRoom + (rest.map fun v => v.category).sum ≤ 8) (hdg : decode cc g.pc = .ok (.invokestatic index, 3)) (hf : cells + mc ≤ R.cells ∧ slots + ms ≤ R.slots) :
    vx_Run p l e R s m args below meth c H locs cells slots mc ms g rest (Qc As.toArray) XC free := by
  have hK : vx_Back l R p e below s args y 3 8 (PreOf R mc ms Pc) (PostOf Qc mc ms free) (vx_Post XC mc ms free) := vx_callBack cw.1 hM hp.1
  obtain ⟨⟨-, -, -, -, -, -, hcode, hini, hy, hlen, hl⟩, hstt⟩ := cw
  obtain ⟨hx, hb, hml, ho, -⟩ := S
  intro T hT X
  rcases vx_callS X hx (bytes := bytes) (maxL := maxL) (ret := ret) ho hl hstt hini hcode hy hK hg (hsize.trans hml.symm) (argsL := As) (rest := rest) (fun sig h => hn.trans (hlen sig h)) hstack hW (by rw [hb]; exact hdg)
    (fun vm₁ hW₁ => ⟨hf.1, hf.2, hp.2 (T.setVm vm₁) hT hW₁⟩) with ⟨v, vm₁, ⟨U', l2, c2, s2⟩, hW₁, X', ⟨g', mk, t, L, e1, e2, hq, h1, hL, h2, h3⟩, st⟩ | ⟨q, vm₁, ⟨U', l2, c2, s2⟩, hW₁, X', ⟨g', mk, t, L, E, ce, e1, e2, hq, hce, hcv, hcl, h1, hL, h2, h3⟩, st⟩
  · dsimp only [Pt.U, Pt.locs, Pt.cells, Pt.slots] at X' e1 e2 h1 h2 h3 st
    subst h1; subst h2; subst h3
    exact Or.inl ⟨v, (T.setVm vm₁).calling g' mk As.toArray, t, U', L, hT, X', hL, e1, e2, hq, st⟩
  · dsimp only [Pt.U, Pt.locs, Pt.cells, Pt.slots] at X' e1 e2 h1 h2 h3 st hcl
    subst h1; subst h2; subst h3
    exact Or.inr ⟨q, (T.setVm vm₁).calling g' mk As.toArray, t, U', L, E, ce, hT, X', hL, e1, e2, hq, hce, hcv, vx_cls hW₁ hcl, st⟩
end Runs
section Rows
variable {p : Program} {l : Launch} {e : Env} {R : Room} {s : State} {m : MethodId} {args : Array Value} {below : List Frame} {meth : Method} {c : Code} {H : Heap} {locs : List Loc} {cells slots : Nat} {Q : State → Prop}
variable {mc ms : Nat} {free : Addr → Prop} {A0 A1 : Nat → Prop} {H0 : Heap} {a : Array Value} {pc : Nat} {ls : Array Slot} {st0 rest : List Value}
theorem vx_keep {st₀ t T' : State} {L : List Loc} (h0 : st₀.heap = H) (e1 : T'.heap = t.heap) (hS : va_S A0 H0 H locs) (hA : ∀ q, q < H.size → A1 q → A0 q) (hf : ∀ q, free q → A0 q) (hL : ∀ q ∈ L, free q.base) (hF : va_F A1 st₀ t) :
    H.size ≤ T'.heap.size ∧ (∀ q : Nat, q < H.size → ¬ A1 q → T'.heap[q]? = H[q]?) ∧ va_S A0 H0 T'.heap (locs ++ L) := by
  obtain ⟨hz, hk⟩ := hF
  rw [h0] at hz hk
  exact ⟨by rw [e1]; exact hz, fun q h1 h2 => by rw [e1]; exact hk q h1 h2,
    ⟨Nat.le_trans hS.1 (by rw [e1]; exact hz), fun q h1 h2 => by rw [e1, hk q (Nat.lt_of_lt_of_le h1 hS.1) (fun z => h2 (hA q (Nat.lt_of_lt_of_le h1 hS.1) z))]; exact hS.2.1 q h1 h2, fun q hq => by
      rcases List.mem_append.mp hq with h | h
      · exact hS.2.2 q h
      · exact hf _ (hL q h)⟩⟩
theorem vx_calli {S SX : Type} {post : Int32 → S → Prop} {px : SX → Prop} {B : S → State → Prop} {BX : String → SX → State → Prop} {AX : Nat → Prop} (hr : vx_Run p l e R s m args below meth c H locs cells slots mc ms (F0 m pc ls st0) rest (va_Qi post B A1 a) (vx_X px BX AX) free) (hS : va_S A0 H0 H locs) (hA : ∀ q, q < H.size → A1 q → A0 q) (hf : ∀ q, free q → A0 q) (hAX : ∀ q, q < H.size → AX q → A0 q)
    (kx : ∀ (E : String) (ce : Cell) (q9 : Addr) (u : SX) (t : State) (H1 : Heap) (locs1 : List Loc), t.heap = H1 → s.vm.Alike t.vm → px u → BX E u t → H.size ≤ H1.size → (∀ q : Nat, q < H.size → ¬ AX q → H1[q]? = H[q]?) → va_S A0 H0 H1 locs1 → H1[q9]? = some ce → ce.vm = .none → s.vm.findClass E = some ce.cls → vx_W p l e R s m args below meth c H1 locs1 (cells + mc) (slots + ms) Q (F0 m pc ls rest) q9)
    (kk : ∀ (r : Int32) (u : S) (t : State) (H1 : Heap) (locs1 : List Loc), t.heap = H1 → s.vm.Alike t.vm → post r u → B u t → H.size ≤ H1.size → (∀ q : Nat, q < H.size → ¬ A1 q → H1[q]? = H[q]?) → va_S A0 H0 H1 locs1 → W p l e R s m args below meth c H1 locs1 (cells + mc) (slots + ms) Q (F0 m (pc + 3) ls (.int r :: rest))) : W p l e R s m args below meth c H locs cells slots Q (F0 m pc ls st0) := by
  intro T hT X
  rcases hr T hT X with ⟨v, st₀, t, T', L, h0, X', hL, e1, e2, ⟨⟨r, u, hv, hp, hb⟩, hF⟩, st⟩ | ⟨q, st₀, t, T', L, E, ce, h0, X', hL, e1, e2, ⟨u, hp, hb, hF⟩, hce, hcv, hcl, st⟩
  · cases hv
    obtain ⟨k1, k2, k3⟩ := vx_keep h0 e1 hS hA hf hL hF
    obtain ⟨t2, a1, b1⟩ := kk r u t T'.heap (locs ++ L) e1.symm (by rw [← e2]; exact X'.warmed.alike) hp hb k1 k2 k3 T' rfl X'
    exact ⟨t2, st t2 a1, b1⟩
  · obtain ⟨k1, k2, k3⟩ := vx_keep h0 e1 hS hAX hf hL hF
    obtain ⟨t2, a1, b1⟩ := kx E ce q u t T'.heap (locs ++ L) e1.symm (by rw [← e2]; exact X'.warmed.alike) hp hb k1 k2 k3 (by rw [e1]; exact hce) hcv hcl T' rfl X'
    exact ⟨t2, st.trans a1, b1⟩
theorem vx_calll {S SX : Type} {post : Int64 → S → Prop} {px : SX → Prop} {B : S → State → Prop} {BX : String → SX → State → Prop} {AX : Nat → Prop} (hr : vx_Run p l e R s m args below meth c H locs cells slots mc ms (F0 m pc ls st0) rest (va_Ql post B A1 a) (vx_X px BX AX) free) (hS : va_S A0 H0 H locs) (hA : ∀ q, q < H.size → A1 q → A0 q) (hf : ∀ q, free q → A0 q) (hAX : ∀ q, q < H.size → AX q → A0 q)
    (kx : ∀ (E : String) (ce : Cell) (q9 : Addr) (u : SX) (t : State) (H1 : Heap) (locs1 : List Loc), t.heap = H1 → s.vm.Alike t.vm → px u → BX E u t → H.size ≤ H1.size → (∀ q : Nat, q < H.size → ¬ AX q → H1[q]? = H[q]?) → va_S A0 H0 H1 locs1 → H1[q9]? = some ce → ce.vm = .none → s.vm.findClass E = some ce.cls → vx_W p l e R s m args below meth c H1 locs1 (cells + mc) (slots + ms) Q (F0 m pc ls rest) q9)
    (kk : ∀ (r : Int64) (u : S) (t : State) (H1 : Heap) (locs1 : List Loc), t.heap = H1 → s.vm.Alike t.vm → post r u → B u t → H.size ≤ H1.size → (∀ q : Nat, q < H.size → ¬ A1 q → H1[q]? = H[q]?) → va_S A0 H0 H1 locs1 → W p l e R s m args below meth c H1 locs1 (cells + mc) (slots + ms) Q (F0 m (pc + 3) ls (.long r :: rest))) : W p l e R s m args below meth c H locs cells slots Q (F0 m pc ls st0) := by
  intro T hT X
  rcases hr T hT X with ⟨v, st₀, t, T', L, h0, X', hL, e1, e2, ⟨⟨r, u, hv, hp, hb⟩, hF⟩, st⟩ | ⟨q, st₀, t, T', L, E, ce, h0, X', hL, e1, e2, ⟨u, hp, hb, hF⟩, hce, hcv, hcl, st⟩
  · cases hv
    obtain ⟨k1, k2, k3⟩ := vx_keep h0 e1 hS hA hf hL hF
    obtain ⟨t2, a1, b1⟩ := kk r u t T'.heap (locs ++ L) e1.symm (by rw [← e2]; exact X'.warmed.alike) hp hb k1 k2 k3 T' rfl X'
    exact ⟨t2, st t2 a1, b1⟩
  · obtain ⟨k1, k2, k3⟩ := vx_keep h0 e1 hS hAX hf hL hF
    obtain ⟨t2, a1, b1⟩ := kx E ce q u t T'.heap (locs ++ L) e1.symm (by rw [← e2]; exact X'.warmed.alike) hp hb k1 k2 k3 (by rw [e1]; exact hce) hcv hcl T' rfl X'
    exact ⟨t2, st.trans a1, b1⟩
theorem vx_callf {S SX : Type} {post : UInt32 → S → Prop} {px : SX → Prop} {B : S → State → Prop} {BX : String → SX → State → Prop} {AX : Nat → Prop} (hr : vx_Run p l e R s m args below meth c H locs cells slots mc ms (F0 m pc ls st0) rest (va_Qf post B A1 a) (vx_X px BX AX) free) (hS : va_S A0 H0 H locs) (hA : ∀ q, q < H.size → A1 q → A0 q) (hf : ∀ q, free q → A0 q) (hAX : ∀ q, q < H.size → AX q → A0 q)
    (kx : ∀ (E : String) (ce : Cell) (q9 : Addr) (u : SX) (t : State) (H1 : Heap) (locs1 : List Loc), t.heap = H1 → s.vm.Alike t.vm → px u → BX E u t → H.size ≤ H1.size → (∀ q : Nat, q < H.size → ¬ AX q → H1[q]? = H[q]?) → va_S A0 H0 H1 locs1 → H1[q9]? = some ce → ce.vm = .none → s.vm.findClass E = some ce.cls → vx_W p l e R s m args below meth c H1 locs1 (cells + mc) (slots + ms) Q (F0 m pc ls rest) q9)
    (kk : ∀ (r : UInt32) (u : S) (t : State) (H1 : Heap) (locs1 : List Loc), t.heap = H1 → s.vm.Alike t.vm → post r u → B u t → H.size ≤ H1.size → (∀ q : Nat, q < H.size → ¬ A1 q → H1[q]? = H[q]?) → va_S A0 H0 H1 locs1 → W p l e R s m args below meth c H1 locs1 (cells + mc) (slots + ms) Q (F0 m (pc + 3) ls (.float r :: rest))) : W p l e R s m args below meth c H locs cells slots Q (F0 m pc ls st0) := by
  intro T hT X
  rcases hr T hT X with ⟨v, st₀, t, T', L, h0, X', hL, e1, e2, ⟨⟨r, u, hv, hp, hb⟩, hF⟩, st⟩ | ⟨q, st₀, t, T', L, E, ce, h0, X', hL, e1, e2, ⟨u, hp, hb, hF⟩, hce, hcv, hcl, st⟩
  · cases hv
    obtain ⟨k1, k2, k3⟩ := vx_keep h0 e1 hS hA hf hL hF
    obtain ⟨t2, a1, b1⟩ := kk r u t T'.heap (locs ++ L) e1.symm (by rw [← e2]; exact X'.warmed.alike) hp hb k1 k2 k3 T' rfl X'
    exact ⟨t2, st t2 a1, b1⟩
  · obtain ⟨k1, k2, k3⟩ := vx_keep h0 e1 hS hAX hf hL hF
    obtain ⟨t2, a1, b1⟩ := kx E ce q u t T'.heap (locs ++ L) e1.symm (by rw [← e2]; exact X'.warmed.alike) hp hb k1 k2 k3 (by rw [e1]; exact hce) hcv hcl T' rfl X'
    exact ⟨t2, st.trans a1, b1⟩
theorem vx_calld {S SX : Type} {post : UInt64 → S → Prop} {px : SX → Prop} {B : S → State → Prop} {BX : String → SX → State → Prop} {AX : Nat → Prop} (hr : vx_Run p l e R s m args below meth c H locs cells slots mc ms (F0 m pc ls st0) rest (va_Qd post B A1 a) (vx_X px BX AX) free) (hS : va_S A0 H0 H locs) (hA : ∀ q, q < H.size → A1 q → A0 q) (hf : ∀ q, free q → A0 q) (hAX : ∀ q, q < H.size → AX q → A0 q)
    (kx : ∀ (E : String) (ce : Cell) (q9 : Addr) (u : SX) (t : State) (H1 : Heap) (locs1 : List Loc), t.heap = H1 → s.vm.Alike t.vm → px u → BX E u t → H.size ≤ H1.size → (∀ q : Nat, q < H.size → ¬ AX q → H1[q]? = H[q]?) → va_S A0 H0 H1 locs1 → H1[q9]? = some ce → ce.vm = .none → s.vm.findClass E = some ce.cls → vx_W p l e R s m args below meth c H1 locs1 (cells + mc) (slots + ms) Q (F0 m pc ls rest) q9)
    (kk : ∀ (r : UInt64) (u : S) (t : State) (H1 : Heap) (locs1 : List Loc), t.heap = H1 → s.vm.Alike t.vm → post r u → B u t → H.size ≤ H1.size → (∀ q : Nat, q < H.size → ¬ A1 q → H1[q]? = H[q]?) → va_S A0 H0 H1 locs1 → W p l e R s m args below meth c H1 locs1 (cells + mc) (slots + ms) Q (F0 m (pc + 3) ls (.double r :: rest))) : W p l e R s m args below meth c H locs cells slots Q (F0 m pc ls st0) := by
  intro T hT X
  rcases hr T hT X with ⟨v, st₀, t, T', L, h0, X', hL, e1, e2, ⟨⟨r, u, hv, hp, hb⟩, hF⟩, st⟩ | ⟨q, st₀, t, T', L, E, ce, h0, X', hL, e1, e2, ⟨u, hp, hb, hF⟩, hce, hcv, hcl, st⟩
  · cases hv
    obtain ⟨k1, k2, k3⟩ := vx_keep h0 e1 hS hA hf hL hF
    obtain ⟨t2, a1, b1⟩ := kk r u t T'.heap (locs ++ L) e1.symm (by rw [← e2]; exact X'.warmed.alike) hp hb k1 k2 k3 T' rfl X'
    exact ⟨t2, st t2 a1, b1⟩
  · obtain ⟨k1, k2, k3⟩ := vx_keep h0 e1 hS hAX hf hL hF
    obtain ⟨t2, a1, b1⟩ := kx E ce q u t T'.heap (locs ++ L) e1.symm (by rw [← e2]; exact X'.warmed.alike) hp hb k1 k2 k3 (by rw [e1]; exact hce) hcv hcl T' rfl X'
    exact ⟨t2, st.trans a1, b1⟩
theorem vx_callv {S SX : Type} {post : S → Prop} {px : SX → Prop} {B : S → State → Prop} {BX : String → SX → State → Prop} {AX : Nat → Prop} (hr : vx_Run p l e R s m args below meth c H locs cells slots mc ms (F0 m pc ls st0) rest (va_Qv post B A1 a) (vx_X px BX AX) free) (hS : va_S A0 H0 H locs) (hA : ∀ q, q < H.size → A1 q → A0 q) (hf : ∀ q, free q → A0 q) (hAX : ∀ q, q < H.size → AX q → A0 q)
    (kx : ∀ (E : String) (ce : Cell) (q9 : Addr) (u : SX) (t : State) (H1 : Heap) (locs1 : List Loc), t.heap = H1 → s.vm.Alike t.vm → px u → BX E u t → H.size ≤ H1.size → (∀ q : Nat, q < H.size → ¬ AX q → H1[q]? = H[q]?) → va_S A0 H0 H1 locs1 → H1[q9]? = some ce → ce.vm = .none → s.vm.findClass E = some ce.cls → vx_W p l e R s m args below meth c H1 locs1 (cells + mc) (slots + ms) Q (F0 m pc ls rest) q9)
    (kk : ∀ (u : S) (t : State) (H1 : Heap) (locs1 : List Loc), t.heap = H1 → s.vm.Alike t.vm → post u → B u t → H.size ≤ H1.size → (∀ q : Nat, q < H.size → ¬ A1 q → H1[q]? = H[q]?) → va_S A0 H0 H1 locs1 → W p l e R s m args below meth c H1 locs1 (cells + mc) (slots + ms) Q (F0 m (pc + 3) ls (rest))) : W p l e R s m args below meth c H locs cells slots Q (F0 m pc ls st0) := by
  intro T hT X
  rcases hr T hT X with ⟨v, st₀, t, T', L, h0, X', hL, e1, e2, ⟨⟨u, hv, hp, hb⟩, hF⟩, st⟩ | ⟨q, st₀, t, T', L, E, ce, h0, X', hL, e1, e2, ⟨u, hp, hb, hF⟩, hce, hcv, hcl, st⟩
  · cases hv
    obtain ⟨k1, k2, k3⟩ := vx_keep h0 e1 hS hA hf hL hF
    obtain ⟨t2, a1, b1⟩ := kk u t T'.heap (locs ++ L) e1.symm (by rw [← e2]; exact X'.warmed.alike) hp hb k1 k2 k3 T' rfl X'
    exact ⟨t2, st t2 a1, b1⟩
  · obtain ⟨k1, k2, k3⟩ := vx_keep h0 e1 hS hAX hf hL hF
    obtain ⟨t2, a1, b1⟩ := kx E ce q u t T'.heap (locs ++ L) e1.symm (by rw [← e2]; exact X'.warmed.alike) hp hb k1 k2 k3 (by rw [e1]; exact hce) hcv hcl T' rfl X'
    exact ⟨t2, st.trans a1, b1⟩
/-- caught by the row x of this method's table; the rows ahead don't take it -/
theorem vx_catch {own name : String} {E : String} {ce : Cell} {q : Addr} (hown : s.vm.findClass own = some m.cls) (pre : List ExceptionTableEntry) (x : ExceptionTableEntry) (suf : List ExceptionTableEntry) (hsplit : c.exceptionTable.toList = pre ++ x :: suf)
    (hpass : ∀ z ∈ pre, covers z pc = false ∨ (z.catchType ≠ 0 ∧ ∃ nm : String, (Cond.classLink own z.catchType nm).before args s = true ∧ va_Nc E nm s)) (hx : covers x pc = true) (h0 : x.catchType ≠ 0)
    (hlink : (Cond.classLink own x.catchType name).before args s = true) (hcast : (Cond.castable E name).before args s = true) (hcell : H[q]? = some ce) (hv : ce.vm = .none) (hcl : s.vm.findClass E = some ce.cls)
    (kk : W p l e R s m args below meth c H locs cells slots Q (F0 m x.handlerPc ls [.ref q])) : vx_W p l e R s m args below meth c H locs cells slots Q (F0 m pc ls rest) q := by
  intro T hT X
  have hpl : e.platform.magicAccessors = ({} : Platform).magicAccessors := by rw [X.admits.platform]
  obtain ⟨c3, c4, hc3, hc4, hasg⟩ := Cond.castable_spec hcast
  cases Option.some.inj (hc3.symm.trans hcl)
  obtain ⟨c5, hc5, hcl5⟩ := Cond.classLink_spec hown hlink e.platform hpl
  cases Option.some.inj (hc4.symm.trans hc5)
  obtain ⟨vm', X', st⟩ := X.thenCaughtThrough q (g := F0 m pc ls rest) rfl (Steps.refl _) (by rw [hT]; exact hcell) (by rw [hv]; rfl) (by obtain ⟨k9, h9, -⟩ := Vm.findClass_spec hcl; exact ⟨k9, h9⟩) pre x suf hsplit
    (fun z hz => by
      rcases hpass z hz with h | ⟨hz0, nm, hl1, hn1⟩
      · exact Or.inl h
      · obtain ⟨c6, hc6, hcl6⟩ := Cond.classLink_spec hown hl1 e.platform hpl
        obtain ⟨a8, b8, h1, h2, h3⟩ := hn1
        cases Option.some.inj (h1.symm.trans hcl)
        cases Option.some.inj (h2.symm.trans hc6)
        exact Or.inr ⟨hz0, _, hcl6, h3⟩) hx (Or.inr ⟨h0, c4, hcl5, hasg⟩)
  obtain ⟨t, a1, b1⟩ := kk (T.setVm vm') hT X'
  exact ⟨t, st.trans a1, b1⟩
end Rows
section Ends
variable {p : Program} {l : Launch} {e : Env} {R : Room} {s : State} {m : MethodId} {args : Array Value} {below : List Frame} {meth : Method} {c : Code} {H : Heap} {locs : List Loc} {cells slots : Nat} {Q : State → Prop}
variable {mc ms : Nat} {free : Addr → Prop} {A0 A1 : Nat → Prop} {H0 : Heap} {a : Array Value} {ls : Array Slot} {st0 rest : List Value}
variable {Qc : Array Value → State → Outcome → State → Prop} {XC : String → State → State → Prop}
/-- what a body that may throw owes at its end -/
def vx_MQ (below : List Frame) (Qc : Array Value → State → Outcome → State → Prop) (XC : String → State → State → Prop) (a : Array Value) (s : State) (mc ms : Nat) (free : Addr → Prop) : State → Prop := fun t =>
  ∃ o, t.status = .running ∧ Ended t below o ∧ vx_Q Qc XC mc ms free a s o t
theorem vx_ret {g : JFrame} {mc ms : Nat} (k : W p l e R s m args below meth c H locs cells slots (MQ below Qc args s mc ms free) g) : W p l e R s m args below meth c H locs cells slots (vx_MQ below Qc XC args s mc ms free) g := by
  intro T hT X
  obtain ⟨t, a1, o, b1, b2, b3, b4⟩ := k T hT X
  exact ⟨t, a1, o, b1, b2, Or.inl ⟨b3, b4⟩⟩
/-- not caught here: it goes on to the caller -/
theorem vx_widen {g : JFrame} {q : Addr} {k n : Nat} (h1 : cells ≤ k) (h2 : slots ≤ n) (kk : vx_W p l e R s m args below meth c H locs k n Q g q) : vx_W p l e R s m args below meth c H locs cells slots Q g q := fun T hT X => kk T hT (stand_widen X h1 h2)
theorem vx_out {pc : Nat} {E : String} {ce : Cell} {q : Addr} {mc ms : Nat} (hout : ∀ x ∈ c.exceptionTable.toList, covers x pc = false) (hlocks : meth.locks = false) (hcell : H[q]? = some ce) (hv : ce.vm = .none) (hcl : s.vm.findClass E = some ce.cls)
    (hx : ∀ t : State, t.heap = H → s.vm.Alike t.vm → XC E s t) (hf : ∀ z ∈ locs, free z.base) (hc : cells ≤ mc) (hs : slots ≤ ms) :
    vx_W p l e R s m args below meth c H locs cells slots (vx_MQ below Qc XC args s mc ms free) (F0 m pc ls rest) q := by
  intro T hT X
  obtain ⟨st1, hrun, hend, hW, hsm⟩ := X.leaveThrown q (g := F0 m pc ls rest) rfl rfl rfl hout hlocks
  have hcell9 : (T.setFrames (.throwing q :: below)).heap[q]? = some ce := by
    show T.heap[q]? = some ce
    rw [hT]; exact hcell
  exact ⟨_, st1, .threw q, hrun, hend, Or.inr ⟨q, rfl, E, ce, locs, hx _ hT hW.alike, hcell9, hv, hcl, hW, hsm.mono hc hs, hf⟩⟩
theorem vx_frame {U : State} {k n : Nat} (h : s.sameButNew ({ U with vm := s.vm } : State) locs k n) : s.heap.size ≤ U.heap.size ∧ ∀ q : Nat, q < s.heap.size → (∀ z ∈ locs, z.base ≠ q) → U.heap[q]? = s.heap[q]? := by
  obtain ⟨-, h2, -, -, -, h6⟩ := h
  refine ⟨h2, fun q hq hz => ?_⟩
  obtain ⟨c9, e1, e2, e3, e4⟩ := h6 q _ (Array.getElem?_eq_getElem hq)
  have hs : c9.slots = (s.heap[q]).slots := Array.ext_getElem? fun i => e4 i fun hm => hz _ hm rfl
  have h9 : c9 = s.heap[q] := by
    rw [hs] at e2
    exact e2
  have e5 : U.heap[q]? = some c9 := e1
  rw [e5, h9, Array.getElem?_eq_getElem hq]
/-- the words of a throw but the four that speak of the heap -/
def vx_no (w : Cond) : Bool := decide (w ≠ .isRef (.static Bundle.tN "UNASSIGNED_STACK" Bundle.steD)) && decide (w ≠ .isRef (.static Bundle.tN "SUPPRESSED_SENTINEL" Bundle.listD)) && decide (w ≠ .laysStatic Bundle.tN "UNASSIGNED_STACK" Bundle.steD) && decide (w ≠ .laysStatic Bundle.tN "SUPPRESSED_SENTINEL" Bundle.listD)
def vx_at0 (own : String) (ic : Nat) (X : String) (names : List String) : List Cond := (Bundle.ownAtoms0 own ic X names).filter vx_no
def vx_atS (own : String) (ic : Nat) (X : String) (names : List String) : List Cond := (Bundle.ownAtoms own ic X names).filter vx_no
/-- a word that the tables alone decide, or a good one -/
def vx_ot (w : Cond) : Bool := w.onTables || goodWord w
theorem vx_ot_at {args a' : Array Value} {s U : State} {w : Cond} (hW : s.WarmedH U.vm) (hvm : s.vm = U.vm) (hg : vx_ot w = true) (h : w.before args s = true) : w.before a' U = true := by
  simp only [vx_ot, Bool.or_eq_true] at hg
  rcases hg with hg | hg
  · exact va_tabs hg hvm h
  · exact word_at hW (good_of_word hg) h
/-- a list's words: the good ones out of the method's own list, the others by premises of their own -/
theorem vx_hat {args : Array Value} {s : State} {L B : List Cond} (h1 : ∀ w ∈ L.filter goodWord, w.before args s = true) (h2 : ∀ w ∈ L.filter (fun w => !goodWord w), w ∈ B) (h3 : ∀ w ∈ B, w.before args s = true) : ∀ w ∈ L, w.before args s = true := by
  intro w hw
  by_cases g : goodWord w = true
  · exact h1 w (List.mem_filter.mpr ⟨hw, g⟩)
  · refine h3 w (h2 w (List.mem_filter.mpr ⟨hw, ?_⟩))
    show (!goodWord w) = true
    cases hgw : goodWord w
    · rfl
    · exact absurd hgw g
theorem vx_c {args : Array Value} {s : State} {w : Cond} {B : List Cond} (h : w.before args s = true) (t : ∀ w ∈ B, w.before args s = true) : ∀ w' ∈ w :: B, w'.before args s = true := fun w' h' => (List.mem_cons.mp h').elim (fun e => by rw [e]; exact h) (t w')
theorem vx_n {args : Array Value} {s : State} : ∀ w ∈ ([] : List Cond), w.before args s = true := fun _ h => nomatch h
theorem vx_own {args : Array Value} {s : State} {L : List Cond} (h1 : ∀ w ∈ L.filter vx_no, w.before args s = true)
    (hU : (Cond.isRef (.static Bundle.tN "UNASSIGNED_STACK" Bundle.steD)).before args s = true) (hN : (Cond.isRef (.static Bundle.tN "SUPPRESSED_SENTINEL" Bundle.listD)).before args s = true)
    (lU : (Cond.laysStatic Bundle.tN "UNASSIGNED_STACK" Bundle.steD).before args s = true) (lN : (Cond.laysStatic Bundle.tN "SUPPRESSED_SENTINEL" Bundle.listD).before args s = true) : ∀ w ∈ L, w.before args s = true := by
  intro w hw
  by_cases e1 : w = .isRef (.static Bundle.tN "UNASSIGNED_STACK" Bundle.steD)
  · rw [e1]; exact hU
  · by_cases e2 : w = .isRef (.static Bundle.tN "SUPPRESSED_SENTINEL" Bundle.listD)
    · rw [e2]; exact hN
    · by_cases e3 : w = .laysStatic Bundle.tN "UNASSIGNED_STACK" Bundle.steD
      · rw [e3]; exact lU
      · by_cases e4 : w = .laysStatic Bundle.tN "SUPPRESSED_SENTINEL" Bundle.listD
        · rw [e4]; exact lN
        · exact h1 w (List.mem_filter.mpr ⟨hw, by unfold vx_no; rw [decide_eq_true e1, decide_eq_true e2, decide_eq_true e3, decide_eq_true e4]; rfl⟩)
/-- where a static field lies, its class's statics cell in H -/
def vx_L (C n d : String) (A : Nat → Prop) (U : State) (H : Heap) : Prop := ∃ (c : ClassId) (k : Class) (i : Nat) (f : Field) (a : Nat) (cell : Cell), U.vm.findClass C = some c ∧ U.fieldFound? C n d = some (c, k, i, f) ∧ f.isStatic = true ∧ k.statics = some a ∧ H[a]? = some cell ∧ cell.vm.isStatics = true ∧ cell.cls = c ∧ f.slot < cell.slots.size ∧ k.staticTypes[f.slot]? = some f.type ∧ ¬ A a
theorem vx_L.moved {C n d : String} {A : Nat → Prop} {u U : State} {H : Heap} (hvm : u.vm.Alike U.vm) (h : vx_L C n d A u H) : vx_L C n d A U H := by
  obtain ⟨c, k, i, f, a, cell, h1, h2, h3, h4, h5, h6, h7, h8, h9, h10⟩ := h
  obtain ⟨k', hi', he⟩ := State.fieldFound?_setVm hvm h2
  exact ⟨c, k', i, f, a, cell, by rw [hvm.findClass]; exact h1, hi', h3, by rw [he]; exact h4, h5, h6, h7, h8, by rw [he]; exact h9, h10⟩
theorem vx_L.kept {C n d : String} {A : Nat → Prop} {U : State} {H H1 : Heap} (h : vx_L C n d A U H) (hq : ∀ a : Nat, a < H.size → ¬ A a → H1[a]? = H[a]?) : vx_L C n d A U H1 := by
  obtain ⟨c, k, i, f, a, cell, h1, h2, h3, h4, h5, h6, h7, h8, h9, h10⟩ := h
  exact ⟨c, k, i, f, a, cell, h1, h2, h3, h4, by rw [hq a (Array.getElem?_eq_some_iff.mp h5).1 h10]; exact h5, h6, h7, h8, h9, h10⟩
theorem vx_L.narrow {C n d : String} {A B : Nat → Prop} {U : State} {H : Heap} (h : vx_L C n d A U H) (hAB : ∀ q, B q → A q) : vx_L C n d B U H := by
  obtain ⟨c, k, i, f, a, cell, h1, h2, h3, h4, h5, h6, h7, h8, h9, h10⟩ := h
  exact ⟨c, k, i, f, a, cell, h1, h2, h3, h4, h5, h6, h7, h8, h9, fun z => h10 (hAB _ z)⟩
theorem vx_L.word {C n d : String} {A : Nat → Prop} {s : State} {args : Array Value} (h : vx_L C n d A s s.heap) : (Cond.laysStatic C n d).before args s = true := by
  obtain ⟨c, k, i, f, a, cell, h1, h2, h3, h4, h5, h6, h7, h8, h9, -⟩ := h
  show (Cond.laysStatic C n d).holds args s none s [] = true
  exact Cond.laysStatic_of h1 h2 h3 h4 h5 h6 h7 h8 h9
/-- .. and what it holds: null or some reference -/
def vx_Zq (C n d : String) (A : Nat → Prop) (U : State) (H : Heap) : Prop := va_Zq C n d A U H ∧ vx_L C n d A U H
theorem vx_Zq.moved {C n d : String} {A : Nat → Prop} {u U : State} {H : Heap} (hvm : u.vm.Alike U.vm) (h : vx_Zq C n d A u H) : vx_Zq C n d A U H := ⟨va_Zq.moved hvm h.1, vx_L.moved hvm h.2⟩
theorem vx_Zq.kept {C n d : String} {A : Nat → Prop} {U : State} {H H1 : Heap} (h : vx_Zq C n d A U H) (hq : ∀ a : Nat, a < H.size → ¬ A a → H1[a]? = H[a]?) : vx_Zq C n d A U H1 := ⟨va_Zq.kept h.1 hq, vx_L.kept h.2 hq⟩
theorem vx_Zq.narrow {C n d : String} {A B : Nat → Prop} {U : State} {H : Heap} (h : vx_Zq C n d A U H) (hAB : ∀ q, B q → A q) : vx_Zq C n d B U H := ⟨va_Zq.narrow h.1 hAB, vx_L.narrow h.2 hAB⟩
theorem vx_Zqof {args : Array Value} {s : State} {C n d : String} {A : Nat → Prop} (hl : (Cond.laysStatic C n d).before args s = true) (hini : (Cond.initialized C).before args s = true) (h : (Cond.isRef (.static C n d)).before args s = true) (hA : ∀ a : Nat, a < s.heap.size → ¬ A a) : vx_Zq C n d A s s.heap := by
  refine ⟨va_Zqof hl hini h hA, ?_⟩
  obtain ⟨c, k, i, f, a, cell, h1, h2, h3, h4, h5, h6, h7, h8, h9⟩ := Cond.laysStatic_spec hl
  exact ⟨c, k, i, f, a, cell, h1, h2, h3, h4, h5, h6, h7, h8, h9, hA a (Array.getElem?_eq_some_iff.mp h5).1⟩
theorem vx_isRef {C n d : String} {v : Value} {A : Nat → Prop} {s : State} {args : Array Value} (h : va_Z C n d v A s s.heap) (hv : v.isRef = true) : (Cond.isRef (.static C n d)).before args s = true := by
  obtain ⟨cf, kf, fi, f, a, cell, h1, h2, h3, h4, h5, h6, h7, -⟩ := h
  have he : (Term.static C n d).eval args s none [] s = some v := by
    simp [Term.eval, State.fieldNamed?, h1, h2, h4, h5, h6, h7]
  simp only [Cond.before, Cond.holds, Cond.value, he]
  cases v <;> simp_all [Value.isRef]
theorem vx_isRefq {C n d : String} {A : Nat → Prop} {s : State} {args : Array Value} (h : va_Zq C n d A s s.heap) : (Cond.isRef (.static C n d)).before args s = true := by
  rcases h with h | ⟨t, h⟩
  · exact vx_isRef h rfl
  · exact vx_isRef h rfl
/-- the same frame, seen from here: as if the method were called anew in this heap -/
theorem vx_rebase {T : State} (X : Stand p l e R s m args below meth c T locs cells slots) {R' : Room} (hf : R'.frames ≤ R.frames) (hl : R'.locals ≤ R.locals) (hc : cells + R'.cells ≤ R.cells) (hs : slots + R'.slots ≤ R.slots) :
    Stand p l e R' ((T.setVm s.vm).setFrames (.invoking m args :: below)) m args below meth c T [] 0 0 := by
  have htop : (T.setVm s.vm).topJava?.isSome := X.here.top
  have hF : ((T.setVm s.vm).setFrames (.invoking m args :: below)).frames = .invoking m args :: below := State.frames_setFrames _ (State.cur_lt_of_top htop)
  obtain ⟨g₀, hg0⟩ := Option.isSome_iff_exists.mp htop
  obtain ⟨r, hr⟩ := State.topJava?_eq_some.mp hg0
  have hl9 : e.platform.stackLimits (T.setVm s.vm).me = e.platform.stackLimits s.me := X.limits
  have hb9 : (T.setVm s.vm).me.stackBytes = s.me.stackBytes := X.bytes
  refine ⟨X.admits, X.cas, X.clock, hF, ?_, X.hears, X.method, X.code, X.here, X.tail, X.warmed, ?_, ?_, ?_⟩
  · have h := X.room
    have hU : ((T.setVm s.vm).setFrames (.invoking m args :: below)).localsInUse = s.localsInUse := by
      rw [State.localsInUse_invoking hF (meth := meth) (c := c) X.method X.code, State.localsInUse_invoking X.frames X.method X.code]
    simp only [State.hasRoom, Bool.and_eq_true, decide_eq_true_eq] at h ⊢
    obtain ⟨⟨⟨⟨h1, h2, h3, h4, h5, h6⟩, h7⟩, h8⟩, h9⟩ := h
    rw [X.frames, List.length_cons] at h2 h3
    have q1 := X.heapSize
    have q2 := X.used
    simp only [hF, hU, List.length_cons, State.stackLimits_setFrames, State.stackBytes_setFrames, hl9, hb9]
    refine ⟨⟨⟨⟨by omega, by omega, by omega, by omega, by omega, h6⟩, ?_⟩, ?_⟩, X.book⟩
    · show T.heap.size + R'.cells ≤ e.platform.maxCells
      omega
    · show T.slotsUsed + R'.slots ≤ e.platform.maxSlots
      omega
  · rw [State.stackLimits_setFrames]; rfl
  · rw [State.stackBytes_setFrames]; rfl
  · refine ⟨?_, Nat.le_refl _, Nat.le_refl _, ?_, ?_, fun a c9 h9 => ⟨c9, h9, rfl, rfl, fun _ _ => rfl⟩⟩
    · obtain ⟨t, ht, -⟩ := State.frames_cons hr
      show T.setVm s.vm = { ((T.setVm s.vm).setFrames (.invoking m args :: below)).setFrames (T.setVm s.vm).frames with heap := T.heap, slotsUsed := T.slotsUsed }
      rw [State.setFrames_setFrames, State.setFrames_self ht]
      rfl
    · show T.slotsUsed = T.slotsUsed + ((T.heap.toList.drop T.heap.size).map (·.slots.size)).sum
      rw [List.drop_eq_nil_of_le (Nat.le_of_eq Array.length_toList)]
      rfl
    · show ((T.heap.toList.drop T.heap.size).map (·.slots.size)).sum ≤ 0
      rw [List.drop_eq_nil_of_le (Nat.le_of_eq Array.length_toList)]
      exact Nat.le_refl _
/-- 'throw new E()': new; dup; invokespecial; athrow -/
theorem vx_throw0 {cc : ByteArray} {pc : Nat} (hexec : p.tables.exec = Jvm.exec) (hb : c.code = cc) (hl : l.stackTraces = false) {own cls : String} {names : List String} {ik ic mc ms : Nat} {A : Nat → Prop}
    (hown : s.vm.findClass own = some m.cls) (hcls : Bundle.fit cls = true) (hnames : ∀ n ∈ names, Bundle.fit n = true)
    (hk : (Cond.classLink own ik cls).before args s = true) (hini : (Cond.initialized cls).before args s = true) (hat : ∀ w ∈ vx_at0 own ic cls names, w.before args s = true)
    (hgood : ∀ w ∈ Cond.classLink own ik cls :: Cond.initialized cls :: vx_at0 own ic cls names, vx_ot w = true)
    (hU : vx_Zq Bundle.tN "UNASSIGNED_STACK" Bundle.steD A s s.heap) (hN : vx_Zq Bundle.tN "SUPPRESSED_SENTINEL" Bundle.listD A s s.heap) (hS : va_S A s.heap H locs) (hsize : ls.size = c.maxLocals)
    (d0 : decode cc pc = .ok (.new ik, 3)) (d3 : decode cc (pc + 3) = .ok (.dup, 1)) (d4 : decode cc (pc + 4) = .ok (.invokespecial ic, 3)) (d7 : decode cc (pc + 7) = .ok (.athrow, 1))
    (hout : ∀ x ∈ c.exceptionTable.toList, covers x (pc + 7) = false)
    (hRframes : names.length + 3 < R.frames) (hRlocals : (rest.map fun v => v.category).sum + (13 * (names.length + 1) + 42) ≤ R.locals) (hRcells : cells + 1 ≤ R.cells) (hRslots : slots + 6 ≤ R.slots) (hlocks : meth.locks = false)
    (hx : ∀ t : State, s.vm.Alike t.vm → H.size ≤ t.heap.size → (∀ q : Nat, q < H.size → t.heap[q]? = H[q]?) → XC cls s t)
    (hf : ∀ z ∈ locs, free z.base) (hc : cells + 1 ≤ mc) (hs : slots + 6 ≤ ms) :
    W p l e R s m args below meth c H locs cells slots (vx_MQ below Qc XC args s mc ms free) (F0 m pc ls rest) := by
  intro T hT X
  have htr : e.platform.stackTraces = false := (show e.platform.stackTraces = l.stackTraces by rw [X.admits.platform]).trans hl
  have Y := vx_rebase X (R' := { frames := R.frames, locals := R.locals, cells := 1, slots := 6 }) (Nat.le_refl _) (Nat.le_refl _) hRcells hRslots
  obtain ⟨s', hA⟩ : ∃ z, z = (T.setVm s.vm).setFrames (.invoking m args :: below) := ⟨_, rfl⟩
  rw [← hA] at Y
  have hvm : s'.vm = s.vm := by rw [hA]; rfl
  have hhp : s'.heap = H := by rw [hA]; exact hT
  have hW0 : s.WarmedH s'.vm := by rw [hvm]; exact State.WarmedH.refl s
  have hat' : ∀ w ∈ vx_at0 own ic cls names, w.before args s' = true := fun w hw => vx_ot_at hW0 hvm.symm (hgood w (List.mem_cons_of_mem _ (List.mem_cons_of_mem _ hw))) (hat w hw)
  have hk' : (Cond.classLink own ik cls).before args s' = true := vx_ot_at hW0 hvm.symm (hgood _ List.mem_cons_self) hk
  have hini' : (Cond.initialized cls).before args s' = true := vx_ot_at hW0 hvm.symm (hgood _ (List.mem_cons_of_mem _ List.mem_cons_self)) hini
  have hU' : vx_Zq Bundle.tN "UNASSIGNED_STACK" Bundle.steD A s' s'.heap := by rw [hhp]; exact vx_Zq.moved hW0.alike (hU.kept hS.2.1)
  have hN' : vx_Zq Bundle.tN "SUPPRESSED_SENTINEL" Bundle.listD A s' s'.heap := by rw [hhp]; exact vx_Zq.moved hW0.alike (hN.kept hS.2.1)
  have h : ∀ w ∈ Bundle.ownAtoms0 own ic cls names, w.before args s' = true := vx_own hat' (vx_isRefq hU'.1) (vx_isRefq hN'.1) hU'.2.word hN'.2.word
  have hown' : s'.vm.findClass own = some m.cls := by rw [hvm]; exact hown
  have hins : (Cond.instantiable cls 6).before args s' = true := h _ (by simp [Bundle.ownAtoms0])
  obtain ⟨vm₁, cX, kX, hfX, hkX, -, -, X₁, st1⟩ := Y.newCold hexec (own := own) (C := cls) (index := ik) (n := 6) hown' hk' hins hini'
    (g := F0 m pc ls rest) rfl (by rw [hb]; exact d0) (Nat.le_refl _) (Nat.le_refl _)
  generalize hT1 : (T.setVm vm₁).pushCell { cls := cX, slots := kX.instanceTypes.map defaultValue, vm := .none } = T1 at X₁ st1
  have hcat : (Value.ref T.heap.size).category = 1 := rfl
  have hcellA : T1.heap[T.heap.size]? = some (freshCell cX kX) := by rw [← hT1]; exact State.heap_pushCell_size _ _
  have d3' : decode c.code (pc + 3) = .ok (.dup, 1) := by rw [hb]; exact d3
  obtain ⟨U, hsteps, hrun, hend, hW, hsame, ce, hce, hO⟩ := X₁.ctorThrow0 hexec htr (own := own) (cls := cls) (names := names) (ic := ic) hown' hcls hnames h (fun x hx => nomatch hx) hfX hkX hcellA (by rw [hhp, hT]; exact Nat.le_refl _)
    (g := { method := m, pc := pc + 4, locals := ls, stack := .ref T.heap.size :: .ref T.heap.size :: rest, locked := none }) rfl hsize rfl rfl (rest := rest) rfl
    (by rw [hb]; exact d4) (by rw [hb]; exact d7) hout hRframes (by simp only [List.map_cons, List.sum_cons, hcat]; omega) hlocks
  obtain ⟨f1, f2⟩ := vx_frame hsame
  rw [hhp] at f1 f2
  have hWs : s.WarmedH U.vm := State.WarmedH.trans hW0 hW
  have hcl : s.vm.findClass cls = some ce.cls := by
    have h9 := hO.cls
    rw [hvm] at h9
    exact h9
  have hall : s.sameButNew ({ U with vm := s.vm } : State) locs mc ms := by
    subst hA
    obtain ⟨e1, e2⟩ := hsame
    rw [State.setFrames_setFrames] at e1
    have h2 : (T.setVm s.vm).sameButNew ({ U with vm := s.vm } : State) [] (0 + 1) (0 + 6) := ⟨e1, e2⟩
    have h3 := X.same.trans h2
    rw [List.append_nil] at h3
    exact h3.mono hc hs
  refine ⟨U, ?_, .threw T.heap.size, hrun, hend, Or.inr ⟨T.heap.size, rfl, cls, ce, locs, hx U hWs.alike f1 (fun q hq => f2 q hq (fun z hz => nomatch hz)), hce, hO.vm, hcl, hWs, hall, hf⟩⟩
  refine st1 _ ?_
  show Steps p.tables e below (T1.setTop { method := m, pc := pc + 3, locals := ls, stack := .ref T.heap.size :: rest, locked := none }) _
  jvm_step X₁.here [X₁.here.top, hexec, d3', Value.category]
  exact hsteps
/-- 'throw new E("text")': new; dup; ldc; invokespecial; athrow -/
theorem vx_throwS {cc : ByteArray} {pc : Nat} (hexec : p.tables.exec = Jvm.exec) (hb : c.code = cc) (hl : l.stackTraces = false) {own cls text : String} {names : List String} {ik is ic mc ms sa : Nat} {A : Nat → Prop}
    (hown : s.vm.findClass own = some m.cls) (hcls : Bundle.fit cls = true) (hnames : ∀ n ∈ names, Bundle.fit n = true)
    (hk : (Cond.classLink own ik cls).before args s = true) (hini : (Cond.initialized cls).before args s = true) (hstr : vk_R own is text sa s) (hat : ∀ w ∈ vx_atS own ic cls names, w.before args s = true)
    (hgood : ∀ w ∈ Cond.classLink own ik cls :: Cond.initialized cls :: vx_atS own ic cls names, vx_ot w = true)
    (hU : vx_Zq Bundle.tN "UNASSIGNED_STACK" Bundle.steD A s s.heap) (hN : vx_Zq Bundle.tN "SUPPRESSED_SENTINEL" Bundle.listD A s s.heap) (hS : va_S A s.heap H locs) (hsize : ls.size = c.maxLocals)
    (d0 : decode cc pc = .ok (.new ik, 3)) (d3 : decode cc (pc + 3) = .ok (.dup, 1)) (d4 : decode cc (pc + 4) = .ok (.ldc is, 2)) (d6 : decode cc (pc + 6) = .ok (.invokespecial ic, 3)) (d9 : decode cc (pc + 9) = .ok (.athrow, 1))
    (hout : ∀ x ∈ c.exceptionTable.toList, covers x (pc + 9) = false)
    (hRframes : names.length + 3 < R.frames) (hRlocals : (rest.map fun v => v.category).sum + (13 * (names.length + 1) + 43) ≤ R.locals) (hRcells : cells + 1 ≤ R.cells) (hRslots : slots + 6 ≤ R.slots) (hlocks : meth.locks = false)
    (hx : ∀ t : State, s.vm.Alike t.vm → H.size ≤ t.heap.size → (∀ q : Nat, q < H.size → t.heap[q]? = H[q]?) → XC cls s t)
    (hf : ∀ z ∈ locs, free z.base) (hc : cells + 1 ≤ mc) (hs : slots + 6 ≤ ms) :
    W p l e R s m args below meth c H locs cells slots (vx_MQ below Qc XC args s mc ms free) (F0 m pc ls rest) := by
  intro T hT X
  have htr : e.platform.stackTraces = false := (show e.platform.stackTraces = l.stackTraces by rw [X.admits.platform]).trans hl
  have Y := vx_rebase X (R' := { frames := R.frames, locals := R.locals, cells := 1, slots := 6 }) (Nat.le_refl _) (Nat.le_refl _) hRcells hRslots
  obtain ⟨s', hA⟩ : ∃ z, z = (T.setVm s.vm).setFrames (.invoking m args :: below) := ⟨_, rfl⟩
  rw [← hA] at Y
  have hvm : s'.vm = s.vm := by rw [hA]; rfl
  have hhp : s'.heap = H := by rw [hA]; exact hT
  have hW0 : s.WarmedH s'.vm := by rw [hvm]; exact State.WarmedH.refl s
  have hat' : ∀ w ∈ vx_atS own ic cls names, w.before args s' = true := fun w hw => vx_ot_at hW0 hvm.symm (hgood w (List.mem_cons_of_mem _ (List.mem_cons_of_mem _ hw))) (hat w hw)
  have hk' : (Cond.classLink own ik cls).before args s' = true := vx_ot_at hW0 hvm.symm (hgood _ List.mem_cons_self) hk
  have hini' : (Cond.initialized cls).before args s' = true := vx_ot_at hW0 hvm.symm (hgood _ (List.mem_cons_of_mem _ List.mem_cons_self)) hini
  have hU' : vx_Zq Bundle.tN "UNASSIGNED_STACK" Bundle.steD A s' s'.heap := by rw [hhp]; exact vx_Zq.moved hW0.alike (hU.kept hS.2.1)
  have hN' : vx_Zq Bundle.tN "SUPPRESSED_SENTINEL" Bundle.listD A s' s'.heap := by rw [hhp]; exact vx_Zq.moved hW0.alike (hN.kept hS.2.1)
  have h : ∀ w ∈ Bundle.ownAtoms own ic cls names, w.before args s' = true := vx_own hat' (vx_isRefq hU'.1) (vx_isRefq hN'.1) hU'.2.word hN'.2.word
  have hown' : s'.vm.findClass own = some m.cls := by rw [hvm]; exact hown
  have hins : (Cond.instantiable cls 6).before args s' = true := h _ (by simp [Bundle.ownAtoms])
  obtain ⟨vm₁, cX, kX, hfX, hkX, -, -, X₁, st1⟩ := Y.newCold hexec (own := own) (C := cls) (index := ik) (n := 6) hown' hk' hins hini'
    (g := F0 m pc ls rest) rfl (by rw [hb]; exact d0) (Nat.le_refl _) (Nat.le_refl _)
  generalize hT1 : (T.setVm vm₁).pushCell { cls := cX, slots := kX.instanceTypes.map defaultValue, vm := .none } = T1 at X₁ st1
  have hcat : (Value.ref T.heap.size).category = 1 := rfl
  have hcellA : T1.heap[T.heap.size]? = some (freshCell cX kX) := by rw [← hT1]; exact State.heap_pushCell_size _ _
  have d3' : decode c.code (pc + 3) = .ok (.dup, 1) := by rw [hb]; exact d3
  have d4' : decode c.code (pc + 4) = .ok (.ldc is, 2) := by rw [hb]; exact d4
  have hstr' : vk_R own is text sa s' := vk_R.warm hW0 hstr
  obtain ⟨U, hsteps, hrun, hend, hW, hsame, ce, hce, hO⟩ := X₁.ctorThrowS hexec htr (own := own) (cls := cls) (names := names) (ic := ic) hown' hcls hnames h (fun x hx => nomatch hx) hfX hkX hcellA (by rw [hhp, hT]; exact Nat.le_refl _) (msg := .ref sa) rfl
    (g := { method := m, pc := pc + 6, locals := ls, stack := .ref sa :: .ref T.heap.size :: .ref T.heap.size :: rest, locked := none }) rfl hsize rfl rfl (rest := rest) rfl
    (by rw [hb]; exact d6) (by rw [hb]; exact d9) hout hRframes (by simp only [List.map_cons, List.sum_cons, hcat]; omega) hlocks
  obtain ⟨f1, f2⟩ := vx_frame hsame
  rw [hhp] at f1 f2
  have hWs : s.WarmedH U.vm := State.WarmedH.trans hW0 hW
  have hcl : s.vm.findClass cls = some ce.cls := by
    have h9 := hO.cls
    rw [hvm] at h9
    exact h9
  have hall : s.sameButNew ({ U with vm := s.vm } : State) locs mc ms := by
    subst hA
    obtain ⟨e1, e2⟩ := hsame
    rw [State.setFrames_setFrames] at e1
    have h2 : (T.setVm s.vm).sameButNew ({ U with vm := s.vm } : State) [] (0 + 1) (0 + 6) := ⟨e1, e2⟩
    have h3 := X.same.trans h2
    rw [List.append_nil] at h3
    exact h3.mono hc hs
  refine ⟨U, ?_, .threw T.heap.size, hrun, hend, Or.inr ⟨T.heap.size, rfl, cls, ce, locs, hx U hWs.alike f1 (fun q hq => f2 q hq (fun z hz => nomatch hz)), hce, hO.vm, hcl, hWs, hall, hf⟩⟩
  refine st1 _ ?_
  show Steps p.tables e below (T1.setTop { method := m, pc := pc + 3, locals := ls, stack := .ref T.heap.size :: rest, locked := none }) _
  jvm_step X₁.here [X₁.here.top, hexec, d3', Value.category]
  exact X₁.ldcString hexec (own := own) (text := text) (index := is) (a := sa) hown' hstr'.1 hstr'.2
    (g := { method := m, pc := pc + 4, locals := ls, stack := .ref T.heap.size :: .ref T.heap.size :: rest, locked := none }) rfl d4' _ hsteps
/-- 'throw new E("text")', the text by a wide index -/
theorem vx_throwSW {cc : ByteArray} {pc : Nat} (hexec : p.tables.exec = Jvm.exec) (hb : c.code = cc) (hl : l.stackTraces = false) {own cls text : String} {names : List String} {ik is ic mc ms sa : Nat} {A : Nat → Prop}
    (hown : s.vm.findClass own = some m.cls) (hcls : Bundle.fit cls = true) (hnames : ∀ n ∈ names, Bundle.fit n = true)
    (hk : (Cond.classLink own ik cls).before args s = true) (hini : (Cond.initialized cls).before args s = true) (hstr : vk_R own is text sa s) (hat : ∀ w ∈ vx_atS own ic cls names, w.before args s = true)
    (hgood : ∀ w ∈ Cond.classLink own ik cls :: Cond.initialized cls :: vx_atS own ic cls names, vx_ot w = true)
    (hU : vx_Zq Bundle.tN "UNASSIGNED_STACK" Bundle.steD A s s.heap) (hN : vx_Zq Bundle.tN "SUPPRESSED_SENTINEL" Bundle.listD A s s.heap) (hS : va_S A s.heap H locs) (hsize : ls.size = c.maxLocals)
    (d0 : decode cc pc = .ok (.new ik, 3)) (d3 : decode cc (pc + 3) = .ok (.dup, 1)) (d4 : decode cc (pc + 4) = .ok (.ldc_w is, 3)) (d7 : decode cc (pc + 7) = .ok (.invokespecial ic, 3)) (d10 : decode cc (pc + 10) = .ok (.athrow, 1))
    (hout : ∀ x ∈ c.exceptionTable.toList, covers x (pc + 10) = false)
    (hRframes : names.length + 3 < R.frames) (hRlocals : (rest.map fun v => v.category).sum + (13 * (names.length + 1) + 43) ≤ R.locals) (hRcells : cells + 1 ≤ R.cells) (hRslots : slots + 6 ≤ R.slots) (hlocks : meth.locks = false)
    (hx : ∀ t : State, s.vm.Alike t.vm → H.size ≤ t.heap.size → (∀ q : Nat, q < H.size → t.heap[q]? = H[q]?) → XC cls s t)
    (hf : ∀ z ∈ locs, free z.base) (hc : cells + 1 ≤ mc) (hs : slots + 6 ≤ ms) :
    W p l e R s m args below meth c H locs cells slots (vx_MQ below Qc XC args s mc ms free) (F0 m pc ls rest) := by
  intro T hT X
  have htr : e.platform.stackTraces = false := (show e.platform.stackTraces = l.stackTraces by rw [X.admits.platform]).trans hl
  have Y := vx_rebase X (R' := { frames := R.frames, locals := R.locals, cells := 1, slots := 6 }) (Nat.le_refl _) (Nat.le_refl _) hRcells hRslots
  obtain ⟨s', hA⟩ : ∃ z, z = (T.setVm s.vm).setFrames (.invoking m args :: below) := ⟨_, rfl⟩
  rw [← hA] at Y
  have hvm : s'.vm = s.vm := by rw [hA]; rfl
  have hhp : s'.heap = H := by rw [hA]; exact hT
  have hW0 : s.WarmedH s'.vm := by rw [hvm]; exact State.WarmedH.refl s
  have hat' : ∀ w ∈ vx_atS own ic cls names, w.before args s' = true := fun w hw => vx_ot_at hW0 hvm.symm (hgood w (List.mem_cons_of_mem _ (List.mem_cons_of_mem _ hw))) (hat w hw)
  have hk' : (Cond.classLink own ik cls).before args s' = true := vx_ot_at hW0 hvm.symm (hgood _ List.mem_cons_self) hk
  have hini' : (Cond.initialized cls).before args s' = true := vx_ot_at hW0 hvm.symm (hgood _ (List.mem_cons_of_mem _ List.mem_cons_self)) hini
  have hU' : vx_Zq Bundle.tN "UNASSIGNED_STACK" Bundle.steD A s' s'.heap := by rw [hhp]; exact vx_Zq.moved hW0.alike (hU.kept hS.2.1)
  have hN' : vx_Zq Bundle.tN "SUPPRESSED_SENTINEL" Bundle.listD A s' s'.heap := by rw [hhp]; exact vx_Zq.moved hW0.alike (hN.kept hS.2.1)
  have h : ∀ w ∈ Bundle.ownAtoms own ic cls names, w.before args s' = true := vx_own hat' (vx_isRefq hU'.1) (vx_isRefq hN'.1) hU'.2.word hN'.2.word
  have hown' : s'.vm.findClass own = some m.cls := by rw [hvm]; exact hown
  have hins : (Cond.instantiable cls 6).before args s' = true := h _ (by simp [Bundle.ownAtoms])
  obtain ⟨vm₁, cX, kX, hfX, hkX, -, -, X₁, st1⟩ := Y.newCold hexec (own := own) (C := cls) (index := ik) (n := 6) hown' hk' hins hini'
    (g := F0 m pc ls rest) rfl (by rw [hb]; exact d0) (Nat.le_refl _) (Nat.le_refl _)
  generalize hT1 : (T.setVm vm₁).pushCell { cls := cX, slots := kX.instanceTypes.map defaultValue, vm := .none } = T1 at X₁ st1
  have hcat : (Value.ref T.heap.size).category = 1 := rfl
  have hcellA : T1.heap[T.heap.size]? = some (freshCell cX kX) := by rw [← hT1]; exact State.heap_pushCell_size _ _
  have d3' : decode c.code (pc + 3) = .ok (.dup, 1) := by rw [hb]; exact d3
  have d4' : decode c.code (pc + 4) = .ok (.ldc_w is, 3) := by rw [hb]; exact d4
  have hstr' : vk_R own is text sa s' := vk_R.warm hW0 hstr
  obtain ⟨U, hsteps, hrun, hend, hW, hsame, ce, hce, hO⟩ := X₁.ctorThrowS hexec htr (own := own) (cls := cls) (names := names) (ic := ic) hown' hcls hnames h (fun x hx => nomatch hx) hfX hkX hcellA (by rw [hhp, hT]; exact Nat.le_refl _) (msg := .ref sa) rfl
    (g := { method := m, pc := pc + 7, locals := ls, stack := .ref sa :: .ref T.heap.size :: .ref T.heap.size :: rest, locked := none }) rfl hsize rfl rfl (rest := rest) rfl
    (by rw [hb]; exact d7) (by rw [hb]; exact d10) hout hRframes (by simp only [List.map_cons, List.sum_cons, hcat]; omega) hlocks
  obtain ⟨f1, f2⟩ := vx_frame hsame
  rw [hhp] at f1 f2
  have hWs : s.WarmedH U.vm := State.WarmedH.trans hW0 hW
  have hcl : s.vm.findClass cls = some ce.cls := by
    have h9 := hO.cls
    rw [hvm] at h9
    exact h9
  have hall : s.sameButNew ({ U with vm := s.vm } : State) locs mc ms := by
    subst hA
    obtain ⟨e1, e2⟩ := hsame
    rw [State.setFrames_setFrames] at e1
    have h2 : (T.setVm s.vm).sameButNew ({ U with vm := s.vm } : State) [] (0 + 1) (0 + 6) := ⟨e1, e2⟩
    have h3 := X.same.trans h2
    rw [List.append_nil] at h3
    exact h3.mono hc hs
  refine ⟨U, ?_, .threw T.heap.size, hrun, hend, Or.inr ⟨T.heap.size, rfl, cls, ce, locs, hx U hWs.alike f1 (fun q hq => f2 q hq (fun z hz => nomatch hz)), hce, hO.vm, hcl, hWs, hall, hf⟩⟩
  refine st1 _ ?_
  show Steps p.tables e below (T1.setTop { method := m, pc := pc + 3, locals := ls, stack := .ref T.heap.size :: rest, locked := none }) _
  jvm_step X₁.here [X₁.here.top, hexec, d3', Value.category]
  exact X₁.ldcStringW hexec (own := own) (text := text) (index := is) (a := sa) hown' hstr'.1 hstr'.2
    (g := { method := m, pc := pc + 4, locals := ls, stack := .ref T.heap.size :: .ref T.heap.size :: rest, locked := none }) rfl d4' _ hsteps
end Ends
section Bodies
variable {l : Launch}
theorem vx_ofW {y : MethodName} {ws ws' : List Cond} {rm : Room} {Pc : Array Value → State → Prop} {Qc : Array Value → State → Outcome → State → Prop} {XC : String → State → State → Prop} {mc ms : Nat} {free : Addr → Prop} {cc : ByteArray} {maxL : Nat} {ret : Option FieldType}
    (hy : plainName y.cls = true) (hw : ws = Cond.code y cc maxL ret :: ws')
    (body : ∀ p e s m args below meth c s₁, BodyLoose p l y (headSpec ws rm) cc maxL ret e s m args below meth c s₁ → c.maxLocals = maxL → (∀ x ∈ c.exceptionTable.toList, False) → Pc args s →
      W p l e (headSpec ws rm).room s m args below meth c s.heap [] 0 0 (vx_MQ below Qc XC args s mc ms free) (entryFrame m args maxL)) : vx_Met l y ws rm Pc Qc XC mc ms free := by
  refine MetFree.of_bodyS (code := cc) (maxLocals := maxL) (ret := ret) hy ?_ ?_
  · intro args s m h hn
    obtain ⟨meth, c, h1, h2, h3, h4, h5, h6, -, -⟩ := Cond.code_spec hn (atoms_spec (ws := ws) h _ (by rw [hw]; exact List.mem_cons_self))
    exact ⟨meth, c, h1, h2, h3, h4, h5, h6⟩
  · intro p e s m args below meth c s₁ B hml hP _
    have hh0 : s₁.heap = s.heap := by rw [B.state]; rfl
    have ht : ∀ x ∈ c.exceptionTable.toList, False := by
      obtain ⟨meth9, c9, h1, h2, -, -, -, -, h7, -⟩ := Cond.code_spec B.named (atoms_spec (ws := ws) B.pre _ (by rw [hw]; exact List.mem_cons_self))
      cases Option.some.inj (h1.symm.trans B.method)
      cases Option.some.inj (h2.symm.trans (Stand.of_body B).code)
      intro x hx
      rw [Array.isEmpty_iff.mp h7] at hx
      cases hx
    obtain ⟨t, a1, o, b1, b2, b3⟩ := body p e s m args below meth c s₁ B hml ht hP s₁ hh0 (Stand.of_body B)
    exact ⟨t, o, a1, b1, b2, b3⟩
/-- the table of a body with handlers -/
theorem vx_table {p : Program} {x y : MethodName} {S : Spec} {cc bytes : ByteArray} {maxL maxL' : Nat} {ret ret' : Option FieldType} {e : Env} {s s₁ : State} {m : MethodId} {args : Array Value} {below : List Frame} {meth : Method} {c : Code} {hh : List (Nat × Nat × Nat × Nat)}
    (B : BodyLoose p l y S cc maxL ret e s m args below meth c s₁) (h : (Cond.codeWith y bytes maxL' ret' hh).before args s = true) : c.exceptionTable.toList = tableOf hh := by
  obtain ⟨m9, meth9, c9, hn9, h1, h2, -, -, h6, -⟩ := Cond.codeWith_spec h
  cases Option.some.inj (hn9.symm.trans B.named)
  cases Option.some.inj (h1.symm.trans B.method)
  cases Option.some.inj (h2.symm.trans (Stand.of_body B).code)
  rw [← h6, table_eq]
end Bodies
end VXA
/-! ===== END ===== -/
/-! ===== BEGIN a static call of a method with an exception table ===== -/
section VXS
variable {p : Program} {l : Launch} {e : Env} {R : Room} {s : State} {m : MethodId} {args : Array Value} {below : List Frame} {meth : Method} {c : Code} {T : State} {H : Heap} {locs : List Loc} {cells slots : Nat}
abbrev vx_CSW (R : Room) (s : State) (args : Array Value) (own : String) (index : Nat) (y : MethodName) (bytes : ByteArray) (maxL : Nat) (ret : Option FieldType) (hh : List (Nat × Nat × Nat × Nat)) (ws : List Cond) (rm : Room) (mc ms n : Nat) : Prop :=
  (rm.cells = mc ∧ rm.slots = ms ∧ rm.frames + 1 ≤ R.frames ∧ 8 + (maxL + 11) + rm.locals ≤ R.locals ∧ (∀ w ∈ ws, ∀ (a' : Array Value) (U : State), s.WarmedH U.vm → w.before a' U = true) ∧ Cond.codeWith y bytes maxL ret hh ∈ ws) ∧
  (Cond.codeWith y bytes maxL ret hh).before args s = true ∧ (Cond.initialized y.cls).before args s = true ∧ (y.cls ≠ "java/lang/invoke/MethodHandle" ∧ y.cls ≠ "java/lang/invoke/VarHandle") ∧
  (∀ sig, parseMethodDescriptor y.desc = some sig → n = sig.parameters.length) ∧ (Cond.methodLink own index y).before args s = true ∧ (Cond.static y).before args s = true
theorem vx_cwSW {own : String} {index maxL mc ms : Nat} {y : MethodName} {bytes : ByteArray} {ret : Option FieldType} {hh : List (Nat × Nat × Nat × Nat)} {Ts ws ws' : List Cond} {rm : Room} (n : Nat) (ht : ∀ w ∈ Ts, w.before args s = true) (hT : GoodIn Ts (va_wsS own index y ws)) (hw : ws = Cond.codeWith y bytes maxL ret hh :: ws') (hrc : rm.cells = mc) (hrs : rm.slots = ms)
    (hd : y.cls ≠ "java/lang/invoke/MethodHandle" ∧ y.cls ≠ "java/lang/invoke/VarHandle" ∧ (parseMethodDescriptor y.desc).map (fun d => d.parameters.length) = some n) (hR : rm.frames + 1 ≤ R.frames ∧ 8 + (maxL + 11) + rm.locals ≤ R.locals) :
    vx_CSW R s args own index y bytes maxL ret hh ws rm mc ms n := by
  have ok : ∀ w ∈ va_wsS own index y ws, w.before args s = true := fun w h => ht w (hT w h).1
  have hG : GoodIn Ts ws := fun w h => hT w (by unfold va_wsS; exact List.mem_append_right _ h)
  have hc : Cond.codeWith y bytes maxL ret hh ∈ ws := by rw [hw]; exact List.mem_cons_self
  refine ⟨⟨hrc, hrs, hR.1, hR.2, pay_in ht hG, hc⟩, ht _ (hG _ hc).1, ok _ (by simp [va_wsS]), ⟨hd.1, hd.2.1⟩, fun sig h => ?_, ok _ (by simp [va_wsS]), ok _ (by simp [va_wsS])⟩
  have h2 := hd.2.2
  rw [h] at h2
  exact (Option.some.inj h2).symm
theorem vx_callSW (X : Stand p l e R s m args below meth c T locs cells slots) (hexec : p.tables.exec = Jvm.exec) {own : String} {index : Nat} {y : MethodName} {bytes : ByteArray} {maxL : Nat} {ret : Option FieldType} {hh : List (Nat × Nat × Nat × Nat)}
    (hown : s.vm.findClass own = some m.cls) (hlink : (Cond.methodLink own index y).before args s = true) (hstat : (Cond.static y).before args s = true) (hinit : (Cond.initialized y.cls).before args s = true)
    (hcode : (Cond.codeWith y bytes maxL ret hh).before args s = true) (hy : y.cls ≠ "java/lang/invoke/MethodHandle" ∧ y.cls ≠ "java/lang/invoke/VarHandle")
    {W9 : Nat} {Pre : Pt → Array Value → Prop} {Post : Pt → Array Value → Option Value → Pt → Prop} (hK : Back l R p e below s args y 3 W9 Pre Post)
    {g : JFrame} (hg : g.method = m) (hsize : g.locals.size = c.maxLocals) {argsL rest : List Value} (hlen : ∀ sig, parseMethodDescriptor y.desc = some sig → argsL.length = sig.parameters.length)
    (hstack : g.stack = argsL.reverse ++ rest) (hW : 2 * g.monitorRoom + (rest.map fun v => v.category).sum ≤ W9) (hdg : decode c.code g.pc = .ok (.invokestatic index, 3))
    (hpre : ∀ vm₁, s.WarmedH vm₁ → Pre ⟨T.setVm vm₁, locs, cells, slots⟩ argsL.toArray) :
    ∃ (v : Option Value) (vm₁ : Vm) (B : Pt), s.WarmedH vm₁ ∧ Stand p l e R s m args below meth c B.U B.locs B.cells B.slots ∧ Post ⟨T.setVm vm₁, locs, cells, slots⟩ argsL.toArray v B ∧
      ∀ target, Steps p.tables e below (B.U.setTop { g with pc := g.pc + 3, stack := v.toList ++ rest }) target → Steps p.tables e below (T.setTop g) target := by
  obtain ⟨mk, methM, cM, hnamed, hmethM, -, -, -, -, -, -, hsigM⟩ := Cond.codeWith_spec hcode
  have hstatic : methM.isStatic = true := Cond.static_spec hnamed hmethM hstat
  obtain ⟨kP, hkP, -⟩ := className_of_methodNamed hnamed
  have hinitP : kP.init = .initialized := Cond.initialized_spec (findClass_of_methodNamed hnamed) hkP hinit
  obtain ⟨vm₁, X₁, hstep₁⟩ := X.invokestatic hexec hown hlink hnamed hmethM hstatic hkP hinitP hy (g := g) hg (argsL := argsL) (rest := rest) (hlen _ hsigM) hstack hdg
  obtain ⟨v, B, X', hpost, hsteps⟩ := hK m meth c ⟨T.setVm vm₁, locs, cells, slots⟩ { g with stack := rest } (.invokestatic index) mk argsL.toArray X₁ hg hsize hdg hW (X₁.named hnamed) (hpre vm₁ X₁.warmed)
  exact ⟨v, vm₁, B, X₁.warmed, X', hpost, fun target h => hstep₁ _ fun acts => by rw [doInvoke_state]; exact hsteps.trans h⟩
theorem vx_runSW {y : MethodName} {bytes cc : ByteArray} {maxL nL mc ms n index : Nat} {ret : Option FieldType} {hh : List (Nat × Nat × Nat × Nat)} {ws : List Cond} {rm : Room} {Pc : Array Value → State → Prop} {Qc : Array Value → State → Outcome → State → Prop} {free : Addr → Prop} {Ts : List Cond} {own : String} {As rest : List Value} {g : JFrame}
    (S : CallFix p m c cc nL s args Ts own) (hM : Met l y ws rm Pc Qc mc ms free) (cw : vx_CSW R s args own index y bytes maxL ret hh ws rm mc ms n) (hp : PreS s H Pc As)
    (hg : g.method = m) (hn : As.length = n) (hsize : g.locals.size = nL) (hstack : g.stack = As.reverse ++ rest) (hW : 2 * g.monitorRoom + (rest.map fun v => v.category).sum ≤ 8) (hdg : decode cc g.pc = .ok (.invokestatic index, 3)) (hf : cells + mc ≤ R.cells ∧ slots + ms ≤ R.slots) :
    va_Run p l e R s m args below meth c H locs cells slots mc ms g rest (Qc As.toArray) (free) := by
  obtain ⟨⟨hrc, hrs, hfr, hlo, hws, hcw⟩, hcode, hini, hy, hlen, hl, hstt⟩ := cw
  have hK : Back l R p e below s args y 3 8 (PreOf R mc ms Pc) (PostOf Qc mc ms free) := va_backW (hh := hh) (bytes := bytes) (maxL := maxL) (ret := ret) hM hp.1 hrc hrs hfr hlo hws hcw (fun a' U hW => word_at hW (Or.inl (by first | rfl | simp [Cond.onTables, Cond.keeps, Cond.steady])) hini)
  obtain ⟨hx, hb, hml, ho, -⟩ := S
  intro T hT X
  obtain ⟨v, vm₁, ⟨U', l2, c2, s2⟩, hW₁, X', ⟨g', mk, t, L, e1, e2, hq, h1, hL, h2, h3⟩, st⟩ := vx_callSW X hx (hh := hh) (bytes := bytes) (maxL := maxL) (ret := ret) ho hl hstt hini hcode hy hK hg (hsize.trans hml.symm) (argsL := As) (rest := rest) (fun sig h => hn.trans (hlen sig h)) hstack hW (by rw [hb]; exact hdg)
    (fun vm₁ hW₁ => ⟨hf.1, hf.2, hp.2 (T.setVm vm₁) hT hW₁⟩)
  dsimp only [Pt.U, Pt.locs, Pt.cells, Pt.slots] at X' e1 e2 h1 h2 h3 st
  subst h1; subst h2; subst h3
  exact ⟨v, (T.setVm vm₁).calling g' mk As.toArray, t, U', L, hT, X', hL, e1, e2, hq, st⟩
/-- not caught here, past rows that name other classes: it goes on to the caller -/
theorem vx_outP {p : Program} {l : Launch} {e : Env} {R : Room} {s : State} {m : MethodId} {args : Array Value} {below : List Frame} {meth : Method} {c : Code} {H : Heap} {locs : List Loc} {cells slots : Nat} {free : Addr → Prop} {ls : Array Slot} {rest : List Value} {Qc : Array Value → State → Outcome → State → Prop} {XC : String → State → State → Prop}
    {pc : Nat} {own E : String} {ce : Cell} {q : Addr} {mc ms : Nat} (hown : s.vm.findClass own = some m.cls) (hlocks : meth.locks = false)
    (hpass : ∀ z ∈ c.exceptionTable.toList, covers z pc = false ∨ (z.catchType ≠ 0 ∧ ∃ nm : String, (Cond.classLink own z.catchType nm).before args s = true ∧ va_Nc E nm s)) (hcell : H[q]? = some ce) (hv : ce.vm = .none) (hcl : s.vm.findClass E = some ce.cls)
    (hx : ∀ t : State, t.heap = H → s.vm.Alike t.vm → XC E s t) (hf : ∀ z ∈ locs, free z.base) (hc : cells ≤ mc) (hs : slots ≤ ms) :
    vx_W p l e R s m args below meth c H locs cells slots (vx_MQ below Qc XC args s mc ms free) (F0 m pc ls rest) q := by
  intro T hT X
  have hpl : e.platform.magicAccessors = ({} : Platform).magicAccessors := by rw [X.admits.platform]
  obtain ⟨vm', hW', X', st⟩ := X.outThrough hlocks q (g := F0 m pc ls rest) rfl rfl rfl (cell := ce) (by rw [hT]; exact hcell) (by rw [hv]; rfl)
    (by obtain ⟨k9, h9, -⟩ := Vm.findClass_spec hcl; exact ⟨k9, h9⟩) (fun z hz => by
      rcases hpass z hz with h | ⟨hz0, nm, hl1, hn1⟩
      · exact Or.inl h
      · obtain ⟨c6, hc6, hcl6⟩ := Cond.classLink_spec hown hl1 e.platform hpl
        obtain ⟨a8, b8, h1, h2, h3⟩ := hn1
        cases Option.some.inj (h1.symm.trans hcl)
        cases Option.some.inj (h2.symm.trans hc6)
        exact Or.inr ⟨hz0, _, hcl6, h3⟩)
  obtain ⟨g₀, hfr⟩ := X'.frames_eq
  have hcell9 : ((T.setVm vm').setFrames (.throwing q :: below)).heap[q]? = some ce := by
    show T.heap[q]? = some ce
    rw [hT]; exact hcell
  have hend : Ended ((T.setVm vm').setFrames (.throwing q :: below)) below (.threw q) := State.frames_setFrames _ (State.cur_lt_of_frames hfr)
  refine ⟨(T.setVm vm').setFrames (.throwing q :: below), ?_, .threw q, X'.here.running, hend, Or.inr ⟨q, rfl, E, ce, locs, hx _ hT (X'.ends _).1.alike, hcell9, hv, hcl, (X'.ends _).1, (X'.ends _).2.mono hc hs, hf⟩⟩
  rw [X.pushThrowing_eq]
  exact st
/-- a thing of a world lies in the heap -/
theorem vx_lt {D : va_G} {cl : List vw_C} {ws : va_W} {H1 : Heap} (h : va_P D cl ws H1) {k : Nat} {q : Nat × va_E} (hk : ws[k]? = some q) : q.1 < H1.size := (h k q hk).lt
end VXS
/-! ===== END ===== -/
/-! ===== BEGIN methods with a table of their own: called by a name, returning or throwing ===== -/
section VXH
/-! vx_backW, vx_callVX, vx_callSX, vx_callVW, vx_runVW, vx_runVX, vx_runSX, vx_ofWH follow the same proofs as their sisters above (Free/Laws.lean, Shelf42/LK1.lean); vx_outP calls Shelf42/NT130.lean (outThrough). -/
section
variable {l : Launch} {R : Room} {p : Program} {e : Env} {below : List Frame} {s : State} {sargs : Array Value} {y : MethodName} {len W9 : Nat}
theorem vx_backW {ws : List Cond} {rm : Room} {Pc : Array Value → State → Prop} {Qc : Array Value → State → Outcome → State → Prop} {XC : String → State → State → Prop} {mc ms : Nat} {free : Addr → Prop} {bytes : ByteArray} {maxL : Nat} {ret : Option FieldType} {hh : List (Nat × Nat × Nat × Nat)}
    (hM : vx_Met l y ws rm Pc Qc XC mc ms free) (hblind : FrameBlind Pc) (hrc : rm.cells = mc) (hrs : rm.slots = ms)
    (hframes : rm.frames + 1 ≤ R.frames) (hlocals : W9 + (maxL + 11) + rm.locals ≤ R.locals)
    (hws : ∀ w ∈ ws, ∀ a' U, s.WarmedH U.vm → w.before a' U = true) (hcode : Cond.codeWith y bytes maxL ret hh ∈ ws) (hinit : ∀ a' U, s.WarmedH U.vm → (Cond.initialized y.cls).before a' U = true) :
    vx_Back l R p e below s sargs y len W9 (PreOf R mc ms Pc) (PostOf Qc mc ms free) (vx_Post XC mc ms free) := by
  intro m meth c A g ig mk a X hg hsize hdg hW hn hp
  have h1 : (headSpec ws rm).pre.before a A.U = true := atoms_intro fun w hw => hws w hw _ _ X.warmed
  have h2 : (Cond.codeWith y bytes maxL ret hh).before a A.U = true := hws _ hcode _ _ X.warmed
  have h3 : (Cond.initialized y.cls).before a A.U = true := hinit _ _ X.warmed
  have h4 : A.cells + (headSpec ws rm).room.cells ≤ R.cells := by rw [show (headSpec ws rm).room.cells = mc from hrc]; exact hp.1
  have h5 : A.slots + (headSpec ws rm).room.slots ≤ R.slots := by rw [show (headSpec ws rm).room.slots = ms from hrs]; exact hp.2.1
  have hPc : Pc a (A.U.calling g mk a) := hblind _ _ _ _ hp.2.2
  obtain ⟨U, Ls, c0, s0⟩ := A
  dsimp only [Pt.U, Pt.locs, Pt.cells, Pt.slots] at h1 h2 h3 h4 h5 X hn hPc ⊢
  obtain ⟨m9, methY, cY, hn9, hmY, hcY, -, hlY, -⟩ := Cond.codeWith_spec h2
  cases Option.some.inj (hn9.symm.trans hn)
  obtain ⟨kY, hkY, -⟩ := className_of_methodNamed hn
  have hinitY : kY.init = .initialized := Cond.initialized_spec (findClass_of_methodNamed hn) hkY h3
  have h : At U g.method c below := by rw [hg]; exact X.here
  have hlocals9 : W9 + (maxL + 11) + (headSpec ws rm).room.locals ≤ R.locals := hlocals
  have happ : (headSpec ws rm).appliesLoose y e.platform (U.calling g mk a) = true :=
    Spec.appliesLoose_calling (g := g) h hdg hn hkY hinitY
      (X.room_calling (g := g) (R' := (headSpec ws rm).room) hsize hmY hcY hframes (by rw [hlY]; omega) h4 h5) h1
  obtain ⟨mid, hmid⟩ := h.above
  have hfr : (U.setTop g).frames = (.java g :: mid) ++ below := by rw [State.frames_setTop' g h.top, hmid]; rfl
  obtain ⟨o, s₂, hsteps, -, hend, hq⟩ := Steps.callFree hM p X.admits X.cas X.clock (acts := []) hfr happ hPc trivial
  have hq' : vx_Q Qc XC mc ms free a (U.calling g mk a) o s₂ := hq
  rw [State.frames_setTop' g h.top] at hend
  obtain ⟨g₀, hg0⟩ := Option.isSome_iff_exists.mp h.top
  obtain ⟨r, hr⟩ := State.topJava?_eq_some.mp hg0
  have hr' : (({ U with heap := s₂.heap, slotsUsed := s₂.slotsUsed } : State).setVm s₂.vm).frames = .java g₀ :: r := hr
  rcases hq' with ⟨hqc, L, hfe, hL⟩ | ⟨q, rfl, E, ce, L, hx, hce, hcv, hcl, hW₂, hsm, hL⟩
  · obtain ⟨⟨v, rfl⟩, hW₂, e2, q2, q3, q4, q5, q6⟩ := id hfe
    have e3 : s₂ = ({ (U.calling g mk a).setFrames s₂.frames with heap := s₂.heap, slotsUsed := s₂.slotsUsed } : State).setVm s₂.vm := by
      have : s₂ = ({ s₂ with vm := (U.calling g mk a).vm } : State).setVm s₂.vm := rfl
      rw [e2] at this
      exact this
    obtain ⟨c₂, i₂, len₂, hc₂, hd₂, hf₂⟩ := hend
    have hW' : U.WarmedH s₂.vm := hW₂
    have hcc : c₂ = c := by
      have h1 : s₂.code? g.method = U.code? g.method := by
        rw [State.code?_eq, State.code?_eq, hW'.alike.method?]
      exact Option.some.inj (hc₂.symm.trans (h1.trans h.code))
    subst hcc
    have hlen : len₂ = len := by rw [hdg] at hd₂; cases hd₂; rfl
    subst hlen
    have hs₂ : s₂ = (({ U with heap := s₂.heap, slotsUsed := s₂.slotsUsed } : State).setVm s₂.vm).setTop { g with pc := g.pc + len₂, stack := v.toList ++ g.stack } := by
      refine e3.trans ?_
      rw [hf₂, State.calling_eq h.top, State.setFrames_setFrames, State.setTop_of_frames _ hr', hr]
      rfl
    have hsame : U.sameButNew ({ U with heap := s₂.heap, slotsUsed := s₂.slotsUsed } : State) L mc ms := by
      refine ⟨?_, q2, q3, q4, q5, q6⟩
      obtain ⟨t, ht, -⟩ := State.frames_cons hr
      show ({ U with heap := s₂.heap, slotsUsed := s₂.slotsUsed } : State) = { U.setFrames U.frames with heap := s₂.heap, slotsUsed := s₂.slotsUsed }
      rw [State.setFrames_self ht]
    subst hg
    refine Or.inl ⟨v, ⟨(({ U with heap := s₂.heap, slotsUsed := s₂.slotsUsed } : State).setVm s₂.vm), Ls ++ L, c0 + mc, s0 + ms⟩,
      ⟨X.admits, X.cas, X.clock, X.frames, X.room, X.hears, X.method, X.code, (X.here.setHeapUsed s₂.heap s₂.slotsUsed).setVm hW'.alike, X.tail, State.WarmedH.trans X.warmed hW', X.limits, X.bytes, X.same.trans (hsame.setVm s.vm)⟩,
      ⟨g, mk, s₂, L, rfl, rfl, hqc, rfl, hL, rfl, rfl⟩, ?_⟩
    show Steps p.tables e below _ ((({ U with heap := s₂.heap, slotsUsed := s₂.slotsUsed } : State).setVm s₂.vm).setTop { g with pc := g.pc + len₂, stack := v.toList ++ g.stack })
    rw [← hs₂]
    exact hsteps
  · obtain ⟨e2, q2, q3, q4, q5, q6⟩ := id hsm
    have e3 : s₂ = ({ (U.calling g mk a).setFrames s₂.frames with heap := s₂.heap, slotsUsed := s₂.slotsUsed } : State).setVm s₂.vm := by
      have : s₂ = ({ s₂ with vm := (U.calling g mk a).vm } : State).setVm s₂.vm := rfl
      rw [e2] at this
      exact this
    have hf₂ : s₂.frames = .throwing q :: .java g :: U.frames.tail := hend
    have hW' : U.WarmedH s₂.vm := hW₂
    have hs₂ : s₂ = ((({ U with heap := s₂.heap, slotsUsed := s₂.slotsUsed } : State).setVm s₂.vm).setTop g).pushFrame (.throwing q) := by
      refine e3.trans ?_
      rw [hf₂, State.calling_eq h.top, State.setFrames_setFrames, State.pushFrame, State.frames_setTop _ hr', State.setTop_of_frames _ hr', State.setFrames_setFrames, hr]
      rfl
    have hsame : U.sameButNew ({ U with heap := s₂.heap, slotsUsed := s₂.slotsUsed } : State) L mc ms := by
      refine ⟨?_, q2, q3, q4, q5, q6⟩
      obtain ⟨t, ht, -⟩ := State.frames_cons hr
      show ({ U with heap := s₂.heap, slotsUsed := s₂.slotsUsed } : State) = { U.setFrames U.frames with heap := s₂.heap, slotsUsed := s₂.slotsUsed }
      rw [State.setFrames_self ht]
    subst hg
    refine Or.inr ⟨q, ⟨(({ U with heap := s₂.heap, slotsUsed := s₂.slotsUsed } : State).setVm s₂.vm), Ls ++ L, c0 + mc, s0 + ms⟩,
      ⟨X.admits, X.cas, X.clock, X.frames, X.room, X.hears, X.method, X.code, (X.here.setHeapUsed s₂.heap s₂.slotsUsed).setVm hW'.alike, X.tail, State.WarmedH.trans X.warmed hW', X.limits, X.bytes, X.same.trans (hsame.setVm s.vm)⟩,
      ⟨g, mk, s₂, L, E, ce, rfl, rfl, hx, hce, hcv, hcl, rfl, hL, rfl, rfl⟩, ?_⟩
    show Steps p.tables e below _ (((({ U with heap := s₂.heap, slotsUsed := s₂.slotsUsed } : State).setVm s₂.vm).setTop g).pushFrame (.throwing q))
    rw [← hs₂]
    exact hsteps
end
variable {p : Program} {l : Launch} {e : Env} {R : Room} {s : State} {m : MethodId} {args : Array Value} {below : List Frame} {meth : Method} {c : Code} {T : State} {H : Heap} {locs : List Loc} {cells slots : Nat}
theorem vx_callVX (X : Stand p l e R s m args below meth c T locs cells slots) (hexec : p.tables.exec = Jvm.exec) {own C : String} {index : Nat} {y : MethodName} {bytes : ByteArray} {maxL : Nat} {ret : Option FieldType} {hh : List (Nat × Nat × Nat × Nat)}
    (hown : s.vm.findClass own = some m.cls) (hlink : (Cond.methodLink own index y).before args s = true) (hinst : (Cond.instanceMethod y).before args s = true) (hsel : (Cond.selects C y y).before args s = true)
    (hcode : (Cond.codeWith y bytes maxL ret hh).before args s = true) (hy : y.cls ≠ "java/lang/invoke/MethodHandle" ∧ y.cls ≠ "java/lang/invoke/VarHandle")
    {W9 : Nat} {Pre : Pt → Array Value → Prop} {Post : Pt → Array Value → Option Value → Pt → Prop} {PostX : Pt → Array Value → Addr → Pt → Prop} (hK : vx_Back l R p e below s args y 3 W9 Pre Post PostX)
    {b : Addr} {cellB : Cell} (hcell : T.heap[b]? = some cellB) (hobj : cellB.vm.isStatics = false) (hcls : s.vm.findClass C = some cellB.cls)
    {g : JFrame} (hg : g.method = m) (hsize : g.locals.size = c.maxLocals) {argsL rest : List Value} (hlen : ∀ sig, parseMethodDescriptor y.desc = some sig → argsL.length = sig.parameters.length)
    (hstack : g.stack = argsL.reverse ++ .ref b :: rest) (hW : 2 * g.monitorRoom + (rest.map fun v => v.category).sum ≤ W9) (hdg : decode c.code g.pc = .ok (.invokevirtual index, 3))
    (hpre : ∀ vm₁, s.WarmedH vm₁ → Pre ⟨T.setVm vm₁, locs, cells, slots⟩ (Value.ref b :: argsL).toArray) :
    (∃ (v : Option Value) (vm₁ : Vm) (B : Pt), s.WarmedH vm₁ ∧ Stand p l e R s m args below meth c B.U B.locs B.cells B.slots ∧ Post ⟨T.setVm vm₁, locs, cells, slots⟩ (Value.ref b :: argsL).toArray v B ∧
      ∀ target, Steps p.tables e below (B.U.setTop { g with pc := g.pc + 3, stack := v.toList ++ rest }) target → Steps p.tables e below (T.setTop g) target) ∨
    (∃ (q : Addr) (vm₁ : Vm) (B : Pt), s.WarmedH vm₁ ∧ Stand p l e R s m args below meth c B.U B.locs B.cells B.slots ∧ PostX ⟨T.setVm vm₁, locs, cells, slots⟩ (Value.ref b :: argsL).toArray q B ∧
      Steps p.tables e below (T.setTop g) ((B.U.setTop { g with stack := rest }).pushFrame (.throwing q))) := by
  obtain ⟨mk, methM, hnamed, hmethM, hstM, habM⟩ := Cond.instanceMethod_spec hinst
  obtain ⟨m8, methM', cM, hn8, hmethM', -, -, -, -, -, -, hsigM⟩ := Cond.codeWith_spec hcode
  cases Option.some.inj (hn8.symm.trans hnamed)
  cases hmethM.symm.trans hmethM'
  obtain ⟨c2, r2, m2, q1, q2, q3, q4, kP, hkP, hkPi⟩ := Cond.selects_spec hsel
  cases hcls.symm.trans q1
  cases (State.methodFound?_of_named hnamed hy).symm.trans q2
  cases hnamed.symm.trans q3
  have hselP : selectMethod e.platform s.vm cellB.cls mk = .method mk := by rw [Launch.admits_selectMethod X.admits]; exact q4
  obtain ⟨vm₁, X₁, hstep₁⟩ := X.invokevirtual hexec hown hlink hnamed hmethM hstM hkP hkPi hy (a := b) (cell := cellB) hcell
    (fun z h => by rw [h] at hobj; cases hobj) hselP hmethM habM hkP hkPi (g := g) hg (argsL := argsL) (rest := rest) (hlen _ hsigM) hstack hdg
  rcases hK m meth c ⟨T.setVm vm₁, locs, cells, slots⟩ { g with stack := rest } (.invokevirtual index) mk (Value.ref b :: argsL).toArray X₁ hg hsize hdg hW (X₁.named hnamed) (hpre vm₁ X₁.warmed) with ⟨v, B, X', hpost, hsteps⟩ | ⟨q, B, X', hpost, hsteps⟩
  · exact Or.inl ⟨v, vm₁, B, X₁.warmed, X', hpost, fun target h => hstep₁ _ fun acts => by rw [doInvoke_state]; exact hsteps.trans h⟩
  · exact Or.inr ⟨q, vm₁, B, X₁.warmed, X', hpost, hstep₁ _ fun acts => by rw [doInvoke_state]; exact hsteps⟩
theorem vx_callSX (X : Stand p l e R s m args below meth c T locs cells slots) (hexec : p.tables.exec = Jvm.exec) {own : String} {index : Nat} {y : MethodName} {bytes : ByteArray} {maxL : Nat} {ret : Option FieldType} {hh : List (Nat × Nat × Nat × Nat)}
    (hown : s.vm.findClass own = some m.cls) (hlink : (Cond.methodLink own index y).before args s = true) (hstat : (Cond.static y).before args s = true) (hinit : (Cond.initialized y.cls).before args s = true)
    (hcode : (Cond.codeWith y bytes maxL ret hh).before args s = true) (hy : y.cls ≠ "java/lang/invoke/MethodHandle" ∧ y.cls ≠ "java/lang/invoke/VarHandle")
    {W9 : Nat} {Pre : Pt → Array Value → Prop} {Post : Pt → Array Value → Option Value → Pt → Prop} {PostX : Pt → Array Value → Addr → Pt → Prop} (hK : vx_Back l R p e below s args y 3 W9 Pre Post PostX)
    {g : JFrame} (hg : g.method = m) (hsize : g.locals.size = c.maxLocals) {argsL rest : List Value} (hlen : ∀ sig, parseMethodDescriptor y.desc = some sig → argsL.length = sig.parameters.length)
    (hstack : g.stack = argsL.reverse ++ rest) (hW : 2 * g.monitorRoom + (rest.map fun v => v.category).sum ≤ W9) (hdg : decode c.code g.pc = .ok (.invokestatic index, 3))
    (hpre : ∀ vm₁, s.WarmedH vm₁ → Pre ⟨T.setVm vm₁, locs, cells, slots⟩ argsL.toArray) :
    (∃ (v : Option Value) (vm₁ : Vm) (B : Pt), s.WarmedH vm₁ ∧ Stand p l e R s m args below meth c B.U B.locs B.cells B.slots ∧ Post ⟨T.setVm vm₁, locs, cells, slots⟩ argsL.toArray v B ∧
      ∀ target, Steps p.tables e below (B.U.setTop { g with pc := g.pc + 3, stack := v.toList ++ rest }) target → Steps p.tables e below (T.setTop g) target) ∨
    (∃ (q : Addr) (vm₁ : Vm) (B : Pt), s.WarmedH vm₁ ∧ Stand p l e R s m args below meth c B.U B.locs B.cells B.slots ∧ PostX ⟨T.setVm vm₁, locs, cells, slots⟩ argsL.toArray q B ∧
      Steps p.tables e below (T.setTop g) ((B.U.setTop { g with stack := rest }).pushFrame (.throwing q))) := by
  obtain ⟨mk, methM, cM, hnamed, hmethM, -, -, -, -, -, -, hsigM⟩ := Cond.codeWith_spec hcode
  have hstatic : methM.isStatic = true := Cond.static_spec hnamed hmethM hstat
  obtain ⟨kP, hkP, -⟩ := className_of_methodNamed hnamed
  have hinitP : kP.init = .initialized := Cond.initialized_spec (findClass_of_methodNamed hnamed) hkP hinit
  obtain ⟨vm₁, X₁, hstep₁⟩ := X.invokestatic hexec hown hlink hnamed hmethM hstatic hkP hinitP hy (g := g) hg (argsL := argsL) (rest := rest) (hlen _ hsigM) hstack hdg
  rcases hK m meth c ⟨T.setVm vm₁, locs, cells, slots⟩ { g with stack := rest } (.invokestatic index) mk argsL.toArray X₁ hg hsize hdg hW (X₁.named hnamed) (hpre vm₁ X₁.warmed) with ⟨v, B, X', hpost, hsteps⟩ | ⟨q, B, X', hpost, hsteps⟩
  · exact Or.inl ⟨v, vm₁, B, X₁.warmed, X', hpost, fun target h => hstep₁ _ fun acts => by rw [doInvoke_state]; exact hsteps.trans h⟩
  · exact Or.inr ⟨q, vm₁, B, X₁.warmed, X', hpost, hstep₁ _ fun acts => by rw [doInvoke_state]; exact hsteps⟩
theorem vx_callVW (X : Stand p l e R s m args below meth c T locs cells slots) (hexec : p.tables.exec = Jvm.exec) {own C : String} {index : Nat} {y : MethodName} {bytes : ByteArray} {maxL : Nat} {ret : Option FieldType} {hh : List (Nat × Nat × Nat × Nat)}
    (hown : s.vm.findClass own = some m.cls) (hlink : (Cond.methodLink own index y).before args s = true) (hinst : (Cond.instanceMethod y).before args s = true) (hsel : (Cond.selects C y y).before args s = true)
    (hcode : (Cond.codeWith y bytes maxL ret hh).before args s = true) (hy : y.cls ≠ "java/lang/invoke/MethodHandle" ∧ y.cls ≠ "java/lang/invoke/VarHandle")
    {W9 : Nat} {Pre : Pt → Array Value → Prop} {Post : Pt → Array Value → Option Value → Pt → Prop} (hK : Back l R p e below s args y 3 W9 Pre Post)
    {b : Addr} {cellB : Cell} (hcell : T.heap[b]? = some cellB) (hobj : cellB.vm.isStatics = false) (hcls : s.vm.findClass C = some cellB.cls)
    {g : JFrame} (hg : g.method = m) (hsize : g.locals.size = c.maxLocals) {argsL rest : List Value} (hlen : ∀ sig, parseMethodDescriptor y.desc = some sig → argsL.length = sig.parameters.length)
    (hstack : g.stack = argsL.reverse ++ .ref b :: rest) (hW : 2 * g.monitorRoom + (rest.map fun v => v.category).sum ≤ W9) (hdg : decode c.code g.pc = .ok (.invokevirtual index, 3))
    (hpre : ∀ vm₁, s.WarmedH vm₁ → Pre ⟨T.setVm vm₁, locs, cells, slots⟩ (Value.ref b :: argsL).toArray) :
    ∃ (v : Option Value) (vm₁ : Vm) (B : Pt), s.WarmedH vm₁ ∧ Stand p l e R s m args below meth c B.U B.locs B.cells B.slots ∧ Post ⟨T.setVm vm₁, locs, cells, slots⟩ (Value.ref b :: argsL).toArray v B ∧
      ∀ target, Steps p.tables e below (B.U.setTop { g with pc := g.pc + 3, stack := v.toList ++ rest }) target → Steps p.tables e below (T.setTop g) target := by
  obtain ⟨mk, methM, hnamed, hmethM, hstM, habM⟩ := Cond.instanceMethod_spec hinst
  obtain ⟨m8, methM', cM, hn8, hmethM', -, -, -, -, -, -, hsigM⟩ := Cond.codeWith_spec hcode
  cases Option.some.inj (hn8.symm.trans hnamed)
  cases hmethM.symm.trans hmethM'
  obtain ⟨c2, r2, m2, q1, q2, q3, q4, kP, hkP, hkPi⟩ := Cond.selects_spec hsel
  cases hcls.symm.trans q1
  cases (State.methodFound?_of_named hnamed hy).symm.trans q2
  cases hnamed.symm.trans q3
  have hselP : selectMethod e.platform s.vm cellB.cls mk = .method mk := by rw [Launch.admits_selectMethod X.admits]; exact q4
  obtain ⟨vm₁, X₁, hstep₁⟩ := X.invokevirtual hexec hown hlink hnamed hmethM hstM hkP hkPi hy (a := b) (cell := cellB) hcell
    (fun z h => by rw [h] at hobj; cases hobj) hselP hmethM habM hkP hkPi (g := g) hg (argsL := argsL) (rest := rest) (hlen _ hsigM) hstack hdg
  obtain ⟨v, B, X', hpost, hsteps⟩ := hK m meth c ⟨T.setVm vm₁, locs, cells, slots⟩ { g with stack := rest } (.invokevirtual index) mk (Value.ref b :: argsL).toArray X₁ hg hsize hdg hW (X₁.named hnamed) (hpre vm₁ X₁.warmed)
  exact ⟨v, vm₁, B, X₁.warmed, X', hpost, fun target h => hstep₁ _ fun acts => by rw [doInvoke_state]; exact hsteps.trans h⟩
abbrev vx_CVW (R : Room) (s : State) (args : Array Value) (own C : String) (index : Nat) (y : MethodName) (bytes : ByteArray) (maxL : Nat) (ret : Option FieldType) (hh : List (Nat × Nat × Nat × Nat)) (ws : List Cond) (rm : Room) (mc ms n : Nat) : Prop :=
  (rm.cells = mc ∧ rm.slots = ms ∧ rm.frames + 1 ≤ R.frames ∧ 8 + (maxL + 11) + rm.locals ≤ R.locals ∧ (∀ w ∈ ws, ∀ (a' : Array Value) (U : State), s.WarmedH U.vm → w.before a' U = true) ∧ Cond.codeWith y bytes maxL ret hh ∈ ws) ∧
  (Cond.codeWith y bytes maxL ret hh).before args s = true ∧ (Cond.initialized y.cls).before args s = true ∧ (y.cls ≠ "java/lang/invoke/MethodHandle" ∧ y.cls ≠ "java/lang/invoke/VarHandle") ∧
  (∀ sig, parseMethodDescriptor y.desc = some sig → n = sig.parameters.length) ∧ (Cond.methodLink own index y).before args s = true ∧ (Cond.instanceMethod y).before args s = true ∧ (Cond.selects C y y).before args s = true
theorem vx_cwVW {own C : String} {index maxL mc ms : Nat} {y : MethodName} {bytes : ByteArray} {ret : Option FieldType} {hh : List (Nat × Nat × Nat × Nat)} {Ts ws ws' : List Cond} {rm : Room} (n : Nat) (ht : ∀ w ∈ Ts, w.before args s = true) (hT : GoodIn Ts (wsV own index C y ws)) (hw : ws = Cond.codeWith y bytes maxL ret hh :: ws') (hrc : rm.cells = mc) (hrs : rm.slots = ms)
    (hd : y.cls = C ∧ y.cls ≠ "java/lang/invoke/MethodHandle" ∧ y.cls ≠ "java/lang/invoke/VarHandle" ∧ (parseMethodDescriptor y.desc).map (fun d => d.parameters.length) = some n) (hR : rm.frames + 1 ≤ R.frames ∧ 8 + (maxL + 11) + rm.locals ≤ R.locals) :
    vx_CVW R s args own C index y bytes maxL ret hh ws rm mc ms n := by
  obtain ⟨hC, hd⟩ := hd
  subst hC
  have ok : ∀ w ∈ wsV own index y.cls y ws, w.before args s = true := fun w h => ht w (hT w h).1
  have hG : GoodIn Ts ws := fun w h => hT w (by unfold wsV; exact List.mem_append_right _ h)
  have hc : Cond.codeWith y bytes maxL ret hh ∈ ws := by rw [hw]; exact List.mem_cons_self
  refine ⟨⟨hrc, hrs, hR.1, hR.2, pay_in ht hG, hc⟩, ht _ (hG _ hc).1, ok _ (by simp [wsV]), ⟨hd.1, hd.2.1⟩, fun sig h => ?_, ok _ (by simp [wsV]), ok _ (by simp [wsV]), ok _ (by simp [wsV])⟩
  have h2 := hd.2.2
  rw [h] at h2
  exact (Option.some.inj h2).symm
theorem vx_runVW {y : MethodName} {bytes cc : ByteArray} {maxL nL mc ms n index : Nat} {ret : Option FieldType} {hh : List (Nat × Nat × Nat × Nat)} {ws : List Cond} {rm : Room} {Pc : Array Value → State → Prop} {Qc : Array Value → State → Outcome → State → Prop} {free : Addr → Prop} {Ts : List Cond} {own C : String} {b : Addr} {As rest : List Value} {g : JFrame}
    (S : CallFix p m c cc nL s args Ts own) (hM : Met l y ws rm Pc Qc mc ms free) (cw : vx_CVW R s args own C index y bytes maxL ret hh ws rm mc ms n) (hp : PreV s H C b Pc As)
    (hg : g.method = m) (hn : As.length = n) (hsize : g.locals.size = nL) (hstack : g.stack = As.reverse ++ .ref b :: rest) (hW : 2 * g.monitorRoom + (rest.map fun v => v.category).sum ≤ 8) (hdg : decode cc g.pc = .ok (.invokevirtual index, 3)) (hf : cells + mc ≤ R.cells ∧ slots + ms ≤ R.slots) :
    va_Run p l e R s m args below meth c H locs cells slots mc ms g rest (Qc (Value.ref b :: As).toArray) free := by
  obtain ⟨⟨hrc, hrs, hfr, hlo, hws, hcw⟩, hcode, hini, hy, hlen, hl, hin, hse⟩ := cw
  have hK : Back l R p e below s args y 3 8 (PreOf R mc ms Pc) (PostOf Qc mc ms free) := va_backW (hh := hh) (bytes := bytes) (maxL := maxL) (ret := ret) hM hp.1 hrc hrs hfr hlo hws hcw (fun a' U hW => word_at hW (Or.inl (by first | rfl | simp [Cond.onTables, Cond.keeps, Cond.steady])) hini)
  obtain ⟨hx, hb, hml, ho, -⟩ := S
  obtain ⟨-, ⟨cellB, hcB, hoB, hclB⟩, hPc⟩ := hp
  intro T hT X
  obtain ⟨v, vm₁, ⟨U', l2, c2, s2⟩, hW₁, X', ⟨g', mk, t, L, e1, e2, hq, h1, hL, h2, h3⟩, st⟩ := vx_callVW X hx (C := C) (hh := hh) (bytes := bytes) (maxL := maxL) (ret := ret) ho hl hin hse hcode hy hK (by rw [hT]; exact hcB) hoB hclB hg (hsize.trans hml.symm) (argsL := As) (rest := rest) (fun sig h => hn.trans (hlen sig h)) hstack hW (by rw [hb]; exact hdg)
    (fun vm₁ hW₁ => ⟨hf.1, hf.2, hPc (T.setVm vm₁) hT hW₁⟩)
  dsimp only [Pt.U, Pt.locs, Pt.cells, Pt.slots] at X' e1 e2 h1 h2 h3 st
  subst h1; subst h2; subst h3
  exact ⟨v, (T.setVm vm₁).calling g' mk (Value.ref b :: As).toArray, t, U', L, hT, X', hL, e1, e2, hq, st⟩
section
variable {y : MethodName} {bytes cc : ByteArray} {maxL nL mc ms n index : Nat} {ret : Option FieldType} {ws : List Cond} {rm : Room} {Pc : Array Value → State → Prop} {Qc : Array Value → State → Outcome → State → Prop} {XC : String → State → State → Prop} {free : Addr → Prop} {Ts : List Cond} {own C : String} {b : Addr} {As rest : List Value} {g : JFrame}
theorem vx_runVX {hh : List (Nat × Nat × Nat × Nat)} (S : CallFix p m c cc nL s args Ts own) (hM : vx_Met l y ws rm Pc Qc XC mc ms free) (cw : vx_CVW R s args own C index y bytes maxL ret hh ws rm mc ms n) (hp : PreV s H C b Pc As)
    (hg : g.method = m) (hn : As.length = n) (hsize : g.locals.size = nL) (hstack : g.stack = As.reverse ++ .ref b :: rest) (hW : 2 * g.monitorRoom + (rest.map fun v => v.category).sum ≤ 8) (hdg : decode cc g.pc = .ok (.invokevirtual index, 3)) (hf : cells + mc ≤ R.cells ∧ slots + ms ≤ R.slots) :
    vx_Run p l e R s m args below meth c H locs cells slots mc ms g rest (Qc (Value.ref b :: As).toArray) XC free := by
  obtain ⟨⟨hrc, hrs, hfr, hlo, hws, hcw⟩, hcode, hini, hy, hlen, hl, hin, hse⟩ := cw
  have hK : vx_Back l R p e below s args y 3 8 (PreOf R mc ms Pc) (PostOf Qc mc ms free) (vx_Post XC mc ms free) := vx_backW (hh := hh) (bytes := bytes) (maxL := maxL) (ret := ret) hM hp.1 hrc hrs hfr hlo hws hcw (fun a' U hW => word_at hW (Or.inl (by first | rfl | simp [Cond.onTables, Cond.keeps, Cond.steady])) hini)
  obtain ⟨hx, hb, hml, ho, -⟩ := S
  obtain ⟨-, ⟨cellB, hcB, hoB, hclB⟩, hPc⟩ := hp
  intro T hT X
  rcases vx_callVX X hx (C := C) (hh := hh) (bytes := bytes) (maxL := maxL) (ret := ret) ho hl hin hse hcode hy hK (by rw [hT]; exact hcB) hoB hclB hg (hsize.trans hml.symm) (argsL := As) (rest := rest) (fun sig h => hn.trans (hlen sig h)) hstack hW (by rw [hb]; exact hdg)
    (fun vm₁ hW₁ => ⟨hf.1, hf.2, hPc (T.setVm vm₁) hT hW₁⟩) with ⟨v, vm₁, ⟨U', l2, c2, s2⟩, hW₁, X', ⟨g', mk, t, L, e1, e2, hq, h1, hL, h2, h3⟩, st⟩ | ⟨q, vm₁, ⟨U', l2, c2, s2⟩, hW₁, X', ⟨g', mk, t, L, E, ce, e1, e2, hq, hce, hcv, hcl, h1, hL, h2, h3⟩, st⟩
  · dsimp only [Pt.U, Pt.locs, Pt.cells, Pt.slots] at X' e1 e2 h1 h2 h3 st
    subst h1; subst h2; subst h3
    exact Or.inl ⟨v, (T.setVm vm₁).calling g' mk (Value.ref b :: As).toArray, t, U', L, hT, X', hL, e1, e2, hq, st⟩
  · dsimp only [Pt.U, Pt.locs, Pt.cells, Pt.slots] at X' e1 e2 h1 h2 h3 st hcl
    subst h1; subst h2; subst h3
    exact Or.inr ⟨q, (T.setVm vm₁).calling g' mk (Value.ref b :: As).toArray, t, U', L, E, ce, hT, X', hL, e1, e2, hq, hce, hcv, vx_cls hW₁ hcl, st⟩
theorem vx_runSX {hh : List (Nat × Nat × Nat × Nat)} (S : CallFix p m c cc nL s args Ts own) (hM : vx_Met l y ws rm Pc Qc XC mc ms free) (cw : vx_CSW R s args own index y bytes maxL ret hh ws rm mc ms n) (hp : PreS s H Pc As)
    (hg : g.method = m) (hn : As.length = n) (hsize : g.locals.size = nL) (hstack : g.stack = As.reverse ++ rest) (hW : 2 * g.monitorRoom + (rest.map fun v => v.category).sum ≤ 8) (hdg : decode cc g.pc = .ok (.invokestatic index, 3)) (hf : cells + mc ≤ R.cells ∧ slots + ms ≤ R.slots) :
    vx_Run p l e R s m args below meth c H locs cells slots mc ms g rest (Qc As.toArray) XC free := by
  obtain ⟨⟨hrc, hrs, hfr, hlo, hws, hcw⟩, hcode, hini, hy, hlen, hl, hstt⟩ := cw
  have hK : vx_Back l R p e below s args y 3 8 (PreOf R mc ms Pc) (PostOf Qc mc ms free) (vx_Post XC mc ms free) := vx_backW (hh := hh) (bytes := bytes) (maxL := maxL) (ret := ret) hM hp.1 hrc hrs hfr hlo hws hcw (fun a' U hW => word_at hW (Or.inl (by first | rfl | simp [Cond.onTables, Cond.keeps, Cond.steady])) hini)
  obtain ⟨hx, hb, hml, ho, -⟩ := S
  intro T hT X
  rcases vx_callSX X hx (hh := hh) (bytes := bytes) (maxL := maxL) (ret := ret) ho hl hstt hini hcode hy hK hg (hsize.trans hml.symm) (argsL := As) (rest := rest) (fun sig h => hn.trans (hlen sig h)) hstack hW (by rw [hb]; exact hdg)
    (fun vm₁ hW₁ => ⟨hf.1, hf.2, hp.2 (T.setVm vm₁) hT hW₁⟩) with ⟨v, vm₁, ⟨U', l2, c2, s2⟩, hW₁, X', ⟨g', mk, t, L, e1, e2, hq, h1, hL, h2, h3⟩, st⟩ | ⟨q, vm₁, ⟨U', l2, c2, s2⟩, hW₁, X', ⟨g', mk, t, L, E, ce, e1, e2, hq, hce, hcv, hcl, h1, hL, h2, h3⟩, st⟩
  · dsimp only [Pt.U, Pt.locs, Pt.cells, Pt.slots] at X' e1 e2 h1 h2 h3 st
    subst h1; subst h2; subst h3
    exact Or.inl ⟨v, (T.setVm vm₁).calling g' mk As.toArray, t, U', L, hT, X', hL, e1, e2, hq, st⟩
  · dsimp only [Pt.U, Pt.locs, Pt.cells, Pt.slots] at X' e1 e2 h1 h2 h3 st hcl
    subst h1; subst h2; subst h3
    exact Or.inr ⟨q, (T.setVm vm₁).calling g' mk As.toArray, t, U', L, E, ce, hT, X', hL, e1, e2, hq, hce, hcv, vx_cls hW₁ hcl, st⟩
end
end VXH
theorem vx_ofWH {l : Launch} {y : MethodName} {ws ws' : List Cond} {rm : Room} {Pc : Array Value → State → Prop} {Qc : Array Value → State → Outcome → State → Prop} {XC : String → State → State → Prop} {mc ms : Nat} {free : Addr → Prop} {cc : ByteArray} {maxL : Nat} {ret : Option FieldType} {hh : List (Nat × Nat × Nat × Nat)}
    (hy : plainName y.cls = true) (hw : ws = Cond.codeWith y cc maxL ret hh :: ws')
    (body : ∀ p e s m args below meth c s₁, BodyLoose p l y (headSpec ws rm) cc maxL ret e s m args below meth c s₁ → c.maxLocals = maxL → Pc args s →
      W p l e (headSpec ws rm).room s m args below meth c s.heap [] 0 0 (vx_MQ below Qc XC args s mc ms free) (entryFrame m args maxL)) : vx_Met l y ws rm Pc Qc XC mc ms free := by
  refine MetFree.of_bodyS (code := cc) (maxLocals := maxL) (ret := ret) hy ?_ ?_
  · intro args s m h hn
    obtain ⟨m9, meth, c, hn9, h1, h2, h3, h4, -, h5, h6, -⟩ := Cond.codeWith_spec (atoms_spec (ws := ws) h _ (by rw [hw]; exact List.mem_cons_self))
    cases hn.symm.trans hn9
    exact ⟨meth, c, h1, h2, h3, h4, h5, h6⟩
  · intro p e s m args below meth c s₁ B hml hP _
    have hh0 : s₁.heap = s.heap := by rw [B.state]; rfl
    obtain ⟨t, a1, o, b1, b2, b3⟩ := body p e s m args below meth c s₁ B hml hP s₁ hh0 (Stand.of_body B)
    exact ⟨t, o, a1, b1, b2, b3⟩
/-! ===== END ===== -/
end
section
section RWN
variable {p : Program} {l : Launch} {e : Env} {R : Room} {s : State} {m : MethodId} {args : Array Value} {below : List Frame} {meth : Method} {c : Code} {H : Heap} {locs : List Loc} {cells slots : Nat} {Q : State → Prop}
variable {cc : ByteArray} {pc : Nat} {ls : Array Slot} {rest : List Value}
theorem ln_iadd (hx : p.tables.exec = Jvm.exec) (hb : c.code = cc) {a b : Nat} (hdg : decode cc pc = .ok (.iadd, 1)) (k : W p l e R s m args below meth c H locs cells slots Q (F0 m (pc + 1) ls (.int (nI (a + b)) :: rest))) : W p l e R s m args below meth c H locs cells slots Q (F0 m pc ls (.int (nI b) :: .int (nI a) :: rest)) := lv_iadd hx hb hdg (by rw [nI_add]; exact k)
theorem ln_isub (hx : p.tables.exec = Jvm.exec) (hb : c.code = cc) {a b : Nat} (hdg : decode cc pc = .ok (.isub, 1)) (h : b ≤ a) (k : W p l e R s m args below meth c H locs cells slots Q (F0 m (pc + 1) ls (.int (nI (a - b)) :: rest))) : W p l e R s m args below meth c H locs cells slots Q (F0 m pc ls (.int (nI b) :: .int (nI a) :: rest)) := lv_isub hx hb hdg (by rw [pk_sub h]; exact k)
theorem ln_imul (hx : p.tables.exec = Jvm.exec) (hb : c.code = cc) {a b : Nat} (hdg : decode cc pc = .ok (.imul, 1)) (k : W p l e R s m args below meth c H locs cells slots Q (F0 m (pc + 1) ls (.int (nI (a * b)) :: rest))) : W p l e R s m args below meth c H locs cells slots Q (F0 m pc ls (.int (nI b) :: .int (nI a) :: rest)) := lv_imul hx hb hdg (by rw [pk_mul]; exact k)
theorem ln_idiv (hx : p.tables.exec = Jvm.exec) (hb : c.code = cc) {a b : Nat} (hdg : decode cc pc = .ok (.idiv, 1)) (ha : a < 2 ^ 31) (h0 : 0 < b) (hd : b < 2 ^ 31) (k : W p l e R s m args below meth c H locs cells slots Q (F0 m (pc + 1) ls (.int (nI (a / b)) :: rest))) : W p l e R s m args below meth c H locs cells slots Q (F0 m pc ls (.int (nI b) :: .int (nI a) :: rest)) := lv_idiv hx hb hdg (nI_ne0 h0 hd) (by rw [pk_div ha h0 hd]; exact k)
theorem ln_irem (hx : p.tables.exec = Jvm.exec) (hb : c.code = cc) {a b : Nat} (hdg : decode cc pc = .ok (.irem, 1)) (ha : a < 2 ^ 31) (h0 : 0 < b) (hd : b < 2 ^ 31) (k : W p l e R s m args below meth c H locs cells slots Q (F0 m (pc + 1) ls (.int (nI (a % b)) :: rest))) : W p l e R s m args below meth c H locs cells slots Q (F0 m pc ls (.int (nI b) :: .int (nI a) :: rest)) := lv_irem hx hb hdg (nI_ne0 h0 hd) (by rw [pk_rem ha h0 hd]; exact k)
theorem ln_icmp_eq (hx : p.tables.exec = Jvm.exec) (hb : c.code = cc) {a b : Nat} {off : Int} {tgt : Nat} (ha : a < 2 ^ 31) (hb9 : b < 2 ^ 31) (hdg : decode cc pc = .ok (.if_icmp .eq off, 3)) (ht : (pc : Int) + off = (tgt : Int)) (kt : a = b → W p l e R s m args below meth c H locs cells slots Q (F0 m tgt ls rest)) (kf : a ≠ b → W p l e R s m args below meth c H locs cells slots Q (F0 m (pc + 3) ls rest)) : W p l e R s m args below meth c H locs cells slots Q (F0 m pc ls (.int (nI b) :: .int (nI a) :: rest)) := lv_icmp_eq hx hb hdg ht (fun q => kt ((nI_eq ha hb9).mp q)) (fun q => kf (fun w => q ((nI_eq ha hb9).mpr w)))
theorem ln_icmp_ne (hx : p.tables.exec = Jvm.exec) (hb : c.code = cc) {a b : Nat} {off : Int} {tgt : Nat} (ha : a < 2 ^ 31) (hb9 : b < 2 ^ 31) (hdg : decode cc pc = .ok (.if_icmp .ne off, 3)) (ht : (pc : Int) + off = (tgt : Int)) (kt : a ≠ b → W p l e R s m args below meth c H locs cells slots Q (F0 m tgt ls rest)) (kf : a = b → W p l e R s m args below meth c H locs cells slots Q (F0 m (pc + 3) ls rest)) : W p l e R s m args below meth c H locs cells slots Q (F0 m pc ls (.int (nI b) :: .int (nI a) :: rest)) := lv_icmp_ne hx hb hdg ht (fun q => kt (fun w => q ((nI_eq ha hb9).mpr w))) (fun q => kf ((nI_eq ha hb9).mp q))
theorem ln_icmp_lt (hx : p.tables.exec = Jvm.exec) (hb : c.code = cc) {a b : Nat} {off : Int} {tgt : Nat} (ha : a < 2 ^ 31) (hb9 : b < 2 ^ 31) (hdg : decode cc pc = .ok (.if_icmp .lt off, 3)) (ht : (pc : Int) + off = (tgt : Int)) (kt : a < b → W p l e R s m args below meth c H locs cells slots Q (F0 m tgt ls rest)) (kf : b ≤ a → W p l e R s m args below meth c H locs cells slots Q (F0 m (pc + 3) ls rest)) : W p l e R s m args below meth c H locs cells slots Q (F0 m pc ls (.int (nI b) :: .int (nI a) :: rest)) := lv_icmp_lt hx hb hdg ht (fun q => kt ((nI_ltI ha hb9).mp q)) (fun q => kf (by have w := mt (nI_ltI ha hb9).mpr q; omega))
theorem ln_icmp_ge (hx : p.tables.exec = Jvm.exec) (hb : c.code = cc) {a b : Nat} {off : Int} {tgt : Nat} (ha : a < 2 ^ 31) (hb9 : b < 2 ^ 31) (hdg : decode cc pc = .ok (.if_icmp .ge off, 3)) (ht : (pc : Int) + off = (tgt : Int)) (kt : b ≤ a → W p l e R s m args below meth c H locs cells slots Q (F0 m tgt ls rest)) (kf : a < b → W p l e R s m args below meth c H locs cells slots Q (F0 m (pc + 3) ls rest)) : W p l e R s m args below meth c H locs cells slots Q (F0 m pc ls (.int (nI b) :: .int (nI a) :: rest)) := lv_icmp_ge hx hb hdg ht (fun q => kt ((nI_leI hb9 ha).mp q)) (fun q => kf (by have w := mt (nI_leI hb9 ha).mpr q; omega))
theorem ln_icmp_gt (hx : p.tables.exec = Jvm.exec) (hb : c.code = cc) {a b : Nat} {off : Int} {tgt : Nat} (ha : a < 2 ^ 31) (hb9 : b < 2 ^ 31) (hdg : decode cc pc = .ok (.if_icmp .gt off, 3)) (ht : (pc : Int) + off = (tgt : Int)) (kt : b < a → W p l e R s m args below meth c H locs cells slots Q (F0 m tgt ls rest)) (kf : a ≤ b → W p l e R s m args below meth c H locs cells slots Q (F0 m (pc + 3) ls rest)) : W p l e R s m args below meth c H locs cells slots Q (F0 m pc ls (.int (nI b) :: .int (nI a) :: rest)) := lv_icmp_gt hx hb hdg ht (fun q => kt ((nI_ltI hb9 ha).mp q)) (fun q => kf (by have w := mt (nI_ltI hb9 ha).mpr q; omega))
theorem ln_icmp_le (hx : p.tables.exec = Jvm.exec) (hb : c.code = cc) {a b : Nat} {off : Int} {tgt : Nat} (ha : a < 2 ^ 31) (hb9 : b < 2 ^ 31) (hdg : decode cc pc = .ok (.if_icmp .le off, 3)) (ht : (pc : Int) + off = (tgt : Int)) (kt : a ≤ b → W p l e R s m args below meth c H locs cells slots Q (F0 m tgt ls rest)) (kf : b < a → W p l e R s m args below meth c H locs cells slots Q (F0 m (pc + 3) ls rest)) : W p l e R s m args below meth c H locs cells slots Q (F0 m pc ls (.int (nI b) :: .int (nI a) :: rest)) := lv_icmp_le hx hb hdg ht (fun q => kt ((nI_leI ha hb9).mp q)) (fun q => kf (by have w := mt (nI_leI ha hb9).mpr q; omega))
theorem ln_if_eq (hx : p.tables.exec = Jvm.exec) (hb : c.code = cc) {a : Nat} {off : Int} {tgt : Nat} (ha : a < 2 ^ 31) (hdg : decode cc pc = .ok (.ifCond .eq off, 3)) (ht : (pc : Int) + off = (tgt : Int)) (kt : a = 0 → W p l e R s m args below meth c H locs cells slots Q (F0 m tgt ls rest)) (kf : 0 < a → W p l e R s m args below meth c H locs cells slots Q (F0 m (pc + 3) ls rest)) : W p l e R s m args below meth c H locs cells slots Q (F0 m pc ls (.int (nI a) :: rest)) := lv_if_eq hx hb hdg ht (fun q => kt (by rcases Nat.eq_zero_or_pos a with w | w; exact w; exact absurd q (nI_ne0 w ha))) (fun q => kf (by rcases Nat.eq_zero_or_pos a with w | w; exact absurd (by rw [w]; rfl) q; exact w))
theorem ln_if_ne (hx : p.tables.exec = Jvm.exec) (hb : c.code = cc) {a : Nat} {off : Int} {tgt : Nat} (ha : a < 2 ^ 31) (hdg : decode cc pc = .ok (.ifCond .ne off, 3)) (ht : (pc : Int) + off = (tgt : Int)) (kt : 0 < a → W p l e R s m args below meth c H locs cells slots Q (F0 m tgt ls rest)) (kf : a = 0 → W p l e R s m args below meth c H locs cells slots Q (F0 m (pc + 3) ls rest)) : W p l e R s m args below meth c H locs cells slots Q (F0 m pc ls (.int (nI a) :: rest)) := lv_if_ne hx hb hdg ht (fun q => kt (by rcases Nat.eq_zero_or_pos a with w | w; exact absurd (by rw [w]; rfl) q; exact w)) (fun q => kf (by rcases Nat.eq_zero_or_pos a with w | w; exact w; exact absurd q (nI_ne0 w ha)))
theorem ln_if_gt (hx : p.tables.exec = Jvm.exec) (hb : c.code = cc) {a : Nat} {off : Int} {tgt : Nat} (ha : a < 2 ^ 31) (hdg : decode cc pc = .ok (.ifCond .gt off, 3)) (ht : (pc : Int) + off = (tgt : Int)) (kt : 0 < a → W p l e R s m args below meth c H locs cells slots Q (F0 m tgt ls rest)) (kf : a = 0 → W p l e R s m args below meth c H locs cells slots Q (F0 m (pc + 3) ls rest)) : W p l e R s m args below meth c H locs cells slots Q (F0 m pc ls (.int (nI a) :: rest)) := lv_if_gt hx hb hdg ht (fun q => kt (by have w := (nI_ltI (by omega) ha).mp (show nI 0 < nI a by rw [nI_0]; exact q); exact w)) (fun q => kf (by rcases Nat.eq_zero_or_pos a with w | w; exact w; exact absurd (by rw [← nI_0]; exact nI_lt w ha) q))
theorem ln_if_le (hx : p.tables.exec = Jvm.exec) (hb : c.code = cc) {a : Nat} {off : Int} {tgt : Nat} (ha : a < 2 ^ 31) (hdg : decode cc pc = .ok (.ifCond .le off, 3)) (ht : (pc : Int) + off = (tgt : Int)) (kt : a = 0 → W p l e R s m args below meth c H locs cells slots Q (F0 m tgt ls rest)) (kf : 0 < a → W p l e R s m args below meth c H locs cells slots Q (F0 m (pc + 3) ls rest)) : W p l e R s m args below meth c H locs cells slots Q (F0 m pc ls (.int (nI a) :: rest)) := lv_if_le hx hb hdg ht (fun q => kt (by have w := (nI_leI ha (by omega)).mp (show nI a ≤ nI 0 by rw [nI_0]; exact q); omega)) (fun q => kf (by rcases Nat.eq_zero_or_pos a with w | w; exact absurd (by rw [w, ← nI_0]; exact nI_le (Nat.le_refl 0) (by omega)) q; exact w))
theorem ln_if_lt (hx : p.tables.exec = Jvm.exec) (hb : c.code = cc) {a : Nat} {off : Int} {tgt : Nat} (ha : a < 2 ^ 31) (hdg : decode cc pc = .ok (.ifCond .lt off, 3)) (ht : (pc : Int) + off = (tgt : Int)) (kf : W p l e R s m args below meth c H locs cells slots Q (F0 m (pc + 3) ls rest)) : W p l e R s m args below meth c H locs cells slots Q (F0 m pc ls (.int (nI a) :: rest)) := lv_if_lt hx hb hdg ht (fun q => absurd q (nI_pos ha)) (fun _ => kf)
theorem ln_if_ge (hx : p.tables.exec = Jvm.exec) (hb : c.code = cc) {a : Nat} {off : Int} {tgt : Nat} (ha : a < 2 ^ 31) (hdg : decode cc pc = .ok (.ifCond .ge off, 3)) (ht : (pc : Int) + off = (tgt : Int)) (kt : W p l e R s m args below meth c H locs cells slots Q (F0 m tgt ls rest)) : W p l e R s m args below meth c H locs cells slots Q (F0 m pc ls (.int (nI a) :: rest)) := lv_if_ge hx hb hdg ht (fun _ => kt) (fun q => absurd (nI_pos' ha) q)
theorem ln_inc {a k : Nat} {n : Int} (h : Int32.ofInt n = nI k) : nI a + Int32.ofInt n = nI (a + k) := by rw [h, nI_add]
theorem ln_dec {a : Nat} (h : 0 < a) : nI a + Int32.ofInt (-1) = nI (a - 1) := sb_m1 h
theorem ln_iald (hx : p.tables.exec = Jvm.exec) (hb : c.code = cc) {D : va_G} {cl : List vw_C} {ad0 : Nat} {tys : List (ClassId × FieldType)} {ws : va_W} (hK : va_K D cl tys s) (hP : va_P D cl ws H) (q0 t0 : Nat) {cA : ClassId} {n i : Nat} {f : Nat → Int32} (ha : ws[q0]? = some (ad0, .inl (cA, n, .inl f))) (ht : tys[t0]? = some (cA, .int)) (hi : i < n) (hn : n < 2 ^ 31) (hdg : decode cc pc = .ok (.iaload, 1)) (kk : W p l e R s m args below meth c H locs cells slots Q (F0 m (pc + 1) ls (.int (f i) :: rest))) : W p l e R s m args below meth c H locs cells slots Q (F0 m pc ls (.int (nI i) :: .ref ad0 :: rest)) := va_iald hx hb hK hP q0 t0 ha ht (vp_in_nI hi hn) hdg (by rw [nI_clamp (by omega)]; exact kk)
theorem ln_bald (hx : p.tables.exec = Jvm.exec) (hb : c.code = cc) {D : va_G} {cl : List vw_C} {ad0 : Nat} {tys : List (ClassId × FieldType)} {ws : va_W} (hK : va_K D cl tys s) (hP : va_P D cl ws H) (q0 t0 : Nat) {cA : ClassId} {n i : Nat} {f : Nat → Int32} (ha : ws[q0]? = some (ad0, .inl (cA, n, .inl f))) (ht : tys[t0]? = some (cA, .byte)) (hi : i < n) (hn : n < 2 ^ 31) (hdg : decode cc pc = .ok (.baload, 1)) (kk : W p l e R s m args below meth c H locs cells slots Q (F0 m (pc + 1) ls (.int (f i) :: rest))) : W p l e R s m args below meth c H locs cells slots Q (F0 m pc ls (.int (nI i) :: .ref ad0 :: rest)) := va_bald hx hb hK hP q0 t0 ha ht (vp_in_nI hi hn) hdg (by rw [nI_clamp (by omega)]; exact kk)
theorem ln_zald (hx : p.tables.exec = Jvm.exec) (hb : c.code = cc) {D : va_G} {cl : List vw_C} {ad0 : Nat} {tys : List (ClassId × FieldType)} {ws : va_W} (hK : va_K D cl tys s) (hP : va_P D cl ws H) (q0 t0 : Nat) {cA : ClassId} {n i : Nat} {f : Nat → Int32} (ha : ws[q0]? = some (ad0, .inl (cA, n, .inl f))) (ht : tys[t0]? = some (cA, .boolean)) (hi : i < n) (hn : n < 2 ^ 31) (hdg : decode cc pc = .ok (.baload, 1)) (kk : W p l e R s m args below meth c H locs cells slots Q (F0 m (pc + 1) ls (.int (f i) :: rest))) : W p l e R s m args below meth c H locs cells slots Q (F0 m pc ls (.int (nI i) :: .ref ad0 :: rest)) := va_zald hx hb hK hP q0 t0 ha ht (vp_in_nI hi hn) hdg (by rw [nI_clamp (by omega)]; exact kk)
theorem ln_lald (hx : p.tables.exec = Jvm.exec) (hb : c.code = cc) {D : va_G} {cl : List vw_C} {ad0 : Nat} {tys : List (ClassId × FieldType)} {ws : va_W} (hK : va_K D cl tys s) (hP : va_P D cl ws H) (q0 t0 : Nat) {cA : ClassId} {n i : Nat} {f : Nat → Int64} (ha : ws[q0]? = some (ad0, .inl (cA, n, .inr (.inl f)))) (ht : tys[t0]? = some (cA, .long)) (hi : i < n) (hn : n < 2 ^ 31) (hdg : decode cc pc = .ok (.laload, 1)) (kk : W p l e R s m args below meth c H locs cells slots Q (F0 m (pc + 1) ls (.long (f i) :: rest))) : W p l e R s m args below meth c H locs cells slots Q (F0 m pc ls (.int (nI i) :: .ref ad0 :: rest)) := va_lald hx hb hK hP q0 t0 ha ht (vp_in_nI hi hn) hdg (by rw [nI_clamp (by omega)]; exact kk)
theorem ln_iast (hx : p.tables.exec = Jvm.exec) (hb : c.code = cc) {D : va_G} {cl : List vw_C} {A : Nat → Prop} {ad0 : Nat} {tys : List (ClassId × FieldType)} {ws : va_W} {H0 : Heap} (hK : va_K D cl tys s) (hP : va_P D cl ws H) (hD : va_D A ws) (hS : va_S A H0 H locs) (q0 t0 : Nat) {cA : ClassId} {n i : Nat} {f : Nat → Int32} {x : Int32} (ha : ws[q0]? = some (ad0, .inl (cA, n, .inl f))) (ht : tys[t0]? = some (cA, .int)) (hi : i < n) (hn : n < 2 ^ 31) (hdg : decode cc pc = .ok (.iastore, 1)) (kk : ∀ (H1 : Heap) (locs1 : List Loc), va_P D cl (ws.set q0 (ad0, .inl (cA, n, .inl (upd f i x)))) H1 → va_D A (ws.set q0 (ad0, .inl (cA, n, .inl (upd f i x)))) → va_S A H0 H1 locs1 → W p l e R s m args below meth c H1 locs1 cells slots Q (F0 m (pc + 1) ls rest)) : W p l e R s m args below meth c H locs cells slots Q (F0 m pc ls (.int x :: .int (nI i) :: .ref ad0 :: rest)) := va_iast hx hb hK hP hD hS q0 t0 ha ht (vp_in_nI hi hn) hdg (fun H1 locs1 h1 h2 h3 => by rw [nI_clamp (by omega)] at h1 h2; exact kk H1 locs1 h1 h2 h3)
theorem ln_bast (hx : p.tables.exec = Jvm.exec) (hb : c.code = cc) {D : va_G} {cl : List vw_C} {A : Nat → Prop} {ad0 : Nat} {tys : List (ClassId × FieldType)} {ws : va_W} {H0 : Heap} (hK : va_K D cl tys s) (hP : va_P D cl ws H) (hD : va_D A ws) (hS : va_S A H0 H locs) (q0 t0 : Nat) {cA : ClassId} {n i : Nat} {f : Nat → Int32} {x : Int32} (ha : ws[q0]? = some (ad0, .inl (cA, n, .inl f))) (ht : tys[t0]? = some (cA, .byte)) (hi : i < n) (hn : n < 2 ^ 31) (hdg : decode cc pc = .ok (.bastore, 1)) (kk : ∀ (H1 : Heap) (locs1 : List Loc), va_P D cl (ws.set q0 (ad0, .inl (cA, n, .inl (upd f i (vp_nar .byte x))))) H1 → va_D A (ws.set q0 (ad0, .inl (cA, n, .inl (upd f i (vp_nar .byte x))))) → va_S A H0 H1 locs1 → W p l e R s m args below meth c H1 locs1 cells slots Q (F0 m (pc + 1) ls rest)) : W p l e R s m args below meth c H locs cells slots Q (F0 m pc ls (.int x :: .int (nI i) :: .ref ad0 :: rest)) := va_bast hx hb hK hP hD hS q0 t0 ha ht (vp_in_nI hi hn) hdg (fun H1 locs1 h1 h2 h3 => by rw [nI_clamp (by omega)] at h1 h2; exact kk H1 locs1 h1 h2 h3)
theorem ln_zast (hx : p.tables.exec = Jvm.exec) (hb : c.code = cc) {D : va_G} {cl : List vw_C} {A : Nat → Prop} {ad0 : Nat} {tys : List (ClassId × FieldType)} {ws : va_W} {H0 : Heap} (hK : va_K D cl tys s) (hP : va_P D cl ws H) (hD : va_D A ws) (hS : va_S A H0 H locs) (q0 t0 : Nat) {cA : ClassId} {n i : Nat} {f : Nat → Int32} {x : Int32} (ha : ws[q0]? = some (ad0, .inl (cA, n, .inl f))) (ht : tys[t0]? = some (cA, .boolean)) (hi : i < n) (hn : n < 2 ^ 31) (hdg : decode cc pc = .ok (.bastore, 1)) (kk : ∀ (H1 : Heap) (locs1 : List Loc), va_P D cl (ws.set q0 (ad0, .inl (cA, n, .inl (upd f i (vp_nar .boolean x))))) H1 → va_D A (ws.set q0 (ad0, .inl (cA, n, .inl (upd f i (vp_nar .boolean x))))) → va_S A H0 H1 locs1 → W p l e R s m args below meth c H1 locs1 cells slots Q (F0 m (pc + 1) ls rest)) : W p l e R s m args below meth c H locs cells slots Q (F0 m pc ls (.int x :: .int (nI i) :: .ref ad0 :: rest)) := va_zast hx hb hK hP hD hS q0 t0 ha ht (vp_in_nI hi hn) hdg (fun H1 locs1 h1 h2 h3 => by rw [nI_clamp (by omega)] at h1 h2; exact kk H1 locs1 h1 h2 h3)
theorem ln_last (hx : p.tables.exec = Jvm.exec) (hb : c.code = cc) {D : va_G} {cl : List vw_C} {A : Nat → Prop} {ad0 : Nat} {tys : List (ClassId × FieldType)} {ws : va_W} {H0 : Heap} (hK : va_K D cl tys s) (hP : va_P D cl ws H) (hD : va_D A ws) (hS : va_S A H0 H locs) (q0 t0 : Nat) {cA : ClassId} {n i : Nat} {f : Nat → Int64} {x : Int64} (ha : ws[q0]? = some (ad0, .inl (cA, n, .inr (.inl f)))) (ht : tys[t0]? = some (cA, .long)) (hi : i < n) (hn : n < 2 ^ 31) (hdg : decode cc pc = .ok (.lastore, 1)) (kk : ∀ (H1 : Heap) (locs1 : List Loc), va_P D cl (ws.set q0 (ad0, .inl (cA, n, .inr (.inl (vp_updL f i x))))) H1 → va_D A (ws.set q0 (ad0, .inl (cA, n, .inr (.inl (vp_updL f i x))))) → va_S A H0 H1 locs1 → W p l e R s m args below meth c H1 locs1 cells slots Q (F0 m (pc + 1) ls rest)) : W p l e R s m args below meth c H locs cells slots Q (F0 m pc ls (.long x :: .int (nI i) :: .ref ad0 :: rest)) := va_last hx hb hK hP hD hS q0 t0 ha ht (vp_in_nI hi hn) hdg (fun H1 locs1 h1 h2 h3 => by rw [nI_clamp (by omega)] at h1 h2; exact kk H1 locs1 h1 h2 h3)
theorem ln_callR {r : Int32} {a : Array Value} {st0 : List Value} (hr : CallRun p l e R s m args below meth c H locs cells slots 0 0 (F0 m pc ls st0) rest (QcRead r a) (fun _ => False)) (kk : W p l e R s m args below meth c H locs cells slots Q (F0 m (pc + 3) ls (.int r :: rest))) : W p l e R s m args below meth c H locs cells slots Q (F0 m pc ls st0) := W.callR hr kk
end RWN
end
section
def R_Bo : String := "FileBody$Bodies"
def T_Bo : u_T := fun k => match k with
  | 0 => ("FileBody$Bodies", "blocks", "LFileBody$DataBlocks;", true)
  | _ => ("FileBody$Bodies", "records", "LFileBody$Records;", true)
def t_Bo : Nat → FieldType := fun k => match k with
  | 0 => .object "FileBody$DataBlocks"
  | _ => .object "FileBody$Records"
theorem n_Bo : ∀ a, a < 2 → ∀ b, b < 2 → a ≠ b → (T_Bo a).2.1 ≠ (T_Bo b).2.1 := by decide +kernel
theorem t_Bo_ok : ∀ k, k < 2 → parseFieldDescriptor (T_Bo k).2.2.1 = some (t_Bo k) := by decide +kernel
def R_Db : String := "FileBody$DataBlocks"
def T_Db : u_T := fun k => match k with
  | 0 => ("FileBody$DataBlocks", "rows", "[[B", true)
  | 1 => ("FileBody$DataBlocks", "taken", "[Z", true)
  | _ => ("FileBody$DataBlocks", "free", "I", false)
def t_Db : Nat → FieldType := fun k => match k with
  | 0 => .array (.array .byte)
  | 1 => .array .boolean
  | _ => .int
theorem n_Db : ∀ a, a < 3 → ∀ b, b < 3 → a ≠ b → (T_Db a).2.1 ≠ (T_Db b).2.1 := by decide +kernel
theorem t_Db_ok : ∀ k, k < 3 → parseFieldDescriptor (T_Db k).2.2.1 = some (t_Db k) := by decide +kernel
def R_Fr : String := "FileBody$Front"
def T_Fr : u_T := fun k => match k with
  | _ => ("FileBody$Front", "bytes", "[B", true)
def t_Fr : Nat → FieldType := fun k => match k with
  | _ => .array .byte
theorem n_Fr : ∀ a, a < 1 → ∀ b, b < 1 → a ≠ b → (T_Fr a).2.1 ≠ (T_Fr b).2.1 := by decide +kernel
theorem t_Fr_ok : ∀ k, k < 1 → parseFieldDescriptor (T_Fr k).2.2.1 = some (t_Fr k) := by decide +kernel
def R_Re : String := "FileBody$Records"
def T_Re : u_T := fun k => match k with
  | _ => ("FileBody$Records", "front", "LFileBody$Front;", true)
def t_Re : Nat → FieldType := fun k => match k with
  | _ => .object "FileBody$Front"
theorem n_Re : ∀ a, a < 1 → ∀ b, b < 1 → a ≠ b → (T_Re a).2.1 ≠ (T_Re b).2.1 := by decide +kernel
theorem t_Re_ok : ∀ k, k < 1 → parseFieldDescriptor (T_Re k).2.2.1 = some (t_Re k) := by decide +kernel
def R_Wa : String := "FileBody$Waiting"
def T_Wa : u_T := fun k => match k with
  | 0 => ("FileBody$Waiting", "front", "LFileBody$Front;", true)
  | _ => ("FileBody$Waiting", "records", "LFileBody$Records;", true)
def t_Wa : Nat → FieldType := fun k => match k with
  | 0 => .object "FileBody$Front"
  | _ => .object "FileBody$Records"
theorem n_Wa : ∀ a, a < 2 → ∀ b, b < 2 → a ≠ b → (T_Wa a).2.1 ≠ (T_Wa b).2.1 := by decide +kernel
theorem t_Wa_ok : ∀ k, k < 2 → parseFieldDescriptor (T_Wa k).2.2.1 = some (t_Wa k) := by decide +kernel
def R_Fb : String := "FileBody"
def T_Fb : u_T := fun k => match k with
  | 0 => ("FileBody", "front", "LFileBody$Front;", true)
  | 1 => ("FileBody", "blocks", "LFileBody$DataBlocks;", true)
  | 2 => ("FileBody", "records", "LFileBody$Records;", true)
  | 3 => ("FileBody", "waiting", "LFileBody$Waiting;", true)
  | _ => ("FileBody", "bodies", "LFileBody$Bodies;", true)
def t_Fb : Nat → FieldType := fun k => match k with
  | 0 => .object "FileBody$Front"
  | 1 => .object "FileBody$DataBlocks"
  | 2 => .object "FileBody$Records"
  | 3 => .object "FileBody$Waiting"
  | _ => .object "FileBody$Bodies"
theorem n_Fb : ∀ a, a < 5 → ∀ b, b < 5 → a ≠ b → (T_Fb a).2.1 ≠ (T_Fb b).2.1 := by decide +kernel
theorem t_Fb_ok : ∀ k, k < 5 → parseFieldDescriptor (T_Fb k).2.2.1 = some (t_Fb k) := by decide +kernel
def R_Mo : String := "FileBodyModel"
def T_Mo : u_T := fun k => match k with
  | 0 => ("FileBodyModel", "code", "I", false)
  | 1 => ("FileBodyModel", "disk", "[B", true)
  | 2 => ("FileBodyModel", "taken", "[Z", true)
  | 3 => ("FileBodyModel", "kinds", "[I", true)
  | 4 => ("FileBodyModel", "linkCounts", "[I", true)
  | 5 => ("FileBodyModel", "sizes", "[I", true)
  | 6 => ("FileBodyModel", "behind", "[I", true)
  | 7 => ("FileBodyModel", "waits", "[Z", true)
  | 8 => ("FileBodyModel", "blocks", "[I", true)
  | 9 => ("FileBodyModel", "targets", "[B", true)
  | _ => ("FileBodyModel", "first", "I", false)
def t_Mo : Nat → FieldType := fun k => match k with
  | 0 => .int
  | 1 => .array .byte
  | 2 => .array .boolean
  | 3 => .array .int
  | 4 => .array .int
  | 5 => .array .int
  | 6 => .array .int
  | 7 => .array .boolean
  | 8 => .array .int
  | 9 => .array .byte
  | _ => .int
theorem n_Mo : ∀ a, a < 11 → ∀ b, b < 11 → a ≠ b → (T_Mo a).2.1 ≠ (T_Mo b).2.1 := by decide +kernel
theorem t_Mo_ok : ∀ k, k < 11 → parseFieldDescriptor (T_Mo k).2.2.1 = some (t_Mo k) := by decide +kernel
def R_Lw : String := "FileBodyLaw"
def R_Ar : String := "java/util/Arrays"
def R_Ma : String := "java/lang/Math"
abbrev vwC : List vw_C := [(R_Bo, T_Bo, 2), (R_Db, T_Db, 3), (R_Fr, T_Fr, 1), (R_Re, T_Re, 1), (R_Wa, T_Wa, 2), (R_Fb, T_Fb, 5), (R_Mo, T_Mo, 11)]
def y_Fb_init : MethodName := ⟨"FileBody", "<init>", "()V"⟩
abbrev c_Fb_init : ByteArray := prog_1_method_1_code
def y_Fr_init : MethodName := ⟨"FileBody$Front", "<init>", "()V"⟩
abbrev c_Fr_init : ByteArray := prog_4_method_1_code
def y_Db_init : MethodName := ⟨"FileBody$DataBlocks", "<init>", "()V"⟩
abbrev c_Db_init : ByteArray := prog_3_method_1_code
def y_Re_init : MethodName := ⟨"FileBody$Records", "<init>", "(LFileBody$Front;)V"⟩
abbrev c_Re_init : ByteArray := prog_5_method_1_code
def y_Wa_init : MethodName := ⟨"FileBody$Waiting", "<init>", "(LFileBody$Front;LFileBody$Records;)V"⟩
abbrev c_Wa_init : ByteArray := prog_6_method_1_code
def y_Bo_init : MethodName := ⟨"FileBody$Bodies", "<init>", "(LFileBody$DataBlocks;LFileBody$Records;)V"⟩
abbrev c_Bo_init : ByteArray := prog_2_method_1_code
def y_Fb_finish : MethodName := ⟨"FileBody", "finish", "()I"⟩
abbrev c_Fb_finish : ByteArray := prog_1_method_10_code
def y_Wa_first : MethodName := ⟨"FileBody$Waiting", "first", "()I"⟩
abbrev c_Wa_first : ByteArray := prog_6_method_2_code
def y_Fr_number : MethodName := ⟨"FileBody$Front", "number", "(II)I"⟩
abbrev c_Fr_number : ByteArray := prog_4_method_2_code
def y_Fb_letGo : MethodName := ⟨"FileBody", "letGo", "(I)I"⟩
abbrev c_Fb_letGo : ByteArray := prog_1_method_19_code
def y_Re_blocksOf : MethodName := ⟨"FileBody$Records", "blocksOf", "(I)I"⟩
abbrev c_Re_blocksOf : ByteArray := prog_5_method_14_code
def y_Re_field : MethodName := ⟨"FileBody$Records", "field", "(III)I"⟩
abbrev c_Re_field : ByteArray := prog_5_method_21_code
def y_Re_isNumber : MethodName := ⟨"FileBody$Records", "isNumber", "(I)Z"⟩
abbrev c_Re_isNumber : ByteArray := prog_5_method_2_code
def y_Re_startOf : MethodName := ⟨"FileBody$Records", "startOf", "(I)I"⟩
abbrev c_Re_startOf : ByteArray := prog_5_method_23_code
def y_Wa_remove : MethodName := ⟨"FileBody$Waiting", "remove", "(I)V"⟩
abbrev c_Wa_remove : ByteArray := prog_6_method_5_code
def y_Re_behind : MethodName := ⟨"FileBody$Records", "behind", "(I)I"⟩
abbrev c_Re_behind : ByteArray := prog_5_method_10_code
def y_Wa_setFirst : MethodName := ⟨"FileBody$Waiting", "setFirst", "(I)V"⟩
abbrev c_Wa_setFirst : ByteArray := prog_6_method_7_code
def y_Fr_setNumber : MethodName := ⟨"FileBody$Front", "setNumber", "(III)V"⟩
abbrev c_Fr_setNumber : ByteArray := prog_4_method_3_code
def y_Wa_fileBefore : MethodName := ⟨"FileBody$Waiting", "fileBefore", "(I)I"⟩
abbrev c_Wa_fileBefore : ByteArray := prog_6_method_6_code
def y_Re_setBehind : MethodName := ⟨"FileBody$Records", "setBehind", "(II)V"⟩
abbrev c_Re_setBehind : ByteArray := prog_5_method_11_code
def y_Re_setField : MethodName := ⟨"FileBody$Records", "setField", "(IIII)V"⟩
abbrev c_Re_setField : ByteArray := prog_5_method_22_code
def y_Bo_giveBack : MethodName := ⟨"FileBody$Bodies", "giveBack", "(II)V"⟩
abbrev c_Bo_giveBack : ByteArray := prog_2_method_9_code
def y_Re_blockOf : MethodName := ⟨"FileBody$Records", "blockOf", "(II)I"⟩
abbrev c_Re_blockOf : ByteArray := prog_5_method_18_code
def y_Db_give : MethodName := ⟨"FileBody$DataBlocks", "give", "(I)V"⟩
abbrev c_Db_give : ByteArray := prog_3_method_4_code
def y_Re_removeBlock : MethodName := ⟨"FileBody$Records", "removeBlock", "(II)V"⟩
abbrev c_Re_removeBlock : ByteArray := prog_5_method_20_code
def y_Re_erase : MethodName := ⟨"FileBody$Records", "erase", "(I)V"⟩
abbrev c_Re_erase : ByteArray := prog_5_method_6_code
def y_Lw_make : MethodName := ⟨"FileBodyLaw", "make", "(LFileBody;I[J)I"⟩
abbrev c_Lw_make : ByteArray := method_3_code
def y_Fb_make : MethodName := ⟨"FileBody", "make", "(I)I"⟩
abbrev c_Fb_make : ByteArray := prog_1_method_2_code
def y_Re_leastAbsent : MethodName := ⟨"FileBody$Records", "leastAbsent", "()I"⟩
abbrev c_Re_leastAbsent : ByteArray := prog_5_method_3_code
def y_Re_kindOf : MethodName := ⟨"FileBody$Records", "kindOf", "(I)I"⟩
abbrev c_Re_kindOf : ByteArray := prog_5_method_7_code
def y_Re_begin : MethodName := ⟨"FileBody$Records", "begin", "(III)V"⟩
abbrev c_Re_begin : ByteArray := prog_5_method_5_code
def y_Re_setLinks : MethodName := ⟨"FileBody$Records", "setLinks", "(II)V"⟩
abbrev c_Re_setLinks : ByteArray := prog_5_method_13_code
def y_Wa_add : MethodName := ⟨"FileBody$Waiting", "add", "(I)V"⟩
abbrev c_Wa_add : ByteArray := prog_6_method_4_code
def y_Lw_link : MethodName := ⟨"FileBodyLaw", "link", "(LFileBody;II[J)I"⟩
abbrev c_Lw_link : ByteArray := method_4_code
def y_Fb_link : MethodName := ⟨"FileBody", "link", "(II)I"⟩
abbrev c_Fb_link : ByteArray := prog_1_method_3_code
def y_Db_howManyFree : MethodName := ⟨"FileBody$DataBlocks", "howManyFree", "()I"⟩
abbrev c_Db_howManyFree : ByteArray := prog_3_method_2_code
def y_Re_setSize : MethodName := ⟨"FileBody$Records", "setSize", "(II)V"⟩
abbrev c_Re_setSize : ByteArray := prog_5_method_9_code
def y_Bo_setTarget : MethodName := ⟨"FileBody$Bodies", "setTarget", "(III)V"⟩
abbrev c_Bo_setTarget : ByteArray := prog_2_method_3_code
def y_Re_hasTarget : MethodName := ⟨"FileBody$Records", "hasTarget", "(I)Z"⟩
abbrev c_Re_hasTarget : ByteArray := prog_5_method_15_code
def y_Re_sizeOf : MethodName := ⟨"FileBody$Records", "sizeOf", "(I)I"⟩
abbrev c_Re_sizeOf : ByteArray := prog_5_method_8_code
def y_Bo_targetByte : MethodName := ⟨"FileBody$Bodies", "targetByte", "(II)I"⟩
abbrev c_Bo_targetByte : ByteArray := prog_2_method_11_code
def y_Ma_floorMod : MethodName := ⟨"java/lang/Math", "floorMod", "(II)I"⟩
abbrev c_Ma_floorMod : ByteArray := prog_17_method_50_code
def y_Re_setTargetByte : MethodName := ⟨"FileBody$Records", "setTargetByte", "(III)V"⟩
abbrev c_Re_setTargetByte : ByteArray := prog_5_method_17_code
def y_Bo_takeBlock : MethodName := ⟨"FileBody$Bodies", "takeBlock", "(II)V"⟩
abbrev c_Bo_takeBlock : ByteArray := prog_2_method_10_code
def y_Db_take : MethodName := ⟨"FileBody$DataBlocks", "take", "(I)I"⟩
abbrev c_Db_take : ByteArray := prog_3_method_3_code
def y_Db_leastFree : MethodName := ⟨"FileBody$DataBlocks", "leastFree", "(I)I"⟩
abbrev c_Db_leastFree : ByteArray := prog_3_method_9_code
def y_Ar_fill : MethodName := ⟨"java/util/Arrays", "fill", "([BB)V"⟩
abbrev c_Ar_fill : ByteArray := prog_25_method_109_code
def y_Re_addBlock : MethodName := ⟨"FileBody$Records", "addBlock", "(III)V"⟩
abbrev c_Re_addBlock : ByteArray := prog_5_method_19_code
def y_Db_setByte : MethodName := ⟨"FileBody$DataBlocks", "setByte", "(III)V"⟩
abbrev c_Db_setByte : ByteArray := prog_3_method_6_code
def y_Db_hasSpan : MethodName := ⟨"FileBody$DataBlocks", "hasSpan", "(III)Z"⟩
abbrev c_Db_hasSpan : ByteArray := prog_3_method_10_code
def y_Lw_write : MethodName := ⟨"FileBodyLaw", "write", "(LFileBody;IIJI[J)I"⟩
abbrev c_Lw_write : ByteArray := method_5_code
def y_Fb_write : MethodName := ⟨"FileBody", "write", "(IIJI)I"⟩
abbrev c_Fb_write : ByteArray := prog_1_method_4_code
def y_Fb_checkSpan : MethodName := ⟨"FileBody", "checkSpan", "(IIII)V"⟩
abbrev c_Fb_checkSpan : ByteArray := prog_1_method_17_code
def y_Fb_checkPlain : MethodName := ⟨"FileBody", "checkPlain", "(I)V"⟩
abbrev c_Fb_checkPlain : ByteArray := prog_1_method_16_code
def y_Fb_checkFreeBlocks : MethodName := ⟨"FileBody", "checkFreeBlocks", "(III)V"⟩
abbrev c_Fb_checkFreeBlocks : ByteArray := prog_1_method_18_code
def y_Bo_blocksWanted : MethodName := ⟨"FileBody$Bodies", "blocksWanted", "(III)I"⟩
abbrev c_Bo_blocksWanted : ByteArray := prog_2_method_4_code
def y_Bo_lastPiece : MethodName := ⟨"FileBody$Bodies", "lastPiece", "(II)I"⟩
abbrev c_Bo_lastPiece : ByteArray := prog_2_method_12_code
def y_Bo_prepare : MethodName := ⟨"FileBody$Bodies", "prepare", "(III)V"⟩
abbrev c_Bo_prepare : ByteArray := prog_2_method_5_code
def y_Bo_setBytes : MethodName := ⟨"FileBody$Bodies", "setBytes", "(IIJI)V"⟩
abbrev c_Bo_setBytes : ByteArray := prog_2_method_6_code
def y_Lw_paint : MethodName := ⟨"FileBodyLaw", "paint", "(LFileBody;IIII[J)I"⟩
abbrev c_Lw_paint : ByteArray := method_6_code
def y_Fb_paint : MethodName := ⟨"FileBody", "paint", "(IIII)I"⟩
abbrev c_Fb_paint : ByteArray := prog_1_method_5_code
def y_Bo_setPattern : MethodName := ⟨"FileBody$Bodies", "setPattern", "(IIII)V"⟩
abbrev c_Bo_setPattern : ByteArray := prog_2_method_7_code
def y_Db_setPattern : MethodName := ⟨"FileBody$DataBlocks", "setPattern", "(IIII)V"⟩
abbrev c_Db_setPattern : ByteArray := prog_3_method_8_code
def y_Lw_read : MethodName := ⟨"FileBodyLaw", "read", "(LFileBody;II[J)I"⟩
abbrev c_Lw_read : ByteArray := method_7_code
def y_Fb_read : MethodName := ⟨"FileBody", "read", "(II)I"⟩
abbrev c_Fb_read : ByteArray := prog_1_method_6_code
def y_Fb_checkThere : MethodName := ⟨"FileBody", "checkThere", "(I)V"⟩
abbrev c_Fb_checkThere : ByteArray := prog_1_method_15_code
def y_Bo_byteAt : MethodName := ⟨"FileBody$Bodies", "byteAt", "(II)I"⟩
abbrev c_Bo_byteAt : ByteArray := prog_2_method_2_code
def y_Re_targetByte : MethodName := ⟨"FileBody$Records", "targetByte", "(II)I"⟩
abbrev c_Re_targetByte : ByteArray := prog_5_method_16_code
def y_Db_byteAt : MethodName := ⟨"FileBody$DataBlocks", "byteAt", "(II)I"⟩
abbrev c_Db_byteAt : ByteArray := prog_3_method_5_code
def y_Lw_cut : MethodName := ⟨"FileBodyLaw", "cut", "(LFileBody;II[J)I"⟩
abbrev c_Lw_cut : ByteArray := method_8_code
def y_Fb_cut : MethodName := ⟨"FileBody", "cut", "(II)I"⟩
abbrev c_Fb_cut : ByteArray := prog_1_method_7_code
def y_Bo_resize : MethodName := ⟨"FileBody$Bodies", "resize", "(II)V"⟩
abbrev c_Bo_resize : ByteArray := prog_2_method_8_code
def y_Db_clear : MethodName := ⟨"FileBody$DataBlocks", "clear", "(III)V"⟩
abbrev c_Db_clear : ByteArray := prog_3_method_7_code
def y_Ar_fill4 : MethodName := ⟨"java/util/Arrays", "fill", "([BIIB)V"⟩
abbrev c_Ar_fill4 : ByteArray := prog_25_method_110_code
def y_Ar_rangeCheck : MethodName := ⟨"java/util/Arrays", "rangeCheck", "(III)V"⟩
abbrev c_Ar_rangeCheck : ByteArray := prog_25_method_30_code
def y_Lw_links : MethodName := ⟨"FileBodyLaw", "links", "(LFileBody;II[J)I"⟩
abbrev c_Lw_links : ByteArray := method_9_code
def y_Fb_links : MethodName := ⟨"FileBody", "links", "(II)I"⟩
abbrev c_Fb_links : ByteArray := prog_1_method_8_code
def y_Re_linksOf : MethodName := ⟨"FileBody$Records", "linksOf", "(I)I"⟩
abbrev c_Re_linksOf : ByteArray := prog_5_method_12_code
def y_Lw_drop : MethodName := ⟨"FileBodyLaw", "drop", "(LFileBody;I[J)I"⟩
abbrev c_Lw_drop : ByteArray := method_10_code
def y_Fb_drop : MethodName := ⟨"FileBody", "drop", "(I)I"⟩
abbrev c_Fb_drop : ByteArray := prog_1_method_9_code
def y_Lw_about : MethodName := ⟨"FileBodyLaw", "about", "(LFileBody;II[J)I"⟩
abbrev c_Lw_about : ByteArray := method_11_code
def y_Fb_about : MethodName := ⟨"FileBody", "about", "(II)I"⟩
abbrev c_Fb_about : ByteArray := prog_1_method_11_code
def y_Lw_block : MethodName := ⟨"FileBodyLaw", "block", "(LFileBody;II[J)I"⟩
abbrev c_Lw_block : ByteArray := method_12_code
def y_Fb_block : MethodName := ⟨"FileBody", "block", "(II)I"⟩
abbrev c_Fb_block : ByteArray := prog_1_method_12_code
def y_Lw_count : MethodName := ⟨"FileBodyLaw", "count", "(LFileBody;I[J)I"⟩
abbrev c_Lw_count : ByteArray := method_13_code
def y_Fb_count : MethodName := ⟨"FileBody", "count", "(I)I"⟩
abbrev c_Fb_count : ByteArray := prog_1_method_13_code
def y_Re_howManyThere : MethodName := ⟨"FileBody$Records", "howManyThere", "()I"⟩
abbrev c_Re_howManyThere : ByteArray := prog_5_method_4_code
def y_Wa_howMany : MethodName := ⟨"FileBody$Waiting", "howMany", "()I"⟩
abbrev c_Wa_howMany : ByteArray := prog_6_method_3_code
def y_Lw_byteOf : MethodName := ⟨"FileBodyLaw", "byteOf", "(LFileBody;II[J)I"⟩
abbrev c_Lw_byteOf : ByteArray := method_14_code
def y_Fb_byteOf : MethodName := ⟨"FileBody", "byteOf", "(II)I"⟩
abbrev c_Fb_byteOf : ByteArray := prog_1_method_14_code
def y_Mo_init : MethodName := ⟨"FileBodyModel", "<init>", "()V"⟩
abbrev c_Mo_init : ByteArray := prog_8_method_1_code
def y_Mo_thrown : MethodName := ⟨"FileBodyModel", "thrown", "()I"⟩
abbrev c_Mo_thrown : ByteArray := prog_8_method_2_code
def y_Mo_make : MethodName := ⟨"FileBodyModel", "make", "(I)I"⟩
abbrev c_Mo_make : ByteArray := prog_8_method_10_code
def y_Mo_in : MethodName := ⟨"FileBodyModel", "in", "(JJJ)Z"⟩
abbrev c_Mo_in : ByteArray := prog_8_method_3_code
def y_Mo_freeFile : MethodName := ⟨"FileBodyModel", "freeFile", "()I"⟩
abbrev c_Mo_freeFile : ByteArray := prog_8_method_7_code
def y_Mo_begin : MethodName := ⟨"FileBodyModel", "begin", "(II)I"⟩
abbrev c_Mo_begin : ByteArray := prog_8_method_9_code
def y_Mo_rest : MethodName := ⟨"FileBodyModel", "rest", "(IZ)V"⟩
abbrev c_Mo_rest : ByteArray := prog_8_method_8_code
def y_Mo_link : MethodName := ⟨"FileBodyModel", "link", "(II)I"⟩
abbrev c_Mo_link : ByteArray := prog_8_method_11_code
def y_Mo_freeOnes : MethodName := ⟨"FileBodyModel", "freeOnes", "()I"⟩
abbrev c_Mo_freeOnes : ByteArray := prog_8_method_6_code
def y_Mo_take : MethodName := ⟨"FileBodyModel", "take", "(II)V"⟩
abbrev c_Mo_take : ByteArray := prog_8_method_12_code
def y_Mo_write : MethodName := ⟨"FileBodyModel", "write", "(IIJI)I"⟩
abbrev c_Mo_write : ByteArray := prog_8_method_18_code
def y_Mo_may : MethodName := ⟨"FileBodyModel", "may", "(IIII)Z"⟩
abbrev c_Mo_may : ByteArray := prog_8_method_15_code
def y_Mo_isPlain : MethodName := ⟨"FileBodyModel", "isPlain", "(I)Z"⟩
abbrev c_Mo_isPlain : ByteArray := prog_8_method_5_code
def y_Mo_isFile : MethodName := ⟨"FileBodyModel", "isFile", "(I)Z"⟩
abbrev c_Mo_isFile : ByteArray := prog_8_method_4_code
def y_Mo_wanted : MethodName := ⟨"FileBodyModel", "wanted", "(III)I"⟩
abbrev c_Mo_wanted : ByteArray := prog_8_method_14_code
def y_Mo_takeAll : MethodName := ⟨"FileBodyModel", "takeAll", "(III)V"⟩
abbrev c_Mo_takeAll : ByteArray := prog_8_method_16_code
def y_Mo_set : MethodName := ⟨"FileBodyModel", "set", "(III)V"⟩
abbrev c_Mo_set : ByteArray := prog_8_method_17_code
def y_Mo_paint : MethodName := ⟨"FileBodyModel", "paint", "(IIII)I"⟩
abbrev c_Mo_paint : ByteArray := prog_8_method_19_code
def y_Mo_read : MethodName := ⟨"FileBodyModel", "read", "(II)I"⟩
abbrev c_Mo_read : ByteArray := prog_8_method_20_code
def y_Mo_cut : MethodName := ⟨"FileBodyModel", "cut", "(II)I"⟩
abbrev c_Mo_cut : ByteArray := prog_8_method_21_code
def y_Mo_giveBack : MethodName := ⟨"FileBodyModel", "giveBack", "(II)V"⟩
abbrev c_Mo_giveBack : ByteArray := prog_8_method_13_code
def y_Mo_links : MethodName := ⟨"FileBodyModel", "links", "(II)I"⟩
abbrev c_Mo_links : ByteArray := prog_8_method_22_code
def y_Mo_drop : MethodName := ⟨"FileBodyModel", "drop", "(I)I"⟩
abbrev c_Mo_drop : ByteArray := prog_8_method_25_code
def y_Mo_go : MethodName := ⟨"FileBodyModel", "go", "(I)I"⟩
abbrev c_Mo_go : ByteArray := prog_8_method_24_code
def y_Mo_blocksOf : MethodName := ⟨"FileBodyModel", "blocksOf", "(I)I"⟩
abbrev c_Mo_blocksOf : ByteArray := prog_8_method_23_code
def y_Mo_finish : MethodName := ⟨"FileBodyModel", "finish", "()I"⟩
abbrev c_Mo_finish : ByteArray := prog_8_method_26_code
def y_Mo_about : MethodName := ⟨"FileBodyModel", "about", "(II)I"⟩
abbrev c_Mo_about : ByteArray := prog_8_method_27_code
def y_Mo_block : MethodName := ⟨"FileBodyModel", "block", "(II)I"⟩
abbrev c_Mo_block : ByteArray := prog_8_method_28_code
def y_Mo_count : MethodName := ⟨"FileBodyModel", "count", "(I)I"⟩
abbrev c_Mo_count : ByteArray := prog_8_method_29_code
def y_Mo_byteOf : MethodName := ⟨"FileBodyModel", "byteOf", "(II)I"⟩
abbrev c_Mo_byteOf : ByteArray := prog_8_method_32_code
def y_Mo_part : MethodName := ⟨"FileBodyModel", "part", "(III)I"⟩
abbrev c_Mo_part : ByteArray := prog_8_method_30_code
def y_Mo_recordByte : MethodName := ⟨"FileBodyModel", "recordByte", "(II)I"⟩
abbrev c_Mo_recordByte : ByteArray := prog_8_method_31_code
def y_Lw_law : MethodName := ⟨"FileBodyLaw", "law", "([I)Z"⟩
abbrev c_Lw_law : ByteArray := code
def wA : List Cond := lw_tbl.filter goodWord
theorem wA_t {w : Cond} (i : Nat) (h : tables_1[i]? = some w) (hg : goodWord w = true) : w ∈ wA := List.mem_filter.mpr ⟨List.mem_append_right _ (List.mem_of_getElem? h), hg⟩
theorem wA_p {w : Cond} (i : Nat) (h : (k2_sels lw_privs)[i]? = some w) (hg : goodWord w = true) : w ∈ wA := List.mem_filter.mpr ⟨List.mem_append_left _ (List.mem_of_getElem? h), hg⟩
theorem wA_good {w : Cond} (h : w ∈ wA) : (w.onTables && w.keeps) = true ∨ ∃ ty, w = .arrayClass ty := good_of_word (List.mem_filter.mp h).2
theorem wA_hts {args : Array Value} {s : State} (h : ∀ w ∈ lw_tbl, w.before args s = true) : ∀ w ∈ wA, w.before args s = true := fun w hw => h w (List.mem_filter.mp hw).1
theorem w_0 : (Cond.initialized "FileBodyLaw") ∈ wA := wA_t 0 (by decide +kernel) (by decide +kernel)
theorem w_1 : (Cond.initialized "FileBody") ∈ wA := wA_t 1 (by decide +kernel) (by decide +kernel)
theorem w_2 : (Cond.initialized "FileBody$Front") ∈ wA := wA_t 2 (by decide +kernel) (by decide +kernel)
theorem w_3 : (Cond.initialized "FileBody$DataBlocks") ∈ wA := wA_t 3 (by decide +kernel) (by decide +kernel)
theorem w_4 : (Cond.initialized "FileBody$Records") ∈ wA := wA_t 4 (by decide +kernel) (by decide +kernel)
theorem w_5 : (Cond.initialized "FileBody$Waiting") ∈ wA := wA_t 5 (by decide +kernel) (by decide +kernel)
theorem w_6 : (Cond.initialized "FileBody$Bodies") ∈ wA := wA_t 6 (by decide +kernel) (by decide +kernel)
theorem w_7 : (Cond.initialized "FileBodyModel") ∈ wA := wA_t 7 (by decide +kernel) (by decide +kernel)
theorem w_11 : (Cond.initialized "java/lang/IllegalArgumentException") ∈ wA := wA_t 11 (by decide +kernel) (by decide +kernel)
theorem w_12 : (Cond.initialized "java/lang/IllegalStateException") ∈ wA := wA_t 12 (by decide +kernel) (by decide +kernel)
theorem w_13 : (Cond.initialized "java/lang/Math") ∈ wA := wA_t 13 (by decide +kernel) (by decide +kernel)
theorem w_14 : (Cond.initialized "java/util/Arrays") ∈ wA := wA_t 14 (by decide +kernel) (by decide +kernel)
theorem w_15 : (Cond.initialized "java/lang/IndexOutOfBoundsException") ∈ wA := wA_t 15 (by decide +kernel) (by decide +kernel)
theorem w_26 : (Cond.classLink "FileBodyLaw" 8 "FileBody") ∈ wA := wA_t 26 (by decide +kernel) (by decide +kernel)
theorem w_27 : (Cond.instantiable "FileBody" 5) ∈ wA := wA_t 27 (by decide +kernel) (by decide +kernel)
theorem w_28 : (Cond.methodLink "FileBodyLaw" 55 y_Fb_init) ∈ wA := wA_t 28 (by decide +kernel) (by decide +kernel)
theorem w_29 : (Cond.instanceMethod y_Fb_init) ∈ wA := wA_t 29 (by decide +kernel) (by decide +kernel)
theorem w_30 : (Cond.code y_Fb_init prog_1_method_1_code 1 (Option.none : Option FieldType)) ∈ wA := wA_t 30 (by decide +kernel) (by decide +kernel)
theorem w_31 : (Cond.methodLink "FileBody" 3 (⟨"java/lang/Object", "<init>", "()V"⟩ : MethodName)) ∈ wA := wA_t 31 (by decide +kernel) (by decide +kernel)
theorem w_32 : (Cond.instanceMethod (⟨"java/lang/Object", "<init>", "()V"⟩ : MethodName)) ∈ wA := wA_t 32 (by decide +kernel) (by decide +kernel)
theorem w_33 : (Cond.code (⟨"java/lang/Object", "<init>", "()V"⟩ : MethodName) object_method_1_code 1 (Option.none : Option FieldType)) ∈ wA := wA_t 33 (by decide +kernel) (by decide +kernel)
theorem w_34 : (Cond.classLink "FileBody" 9 "FileBody$Front") ∈ wA := wA_t 34 (by decide +kernel) (by decide +kernel)
theorem w_35 : (Cond.instantiable "FileBody$Front" 1) ∈ wA := wA_t 35 (by decide +kernel) (by decide +kernel)
theorem w_37 : (Cond.instanceMethod y_Fr_init) ∈ wA := wA_t 37 (by decide +kernel) (by decide +kernel)
theorem w_38 : (Cond.code y_Fr_init prog_4_method_1_code 1 (Option.none : Option FieldType)) ∈ wA := wA_t 38 (by decide +kernel) (by decide +kernel)
theorem w_39 : (Cond.methodLink "FileBody$Front" 3 (⟨"java/lang/Object", "<init>", "()V"⟩ : MethodName)) ∈ wA := wA_t 39 (by decide +kernel) (by decide +kernel)
theorem w_40 : (Cond.fieldLink "FileBody$Front" 9 "FileBody$Front" "bytes" "[B") ∈ wA := wA_t 40 (by decide +kernel) (by decide +kernel)
theorem w_41 : (Cond.laysFinal "FileBody$Front" "FileBody$Front" "bytes" "[B") ∈ wA := wA_t 41 (by decide +kernel) (by decide +kernel)
theorem w_43 : (Cond.superclass "FileBody$Front" "java/lang/Object") ∈ wA := wA_t 43 (by decide +kernel) (by decide +kernel)
theorem w_44 : (Cond.arrayClass FieldType.byte) ∈ wA := wA_t 44 (by decide +kernel) (by decide +kernel)
theorem w_45 : (Cond.classLink "FileBody" 16 "FileBody$DataBlocks") ∈ wA := wA_t 45 (by decide +kernel) (by decide +kernel)
theorem w_46 : (Cond.instantiable "FileBody$DataBlocks" 3) ∈ wA := wA_t 46 (by decide +kernel) (by decide +kernel)
theorem w_48 : (Cond.instanceMethod y_Db_init) ∈ wA := wA_t 48 (by decide +kernel) (by decide +kernel)
theorem w_49 : (Cond.code y_Db_init prog_3_method_1_code 1 (Option.none : Option FieldType)) ∈ wA := wA_t 49 (by decide +kernel) (by decide +kernel)
theorem w_50 : (Cond.methodLink "FileBody$DataBlocks" 3 (⟨"java/lang/Object", "<init>", "()V"⟩ : MethodName)) ∈ wA := wA_t 50 (by decide +kernel) (by decide +kernel)
theorem w_51 : (Cond.classLink "FileBody$DataBlocks" 9 "[B") ∈ wA := wA_t 51 (by decide +kernel) (by decide +kernel)
theorem w_53 : (Cond.fieldLink "FileBody$DataBlocks" 11 "FileBody$DataBlocks" "rows" "[[B") ∈ wA := wA_t 53 (by decide +kernel) (by decide +kernel)
theorem w_54 : (Cond.fieldLink "FileBody$DataBlocks" 17 "FileBody$DataBlocks" "taken" "[Z") ∈ wA := wA_t 54 (by decide +kernel) (by decide +kernel)
theorem w_55 : (Cond.fieldLink "FileBody$DataBlocks" 21 "FileBody$DataBlocks" "free" "I") ∈ wA := wA_t 55 (by decide +kernel) (by decide +kernel)
theorem w_56 : (Cond.laysFinal "FileBody$DataBlocks" "FileBody$DataBlocks" "rows" "[[B") ∈ wA := wA_t 56 (by decide +kernel) (by decide +kernel)
theorem w_58 : (Cond.laysFinal "FileBody$DataBlocks" "FileBody$DataBlocks" "taken" "[Z") ∈ wA := wA_t 58 (by decide +kernel) (by decide +kernel)
theorem w_60 : (Cond.lays "FileBody$DataBlocks" "FileBody$DataBlocks" "free" "I") ∈ wA := wA_t 60 (by decide +kernel) (by decide +kernel)
theorem w_62 : (Cond.superclass "FileBody$DataBlocks" "java/lang/Object") ∈ wA := wA_t 62 (by decide +kernel) (by decide +kernel)
theorem w_63 : (Cond.arrayClass FieldType.boolean) ∈ wA := wA_t 63 (by decide +kernel) (by decide +kernel)
theorem w_64 : (Cond.classLink "FileBody" 23 "FileBody$Records") ∈ wA := wA_t 64 (by decide +kernel) (by decide +kernel)
theorem w_65 : (Cond.instantiable "FileBody$Records" 1) ∈ wA := wA_t 65 (by decide +kernel) (by decide +kernel)
theorem w_66 : (Cond.methodLink "FileBody" 25 y_Re_init) ∈ wA := wA_t 66 (by decide +kernel) (by decide +kernel)
theorem w_67 : (Cond.instanceMethod y_Re_init) ∈ wA := wA_t 67 (by decide +kernel) (by decide +kernel)
theorem w_68 : (Cond.code y_Re_init prog_5_method_1_code 2 (Option.none : Option FieldType)) ∈ wA := wA_t 68 (by decide +kernel) (by decide +kernel)
theorem w_69 : (Cond.methodLink "FileBody$Records" 3 (⟨"java/lang/Object", "<init>", "()V"⟩ : MethodName)) ∈ wA := wA_t 69 (by decide +kernel) (by decide +kernel)
theorem w_70 : (Cond.fieldLink "FileBody$Records" 9 "FileBody$Records" "front" "LFileBody$Front;") ∈ wA := wA_t 70 (by decide +kernel) (by decide +kernel)
theorem w_71 : (Cond.laysFinal "FileBody$Records" "FileBody$Records" "front" "LFileBody$Front;") ∈ wA := wA_t 71 (by decide +kernel) (by decide +kernel)
theorem w_73 : (Cond.superclass "FileBody$Records" "java/lang/Object") ∈ wA := wA_t 73 (by decide +kernel) (by decide +kernel)
theorem w_74 : (Cond.classLink "FileBody" 32 "FileBody$Waiting") ∈ wA := wA_t 74 (by decide +kernel) (by decide +kernel)
theorem w_75 : (Cond.instantiable "FileBody$Waiting" 2) ∈ wA := wA_t 75 (by decide +kernel) (by decide +kernel)
theorem w_76 : (Cond.methodLink "FileBody" 34 y_Wa_init) ∈ wA := wA_t 76 (by decide +kernel) (by decide +kernel)
theorem w_77 : (Cond.instanceMethod y_Wa_init) ∈ wA := wA_t 77 (by decide +kernel) (by decide +kernel)
theorem w_78 : (Cond.code y_Wa_init prog_6_method_1_code 3 (Option.none : Option FieldType)) ∈ wA := wA_t 78 (by decide +kernel) (by decide +kernel)
theorem w_79 : (Cond.methodLink "FileBody$Waiting" 3 (⟨"java/lang/Object", "<init>", "()V"⟩ : MethodName)) ∈ wA := wA_t 79 (by decide +kernel) (by decide +kernel)
theorem w_80 : (Cond.fieldLink "FileBody$Waiting" 9 "FileBody$Waiting" "front" "LFileBody$Front;") ∈ wA := wA_t 80 (by decide +kernel) (by decide +kernel)
theorem w_81 : (Cond.fieldLink "FileBody$Waiting" 15 "FileBody$Waiting" "records" "LFileBody$Records;") ∈ wA := wA_t 81 (by decide +kernel) (by decide +kernel)
theorem w_82 : (Cond.laysFinal "FileBody$Waiting" "FileBody$Waiting" "front" "LFileBody$Front;") ∈ wA := wA_t 82 (by decide +kernel) (by decide +kernel)
theorem w_84 : (Cond.laysFinal "FileBody$Waiting" "FileBody$Waiting" "records" "LFileBody$Records;") ∈ wA := wA_t 84 (by decide +kernel) (by decide +kernel)
theorem w_86 : (Cond.superclass "FileBody$Waiting" "java/lang/Object") ∈ wA := wA_t 86 (by decide +kernel) (by decide +kernel)
theorem w_87 : (Cond.classLink "FileBody" 41 "FileBody$Bodies") ∈ wA := wA_t 87 (by decide +kernel) (by decide +kernel)
theorem w_88 : (Cond.instantiable "FileBody$Bodies" 2) ∈ wA := wA_t 88 (by decide +kernel) (by decide +kernel)
theorem w_89 : (Cond.methodLink "FileBody" 43 y_Bo_init) ∈ wA := wA_t 89 (by decide +kernel) (by decide +kernel)
theorem w_90 : (Cond.instanceMethod y_Bo_init) ∈ wA := wA_t 90 (by decide +kernel) (by decide +kernel)
theorem w_91 : (Cond.code y_Bo_init prog_2_method_1_code 3 (Option.none : Option FieldType)) ∈ wA := wA_t 91 (by decide +kernel) (by decide +kernel)
theorem w_92 : (Cond.methodLink "FileBody$Bodies" 3 (⟨"java/lang/Object", "<init>", "()V"⟩ : MethodName)) ∈ wA := wA_t 92 (by decide +kernel) (by decide +kernel)
theorem w_93 : (Cond.fieldLink "FileBody$Bodies" 9 "FileBody$Bodies" "blocks" "LFileBody$DataBlocks;") ∈ wA := wA_t 93 (by decide +kernel) (by decide +kernel)
theorem w_94 : (Cond.fieldLink "FileBody$Bodies" 15 "FileBody$Bodies" "records" "LFileBody$Records;") ∈ wA := wA_t 94 (by decide +kernel) (by decide +kernel)
theorem w_95 : (Cond.laysFinal "FileBody$Bodies" "FileBody$Bodies" "blocks" "LFileBody$DataBlocks;") ∈ wA := wA_t 95 (by decide +kernel) (by decide +kernel)
theorem w_97 : (Cond.laysFinal "FileBody$Bodies" "FileBody$Bodies" "records" "LFileBody$Records;") ∈ wA := wA_t 97 (by decide +kernel) (by decide +kernel)
theorem w_99 : (Cond.superclass "FileBody$Bodies" "java/lang/Object") ∈ wA := wA_t 99 (by decide +kernel) (by decide +kernel)
theorem w_100 : (Cond.fieldLink "FileBody" 12 "FileBody" "front" "LFileBody$Front;") ∈ wA := wA_t 100 (by decide +kernel) (by decide +kernel)
theorem w_101 : (Cond.fieldLink "FileBody" 19 "FileBody" "blocks" "LFileBody$DataBlocks;") ∈ wA := wA_t 101 (by decide +kernel) (by decide +kernel)
theorem w_102 : (Cond.fieldLink "FileBody" 28 "FileBody" "records" "LFileBody$Records;") ∈ wA := wA_t 102 (by decide +kernel) (by decide +kernel)
theorem w_103 : (Cond.fieldLink "FileBody" 37 "FileBody" "waiting" "LFileBody$Waiting;") ∈ wA := wA_t 103 (by decide +kernel) (by decide +kernel)
theorem w_104 : (Cond.fieldLink "FileBody" 46 "FileBody" "bodies" "LFileBody$Bodies;") ∈ wA := wA_t 104 (by decide +kernel) (by decide +kernel)
theorem w_105 : (Cond.laysFinal "FileBody" "FileBody" "front" "LFileBody$Front;") ∈ wA := wA_t 105 (by decide +kernel) (by decide +kernel)
theorem w_107 : (Cond.laysFinal "FileBody" "FileBody" "blocks" "LFileBody$DataBlocks;") ∈ wA := wA_t 107 (by decide +kernel) (by decide +kernel)
theorem w_109 : (Cond.laysFinal "FileBody" "FileBody" "records" "LFileBody$Records;") ∈ wA := wA_t 109 (by decide +kernel) (by decide +kernel)
theorem w_111 : (Cond.laysFinal "FileBody" "FileBody" "waiting" "LFileBody$Waiting;") ∈ wA := wA_t 111 (by decide +kernel) (by decide +kernel)
theorem w_113 : (Cond.laysFinal "FileBody" "FileBody" "bodies" "LFileBody$Bodies;") ∈ wA := wA_t 113 (by decide +kernel) (by decide +kernel)
theorem w_115 : (Cond.superclass "FileBody" "java/lang/Object") ∈ wA := wA_t 115 (by decide +kernel) (by decide +kernel)
theorem w_116 : (Cond.methodLink "FileBodyLaw" 95 y_Fb_finish) ∈ wA := wA_t 116 (by decide +kernel) (by decide +kernel)
theorem w_117 : (Cond.instanceMethod y_Fb_finish) ∈ wA := wA_t 117 (by decide +kernel) (by decide +kernel)
theorem w_118 : (Cond.selects "FileBody" y_Fb_finish y_Fb_finish) ∈ wA := wA_t 118 (by decide +kernel) (by decide +kernel)
theorem w_119 : (Cond.code y_Fb_finish prog_1_method_10_code 2 (Option.some FieldType.int)) ∈ wA := wA_t 119 (by decide +kernel) (by decide +kernel)
theorem w_120 : (Cond.methodLink "FileBody" 145 y_Wa_first) ∈ wA := wA_t 120 (by decide +kernel) (by decide +kernel)
theorem w_121 : (Cond.instanceMethod y_Wa_first) ∈ wA := wA_t 121 (by decide +kernel) (by decide +kernel)
theorem w_122 : (Cond.selects "FileBody$Waiting" y_Wa_first y_Wa_first) ∈ wA := wA_t 122 (by decide +kernel) (by decide +kernel)
theorem w_123 : (Cond.code y_Wa_first prog_6_method_2_code 1 (Option.some FieldType.int)) ∈ wA := wA_t 123 (by decide +kernel) (by decide +kernel)
theorem w_124 : (Cond.methodLink "FileBody$Waiting" 19 y_Fr_number) ∈ wA := wA_t 124 (by decide +kernel) (by decide +kernel)
theorem w_125 : (Cond.instanceMethod y_Fr_number) ∈ wA := wA_t 125 (by decide +kernel) (by decide +kernel)
theorem w_126 : (Cond.selects "FileBody$Front" y_Fr_number y_Fr_number) ∈ wA := wA_t 126 (by decide +kernel) (by decide +kernel)
theorem w_127 : (Cond.code y_Fr_number prog_4_method_2_code 5 (Option.some FieldType.int)) ∈ wA := wA_t 127 (by decide +kernel) (by decide +kernel)
theorem w_128 : (Cond.methodLink "FileBody" 142 y_Fb_letGo) ∈ wA := wA_t 128 (by decide +kernel) (by decide +kernel)
theorem w_130 : (Cond.instanceMethod y_Fb_letGo) ∈ wA := wA_t 130 (by decide +kernel) (by decide +kernel)
theorem w_131 : (Cond.code y_Fb_letGo prog_1_method_19_code 3 (Option.some FieldType.int)) ∈ wA := wA_t 131 (by decide +kernel) (by decide +kernel)
theorem w_132 : (Cond.methodLink "FileBody" 157 y_Re_blocksOf) ∈ wA := wA_t 132 (by decide +kernel) (by decide +kernel)
theorem w_133 : (Cond.instanceMethod y_Re_blocksOf) ∈ wA := wA_t 133 (by decide +kernel) (by decide +kernel)
theorem w_134 : (Cond.selects "FileBody$Records" y_Re_blocksOf y_Re_blocksOf) ∈ wA := wA_t 134 (by decide +kernel) (by decide +kernel)
theorem w_135 : (Cond.code y_Re_blocksOf prog_5_method_14_code 2 (Option.some FieldType.int)) ∈ wA := wA_t 135 (by decide +kernel) (by decide +kernel)
theorem w_136 : (Cond.methodLink "FileBody$Records" 29 y_Re_field) ∈ wA := wA_t 136 (by decide +kernel) (by decide +kernel)
theorem w_138 : (Cond.instanceMethod y_Re_field) ∈ wA := wA_t 138 (by decide +kernel) (by decide +kernel)
theorem w_139 : (Cond.code y_Re_field prog_5_method_21_code 4 (Option.some FieldType.int)) ∈ wA := wA_t 139 (by decide +kernel) (by decide +kernel)
theorem w_140 : (Cond.methodLink "FileBody$Records" 39 y_Re_isNumber) ∈ wA := wA_t 140 (by decide +kernel) (by decide +kernel)
theorem w_141 : (Cond.instanceMethod y_Re_isNumber) ∈ wA := wA_t 141 (by decide +kernel) (by decide +kernel)
theorem w_142 : (Cond.selects "FileBody$Records" y_Re_isNumber y_Re_isNumber) ∈ wA := wA_t 142 (by decide +kernel) (by decide +kernel)
theorem w_143 : (Cond.code y_Re_isNumber prog_5_method_2_code 2 (Option.some FieldType.boolean)) ∈ wA := wA_t 143 (by decide +kernel) (by decide +kernel)
theorem w_144 : (Cond.methodLink "FileBody$Records" 43 y_Re_startOf) ∈ wA := wA_t 144 (by decide +kernel) (by decide +kernel)
theorem w_145 : (Cond.static y_Re_startOf) ∈ wA := wA_t 145 (by decide +kernel) (by decide +kernel)
theorem w_146 : (Cond.code y_Re_startOf prog_5_method_23_code 1 (Option.some FieldType.int)) ∈ wA := wA_t 146 (by decide +kernel) (by decide +kernel)
theorem w_147 : (Cond.methodLink "FileBody$Records" 46 y_Fr_number) ∈ wA := wA_t 147 (by decide +kernel) (by decide +kernel)
theorem w_148 : (Cond.methodLink "FileBody" 137 y_Wa_remove) ∈ wA := wA_t 148 (by decide +kernel) (by decide +kernel)
theorem w_149 : (Cond.instanceMethod y_Wa_remove) ∈ wA := wA_t 149 (by decide +kernel) (by decide +kernel)
theorem w_150 : (Cond.selects "FileBody$Waiting" y_Wa_remove y_Wa_remove) ∈ wA := wA_t 150 (by decide +kernel) (by decide +kernel)
theorem w_151 : (Cond.code y_Wa_remove prog_6_method_5_code 3 (Option.none : Option FieldType)) ∈ wA := wA_t 151 (by decide +kernel) (by decide +kernel)
theorem w_152 : (Cond.methodLink "FileBody$Waiting" 25 y_Wa_first) ∈ wA := wA_t 152 (by decide +kernel) (by decide +kernel)
theorem w_153 : (Cond.methodLink "FileBody$Waiting" 29 y_Re_behind) ∈ wA := wA_t 153 (by decide +kernel) (by decide +kernel)
theorem w_154 : (Cond.instanceMethod y_Re_behind) ∈ wA := wA_t 154 (by decide +kernel) (by decide +kernel)
theorem w_155 : (Cond.selects "FileBody$Records" y_Re_behind y_Re_behind) ∈ wA := wA_t 155 (by decide +kernel) (by decide +kernel)
theorem w_156 : (Cond.code y_Re_behind prog_5_method_10_code 2 (Option.some FieldType.int)) ∈ wA := wA_t 156 (by decide +kernel) (by decide +kernel)
theorem w_157 : (Cond.methodLink "FileBody$Waiting" 39 y_Wa_setFirst) ∈ wA := wA_t 157 (by decide +kernel) (by decide +kernel)
theorem w_159 : (Cond.instanceMethod y_Wa_setFirst) ∈ wA := wA_t 159 (by decide +kernel) (by decide +kernel)
theorem w_160 : (Cond.code y_Wa_setFirst prog_6_method_7_code 2 (Option.none : Option FieldType)) ∈ wA := wA_t 160 (by decide +kernel) (by decide +kernel)
theorem w_161 : (Cond.methodLink "FileBody$Waiting" 46 y_Fr_setNumber) ∈ wA := wA_t 161 (by decide +kernel) (by decide +kernel)
theorem w_162 : (Cond.instanceMethod y_Fr_setNumber) ∈ wA := wA_t 162 (by decide +kernel) (by decide +kernel)
theorem w_163 : (Cond.selects "FileBody$Front" y_Fr_setNumber y_Fr_setNumber) ∈ wA := wA_t 163 (by decide +kernel) (by decide +kernel)
theorem w_164 : (Cond.code y_Fr_setNumber prog_4_method_3_code 6 (Option.none : Option FieldType)) ∈ wA := wA_t 164 (by decide +kernel) (by decide +kernel)
theorem w_165 : (Cond.methodLink "FileBody$Waiting" 43 y_Wa_fileBefore) ∈ wA := wA_t 165 (by decide +kernel) (by decide +kernel)
theorem w_167 : (Cond.instanceMethod y_Wa_fileBefore) ∈ wA := wA_t 167 (by decide +kernel) (by decide +kernel)
theorem w_168 : (Cond.code y_Wa_fileBefore prog_6_method_6_code 4 (Option.some FieldType.int)) ∈ wA := wA_t 168 (by decide +kernel) (by decide +kernel)
theorem w_169 : (Cond.methodLink "FileBody$Waiting" 35 y_Re_setBehind) ∈ wA := wA_t 169 (by decide +kernel) (by decide +kernel)
theorem w_170 : (Cond.instanceMethod y_Re_setBehind) ∈ wA := wA_t 170 (by decide +kernel) (by decide +kernel)
theorem w_171 : (Cond.selects "FileBody$Records" y_Re_setBehind y_Re_setBehind) ∈ wA := wA_t 171 (by decide +kernel) (by decide +kernel)
theorem w_172 : (Cond.code y_Re_setBehind prog_5_method_11_code 3 (Option.none : Option FieldType)) ∈ wA := wA_t 172 (by decide +kernel) (by decide +kernel)
theorem w_173 : (Cond.methodLink "FileBody$Records" 21 y_Re_setField) ∈ wA := wA_t 173 (by decide +kernel) (by decide +kernel)
theorem w_175 : (Cond.instanceMethod y_Re_setField) ∈ wA := wA_t 175 (by decide +kernel) (by decide +kernel)
theorem w_176 : (Cond.code y_Re_setField prog_5_method_22_code 5 (Option.none : Option FieldType)) ∈ wA := wA_t 176 (by decide +kernel) (by decide +kernel)
theorem w_177 : (Cond.methodLink "FileBody$Records" 52 y_Fr_setNumber) ∈ wA := wA_t 177 (by decide +kernel) (by decide +kernel)
theorem w_178 : (Cond.methodLink "FileBody" 199 y_Bo_giveBack) ∈ wA := wA_t 178 (by decide +kernel) (by decide +kernel)
theorem w_179 : (Cond.instanceMethod y_Bo_giveBack) ∈ wA := wA_t 179 (by decide +kernel) (by decide +kernel)
theorem w_180 : (Cond.selects "FileBody$Bodies" y_Bo_giveBack y_Bo_giveBack) ∈ wA := wA_t 180 (by decide +kernel) (by decide +kernel)
theorem w_181 : (Cond.code y_Bo_giveBack prog_2_method_9_code 5 (Option.none : Option FieldType)) ∈ wA := wA_t 181 (by decide +kernel) (by decide +kernel)
theorem w_182 : (Cond.methodLink "FileBody$Bodies" 29 y_Re_blockOf) ∈ wA := wA_t 182 (by decide +kernel) (by decide +kernel)
theorem w_183 : (Cond.instanceMethod y_Re_blockOf) ∈ wA := wA_t 183 (by decide +kernel) (by decide +kernel)
theorem w_184 : (Cond.selects "FileBody$Records" y_Re_blockOf y_Re_blockOf) ∈ wA := wA_t 184 (by decide +kernel) (by decide +kernel)
theorem w_185 : (Cond.code y_Re_blockOf prog_5_method_18_code 3 (Option.some FieldType.int)) ∈ wA := wA_t 185 (by decide +kernel) (by decide +kernel)
theorem w_186 : (Cond.methodLink "FileBody$Records" 36 y_Re_blocksOf) ∈ wA := wA_t 186 (by decide +kernel) (by decide +kernel)
theorem w_187 : (Cond.methodLink "FileBody$Bodies" 77 y_Db_give) ∈ wA := wA_t 187 (by decide +kernel) (by decide +kernel)
theorem w_188 : (Cond.instanceMethod y_Db_give) ∈ wA := wA_t 188 (by decide +kernel) (by decide +kernel)
theorem w_189 : (Cond.selects "FileBody$DataBlocks" y_Db_give y_Db_give) ∈ wA := wA_t 189 (by decide +kernel) (by decide +kernel)
theorem w_190 : (Cond.code y_Db_give prog_3_method_4_code 2 (Option.none : Option FieldType)) ∈ wA := wA_t 190 (by decide +kernel) (by decide +kernel)
theorem w_191 : (Cond.methodLink "FileBody$Bodies" 81 y_Re_removeBlock) ∈ wA := wA_t 191 (by decide +kernel) (by decide +kernel)
theorem w_192 : (Cond.instanceMethod y_Re_removeBlock) ∈ wA := wA_t 192 (by decide +kernel) (by decide +kernel)
theorem w_193 : (Cond.selects "FileBody$Records" y_Re_removeBlock y_Re_removeBlock) ∈ wA := wA_t 193 (by decide +kernel) (by decide +kernel)
theorem w_194 : (Cond.code y_Re_removeBlock prog_5_method_20_code 3 (Option.none : Option FieldType)) ∈ wA := wA_t 194 (by decide +kernel) (by decide +kernel)
theorem w_195 : (Cond.methodLink "FileBody" 202 y_Re_erase) ∈ wA := wA_t 195 (by decide +kernel) (by decide +kernel)
theorem w_196 : (Cond.instanceMethod y_Re_erase) ∈ wA := wA_t 196 (by decide +kernel) (by decide +kernel)
theorem w_197 : (Cond.selects "FileBody$Records" y_Re_erase y_Re_erase) ∈ wA := wA_t 197 (by decide +kernel) (by decide +kernel)
theorem w_198 : (Cond.code y_Re_erase prog_5_method_6_code 2 (Option.none : Option FieldType)) ∈ wA := wA_t 198 (by decide +kernel) (by decide +kernel)
theorem w_199 : (Cond.methodLink "FileBodyLaw" 59 y_Lw_make) ∈ wA := wA_t 199 (by decide +kernel) (by decide +kernel)
theorem w_200 : (Cond.static y_Lw_make) ∈ wA := wA_t 200 (by decide +kernel) (by decide +kernel)
theorem w_201 : (Cond.codeWith y_Lw_make method_3_code 4 (Option.some FieldType.int) [(0, 9, 12, 13), (0, 9, 15, 15)]) ∈ wA := wA_t 201 (by decide +kernel) (by decide +kernel)
theorem w_202 : (Cond.classLink "FileBodyLaw" 13 "java/lang/IllegalArgumentException") ∈ wA := wA_t 202 (by decide +kernel) (by decide +kernel)
theorem w_203 : (Cond.classLink "FileBodyLaw" 15 "java/lang/IllegalStateException") ∈ wA := wA_t 203 (by decide +kernel) (by decide +kernel)
theorem w_204 : (Cond.methodLink "FileBodyLaw" 7 y_Fb_make) ∈ wA := wA_t 204 (by decide +kernel) (by decide +kernel)
theorem w_205 : (Cond.instanceMethod y_Fb_make) ∈ wA := wA_t 205 (by decide +kernel) (by decide +kernel)
theorem w_206 : (Cond.selects "FileBody" y_Fb_make y_Fb_make) ∈ wA := wA_t 206 (by decide +kernel) (by decide +kernel)
theorem w_207 : (Cond.code y_Fb_make prog_1_method_2_code 3 (Option.some FieldType.int)) ∈ wA := wA_t 207 (by decide +kernel) (by decide +kernel)
theorem w_208 : (Cond.classLink "FileBody" 50 "java/lang/IllegalArgumentException") ∈ wA := wA_t 208 (by decide +kernel) (by decide +kernel)
theorem w_209 : (Cond.instantiable "java/lang/IllegalArgumentException" 6) ∈ wA := wA_t 209 (by decide +kernel) (by decide +kernel)
theorem w_217 : (Cond.selects "java/lang/IllegalArgumentException" (⟨"java/lang/Throwable", "fillInStackTrace", "(I)Ljava/lang/Throwable;"⟩ : MethodName) (⟨"java/lang/Throwable", "fillInStackTrace", "(I)Ljava/lang/Throwable;"⟩ : MethodName)) ∈ wA := wA_t 217 (by decide +kernel) (by decide +kernel)
theorem w_218 : (Cond.selects "java/lang/IllegalArgumentException" (⟨"java/lang/Throwable", "fillInStackTrace", "()Ljava/lang/Throwable;"⟩ : MethodName) (⟨"java/lang/Throwable", "fillInStackTrace", "()Ljava/lang/Throwable;"⟩ : MethodName)) ∈ wA := wA_t 218 (by decide +kernel) (by decide +kernel)
theorem w_219 : (Cond.lays "java/lang/IllegalArgumentException" "java/lang/Throwable" "cause" "Ljava/lang/Throwable;") ∈ wA := wA_t 219 (by decide +kernel) (by decide +kernel)
theorem w_221 : (Cond.lays "java/lang/IllegalArgumentException" "java/lang/Throwable" "stackTrace" "[Ljava/lang/StackTraceElement;") ∈ wA := wA_t 221 (by decide +kernel) (by decide +kernel)
theorem w_223 : (Cond.lays "java/lang/IllegalArgumentException" "java/lang/Throwable" "suppressedExceptions" "Ljava/util/List;") ∈ wA := wA_t 223 (by decide +kernel) (by decide +kernel)
theorem w_225 : (Cond.lays "java/lang/IllegalArgumentException" "java/lang/Throwable" "detailMessage" "Ljava/lang/String;") ∈ wA := wA_t 225 (by decide +kernel) (by decide +kernel)
theorem w_227 : (Cond.lays "java/lang/IllegalArgumentException" "java/lang/Throwable" "backtrace" "Ljava/lang/Object;") ∈ wA := wA_t 227 (by decide +kernel) (by decide +kernel)
theorem w_230 : (Cond.superclass "java/lang/Throwable" "java/lang/Object") ∈ wA := wA_t 230 (by decide +kernel) (by decide +kernel)
theorem w_233 : (Cond.methodLink "java/lang/Throwable" 1 (⟨"java/lang/Object", "<init>", "()V"⟩ : MethodName)) ∈ wA := wA_t 233 (by decide +kernel) (by decide +kernel)
theorem w_242 : (Cond.selects "java/lang/IllegalStateException" (⟨"java/lang/Throwable", "fillInStackTrace", "()Ljava/lang/Throwable;"⟩ : MethodName) (⟨"java/lang/Throwable", "fillInStackTrace", "()Ljava/lang/Throwable;"⟩ : MethodName)) ∈ wA := wA_t 242 (by decide +kernel) (by decide +kernel)
theorem w_243 : (Cond.selects "java/lang/IndexOutOfBoundsException" (⟨"java/lang/Throwable", "fillInStackTrace", "()Ljava/lang/Throwable;"⟩ : MethodName) (⟨"java/lang/Throwable", "fillInStackTrace", "()Ljava/lang/Throwable;"⟩ : MethodName)) ∈ wA := wA_t 243 (by decide +kernel) (by decide +kernel)
theorem w_251 : (Cond.methodLink "FileBody" 54 (⟨"java/lang/IllegalArgumentException", "<init>", "(Ljava/lang/String;)V"⟩ : MethodName)) ∈ wA := wA_t 251 (by decide +kernel) (by decide +kernel)
theorem w_252 : (Cond.instanceMethod (⟨"java/lang/IllegalArgumentException", "<init>", "(Ljava/lang/String;)V"⟩ : MethodName)) ∈ wA := wA_t 252 (by decide +kernel) (by decide +kernel)
theorem w_253 : (Cond.code (⟨"java/lang/IllegalArgumentException", "<init>", "(Ljava/lang/String;)V"⟩ : MethodName) prog_13_method_2_code 2 (Option.none : Option FieldType)) ∈ wA := wA_t 253 (by decide +kernel) (by decide +kernel)
theorem w_254 : (Cond.methodLink "java/lang/IllegalArgumentException" 7 (⟨"java/lang/RuntimeException", "<init>", "(Ljava/lang/String;)V"⟩ : MethodName)) ∈ wA := wA_t 254 (by decide +kernel) (by decide +kernel)
theorem w_272 : (Cond.lays "java/lang/IllegalArgumentException" "java/lang/Throwable" "depth" "I") ∈ wA := wA_t 272 (by decide +kernel) (by decide +kernel)
theorem w_275 : (Cond.superclass "java/lang/IllegalArgumentException" "java/lang/RuntimeException") ∈ wA := wA_t 275 (by decide +kernel) (by decide +kernel)
theorem w_276 : (Cond.methodLink "FileBody" 57 y_Re_leastAbsent) ∈ wA := wA_t 276 (by decide +kernel) (by decide +kernel)
theorem w_277 : (Cond.instanceMethod y_Re_leastAbsent) ∈ wA := wA_t 277 (by decide +kernel) (by decide +kernel)
theorem w_278 : (Cond.selects "FileBody$Records" y_Re_leastAbsent y_Re_leastAbsent) ∈ wA := wA_t 278 (by decide +kernel) (by decide +kernel)
theorem w_279 : (Cond.code y_Re_leastAbsent prog_5_method_3_code 2 (Option.some FieldType.int)) ∈ wA := wA_t 279 (by decide +kernel) (by decide +kernel)
theorem w_280 : (Cond.methodLink "FileBody$Records" 15 y_Re_kindOf) ∈ wA := wA_t 280 (by decide +kernel) (by decide +kernel)
theorem w_281 : (Cond.instanceMethod y_Re_kindOf) ∈ wA := wA_t 281 (by decide +kernel) (by decide +kernel)
theorem w_282 : (Cond.selects "FileBody$Records" y_Re_kindOf y_Re_kindOf) ∈ wA := wA_t 282 (by decide +kernel) (by decide +kernel)
theorem w_283 : (Cond.code y_Re_kindOf prog_5_method_7_code 2 (Option.some FieldType.int)) ∈ wA := wA_t 283 (by decide +kernel) (by decide +kernel)
theorem w_284 : (Cond.classLink "FileBody" 61 "java/lang/IllegalStateException") ∈ wA := wA_t 284 (by decide +kernel) (by decide +kernel)
theorem w_285 : (Cond.instantiable "java/lang/IllegalStateException" 6) ∈ wA := wA_t 285 (by decide +kernel) (by decide +kernel)
theorem w_287 : (Cond.selects "java/lang/IllegalStateException" (⟨"java/lang/Throwable", "fillInStackTrace", "(I)Ljava/lang/Throwable;"⟩ : MethodName) (⟨"java/lang/Throwable", "fillInStackTrace", "(I)Ljava/lang/Throwable;"⟩ : MethodName)) ∈ wA := wA_t 287 (by decide +kernel) (by decide +kernel)
theorem w_288 : (Cond.lays "java/lang/IllegalStateException" "java/lang/Throwable" "cause" "Ljava/lang/Throwable;") ∈ wA := wA_t 288 (by decide +kernel) (by decide +kernel)
theorem w_289 : (Cond.lays "java/lang/IllegalStateException" "java/lang/Throwable" "stackTrace" "[Ljava/lang/StackTraceElement;") ∈ wA := wA_t 289 (by decide +kernel) (by decide +kernel)
theorem w_290 : (Cond.lays "java/lang/IllegalStateException" "java/lang/Throwable" "suppressedExceptions" "Ljava/util/List;") ∈ wA := wA_t 290 (by decide +kernel) (by decide +kernel)
theorem w_291 : (Cond.lays "java/lang/IllegalStateException" "java/lang/Throwable" "detailMessage" "Ljava/lang/String;") ∈ wA := wA_t 291 (by decide +kernel) (by decide +kernel)
theorem w_292 : (Cond.lays "java/lang/IllegalStateException" "java/lang/Throwable" "backtrace" "Ljava/lang/Object;") ∈ wA := wA_t 292 (by decide +kernel) (by decide +kernel)
theorem w_294 : (Cond.methodLink "FileBody" 65 (⟨"java/lang/IllegalStateException", "<init>", "(Ljava/lang/String;)V"⟩ : MethodName)) ∈ wA := wA_t 294 (by decide +kernel) (by decide +kernel)
theorem w_295 : (Cond.instanceMethod (⟨"java/lang/IllegalStateException", "<init>", "(Ljava/lang/String;)V"⟩ : MethodName)) ∈ wA := wA_t 295 (by decide +kernel) (by decide +kernel)
theorem w_296 : (Cond.code (⟨"java/lang/IllegalStateException", "<init>", "(Ljava/lang/String;)V"⟩ : MethodName) prog_14_method_2_code 2 (Option.none : Option FieldType)) ∈ wA := wA_t 296 (by decide +kernel) (by decide +kernel)
theorem w_297 : (Cond.methodLink "java/lang/IllegalStateException" 7 (⟨"java/lang/RuntimeException", "<init>", "(Ljava/lang/String;)V"⟩ : MethodName)) ∈ wA := wA_t 297 (by decide +kernel) (by decide +kernel)
theorem w_298 : (Cond.lays "java/lang/IllegalStateException" "java/lang/Throwable" "depth" "I") ∈ wA := wA_t 298 (by decide +kernel) (by decide +kernel)
theorem w_299 : (Cond.superclass "java/lang/IllegalStateException" "java/lang/RuntimeException") ∈ wA := wA_t 299 (by decide +kernel) (by decide +kernel)
theorem w_300 : (Cond.methodLink "FileBody" 66 y_Re_begin) ∈ wA := wA_t 300 (by decide +kernel) (by decide +kernel)
theorem w_301 : (Cond.instanceMethod y_Re_begin) ∈ wA := wA_t 301 (by decide +kernel) (by decide +kernel)
theorem w_302 : (Cond.selects "FileBody$Records" y_Re_begin y_Re_begin) ∈ wA := wA_t 302 (by decide +kernel) (by decide +kernel)
theorem w_303 : (Cond.code y_Re_begin prog_5_method_5_code 4 (Option.none : Option FieldType)) ∈ wA := wA_t 303 (by decide +kernel) (by decide +kernel)
theorem w_304 : (Cond.constant "FileBody$Records" 19 (40960 : Int32)) ∈ wA := wA_t 304 (by decide +kernel) (by decide +kernel)
theorem w_305 : (Cond.constant "FileBody$Records" 20 (32768 : Int32)) ∈ wA := wA_t 305 (by decide +kernel) (by decide +kernel)
theorem w_306 : (Cond.methodLink "FileBody$Records" 25 y_Re_setLinks) ∈ wA := wA_t 306 (by decide +kernel) (by decide +kernel)
theorem w_307 : (Cond.instanceMethod y_Re_setLinks) ∈ wA := wA_t 307 (by decide +kernel) (by decide +kernel)
theorem w_308 : (Cond.selects "FileBody$Records" y_Re_setLinks y_Re_setLinks) ∈ wA := wA_t 308 (by decide +kernel) (by decide +kernel)
theorem w_309 : (Cond.code y_Re_setLinks prog_5_method_13_code 3 (Option.none : Option FieldType)) ∈ wA := wA_t 309 (by decide +kernel) (by decide +kernel)
theorem w_310 : (Cond.methodLink "FileBody" 70 y_Wa_add) ∈ wA := wA_t 310 (by decide +kernel) (by decide +kernel)
theorem w_311 : (Cond.instanceMethod y_Wa_add) ∈ wA := wA_t 311 (by decide +kernel) (by decide +kernel)
theorem w_312 : (Cond.selects "FileBody$Waiting" y_Wa_add y_Wa_add) ∈ wA := wA_t 312 (by decide +kernel) (by decide +kernel)
theorem w_313 : (Cond.code y_Wa_add prog_6_method_4_code 2 (Option.none : Option FieldType)) ∈ wA := wA_t 313 (by decide +kernel) (by decide +kernel)
theorem w_314 : (Cond.methodLink "FileBodyLaw" 69 y_Lw_link) ∈ wA := wA_t 314 (by decide +kernel) (by decide +kernel)
theorem w_315 : (Cond.static y_Lw_link) ∈ wA := wA_t 315 (by decide +kernel) (by decide +kernel)
theorem w_316 : (Cond.codeWith y_Lw_link method_4_code 5 (Option.some FieldType.int) [(0, 10, 13, 13), (0, 10, 17, 15)]) ∈ wA := wA_t 316 (by decide +kernel) (by decide +kernel)
theorem w_317 : (Cond.methodLink "FileBodyLaw" 17 y_Fb_link) ∈ wA := wA_t 317 (by decide +kernel) (by decide +kernel)
theorem w_318 : (Cond.instanceMethod y_Fb_link) ∈ wA := wA_t 318 (by decide +kernel) (by decide +kernel)
theorem w_319 : (Cond.selects "FileBody" y_Fb_link y_Fb_link) ∈ wA := wA_t 319 (by decide +kernel) (by decide +kernel)
theorem w_320 : (Cond.code y_Fb_link prog_1_method_3_code 4 (Option.some FieldType.int)) ∈ wA := wA_t 320 (by decide +kernel) (by decide +kernel)
theorem w_322 : (Cond.methodLink "FileBody" 76 y_Db_howManyFree) ∈ wA := wA_t 322 (by decide +kernel) (by decide +kernel)
theorem w_323 : (Cond.instanceMethod y_Db_howManyFree) ∈ wA := wA_t 323 (by decide +kernel) (by decide +kernel)
theorem w_324 : (Cond.selects "FileBody$DataBlocks" y_Db_howManyFree y_Db_howManyFree) ∈ wA := wA_t 324 (by decide +kernel) (by decide +kernel)
theorem w_325 : (Cond.code y_Db_howManyFree prog_3_method_2_code 1 (Option.some FieldType.int)) ∈ wA := wA_t 325 (by decide +kernel) (by decide +kernel)
theorem w_327 : (Cond.methodLink "FileBody" 81 y_Re_setSize) ∈ wA := wA_t 327 (by decide +kernel) (by decide +kernel)
theorem w_328 : (Cond.instanceMethod y_Re_setSize) ∈ wA := wA_t 328 (by decide +kernel) (by decide +kernel)
theorem w_329 : (Cond.selects "FileBody$Records" y_Re_setSize y_Re_setSize) ∈ wA := wA_t 329 (by decide +kernel) (by decide +kernel)
theorem w_330 : (Cond.code y_Re_setSize prog_5_method_9_code 3 (Option.none : Option FieldType)) ∈ wA := wA_t 330 (by decide +kernel) (by decide +kernel)
theorem w_331 : (Cond.methodLink "FileBody" 85 y_Bo_setTarget) ∈ wA := wA_t 331 (by decide +kernel) (by decide +kernel)
theorem w_332 : (Cond.instanceMethod y_Bo_setTarget) ∈ wA := wA_t 332 (by decide +kernel) (by decide +kernel)
theorem w_333 : (Cond.selects "FileBody$Bodies" y_Bo_setTarget y_Bo_setTarget) ∈ wA := wA_t 333 (by decide +kernel) (by decide +kernel)
theorem w_334 : (Cond.code y_Bo_setTarget prog_2_method_3_code 6 (Option.none : Option FieldType)) ∈ wA := wA_t 334 (by decide +kernel) (by decide +kernel)
theorem w_335 : (Cond.methodLink "FileBody$Bodies" 19 y_Re_hasTarget) ∈ wA := wA_t 335 (by decide +kernel) (by decide +kernel)
theorem w_336 : (Cond.instanceMethod y_Re_hasTarget) ∈ wA := wA_t 336 (by decide +kernel) (by decide +kernel)
theorem w_337 : (Cond.selects "FileBody$Records" y_Re_hasTarget y_Re_hasTarget) ∈ wA := wA_t 337 (by decide +kernel) (by decide +kernel)
theorem w_338 : (Cond.code y_Re_hasTarget prog_5_method_15_code 2 (Option.some FieldType.boolean)) ∈ wA := wA_t 338 (by decide +kernel) (by decide +kernel)
theorem w_339 : (Cond.methodLink "FileBody$Records" 33 y_Re_sizeOf) ∈ wA := wA_t 339 (by decide +kernel) (by decide +kernel)
theorem w_340 : (Cond.instanceMethod y_Re_sizeOf) ∈ wA := wA_t 340 (by decide +kernel) (by decide +kernel)
theorem w_341 : (Cond.selects "FileBody$Records" y_Re_sizeOf y_Re_sizeOf) ∈ wA := wA_t 341 (by decide +kernel) (by decide +kernel)
theorem w_342 : (Cond.code y_Re_sizeOf prog_5_method_8_code 2 (Option.some FieldType.int)) ∈ wA := wA_t 342 (by decide +kernel) (by decide +kernel)
theorem w_343 : (Cond.methodLink "FileBody$Bodies" 37 y_Bo_targetByte) ∈ wA := wA_t 343 (by decide +kernel) (by decide +kernel)
theorem w_344 : (Cond.static y_Bo_targetByte) ∈ wA := wA_t 344 (by decide +kernel) (by decide +kernel)
theorem w_345 : (Cond.code y_Bo_targetByte prog_2_method_11_code 2 (Option.some FieldType.int)) ∈ wA := wA_t 345 (by decide +kernel) (by decide +kernel)
theorem w_346 : (Cond.methodLink "FileBody$Bodies" 90 y_Ma_floorMod) ∈ wA := wA_t 346 (by decide +kernel) (by decide +kernel)
theorem w_347 : (Cond.static y_Ma_floorMod) ∈ wA := wA_t 347 (by decide +kernel) (by decide +kernel)
theorem w_348 : (Cond.code y_Ma_floorMod prog_17_method_50_code 3 (Option.some FieldType.int)) ∈ wA := wA_t 348 (by decide +kernel) (by decide +kernel)
theorem w_349 : (Cond.methodLink "FileBody$Bodies" 38 y_Re_setTargetByte) ∈ wA := wA_t 349 (by decide +kernel) (by decide +kernel)
theorem w_350 : (Cond.instanceMethod y_Re_setTargetByte) ∈ wA := wA_t 350 (by decide +kernel) (by decide +kernel)
theorem w_351 : (Cond.selects "FileBody$Records" y_Re_setTargetByte y_Re_setTargetByte) ∈ wA := wA_t 351 (by decide +kernel) (by decide +kernel)
theorem w_352 : (Cond.code y_Re_setTargetByte prog_5_method_17_code 4 (Option.none : Option FieldType)) ∈ wA := wA_t 352 (by decide +kernel) (by decide +kernel)
theorem w_353 : (Cond.methodLink "FileBody$Bodies" 42 y_Bo_takeBlock) ∈ wA := wA_t 353 (by decide +kernel) (by decide +kernel)
theorem w_355 : (Cond.instanceMethod y_Bo_takeBlock) ∈ wA := wA_t 355 (by decide +kernel) (by decide +kernel)
theorem w_356 : (Cond.code y_Bo_takeBlock prog_2_method_10_code 6 (Option.none : Option FieldType)) ∈ wA := wA_t 356 (by decide +kernel) (by decide +kernel)
theorem w_357 : (Cond.methodLink "FileBody$Bodies" 84 y_Db_take) ∈ wA := wA_t 357 (by decide +kernel) (by decide +kernel)
theorem w_358 : (Cond.instanceMethod y_Db_take) ∈ wA := wA_t 358 (by decide +kernel) (by decide +kernel)
theorem w_359 : (Cond.selects "FileBody$DataBlocks" y_Db_take y_Db_take) ∈ wA := wA_t 359 (by decide +kernel) (by decide +kernel)
theorem w_360 : (Cond.code y_Db_take prog_3_method_3_code 3 (Option.some FieldType.int)) ∈ wA := wA_t 360 (by decide +kernel) (by decide +kernel)
theorem w_361 : (Cond.methodLink "FileBody$DataBlocks" 25 y_Db_leastFree) ∈ wA := wA_t 361 (by decide +kernel) (by decide +kernel)
theorem w_363 : (Cond.instanceMethod y_Db_leastFree) ∈ wA := wA_t 363 (by decide +kernel) (by decide +kernel)
theorem w_364 : (Cond.code y_Db_leastFree prog_3_method_9_code 3 (Option.some FieldType.int)) ∈ wA := wA_t 364 (by decide +kernel) (by decide +kernel)
theorem w_365 : (Cond.methodLink "FileBody$DataBlocks" 42 (⟨"java/lang/Math", "max", "(II)I"⟩ : MethodName)) ∈ wA := wA_t 365 (by decide +kernel) (by decide +kernel)
theorem w_366 : (Cond.static (⟨"java/lang/Math", "max", "(II)I"⟩ : MethodName)) ∈ wA := wA_t 366 (by decide +kernel) (by decide +kernel)
theorem w_367 : (Cond.code (⟨"java/lang/Math", "max", "(II)I"⟩ : MethodName) prog_17_method_65_code 2 (Option.some FieldType.int)) ∈ wA := wA_t 367 (by decide +kernel) (by decide +kernel)
theorem w_368 : (Cond.methodLink "FileBody$DataBlocks" 29 y_Ar_fill) ∈ wA := wA_t 368 (by decide +kernel) (by decide +kernel)
theorem w_369 : (Cond.static y_Ar_fill) ∈ wA := wA_t 369 (by decide +kernel) (by decide +kernel)
theorem w_370 : (Cond.code y_Ar_fill prog_25_method_109_code 4 (Option.none : Option FieldType)) ∈ wA := wA_t 370 (by decide +kernel) (by decide +kernel)
theorem w_371 : (Cond.methodLink "FileBody$Bodies" 87 y_Re_addBlock) ∈ wA := wA_t 371 (by decide +kernel) (by decide +kernel)
theorem w_372 : (Cond.instanceMethod y_Re_addBlock) ∈ wA := wA_t 372 (by decide +kernel) (by decide +kernel)
theorem w_373 : (Cond.selects "FileBody$Records" y_Re_addBlock y_Re_addBlock) ∈ wA := wA_t 373 (by decide +kernel) (by decide +kernel)
theorem w_374 : (Cond.code y_Re_addBlock prog_5_method_19_code 4 (Option.none : Option FieldType)) ∈ wA := wA_t 374 (by decide +kernel) (by decide +kernel)
theorem w_375 : (Cond.methodLink "FileBody$Bodies" 46 y_Db_setByte) ∈ wA := wA_t 375 (by decide +kernel) (by decide +kernel)
theorem w_376 : (Cond.instanceMethod y_Db_setByte) ∈ wA := wA_t 376 (by decide +kernel) (by decide +kernel)
theorem w_377 : (Cond.selects "FileBody$DataBlocks" y_Db_setByte y_Db_setByte) ∈ wA := wA_t 377 (by decide +kernel) (by decide +kernel)
theorem w_378 : (Cond.code y_Db_setByte prog_3_method_6_code 4 (Option.none : Option FieldType)) ∈ wA := wA_t 378 (by decide +kernel) (by decide +kernel)
theorem w_379 : (Cond.methodLink "FileBody$DataBlocks" 35 y_Db_hasSpan) ∈ wA := wA_t 379 (by decide +kernel) (by decide +kernel)
theorem w_381 : (Cond.instanceMethod y_Db_hasSpan) ∈ wA := wA_t 381 (by decide +kernel) (by decide +kernel)
theorem w_382 : (Cond.code y_Db_hasSpan prog_3_method_10_code 4 (Option.some FieldType.boolean)) ∈ wA := wA_t 382 (by decide +kernel) (by decide +kernel)
theorem w_383 : (Cond.methodLink "FileBodyLaw" 75 y_Lw_write) ∈ wA := wA_t 383 (by decide +kernel) (by decide +kernel)
theorem w_384 : (Cond.static y_Lw_write) ∈ wA := wA_t 384 (by decide +kernel) (by decide +kernel)
theorem w_385 : (Cond.codeWith y_Lw_write method_5_code 8 (Option.some FieldType.int) [(0, 14, 17, 13), (0, 14, 21, 15)]) ∈ wA := wA_t 385 (by decide +kernel) (by decide +kernel)
theorem w_386 : (Cond.methodLink "FileBodyLaw" 21 y_Fb_write) ∈ wA := wA_t 386 (by decide +kernel) (by decide +kernel)
theorem w_387 : (Cond.instanceMethod y_Fb_write) ∈ wA := wA_t 387 (by decide +kernel) (by decide +kernel)
theorem w_388 : (Cond.selects "FileBody" y_Fb_write y_Fb_write) ∈ wA := wA_t 388 (by decide +kernel) (by decide +kernel)
theorem w_389 : (Cond.code y_Fb_write prog_1_method_4_code 6 (Option.some FieldType.int)) ∈ wA := wA_t 389 (by decide +kernel) (by decide +kernel)
theorem w_390 : (Cond.methodLink "FileBody" 88 y_Fb_checkSpan) ∈ wA := wA_t 390 (by decide +kernel) (by decide +kernel)
theorem w_392 : (Cond.instanceMethod y_Fb_checkSpan) ∈ wA := wA_t 392 (by decide +kernel) (by decide +kernel)
theorem w_393 : (Cond.code y_Fb_checkSpan prog_1_method_17_code 5 (Option.none : Option FieldType)) ∈ wA := wA_t 393 (by decide +kernel) (by decide +kernel)
theorem w_394 : (Cond.methodLink "FileBody" 121 y_Fb_checkPlain) ∈ wA := wA_t 394 (by decide +kernel) (by decide +kernel)
theorem w_396 : (Cond.instanceMethod y_Fb_checkPlain) ∈ wA := wA_t 396 (by decide +kernel) (by decide +kernel)
theorem w_397 : (Cond.code y_Fb_checkPlain prog_1_method_16_code 2 (Option.none : Option FieldType)) ∈ wA := wA_t 397 (by decide +kernel) (by decide +kernel)
theorem w_398 : (Cond.methodLink "FileBody" 154 y_Re_kindOf) ∈ wA := wA_t 398 (by decide +kernel) (by decide +kernel)
theorem w_402 : (Cond.methodLink "FileBody" 92 y_Fb_checkFreeBlocks) ∈ wA := wA_t 402 (by decide +kernel) (by decide +kernel)
theorem w_404 : (Cond.instanceMethod y_Fb_checkFreeBlocks) ∈ wA := wA_t 404 (by decide +kernel) (by decide +kernel)
theorem w_405 : (Cond.code y_Fb_checkFreeBlocks prog_1_method_18_code 4 (Option.none : Option FieldType)) ∈ wA := wA_t 405 (by decide +kernel) (by decide +kernel)
theorem w_406 : (Cond.methodLink "FileBody" 193 y_Bo_blocksWanted) ∈ wA := wA_t 406 (by decide +kernel) (by decide +kernel)
theorem w_407 : (Cond.instanceMethod y_Bo_blocksWanted) ∈ wA := wA_t 407 (by decide +kernel) (by decide +kernel)
theorem w_408 : (Cond.selects "FileBody$Bodies" y_Bo_blocksWanted y_Bo_blocksWanted) ∈ wA := wA_t 408 (by decide +kernel) (by decide +kernel)
theorem w_409 : (Cond.code y_Bo_blocksWanted prog_2_method_4_code 6 (Option.some FieldType.int)) ∈ wA := wA_t 409 (by decide +kernel) (by decide +kernel)
theorem w_410 : (Cond.methodLink "FileBody$Bodies" 49 y_Bo_lastPiece) ∈ wA := wA_t 410 (by decide +kernel) (by decide +kernel)
theorem w_411 : (Cond.static y_Bo_lastPiece) ∈ wA := wA_t 411 (by decide +kernel) (by decide +kernel)
theorem w_412 : (Cond.code y_Bo_lastPiece prog_2_method_12_code 2 (Option.some FieldType.int)) ∈ wA := wA_t 412 (by decide +kernel) (by decide +kernel)
theorem w_414 : (Cond.methodLink "FileBody" 95 y_Bo_prepare) ∈ wA := wA_t 414 (by decide +kernel) (by decide +kernel)
theorem w_415 : (Cond.instanceMethod y_Bo_prepare) ∈ wA := wA_t 415 (by decide +kernel) (by decide +kernel)
theorem w_416 : (Cond.selects "FileBody$Bodies" y_Bo_prepare y_Bo_prepare) ∈ wA := wA_t 416 (by decide +kernel) (by decide +kernel)
theorem w_417 : (Cond.code y_Bo_prepare prog_2_method_5_code 5 (Option.none : Option FieldType)) ∈ wA := wA_t 417 (by decide +kernel) (by decide +kernel)
theorem w_418 : (Cond.methodLink "FileBody$Bodies" 52 y_Re_sizeOf) ∈ wA := wA_t 418 (by decide +kernel) (by decide +kernel)
theorem w_419 : (Cond.methodLink "FileBody$Bodies" 56 (⟨"java/lang/Math", "max", "(II)I"⟩ : MethodName)) ∈ wA := wA_t 419 (by decide +kernel) (by decide +kernel)
theorem w_420 : (Cond.methodLink "FileBody$Bodies" 61 y_Re_setSize) ∈ wA := wA_t 420 (by decide +kernel) (by decide +kernel)
theorem w_421 : (Cond.methodLink "FileBody" 98 y_Bo_setBytes) ∈ wA := wA_t 421 (by decide +kernel) (by decide +kernel)
theorem w_422 : (Cond.instanceMethod y_Bo_setBytes) ∈ wA := wA_t 422 (by decide +kernel) (by decide +kernel)
theorem w_423 : (Cond.selects "FileBody$Bodies" y_Bo_setBytes y_Bo_setBytes) ∈ wA := wA_t 423 (by decide +kernel) (by decide +kernel)
theorem w_424 : (Cond.code y_Bo_setBytes prog_2_method_6_code 10 (Option.none : Option FieldType)) ∈ wA := wA_t 424 (by decide +kernel) (by decide +kernel)
theorem w_425 : (Cond.methodLink "FileBody" 102 y_Re_sizeOf) ∈ wA := wA_t 425 (by decide +kernel) (by decide +kernel)
theorem w_426 : (Cond.methodLink "FileBodyLaw" 79 y_Lw_paint) ∈ wA := wA_t 426 (by decide +kernel) (by decide +kernel)
theorem w_427 : (Cond.static y_Lw_paint) ∈ wA := wA_t 427 (by decide +kernel) (by decide +kernel)
theorem w_428 : (Cond.codeWith y_Lw_paint method_6_code 7 (Option.some FieldType.int) [(0, 14, 17, 13), (0, 14, 21, 15)]) ∈ wA := wA_t 428 (by decide +kernel) (by decide +kernel)
theorem w_429 : (Cond.methodLink "FileBodyLaw" 25 y_Fb_paint) ∈ wA := wA_t 429 (by decide +kernel) (by decide +kernel)
theorem w_430 : (Cond.instanceMethod y_Fb_paint) ∈ wA := wA_t 430 (by decide +kernel) (by decide +kernel)
theorem w_431 : (Cond.selects "FileBody" y_Fb_paint y_Fb_paint) ∈ wA := wA_t 431 (by decide +kernel) (by decide +kernel)
theorem w_432 : (Cond.code y_Fb_paint prog_1_method_5_code 5 (Option.some FieldType.int)) ∈ wA := wA_t 432 (by decide +kernel) (by decide +kernel)
theorem w_433 : (Cond.methodLink "FileBody" 106 y_Bo_setPattern) ∈ wA := wA_t 433 (by decide +kernel) (by decide +kernel)
theorem w_434 : (Cond.instanceMethod y_Bo_setPattern) ∈ wA := wA_t 434 (by decide +kernel) (by decide +kernel)
theorem w_435 : (Cond.selects "FileBody$Bodies" y_Bo_setPattern y_Bo_setPattern) ∈ wA := wA_t 435 (by decide +kernel) (by decide +kernel)
theorem w_436 : (Cond.code y_Bo_setPattern prog_2_method_7_code 10 (Option.none : Option FieldType)) ∈ wA := wA_t 436 (by decide +kernel) (by decide +kernel)
theorem w_437 : (Cond.methodLink "FileBody$Bodies" 64 (⟨"java/lang/Math", "min", "(II)I"⟩ : MethodName)) ∈ wA := wA_t 437 (by decide +kernel) (by decide +kernel)
theorem w_438 : (Cond.static (⟨"java/lang/Math", "min", "(II)I"⟩ : MethodName)) ∈ wA := wA_t 438 (by decide +kernel) (by decide +kernel)
theorem w_439 : (Cond.code (⟨"java/lang/Math", "min", "(II)I"⟩ : MethodName) prog_17_method_69_code 2 (Option.some FieldType.int)) ∈ wA := wA_t 439 (by decide +kernel) (by decide +kernel)
theorem w_440 : (Cond.methodLink "FileBody$Bodies" 67 y_Db_setPattern) ∈ wA := wA_t 440 (by decide +kernel) (by decide +kernel)
theorem w_441 : (Cond.instanceMethod y_Db_setPattern) ∈ wA := wA_t 441 (by decide +kernel) (by decide +kernel)
theorem w_442 : (Cond.selects "FileBody$DataBlocks" y_Db_setPattern y_Db_setPattern) ∈ wA := wA_t 442 (by decide +kernel) (by decide +kernel)
theorem w_443 : (Cond.code y_Db_setPattern prog_3_method_8_code 8 (Option.none : Option FieldType)) ∈ wA := wA_t 443 (by decide +kernel) (by decide +kernel)
theorem w_444 : (Cond.methodLink "FileBodyLaw" 83 y_Lw_read) ∈ wA := wA_t 444 (by decide +kernel) (by decide +kernel)
theorem w_445 : (Cond.static y_Lw_read) ∈ wA := wA_t 445 (by decide +kernel) (by decide +kernel)
theorem w_446 : (Cond.codeWith y_Lw_read method_7_code 5 (Option.some FieldType.int) [(0, 10, 13, 13), (0, 10, 17, 32)]) ∈ wA := wA_t 446 (by decide +kernel) (by decide +kernel)
theorem w_447 : (Cond.classLink "FileBodyLaw" 32 "java/lang/IndexOutOfBoundsException") ∈ wA := wA_t 447 (by decide +kernel) (by decide +kernel)
theorem w_448 : (Cond.methodLink "FileBodyLaw" 29 y_Fb_read) ∈ wA := wA_t 448 (by decide +kernel) (by decide +kernel)
theorem w_449 : (Cond.instanceMethod y_Fb_read) ∈ wA := wA_t 449 (by decide +kernel) (by decide +kernel)
theorem w_450 : (Cond.selects "FileBody" y_Fb_read y_Fb_read) ∈ wA := wA_t 450 (by decide +kernel) (by decide +kernel)
theorem w_451 : (Cond.code y_Fb_read prog_1_method_6_code 3 (Option.some FieldType.int)) ∈ wA := wA_t 451 (by decide +kernel) (by decide +kernel)
theorem w_452 : (Cond.methodLink "FileBody" 109 y_Fb_checkThere) ∈ wA := wA_t 452 (by decide +kernel) (by decide +kernel)
theorem w_454 : (Cond.instanceMethod y_Fb_checkThere) ∈ wA := wA_t 454 (by decide +kernel) (by decide +kernel)
theorem w_455 : (Cond.code y_Fb_checkThere prog_1_method_15_code 2 (Option.none : Option FieldType)) ∈ wA := wA_t 455 (by decide +kernel) (by decide +kernel)
theorem w_457 : (Cond.classLink "FileBody" 112 "java/lang/IndexOutOfBoundsException") ∈ wA := wA_t 457 (by decide +kernel) (by decide +kernel)
theorem w_458 : (Cond.instantiable "java/lang/IndexOutOfBoundsException" 6) ∈ wA := wA_t 458 (by decide +kernel) (by decide +kernel)
theorem w_460 : (Cond.selects "java/lang/IndexOutOfBoundsException" (⟨"java/lang/Throwable", "fillInStackTrace", "(I)Ljava/lang/Throwable;"⟩ : MethodName) (⟨"java/lang/Throwable", "fillInStackTrace", "(I)Ljava/lang/Throwable;"⟩ : MethodName)) ∈ wA := wA_t 460 (by decide +kernel) (by decide +kernel)
theorem w_461 : (Cond.lays "java/lang/IndexOutOfBoundsException" "java/lang/Throwable" "cause" "Ljava/lang/Throwable;") ∈ wA := wA_t 461 (by decide +kernel) (by decide +kernel)
theorem w_462 : (Cond.lays "java/lang/IndexOutOfBoundsException" "java/lang/Throwable" "stackTrace" "[Ljava/lang/StackTraceElement;") ∈ wA := wA_t 462 (by decide +kernel) (by decide +kernel)
theorem w_463 : (Cond.lays "java/lang/IndexOutOfBoundsException" "java/lang/Throwable" "suppressedExceptions" "Ljava/util/List;") ∈ wA := wA_t 463 (by decide +kernel) (by decide +kernel)
theorem w_464 : (Cond.lays "java/lang/IndexOutOfBoundsException" "java/lang/Throwable" "detailMessage" "Ljava/lang/String;") ∈ wA := wA_t 464 (by decide +kernel) (by decide +kernel)
theorem w_465 : (Cond.lays "java/lang/IndexOutOfBoundsException" "java/lang/Throwable" "backtrace" "Ljava/lang/Object;") ∈ wA := wA_t 465 (by decide +kernel) (by decide +kernel)
theorem w_467 : (Cond.methodLink "FileBody" 116 (⟨"java/lang/IndexOutOfBoundsException", "<init>", "(Ljava/lang/String;)V"⟩ : MethodName)) ∈ wA := wA_t 467 (by decide +kernel) (by decide +kernel)
theorem w_468 : (Cond.instanceMethod (⟨"java/lang/IndexOutOfBoundsException", "<init>", "(Ljava/lang/String;)V"⟩ : MethodName)) ∈ wA := wA_t 468 (by decide +kernel) (by decide +kernel)
theorem w_469 : (Cond.code (⟨"java/lang/IndexOutOfBoundsException", "<init>", "(Ljava/lang/String;)V"⟩ : MethodName) prog_15_method_2_code 2 (Option.none : Option FieldType)) ∈ wA := wA_t 469 (by decide +kernel) (by decide +kernel)
theorem w_470 : (Cond.methodLink "java/lang/IndexOutOfBoundsException" 7 (⟨"java/lang/RuntimeException", "<init>", "(Ljava/lang/String;)V"⟩ : MethodName)) ∈ wA := wA_t 470 (by decide +kernel) (by decide +kernel)
theorem w_471 : (Cond.lays "java/lang/IndexOutOfBoundsException" "java/lang/Throwable" "depth" "I") ∈ wA := wA_t 471 (by decide +kernel) (by decide +kernel)
theorem w_472 : (Cond.superclass "java/lang/IndexOutOfBoundsException" "java/lang/RuntimeException") ∈ wA := wA_t 472 (by decide +kernel) (by decide +kernel)
theorem w_473 : (Cond.methodLink "FileBody" 117 y_Bo_byteAt) ∈ wA := wA_t 473 (by decide +kernel) (by decide +kernel)
theorem w_474 : (Cond.instanceMethod y_Bo_byteAt) ∈ wA := wA_t 474 (by decide +kernel) (by decide +kernel)
theorem w_475 : (Cond.selects "FileBody$Bodies" y_Bo_byteAt y_Bo_byteAt) ∈ wA := wA_t 475 (by decide +kernel) (by decide +kernel)
theorem w_476 : (Cond.code y_Bo_byteAt prog_2_method_2_code 4 (Option.some FieldType.int)) ∈ wA := wA_t 476 (by decide +kernel) (by decide +kernel)
theorem w_477 : (Cond.methodLink "FileBody$Bodies" 25 y_Re_targetByte) ∈ wA := wA_t 477 (by decide +kernel) (by decide +kernel)
theorem w_478 : (Cond.instanceMethod y_Re_targetByte) ∈ wA := wA_t 478 (by decide +kernel) (by decide +kernel)
theorem w_479 : (Cond.selects "FileBody$Records" y_Re_targetByte y_Re_targetByte) ∈ wA := wA_t 479 (by decide +kernel) (by decide +kernel)
theorem w_480 : (Cond.code y_Re_targetByte prog_5_method_16_code 3 (Option.some FieldType.int)) ∈ wA := wA_t 480 (by decide +kernel) (by decide +kernel)
theorem w_481 : (Cond.methodLink "FileBody$Bodies" 32 y_Db_byteAt) ∈ wA := wA_t 481 (by decide +kernel) (by decide +kernel)
theorem w_482 : (Cond.instanceMethod y_Db_byteAt) ∈ wA := wA_t 482 (by decide +kernel) (by decide +kernel)
theorem w_483 : (Cond.selects "FileBody$DataBlocks" y_Db_byteAt y_Db_byteAt) ∈ wA := wA_t 483 (by decide +kernel) (by decide +kernel)
theorem w_484 : (Cond.code y_Db_byteAt prog_3_method_5_code 3 (Option.some FieldType.int)) ∈ wA := wA_t 484 (by decide +kernel) (by decide +kernel)
theorem w_485 : (Cond.methodLink "FileBodyLaw" 86 y_Lw_cut) ∈ wA := wA_t 485 (by decide +kernel) (by decide +kernel)
theorem w_486 : (Cond.static y_Lw_cut) ∈ wA := wA_t 486 (by decide +kernel) (by decide +kernel)
theorem w_487 : (Cond.codeWith y_Lw_cut method_8_code 5 (Option.some FieldType.int) [(0, 10, 13, 13)]) ∈ wA := wA_t 487 (by decide +kernel) (by decide +kernel)
theorem w_488 : (Cond.methodLink "FileBodyLaw" 34 y_Fb_cut) ∈ wA := wA_t 488 (by decide +kernel) (by decide +kernel)
theorem w_489 : (Cond.instanceMethod y_Fb_cut) ∈ wA := wA_t 489 (by decide +kernel) (by decide +kernel)
theorem w_490 : (Cond.selects "FileBody" y_Fb_cut y_Fb_cut) ∈ wA := wA_t 490 (by decide +kernel) (by decide +kernel)
theorem w_491 : (Cond.code y_Fb_cut prog_1_method_7_code 4 (Option.some FieldType.int)) ∈ wA := wA_t 491 (by decide +kernel) (by decide +kernel)
theorem w_493 : (Cond.methodLink "FileBody" 126 y_Bo_resize) ∈ wA := wA_t 493 (by decide +kernel) (by decide +kernel)
theorem w_494 : (Cond.instanceMethod y_Bo_resize) ∈ wA := wA_t 494 (by decide +kernel) (by decide +kernel)
theorem w_495 : (Cond.selects "FileBody$Bodies" y_Bo_resize y_Bo_resize) ∈ wA := wA_t 495 (by decide +kernel) (by decide +kernel)
theorem w_496 : (Cond.code y_Bo_resize prog_2_method_8_code 6 (Option.none : Option FieldType)) ∈ wA := wA_t 496 (by decide +kernel) (by decide +kernel)
theorem w_497 : (Cond.methodLink "FileBody$Bodies" 71 y_Bo_giveBack) ∈ wA := wA_t 497 (by decide +kernel) (by decide +kernel)
theorem w_498 : (Cond.methodLink "FileBody$Bodies" 74 y_Db_clear) ∈ wA := wA_t 498 (by decide +kernel) (by decide +kernel)
theorem w_499 : (Cond.instanceMethod y_Db_clear) ∈ wA := wA_t 499 (by decide +kernel) (by decide +kernel)
theorem w_500 : (Cond.selects "FileBody$DataBlocks" y_Db_clear y_Db_clear) ∈ wA := wA_t 500 (by decide +kernel) (by decide +kernel)
theorem w_501 : (Cond.code y_Db_clear prog_3_method_7_code 4 (Option.none : Option FieldType)) ∈ wA := wA_t 501 (by decide +kernel) (by decide +kernel)
theorem w_502 : (Cond.methodLink "FileBody$DataBlocks" 39 y_Ar_fill4) ∈ wA := wA_t 502 (by decide +kernel) (by decide +kernel)
theorem w_503 : (Cond.static y_Ar_fill4) ∈ wA := wA_t 503 (by decide +kernel) (by decide +kernel)
theorem w_504 : (Cond.code y_Ar_fill4 prog_25_method_110_code 5 (Option.none : Option FieldType)) ∈ wA := wA_t 504 (by decide +kernel) (by decide +kernel)
theorem w_505 : (Cond.methodLink "java/util/Arrays" 13 y_Ar_rangeCheck) ∈ wA := wA_t 505 (by decide +kernel) (by decide +kernel)
theorem w_506 : (Cond.static y_Ar_rangeCheck) ∈ wA := wA_t 506 (by decide +kernel) (by decide +kernel)
theorem w_507 : (Cond.code y_Ar_rangeCheck prog_25_method_30_code 3 (Option.none : Option FieldType)) ∈ wA := wA_t 507 (by decide +kernel) (by decide +kernel)
theorem w_508 : (Cond.classLink "java/util/Arrays" 43 "java/lang/IllegalArgumentException") ∈ wA := wA_t 508 (by decide +kernel) (by decide +kernel)
theorem w_509 : (Cond.classLink "java/util/Arrays" 45 "java/lang/StringBuilder") ∈ wA := wA_t 509 (by decide +kernel) (by decide +kernel)
theorem w_511 : (Cond.methodLink "java/util/Arrays" 47 (⟨"java/lang/StringBuilder", "<init>", "()V"⟩ : MethodName)) ∈ wA := wA_t 511 (by decide +kernel) (by decide +kernel)
theorem w_517 : (Cond.methodLink "java/lang/AbstractStringBuilder" 3 (⟨"java/lang/Object", "<init>", "()V"⟩ : MethodName)) ∈ wA := wA_t 517 (by decide +kernel) (by decide +kernel)
theorem w_541 : (Cond.methodLink "java/util/Arrays" 50 (⟨"java/lang/StringBuilder", "append", "(Ljava/lang/String;)Ljava/lang/StringBuilder;"⟩ : MethodName)) ∈ wA := wA_t 541 (by decide +kernel) (by decide +kernel)
theorem w_563 : (Cond.methodLink "jdk/internal/util/ArraysSupport" 194 (⟨"java/lang/Math", "max", "(II)I"⟩ : MethodName)) ∈ wA := wA_t 563 (by decide +kernel) (by decide +kernel)
theorem w_569 : (Cond.methodLink "java/lang/AbstractStringBuilder" 108 (⟨"java/util/Arrays", "copyOf", "([BI)[B"⟩ : MethodName)) ∈ wA := wA_t 569 (by decide +kernel) (by decide +kernel)
theorem w_570 : (Cond.static (⟨"java/util/Arrays", "copyOf", "([BI)[B"⟩ : MethodName)) ∈ wA := wA_t 570 (by decide +kernel) (by decide +kernel)
theorem w_571 : (Cond.code (⟨"java/util/Arrays", "copyOf", "([BI)[B"⟩ : MethodName) prog_25_method_121_code 3 (Option.some (FieldType.array FieldType.byte))) ∈ wA := wA_t 571 (by decide +kernel) (by decide +kernel)
theorem w_572 : (Cond.methodLink "java/util/Arrays" 310 (⟨"[B", "clone", "()Ljava/lang/Object;"⟩ : MethodName)) ∈ wA := wA_t 572 (by decide +kernel) (by decide +kernel)
theorem w_574 : (Cond.native (⟨"java/lang/Object", "clone", "()Ljava/lang/Object;"⟩ : MethodName)) ∈ wA := wA_t 574 (by decide +kernel) (by decide +kernel)
theorem w_575 : (Cond.instanceMethod (⟨"java/lang/Object", "clone", "()Ljava/lang/Object;"⟩ : MethodName)) ∈ wA := wA_t 575 (by decide +kernel) (by decide +kernel)
theorem w_576 : (Cond.selects "[B" (⟨"[B", "clone", "()Ljava/lang/Object;"⟩ : MethodName) (⟨"java/lang/Object", "clone", "()Ljava/lang/Object;"⟩ : MethodName)) ∈ wA := wA_t 576 (by decide +kernel) (by decide +kernel)
theorem w_578 : (Cond.classLink "java/util/Arrays" 311 "[B") ∈ wA := wA_t 578 (by decide +kernel) (by decide +kernel)
theorem w_579 : (Cond.methodLink "java/util/Arrays" 304 (⟨"java/lang/Math", "min", "(II)I"⟩ : MethodName)) ∈ wA := wA_t 579 (by decide +kernel) (by decide +kernel)
theorem w_580 : (Cond.methodLink "java/util/Arrays" 150 (⟨"java/lang/System", "arraycopy", "(Ljava/lang/Object;ILjava/lang/Object;II)V"⟩ : MethodName)) ∈ wA := wA_t 580 (by decide +kernel) (by decide +kernel)
theorem w_657 : (Cond.methodLink "java/util/Arrays" 54 (⟨"java/lang/StringBuilder", "append", "(I)Ljava/lang/StringBuilder;"⟩ : MethodName)) ∈ wA := wA_t 657 (by decide +kernel) (by decide +kernel)
theorem w_684 : (Cond.methodLink "java/util/Arrays" 61 (⟨"java/lang/StringBuilder", "toString", "()Ljava/lang/String;"⟩ : MethodName)) ∈ wA := wA_t 684 (by decide +kernel) (by decide +kernel)
theorem w_696 : (Cond.methodLink "java/lang/String" 1 (⟨"java/lang/Object", "<init>", "()V"⟩ : MethodName)) ∈ wA := wA_t 696 (by decide +kernel) (by decide +kernel)
theorem w_711 : (Cond.methodLink "java/lang/String" 54 (⟨"java/util/Arrays", "copyOfRange", "([BII)[B"⟩ : MethodName)) ∈ wA := wA_t 711 (by decide +kernel) (by decide +kernel)
theorem w_712 : (Cond.static (⟨"java/util/Arrays", "copyOfRange", "([BII)[B"⟩ : MethodName)) ∈ wA := wA_t 712 (by decide +kernel) (by decide +kernel)
theorem w_713 : (Cond.code (⟨"java/util/Arrays", "copyOfRange", "([BII)[B"⟩ : MethodName) prog_25_method_132_code 3 (Option.some (FieldType.array FieldType.byte))) ∈ wA := wA_t 713 (by decide +kernel) (by decide +kernel)
theorem w_714 : (Cond.methodLink "java/util/Arrays" 339 (⟨"java/util/Arrays", "copyOfRangeByte", "([BII)[B"⟩ : MethodName)) ∈ wA := wA_t 714 (by decide +kernel) (by decide +kernel)
theorem w_715 : (Cond.static (⟨"java/util/Arrays", "copyOfRangeByte", "([BII)[B"⟩ : MethodName)) ∈ wA := wA_t 715 (by decide +kernel) (by decide +kernel)
theorem w_716 : (Cond.code (⟨"java/util/Arrays", "copyOfRangeByte", "([BII)[B"⟩ : MethodName) prog_25_method_133_code 5 (Option.some (FieldType.array FieldType.byte))) ∈ wA := wA_t 716 (by decide +kernel) (by decide +kernel)
theorem w_717 : (Cond.methodLink "java/util/Arrays" 343 (⟨"java/util/Arrays", "checkLength", "(II)V"⟩ : MethodName)) ∈ wA := wA_t 717 (by decide +kernel) (by decide +kernel)
theorem w_718 : (Cond.static (⟨"java/util/Arrays", "checkLength", "(II)V"⟩ : MethodName)) ∈ wA := wA_t 718 (by decide +kernel) (by decide +kernel)
theorem w_719 : (Cond.code (⟨"java/util/Arrays", "checkLength", "(II)V"⟩ : MethodName) prog_25_method_131_code 2 (Option.none : Option FieldType)) ∈ wA := wA_t 719 (by decide +kernel) (by decide +kernel)
theorem w_721 : (Cond.methodLink "java/util/Arrays" 65 (⟨"java/lang/IllegalArgumentException", "<init>", "(Ljava/lang/String;)V"⟩ : MethodName)) ∈ wA := wA_t 721 (by decide +kernel) (by decide +kernel)
theorem w_731 : (Cond.methodLink "java/lang/StringUTF16" 126 (⟨"java/util/Arrays", "copyOfRange", "([BII)[B"⟩ : MethodName)) ∈ wA := wA_t 731 (by decide +kernel) (by decide +kernel)
theorem w_745 : (Cond.superclass "java/lang/String" "java/lang/Object") ∈ wA := wA_t 745 (by decide +kernel) (by decide +kernel)
theorem w_746 : (Cond.classLink "java/util/Arrays" 68 "java/lang/ArrayIndexOutOfBoundsException") ∈ wA := wA_t 746 (by decide +kernel) (by decide +kernel)
theorem w_748 : (Cond.methodLink "java/util/Arrays" 70 (⟨"java/lang/ArrayIndexOutOfBoundsException", "<init>", "(I)V"⟩ : MethodName)) ∈ wA := wA_t 748 (by decide +kernel) (by decide +kernel)
theorem w_757 : (Cond.methodLink "java/lang/ArrayIndexOutOfBoundsException" 7 (⟨"java/lang/IndexOutOfBoundsException", "<init>", "(Ljava/lang/String;)V"⟩ : MethodName)) ∈ wA := wA_t 757 (by decide +kernel) (by decide +kernel)
theorem w_764 : (Cond.superclass "java/lang/ArrayIndexOutOfBoundsException" "java/lang/IndexOutOfBoundsException") ∈ wA := wA_t 764 (by decide +kernel) (by decide +kernel)
theorem w_765 : (Cond.methodLink "FileBodyLaw" 89 y_Lw_links) ∈ wA := wA_t 765 (by decide +kernel) (by decide +kernel)
theorem w_766 : (Cond.static y_Lw_links) ∈ wA := wA_t 766 (by decide +kernel) (by decide +kernel)
theorem w_767 : (Cond.codeWith y_Lw_links method_9_code 5 (Option.some FieldType.int) [(0, 10, 13, 13)]) ∈ wA := wA_t 767 (by decide +kernel) (by decide +kernel)
theorem w_768 : (Cond.methodLink "FileBodyLaw" 37 y_Fb_links) ∈ wA := wA_t 768 (by decide +kernel) (by decide +kernel)
theorem w_769 : (Cond.instanceMethod y_Fb_links) ∈ wA := wA_t 769 (by decide +kernel) (by decide +kernel)
theorem w_770 : (Cond.selects "FileBody" y_Fb_links y_Fb_links) ∈ wA := wA_t 770 (by decide +kernel) (by decide +kernel)
theorem w_771 : (Cond.code y_Fb_links prog_1_method_8_code 5 (Option.some FieldType.int)) ∈ wA := wA_t 771 (by decide +kernel) (by decide +kernel)
theorem w_772 : (Cond.methodLink "FileBody" 129 y_Re_linksOf) ∈ wA := wA_t 772 (by decide +kernel) (by decide +kernel)
theorem w_773 : (Cond.instanceMethod y_Re_linksOf) ∈ wA := wA_t 773 (by decide +kernel) (by decide +kernel)
theorem w_774 : (Cond.selects "FileBody$Records" y_Re_linksOf y_Re_linksOf) ∈ wA := wA_t 774 (by decide +kernel) (by decide +kernel)
theorem w_775 : (Cond.code y_Re_linksOf prog_5_method_12_code 2 (Option.some FieldType.int)) ∈ wA := wA_t 775 (by decide +kernel) (by decide +kernel)
theorem w_777 : (Cond.methodLink "FileBody" 134 y_Re_setLinks) ∈ wA := wA_t 777 (by decide +kernel) (by decide +kernel)
theorem w_778 : (Cond.methodLink "FileBodyLaw" 92 y_Lw_drop) ∈ wA := wA_t 778 (by decide +kernel) (by decide +kernel)
theorem w_779 : (Cond.static y_Lw_drop) ∈ wA := wA_t 779 (by decide +kernel) (by decide +kernel)
theorem w_780 : (Cond.codeWith y_Lw_drop method_10_code 4 (Option.some FieldType.int) [(0, 9, 12, 13), (0, 9, 15, 15)]) ∈ wA := wA_t 780 (by decide +kernel) (by decide +kernel)
theorem w_781 : (Cond.methodLink "FileBodyLaw" 40 y_Fb_drop) ∈ wA := wA_t 781 (by decide +kernel) (by decide +kernel)
theorem w_782 : (Cond.instanceMethod y_Fb_drop) ∈ wA := wA_t 782 (by decide +kernel) (by decide +kernel)
theorem w_783 : (Cond.selects "FileBody" y_Fb_drop y_Fb_drop) ∈ wA := wA_t 783 (by decide +kernel) (by decide +kernel)
theorem w_784 : (Cond.code y_Fb_drop prog_1_method_9_code 2 (Option.some FieldType.int)) ∈ wA := wA_t 784 (by decide +kernel) (by decide +kernel)
theorem w_786 : (Cond.methodLink "FileBodyLaw" 99 y_Lw_about) ∈ wA := wA_t 786 (by decide +kernel) (by decide +kernel)
theorem w_787 : (Cond.static y_Lw_about) ∈ wA := wA_t 787 (by decide +kernel) (by decide +kernel)
theorem w_788 : (Cond.codeWith y_Lw_about method_11_code 5 (Option.some FieldType.int) [(0, 10, 13, 13)]) ∈ wA := wA_t 788 (by decide +kernel) (by decide +kernel)
theorem w_789 : (Cond.methodLink "FileBodyLaw" 43 y_Fb_about) ∈ wA := wA_t 789 (by decide +kernel) (by decide +kernel)
theorem w_790 : (Cond.instanceMethod y_Fb_about) ∈ wA := wA_t 790 (by decide +kernel) (by decide +kernel)
theorem w_791 : (Cond.selects "FileBody" y_Fb_about y_Fb_about) ∈ wA := wA_t 791 (by decide +kernel) (by decide +kernel)
theorem w_792 : (Cond.code y_Fb_about prog_1_method_11_code 3 (Option.some FieldType.int)) ∈ wA := wA_t 792 (by decide +kernel) (by decide +kernel)
theorem w_793 : (Cond.methodLink "FileBody" 148 y_Re_isNumber) ∈ wA := wA_t 793 (by decide +kernel) (by decide +kernel)
theorem w_795 : (Cond.methodLink "FileBody" 160 y_Re_blockOf) ∈ wA := wA_t 795 (by decide +kernel) (by decide +kernel)
theorem w_796 : (Cond.methodLink "FileBody" 163 y_Re_behind) ∈ wA := wA_t 796 (by decide +kernel) (by decide +kernel)
theorem w_798 : (Cond.methodLink "FileBodyLaw" 102 y_Lw_block) ∈ wA := wA_t 798 (by decide +kernel) (by decide +kernel)
theorem w_799 : (Cond.static y_Lw_block) ∈ wA := wA_t 799 (by decide +kernel) (by decide +kernel)
theorem w_800 : (Cond.codeWith y_Lw_block method_12_code 5 (Option.some FieldType.int) [(0, 10, 13, 13)]) ∈ wA := wA_t 800 (by decide +kernel) (by decide +kernel)
theorem w_801 : (Cond.methodLink "FileBodyLaw" 46 y_Fb_block) ∈ wA := wA_t 801 (by decide +kernel) (by decide +kernel)
theorem w_802 : (Cond.instanceMethod y_Fb_block) ∈ wA := wA_t 802 (by decide +kernel) (by decide +kernel)
theorem w_803 : (Cond.selects "FileBody" y_Fb_block y_Fb_block) ∈ wA := wA_t 803 (by decide +kernel) (by decide +kernel)
theorem w_804 : (Cond.code y_Fb_block prog_1_method_12_code 3 (Option.some FieldType.int)) ∈ wA := wA_t 804 (by decide +kernel) (by decide +kernel)
theorem w_806 : (Cond.methodLink "FileBodyLaw" 105 y_Lw_count) ∈ wA := wA_t 806 (by decide +kernel) (by decide +kernel)
theorem w_807 : (Cond.static y_Lw_count) ∈ wA := wA_t 807 (by decide +kernel) (by decide +kernel)
theorem w_808 : (Cond.codeWith y_Lw_count method_13_code 4 (Option.some FieldType.int) [(0, 9, 12, 13)]) ∈ wA := wA_t 808 (by decide +kernel) (by decide +kernel)
theorem w_809 : (Cond.methodLink "FileBodyLaw" 49 y_Fb_count) ∈ wA := wA_t 809 (by decide +kernel) (by decide +kernel)
theorem w_810 : (Cond.instanceMethod y_Fb_count) ∈ wA := wA_t 810 (by decide +kernel) (by decide +kernel)
theorem w_811 : (Cond.selects "FileBody" y_Fb_count y_Fb_count) ∈ wA := wA_t 811 (by decide +kernel) (by decide +kernel)
theorem w_812 : (Cond.code y_Fb_count prog_1_method_13_code 2 (Option.some FieldType.int)) ∈ wA := wA_t 812 (by decide +kernel) (by decide +kernel)
theorem w_813 : (Cond.methodLink "FileBody" 170 y_Re_howManyThere) ∈ wA := wA_t 813 (by decide +kernel) (by decide +kernel)
theorem w_814 : (Cond.instanceMethod y_Re_howManyThere) ∈ wA := wA_t 814 (by decide +kernel) (by decide +kernel)
theorem w_815 : (Cond.selects "FileBody$Records" y_Re_howManyThere y_Re_howManyThere) ∈ wA := wA_t 815 (by decide +kernel) (by decide +kernel)
theorem w_816 : (Cond.code y_Re_howManyThere prog_5_method_4_code 3 (Option.some FieldType.int)) ∈ wA := wA_t 816 (by decide +kernel) (by decide +kernel)
theorem w_817 : (Cond.methodLink "FileBody" 173 y_Wa_howMany) ∈ wA := wA_t 817 (by decide +kernel) (by decide +kernel)
theorem w_818 : (Cond.instanceMethod y_Wa_howMany) ∈ wA := wA_t 818 (by decide +kernel) (by decide +kernel)
theorem w_819 : (Cond.selects "FileBody$Waiting" y_Wa_howMany y_Wa_howMany) ∈ wA := wA_t 819 (by decide +kernel) (by decide +kernel)
theorem w_820 : (Cond.code y_Wa_howMany prog_6_method_3_code 3 (Option.some FieldType.int)) ∈ wA := wA_t 820 (by decide +kernel) (by decide +kernel)
theorem w_822 : (Cond.methodLink "FileBodyLaw" 108 y_Lw_byteOf) ∈ wA := wA_t 822 (by decide +kernel) (by decide +kernel)
theorem w_823 : (Cond.static y_Lw_byteOf) ∈ wA := wA_t 823 (by decide +kernel) (by decide +kernel)
theorem w_824 : (Cond.codeWith y_Lw_byteOf method_14_code 5 (Option.some FieldType.int) [(0, 10, 13, 32)]) ∈ wA := wA_t 824 (by decide +kernel) (by decide +kernel)
theorem w_825 : (Cond.methodLink "FileBodyLaw" 52 y_Fb_byteOf) ∈ wA := wA_t 825 (by decide +kernel) (by decide +kernel)
theorem w_826 : (Cond.instanceMethod y_Fb_byteOf) ∈ wA := wA_t 826 (by decide +kernel) (by decide +kernel)
theorem w_827 : (Cond.selects "FileBody" y_Fb_byteOf y_Fb_byteOf) ∈ wA := wA_t 827 (by decide +kernel) (by decide +kernel)
theorem w_828 : (Cond.code y_Fb_byteOf prog_1_method_14_code 3 (Option.some FieldType.int)) ∈ wA := wA_t 828 (by decide +kernel) (by decide +kernel)
theorem w_831 : (Cond.methodLink "FileBody" 182 y_Fr_number) ∈ wA := wA_t 831 (by decide +kernel) (by decide +kernel)
theorem w_832 : (Cond.classLink "FileBodyLaw" 56 "FileBodyModel") ∈ wA := wA_t 832 (by decide +kernel) (by decide +kernel)
theorem w_833 : (Cond.instantiable "FileBodyModel" 11) ∈ wA := wA_t 833 (by decide +kernel) (by decide +kernel)
theorem w_834 : (Cond.methodLink "FileBodyLaw" 58 y_Mo_init) ∈ wA := wA_t 834 (by decide +kernel) (by decide +kernel)
theorem w_835 : (Cond.instanceMethod y_Mo_init) ∈ wA := wA_t 835 (by decide +kernel) (by decide +kernel)
theorem w_836 : (Cond.code y_Mo_init prog_8_method_1_code 2 (Option.none : Option FieldType)) ∈ wA := wA_t 836 (by decide +kernel) (by decide +kernel)
theorem w_837 : (Cond.methodLink "FileBodyModel" 1 (⟨"java/lang/Object", "<init>", "()V"⟩ : MethodName)) ∈ wA := wA_t 837 (by decide +kernel) (by decide +kernel)
theorem w_838 : (Cond.constant "FileBodyModel" 7 (131072 : Int32)) ∈ wA := wA_t 838 (by decide +kernel) (by decide +kernel)
theorem w_839 : (Cond.fieldLink "FileBodyModel" 40 "FileBodyModel" "code" "I") ∈ wA := wA_t 839 (by decide +kernel) (by decide +kernel)
theorem w_840 : (Cond.fieldLink "FileBodyModel" 8 "FileBodyModel" "disk" "[B") ∈ wA := wA_t 840 (by decide +kernel) (by decide +kernel)
theorem w_841 : (Cond.fieldLink "FileBodyModel" 14 "FileBodyModel" "taken" "[Z") ∈ wA := wA_t 841 (by decide +kernel) (by decide +kernel)
theorem w_842 : (Cond.fieldLink "FileBodyModel" 18 "FileBodyModel" "kinds" "[I") ∈ wA := wA_t 842 (by decide +kernel) (by decide +kernel)
theorem w_843 : (Cond.fieldLink "FileBodyModel" 22 "FileBodyModel" "linkCounts" "[I") ∈ wA := wA_t 843 (by decide +kernel) (by decide +kernel)
theorem w_844 : (Cond.fieldLink "FileBodyModel" 25 "FileBodyModel" "sizes" "[I") ∈ wA := wA_t 844 (by decide +kernel) (by decide +kernel)
theorem w_845 : (Cond.fieldLink "FileBodyModel" 28 "FileBodyModel" "behind" "[I") ∈ wA := wA_t 845 (by decide +kernel) (by decide +kernel)
theorem w_846 : (Cond.fieldLink "FileBodyModel" 31 "FileBodyModel" "waits" "[Z") ∈ wA := wA_t 846 (by decide +kernel) (by decide +kernel)
theorem w_847 : (Cond.fieldLink "FileBodyModel" 34 "FileBodyModel" "blocks" "[I") ∈ wA := wA_t 847 (by decide +kernel) (by decide +kernel)
theorem w_848 : (Cond.fieldLink "FileBodyModel" 37 "FileBodyModel" "targets" "[B") ∈ wA := wA_t 848 (by decide +kernel) (by decide +kernel)
theorem w_849 : (Cond.fieldLink "FileBodyModel" 54 "FileBodyModel" "first" "I") ∈ wA := wA_t 849 (by decide +kernel) (by decide +kernel)
theorem w_850 : (Cond.lays "FileBodyModel" "FileBodyModel" "code" "I") ∈ wA := wA_t 850 (by decide +kernel) (by decide +kernel)
theorem w_852 : (Cond.laysFinal "FileBodyModel" "FileBodyModel" "disk" "[B") ∈ wA := wA_t 852 (by decide +kernel) (by decide +kernel)
theorem w_854 : (Cond.laysFinal "FileBodyModel" "FileBodyModel" "taken" "[Z") ∈ wA := wA_t 854 (by decide +kernel) (by decide +kernel)
theorem w_856 : (Cond.laysFinal "FileBodyModel" "FileBodyModel" "kinds" "[I") ∈ wA := wA_t 856 (by decide +kernel) (by decide +kernel)
theorem w_858 : (Cond.laysFinal "FileBodyModel" "FileBodyModel" "linkCounts" "[I") ∈ wA := wA_t 858 (by decide +kernel) (by decide +kernel)
theorem w_860 : (Cond.laysFinal "FileBodyModel" "FileBodyModel" "sizes" "[I") ∈ wA := wA_t 860 (by decide +kernel) (by decide +kernel)
theorem w_862 : (Cond.laysFinal "FileBodyModel" "FileBodyModel" "behind" "[I") ∈ wA := wA_t 862 (by decide +kernel) (by decide +kernel)
theorem w_864 : (Cond.laysFinal "FileBodyModel" "FileBodyModel" "waits" "[Z") ∈ wA := wA_t 864 (by decide +kernel) (by decide +kernel)
theorem w_866 : (Cond.laysFinal "FileBodyModel" "FileBodyModel" "blocks" "[I") ∈ wA := wA_t 866 (by decide +kernel) (by decide +kernel)
theorem w_868 : (Cond.laysFinal "FileBodyModel" "FileBodyModel" "targets" "[B") ∈ wA := wA_t 868 (by decide +kernel) (by decide +kernel)
theorem w_870 : (Cond.lays "FileBodyModel" "FileBodyModel" "first" "I") ∈ wA := wA_t 870 (by decide +kernel) (by decide +kernel)
theorem w_872 : (Cond.superclass "FileBodyModel" "java/lang/Object") ∈ wA := wA_t 872 (by decide +kernel) (by decide +kernel)
theorem w_873 : (Cond.arrayClass FieldType.int) ∈ wA := wA_t 873 (by decide +kernel) (by decide +kernel)
theorem w_874 : (Cond.methodLink "FileBodyLaw" 65 y_Mo_thrown) ∈ wA := wA_t 874 (by decide +kernel) (by decide +kernel)
theorem w_875 : (Cond.instanceMethod y_Mo_thrown) ∈ wA := wA_t 875 (by decide +kernel) (by decide +kernel)
theorem w_876 : (Cond.selects "FileBodyModel" y_Mo_thrown y_Mo_thrown) ∈ wA := wA_t 876 (by decide +kernel) (by decide +kernel)
theorem w_877 : (Cond.code y_Mo_thrown prog_8_method_2_code 1 (Option.some FieldType.int)) ∈ wA := wA_t 877 (by decide +kernel) (by decide +kernel)
theorem w_878 : (Cond.methodLink "FileBodyLaw" 64 y_Mo_make) ∈ wA := wA_t 878 (by decide +kernel) (by decide +kernel)
theorem w_879 : (Cond.instanceMethod y_Mo_make) ∈ wA := wA_t 879 (by decide +kernel) (by decide +kernel)
theorem w_880 : (Cond.selects "FileBodyModel" y_Mo_make y_Mo_make) ∈ wA := wA_t 880 (by decide +kernel) (by decide +kernel)
theorem w_881 : (Cond.code y_Mo_make prog_8_method_10_code 2 (Option.some FieldType.int)) ∈ wA := wA_t 881 (by decide +kernel) (by decide +kernel)
theorem w_882 : (Cond.constantLong "FileBodyModel" 65 (1000 : Int64)) ∈ wA := wA_t 882 (by decide +kernel) (by decide +kernel)
theorem w_883 : (Cond.methodLink "FileBodyModel" 46 y_Mo_in) ∈ wA := wA_t 883 (by decide +kernel) (by decide +kernel)
theorem w_884 : (Cond.static y_Mo_in) ∈ wA := wA_t 884 (by decide +kernel) (by decide +kernel)
theorem w_885 : (Cond.code y_Mo_in prog_8_method_3_code 6 (Option.some FieldType.boolean)) ∈ wA := wA_t 885 (by decide +kernel) (by decide +kernel)
theorem w_886 : (Cond.methodLink "FileBodyModel" 57 y_Mo_freeFile) ∈ wA := wA_t 886 (by decide +kernel) (by decide +kernel)
theorem w_888 : (Cond.instanceMethod y_Mo_freeFile) ∈ wA := wA_t 888 (by decide +kernel) (by decide +kernel)
theorem w_889 : (Cond.code y_Mo_freeFile prog_8_method_7_code 2 (Option.some FieldType.int)) ∈ wA := wA_t 889 (by decide +kernel) (by decide +kernel)
theorem w_890 : (Cond.methodLink "FileBodyModel" 67 y_Mo_begin) ∈ wA := wA_t 890 (by decide +kernel) (by decide +kernel)
theorem w_892 : (Cond.instanceMethod y_Mo_begin) ∈ wA := wA_t 892 (by decide +kernel) (by decide +kernel)
theorem w_893 : (Cond.code y_Mo_begin prog_8_method_9_code 5 (Option.some FieldType.int)) ∈ wA := wA_t 893 (by decide +kernel) (by decide +kernel)
theorem w_894 : (Cond.methodLink "FileBodyModel" 61 y_Mo_rest) ∈ wA := wA_t 894 (by decide +kernel) (by decide +kernel)
theorem w_896 : (Cond.instanceMethod y_Mo_rest) ∈ wA := wA_t 896 (by decide +kernel) (by decide +kernel)
theorem w_897 : (Cond.code y_Mo_rest prog_8_method_8_code 4 (Option.none : Option FieldType)) ∈ wA := wA_t 897 (by decide +kernel) (by decide +kernel)
theorem w_898 : (Cond.methodLink "FileBodyLaw" 72 y_Mo_link) ∈ wA := wA_t 898 (by decide +kernel) (by decide +kernel)
theorem w_899 : (Cond.instanceMethod y_Mo_link) ∈ wA := wA_t 899 (by decide +kernel) (by decide +kernel)
theorem w_900 : (Cond.selects "FileBodyModel" y_Mo_link y_Mo_link) ∈ wA := wA_t 900 (by decide +kernel) (by decide +kernel)
theorem w_901 : (Cond.code y_Mo_link prog_8_method_11_code 7 (Option.some FieldType.int)) ∈ wA := wA_t 901 (by decide +kernel) (by decide +kernel)
theorem w_902 : (Cond.methodLink "FileBodyModel" 71 y_Mo_freeOnes) ∈ wA := wA_t 902 (by decide +kernel) (by decide +kernel)
theorem w_904 : (Cond.instanceMethod y_Mo_freeOnes) ∈ wA := wA_t 904 (by decide +kernel) (by decide +kernel)
theorem w_905 : (Cond.code y_Mo_freeOnes prog_8_method_6_code 3 (Option.some FieldType.int)) ∈ wA := wA_t 905 (by decide +kernel) (by decide +kernel)
theorem w_906 : (Cond.methodLink "FileBodyModel" 74 y_Mo_take) ∈ wA := wA_t 906 (by decide +kernel) (by decide +kernel)
theorem w_908 : (Cond.instanceMethod y_Mo_take) ∈ wA := wA_t 908 (by decide +kernel) (by decide +kernel)
theorem w_909 : (Cond.code y_Mo_take prog_8_method_12_code 7 (Option.none : Option FieldType)) ∈ wA := wA_t 909 (by decide +kernel) (by decide +kernel)
theorem w_910 : (Cond.methodLink "FileBodyLaw" 78 y_Mo_write) ∈ wA := wA_t 910 (by decide +kernel) (by decide +kernel)
theorem w_911 : (Cond.instanceMethod y_Mo_write) ∈ wA := wA_t 911 (by decide +kernel) (by decide +kernel)
theorem w_912 : (Cond.selects "FileBodyModel" y_Mo_write y_Mo_write) ∈ wA := wA_t 912 (by decide +kernel) (by decide +kernel)
theorem w_913 : (Cond.code y_Mo_write prog_8_method_18_code 7 (Option.some FieldType.int)) ∈ wA := wA_t 913 (by decide +kernel) (by decide +kernel)
theorem w_914 : (Cond.methodLink "FileBodyModel" 87 y_Mo_may) ∈ wA := wA_t 914 (by decide +kernel) (by decide +kernel)
theorem w_916 : (Cond.instanceMethod y_Mo_may) ∈ wA := wA_t 916 (by decide +kernel) (by decide +kernel)
theorem w_917 : (Cond.code y_Mo_may prog_8_method_15_code 6 (Option.some FieldType.boolean)) ∈ wA := wA_t 917 (by decide +kernel) (by decide +kernel)
theorem w_918 : (Cond.methodLink "FileBodyModel" 78 y_Mo_isPlain) ∈ wA := wA_t 918 (by decide +kernel) (by decide +kernel)
theorem w_920 : (Cond.instanceMethod y_Mo_isPlain) ∈ wA := wA_t 920 (by decide +kernel) (by decide +kernel)
theorem w_921 : (Cond.code y_Mo_isPlain prog_8_method_5_code 2 (Option.some FieldType.boolean)) ∈ wA := wA_t 921 (by decide +kernel) (by decide +kernel)
theorem w_922 : (Cond.methodLink "FileBodyModel" 50 y_Mo_isFile) ∈ wA := wA_t 922 (by decide +kernel) (by decide +kernel)
theorem w_924 : (Cond.instanceMethod y_Mo_isFile) ∈ wA := wA_t 924 (by decide +kernel) (by decide +kernel)
theorem w_925 : (Cond.code y_Mo_isFile prog_8_method_4_code 2 (Option.some FieldType.boolean)) ∈ wA := wA_t 925 (by decide +kernel) (by decide +kernel)
theorem w_926 : (Cond.constantLong "FileBodyModel" 44 (12 : Int64)) ∈ wA := wA_t 926 (by decide +kernel) (by decide +kernel)
theorem w_927 : (Cond.constantLong "FileBodyModel" 81 (15360 : Int64)) ∈ wA := wA_t 927 (by decide +kernel) (by decide +kernel)
theorem w_928 : (Cond.methodLink "FileBodyModel" 83 y_Mo_wanted) ∈ wA := wA_t 928 (by decide +kernel) (by decide +kernel)
theorem w_930 : (Cond.instanceMethod y_Mo_wanted) ∈ wA := wA_t 930 (by decide +kernel) (by decide +kernel)
theorem w_931 : (Cond.code y_Mo_wanted prog_8_method_14_code 6 (Option.some FieldType.int)) ∈ wA := wA_t 931 (by decide +kernel) (by decide +kernel)
theorem w_932 : (Cond.methodLink "FileBodyModel" 91 y_Mo_takeAll) ∈ wA := wA_t 932 (by decide +kernel) (by decide +kernel)
theorem w_934 : (Cond.instanceMethod y_Mo_takeAll) ∈ wA := wA_t 934 (by decide +kernel) (by decide +kernel)
theorem w_935 : (Cond.code y_Mo_takeAll prog_8_method_16_code 5 (Option.none : Option FieldType)) ∈ wA := wA_t 935 (by decide +kernel) (by decide +kernel)
theorem w_936 : (Cond.methodLink "FileBodyModel" 95 y_Mo_set) ∈ wA := wA_t 936 (by decide +kernel) (by decide +kernel)
theorem w_938 : (Cond.instanceMethod y_Mo_set) ∈ wA := wA_t 938 (by decide +kernel) (by decide +kernel)
theorem w_939 : (Cond.code y_Mo_set prog_8_method_17_code 4 (Option.none : Option FieldType)) ∈ wA := wA_t 939 (by decide +kernel) (by decide +kernel)
theorem w_940 : (Cond.methodLink "FileBodyLaw" 82 y_Mo_paint) ∈ wA := wA_t 940 (by decide +kernel) (by decide +kernel)
theorem w_941 : (Cond.instanceMethod y_Mo_paint) ∈ wA := wA_t 941 (by decide +kernel) (by decide +kernel)
theorem w_942 : (Cond.selects "FileBodyModel" y_Mo_paint y_Mo_paint) ∈ wA := wA_t 942 (by decide +kernel) (by decide +kernel)
theorem w_943 : (Cond.code y_Mo_paint prog_8_method_19_code 6 (Option.some FieldType.int)) ∈ wA := wA_t 943 (by decide +kernel) (by decide +kernel)
theorem w_944 : (Cond.methodLink "FileBodyLaw" 85 y_Mo_read) ∈ wA := wA_t 944 (by decide +kernel) (by decide +kernel)
theorem w_945 : (Cond.instanceMethod y_Mo_read) ∈ wA := wA_t 945 (by decide +kernel) (by decide +kernel)
theorem w_946 : (Cond.selects "FileBodyModel" y_Mo_read y_Mo_read) ∈ wA := wA_t 946 (by decide +kernel) (by decide +kernel)
theorem w_947 : (Cond.code y_Mo_read prog_8_method_20_code 4 (Option.some FieldType.int)) ∈ wA := wA_t 947 (by decide +kernel) (by decide +kernel)
theorem w_948 : (Cond.methodLink "FileBodyLaw" 88 y_Mo_cut) ∈ wA := wA_t 948 (by decide +kernel) (by decide +kernel)
theorem w_949 : (Cond.instanceMethod y_Mo_cut) ∈ wA := wA_t 949 (by decide +kernel) (by decide +kernel)
theorem w_950 : (Cond.selects "FileBodyModel" y_Mo_cut y_Mo_cut) ∈ wA := wA_t 950 (by decide +kernel) (by decide +kernel)
theorem w_951 : (Cond.code y_Mo_cut prog_8_method_21_code 6 (Option.some FieldType.int)) ∈ wA := wA_t 951 (by decide +kernel) (by decide +kernel)
theorem w_952 : (Cond.methodLink "FileBodyModel" 98 y_Mo_giveBack) ∈ wA := wA_t 952 (by decide +kernel) (by decide +kernel)
theorem w_954 : (Cond.instanceMethod y_Mo_giveBack) ∈ wA := wA_t 954 (by decide +kernel) (by decide +kernel)
theorem w_955 : (Cond.code y_Mo_giveBack prog_8_method_13_code 4 (Option.none : Option FieldType)) ∈ wA := wA_t 955 (by decide +kernel) (by decide +kernel)
theorem w_956 : (Cond.methodLink "FileBodyLaw" 91 y_Mo_links) ∈ wA := wA_t 956 (by decide +kernel) (by decide +kernel)
theorem w_957 : (Cond.instanceMethod y_Mo_links) ∈ wA := wA_t 957 (by decide +kernel) (by decide +kernel)
theorem w_958 : (Cond.selects "FileBodyModel" y_Mo_links y_Mo_links) ∈ wA := wA_t 958 (by decide +kernel) (by decide +kernel)
theorem w_959 : (Cond.code y_Mo_links prog_8_method_22_code 3 (Option.some FieldType.int)) ∈ wA := wA_t 959 (by decide +kernel) (by decide +kernel)
theorem w_960 : (Cond.methodLink "FileBodyLaw" 94 y_Mo_drop) ∈ wA := wA_t 960 (by decide +kernel) (by decide +kernel)
theorem w_961 : (Cond.instanceMethod y_Mo_drop) ∈ wA := wA_t 961 (by decide +kernel) (by decide +kernel)
theorem w_962 : (Cond.selects "FileBodyModel" y_Mo_drop y_Mo_drop) ∈ wA := wA_t 962 (by decide +kernel) (by decide +kernel)
theorem w_963 : (Cond.code y_Mo_drop prog_8_method_25_code 2 (Option.some FieldType.int)) ∈ wA := wA_t 963 (by decide +kernel) (by decide +kernel)
theorem w_964 : (Cond.methodLink "FileBodyModel" 105 y_Mo_go) ∈ wA := wA_t 964 (by decide +kernel) (by decide +kernel)
theorem w_966 : (Cond.instanceMethod y_Mo_go) ∈ wA := wA_t 966 (by decide +kernel) (by decide +kernel)
theorem w_967 : (Cond.code y_Mo_go prog_8_method_24_code 4 (Option.some FieldType.int)) ∈ wA := wA_t 967 (by decide +kernel) (by decide +kernel)
theorem w_968 : (Cond.methodLink "FileBodyModel" 101 y_Mo_blocksOf) ∈ wA := wA_t 968 (by decide +kernel) (by decide +kernel)
theorem w_970 : (Cond.instanceMethod y_Mo_blocksOf) ∈ wA := wA_t 970 (by decide +kernel) (by decide +kernel)
theorem w_971 : (Cond.code y_Mo_blocksOf prog_8_method_23_code 4 (Option.some FieldType.int)) ∈ wA := wA_t 971 (by decide +kernel) (by decide +kernel)
theorem w_972 : (Cond.methodLink "FileBodyLaw" 98 y_Mo_finish) ∈ wA := wA_t 972 (by decide +kernel) (by decide +kernel)
theorem w_973 : (Cond.instanceMethod y_Mo_finish) ∈ wA := wA_t 973 (by decide +kernel) (by decide +kernel)
theorem w_974 : (Cond.selects "FileBodyModel" y_Mo_finish y_Mo_finish) ∈ wA := wA_t 974 (by decide +kernel) (by decide +kernel)
theorem w_975 : (Cond.code y_Mo_finish prog_8_method_26_code 3 (Option.some FieldType.int)) ∈ wA := wA_t 975 (by decide +kernel) (by decide +kernel)
theorem w_976 : (Cond.methodLink "FileBodyLaw" 101 y_Mo_about) ∈ wA := wA_t 976 (by decide +kernel) (by decide +kernel)
theorem w_977 : (Cond.instanceMethod y_Mo_about) ∈ wA := wA_t 977 (by decide +kernel) (by decide +kernel)
theorem w_978 : (Cond.selects "FileBodyModel" y_Mo_about y_Mo_about) ∈ wA := wA_t 978 (by decide +kernel) (by decide +kernel)
theorem w_979 : (Cond.code y_Mo_about prog_8_method_27_code 3 (Option.some FieldType.int)) ∈ wA := wA_t 979 (by decide +kernel) (by decide +kernel)
theorem w_980 : (Cond.constantLong "FileBodyModel" 108 (5 : Int64)) ∈ wA := wA_t 980 (by decide +kernel) (by decide +kernel)
theorem w_981 : (Cond.methodLink "FileBodyLaw" 104 y_Mo_block) ∈ wA := wA_t 981 (by decide +kernel) (by decide +kernel)
theorem w_982 : (Cond.instanceMethod y_Mo_block) ∈ wA := wA_t 982 (by decide +kernel) (by decide +kernel)
theorem w_983 : (Cond.selects "FileBodyModel" y_Mo_block y_Mo_block) ∈ wA := wA_t 983 (by decide +kernel) (by decide +kernel)
theorem w_984 : (Cond.code y_Mo_block prog_8_method_28_code 3 (Option.some FieldType.int)) ∈ wA := wA_t 984 (by decide +kernel) (by decide +kernel)
theorem w_985 : (Cond.constantLong "FileBodyModel" 110 (14 : Int64)) ∈ wA := wA_t 985 (by decide +kernel) (by decide +kernel)
theorem w_986 : (Cond.methodLink "FileBodyLaw" 107 y_Mo_count) ∈ wA := wA_t 986 (by decide +kernel) (by decide +kernel)
theorem w_987 : (Cond.instanceMethod y_Mo_count) ∈ wA := wA_t 987 (by decide +kernel) (by decide +kernel)
theorem w_988 : (Cond.selects "FileBodyModel" y_Mo_count y_Mo_count) ∈ wA := wA_t 988 (by decide +kernel) (by decide +kernel)
theorem w_989 : (Cond.code y_Mo_count prog_8_method_29_code 5 (Option.some FieldType.int)) ∈ wA := wA_t 989 (by decide +kernel) (by decide +kernel)
theorem w_990 : (Cond.constantLong "FileBodyModel" 112 (3 : Int64)) ∈ wA := wA_t 990 (by decide +kernel) (by decide +kernel)
theorem w_991 : (Cond.methodLink "FileBodyLaw" 110 y_Mo_byteOf) ∈ wA := wA_t 991 (by decide +kernel) (by decide +kernel)
theorem w_992 : (Cond.instanceMethod y_Mo_byteOf) ∈ wA := wA_t 992 (by decide +kernel) (by decide +kernel)
theorem w_993 : (Cond.selects "FileBodyModel" y_Mo_byteOf y_Mo_byteOf) ∈ wA := wA_t 993 (by decide +kernel) (by decide +kernel)
theorem w_994 : (Cond.code y_Mo_byteOf prog_8_method_32_code 3 (Option.some FieldType.int)) ∈ wA := wA_t 994 (by decide +kernel) (by decide +kernel)
theorem w_995 : (Cond.constantLong "FileBodyModel" 119 (1023 : Int64)) ∈ wA := wA_t 995 (by decide +kernel) (by decide +kernel)
theorem w_996 : (Cond.methodLink "FileBodyModel" 114 y_Mo_part) ∈ wA := wA_t 996 (by decide +kernel) (by decide +kernel)
theorem w_997 : (Cond.static y_Mo_part) ∈ wA := wA_t 997 (by decide +kernel) (by decide +kernel)
theorem w_998 : (Cond.code y_Mo_part prog_8_method_30_code 3 (Option.some FieldType.int)) ∈ wA := wA_t 998 (by decide +kernel) (by decide +kernel)
theorem w_999 : (Cond.methodLink "FileBodyModel" 121 y_Mo_recordByte) ∈ wA := wA_t 999 (by decide +kernel) (by decide +kernel)
theorem w_1001 : (Cond.instanceMethod y_Mo_recordByte) ∈ wA := wA_t 1001 (by decide +kernel) (by decide +kernel)
theorem w_1002 : (Cond.code y_Mo_recordByte prog_8_method_31_code 5 (Option.some FieldType.int)) ∈ wA := wA_t 1002 (by decide +kernel) (by decide +kernel)
theorem w_1003 : (Cond.constant "FileBodyModel" 117 (32768 : Int32)) ∈ wA := wA_t 1003 (by decide +kernel) (by decide +kernel)
theorem w_1004 : (Cond.constant "FileBodyModel" 118 (40960 : Int32)) ∈ wA := wA_t 1004 (by decide +kernel) (by decide +kernel)
theorem w_1005 : (Cond.constantLong "FileBodyLaw" 73 (4294967295 : Int64)) ∈ wA := wA_t 1005 (by decide +kernel) (by decide +kernel)
theorem w_1006 : (Cond.arrayClass FieldType.long) ∈ wA := wA_t 1006 (by decide +kernel) (by decide +kernel)
theorem wp_0 : (Cond.selects "FileBody" y_Fb_letGo y_Fb_letGo) ∈ wA := wA_p 0 (by decide +kernel) (by decide +kernel)
theorem wp_1 : (Cond.selects "FileBody$Records" y_Re_field y_Re_field) ∈ wA := wA_p 1 (by decide +kernel) (by decide +kernel)
theorem wp_2 : (Cond.selects "FileBody$Waiting" y_Wa_setFirst y_Wa_setFirst) ∈ wA := wA_p 2 (by decide +kernel) (by decide +kernel)
theorem wp_3 : (Cond.selects "FileBody$Waiting" y_Wa_fileBefore y_Wa_fileBefore) ∈ wA := wA_p 3 (by decide +kernel) (by decide +kernel)
theorem wp_4 : (Cond.selects "FileBody$Records" y_Re_setField y_Re_setField) ∈ wA := wA_p 4 (by decide +kernel) (by decide +kernel)
theorem wp_6 : (Cond.selects "FileBody$Bodies" y_Bo_takeBlock y_Bo_takeBlock) ∈ wA := wA_p 6 (by decide +kernel) (by decide +kernel)
theorem wp_7 : (Cond.selects "FileBody$DataBlocks" y_Db_leastFree y_Db_leastFree) ∈ wA := wA_p 7 (by decide +kernel) (by decide +kernel)
theorem wp_8 : (Cond.selects "FileBody$DataBlocks" y_Db_hasSpan y_Db_hasSpan) ∈ wA := wA_p 8 (by decide +kernel) (by decide +kernel)
theorem wp_9 : (Cond.selects "FileBody" y_Fb_checkSpan y_Fb_checkSpan) ∈ wA := wA_p 9 (by decide +kernel) (by decide +kernel)
theorem wp_10 : (Cond.selects "FileBody" y_Fb_checkPlain y_Fb_checkPlain) ∈ wA := wA_p 10 (by decide +kernel) (by decide +kernel)
theorem wp_11 : (Cond.selects "FileBody" y_Fb_checkFreeBlocks y_Fb_checkFreeBlocks) ∈ wA := wA_p 11 (by decide +kernel) (by decide +kernel)
theorem wp_12 : (Cond.selects "FileBody" y_Fb_checkThere y_Fb_checkThere) ∈ wA := wA_p 12 (by decide +kernel) (by decide +kernel)
theorem wp_13 : (Cond.selects "FileBodyModel" y_Mo_freeFile y_Mo_freeFile) ∈ wA := wA_p 13 (by decide +kernel) (by decide +kernel)
theorem wp_14 : (Cond.selects "FileBodyModel" y_Mo_begin y_Mo_begin) ∈ wA := wA_p 14 (by decide +kernel) (by decide +kernel)
theorem wp_15 : (Cond.selects "FileBodyModel" y_Mo_rest y_Mo_rest) ∈ wA := wA_p 15 (by decide +kernel) (by decide +kernel)
theorem wp_16 : (Cond.selects "FileBodyModel" y_Mo_freeOnes y_Mo_freeOnes) ∈ wA := wA_p 16 (by decide +kernel) (by decide +kernel)
theorem wp_17 : (Cond.selects "FileBodyModel" y_Mo_take y_Mo_take) ∈ wA := wA_p 17 (by decide +kernel) (by decide +kernel)
theorem wp_18 : (Cond.selects "FileBodyModel" y_Mo_may y_Mo_may) ∈ wA := wA_p 18 (by decide +kernel) (by decide +kernel)
theorem wp_19 : (Cond.selects "FileBodyModel" y_Mo_isPlain y_Mo_isPlain) ∈ wA := wA_p 19 (by decide +kernel) (by decide +kernel)
theorem wp_20 : (Cond.selects "FileBodyModel" y_Mo_isFile y_Mo_isFile) ∈ wA := wA_p 20 (by decide +kernel) (by decide +kernel)
theorem wp_21 : (Cond.selects "FileBodyModel" y_Mo_wanted y_Mo_wanted) ∈ wA := wA_p 21 (by decide +kernel) (by decide +kernel)
theorem wp_22 : (Cond.selects "FileBodyModel" y_Mo_takeAll y_Mo_takeAll) ∈ wA := wA_p 22 (by decide +kernel) (by decide +kernel)
theorem wp_23 : (Cond.selects "FileBodyModel" y_Mo_set y_Mo_set) ∈ wA := wA_p 23 (by decide +kernel) (by decide +kernel)
theorem wp_24 : (Cond.selects "FileBodyModel" y_Mo_giveBack y_Mo_giveBack) ∈ wA := wA_p 24 (by decide +kernel) (by decide +kernel)
theorem wp_25 : (Cond.selects "FileBodyModel" y_Mo_go y_Mo_go) ∈ wA := wA_p 25 (by decide +kernel) (by decide +kernel)
theorem wp_26 : (Cond.selects "FileBodyModel" y_Mo_blocksOf y_Mo_blocksOf) ∈ wA := wA_p 26 (by decide +kernel) (by decide +kernel)
theorem wp_27 : (Cond.selects "FileBodyModel" y_Mo_recordByte y_Mo_recordByte) ∈ wA := wA_p 27 (by decide +kernel) (by decide +kernel)
theorem u_Bo : ∀ w ∈ u_ws R_Bo T_Bo 2, w ∈ wA := fun w h => by
  obtain ⟨k, hk, rfl⟩ := List.mem_map.mp h
  have hk := List.mem_range.mp hk
  match k, hk with
  | 0, _ => exact w_95
  | 1, _ => exact w_97
theorem u_Db : ∀ w ∈ u_ws R_Db T_Db 3, w ∈ wA := fun w h => by
  obtain ⟨k, hk, rfl⟩ := List.mem_map.mp h
  have hk := List.mem_range.mp hk
  match k, hk with
  | 0, _ => exact w_56
  | 1, _ => exact w_58
  | 2, _ => exact w_60
theorem u_Fr : ∀ w ∈ u_ws R_Fr T_Fr 1, w ∈ wA := fun w h => by
  obtain ⟨k, hk, rfl⟩ := List.mem_map.mp h
  have hk := List.mem_range.mp hk
  match k, hk with
  | 0, _ => exact w_41
theorem u_Re : ∀ w ∈ u_ws R_Re T_Re 1, w ∈ wA := fun w h => by
  obtain ⟨k, hk, rfl⟩ := List.mem_map.mp h
  have hk := List.mem_range.mp hk
  match k, hk with
  | 0, _ => exact w_71
theorem u_Wa : ∀ w ∈ u_ws R_Wa T_Wa 2, w ∈ wA := fun w h => by
  obtain ⟨k, hk, rfl⟩ := List.mem_map.mp h
  have hk := List.mem_range.mp hk
  match k, hk with
  | 0, _ => exact w_82
  | 1, _ => exact w_84
theorem u_Fb : ∀ w ∈ u_ws R_Fb T_Fb 5, w ∈ wA := fun w h => by
  obtain ⟨k, hk, rfl⟩ := List.mem_map.mp h
  have hk := List.mem_range.mp hk
  match k, hk with
  | 0, _ => exact w_105
  | 1, _ => exact w_107
  | 2, _ => exact w_109
  | 3, _ => exact w_111
  | 4, _ => exact w_113
theorem u_Mo : ∀ w ∈ u_ws R_Mo T_Mo 11, w ∈ wA := fun w h => by
  obtain ⟨k, hk, rfl⟩ := List.mem_map.mp h
  have hk := List.mem_range.mp hk
  match k, hk with
  | 0, _ => exact w_850
  | 1, _ => exact w_852
  | 2, _ => exact w_854
  | 3, _ => exact w_856
  | 4, _ => exact w_858
  | 5, _ => exact w_860
  | 6, _ => exact w_862
  | 7, _ => exact w_864
  | 8, _ => exact w_866
  | 9, _ => exact w_868
  | 10, _ => exact w_870
end
section
theorem d_Fr_init_0 : decode c_Fr_init 0 = .ok (.aload_n 0, 1) := by decide +kernel
theorem d_Fr_init_1 : decode c_Fr_init 1 = .ok (.invokespecial 3, 3) := by decide +kernel
theorem d_Fr_init_4 : decode c_Fr_init 4 = .ok (.aload_n 0, 1) := by decide +kernel
theorem d_Fr_init_5 : decode c_Fr_init 5 = .ok (.sipush 4096, 3) := by decide +kernel
theorem d_Fr_init_8 : decode c_Fr_init 8 = .ok (.newarray .byte, 2) := by decide +kernel
theorem d_Fr_init_10 : decode c_Fr_init 10 = .ok (.putfield 9, 3) := by decide +kernel
theorem d_Fr_init_13 : decode c_Fr_init 13 = .ok (.return_, 1) := by decide +kernel
theorem d_Db_init_0 : decode c_Db_init 0 = .ok (.aload_n 0, 1) := by decide +kernel
theorem d_Db_init_1 : decode c_Db_init 1 = .ok (.invokespecial 3, 3) := by decide +kernel
theorem d_Db_init_4 : decode c_Db_init 4 = .ok (.aload_n 0, 1) := by decide +kernel
theorem d_Db_init_5 : decode c_Db_init 5 = .ok (.sipush 128, 3) := by decide +kernel
theorem d_Db_init_8 : decode c_Db_init 8 = .ok (.anewarray 9, 3) := by decide +kernel
theorem d_Db_init_11 : decode c_Db_init 11 = .ok (.putfield 11, 3) := by decide +kernel
theorem d_Db_init_14 : decode c_Db_init 14 = .ok (.aload_n 0, 1) := by decide +kernel
theorem d_Db_init_15 : decode c_Db_init 15 = .ok (.sipush 128, 3) := by decide +kernel
theorem d_Db_init_18 : decode c_Db_init 18 = .ok (.newarray .boolean, 2) := by decide +kernel
theorem d_Db_init_20 : decode c_Db_init 20 = .ok (.putfield 17, 3) := by decide +kernel
theorem d_Db_init_23 : decode c_Db_init 23 = .ok (.aload_n 0, 1) := by decide +kernel
theorem d_Db_init_24 : decode c_Db_init 24 = .ok (.bipush 124, 2) := by decide +kernel
theorem d_Db_init_26 : decode c_Db_init 26 = .ok (.putfield 21, 3) := by decide +kernel
theorem d_Db_init_29 : decode c_Db_init 29 = .ok (.return_, 1) := by decide +kernel
theorem d_Re_init_0 : decode c_Re_init 0 = .ok (.aload_n 0, 1) := by decide +kernel
theorem d_Re_init_1 : decode c_Re_init 1 = .ok (.invokespecial 3, 3) := by decide +kernel
theorem d_Re_init_4 : decode c_Re_init 4 = .ok (.aload_n 0, 1) := by decide +kernel
theorem d_Re_init_5 : decode c_Re_init 5 = .ok (.aload_n 1, 1) := by decide +kernel
theorem d_Re_init_6 : decode c_Re_init 6 = .ok (.putfield 9, 3) := by decide +kernel
theorem d_Re_init_9 : decode c_Re_init 9 = .ok (.return_, 1) := by decide +kernel
theorem d_Wa_init_0 : decode c_Wa_init 0 = .ok (.aload_n 0, 1) := by decide +kernel
theorem d_Wa_init_1 : decode c_Wa_init 1 = .ok (.invokespecial 3, 3) := by decide +kernel
theorem d_Wa_init_4 : decode c_Wa_init 4 = .ok (.aload_n 0, 1) := by decide +kernel
theorem d_Wa_init_5 : decode c_Wa_init 5 = .ok (.aload_n 1, 1) := by decide +kernel
theorem d_Wa_init_6 : decode c_Wa_init 6 = .ok (.putfield 9, 3) := by decide +kernel
theorem d_Wa_init_9 : decode c_Wa_init 9 = .ok (.aload_n 0, 1) := by decide +kernel
theorem d_Wa_init_10 : decode c_Wa_init 10 = .ok (.aload_n 2, 1) := by decide +kernel
theorem d_Wa_init_11 : decode c_Wa_init 11 = .ok (.putfield 15, 3) := by decide +kernel
theorem d_Wa_init_14 : decode c_Wa_init 14 = .ok (.return_, 1) := by decide +kernel
theorem d_Wa_first_0 : decode c_Wa_first 0 = .ok (.aload_n 0, 1) := by decide +kernel
theorem d_Wa_first_1 : decode c_Wa_first 1 = .ok (.getfield 9, 3) := by decide +kernel
theorem d_Wa_first_4 : decode c_Wa_first 4 = .ok (.sipush 232, 3) := by decide +kernel
theorem d_Wa_first_7 : decode c_Wa_first 7 = .ok (.iconst 4, 1) := by decide +kernel
theorem d_Wa_first_8 : decode c_Wa_first 8 = .ok (.invokevirtual 19, 3) := by decide +kernel
theorem d_Wa_first_11 : decode c_Wa_first 11 = .ok (.ireturn, 1) := by decide +kernel
theorem d_Fr_number_0 : decode c_Fr_number 0 = .ok (.iconst 0, 1) := by decide +kernel
theorem d_Fr_number_1 : decode c_Fr_number 1 = .ok (.istore_n 3, 1) := by decide +kernel
theorem d_Fr_number_2 : decode c_Fr_number 2 = .ok (.iload_n 1, 1) := by decide +kernel
theorem d_Fr_number_3 : decode c_Fr_number 3 = .ok (.iload_n 2, 1) := by decide +kernel
theorem d_Fr_number_4 : decode c_Fr_number 4 = .ok (.iadd, 1) := by decide +kernel
theorem d_Fr_number_5 : decode c_Fr_number 5 = .ok (.iconst 1, 1) := by decide +kernel
theorem d_Fr_number_6 : decode c_Fr_number 6 = .ok (.isub, 1) := by decide +kernel
theorem d_Fr_number_7 : decode c_Fr_number 7 = .ok (.istore 4, 2) := by decide +kernel
theorem d_Fr_number_9 : decode c_Fr_number 9 = .ok (.iload 4, 2) := by decide +kernel
theorem d_Fr_number_11 : decode c_Fr_number 11 = .ok (.iload_n 1, 1) := by decide +kernel
theorem d_Fr_number_12 : decode c_Fr_number 12 = .ok (.if_icmp .lt 41, 3) := by decide +kernel
theorem d_Fr_number_15 : decode c_Fr_number 15 = .ok (.iload 4, 2) := by decide +kernel
theorem d_Fr_number_17 : decode c_Fr_number 17 = .ok (.ifCond .lt 30, 3) := by decide +kernel
theorem d_Fr_number_20 : decode c_Fr_number 20 = .ok (.iload 4, 2) := by decide +kernel
theorem d_Fr_number_22 : decode c_Fr_number 22 = .ok (.aload_n 0, 1) := by decide +kernel
theorem d_Fr_number_23 : decode c_Fr_number 23 = .ok (.getfield 9, 3) := by decide +kernel
theorem d_Fr_number_26 : decode c_Fr_number 26 = .ok (.arraylength, 1) := by decide +kernel
theorem d_Fr_number_27 : decode c_Fr_number 27 = .ok (.if_icmp .ge 20, 3) := by decide +kernel
theorem d_Fr_number_30 : decode c_Fr_number 30 = .ok (.iload_n 3, 1) := by decide +kernel
theorem d_Fr_number_31 : decode c_Fr_number 31 = .ok (.bipush 8, 2) := by decide +kernel
theorem d_Fr_number_33 : decode c_Fr_number 33 = .ok (.ishl, 1) := by decide +kernel
theorem d_Fr_number_34 : decode c_Fr_number 34 = .ok (.aload_n 0, 1) := by decide +kernel
theorem d_Fr_number_35 : decode c_Fr_number 35 = .ok (.getfield 9, 3) := by decide +kernel
theorem d_Fr_number_38 : decode c_Fr_number 38 = .ok (.iload 4, 2) := by decide +kernel
theorem d_Fr_number_40 : decode c_Fr_number 40 = .ok (.baload, 1) := by decide +kernel
theorem d_Fr_number_41 : decode c_Fr_number 41 = .ok (.sipush 255, 3) := by decide +kernel
theorem d_Fr_number_44 : decode c_Fr_number 44 = .ok (.iand, 1) := by decide +kernel
theorem d_Fr_number_45 : decode c_Fr_number 45 = .ok (.ior, 1) := by decide +kernel
theorem d_Fr_number_46 : decode c_Fr_number 46 = .ok (.istore_n 3, 1) := by decide +kernel
theorem d_Fr_number_47 : decode c_Fr_number 47 = .ok (.iinc 4 (-1), 3) := by decide +kernel
theorem d_Fr_number_50 : decode c_Fr_number 50 = .ok (.goto (-41), 3) := by decide +kernel
theorem d_Fr_number_53 : decode c_Fr_number 53 = .ok (.iload_n 3, 1) := by decide +kernel
theorem d_Fr_number_54 : decode c_Fr_number 54 = .ok (.ireturn, 1) := by decide +kernel
theorem d_Re_blocksOf_0 : decode c_Re_blocksOf 0 = .ok (.aload_n 0, 1) := by decide +kernel
theorem d_Re_blocksOf_1 : decode c_Re_blocksOf 1 = .ok (.iload_n 1, 1) := by decide +kernel
theorem d_Re_blocksOf_2 : decode c_Re_blocksOf 2 = .ok (.bipush 28, 2) := by decide +kernel
theorem d_Re_blocksOf_4 : decode c_Re_blocksOf 4 = .ok (.iconst 4, 1) := by decide +kernel
theorem d_Re_blocksOf_5 : decode c_Re_blocksOf 5 = .ok (.invokevirtual 29, 3) := by decide +kernel
theorem d_Re_blocksOf_8 : decode c_Re_blocksOf 8 = .ok (.iconst 2, 1) := by decide +kernel
theorem d_Re_blocksOf_9 : decode c_Re_blocksOf 9 = .ok (.idiv, 1) := by decide +kernel
theorem d_Re_blocksOf_10 : decode c_Re_blocksOf 10 = .ok (.ireturn, 1) := by decide +kernel
theorem d_Re_field_0 : decode c_Re_field 0 = .ok (.aload_n 0, 1) := by decide +kernel
theorem d_Re_field_1 : decode c_Re_field 1 = .ok (.iload_n 1, 1) := by decide +kernel
theorem d_Re_field_2 : decode c_Re_field 2 = .ok (.invokevirtual 39, 3) := by decide +kernel
theorem d_Re_field_5 : decode c_Re_field 5 = .ok (.ifCond .eq 20, 3) := by decide +kernel
theorem d_Re_field_8 : decode c_Re_field 8 = .ok (.aload_n 0, 1) := by decide +kernel
theorem d_Re_field_9 : decode c_Re_field 9 = .ok (.getfield 9, 3) := by decide +kernel
theorem d_Re_field_12 : decode c_Re_field 12 = .ok (.iload_n 1, 1) := by decide +kernel
theorem d_Re_field_13 : decode c_Re_field 13 = .ok (.invokestatic 43, 3) := by decide +kernel
theorem d_Re_field_16 : decode c_Re_field 16 = .ok (.iload_n 2, 1) := by decide +kernel
theorem d_Re_field_17 : decode c_Re_field 17 = .ok (.iadd, 1) := by decide +kernel
theorem d_Re_field_18 : decode c_Re_field 18 = .ok (.iload_n 3, 1) := by decide +kernel
theorem d_Re_field_19 : decode c_Re_field 19 = .ok (.invokevirtual 46, 3) := by decide +kernel
theorem d_Re_field_22 : decode c_Re_field 22 = .ok (.goto 4, 3) := by decide +kernel
theorem d_Re_field_25 : decode c_Re_field 25 = .ok (.iconst 0, 1) := by decide +kernel
theorem d_Re_field_26 : decode c_Re_field 26 = .ok (.ireturn, 1) := by decide +kernel
theorem d_Re_isNumber_0 : decode c_Re_isNumber 0 = .ok (.iload_n 1, 1) := by decide +kernel
theorem d_Re_isNumber_1 : decode c_Re_isNumber 1 = .ok (.iconst 1, 1) := by decide +kernel
theorem d_Re_isNumber_2 : decode c_Re_isNumber 2 = .ok (.if_icmp .lt 13, 3) := by decide +kernel
theorem d_Re_isNumber_5 : decode c_Re_isNumber 5 = .ok (.iload_n 1, 1) := by decide +kernel
theorem d_Re_isNumber_6 : decode c_Re_isNumber 6 = .ok (.bipush 12, 2) := by decide +kernel
theorem d_Re_isNumber_8 : decode c_Re_isNumber 8 = .ok (.if_icmp .gt 7, 3) := by decide +kernel
theorem d_Re_isNumber_11 : decode c_Re_isNumber 11 = .ok (.iconst 1, 1) := by decide +kernel
theorem d_Re_isNumber_12 : decode c_Re_isNumber 12 = .ok (.goto 4, 3) := by decide +kernel
theorem d_Re_isNumber_15 : decode c_Re_isNumber 15 = .ok (.iconst 0, 1) := by decide +kernel
theorem d_Re_isNumber_16 : decode c_Re_isNumber 16 = .ok (.ireturn, 1) := by decide +kernel
theorem d_Re_startOf_0 : decode c_Re_startOf 0 = .ok (.sipush 1024, 3) := by decide +kernel
theorem d_Re_startOf_3 : decode c_Re_startOf 3 = .ok (.sipush 256, 3) := by decide +kernel
theorem d_Re_startOf_6 : decode c_Re_startOf 6 = .ok (.iload_n 0, 1) := by decide +kernel
theorem d_Re_startOf_7 : decode c_Re_startOf 7 = .ok (.iconst 1, 1) := by decide +kernel
theorem d_Re_startOf_8 : decode c_Re_startOf 8 = .ok (.isub, 1) := by decide +kernel
theorem d_Re_startOf_9 : decode c_Re_startOf 9 = .ok (.imul, 1) := by decide +kernel
theorem d_Re_startOf_10 : decode c_Re_startOf 10 = .ok (.iadd, 1) := by decide +kernel
theorem d_Re_startOf_11 : decode c_Re_startOf 11 = .ok (.ireturn, 1) := by decide +kernel
theorem d_Wa_remove_0 : decode c_Wa_remove 0 = .ok (.aload_n 0, 1) := by decide +kernel
theorem d_Wa_remove_1 : decode c_Wa_remove 1 = .ok (.invokevirtual 25, 3) := by decide +kernel
theorem d_Wa_remove_4 : decode c_Wa_remove 4 = .ok (.iload_n 1, 1) := by decide +kernel
theorem d_Wa_remove_5 : decode c_Wa_remove 5 = .ok (.if_icmp .ne 18, 3) := by decide +kernel
theorem d_Wa_remove_8 : decode c_Wa_remove 8 = .ok (.aload_n 0, 1) := by decide +kernel
theorem d_Wa_remove_9 : decode c_Wa_remove 9 = .ok (.aload_n 0, 1) := by decide +kernel
theorem d_Wa_remove_10 : decode c_Wa_remove 10 = .ok (.getfield 15, 3) := by decide +kernel
theorem d_Wa_remove_13 : decode c_Wa_remove 13 = .ok (.iload_n 1, 1) := by decide +kernel
theorem d_Wa_remove_14 : decode c_Wa_remove 14 = .ok (.invokevirtual 29, 3) := by decide +kernel
theorem d_Wa_remove_17 : decode c_Wa_remove 17 = .ok (.invokevirtual 39, 3) := by decide +kernel
theorem d_Wa_remove_20 : decode c_Wa_remove 20 = .ok (.goto 25, 3) := by decide +kernel
theorem d_Wa_remove_23 : decode c_Wa_remove 23 = .ok (.aload_n 0, 1) := by decide +kernel
theorem d_Wa_remove_24 : decode c_Wa_remove 24 = .ok (.iload_n 1, 1) := by decide +kernel
theorem d_Wa_remove_25 : decode c_Wa_remove 25 = .ok (.invokevirtual 43, 3) := by decide +kernel
theorem d_Wa_remove_28 : decode c_Wa_remove 28 = .ok (.istore_n 2, 1) := by decide +kernel
theorem d_Wa_remove_29 : decode c_Wa_remove 29 = .ok (.aload_n 0, 1) := by decide +kernel
theorem d_Wa_remove_30 : decode c_Wa_remove 30 = .ok (.getfield 15, 3) := by decide +kernel
theorem d_Wa_remove_33 : decode c_Wa_remove 33 = .ok (.iload_n 2, 1) := by decide +kernel
theorem d_Wa_remove_34 : decode c_Wa_remove 34 = .ok (.aload_n 0, 1) := by decide +kernel
theorem d_Wa_remove_35 : decode c_Wa_remove 35 = .ok (.getfield 15, 3) := by decide +kernel
theorem d_Wa_remove_38 : decode c_Wa_remove 38 = .ok (.iload_n 1, 1) := by decide +kernel
theorem d_Wa_remove_39 : decode c_Wa_remove 39 = .ok (.invokevirtual 29, 3) := by decide +kernel
theorem d_Wa_remove_42 : decode c_Wa_remove 42 = .ok (.invokevirtual 35, 3) := by decide +kernel
theorem d_Wa_remove_45 : decode c_Wa_remove 45 = .ok (.aload_n 0, 1) := by decide +kernel
theorem d_Wa_remove_46 : decode c_Wa_remove 46 = .ok (.getfield 15, 3) := by decide +kernel
theorem d_Wa_remove_49 : decode c_Wa_remove 49 = .ok (.iload_n 1, 1) := by decide +kernel
theorem d_Wa_remove_50 : decode c_Wa_remove 50 = .ok (.iconst 0, 1) := by decide +kernel
theorem d_Wa_remove_51 : decode c_Wa_remove 51 = .ok (.invokevirtual 35, 3) := by decide +kernel
theorem d_Wa_remove_54 : decode c_Wa_remove 54 = .ok (.return_, 1) := by decide +kernel
theorem d_Re_behind_0 : decode c_Re_behind 0 = .ok (.aload_n 0, 1) := by decide +kernel
theorem d_Re_behind_1 : decode c_Re_behind 1 = .ok (.iload_n 1, 1) := by decide +kernel
theorem d_Re_behind_2 : decode c_Re_behind 2 = .ok (.bipush 20, 2) := by decide +kernel
theorem d_Re_behind_4 : decode c_Re_behind 4 = .ok (.iconst 4, 1) := by decide +kernel
theorem d_Re_behind_5 : decode c_Re_behind 5 = .ok (.invokevirtual 29, 3) := by decide +kernel
theorem d_Re_behind_8 : decode c_Re_behind 8 = .ok (.ireturn, 1) := by decide +kernel
theorem d_Wa_setFirst_0 : decode c_Wa_setFirst 0 = .ok (.aload_n 0, 1) := by decide +kernel
theorem d_Wa_setFirst_1 : decode c_Wa_setFirst 1 = .ok (.getfield 9, 3) := by decide +kernel
theorem d_Wa_setFirst_4 : decode c_Wa_setFirst 4 = .ok (.sipush 232, 3) := by decide +kernel
theorem d_Wa_setFirst_7 : decode c_Wa_setFirst 7 = .ok (.iconst 4, 1) := by decide +kernel
theorem d_Wa_setFirst_8 : decode c_Wa_setFirst 8 = .ok (.iload_n 1, 1) := by decide +kernel
theorem d_Wa_setFirst_9 : decode c_Wa_setFirst 9 = .ok (.invokevirtual 46, 3) := by decide +kernel
theorem d_Wa_setFirst_12 : decode c_Wa_setFirst 12 = .ok (.return_, 1) := by decide +kernel
theorem d_Fr_setNumber_0 : decode c_Fr_setNumber 0 = .ok (.iload_n 3, 1) := by decide +kernel
theorem d_Fr_setNumber_1 : decode c_Fr_setNumber 1 = .ok (.istore 4, 2) := by decide +kernel
theorem d_Fr_setNumber_3 : decode c_Fr_setNumber 3 = .ok (.iload_n 1, 1) := by decide +kernel
theorem d_Fr_setNumber_4 : decode c_Fr_setNumber 4 = .ok (.istore 5, 2) := by decide +kernel
theorem d_Fr_setNumber_6 : decode c_Fr_setNumber 6 = .ok (.iload 5, 2) := by decide +kernel
theorem d_Fr_setNumber_8 : decode c_Fr_setNumber 8 = .ok (.iload_n 1, 1) := by decide +kernel
theorem d_Fr_setNumber_9 : decode c_Fr_setNumber 9 = .ok (.iload_n 2, 1) := by decide +kernel
theorem d_Fr_setNumber_10 : decode c_Fr_setNumber 10 = .ok (.iadd, 1) := by decide +kernel
theorem d_Fr_setNumber_11 : decode c_Fr_setNumber 11 = .ok (.if_icmp .ge 41, 3) := by decide +kernel
theorem d_Fr_setNumber_14 : decode c_Fr_setNumber 14 = .ok (.iload 5, 2) := by decide +kernel
theorem d_Fr_setNumber_16 : decode c_Fr_setNumber 16 = .ok (.ifCond .lt 23, 3) := by decide +kernel
theorem d_Fr_setNumber_19 : decode c_Fr_setNumber 19 = .ok (.iload 5, 2) := by decide +kernel
theorem d_Fr_setNumber_21 : decode c_Fr_setNumber 21 = .ok (.aload_n 0, 1) := by decide +kernel
theorem d_Fr_setNumber_22 : decode c_Fr_setNumber 22 = .ok (.getfield 9, 3) := by decide +kernel
theorem d_Fr_setNumber_25 : decode c_Fr_setNumber 25 = .ok (.arraylength, 1) := by decide +kernel
theorem d_Fr_setNumber_26 : decode c_Fr_setNumber 26 = .ok (.if_icmp .ge 13, 3) := by decide +kernel
theorem d_Fr_setNumber_29 : decode c_Fr_setNumber 29 = .ok (.aload_n 0, 1) := by decide +kernel
theorem d_Fr_setNumber_30 : decode c_Fr_setNumber 30 = .ok (.getfield 9, 3) := by decide +kernel
theorem d_Fr_setNumber_33 : decode c_Fr_setNumber 33 = .ok (.iload 5, 2) := by decide +kernel
theorem d_Fr_setNumber_35 : decode c_Fr_setNumber 35 = .ok (.iload 4, 2) := by decide +kernel
theorem d_Fr_setNumber_37 : decode c_Fr_setNumber 37 = .ok (.i2b, 1) := by decide +kernel
theorem d_Fr_setNumber_38 : decode c_Fr_setNumber 38 = .ok (.bastore, 1) := by decide +kernel
theorem d_Fr_setNumber_39 : decode c_Fr_setNumber 39 = .ok (.iload 4, 2) := by decide +kernel
theorem d_Fr_setNumber_41 : decode c_Fr_setNumber 41 = .ok (.bipush 8, 2) := by decide +kernel
theorem d_Fr_setNumber_43 : decode c_Fr_setNumber 43 = .ok (.iushr, 1) := by decide +kernel
theorem d_Fr_setNumber_44 : decode c_Fr_setNumber 44 = .ok (.istore 4, 2) := by decide +kernel
theorem d_Fr_setNumber_46 : decode c_Fr_setNumber 46 = .ok (.iinc 5 1, 3) := by decide +kernel
theorem d_Fr_setNumber_49 : decode c_Fr_setNumber 49 = .ok (.goto (-43), 3) := by decide +kernel
theorem d_Fr_setNumber_52 : decode c_Fr_setNumber 52 = .ok (.return_, 1) := by decide +kernel
theorem d_Wa_fileBefore_0 : decode c_Wa_fileBefore 0 = .ok (.aload_n 0, 1) := by decide +kernel
theorem d_Wa_fileBefore_1 : decode c_Wa_fileBefore 1 = .ok (.invokevirtual 25, 3) := by decide +kernel
theorem d_Wa_fileBefore_4 : decode c_Wa_fileBefore 4 = .ok (.istore_n 2, 1) := by decide +kernel
theorem d_Wa_fileBefore_5 : decode c_Wa_fileBefore 5 = .ok (.iconst 0, 1) := by decide +kernel
theorem d_Wa_fileBefore_6 : decode c_Wa_fileBefore 6 = .ok (.istore_n 3, 1) := by decide +kernel
theorem d_Wa_fileBefore_7 : decode c_Wa_fileBefore 7 = .ok (.iload_n 3, 1) := by decide +kernel
theorem d_Wa_fileBefore_8 : decode c_Wa_fileBefore 8 = .ok (.bipush 12, 2) := by decide +kernel
theorem d_Wa_fileBefore_10 : decode c_Wa_fileBefore 10 = .ok (.if_icmp .ge 34, 3) := by decide +kernel
theorem d_Wa_fileBefore_13 : decode c_Wa_fileBefore 13 = .ok (.iload_n 2, 1) := by decide +kernel
theorem d_Wa_fileBefore_14 : decode c_Wa_fileBefore 14 = .ok (.ifCond .eq 30, 3) := by decide +kernel
theorem d_Wa_fileBefore_17 : decode c_Wa_fileBefore 17 = .ok (.aload_n 0, 1) := by decide +kernel
theorem d_Wa_fileBefore_18 : decode c_Wa_fileBefore 18 = .ok (.getfield 15, 3) := by decide +kernel
theorem d_Wa_fileBefore_21 : decode c_Wa_fileBefore 21 = .ok (.iload_n 2, 1) := by decide +kernel
theorem d_Wa_fileBefore_22 : decode c_Wa_fileBefore 22 = .ok (.invokevirtual 29, 3) := by decide +kernel
theorem d_Wa_fileBefore_25 : decode c_Wa_fileBefore 25 = .ok (.iload_n 1, 1) := by decide +kernel
theorem d_Wa_fileBefore_26 : decode c_Wa_fileBefore 26 = .ok (.if_icmp .eq 18, 3) := by decide +kernel
theorem d_Wa_fileBefore_29 : decode c_Wa_fileBefore 29 = .ok (.aload_n 0, 1) := by decide +kernel
theorem d_Wa_fileBefore_30 : decode c_Wa_fileBefore 30 = .ok (.getfield 15, 3) := by decide +kernel
theorem d_Wa_fileBefore_33 : decode c_Wa_fileBefore 33 = .ok (.iload_n 2, 1) := by decide +kernel
theorem d_Wa_fileBefore_34 : decode c_Wa_fileBefore 34 = .ok (.invokevirtual 29, 3) := by decide +kernel
theorem d_Wa_fileBefore_37 : decode c_Wa_fileBefore 37 = .ok (.istore_n 2, 1) := by decide +kernel
theorem d_Wa_fileBefore_38 : decode c_Wa_fileBefore 38 = .ok (.iinc 3 1, 3) := by decide +kernel
theorem d_Wa_fileBefore_41 : decode c_Wa_fileBefore 41 = .ok (.goto (-34), 3) := by decide +kernel
theorem d_Wa_fileBefore_44 : decode c_Wa_fileBefore 44 = .ok (.iload_n 2, 1) := by decide +kernel
theorem d_Wa_fileBefore_45 : decode c_Wa_fileBefore 45 = .ok (.ireturn, 1) := by decide +kernel
theorem d_Re_setBehind_0 : decode c_Re_setBehind 0 = .ok (.aload_n 0, 1) := by decide +kernel
theorem d_Re_setBehind_1 : decode c_Re_setBehind 1 = .ok (.iload_n 1, 1) := by decide +kernel
theorem d_Re_setBehind_2 : decode c_Re_setBehind 2 = .ok (.bipush 20, 2) := by decide +kernel
theorem d_Re_setBehind_4 : decode c_Re_setBehind 4 = .ok (.iconst 4, 1) := by decide +kernel
theorem d_Re_setBehind_5 : decode c_Re_setBehind 5 = .ok (.iload_n 2, 1) := by decide +kernel
theorem d_Re_setBehind_6 : decode c_Re_setBehind 6 = .ok (.invokevirtual 21, 3) := by decide +kernel
theorem d_Re_setBehind_9 : decode c_Re_setBehind 9 = .ok (.return_, 1) := by decide +kernel
theorem d_Re_setField_0 : decode c_Re_setField 0 = .ok (.aload_n 0, 1) := by decide +kernel
theorem d_Re_setField_1 : decode c_Re_setField 1 = .ok (.iload_n 1, 1) := by decide +kernel
theorem d_Re_setField_2 : decode c_Re_setField 2 = .ok (.invokevirtual 39, 3) := by decide +kernel
theorem d_Re_setField_5 : decode c_Re_setField 5 = .ok (.ifCond .eq 19, 3) := by decide +kernel
theorem d_Re_setField_8 : decode c_Re_setField 8 = .ok (.aload_n 0, 1) := by decide +kernel
theorem d_Re_setField_9 : decode c_Re_setField 9 = .ok (.getfield 9, 3) := by decide +kernel
theorem d_Re_setField_12 : decode c_Re_setField 12 = .ok (.iload_n 1, 1) := by decide +kernel
theorem d_Re_setField_13 : decode c_Re_setField 13 = .ok (.invokestatic 43, 3) := by decide +kernel
theorem d_Re_setField_16 : decode c_Re_setField 16 = .ok (.iload_n 2, 1) := by decide +kernel
theorem d_Re_setField_17 : decode c_Re_setField 17 = .ok (.iadd, 1) := by decide +kernel
theorem d_Re_setField_18 : decode c_Re_setField 18 = .ok (.iload_n 3, 1) := by decide +kernel
theorem d_Re_setField_19 : decode c_Re_setField 19 = .ok (.iload 4, 2) := by decide +kernel
theorem d_Re_setField_21 : decode c_Re_setField 21 = .ok (.invokevirtual 52, 3) := by decide +kernel
theorem d_Re_setField_24 : decode c_Re_setField 24 = .ok (.return_, 1) := by decide +kernel
theorem d_Re_blockOf_0 : decode c_Re_blockOf 0 = .ok (.iload_n 2, 1) := by decide +kernel
theorem d_Re_blockOf_1 : decode c_Re_blockOf 1 = .ok (.ifCond .lt 17, 3) := by decide +kernel
theorem d_Re_blockOf_4 : decode c_Re_blockOf 4 = .ok (.iload_n 2, 1) := by decide +kernel
theorem d_Re_blockOf_5 : decode c_Re_blockOf 5 = .ok (.bipush 15, 2) := by decide +kernel
theorem d_Re_blockOf_7 : decode c_Re_blockOf 7 = .ok (.if_icmp .ge 11, 3) := by decide +kernel
theorem d_Re_blockOf_10 : decode c_Re_blockOf 10 = .ok (.aload_n 0, 1) := by decide +kernel
theorem d_Re_blockOf_11 : decode c_Re_blockOf 11 = .ok (.iload_n 1, 1) := by decide +kernel
theorem d_Re_blockOf_12 : decode c_Re_blockOf 12 = .ok (.invokevirtual 36, 3) := by decide +kernel
theorem d_Re_blockOf_15 : decode c_Re_blockOf 15 = .ok (.ifCond .ne 5, 3) := by decide +kernel
theorem d_Re_blockOf_18 : decode c_Re_blockOf 18 = .ok (.iconst 0, 1) := by decide +kernel
theorem d_Re_blockOf_19 : decode c_Re_blockOf 19 = .ok (.ireturn, 1) := by decide +kernel
theorem d_Re_blockOf_20 : decode c_Re_blockOf 20 = .ok (.aload_n 0, 1) := by decide +kernel
theorem d_Re_blockOf_21 : decode c_Re_blockOf 21 = .ok (.iload_n 1, 1) := by decide +kernel
theorem d_Re_blockOf_22 : decode c_Re_blockOf 22 = .ok (.bipush 40, 2) := by decide +kernel
theorem d_Re_blockOf_24 : decode c_Re_blockOf 24 = .ok (.iconst 4, 1) := by decide +kernel
theorem d_Re_blockOf_25 : decode c_Re_blockOf 25 = .ok (.iload_n 2, 1) := by decide +kernel
theorem d_Re_blockOf_26 : decode c_Re_blockOf 26 = .ok (.imul, 1) := by decide +kernel
theorem d_Re_blockOf_27 : decode c_Re_blockOf 27 = .ok (.iadd, 1) := by decide +kernel
theorem d_Re_blockOf_28 : decode c_Re_blockOf 28 = .ok (.iconst 4, 1) := by decide +kernel
theorem d_Re_blockOf_29 : decode c_Re_blockOf 29 = .ok (.invokevirtual 29, 3) := by decide +kernel
theorem d_Re_blockOf_32 : decode c_Re_blockOf 32 = .ok (.ireturn, 1) := by decide +kernel
theorem d_Db_give_0 : decode c_Db_give 0 = .ok (.iload_n 1, 1) := by decide +kernel
theorem d_Db_give_1 : decode c_Db_give 1 = .ok (.iconst 4, 1) := by decide +kernel
theorem d_Db_give_2 : decode c_Db_give 2 = .ok (.if_icmp .lt 36, 3) := by decide +kernel
theorem d_Db_give_5 : decode c_Db_give 5 = .ok (.iload_n 1, 1) := by decide +kernel
theorem d_Db_give_6 : decode c_Db_give 6 = .ok (.sipush 128, 3) := by decide +kernel
theorem d_Db_give_9 : decode c_Db_give 9 = .ok (.if_icmp .ge 29, 3) := by decide +kernel
theorem d_Db_give_12 : decode c_Db_give 12 = .ok (.aload_n 0, 1) := by decide +kernel
theorem d_Db_give_13 : decode c_Db_give 13 = .ok (.getfield 17, 3) := by decide +kernel
theorem d_Db_give_16 : decode c_Db_give 16 = .ok (.iload_n 1, 1) := by decide +kernel
theorem d_Db_give_17 : decode c_Db_give 17 = .ok (.baload, 1) := by decide +kernel
theorem d_Db_give_18 : decode c_Db_give 18 = .ok (.ifCond .eq 20, 3) := by decide +kernel
theorem d_Db_give_21 : decode c_Db_give 21 = .ok (.aload_n 0, 1) := by decide +kernel
theorem d_Db_give_22 : decode c_Db_give 22 = .ok (.getfield 17, 3) := by decide +kernel
theorem d_Db_give_25 : decode c_Db_give 25 = .ok (.iload_n 1, 1) := by decide +kernel
theorem d_Db_give_26 : decode c_Db_give 26 = .ok (.iconst 0, 1) := by decide +kernel
theorem d_Db_give_27 : decode c_Db_give 27 = .ok (.bastore, 1) := by decide +kernel
theorem d_Db_give_28 : decode c_Db_give 28 = .ok (.aload_n 0, 1) := by decide +kernel
theorem d_Db_give_29 : decode c_Db_give 29 = .ok (.dup, 1) := by decide +kernel
theorem d_Db_give_30 : decode c_Db_give 30 = .ok (.getfield 21, 3) := by decide +kernel
theorem d_Db_give_33 : decode c_Db_give 33 = .ok (.iconst 1, 1) := by decide +kernel
theorem d_Db_give_34 : decode c_Db_give 34 = .ok (.iadd, 1) := by decide +kernel
theorem d_Db_give_35 : decode c_Db_give 35 = .ok (.putfield 21, 3) := by decide +kernel
theorem d_Db_give_38 : decode c_Db_give 38 = .ok (.return_, 1) := by decide +kernel
theorem d_Re_removeBlock_0 : decode c_Re_removeBlock 0 = .ok (.aload_n 0, 1) := by decide +kernel
theorem d_Re_removeBlock_1 : decode c_Re_removeBlock 1 = .ok (.iload_n 1, 1) := by decide +kernel
theorem d_Re_removeBlock_2 : decode c_Re_removeBlock 2 = .ok (.bipush 40, 2) := by decide +kernel
theorem d_Re_removeBlock_4 : decode c_Re_removeBlock 4 = .ok (.iconst 4, 1) := by decide +kernel
theorem d_Re_removeBlock_5 : decode c_Re_removeBlock 5 = .ok (.iload_n 2, 1) := by decide +kernel
theorem d_Re_removeBlock_6 : decode c_Re_removeBlock 6 = .ok (.imul, 1) := by decide +kernel
theorem d_Re_removeBlock_7 : decode c_Re_removeBlock 7 = .ok (.iadd, 1) := by decide +kernel
theorem d_Re_removeBlock_8 : decode c_Re_removeBlock 8 = .ok (.iconst 4, 1) := by decide +kernel
theorem d_Re_removeBlock_9 : decode c_Re_removeBlock 9 = .ok (.iconst 0, 1) := by decide +kernel
theorem d_Re_removeBlock_10 : decode c_Re_removeBlock 10 = .ok (.invokevirtual 21, 3) := by decide +kernel
theorem d_Re_removeBlock_13 : decode c_Re_removeBlock 13 = .ok (.aload_n 0, 1) := by decide +kernel
theorem d_Re_removeBlock_14 : decode c_Re_removeBlock 14 = .ok (.iload_n 1, 1) := by decide +kernel
theorem d_Re_removeBlock_15 : decode c_Re_removeBlock 15 = .ok (.bipush 28, 2) := by decide +kernel
theorem d_Re_removeBlock_17 : decode c_Re_removeBlock 17 = .ok (.iconst 4, 1) := by decide +kernel
theorem d_Re_removeBlock_18 : decode c_Re_removeBlock 18 = .ok (.iconst 2, 1) := by decide +kernel
theorem d_Re_removeBlock_19 : decode c_Re_removeBlock 19 = .ok (.aload_n 0, 1) := by decide +kernel
theorem d_Re_removeBlock_20 : decode c_Re_removeBlock 20 = .ok (.iload_n 1, 1) := by decide +kernel
theorem d_Re_removeBlock_21 : decode c_Re_removeBlock 21 = .ok (.invokevirtual 36, 3) := by decide +kernel
theorem d_Re_removeBlock_24 : decode c_Re_removeBlock 24 = .ok (.iconst 1, 1) := by decide +kernel
theorem d_Re_removeBlock_25 : decode c_Re_removeBlock 25 = .ok (.isub, 1) := by decide +kernel
theorem d_Re_removeBlock_26 : decode c_Re_removeBlock 26 = .ok (.imul, 1) := by decide +kernel
theorem d_Re_removeBlock_27 : decode c_Re_removeBlock 27 = .ok (.invokevirtual 21, 3) := by decide +kernel
theorem d_Re_removeBlock_30 : decode c_Re_removeBlock 30 = .ok (.return_, 1) := by decide +kernel
theorem d_Re_erase_0 : decode c_Re_erase 0 = .ok (.aload_n 0, 1) := by decide +kernel
theorem d_Re_erase_1 : decode c_Re_erase 1 = .ok (.iload_n 1, 1) := by decide +kernel
theorem d_Re_erase_2 : decode c_Re_erase 2 = .ok (.iconst 0, 1) := by decide +kernel
theorem d_Re_erase_3 : decode c_Re_erase 3 = .ok (.sipush 256, 3) := by decide +kernel
theorem d_Re_erase_6 : decode c_Re_erase 6 = .ok (.iconst 0, 1) := by decide +kernel
theorem d_Re_erase_7 : decode c_Re_erase 7 = .ok (.invokevirtual 21, 3) := by decide +kernel
theorem d_Re_erase_10 : decode c_Re_erase 10 = .ok (.return_, 1) := by decide +kernel
theorem d_Re_leastAbsent_0 : decode c_Re_leastAbsent 0 = .ok (.iconst 1, 1) := by decide +kernel
theorem d_Re_leastAbsent_1 : decode c_Re_leastAbsent 1 = .ok (.istore_n 1, 1) := by decide +kernel
theorem d_Re_leastAbsent_2 : decode c_Re_leastAbsent 2 = .ok (.iload_n 1, 1) := by decide +kernel
theorem d_Re_leastAbsent_3 : decode c_Re_leastAbsent 3 = .ok (.bipush 12, 2) := by decide +kernel
theorem d_Re_leastAbsent_5 : decode c_Re_leastAbsent 5 = .ok (.if_icmp .gt 19, 3) := by decide +kernel
theorem d_Re_leastAbsent_8 : decode c_Re_leastAbsent 8 = .ok (.aload_n 0, 1) := by decide +kernel
theorem d_Re_leastAbsent_9 : decode c_Re_leastAbsent 9 = .ok (.iload_n 1, 1) := by decide +kernel
theorem d_Re_leastAbsent_10 : decode c_Re_leastAbsent 10 = .ok (.invokevirtual 15, 3) := by decide +kernel
theorem d_Re_leastAbsent_13 : decode c_Re_leastAbsent 13 = .ok (.ifCond .ne 5, 3) := by decide +kernel
theorem d_Re_leastAbsent_16 : decode c_Re_leastAbsent 16 = .ok (.iload_n 1, 1) := by decide +kernel
theorem d_Re_leastAbsent_17 : decode c_Re_leastAbsent 17 = .ok (.ireturn, 1) := by decide +kernel
theorem d_Re_leastAbsent_18 : decode c_Re_leastAbsent 18 = .ok (.iinc 1 1, 3) := by decide +kernel
theorem d_Re_leastAbsent_21 : decode c_Re_leastAbsent 21 = .ok (.goto (-19), 3) := by decide +kernel
theorem d_Re_leastAbsent_24 : decode c_Re_leastAbsent 24 = .ok (.iconst 0, 1) := by decide +kernel
theorem d_Re_leastAbsent_25 : decode c_Re_leastAbsent 25 = .ok (.ireturn, 1) := by decide +kernel
theorem d_Re_kindOf_0 : decode c_Re_kindOf 0 = .ok (.aload_n 0, 1) := by decide +kernel
theorem d_Re_kindOf_1 : decode c_Re_kindOf 1 = .ok (.iload_n 1, 1) := by decide +kernel
theorem d_Re_kindOf_2 : decode c_Re_kindOf 2 = .ok (.iconst 0, 1) := by decide +kernel
theorem d_Re_kindOf_3 : decode c_Re_kindOf 3 = .ok (.iconst 2, 1) := by decide +kernel
theorem d_Re_kindOf_4 : decode c_Re_kindOf 4 = .ok (.invokevirtual 29, 3) := by decide +kernel
theorem d_Re_kindOf_7 : decode c_Re_kindOf 7 = .ok (.lookupswitch 29 #[(32768, 25), (40960, 27)], 25) := by decide +kernel
theorem d_Re_kindOf_32 : decode c_Re_kindOf 32 = .ok (.iconst 1, 1) := by decide +kernel
theorem d_Re_kindOf_33 : decode c_Re_kindOf 33 = .ok (.ireturn, 1) := by decide +kernel
theorem d_Re_kindOf_34 : decode c_Re_kindOf 34 = .ok (.iconst 3, 1) := by decide +kernel
theorem d_Re_kindOf_35 : decode c_Re_kindOf 35 = .ok (.ireturn, 1) := by decide +kernel
theorem d_Re_kindOf_36 : decode c_Re_kindOf 36 = .ok (.iconst 0, 1) := by decide +kernel
theorem d_Re_kindOf_37 : decode c_Re_kindOf 37 = .ok (.ireturn, 1) := by decide +kernel
theorem d_Re_begin_0 : decode c_Re_begin 0 = .ok (.aload_n 0, 1) := by decide +kernel
theorem d_Re_begin_1 : decode c_Re_begin 1 = .ok (.iload_n 1, 1) := by decide +kernel
theorem d_Re_begin_2 : decode c_Re_begin 2 = .ok (.iconst 0, 1) := by decide +kernel
theorem d_Re_begin_3 : decode c_Re_begin 3 = .ok (.iconst 2, 1) := by decide +kernel
theorem d_Re_begin_4 : decode c_Re_begin 4 = .ok (.iload_n 2, 1) := by decide +kernel
theorem d_Re_begin_5 : decode c_Re_begin 5 = .ok (.iconst 3, 1) := by decide +kernel
theorem d_Re_begin_6 : decode c_Re_begin 6 = .ok (.if_icmp .ne 8, 3) := by decide +kernel
theorem d_Re_begin_9 : decode c_Re_begin 9 = .ok (.ldc 19, 2) := by decide +kernel
theorem d_Re_begin_11 : decode c_Re_begin 11 = .ok (.goto 5, 3) := by decide +kernel
theorem d_Re_begin_14 : decode c_Re_begin 14 = .ok (.ldc 20, 2) := by decide +kernel
theorem d_Re_begin_16 : decode c_Re_begin 16 = .ok (.invokevirtual 21, 3) := by decide +kernel
theorem d_Re_begin_19 : decode c_Re_begin 19 = .ok (.aload_n 0, 1) := by decide +kernel
theorem d_Re_begin_20 : decode c_Re_begin 20 = .ok (.iload_n 1, 1) := by decide +kernel
theorem d_Re_begin_21 : decode c_Re_begin 21 = .ok (.iload_n 3, 1) := by decide +kernel
theorem d_Re_begin_22 : decode c_Re_begin 22 = .ok (.invokevirtual 25, 3) := by decide +kernel
theorem d_Re_begin_25 : decode c_Re_begin 25 = .ok (.return_, 1) := by decide +kernel
theorem d_Re_setLinks_0 : decode c_Re_setLinks 0 = .ok (.aload_n 0, 1) := by decide +kernel
theorem d_Re_setLinks_1 : decode c_Re_setLinks 1 = .ok (.iload_n 1, 1) := by decide +kernel
theorem d_Re_setLinks_2 : decode c_Re_setLinks 2 = .ok (.bipush 26, 2) := by decide +kernel
theorem d_Re_setLinks_4 : decode c_Re_setLinks 4 = .ok (.iconst 2, 1) := by decide +kernel
theorem d_Re_setLinks_5 : decode c_Re_setLinks 5 = .ok (.iload_n 2, 1) := by decide +kernel
theorem d_Re_setLinks_6 : decode c_Re_setLinks 6 = .ok (.invokevirtual 21, 3) := by decide +kernel
theorem d_Re_setLinks_9 : decode c_Re_setLinks 9 = .ok (.return_, 1) := by decide +kernel
theorem d_Wa_add_0 : decode c_Wa_add 0 = .ok (.aload_n 0, 1) := by decide +kernel
theorem d_Wa_add_1 : decode c_Wa_add 1 = .ok (.getfield 15, 3) := by decide +kernel
theorem d_Wa_add_4 : decode c_Wa_add 4 = .ok (.iload_n 1, 1) := by decide +kernel
theorem d_Wa_add_5 : decode c_Wa_add 5 = .ok (.aload_n 0, 1) := by decide +kernel
theorem d_Wa_add_6 : decode c_Wa_add 6 = .ok (.invokevirtual 25, 3) := by decide +kernel
theorem d_Wa_add_9 : decode c_Wa_add 9 = .ok (.invokevirtual 35, 3) := by decide +kernel
theorem d_Wa_add_12 : decode c_Wa_add 12 = .ok (.aload_n 0, 1) := by decide +kernel
theorem d_Wa_add_13 : decode c_Wa_add 13 = .ok (.iload_n 1, 1) := by decide +kernel
theorem d_Wa_add_14 : decode c_Wa_add 14 = .ok (.invokevirtual 39, 3) := by decide +kernel
theorem d_Wa_add_17 : decode c_Wa_add 17 = .ok (.return_, 1) := by decide +kernel
theorem d_Db_howManyFree_0 : decode c_Db_howManyFree 0 = .ok (.aload_n 0, 1) := by decide +kernel
theorem d_Db_howManyFree_1 : decode c_Db_howManyFree 1 = .ok (.getfield 21, 3) := by decide +kernel
theorem d_Db_howManyFree_4 : decode c_Db_howManyFree 4 = .ok (.ireturn, 1) := by decide +kernel
theorem d_Re_setSize_0 : decode c_Re_setSize 0 = .ok (.aload_n 0, 1) := by decide +kernel
theorem d_Re_setSize_1 : decode c_Re_setSize 1 = .ok (.iload_n 1, 1) := by decide +kernel
theorem d_Re_setSize_2 : decode c_Re_setSize 2 = .ok (.iconst 4, 1) := by decide +kernel
theorem d_Re_setSize_3 : decode c_Re_setSize 3 = .ok (.iconst 4, 1) := by decide +kernel
theorem d_Re_setSize_4 : decode c_Re_setSize 4 = .ok (.iload_n 2, 1) := by decide +kernel
theorem d_Re_setSize_5 : decode c_Re_setSize 5 = .ok (.invokevirtual 21, 3) := by decide +kernel
theorem d_Re_setSize_8 : decode c_Re_setSize 8 = .ok (.return_, 1) := by decide +kernel
theorem d_Re_hasTarget_0 : decode c_Re_hasTarget 0 = .ok (.aload_n 0, 1) := by decide +kernel
theorem d_Re_hasTarget_1 : decode c_Re_hasTarget 1 = .ok (.iload_n 1, 1) := by decide +kernel
theorem d_Re_hasTarget_2 : decode c_Re_hasTarget 2 = .ok (.invokevirtual 15, 3) := by decide +kernel
theorem d_Re_hasTarget_5 : decode c_Re_hasTarget 5 = .ok (.iconst 3, 1) := by decide +kernel
theorem d_Re_hasTarget_6 : decode c_Re_hasTarget 6 = .ok (.if_icmp .ne 17, 3) := by decide +kernel
theorem d_Re_hasTarget_9 : decode c_Re_hasTarget 9 = .ok (.aload_n 0, 1) := by decide +kernel
theorem d_Re_hasTarget_10 : decode c_Re_hasTarget 10 = .ok (.iload_n 1, 1) := by decide +kernel
theorem d_Re_hasTarget_11 : decode c_Re_hasTarget 11 = .ok (.invokevirtual 33, 3) := by decide +kernel
theorem d_Re_hasTarget_14 : decode c_Re_hasTarget 14 = .ok (.bipush 59, 2) := by decide +kernel
theorem d_Re_hasTarget_16 : decode c_Re_hasTarget 16 = .ok (.if_icmp .gt 7, 3) := by decide +kernel
theorem d_Re_hasTarget_19 : decode c_Re_hasTarget 19 = .ok (.iconst 1, 1) := by decide +kernel
theorem d_Re_hasTarget_20 : decode c_Re_hasTarget 20 = .ok (.goto 4, 3) := by decide +kernel
theorem d_Re_hasTarget_23 : decode c_Re_hasTarget 23 = .ok (.iconst 0, 1) := by decide +kernel
theorem d_Re_hasTarget_24 : decode c_Re_hasTarget 24 = .ok (.ireturn, 1) := by decide +kernel
theorem d_Re_sizeOf_0 : decode c_Re_sizeOf 0 = .ok (.aload_n 0, 1) := by decide +kernel
theorem d_Re_sizeOf_1 : decode c_Re_sizeOf 1 = .ok (.iload_n 1, 1) := by decide +kernel
theorem d_Re_sizeOf_2 : decode c_Re_sizeOf 2 = .ok (.iconst 4, 1) := by decide +kernel
theorem d_Re_sizeOf_3 : decode c_Re_sizeOf 3 = .ok (.iconst 4, 1) := by decide +kernel
theorem d_Re_sizeOf_4 : decode c_Re_sizeOf 4 = .ok (.invokevirtual 29, 3) := by decide +kernel
theorem d_Re_sizeOf_7 : decode c_Re_sizeOf 7 = .ok (.ireturn, 1) := by decide +kernel
theorem d_Ma_floorMod_0 : decode c_Ma_floorMod 0 = .ok (.iload_n 0, 1) := by decide +kernel
theorem d_Ma_floorMod_1 : decode c_Ma_floorMod 1 = .ok (.iload_n 1, 1) := by decide +kernel
theorem d_Ma_floorMod_2 : decode c_Ma_floorMod 2 = .ok (.irem, 1) := by decide +kernel
theorem d_Ma_floorMod_3 : decode c_Ma_floorMod 3 = .ok (.istore_n 2, 1) := by decide +kernel
theorem d_Ma_floorMod_4 : decode c_Ma_floorMod 4 = .ok (.iload_n 0, 1) := by decide +kernel
theorem d_Ma_floorMod_5 : decode c_Ma_floorMod 5 = .ok (.iload_n 1, 1) := by decide +kernel
theorem d_Ma_floorMod_6 : decode c_Ma_floorMod 6 = .ok (.ixor, 1) := by decide +kernel
theorem d_Ma_floorMod_7 : decode c_Ma_floorMod 7 = .ok (.ifCond .ge 11, 3) := by decide +kernel
theorem d_Ma_floorMod_10 : decode c_Ma_floorMod 10 = .ok (.iload_n 2, 1) := by decide +kernel
theorem d_Ma_floorMod_11 : decode c_Ma_floorMod 11 = .ok (.ifCond .eq 7, 3) := by decide +kernel
theorem d_Ma_floorMod_14 : decode c_Ma_floorMod 14 = .ok (.iload_n 2, 1) := by decide +kernel
theorem d_Ma_floorMod_15 : decode c_Ma_floorMod 15 = .ok (.iload_n 1, 1) := by decide +kernel
theorem d_Ma_floorMod_16 : decode c_Ma_floorMod 16 = .ok (.iadd, 1) := by decide +kernel
theorem d_Ma_floorMod_17 : decode c_Ma_floorMod 17 = .ok (.ireturn, 1) := by decide +kernel
theorem d_Ma_floorMod_18 : decode c_Ma_floorMod 18 = .ok (.iload_n 2, 1) := by decide +kernel
theorem d_Ma_floorMod_19 : decode c_Ma_floorMod 19 = .ok (.ireturn, 1) := by decide +kernel
theorem d_Re_setTargetByte_0 : decode c_Re_setTargetByte 0 = .ok (.aload_n 0, 1) := by decide +kernel
theorem d_Re_setTargetByte_1 : decode c_Re_setTargetByte 1 = .ok (.iload_n 1, 1) := by decide +kernel
theorem d_Re_setTargetByte_2 : decode c_Re_setTargetByte 2 = .ok (.bipush 40, 2) := by decide +kernel
theorem d_Re_setTargetByte_4 : decode c_Re_setTargetByte 4 = .ok (.iload_n 2, 1) := by decide +kernel
theorem d_Re_setTargetByte_5 : decode c_Re_setTargetByte 5 = .ok (.iadd, 1) := by decide +kernel
theorem d_Re_setTargetByte_6 : decode c_Re_setTargetByte 6 = .ok (.iconst 1, 1) := by decide +kernel
theorem d_Re_setTargetByte_7 : decode c_Re_setTargetByte 7 = .ok (.iload_n 3, 1) := by decide +kernel
theorem d_Re_setTargetByte_8 : decode c_Re_setTargetByte 8 = .ok (.invokevirtual 21, 3) := by decide +kernel
theorem d_Re_setTargetByte_11 : decode c_Re_setTargetByte 11 = .ok (.return_, 1) := by decide +kernel
theorem d_Db_take_0 : decode c_Db_take 0 = .ok (.aload_n 0, 1) := by decide +kernel
theorem d_Db_take_1 : decode c_Db_take 1 = .ok (.iload_n 1, 1) := by decide +kernel
theorem d_Db_take_2 : decode c_Db_take 2 = .ok (.invokevirtual 25, 3) := by decide +kernel
theorem d_Db_take_5 : decode c_Db_take 5 = .ok (.istore_n 2, 1) := by decide +kernel
theorem d_Db_take_6 : decode c_Db_take 6 = .ok (.iload_n 2, 1) := by decide +kernel
theorem d_Db_take_7 : decode c_Db_take 7 = .ok (.ifCond .ne 9, 3) := by decide +kernel
theorem d_Db_take_10 : decode c_Db_take 10 = .ok (.aload_n 0, 1) := by decide +kernel
theorem d_Db_take_11 : decode c_Db_take 11 = .ok (.iconst 4, 1) := by decide +kernel
theorem d_Db_take_12 : decode c_Db_take 12 = .ok (.invokevirtual 25, 3) := by decide +kernel
theorem d_Db_take_15 : decode c_Db_take 15 = .ok (.istore_n 2, 1) := by decide +kernel
theorem d_Db_take_16 : decode c_Db_take 16 = .ok (.iload_n 2, 1) := by decide +kernel
theorem d_Db_take_17 : decode c_Db_take 17 = .ok (.ifCond .ne 5, 3) := by decide +kernel
theorem d_Db_take_20 : decode c_Db_take 20 = .ok (.iconst 0, 1) := by decide +kernel
theorem d_Db_take_21 : decode c_Db_take 21 = .ok (.ireturn, 1) := by decide +kernel
theorem d_Db_take_22 : decode c_Db_take 22 = .ok (.aload_n 0, 1) := by decide +kernel
theorem d_Db_take_23 : decode c_Db_take 23 = .ok (.getfield 11, 3) := by decide +kernel
theorem d_Db_take_26 : decode c_Db_take 26 = .ok (.iload_n 2, 1) := by decide +kernel
theorem d_Db_take_27 : decode c_Db_take 27 = .ok (.aaload, 1) := by decide +kernel
theorem d_Db_take_28 : decode c_Db_take 28 = .ok (.ifnonnull 17, 3) := by decide +kernel
theorem d_Db_take_31 : decode c_Db_take 31 = .ok (.aload_n 0, 1) := by decide +kernel
theorem d_Db_take_32 : decode c_Db_take 32 = .ok (.getfield 11, 3) := by decide +kernel
theorem d_Db_take_35 : decode c_Db_take 35 = .ok (.iload_n 2, 1) := by decide +kernel
theorem d_Db_take_36 : decode c_Db_take 36 = .ok (.sipush 1024, 3) := by decide +kernel
theorem d_Db_take_39 : decode c_Db_take 39 = .ok (.newarray .byte, 2) := by decide +kernel
theorem d_Db_take_41 : decode c_Db_take 41 = .ok (.aastore, 1) := by decide +kernel
theorem d_Db_take_42 : decode c_Db_take 42 = .ok (.goto 13, 3) := by decide +kernel
theorem d_Db_take_45 : decode c_Db_take 45 = .ok (.aload_n 0, 1) := by decide +kernel
theorem d_Db_take_46 : decode c_Db_take 46 = .ok (.getfield 11, 3) := by decide +kernel
theorem d_Db_take_49 : decode c_Db_take 49 = .ok (.iload_n 2, 1) := by decide +kernel
theorem d_Db_take_50 : decode c_Db_take 50 = .ok (.aaload, 1) := by decide +kernel
theorem d_Db_take_51 : decode c_Db_take 51 = .ok (.iconst 0, 1) := by decide +kernel
theorem d_Db_take_52 : decode c_Db_take 52 = .ok (.invokestatic 29, 3) := by decide +kernel
theorem d_Db_take_55 : decode c_Db_take 55 = .ok (.aload_n 0, 1) := by decide +kernel
theorem d_Db_take_56 : decode c_Db_take 56 = .ok (.getfield 17, 3) := by decide +kernel
theorem d_Db_take_59 : decode c_Db_take 59 = .ok (.iload_n 2, 1) := by decide +kernel
theorem d_Db_take_60 : decode c_Db_take 60 = .ok (.iconst 1, 1) := by decide +kernel
theorem d_Db_take_61 : decode c_Db_take 61 = .ok (.bastore, 1) := by decide +kernel
theorem d_Db_take_62 : decode c_Db_take 62 = .ok (.aload_n 0, 1) := by decide +kernel
theorem d_Db_take_63 : decode c_Db_take 63 = .ok (.dup, 1) := by decide +kernel
theorem d_Db_take_64 : decode c_Db_take 64 = .ok (.getfield 21, 3) := by decide +kernel
theorem d_Db_take_67 : decode c_Db_take 67 = .ok (.iconst 1, 1) := by decide +kernel
theorem d_Db_take_68 : decode c_Db_take 68 = .ok (.isub, 1) := by decide +kernel
theorem d_Db_take_69 : decode c_Db_take 69 = .ok (.putfield 21, 3) := by decide +kernel
theorem d_Db_take_72 : decode c_Db_take 72 = .ok (.iload_n 2, 1) := by decide +kernel
theorem d_Db_take_73 : decode c_Db_take 73 = .ok (.ireturn, 1) := by decide +kernel
theorem d_Db_leastFree_0 : decode c_Db_leastFree 0 = .ok (.iload_n 1, 1) := by decide +kernel
theorem d_Db_leastFree_1 : decode c_Db_leastFree 1 = .ok (.iconst 4, 1) := by decide +kernel
theorem d_Db_leastFree_2 : decode c_Db_leastFree 2 = .ok (.invokestatic 42, 3) := by decide +kernel
theorem d_Db_leastFree_5 : decode c_Db_leastFree 5 = .ok (.istore_n 2, 1) := by decide +kernel
theorem d_Db_leastFree_6 : decode c_Db_leastFree 6 = .ok (.iload_n 2, 1) := by decide +kernel
theorem d_Db_leastFree_7 : decode c_Db_leastFree 7 = .ok (.sipush 128, 3) := by decide +kernel
theorem d_Db_leastFree_10 : decode c_Db_leastFree 10 = .ok (.if_icmp .ge 20, 3) := by decide +kernel
theorem d_Db_leastFree_13 : decode c_Db_leastFree 13 = .ok (.aload_n 0, 1) := by decide +kernel
theorem d_Db_leastFree_14 : decode c_Db_leastFree 14 = .ok (.getfield 17, 3) := by decide +kernel
theorem d_Db_leastFree_17 : decode c_Db_leastFree 17 = .ok (.iload_n 2, 1) := by decide +kernel
theorem d_Db_leastFree_18 : decode c_Db_leastFree 18 = .ok (.baload, 1) := by decide +kernel
theorem d_Db_leastFree_19 : decode c_Db_leastFree 19 = .ok (.ifCond .ne 5, 3) := by decide +kernel
theorem d_Db_leastFree_22 : decode c_Db_leastFree 22 = .ok (.iload_n 2, 1) := by decide +kernel
theorem d_Db_leastFree_23 : decode c_Db_leastFree 23 = .ok (.ireturn, 1) := by decide +kernel
theorem d_Db_leastFree_24 : decode c_Db_leastFree 24 = .ok (.iinc 2 1, 3) := by decide +kernel
theorem d_Db_leastFree_27 : decode c_Db_leastFree 27 = .ok (.goto (-21), 3) := by decide +kernel
theorem d_Db_leastFree_30 : decode c_Db_leastFree 30 = .ok (.iconst 0, 1) := by decide +kernel
theorem d_Db_leastFree_31 : decode c_Db_leastFree 31 = .ok (.ireturn, 1) := by decide +kernel
theorem d_Ar_fill_0 : decode c_Ar_fill 0 = .ok (.iconst 0, 1) := by decide +kernel
theorem d_Ar_fill_1 : decode c_Ar_fill 1 = .ok (.istore_n 2, 1) := by decide +kernel
theorem d_Ar_fill_2 : decode c_Ar_fill 2 = .ok (.aload_n 0, 1) := by decide +kernel
theorem d_Ar_fill_3 : decode c_Ar_fill 3 = .ok (.arraylength, 1) := by decide +kernel
theorem d_Ar_fill_4 : decode c_Ar_fill 4 = .ok (.istore_n 3, 1) := by decide +kernel
theorem d_Ar_fill_5 : decode c_Ar_fill 5 = .ok (.iload_n 2, 1) := by decide +kernel
theorem d_Ar_fill_6 : decode c_Ar_fill 6 = .ok (.iload_n 3, 1) := by decide +kernel
theorem d_Ar_fill_7 : decode c_Ar_fill 7 = .ok (.if_icmp .ge 13, 3) := by decide +kernel
theorem d_Ar_fill_10 : decode c_Ar_fill 10 = .ok (.aload_n 0, 1) := by decide +kernel
theorem d_Ar_fill_11 : decode c_Ar_fill 11 = .ok (.iload_n 2, 1) := by decide +kernel
theorem d_Ar_fill_12 : decode c_Ar_fill 12 = .ok (.iload_n 1, 1) := by decide +kernel
theorem d_Ar_fill_13 : decode c_Ar_fill 13 = .ok (.bastore, 1) := by decide +kernel
theorem d_Ar_fill_14 : decode c_Ar_fill 14 = .ok (.iinc 2 1, 3) := by decide +kernel
theorem d_Ar_fill_17 : decode c_Ar_fill 17 = .ok (.goto (-12), 3) := by decide +kernel
theorem d_Ar_fill_20 : decode c_Ar_fill 20 = .ok (.return_, 1) := by decide +kernel
theorem d_Re_addBlock_0 : decode c_Re_addBlock 0 = .ok (.aload_n 0, 1) := by decide +kernel
theorem d_Re_addBlock_1 : decode c_Re_addBlock 1 = .ok (.iload_n 1, 1) := by decide +kernel
theorem d_Re_addBlock_2 : decode c_Re_addBlock 2 = .ok (.bipush 40, 2) := by decide +kernel
theorem d_Re_addBlock_4 : decode c_Re_addBlock 4 = .ok (.iconst 4, 1) := by decide +kernel
theorem d_Re_addBlock_5 : decode c_Re_addBlock 5 = .ok (.iload_n 2, 1) := by decide +kernel
theorem d_Re_addBlock_6 : decode c_Re_addBlock 6 = .ok (.imul, 1) := by decide +kernel
theorem d_Re_addBlock_7 : decode c_Re_addBlock 7 = .ok (.iadd, 1) := by decide +kernel
theorem d_Re_addBlock_8 : decode c_Re_addBlock 8 = .ok (.iconst 4, 1) := by decide +kernel
theorem d_Re_addBlock_9 : decode c_Re_addBlock 9 = .ok (.iload_n 3, 1) := by decide +kernel
theorem d_Re_addBlock_10 : decode c_Re_addBlock 10 = .ok (.invokevirtual 21, 3) := by decide +kernel
theorem d_Re_addBlock_13 : decode c_Re_addBlock 13 = .ok (.aload_n 0, 1) := by decide +kernel
theorem d_Re_addBlock_14 : decode c_Re_addBlock 14 = .ok (.iload_n 1, 1) := by decide +kernel
theorem d_Re_addBlock_15 : decode c_Re_addBlock 15 = .ok (.bipush 28, 2) := by decide +kernel
theorem d_Re_addBlock_17 : decode c_Re_addBlock 17 = .ok (.iconst 4, 1) := by decide +kernel
theorem d_Re_addBlock_18 : decode c_Re_addBlock 18 = .ok (.iconst 2, 1) := by decide +kernel
theorem d_Re_addBlock_19 : decode c_Re_addBlock 19 = .ok (.aload_n 0, 1) := by decide +kernel
theorem d_Re_addBlock_20 : decode c_Re_addBlock 20 = .ok (.iload_n 1, 1) := by decide +kernel
theorem d_Re_addBlock_21 : decode c_Re_addBlock 21 = .ok (.invokevirtual 36, 3) := by decide +kernel
theorem d_Re_addBlock_24 : decode c_Re_addBlock 24 = .ok (.iconst 1, 1) := by decide +kernel
theorem d_Re_addBlock_25 : decode c_Re_addBlock 25 = .ok (.iadd, 1) := by decide +kernel
theorem d_Re_addBlock_26 : decode c_Re_addBlock 26 = .ok (.imul, 1) := by decide +kernel
theorem d_Re_addBlock_27 : decode c_Re_addBlock 27 = .ok (.invokevirtual 21, 3) := by decide +kernel
theorem d_Re_addBlock_30 : decode c_Re_addBlock 30 = .ok (.return_, 1) := by decide +kernel
theorem d_Db_setByte_0 : decode c_Db_setByte 0 = .ok (.aload_n 0, 1) := by decide +kernel
theorem d_Db_setByte_1 : decode c_Db_setByte 1 = .ok (.iload_n 1, 1) := by decide +kernel
theorem d_Db_setByte_2 : decode c_Db_setByte 2 = .ok (.iload_n 2, 1) := by decide +kernel
theorem d_Db_setByte_3 : decode c_Db_setByte 3 = .ok (.iload_n 2, 1) := by decide +kernel
theorem d_Db_setByte_4 : decode c_Db_setByte 4 = .ok (.iconst 1, 1) := by decide +kernel
theorem d_Db_setByte_5 : decode c_Db_setByte 5 = .ok (.iadd, 1) := by decide +kernel
theorem d_Db_setByte_6 : decode c_Db_setByte 6 = .ok (.invokevirtual 35, 3) := by decide +kernel
theorem d_Db_setByte_9 : decode c_Db_setByte 9 = .ok (.ifCond .eq 13, 3) := by decide +kernel
theorem d_Db_setByte_12 : decode c_Db_setByte 12 = .ok (.aload_n 0, 1) := by decide +kernel
theorem d_Db_setByte_13 : decode c_Db_setByte 13 = .ok (.getfield 11, 3) := by decide +kernel
theorem d_Db_setByte_16 : decode c_Db_setByte 16 = .ok (.iload_n 1, 1) := by decide +kernel
theorem d_Db_setByte_17 : decode c_Db_setByte 17 = .ok (.aaload, 1) := by decide +kernel
theorem d_Db_setByte_18 : decode c_Db_setByte 18 = .ok (.iload_n 2, 1) := by decide +kernel
theorem d_Db_setByte_19 : decode c_Db_setByte 19 = .ok (.iload_n 3, 1) := by decide +kernel
theorem d_Db_setByte_20 : decode c_Db_setByte 20 = .ok (.i2b, 1) := by decide +kernel
theorem d_Db_setByte_21 : decode c_Db_setByte 21 = .ok (.bastore, 1) := by decide +kernel
theorem d_Db_setByte_22 : decode c_Db_setByte 22 = .ok (.return_, 1) := by decide +kernel
theorem d_Db_hasSpan_0 : decode c_Db_hasSpan 0 = .ok (.iload_n 1, 1) := by decide +kernel
theorem d_Db_hasSpan_1 : decode c_Db_hasSpan 1 = .ok (.ifCond .lt 39, 3) := by decide +kernel
theorem d_Db_hasSpan_4 : decode c_Db_hasSpan 4 = .ok (.iload_n 1, 1) := by decide +kernel
theorem d_Db_hasSpan_5 : decode c_Db_hasSpan 5 = .ok (.sipush 128, 3) := by decide +kernel
theorem d_Db_hasSpan_8 : decode c_Db_hasSpan 8 = .ok (.if_icmp .ge 32, 3) := by decide +kernel
theorem d_Db_hasSpan_11 : decode c_Db_hasSpan 11 = .ok (.aload_n 0, 1) := by decide +kernel
theorem d_Db_hasSpan_12 : decode c_Db_hasSpan 12 = .ok (.getfield 11, 3) := by decide +kernel
theorem d_Db_hasSpan_15 : decode c_Db_hasSpan 15 = .ok (.iload_n 1, 1) := by decide +kernel
theorem d_Db_hasSpan_16 : decode c_Db_hasSpan 16 = .ok (.aaload, 1) := by decide +kernel
theorem d_Db_hasSpan_17 : decode c_Db_hasSpan 17 = .ok (.ifnull 23, 3) := by decide +kernel
theorem d_Db_hasSpan_20 : decode c_Db_hasSpan 20 = .ok (.iload_n 2, 1) := by decide +kernel
theorem d_Db_hasSpan_21 : decode c_Db_hasSpan 21 = .ok (.ifCond .lt 19, 3) := by decide +kernel
theorem d_Db_hasSpan_24 : decode c_Db_hasSpan 24 = .ok (.iload_n 2, 1) := by decide +kernel
theorem d_Db_hasSpan_25 : decode c_Db_hasSpan 25 = .ok (.iload_n 3, 1) := by decide +kernel
theorem d_Db_hasSpan_26 : decode c_Db_hasSpan 26 = .ok (.if_icmp .gt 14, 3) := by decide +kernel
theorem d_Db_hasSpan_29 : decode c_Db_hasSpan 29 = .ok (.iload_n 3, 1) := by decide +kernel
theorem d_Db_hasSpan_30 : decode c_Db_hasSpan 30 = .ok (.sipush 1024, 3) := by decide +kernel
theorem d_Db_hasSpan_33 : decode c_Db_hasSpan 33 = .ok (.if_icmp .gt 7, 3) := by decide +kernel
theorem d_Db_hasSpan_36 : decode c_Db_hasSpan 36 = .ok (.iconst 1, 1) := by decide +kernel
theorem d_Db_hasSpan_37 : decode c_Db_hasSpan 37 = .ok (.goto 4, 3) := by decide +kernel
theorem d_Db_hasSpan_40 : decode c_Db_hasSpan 40 = .ok (.iconst 0, 1) := by decide +kernel
theorem d_Db_hasSpan_41 : decode c_Db_hasSpan 41 = .ok (.ireturn, 1) := by decide +kernel
theorem d_Db_setPattern_0 : decode c_Db_setPattern 0 = .ok (.aload_n 0, 1) := by decide +kernel
theorem d_Db_setPattern_1 : decode c_Db_setPattern 1 = .ok (.iload_n 1, 1) := by decide +kernel
theorem d_Db_setPattern_2 : decode c_Db_setPattern 2 = .ok (.iload_n 2, 1) := by decide +kernel
theorem d_Db_setPattern_3 : decode c_Db_setPattern 3 = .ok (.iload_n 3, 1) := by decide +kernel
theorem d_Db_setPattern_4 : decode c_Db_setPattern 4 = .ok (.invokevirtual 35, 3) := by decide +kernel
theorem d_Db_setPattern_7 : decode c_Db_setPattern 7 = .ok (.ifCond .ne 4, 3) := by decide +kernel
theorem d_Db_setPattern_10 : decode c_Db_setPattern 10 = .ok (.return_, 1) := by decide +kernel
theorem d_Db_setPattern_11 : decode c_Db_setPattern 11 = .ok (.aload_n 0, 1) := by decide +kernel
theorem d_Db_setPattern_12 : decode c_Db_setPattern 12 = .ok (.getfield 11, 3) := by decide +kernel
theorem d_Db_setPattern_15 : decode c_Db_setPattern 15 = .ok (.iload_n 1, 1) := by decide +kernel
theorem d_Db_setPattern_16 : decode c_Db_setPattern 16 = .ok (.aaload, 1) := by decide +kernel
theorem d_Db_setPattern_17 : decode c_Db_setPattern 17 = .ok (.astore 5, 2) := by decide +kernel
theorem d_Db_setPattern_19 : decode c_Db_setPattern 19 = .ok (.iload 4, 2) := by decide +kernel
theorem d_Db_setPattern_21 : decode c_Db_setPattern 21 = .ok (.istore 6, 2) := by decide +kernel
theorem d_Db_setPattern_23 : decode c_Db_setPattern 23 = .ok (.iload_n 2, 1) := by decide +kernel
theorem d_Db_setPattern_24 : decode c_Db_setPattern 24 = .ok (.istore 7, 2) := by decide +kernel
theorem d_Db_setPattern_26 : decode c_Db_setPattern 26 = .ok (.iload 7, 2) := by decide +kernel
theorem d_Db_setPattern_28 : decode c_Db_setPattern 28 = .ok (.iload_n 3, 1) := by decide +kernel
theorem d_Db_setPattern_29 : decode c_Db_setPattern 29 = .ok (.if_icmp .ge 20, 3) := by decide +kernel
theorem d_Db_setPattern_32 : decode c_Db_setPattern 32 = .ok (.aload 5, 2) := by decide +kernel
theorem d_Db_setPattern_34 : decode c_Db_setPattern 34 = .ok (.iload 7, 2) := by decide +kernel
theorem d_Db_setPattern_36 : decode c_Db_setPattern 36 = .ok (.iload 6, 2) := by decide +kernel
theorem d_Db_setPattern_38 : decode c_Db_setPattern 38 = .ok (.i2b, 1) := by decide +kernel
theorem d_Db_setPattern_39 : decode c_Db_setPattern 39 = .ok (.bastore, 1) := by decide +kernel
theorem d_Db_setPattern_40 : decode c_Db_setPattern 40 = .ok (.iinc 6 7, 3) := by decide +kernel
theorem d_Db_setPattern_43 : decode c_Db_setPattern 43 = .ok (.iinc 7 1, 3) := by decide +kernel
theorem d_Db_setPattern_46 : decode c_Db_setPattern 46 = .ok (.goto (-20), 3) := by decide +kernel
theorem d_Db_setPattern_49 : decode c_Db_setPattern 49 = .ok (.return_, 1) := by decide +kernel
theorem d_Re_targetByte_0 : decode c_Re_targetByte 0 = .ok (.aload_n 0, 1) := by decide +kernel
theorem d_Re_targetByte_1 : decode c_Re_targetByte 1 = .ok (.iload_n 1, 1) := by decide +kernel
theorem d_Re_targetByte_2 : decode c_Re_targetByte 2 = .ok (.bipush 40, 2) := by decide +kernel
theorem d_Re_targetByte_4 : decode c_Re_targetByte 4 = .ok (.iload_n 2, 1) := by decide +kernel
theorem d_Re_targetByte_5 : decode c_Re_targetByte 5 = .ok (.iadd, 1) := by decide +kernel
theorem d_Re_targetByte_6 : decode c_Re_targetByte 6 = .ok (.iconst 1, 1) := by decide +kernel
theorem d_Re_targetByte_7 : decode c_Re_targetByte 7 = .ok (.invokevirtual 29, 3) := by decide +kernel
theorem d_Re_targetByte_10 : decode c_Re_targetByte 10 = .ok (.ireturn, 1) := by decide +kernel
theorem d_Db_byteAt_0 : decode c_Db_byteAt 0 = .ok (.aload_n 0, 1) := by decide +kernel
theorem d_Db_byteAt_1 : decode c_Db_byteAt 1 = .ok (.iload_n 1, 1) := by decide +kernel
theorem d_Db_byteAt_2 : decode c_Db_byteAt 2 = .ok (.iload_n 2, 1) := by decide +kernel
theorem d_Db_byteAt_3 : decode c_Db_byteAt 3 = .ok (.iload_n 2, 1) := by decide +kernel
theorem d_Db_byteAt_4 : decode c_Db_byteAt 4 = .ok (.iconst 1, 1) := by decide +kernel
theorem d_Db_byteAt_5 : decode c_Db_byteAt 5 = .ok (.iadd, 1) := by decide +kernel
theorem d_Db_byteAt_6 : decode c_Db_byteAt 6 = .ok (.invokevirtual 35, 3) := by decide +kernel
theorem d_Db_byteAt_9 : decode c_Db_byteAt 9 = .ok (.ifCond .eq 18, 3) := by decide +kernel
theorem d_Db_byteAt_12 : decode c_Db_byteAt 12 = .ok (.aload_n 0, 1) := by decide +kernel
theorem d_Db_byteAt_13 : decode c_Db_byteAt 13 = .ok (.getfield 11, 3) := by decide +kernel
theorem d_Db_byteAt_16 : decode c_Db_byteAt 16 = .ok (.iload_n 1, 1) := by decide +kernel
theorem d_Db_byteAt_17 : decode c_Db_byteAt 17 = .ok (.aaload, 1) := by decide +kernel
theorem d_Db_byteAt_18 : decode c_Db_byteAt 18 = .ok (.iload_n 2, 1) := by decide +kernel
theorem d_Db_byteAt_19 : decode c_Db_byteAt 19 = .ok (.baload, 1) := by decide +kernel
theorem d_Db_byteAt_20 : decode c_Db_byteAt 20 = .ok (.sipush 255, 3) := by decide +kernel
theorem d_Db_byteAt_23 : decode c_Db_byteAt 23 = .ok (.iand, 1) := by decide +kernel
theorem d_Db_byteAt_24 : decode c_Db_byteAt 24 = .ok (.goto 4, 3) := by decide +kernel
theorem d_Db_byteAt_27 : decode c_Db_byteAt 27 = .ok (.iconst 0, 1) := by decide +kernel
theorem d_Db_byteAt_28 : decode c_Db_byteAt 28 = .ok (.ireturn, 1) := by decide +kernel
theorem d_Db_clear_0 : decode c_Db_clear 0 = .ok (.aload_n 0, 1) := by decide +kernel
theorem d_Db_clear_1 : decode c_Db_clear 1 = .ok (.iload_n 1, 1) := by decide +kernel
theorem d_Db_clear_2 : decode c_Db_clear 2 = .ok (.iload_n 2, 1) := by decide +kernel
theorem d_Db_clear_3 : decode c_Db_clear 3 = .ok (.iload_n 3, 1) := by decide +kernel
theorem d_Db_clear_4 : decode c_Db_clear 4 = .ok (.invokevirtual 35, 3) := by decide +kernel
theorem d_Db_clear_7 : decode c_Db_clear 7 = .ok (.ifCond .eq 15, 3) := by decide +kernel
theorem d_Db_clear_10 : decode c_Db_clear 10 = .ok (.aload_n 0, 1) := by decide +kernel
theorem d_Db_clear_11 : decode c_Db_clear 11 = .ok (.getfield 11, 3) := by decide +kernel
theorem d_Db_clear_14 : decode c_Db_clear 14 = .ok (.iload_n 1, 1) := by decide +kernel
theorem d_Db_clear_15 : decode c_Db_clear 15 = .ok (.aaload, 1) := by decide +kernel
theorem d_Db_clear_16 : decode c_Db_clear 16 = .ok (.iload_n 2, 1) := by decide +kernel
theorem d_Db_clear_17 : decode c_Db_clear 17 = .ok (.iload_n 3, 1) := by decide +kernel
theorem d_Db_clear_18 : decode c_Db_clear 18 = .ok (.iconst 0, 1) := by decide +kernel
theorem d_Db_clear_19 : decode c_Db_clear 19 = .ok (.invokestatic 39, 3) := by decide +kernel
theorem d_Db_clear_22 : decode c_Db_clear 22 = .ok (.return_, 1) := by decide +kernel
theorem d_Ar_fill4_0 : decode c_Ar_fill4 0 = .ok (.aload_n 0, 1) := by decide +kernel
theorem d_Ar_fill4_1 : decode c_Ar_fill4 1 = .ok (.arraylength, 1) := by decide +kernel
theorem d_Ar_fill4_2 : decode c_Ar_fill4 2 = .ok (.iload_n 1, 1) := by decide +kernel
theorem d_Ar_fill4_3 : decode c_Ar_fill4 3 = .ok (.iload_n 2, 1) := by decide +kernel
theorem d_Ar_fill4_4 : decode c_Ar_fill4 4 = .ok (.invokestatic 13, 3) := by decide +kernel
theorem d_Ar_fill4_7 : decode c_Ar_fill4 7 = .ok (.iload_n 1, 1) := by decide +kernel
theorem d_Ar_fill4_8 : decode c_Ar_fill4 8 = .ok (.istore 4, 2) := by decide +kernel
theorem d_Ar_fill4_10 : decode c_Ar_fill4 10 = .ok (.iload 4, 2) := by decide +kernel
theorem d_Ar_fill4_12 : decode c_Ar_fill4 12 = .ok (.iload_n 2, 1) := by decide +kernel
theorem d_Ar_fill4_13 : decode c_Ar_fill4 13 = .ok (.if_icmp .ge 14, 3) := by decide +kernel
theorem d_Ar_fill4_16 : decode c_Ar_fill4 16 = .ok (.aload_n 0, 1) := by decide +kernel
theorem d_Ar_fill4_17 : decode c_Ar_fill4 17 = .ok (.iload 4, 2) := by decide +kernel
theorem d_Ar_fill4_19 : decode c_Ar_fill4 19 = .ok (.iload_n 3, 1) := by decide +kernel
theorem d_Ar_fill4_20 : decode c_Ar_fill4 20 = .ok (.bastore, 1) := by decide +kernel
theorem d_Ar_fill4_21 : decode c_Ar_fill4 21 = .ok (.iinc 4 1, 3) := by decide +kernel
theorem d_Ar_fill4_24 : decode c_Ar_fill4 24 = .ok (.goto (-14), 3) := by decide +kernel
theorem d_Ar_fill4_27 : decode c_Ar_fill4 27 = .ok (.return_, 1) := by decide +kernel
theorem d_Ar_rangeCheck_0 : decode c_Ar_rangeCheck 0 = .ok (.iload_n 1, 1) := by decide +kernel
theorem d_Ar_rangeCheck_1 : decode c_Ar_rangeCheck 1 = .ok (.iload_n 2, 1) := by decide +kernel
theorem d_Ar_rangeCheck_2 : decode c_Ar_rangeCheck 2 = .ok (.if_icmp .le 44, 3) := by decide +kernel
theorem d_Ar_rangeCheck_5 : decode c_Ar_rangeCheck 5 = .ok (.new 43, 3) := by decide +kernel
theorem d_Ar_rangeCheck_8 : decode c_Ar_rangeCheck 8 = .ok (.dup, 1) := by decide +kernel
theorem d_Ar_rangeCheck_9 : decode c_Ar_rangeCheck 9 = .ok (.new 45, 3) := by decide +kernel
theorem d_Ar_rangeCheck_12 : decode c_Ar_rangeCheck 12 = .ok (.dup, 1) := by decide +kernel
theorem d_Ar_rangeCheck_13 : decode c_Ar_rangeCheck 13 = .ok (.invokespecial 47, 3) := by decide +kernel
theorem d_Ar_rangeCheck_16 : decode c_Ar_rangeCheck 16 = .ok (.ldc 48, 2) := by decide +kernel
theorem d_Ar_rangeCheck_18 : decode c_Ar_rangeCheck 18 = .ok (.invokevirtual 50, 3) := by decide +kernel
theorem d_Ar_rangeCheck_21 : decode c_Ar_rangeCheck 21 = .ok (.iload_n 1, 1) := by decide +kernel
theorem d_Ar_rangeCheck_22 : decode c_Ar_rangeCheck 22 = .ok (.invokevirtual 54, 3) := by decide +kernel
theorem d_Ar_rangeCheck_25 : decode c_Ar_rangeCheck 25 = .ok (.ldc 57, 2) := by decide +kernel
theorem d_Ar_rangeCheck_27 : decode c_Ar_rangeCheck 27 = .ok (.invokevirtual 50, 3) := by decide +kernel
theorem d_Ar_rangeCheck_30 : decode c_Ar_rangeCheck 30 = .ok (.iload_n 2, 1) := by decide +kernel
theorem d_Ar_rangeCheck_31 : decode c_Ar_rangeCheck 31 = .ok (.invokevirtual 54, 3) := by decide +kernel
theorem d_Ar_rangeCheck_34 : decode c_Ar_rangeCheck 34 = .ok (.ldc 59, 2) := by decide +kernel
theorem d_Ar_rangeCheck_36 : decode c_Ar_rangeCheck 36 = .ok (.invokevirtual 50, 3) := by decide +kernel
theorem d_Ar_rangeCheck_39 : decode c_Ar_rangeCheck 39 = .ok (.invokevirtual 61, 3) := by decide +kernel
theorem d_Ar_rangeCheck_42 : decode c_Ar_rangeCheck 42 = .ok (.invokespecial 65, 3) := by decide +kernel
theorem d_Ar_rangeCheck_45 : decode c_Ar_rangeCheck 45 = .ok (.athrow, 1) := by decide +kernel
theorem d_Ar_rangeCheck_46 : decode c_Ar_rangeCheck 46 = .ok (.iload_n 1, 1) := by decide +kernel
theorem d_Ar_rangeCheck_47 : decode c_Ar_rangeCheck 47 = .ok (.ifCond .ge 12, 3) := by decide +kernel
theorem d_Ar_rangeCheck_50 : decode c_Ar_rangeCheck 50 = .ok (.new 68, 3) := by decide +kernel
theorem d_Ar_rangeCheck_53 : decode c_Ar_rangeCheck 53 = .ok (.dup, 1) := by decide +kernel
theorem d_Ar_rangeCheck_54 : decode c_Ar_rangeCheck 54 = .ok (.iload_n 1, 1) := by decide +kernel
theorem d_Ar_rangeCheck_55 : decode c_Ar_rangeCheck 55 = .ok (.invokespecial 70, 3) := by decide +kernel
theorem d_Ar_rangeCheck_58 : decode c_Ar_rangeCheck 58 = .ok (.athrow, 1) := by decide +kernel
theorem d_Ar_rangeCheck_59 : decode c_Ar_rangeCheck 59 = .ok (.iload_n 2, 1) := by decide +kernel
theorem d_Ar_rangeCheck_60 : decode c_Ar_rangeCheck 60 = .ok (.iload_n 0, 1) := by decide +kernel
theorem d_Ar_rangeCheck_61 : decode c_Ar_rangeCheck 61 = .ok (.if_icmp .le 12, 3) := by decide +kernel
theorem d_Ar_rangeCheck_64 : decode c_Ar_rangeCheck 64 = .ok (.new 68, 3) := by decide +kernel
theorem d_Ar_rangeCheck_67 : decode c_Ar_rangeCheck 67 = .ok (.dup, 1) := by decide +kernel
theorem d_Ar_rangeCheck_68 : decode c_Ar_rangeCheck 68 = .ok (.iload_n 2, 1) := by decide +kernel
theorem d_Ar_rangeCheck_69 : decode c_Ar_rangeCheck 69 = .ok (.invokespecial 70, 3) := by decide +kernel
theorem d_Ar_rangeCheck_72 : decode c_Ar_rangeCheck 72 = .ok (.athrow, 1) := by decide +kernel
theorem d_Ar_rangeCheck_73 : decode c_Ar_rangeCheck 73 = .ok (.return_, 1) := by decide +kernel
theorem d_Re_linksOf_0 : decode c_Re_linksOf 0 = .ok (.aload_n 0, 1) := by decide +kernel
theorem d_Re_linksOf_1 : decode c_Re_linksOf 1 = .ok (.iload_n 1, 1) := by decide +kernel
theorem d_Re_linksOf_2 : decode c_Re_linksOf 2 = .ok (.bipush 26, 2) := by decide +kernel
theorem d_Re_linksOf_4 : decode c_Re_linksOf 4 = .ok (.iconst 2, 1) := by decide +kernel
theorem d_Re_linksOf_5 : decode c_Re_linksOf 5 = .ok (.invokevirtual 29, 3) := by decide +kernel
theorem d_Re_linksOf_8 : decode c_Re_linksOf 8 = .ok (.ireturn, 1) := by decide +kernel
theorem d_Re_howManyThere_0 : decode c_Re_howManyThere 0 = .ok (.iconst 0, 1) := by decide +kernel
theorem d_Re_howManyThere_1 : decode c_Re_howManyThere 1 = .ok (.istore_n 1, 1) := by decide +kernel
theorem d_Re_howManyThere_2 : decode c_Re_howManyThere 2 = .ok (.iconst 1, 1) := by decide +kernel
theorem d_Re_howManyThere_3 : decode c_Re_howManyThere 3 = .ok (.istore_n 2, 1) := by decide +kernel
theorem d_Re_howManyThere_4 : decode c_Re_howManyThere 4 = .ok (.iload_n 2, 1) := by decide +kernel
theorem d_Re_howManyThere_5 : decode c_Re_howManyThere 5 = .ok (.bipush 12, 2) := by decide +kernel
theorem d_Re_howManyThere_7 : decode c_Re_howManyThere 7 = .ok (.if_icmp .gt 20, 3) := by decide +kernel
theorem d_Re_howManyThere_10 : decode c_Re_howManyThere 10 = .ok (.aload_n 0, 1) := by decide +kernel
theorem d_Re_howManyThere_11 : decode c_Re_howManyThere 11 = .ok (.iload_n 2, 1) := by decide +kernel
theorem d_Re_howManyThere_12 : decode c_Re_howManyThere 12 = .ok (.invokevirtual 15, 3) := by decide +kernel
theorem d_Re_howManyThere_15 : decode c_Re_howManyThere 15 = .ok (.ifCond .eq 6, 3) := by decide +kernel
theorem d_Re_howManyThere_18 : decode c_Re_howManyThere 18 = .ok (.iinc 1 1, 3) := by decide +kernel
theorem d_Re_howManyThere_21 : decode c_Re_howManyThere 21 = .ok (.iinc 2 1, 3) := by decide +kernel
theorem d_Re_howManyThere_24 : decode c_Re_howManyThere 24 = .ok (.goto (-20), 3) := by decide +kernel
theorem d_Re_howManyThere_27 : decode c_Re_howManyThere 27 = .ok (.iload_n 1, 1) := by decide +kernel
theorem d_Re_howManyThere_28 : decode c_Re_howManyThere 28 = .ok (.ireturn, 1) := by decide +kernel
theorem d_Wa_howMany_0 : decode c_Wa_howMany 0 = .ok (.aload_n 0, 1) := by decide +kernel
theorem d_Wa_howMany_1 : decode c_Wa_howMany 1 = .ok (.invokevirtual 25, 3) := by decide +kernel
theorem d_Wa_howMany_4 : decode c_Wa_howMany 4 = .ok (.istore_n 1, 1) := by decide +kernel
theorem d_Wa_howMany_5 : decode c_Wa_howMany 5 = .ok (.iconst 0, 1) := by decide +kernel
theorem d_Wa_howMany_6 : decode c_Wa_howMany 6 = .ok (.istore_n 2, 1) := by decide +kernel
theorem d_Wa_howMany_7 : decode c_Wa_howMany 7 = .ok (.iload_n 2, 1) := by decide +kernel
theorem d_Wa_howMany_8 : decode c_Wa_howMany 8 = .ok (.bipush 12, 2) := by decide +kernel
theorem d_Wa_howMany_10 : decode c_Wa_howMany 10 = .ok (.if_icmp .ge 22, 3) := by decide +kernel
theorem d_Wa_howMany_13 : decode c_Wa_howMany 13 = .ok (.iload_n 1, 1) := by decide +kernel
theorem d_Wa_howMany_14 : decode c_Wa_howMany 14 = .ok (.ifCond .eq 18, 3) := by decide +kernel
theorem d_Wa_howMany_17 : decode c_Wa_howMany 17 = .ok (.aload_n 0, 1) := by decide +kernel
theorem d_Wa_howMany_18 : decode c_Wa_howMany 18 = .ok (.getfield 15, 3) := by decide +kernel
theorem d_Wa_howMany_21 : decode c_Wa_howMany 21 = .ok (.iload_n 1, 1) := by decide +kernel
theorem d_Wa_howMany_22 : decode c_Wa_howMany 22 = .ok (.invokevirtual 29, 3) := by decide +kernel
theorem d_Wa_howMany_25 : decode c_Wa_howMany 25 = .ok (.istore_n 1, 1) := by decide +kernel
theorem d_Wa_howMany_26 : decode c_Wa_howMany 26 = .ok (.iinc 2 1, 3) := by decide +kernel
theorem d_Wa_howMany_29 : decode c_Wa_howMany 29 = .ok (.goto (-22), 3) := by decide +kernel
theorem d_Wa_howMany_32 : decode c_Wa_howMany 32 = .ok (.iload_n 2, 1) := by decide +kernel
theorem d_Wa_howMany_33 : decode c_Wa_howMany 33 = .ok (.ireturn, 1) := by decide +kernel
end
section
theorem d_Fb_init_0 : decode c_Fb_init 0 = .ok (.aload_n 0, 1) := by decide +kernel
theorem d_Fb_init_1 : decode c_Fb_init 1 = .ok (.invokespecial 3, 3) := by decide +kernel
theorem d_Fb_init_4 : decode c_Fb_init 4 = .ok (.aload_n 0, 1) := by decide +kernel
theorem d_Fb_init_5 : decode c_Fb_init 5 = .ok (.new 9, 3) := by decide +kernel
theorem d_Fb_init_8 : decode c_Fb_init 8 = .ok (.dup, 1) := by decide +kernel
theorem d_Fb_init_9 : decode c_Fb_init 9 = .ok (.invokespecial 11, 3) := by decide +kernel
theorem d_Fb_init_12 : decode c_Fb_init 12 = .ok (.putfield 12, 3) := by decide +kernel
theorem d_Fb_init_15 : decode c_Fb_init 15 = .ok (.aload_n 0, 1) := by decide +kernel
theorem d_Fb_init_16 : decode c_Fb_init 16 = .ok (.new 16, 3) := by decide +kernel
theorem d_Fb_init_19 : decode c_Fb_init 19 = .ok (.dup, 1) := by decide +kernel
theorem d_Fb_init_20 : decode c_Fb_init 20 = .ok (.invokespecial 18, 3) := by decide +kernel
theorem d_Fb_init_23 : decode c_Fb_init 23 = .ok (.putfield 19, 3) := by decide +kernel
theorem d_Fb_init_26 : decode c_Fb_init 26 = .ok (.aload_n 0, 1) := by decide +kernel
theorem d_Fb_init_27 : decode c_Fb_init 27 = .ok (.new 23, 3) := by decide +kernel
theorem d_Fb_init_30 : decode c_Fb_init 30 = .ok (.dup, 1) := by decide +kernel
theorem d_Fb_init_31 : decode c_Fb_init 31 = .ok (.aload_n 0, 1) := by decide +kernel
theorem d_Fb_init_32 : decode c_Fb_init 32 = .ok (.getfield 12, 3) := by decide +kernel
theorem d_Fb_init_35 : decode c_Fb_init 35 = .ok (.invokespecial 25, 3) := by decide +kernel
theorem d_Fb_init_38 : decode c_Fb_init 38 = .ok (.putfield 28, 3) := by decide +kernel
theorem d_Fb_init_41 : decode c_Fb_init 41 = .ok (.aload_n 0, 1) := by decide +kernel
theorem d_Fb_init_42 : decode c_Fb_init 42 = .ok (.new 32, 3) := by decide +kernel
theorem d_Fb_init_45 : decode c_Fb_init 45 = .ok (.dup, 1) := by decide +kernel
theorem d_Fb_init_46 : decode c_Fb_init 46 = .ok (.aload_n 0, 1) := by decide +kernel
theorem d_Fb_init_47 : decode c_Fb_init 47 = .ok (.getfield 12, 3) := by decide +kernel
theorem d_Fb_init_50 : decode c_Fb_init 50 = .ok (.aload_n 0, 1) := by decide +kernel
theorem d_Fb_init_51 : decode c_Fb_init 51 = .ok (.getfield 28, 3) := by decide +kernel
theorem d_Fb_init_54 : decode c_Fb_init 54 = .ok (.invokespecial 34, 3) := by decide +kernel
theorem d_Fb_init_57 : decode c_Fb_init 57 = .ok (.putfield 37, 3) := by decide +kernel
theorem d_Fb_init_60 : decode c_Fb_init 60 = .ok (.aload_n 0, 1) := by decide +kernel
theorem d_Fb_init_61 : decode c_Fb_init 61 = .ok (.new 41, 3) := by decide +kernel
theorem d_Fb_init_64 : decode c_Fb_init 64 = .ok (.dup, 1) := by decide +kernel
theorem d_Fb_init_65 : decode c_Fb_init 65 = .ok (.aload_n 0, 1) := by decide +kernel
theorem d_Fb_init_66 : decode c_Fb_init 66 = .ok (.getfield 19, 3) := by decide +kernel
theorem d_Fb_init_69 : decode c_Fb_init 69 = .ok (.aload_n 0, 1) := by decide +kernel
theorem d_Fb_init_70 : decode c_Fb_init 70 = .ok (.getfield 28, 3) := by decide +kernel
theorem d_Fb_init_73 : decode c_Fb_init 73 = .ok (.invokespecial 43, 3) := by decide +kernel
theorem d_Fb_init_76 : decode c_Fb_init 76 = .ok (.putfield 46, 3) := by decide +kernel
theorem d_Fb_init_79 : decode c_Fb_init 79 = .ok (.return_, 1) := by decide +kernel
theorem d_Bo_init_0 : decode c_Bo_init 0 = .ok (.aload_n 0, 1) := by decide +kernel
theorem d_Bo_init_1 : decode c_Bo_init 1 = .ok (.invokespecial 3, 3) := by decide +kernel
theorem d_Bo_init_4 : decode c_Bo_init 4 = .ok (.aload_n 0, 1) := by decide +kernel
theorem d_Bo_init_5 : decode c_Bo_init 5 = .ok (.aload_n 1, 1) := by decide +kernel
theorem d_Bo_init_6 : decode c_Bo_init 6 = .ok (.putfield 9, 3) := by decide +kernel
theorem d_Bo_init_9 : decode c_Bo_init 9 = .ok (.aload_n 0, 1) := by decide +kernel
theorem d_Bo_init_10 : decode c_Bo_init 10 = .ok (.aload_n 2, 1) := by decide +kernel
theorem d_Bo_init_11 : decode c_Bo_init 11 = .ok (.putfield 15, 3) := by decide +kernel
theorem d_Bo_init_14 : decode c_Bo_init 14 = .ok (.return_, 1) := by decide +kernel
theorem d_Fb_finish_0 : decode c_Fb_finish 0 = .ok (.iconst 0, 1) := by decide +kernel
theorem d_Fb_finish_1 : decode c_Fb_finish 1 = .ok (.istore_n 1, 1) := by decide +kernel
theorem d_Fb_finish_2 : decode c_Fb_finish 2 = .ok (.iload_n 1, 1) := by decide +kernel
theorem d_Fb_finish_3 : decode c_Fb_finish 3 = .ok (.bipush 12, 2) := by decide +kernel
theorem d_Fb_finish_5 : decode c_Fb_finish 5 = .ok (.if_icmp .ge 31, 3) := by decide +kernel
theorem d_Fb_finish_8 : decode c_Fb_finish 8 = .ok (.aload_n 0, 1) := by decide +kernel
theorem d_Fb_finish_9 : decode c_Fb_finish 9 = .ok (.getfield 37, 3) := by decide +kernel
theorem d_Fb_finish_12 : decode c_Fb_finish 12 = .ok (.invokevirtual 145, 3) := by decide +kernel
theorem d_Fb_finish_15 : decode c_Fb_finish 15 = .ok (.ifCond .eq 21, 3) := by decide +kernel
theorem d_Fb_finish_18 : decode c_Fb_finish 18 = .ok (.aload_n 0, 1) := by decide +kernel
theorem d_Fb_finish_19 : decode c_Fb_finish 19 = .ok (.aload_n 0, 1) := by decide +kernel
theorem d_Fb_finish_20 : decode c_Fb_finish 20 = .ok (.getfield 37, 3) := by decide +kernel
theorem d_Fb_finish_23 : decode c_Fb_finish 23 = .ok (.invokevirtual 145, 3) := by decide +kernel
theorem d_Fb_finish_26 : decode c_Fb_finish 26 = .ok (.invokevirtual 142, 3) := by decide +kernel
theorem d_Fb_finish_29 : decode c_Fb_finish 29 = .ok (.pop, 1) := by decide +kernel
theorem d_Fb_finish_30 : decode c_Fb_finish 30 = .ok (.iinc 1 1, 3) := by decide +kernel
theorem d_Fb_finish_33 : decode c_Fb_finish 33 = .ok (.goto (-31), 3) := by decide +kernel
theorem d_Fb_finish_36 : decode c_Fb_finish 36 = .ok (.iload_n 1, 1) := by decide +kernel
theorem d_Fb_finish_37 : decode c_Fb_finish 37 = .ok (.ireturn, 1) := by decide +kernel
theorem d_Fb_letGo_0 : decode c_Fb_letGo 0 = .ok (.aload_n 0, 1) := by decide +kernel
theorem d_Fb_letGo_1 : decode c_Fb_letGo 1 = .ok (.getfield 28, 3) := by decide +kernel
theorem d_Fb_letGo_4 : decode c_Fb_letGo 4 = .ok (.iload_n 1, 1) := by decide +kernel
theorem d_Fb_letGo_5 : decode c_Fb_letGo 5 = .ok (.invokevirtual 157, 3) := by decide +kernel
theorem d_Fb_letGo_8 : decode c_Fb_letGo 8 = .ok (.istore_n 2, 1) := by decide +kernel
theorem d_Fb_letGo_9 : decode c_Fb_letGo 9 = .ok (.aload_n 0, 1) := by decide +kernel
theorem d_Fb_letGo_10 : decode c_Fb_letGo 10 = .ok (.getfield 37, 3) := by decide +kernel
theorem d_Fb_letGo_13 : decode c_Fb_letGo 13 = .ok (.iload_n 1, 1) := by decide +kernel
theorem d_Fb_letGo_14 : decode c_Fb_letGo 14 = .ok (.invokevirtual 137, 3) := by decide +kernel
theorem d_Fb_letGo_17 : decode c_Fb_letGo 17 = .ok (.aload_n 0, 1) := by decide +kernel
theorem d_Fb_letGo_18 : decode c_Fb_letGo 18 = .ok (.getfield 46, 3) := by decide +kernel
theorem d_Fb_letGo_21 : decode c_Fb_letGo 21 = .ok (.iload_n 1, 1) := by decide +kernel
theorem d_Fb_letGo_22 : decode c_Fb_letGo 22 = .ok (.iconst 0, 1) := by decide +kernel
theorem d_Fb_letGo_23 : decode c_Fb_letGo 23 = .ok (.invokevirtual 199, 3) := by decide +kernel
theorem d_Fb_letGo_26 : decode c_Fb_letGo 26 = .ok (.aload_n 0, 1) := by decide +kernel
theorem d_Fb_letGo_27 : decode c_Fb_letGo 27 = .ok (.getfield 28, 3) := by decide +kernel
theorem d_Fb_letGo_30 : decode c_Fb_letGo 30 = .ok (.iload_n 1, 1) := by decide +kernel
theorem d_Fb_letGo_31 : decode c_Fb_letGo 31 = .ok (.invokevirtual 202, 3) := by decide +kernel
theorem d_Fb_letGo_34 : decode c_Fb_letGo 34 = .ok (.iload_n 2, 1) := by decide +kernel
theorem d_Fb_letGo_35 : decode c_Fb_letGo 35 = .ok (.ireturn, 1) := by decide +kernel
theorem d_Bo_giveBack_0 : decode c_Bo_giveBack 0 = .ok (.iload_n 2, 1) := by decide +kernel
theorem d_Bo_giveBack_1 : decode c_Bo_giveBack 1 = .ok (.istore_n 3, 1) := by decide +kernel
theorem d_Bo_giveBack_2 : decode c_Bo_giveBack 2 = .ok (.iload_n 3, 1) := by decide +kernel
theorem d_Bo_giveBack_3 : decode c_Bo_giveBack 3 = .ok (.bipush 15, 2) := by decide +kernel
theorem d_Bo_giveBack_5 : decode c_Bo_giveBack 5 = .ok (.if_icmp .ge 43, 3) := by decide +kernel
theorem d_Bo_giveBack_8 : decode c_Bo_giveBack 8 = .ok (.aload_n 0, 1) := by decide +kernel
theorem d_Bo_giveBack_9 : decode c_Bo_giveBack 9 = .ok (.getfield 15, 3) := by decide +kernel
theorem d_Bo_giveBack_12 : decode c_Bo_giveBack 12 = .ok (.iload_n 1, 1) := by decide +kernel
theorem d_Bo_giveBack_13 : decode c_Bo_giveBack 13 = .ok (.iload_n 3, 1) := by decide +kernel
theorem d_Bo_giveBack_14 : decode c_Bo_giveBack 14 = .ok (.invokevirtual 29, 3) := by decide +kernel
theorem d_Bo_giveBack_17 : decode c_Bo_giveBack 17 = .ok (.istore 4, 2) := by decide +kernel
theorem d_Bo_giveBack_19 : decode c_Bo_giveBack 19 = .ok (.iload 4, 2) := by decide +kernel
theorem d_Bo_giveBack_21 : decode c_Bo_giveBack 21 = .ok (.ifCond .eq 21, 3) := by decide +kernel
theorem d_Bo_giveBack_24 : decode c_Bo_giveBack 24 = .ok (.aload_n 0, 1) := by decide +kernel
theorem d_Bo_giveBack_25 : decode c_Bo_giveBack 25 = .ok (.getfield 9, 3) := by decide +kernel
theorem d_Bo_giveBack_28 : decode c_Bo_giveBack 28 = .ok (.iload 4, 2) := by decide +kernel
theorem d_Bo_giveBack_30 : decode c_Bo_giveBack 30 = .ok (.invokevirtual 77, 3) := by decide +kernel
theorem d_Bo_giveBack_33 : decode c_Bo_giveBack 33 = .ok (.aload_n 0, 1) := by decide +kernel
theorem d_Bo_giveBack_34 : decode c_Bo_giveBack 34 = .ok (.getfield 15, 3) := by decide +kernel
theorem d_Bo_giveBack_37 : decode c_Bo_giveBack 37 = .ok (.iload_n 1, 1) := by decide +kernel
theorem d_Bo_giveBack_38 : decode c_Bo_giveBack 38 = .ok (.iload_n 3, 1) := by decide +kernel
theorem d_Bo_giveBack_39 : decode c_Bo_giveBack 39 = .ok (.invokevirtual 81, 3) := by decide +kernel
theorem d_Bo_giveBack_42 : decode c_Bo_giveBack 42 = .ok (.iinc 3 1, 3) := by decide +kernel
theorem d_Bo_giveBack_45 : decode c_Bo_giveBack 45 = .ok (.goto (-43), 3) := by decide +kernel
theorem d_Bo_giveBack_48 : decode c_Bo_giveBack 48 = .ok (.return_, 1) := by decide +kernel
theorem d_Fb_make_0 : decode c_Fb_make 0 = .ok (.iload_n 1, 1) := by decide +kernel
theorem d_Fb_make_1 : decode c_Fb_make 1 = .ok (.ifCond .lt 10, 3) := by decide +kernel
theorem d_Fb_make_4 : decode c_Fb_make 4 = .ok (.iload_n 1, 1) := by decide +kernel
theorem d_Fb_make_5 : decode c_Fb_make 5 = .ok (.sipush 1000, 3) := by decide +kernel
theorem d_Fb_make_8 : decode c_Fb_make 8 = .ok (.if_icmp .le 13, 3) := by decide +kernel
theorem d_Fb_make_11 : decode c_Fb_make 11 = .ok (.new 50, 3) := by decide +kernel
theorem d_Fb_make_14 : decode c_Fb_make 14 = .ok (.dup, 1) := by decide +kernel
theorem d_Fb_make_15 : decode c_Fb_make 15 = .ok (.ldc 52, 2) := by decide +kernel
theorem d_Fb_make_17 : decode c_Fb_make 17 = .ok (.invokespecial 54, 3) := by decide +kernel
theorem d_Fb_make_20 : decode c_Fb_make 20 = .ok (.athrow, 1) := by decide +kernel
theorem d_Fb_make_21 : decode c_Fb_make 21 = .ok (.aload_n 0, 1) := by decide +kernel
theorem d_Fb_make_22 : decode c_Fb_make 22 = .ok (.getfield 28, 3) := by decide +kernel
theorem d_Fb_make_25 : decode c_Fb_make 25 = .ok (.invokevirtual 57, 3) := by decide +kernel
theorem d_Fb_make_28 : decode c_Fb_make 28 = .ok (.istore_n 2, 1) := by decide +kernel
theorem d_Fb_make_29 : decode c_Fb_make 29 = .ok (.iload_n 2, 1) := by decide +kernel
theorem d_Fb_make_30 : decode c_Fb_make 30 = .ok (.ifCond .ne 13, 3) := by decide +kernel
theorem d_Fb_make_33 : decode c_Fb_make 33 = .ok (.new 61, 3) := by decide +kernel
theorem d_Fb_make_36 : decode c_Fb_make 36 = .ok (.dup, 1) := by decide +kernel
theorem d_Fb_make_37 : decode c_Fb_make 37 = .ok (.ldc 63, 2) := by decide +kernel
theorem d_Fb_make_39 : decode c_Fb_make 39 = .ok (.invokespecial 65, 3) := by decide +kernel
theorem d_Fb_make_42 : decode c_Fb_make 42 = .ok (.athrow, 1) := by decide +kernel
theorem d_Fb_make_43 : decode c_Fb_make 43 = .ok (.aload_n 0, 1) := by decide +kernel
theorem d_Fb_make_44 : decode c_Fb_make 44 = .ok (.getfield 28, 3) := by decide +kernel
theorem d_Fb_make_47 : decode c_Fb_make 47 = .ok (.iload_n 2, 1) := by decide +kernel
theorem d_Fb_make_48 : decode c_Fb_make 48 = .ok (.iconst 1, 1) := by decide +kernel
theorem d_Fb_make_49 : decode c_Fb_make 49 = .ok (.iload_n 1, 1) := by decide +kernel
theorem d_Fb_make_50 : decode c_Fb_make 50 = .ok (.invokevirtual 66, 3) := by decide +kernel
theorem d_Fb_make_53 : decode c_Fb_make 53 = .ok (.iload_n 1, 1) := by decide +kernel
theorem d_Fb_make_54 : decode c_Fb_make 54 = .ok (.ifCond .ne 11, 3) := by decide +kernel
theorem d_Fb_make_57 : decode c_Fb_make 57 = .ok (.aload_n 0, 1) := by decide +kernel
theorem d_Fb_make_58 : decode c_Fb_make 58 = .ok (.getfield 37, 3) := by decide +kernel
theorem d_Fb_make_61 : decode c_Fb_make 61 = .ok (.iload_n 2, 1) := by decide +kernel
theorem d_Fb_make_62 : decode c_Fb_make 62 = .ok (.invokevirtual 70, 3) := by decide +kernel
theorem d_Fb_make_65 : decode c_Fb_make 65 = .ok (.iload_n 2, 1) := by decide +kernel
theorem d_Fb_make_66 : decode c_Fb_make 66 = .ok (.ireturn, 1) := by decide +kernel
theorem d_Fb_link_0 : decode c_Fb_link 0 = .ok (.iload_n 1, 1) := by decide +kernel
theorem d_Fb_link_1 : decode c_Fb_link 1 = .ok (.iconst 1, 1) := by decide +kernel
theorem d_Fb_link_2 : decode c_Fb_link 2 = .ok (.if_icmp .lt 10, 3) := by decide +kernel
theorem d_Fb_link_5 : decode c_Fb_link 5 = .ok (.iload_n 1, 1) := by decide +kernel
theorem d_Fb_link_6 : decode c_Fb_link 6 = .ok (.sipush 1000, 3) := by decide +kernel
theorem d_Fb_link_9 : decode c_Fb_link 9 = .ok (.if_icmp .le 13, 3) := by decide +kernel
theorem d_Fb_link_12 : decode c_Fb_link 12 = .ok (.new 50, 3) := by decide +kernel
theorem d_Fb_link_15 : decode c_Fb_link 15 = .ok (.dup, 1) := by decide +kernel
theorem d_Fb_link_16 : decode c_Fb_link 16 = .ok (.ldc 74, 2) := by decide +kernel
theorem d_Fb_link_18 : decode c_Fb_link 18 = .ok (.invokespecial 54, 3) := by decide +kernel
theorem d_Fb_link_21 : decode c_Fb_link 21 = .ok (.athrow, 1) := by decide +kernel
theorem d_Fb_link_22 : decode c_Fb_link 22 = .ok (.aload_n 0, 1) := by decide +kernel
theorem d_Fb_link_23 : decode c_Fb_link 23 = .ok (.getfield 28, 3) := by decide +kernel
theorem d_Fb_link_26 : decode c_Fb_link 26 = .ok (.invokevirtual 57, 3) := by decide +kernel
theorem d_Fb_link_29 : decode c_Fb_link 29 = .ok (.istore_n 3, 1) := by decide +kernel
theorem d_Fb_link_30 : decode c_Fb_link 30 = .ok (.iload_n 3, 1) := by decide +kernel
theorem d_Fb_link_31 : decode c_Fb_link 31 = .ok (.ifCond .ne 13, 3) := by decide +kernel
theorem d_Fb_link_34 : decode c_Fb_link 34 = .ok (.new 61, 3) := by decide +kernel
theorem d_Fb_link_37 : decode c_Fb_link 37 = .ok (.dup, 1) := by decide +kernel
theorem d_Fb_link_38 : decode c_Fb_link 38 = .ok (.ldc 63, 2) := by decide +kernel
theorem d_Fb_link_40 : decode c_Fb_link 40 = .ok (.invokespecial 65, 3) := by decide +kernel
theorem d_Fb_link_43 : decode c_Fb_link 43 = .ok (.athrow, 1) := by decide +kernel
theorem d_Fb_link_44 : decode c_Fb_link 44 = .ok (.iload_n 1, 1) := by decide +kernel
theorem d_Fb_link_45 : decode c_Fb_link 45 = .ok (.bipush 59, 2) := by decide +kernel
theorem d_Fb_link_47 : decode c_Fb_link 47 = .ok (.if_icmp .le 23, 3) := by decide +kernel
theorem d_Fb_link_50 : decode c_Fb_link 50 = .ok (.aload_n 0, 1) := by decide +kernel
theorem d_Fb_link_51 : decode c_Fb_link 51 = .ok (.getfield 19, 3) := by decide +kernel
theorem d_Fb_link_54 : decode c_Fb_link 54 = .ok (.invokevirtual 76, 3) := by decide +kernel
theorem d_Fb_link_57 : decode c_Fb_link 57 = .ok (.ifCond .ne 13, 3) := by decide +kernel
theorem d_Fb_link_60 : decode c_Fb_link 60 = .ok (.new 61, 3) := by decide +kernel
theorem d_Fb_link_63 : decode c_Fb_link 63 = .ok (.dup, 1) := by decide +kernel
theorem d_Fb_link_64 : decode c_Fb_link 64 = .ok (.ldc 79, 2) := by decide +kernel
theorem d_Fb_link_66 : decode c_Fb_link 66 = .ok (.invokespecial 65, 3) := by decide +kernel
theorem d_Fb_link_69 : decode c_Fb_link 69 = .ok (.athrow, 1) := by decide +kernel
theorem d_Fb_link_70 : decode c_Fb_link 70 = .ok (.aload_n 0, 1) := by decide +kernel
theorem d_Fb_link_71 : decode c_Fb_link 71 = .ok (.getfield 28, 3) := by decide +kernel
theorem d_Fb_link_74 : decode c_Fb_link 74 = .ok (.iload_n 3, 1) := by decide +kernel
theorem d_Fb_link_75 : decode c_Fb_link 75 = .ok (.iconst 3, 1) := by decide +kernel
theorem d_Fb_link_76 : decode c_Fb_link 76 = .ok (.iconst 1, 1) := by decide +kernel
theorem d_Fb_link_77 : decode c_Fb_link 77 = .ok (.invokevirtual 66, 3) := by decide +kernel
theorem d_Fb_link_80 : decode c_Fb_link 80 = .ok (.aload_n 0, 1) := by decide +kernel
theorem d_Fb_link_81 : decode c_Fb_link 81 = .ok (.getfield 28, 3) := by decide +kernel
theorem d_Fb_link_84 : decode c_Fb_link 84 = .ok (.iload_n 3, 1) := by decide +kernel
theorem d_Fb_link_85 : decode c_Fb_link 85 = .ok (.iload_n 1, 1) := by decide +kernel
theorem d_Fb_link_86 : decode c_Fb_link 86 = .ok (.invokevirtual 81, 3) := by decide +kernel
theorem d_Fb_link_89 : decode c_Fb_link 89 = .ok (.aload_n 0, 1) := by decide +kernel
theorem d_Fb_link_90 : decode c_Fb_link 90 = .ok (.getfield 46, 3) := by decide +kernel
theorem d_Fb_link_93 : decode c_Fb_link 93 = .ok (.iload_n 3, 1) := by decide +kernel
theorem d_Fb_link_94 : decode c_Fb_link 94 = .ok (.iload_n 1, 1) := by decide +kernel
theorem d_Fb_link_95 : decode c_Fb_link 95 = .ok (.iload_n 2, 1) := by decide +kernel
theorem d_Fb_link_96 : decode c_Fb_link 96 = .ok (.invokevirtual 85, 3) := by decide +kernel
theorem d_Fb_link_99 : decode c_Fb_link 99 = .ok (.iload_n 3, 1) := by decide +kernel
theorem d_Fb_link_100 : decode c_Fb_link 100 = .ok (.ireturn, 1) := by decide +kernel
theorem d_Bo_setTarget_0 : decode c_Bo_setTarget 0 = .ok (.aload_n 0, 1) := by decide +kernel
theorem d_Bo_setTarget_1 : decode c_Bo_setTarget 1 = .ok (.getfield 15, 3) := by decide +kernel
theorem d_Bo_setTarget_4 : decode c_Bo_setTarget 4 = .ok (.iload_n 1, 1) := by decide +kernel
theorem d_Bo_setTarget_5 : decode c_Bo_setTarget 5 = .ok (.invokevirtual 19, 3) := by decide +kernel
theorem d_Bo_setTarget_8 : decode c_Bo_setTarget 8 = .ok (.ifCond .eq 35, 3) := by decide +kernel
theorem d_Bo_setTarget_11 : decode c_Bo_setTarget 11 = .ok (.iconst 0, 1) := by decide +kernel
theorem d_Bo_setTarget_12 : decode c_Bo_setTarget 12 = .ok (.istore 4, 2) := by decide +kernel
theorem d_Bo_setTarget_14 : decode c_Bo_setTarget 14 = .ok (.iload 4, 2) := by decide +kernel
theorem d_Bo_setTarget_16 : decode c_Bo_setTarget 16 = .ok (.iload_n 2, 1) := by decide +kernel
theorem d_Bo_setTarget_17 : decode c_Bo_setTarget 17 = .ok (.if_icmp .ge 25, 3) := by decide +kernel
theorem d_Bo_setTarget_20 : decode c_Bo_setTarget 20 = .ok (.aload_n 0, 1) := by decide +kernel
theorem d_Bo_setTarget_21 : decode c_Bo_setTarget 21 = .ok (.getfield 15, 3) := by decide +kernel
theorem d_Bo_setTarget_24 : decode c_Bo_setTarget 24 = .ok (.iload_n 1, 1) := by decide +kernel
theorem d_Bo_setTarget_25 : decode c_Bo_setTarget 25 = .ok (.iload 4, 2) := by decide +kernel
theorem d_Bo_setTarget_27 : decode c_Bo_setTarget 27 = .ok (.iload_n 3, 1) := by decide +kernel
theorem d_Bo_setTarget_28 : decode c_Bo_setTarget 28 = .ok (.iload 4, 2) := by decide +kernel
theorem d_Bo_setTarget_30 : decode c_Bo_setTarget 30 = .ok (.invokestatic 37, 3) := by decide +kernel
theorem d_Bo_setTarget_33 : decode c_Bo_setTarget 33 = .ok (.invokevirtual 38, 3) := by decide +kernel
theorem d_Bo_setTarget_36 : decode c_Bo_setTarget 36 = .ok (.iinc 4 1, 3) := by decide +kernel
theorem d_Bo_setTarget_39 : decode c_Bo_setTarget 39 = .ok (.goto (-25), 3) := by decide +kernel
theorem d_Bo_setTarget_42 : decode c_Bo_setTarget 42 = .ok (.return_, 1) := by decide +kernel
theorem d_Bo_setTarget_43 : decode c_Bo_setTarget 43 = .ok (.aload_n 0, 1) := by decide +kernel
theorem d_Bo_setTarget_44 : decode c_Bo_setTarget 44 = .ok (.iload_n 1, 1) := by decide +kernel
theorem d_Bo_setTarget_45 : decode c_Bo_setTarget 45 = .ok (.iconst 0, 1) := by decide +kernel
theorem d_Bo_setTarget_46 : decode c_Bo_setTarget 46 = .ok (.invokevirtual 42, 3) := by decide +kernel
theorem d_Bo_setTarget_49 : decode c_Bo_setTarget 49 = .ok (.aload_n 0, 1) := by decide +kernel
theorem d_Bo_setTarget_50 : decode c_Bo_setTarget 50 = .ok (.getfield 15, 3) := by decide +kernel
theorem d_Bo_setTarget_53 : decode c_Bo_setTarget 53 = .ok (.iload_n 1, 1) := by decide +kernel
theorem d_Bo_setTarget_54 : decode c_Bo_setTarget 54 = .ok (.iconst 0, 1) := by decide +kernel
theorem d_Bo_setTarget_55 : decode c_Bo_setTarget 55 = .ok (.invokevirtual 29, 3) := by decide +kernel
theorem d_Bo_setTarget_58 : decode c_Bo_setTarget 58 = .ok (.istore 4, 2) := by decide +kernel
theorem d_Bo_setTarget_60 : decode c_Bo_setTarget 60 = .ok (.iconst 0, 1) := by decide +kernel
theorem d_Bo_setTarget_61 : decode c_Bo_setTarget 61 = .ok (.istore 5, 2) := by decide +kernel
theorem d_Bo_setTarget_63 : decode c_Bo_setTarget 63 = .ok (.iload 5, 2) := by decide +kernel
theorem d_Bo_setTarget_65 : decode c_Bo_setTarget 65 = .ok (.iload_n 2, 1) := by decide +kernel
theorem d_Bo_setTarget_66 : decode c_Bo_setTarget 66 = .ok (.if_icmp .ge 26, 3) := by decide +kernel
theorem d_Bo_setTarget_69 : decode c_Bo_setTarget 69 = .ok (.aload_n 0, 1) := by decide +kernel
theorem d_Bo_setTarget_70 : decode c_Bo_setTarget 70 = .ok (.getfield 9, 3) := by decide +kernel
theorem d_Bo_setTarget_73 : decode c_Bo_setTarget 73 = .ok (.iload 4, 2) := by decide +kernel
theorem d_Bo_setTarget_75 : decode c_Bo_setTarget 75 = .ok (.iload 5, 2) := by decide +kernel
theorem d_Bo_setTarget_77 : decode c_Bo_setTarget 77 = .ok (.iload_n 3, 1) := by decide +kernel
theorem d_Bo_setTarget_78 : decode c_Bo_setTarget 78 = .ok (.iload 5, 2) := by decide +kernel
theorem d_Bo_setTarget_80 : decode c_Bo_setTarget 80 = .ok (.invokestatic 37, 3) := by decide +kernel
theorem d_Bo_setTarget_83 : decode c_Bo_setTarget 83 = .ok (.invokevirtual 46, 3) := by decide +kernel
theorem d_Bo_setTarget_86 : decode c_Bo_setTarget 86 = .ok (.iinc 5 1, 3) := by decide +kernel
theorem d_Bo_setTarget_89 : decode c_Bo_setTarget 89 = .ok (.goto (-26), 3) := by decide +kernel
theorem d_Bo_setTarget_92 : decode c_Bo_setTarget 92 = .ok (.return_, 1) := by decide +kernel
theorem d_Bo_targetByte_0 : decode c_Bo_targetByte 0 = .ok (.iconst 1, 1) := by decide +kernel
theorem d_Bo_targetByte_1 : decode c_Bo_targetByte 1 = .ok (.iload_n 0, 1) := by decide +kernel
theorem d_Bo_targetByte_2 : decode c_Bo_targetByte 2 = .ok (.iload_n 1, 1) := by decide +kernel
theorem d_Bo_targetByte_3 : decode c_Bo_targetByte 3 = .ok (.iadd, 1) := by decide +kernel
theorem d_Bo_targetByte_4 : decode c_Bo_targetByte 4 = .ok (.sipush 255, 3) := by decide +kernel
theorem d_Bo_targetByte_7 : decode c_Bo_targetByte 7 = .ok (.invokestatic 90, 3) := by decide +kernel
theorem d_Bo_targetByte_10 : decode c_Bo_targetByte 10 = .ok (.iadd, 1) := by decide +kernel
theorem d_Bo_targetByte_11 : decode c_Bo_targetByte 11 = .ok (.ireturn, 1) := by decide +kernel
theorem d_Bo_takeBlock_0 : decode c_Bo_takeBlock 0 = .ok (.aload_n 0, 1) := by decide +kernel
theorem d_Bo_takeBlock_1 : decode c_Bo_takeBlock 1 = .ok (.getfield 15, 3) := by decide +kernel
theorem d_Bo_takeBlock_4 : decode c_Bo_takeBlock 4 = .ok (.iload_n 1, 1) := by decide +kernel
theorem d_Bo_takeBlock_5 : decode c_Bo_takeBlock 5 = .ok (.iload_n 2, 1) := by decide +kernel
theorem d_Bo_takeBlock_6 : decode c_Bo_takeBlock 6 = .ok (.iconst 1, 1) := by decide +kernel
theorem d_Bo_takeBlock_7 : decode c_Bo_takeBlock 7 = .ok (.isub, 1) := by decide +kernel
theorem d_Bo_takeBlock_8 : decode c_Bo_takeBlock 8 = .ok (.invokevirtual 29, 3) := by decide +kernel
theorem d_Bo_takeBlock_11 : decode c_Bo_takeBlock 11 = .ok (.istore_n 3, 1) := by decide +kernel
theorem d_Bo_takeBlock_12 : decode c_Bo_takeBlock 12 = .ok (.iload_n 3, 1) := by decide +kernel
theorem d_Bo_takeBlock_13 : decode c_Bo_takeBlock 13 = .ok (.ifCond .ne 7, 3) := by decide +kernel
theorem d_Bo_takeBlock_16 : decode c_Bo_takeBlock 16 = .ok (.iconst 4, 1) := by decide +kernel
theorem d_Bo_takeBlock_17 : decode c_Bo_takeBlock 17 = .ok (.goto 6, 3) := by decide +kernel
theorem d_Bo_takeBlock_20 : decode c_Bo_takeBlock 20 = .ok (.iload_n 3, 1) := by decide +kernel
theorem d_Bo_takeBlock_21 : decode c_Bo_takeBlock 21 = .ok (.iconst 1, 1) := by decide +kernel
theorem d_Bo_takeBlock_22 : decode c_Bo_takeBlock 22 = .ok (.iadd, 1) := by decide +kernel
theorem d_Bo_takeBlock_23 : decode c_Bo_takeBlock 23 = .ok (.istore 4, 2) := by decide +kernel
theorem d_Bo_takeBlock_25 : decode c_Bo_takeBlock 25 = .ok (.aload_n 0, 1) := by decide +kernel
theorem d_Bo_takeBlock_26 : decode c_Bo_takeBlock 26 = .ok (.getfield 9, 3) := by decide +kernel
theorem d_Bo_takeBlock_29 : decode c_Bo_takeBlock 29 = .ok (.iload 4, 2) := by decide +kernel
theorem d_Bo_takeBlock_31 : decode c_Bo_takeBlock 31 = .ok (.invokevirtual 84, 3) := by decide +kernel
theorem d_Bo_takeBlock_34 : decode c_Bo_takeBlock 34 = .ok (.istore 5, 2) := by decide +kernel
theorem d_Bo_takeBlock_36 : decode c_Bo_takeBlock 36 = .ok (.iload 5, 2) := by decide +kernel
theorem d_Bo_takeBlock_38 : decode c_Bo_takeBlock 38 = .ok (.ifCond .eq 14, 3) := by decide +kernel
theorem d_Bo_takeBlock_41 : decode c_Bo_takeBlock 41 = .ok (.aload_n 0, 1) := by decide +kernel
theorem d_Bo_takeBlock_42 : decode c_Bo_takeBlock 42 = .ok (.getfield 15, 3) := by decide +kernel
theorem d_Bo_takeBlock_45 : decode c_Bo_takeBlock 45 = .ok (.iload_n 1, 1) := by decide +kernel
theorem d_Bo_takeBlock_46 : decode c_Bo_takeBlock 46 = .ok (.iload_n 2, 1) := by decide +kernel
theorem d_Bo_takeBlock_47 : decode c_Bo_takeBlock 47 = .ok (.iload 5, 2) := by decide +kernel
theorem d_Bo_takeBlock_49 : decode c_Bo_takeBlock 49 = .ok (.invokevirtual 87, 3) := by decide +kernel
theorem d_Bo_takeBlock_52 : decode c_Bo_takeBlock 52 = .ok (.return_, 1) := by decide +kernel
theorem d_Fb_write_0 : decode c_Fb_write 0 = .ok (.aload_n 0, 1) := by decide +kernel
theorem d_Fb_write_1 : decode c_Fb_write 1 = .ok (.iload_n 1, 1) := by decide +kernel
theorem d_Fb_write_2 : decode c_Fb_write 2 = .ok (.iload_n 2, 1) := by decide +kernel
theorem d_Fb_write_3 : decode c_Fb_write 3 = .ok (.iload 5, 2) := by decide +kernel
theorem d_Fb_write_5 : decode c_Fb_write 5 = .ok (.bipush 8, 2) := by decide +kernel
theorem d_Fb_write_7 : decode c_Fb_write 7 = .ok (.invokevirtual 88, 3) := by decide +kernel
theorem d_Fb_write_10 : decode c_Fb_write 10 = .ok (.aload_n 0, 1) := by decide +kernel
theorem d_Fb_write_11 : decode c_Fb_write 11 = .ok (.iload_n 1, 1) := by decide +kernel
theorem d_Fb_write_12 : decode c_Fb_write 12 = .ok (.iload_n 2, 1) := by decide +kernel
theorem d_Fb_write_13 : decode c_Fb_write 13 = .ok (.iload 5, 2) := by decide +kernel
theorem d_Fb_write_15 : decode c_Fb_write 15 = .ok (.invokevirtual 92, 3) := by decide +kernel
theorem d_Fb_write_18 : decode c_Fb_write 18 = .ok (.aload_n 0, 1) := by decide +kernel
theorem d_Fb_write_19 : decode c_Fb_write 19 = .ok (.getfield 46, 3) := by decide +kernel
theorem d_Fb_write_22 : decode c_Fb_write 22 = .ok (.iload_n 1, 1) := by decide +kernel
theorem d_Fb_write_23 : decode c_Fb_write 23 = .ok (.iload_n 2, 1) := by decide +kernel
theorem d_Fb_write_24 : decode c_Fb_write 24 = .ok (.iload 5, 2) := by decide +kernel
theorem d_Fb_write_26 : decode c_Fb_write 26 = .ok (.invokevirtual 95, 3) := by decide +kernel
theorem d_Fb_write_29 : decode c_Fb_write 29 = .ok (.aload_n 0, 1) := by decide +kernel
theorem d_Fb_write_30 : decode c_Fb_write 30 = .ok (.getfield 46, 3) := by decide +kernel
theorem d_Fb_write_33 : decode c_Fb_write 33 = .ok (.iload_n 1, 1) := by decide +kernel
theorem d_Fb_write_34 : decode c_Fb_write 34 = .ok (.iload_n 2, 1) := by decide +kernel
theorem d_Fb_write_35 : decode c_Fb_write 35 = .ok (.lload_n 3, 1) := by decide +kernel
theorem d_Fb_write_36 : decode c_Fb_write 36 = .ok (.iload 5, 2) := by decide +kernel
theorem d_Fb_write_38 : decode c_Fb_write 38 = .ok (.invokevirtual 98, 3) := by decide +kernel
theorem d_Fb_write_41 : decode c_Fb_write 41 = .ok (.aload_n 0, 1) := by decide +kernel
theorem d_Fb_write_42 : decode c_Fb_write 42 = .ok (.getfield 28, 3) := by decide +kernel
theorem d_Fb_write_45 : decode c_Fb_write 45 = .ok (.iload_n 1, 1) := by decide +kernel
theorem d_Fb_write_46 : decode c_Fb_write 46 = .ok (.invokevirtual 102, 3) := by decide +kernel
theorem d_Fb_write_49 : decode c_Fb_write 49 = .ok (.ireturn, 1) := by decide +kernel
theorem d_Fb_checkSpan_0 : decode c_Fb_checkSpan 0 = .ok (.aload_n 0, 1) := by decide +kernel
theorem d_Fb_checkSpan_1 : decode c_Fb_checkSpan 1 = .ok (.iload_n 1, 1) := by decide +kernel
theorem d_Fb_checkSpan_2 : decode c_Fb_checkSpan 2 = .ok (.invokevirtual 121, 3) := by decide +kernel
theorem d_Fb_checkSpan_5 : decode c_Fb_checkSpan 5 = .ok (.iload_n 3, 1) := by decide +kernel
theorem d_Fb_checkSpan_6 : decode c_Fb_checkSpan 6 = .ok (.iconst 1, 1) := by decide +kernel
theorem d_Fb_checkSpan_7 : decode c_Fb_checkSpan 7 = .ok (.if_icmp .lt 9, 3) := by decide +kernel
theorem d_Fb_checkSpan_10 : decode c_Fb_checkSpan 10 = .ok (.iload_n 3, 1) := by decide +kernel
theorem d_Fb_checkSpan_11 : decode c_Fb_checkSpan 11 = .ok (.iload 4, 2) := by decide +kernel
theorem d_Fb_checkSpan_13 : decode c_Fb_checkSpan 13 = .ok (.if_icmp .le 13, 3) := by decide +kernel
theorem d_Fb_checkSpan_16 : decode c_Fb_checkSpan 16 = .ok (.new 50, 3) := by decide +kernel
theorem d_Fb_checkSpan_19 : decode c_Fb_checkSpan 19 = .ok (.dup, 1) := by decide +kernel
theorem d_Fb_checkSpan_20 : decode c_Fb_checkSpan 20 = .ok (.ldc 189, 2) := by decide +kernel
theorem d_Fb_checkSpan_22 : decode c_Fb_checkSpan 22 = .ok (.invokespecial 54, 3) := by decide +kernel
theorem d_Fb_checkSpan_25 : decode c_Fb_checkSpan 25 = .ok (.athrow, 1) := by decide +kernel
theorem d_Fb_checkSpan_26 : decode c_Fb_checkSpan 26 = .ok (.iload_n 2, 1) := by decide +kernel
theorem d_Fb_checkSpan_27 : decode c_Fb_checkSpan 27 = .ok (.ifCond .lt 12, 3) := by decide +kernel
theorem d_Fb_checkSpan_30 : decode c_Fb_checkSpan 30 = .ok (.iload_n 2, 1) := by decide +kernel
theorem d_Fb_checkSpan_31 : decode c_Fb_checkSpan 31 = .ok (.sipush 15360, 3) := by decide +kernel
theorem d_Fb_checkSpan_34 : decode c_Fb_checkSpan 34 = .ok (.iload_n 3, 1) := by decide +kernel
theorem d_Fb_checkSpan_35 : decode c_Fb_checkSpan 35 = .ok (.isub, 1) := by decide +kernel
theorem d_Fb_checkSpan_36 : decode c_Fb_checkSpan 36 = .ok (.if_icmp .le 13, 3) := by decide +kernel
theorem d_Fb_checkSpan_39 : decode c_Fb_checkSpan 39 = .ok (.new 50, 3) := by decide +kernel
theorem d_Fb_checkSpan_42 : decode c_Fb_checkSpan 42 = .ok (.dup, 1) := by decide +kernel
theorem d_Fb_checkSpan_43 : decode c_Fb_checkSpan 43 = .ok (.ldc 191, 2) := by decide +kernel
theorem d_Fb_checkSpan_45 : decode c_Fb_checkSpan 45 = .ok (.invokespecial 54, 3) := by decide +kernel
theorem d_Fb_checkSpan_48 : decode c_Fb_checkSpan 48 = .ok (.athrow, 1) := by decide +kernel
theorem d_Fb_checkSpan_49 : decode c_Fb_checkSpan 49 = .ok (.return_, 1) := by decide +kernel
theorem d_Fb_checkPlain_0 : decode c_Fb_checkPlain 0 = .ok (.aload_n 0, 1) := by decide +kernel
theorem d_Fb_checkPlain_1 : decode c_Fb_checkPlain 1 = .ok (.getfield 28, 3) := by decide +kernel
theorem d_Fb_checkPlain_4 : decode c_Fb_checkPlain 4 = .ok (.iload_n 1, 1) := by decide +kernel
theorem d_Fb_checkPlain_5 : decode c_Fb_checkPlain 5 = .ok (.invokevirtual 154, 3) := by decide +kernel
theorem d_Fb_checkPlain_8 : decode c_Fb_checkPlain 8 = .ok (.iconst 1, 1) := by decide +kernel
theorem d_Fb_checkPlain_9 : decode c_Fb_checkPlain 9 = .ok (.if_icmp .eq 13, 3) := by decide +kernel
theorem d_Fb_checkPlain_12 : decode c_Fb_checkPlain 12 = .ok (.new 50, 3) := by decide +kernel
theorem d_Fb_checkPlain_15 : decode c_Fb_checkPlain 15 = .ok (.dup, 1) := by decide +kernel
theorem d_Fb_checkPlain_16 : decode c_Fb_checkPlain 16 = .ok (.ldc 187, 2) := by decide +kernel
theorem d_Fb_checkPlain_18 : decode c_Fb_checkPlain 18 = .ok (.invokespecial 54, 3) := by decide +kernel
theorem d_Fb_checkPlain_21 : decode c_Fb_checkPlain 21 = .ok (.athrow, 1) := by decide +kernel
theorem d_Fb_checkPlain_22 : decode c_Fb_checkPlain 22 = .ok (.return_, 1) := by decide +kernel
theorem d_Fb_checkFreeBlocks_0 : decode c_Fb_checkFreeBlocks 0 = .ok (.aload_n 0, 1) := by decide +kernel
theorem d_Fb_checkFreeBlocks_1 : decode c_Fb_checkFreeBlocks 1 = .ok (.getfield 46, 3) := by decide +kernel
theorem d_Fb_checkFreeBlocks_4 : decode c_Fb_checkFreeBlocks 4 = .ok (.iload_n 1, 1) := by decide +kernel
theorem d_Fb_checkFreeBlocks_5 : decode c_Fb_checkFreeBlocks 5 = .ok (.iload_n 2, 1) := by decide +kernel
theorem d_Fb_checkFreeBlocks_6 : decode c_Fb_checkFreeBlocks 6 = .ok (.iload_n 3, 1) := by decide +kernel
theorem d_Fb_checkFreeBlocks_7 : decode c_Fb_checkFreeBlocks 7 = .ok (.invokevirtual 193, 3) := by decide +kernel
theorem d_Fb_checkFreeBlocks_10 : decode c_Fb_checkFreeBlocks 10 = .ok (.aload_n 0, 1) := by decide +kernel
theorem d_Fb_checkFreeBlocks_11 : decode c_Fb_checkFreeBlocks 11 = .ok (.getfield 19, 3) := by decide +kernel
theorem d_Fb_checkFreeBlocks_14 : decode c_Fb_checkFreeBlocks 14 = .ok (.invokevirtual 76, 3) := by decide +kernel
theorem d_Fb_checkFreeBlocks_17 : decode c_Fb_checkFreeBlocks 17 = .ok (.if_icmp .le 13, 3) := by decide +kernel
theorem d_Fb_checkFreeBlocks_20 : decode c_Fb_checkFreeBlocks 20 = .ok (.new 61, 3) := by decide +kernel
theorem d_Fb_checkFreeBlocks_23 : decode c_Fb_checkFreeBlocks 23 = .ok (.dup, 1) := by decide +kernel
theorem d_Fb_checkFreeBlocks_24 : decode c_Fb_checkFreeBlocks 24 = .ok (.ldc 197, 2) := by decide +kernel
theorem d_Fb_checkFreeBlocks_26 : decode c_Fb_checkFreeBlocks 26 = .ok (.invokespecial 65, 3) := by decide +kernel
theorem d_Fb_checkFreeBlocks_29 : decode c_Fb_checkFreeBlocks 29 = .ok (.athrow, 1) := by decide +kernel
theorem d_Fb_checkFreeBlocks_30 : decode c_Fb_checkFreeBlocks 30 = .ok (.return_, 1) := by decide +kernel
theorem d_Bo_blocksWanted_0 : decode c_Bo_blocksWanted 0 = .ok (.iconst 0, 1) := by decide +kernel
theorem d_Bo_blocksWanted_1 : decode c_Bo_blocksWanted 1 = .ok (.istore 4, 2) := by decide +kernel
theorem d_Bo_blocksWanted_3 : decode c_Bo_blocksWanted 3 = .ok (.iload_n 2, 1) := by decide +kernel
theorem d_Bo_blocksWanted_4 : decode c_Bo_blocksWanted 4 = .ok (.sipush 1024, 3) := by decide +kernel
theorem d_Bo_blocksWanted_7 : decode c_Bo_blocksWanted 7 = .ok (.idiv, 1) := by decide +kernel
theorem d_Bo_blocksWanted_8 : decode c_Bo_blocksWanted 8 = .ok (.istore 5, 2) := by decide +kernel
theorem d_Bo_blocksWanted_10 : decode c_Bo_blocksWanted 10 = .ok (.iload 5, 2) := by decide +kernel
theorem d_Bo_blocksWanted_12 : decode c_Bo_blocksWanted 12 = .ok (.iload_n 2, 1) := by decide +kernel
theorem d_Bo_blocksWanted_13 : decode c_Bo_blocksWanted 13 = .ok (.iload_n 3, 1) := by decide +kernel
theorem d_Bo_blocksWanted_14 : decode c_Bo_blocksWanted 14 = .ok (.invokestatic 49, 3) := by decide +kernel
theorem d_Bo_blocksWanted_17 : decode c_Bo_blocksWanted 17 = .ok (.if_icmp .gt 25, 3) := by decide +kernel
theorem d_Bo_blocksWanted_20 : decode c_Bo_blocksWanted 20 = .ok (.aload_n 0, 1) := by decide +kernel
theorem d_Bo_blocksWanted_21 : decode c_Bo_blocksWanted 21 = .ok (.getfield 15, 3) := by decide +kernel
theorem d_Bo_blocksWanted_24 : decode c_Bo_blocksWanted 24 = .ok (.iload_n 1, 1) := by decide +kernel
theorem d_Bo_blocksWanted_25 : decode c_Bo_blocksWanted 25 = .ok (.iload 5, 2) := by decide +kernel
theorem d_Bo_blocksWanted_27 : decode c_Bo_blocksWanted 27 = .ok (.invokevirtual 29, 3) := by decide +kernel
theorem d_Bo_blocksWanted_30 : decode c_Bo_blocksWanted 30 = .ok (.ifCond .ne 6, 3) := by decide +kernel
theorem d_Bo_blocksWanted_33 : decode c_Bo_blocksWanted 33 = .ok (.iinc 4 1, 3) := by decide +kernel
theorem d_Bo_blocksWanted_36 : decode c_Bo_blocksWanted 36 = .ok (.iinc 5 1, 3) := by decide +kernel
theorem d_Bo_blocksWanted_39 : decode c_Bo_blocksWanted 39 = .ok (.goto (-29), 3) := by decide +kernel
theorem d_Bo_blocksWanted_42 : decode c_Bo_blocksWanted 42 = .ok (.iload 4, 2) := by decide +kernel
theorem d_Bo_blocksWanted_44 : decode c_Bo_blocksWanted 44 = .ok (.ireturn, 1) := by decide +kernel
theorem d_Bo_lastPiece_0 : decode c_Bo_lastPiece 0 = .ok (.iload_n 0, 1) := by decide +kernel
theorem d_Bo_lastPiece_1 : decode c_Bo_lastPiece 1 = .ok (.iload_n 1, 1) := by decide +kernel
theorem d_Bo_lastPiece_2 : decode c_Bo_lastPiece 2 = .ok (.iadd, 1) := by decide +kernel
theorem d_Bo_lastPiece_3 : decode c_Bo_lastPiece 3 = .ok (.iconst 1, 1) := by decide +kernel
theorem d_Bo_lastPiece_4 : decode c_Bo_lastPiece 4 = .ok (.isub, 1) := by decide +kernel
theorem d_Bo_lastPiece_5 : decode c_Bo_lastPiece 5 = .ok (.sipush 1024, 3) := by decide +kernel
theorem d_Bo_lastPiece_8 : decode c_Bo_lastPiece 8 = .ok (.idiv, 1) := by decide +kernel
theorem d_Bo_lastPiece_9 : decode c_Bo_lastPiece 9 = .ok (.ireturn, 1) := by decide +kernel
theorem d_Bo_prepare_0 : decode c_Bo_prepare 0 = .ok (.iload_n 2, 1) := by decide +kernel
theorem d_Bo_prepare_1 : decode c_Bo_prepare 1 = .ok (.sipush 1024, 3) := by decide +kernel
theorem d_Bo_prepare_4 : decode c_Bo_prepare 4 = .ok (.idiv, 1) := by decide +kernel
theorem d_Bo_prepare_5 : decode c_Bo_prepare 5 = .ok (.istore 4, 2) := by decide +kernel
theorem d_Bo_prepare_7 : decode c_Bo_prepare 7 = .ok (.iload 4, 2) := by decide +kernel
theorem d_Bo_prepare_9 : decode c_Bo_prepare 9 = .ok (.iload_n 2, 1) := by decide +kernel
theorem d_Bo_prepare_10 : decode c_Bo_prepare 10 = .ok (.iload_n 3, 1) := by decide +kernel
theorem d_Bo_prepare_11 : decode c_Bo_prepare 11 = .ok (.invokestatic 49, 3) := by decide +kernel
theorem d_Bo_prepare_14 : decode c_Bo_prepare 14 = .ok (.if_icmp .gt 29, 3) := by decide +kernel
theorem d_Bo_prepare_17 : decode c_Bo_prepare 17 = .ok (.aload_n 0, 1) := by decide +kernel
theorem d_Bo_prepare_18 : decode c_Bo_prepare 18 = .ok (.getfield 15, 3) := by decide +kernel
theorem d_Bo_prepare_21 : decode c_Bo_prepare 21 = .ok (.iload_n 1, 1) := by decide +kernel
theorem d_Bo_prepare_22 : decode c_Bo_prepare 22 = .ok (.iload 4, 2) := by decide +kernel
theorem d_Bo_prepare_24 : decode c_Bo_prepare 24 = .ok (.invokevirtual 29, 3) := by decide +kernel
theorem d_Bo_prepare_27 : decode c_Bo_prepare 27 = .ok (.ifCond .ne 10, 3) := by decide +kernel
theorem d_Bo_prepare_30 : decode c_Bo_prepare 30 = .ok (.aload_n 0, 1) := by decide +kernel
theorem d_Bo_prepare_31 : decode c_Bo_prepare 31 = .ok (.iload_n 1, 1) := by decide +kernel
theorem d_Bo_prepare_32 : decode c_Bo_prepare 32 = .ok (.iload 4, 2) := by decide +kernel
theorem d_Bo_prepare_34 : decode c_Bo_prepare 34 = .ok (.invokevirtual 42, 3) := by decide +kernel
theorem d_Bo_prepare_37 : decode c_Bo_prepare 37 = .ok (.iinc 4 1, 3) := by decide +kernel
theorem d_Bo_prepare_40 : decode c_Bo_prepare 40 = .ok (.goto (-33), 3) := by decide +kernel
theorem d_Bo_prepare_43 : decode c_Bo_prepare 43 = .ok (.aload_n 0, 1) := by decide +kernel
theorem d_Bo_prepare_44 : decode c_Bo_prepare 44 = .ok (.getfield 15, 3) := by decide +kernel
theorem d_Bo_prepare_47 : decode c_Bo_prepare 47 = .ok (.iload_n 1, 1) := by decide +kernel
theorem d_Bo_prepare_48 : decode c_Bo_prepare 48 = .ok (.aload_n 0, 1) := by decide +kernel
theorem d_Bo_prepare_49 : decode c_Bo_prepare 49 = .ok (.getfield 15, 3) := by decide +kernel
theorem d_Bo_prepare_52 : decode c_Bo_prepare 52 = .ok (.iload_n 1, 1) := by decide +kernel
theorem d_Bo_prepare_53 : decode c_Bo_prepare 53 = .ok (.invokevirtual 52, 3) := by decide +kernel
theorem d_Bo_prepare_56 : decode c_Bo_prepare 56 = .ok (.iload_n 2, 1) := by decide +kernel
theorem d_Bo_prepare_57 : decode c_Bo_prepare 57 = .ok (.iload_n 3, 1) := by decide +kernel
theorem d_Bo_prepare_58 : decode c_Bo_prepare 58 = .ok (.iadd, 1) := by decide +kernel
theorem d_Bo_prepare_59 : decode c_Bo_prepare 59 = .ok (.invokestatic 56, 3) := by decide +kernel
theorem d_Bo_prepare_62 : decode c_Bo_prepare 62 = .ok (.invokevirtual 61, 3) := by decide +kernel
theorem d_Bo_prepare_65 : decode c_Bo_prepare 65 = .ok (.return_, 1) := by decide +kernel
theorem d_Bo_setBytes_0 : decode c_Bo_setBytes 0 = .ok (.lload_n 3, 1) := by decide +kernel
theorem d_Bo_setBytes_1 : decode c_Bo_setBytes 1 = .ok (.lstore 6, 2) := by decide +kernel
theorem d_Bo_setBytes_3 : decode c_Bo_setBytes 3 = .ok (.iload_n 2, 1) := by decide +kernel
theorem d_Bo_setBytes_4 : decode c_Bo_setBytes 4 = .ok (.iload 5, 2) := by decide +kernel
theorem d_Bo_setBytes_6 : decode c_Bo_setBytes 6 = .ok (.iadd, 1) := by decide +kernel
theorem d_Bo_setBytes_7 : decode c_Bo_setBytes 7 = .ok (.iconst 1, 1) := by decide +kernel
theorem d_Bo_setBytes_8 : decode c_Bo_setBytes 8 = .ok (.isub, 1) := by decide +kernel
theorem d_Bo_setBytes_9 : decode c_Bo_setBytes 9 = .ok (.istore 8, 2) := by decide +kernel
theorem d_Bo_setBytes_11 : decode c_Bo_setBytes 11 = .ok (.iload 8, 2) := by decide +kernel
theorem d_Bo_setBytes_13 : decode c_Bo_setBytes 13 = .ok (.iload_n 2, 1) := by decide +kernel
theorem d_Bo_setBytes_14 : decode c_Bo_setBytes 14 = .ok (.if_icmp .lt 50, 3) := by decide +kernel
theorem d_Bo_setBytes_17 : decode c_Bo_setBytes 17 = .ok (.aload_n 0, 1) := by decide +kernel
theorem d_Bo_setBytes_18 : decode c_Bo_setBytes 18 = .ok (.getfield 15, 3) := by decide +kernel
theorem d_Bo_setBytes_21 : decode c_Bo_setBytes 21 = .ok (.iload_n 1, 1) := by decide +kernel
theorem d_Bo_setBytes_22 : decode c_Bo_setBytes 22 = .ok (.iload 8, 2) := by decide +kernel
theorem d_Bo_setBytes_24 : decode c_Bo_setBytes 24 = .ok (.sipush 1024, 3) := by decide +kernel
theorem d_Bo_setBytes_27 : decode c_Bo_setBytes 27 = .ok (.idiv, 1) := by decide +kernel
theorem d_Bo_setBytes_28 : decode c_Bo_setBytes 28 = .ok (.invokevirtual 29, 3) := by decide +kernel
theorem d_Bo_setBytes_31 : decode c_Bo_setBytes 31 = .ok (.istore 9, 2) := by decide +kernel
theorem d_Bo_setBytes_33 : decode c_Bo_setBytes 33 = .ok (.aload_n 0, 1) := by decide +kernel
theorem d_Bo_setBytes_34 : decode c_Bo_setBytes 34 = .ok (.getfield 9, 3) := by decide +kernel
theorem d_Bo_setBytes_37 : decode c_Bo_setBytes 37 = .ok (.iload 9, 2) := by decide +kernel
theorem d_Bo_setBytes_39 : decode c_Bo_setBytes 39 = .ok (.iload 8, 2) := by decide +kernel
theorem d_Bo_setBytes_41 : decode c_Bo_setBytes 41 = .ok (.sipush 1024, 3) := by decide +kernel
theorem d_Bo_setBytes_44 : decode c_Bo_setBytes 44 = .ok (.irem, 1) := by decide +kernel
theorem d_Bo_setBytes_45 : decode c_Bo_setBytes 45 = .ok (.lload 6, 2) := by decide +kernel
theorem d_Bo_setBytes_47 : decode c_Bo_setBytes 47 = .ok (.l2i, 1) := by decide +kernel
theorem d_Bo_setBytes_48 : decode c_Bo_setBytes 48 = .ok (.invokevirtual 46, 3) := by decide +kernel
theorem d_Bo_setBytes_51 : decode c_Bo_setBytes 51 = .ok (.lload 6, 2) := by decide +kernel
theorem d_Bo_setBytes_53 : decode c_Bo_setBytes 53 = .ok (.bipush 8, 2) := by decide +kernel
theorem d_Bo_setBytes_55 : decode c_Bo_setBytes 55 = .ok (.lushr, 1) := by decide +kernel
theorem d_Bo_setBytes_56 : decode c_Bo_setBytes 56 = .ok (.lstore 6, 2) := by decide +kernel
theorem d_Bo_setBytes_58 : decode c_Bo_setBytes 58 = .ok (.iinc 8 (-1), 3) := by decide +kernel
theorem d_Bo_setBytes_61 : decode c_Bo_setBytes 61 = .ok (.goto (-50), 3) := by decide +kernel
theorem d_Bo_setBytes_64 : decode c_Bo_setBytes 64 = .ok (.return_, 1) := by decide +kernel
theorem d_Fb_paint_0 : decode c_Fb_paint 0 = .ok (.aload_n 0, 1) := by decide +kernel
theorem d_Fb_paint_1 : decode c_Fb_paint 1 = .ok (.iload_n 1, 1) := by decide +kernel
theorem d_Fb_paint_2 : decode c_Fb_paint 2 = .ok (.iload_n 2, 1) := by decide +kernel
theorem d_Fb_paint_3 : decode c_Fb_paint 3 = .ok (.iload_n 3, 1) := by decide +kernel
theorem d_Fb_paint_4 : decode c_Fb_paint 4 = .ok (.sipush 4000, 3) := by decide +kernel
theorem d_Fb_paint_7 : decode c_Fb_paint 7 = .ok (.invokevirtual 88, 3) := by decide +kernel
theorem d_Fb_paint_10 : decode c_Fb_paint 10 = .ok (.aload_n 0, 1) := by decide +kernel
theorem d_Fb_paint_11 : decode c_Fb_paint 11 = .ok (.iload_n 1, 1) := by decide +kernel
theorem d_Fb_paint_12 : decode c_Fb_paint 12 = .ok (.iload_n 2, 1) := by decide +kernel
theorem d_Fb_paint_13 : decode c_Fb_paint 13 = .ok (.iload_n 3, 1) := by decide +kernel
theorem d_Fb_paint_14 : decode c_Fb_paint 14 = .ok (.invokevirtual 92, 3) := by decide +kernel
theorem d_Fb_paint_17 : decode c_Fb_paint 17 = .ok (.aload_n 0, 1) := by decide +kernel
theorem d_Fb_paint_18 : decode c_Fb_paint 18 = .ok (.getfield 46, 3) := by decide +kernel
theorem d_Fb_paint_21 : decode c_Fb_paint 21 = .ok (.iload_n 1, 1) := by decide +kernel
theorem d_Fb_paint_22 : decode c_Fb_paint 22 = .ok (.iload_n 2, 1) := by decide +kernel
theorem d_Fb_paint_23 : decode c_Fb_paint 23 = .ok (.iload_n 3, 1) := by decide +kernel
theorem d_Fb_paint_24 : decode c_Fb_paint 24 = .ok (.invokevirtual 95, 3) := by decide +kernel
theorem d_Fb_paint_27 : decode c_Fb_paint 27 = .ok (.aload_n 0, 1) := by decide +kernel
theorem d_Fb_paint_28 : decode c_Fb_paint 28 = .ok (.getfield 46, 3) := by decide +kernel
theorem d_Fb_paint_31 : decode c_Fb_paint 31 = .ok (.iload_n 1, 1) := by decide +kernel
theorem d_Fb_paint_32 : decode c_Fb_paint 32 = .ok (.iload_n 2, 1) := by decide +kernel
theorem d_Fb_paint_33 : decode c_Fb_paint 33 = .ok (.iload_n 3, 1) := by decide +kernel
theorem d_Fb_paint_34 : decode c_Fb_paint 34 = .ok (.iload 4, 2) := by decide +kernel
theorem d_Fb_paint_36 : decode c_Fb_paint 36 = .ok (.invokevirtual 106, 3) := by decide +kernel
theorem d_Fb_paint_39 : decode c_Fb_paint 39 = .ok (.aload_n 0, 1) := by decide +kernel
theorem d_Fb_paint_40 : decode c_Fb_paint 40 = .ok (.getfield 28, 3) := by decide +kernel
theorem d_Fb_paint_43 : decode c_Fb_paint 43 = .ok (.iload_n 1, 1) := by decide +kernel
theorem d_Fb_paint_44 : decode c_Fb_paint 44 = .ok (.invokevirtual 102, 3) := by decide +kernel
theorem d_Fb_paint_47 : decode c_Fb_paint 47 = .ok (.ireturn, 1) := by decide +kernel
theorem d_Bo_setPattern_0 : decode c_Bo_setPattern 0 = .ok (.iload_n 2, 1) := by decide +kernel
theorem d_Bo_setPattern_1 : decode c_Bo_setPattern 1 = .ok (.sipush 1024, 3) := by decide +kernel
theorem d_Bo_setPattern_4 : decode c_Bo_setPattern 4 = .ok (.idiv, 1) := by decide +kernel
theorem d_Bo_setPattern_5 : decode c_Bo_setPattern 5 = .ok (.istore 5, 2) := by decide +kernel
theorem d_Bo_setPattern_7 : decode c_Bo_setPattern 7 = .ok (.iload 5, 2) := by decide +kernel
theorem d_Bo_setPattern_9 : decode c_Bo_setPattern 9 = .ok (.iload_n 2, 1) := by decide +kernel
theorem d_Bo_setPattern_10 : decode c_Bo_setPattern 10 = .ok (.iload_n 3, 1) := by decide +kernel
theorem d_Bo_setPattern_11 : decode c_Bo_setPattern 11 = .ok (.invokestatic 49, 3) := by decide +kernel
theorem d_Bo_setPattern_14 : decode c_Bo_setPattern 14 = .ok (.if_icmp .gt 79, 3) := by decide +kernel
theorem d_Bo_setPattern_17 : decode c_Bo_setPattern 17 = .ok (.iload 5, 2) := by decide +kernel
theorem d_Bo_setPattern_19 : decode c_Bo_setPattern 19 = .ok (.sipush 1024, 3) := by decide +kernel
theorem d_Bo_setPattern_22 : decode c_Bo_setPattern 22 = .ok (.imul, 1) := by decide +kernel
theorem d_Bo_setPattern_23 : decode c_Bo_setPattern 23 = .ok (.istore 6, 2) := by decide +kernel
theorem d_Bo_setPattern_25 : decode c_Bo_setPattern 25 = .ok (.iload_n 2, 1) := by decide +kernel
theorem d_Bo_setPattern_26 : decode c_Bo_setPattern 26 = .ok (.iload 6, 2) := by decide +kernel
theorem d_Bo_setPattern_28 : decode c_Bo_setPattern 28 = .ok (.isub, 1) := by decide +kernel
theorem d_Bo_setPattern_29 : decode c_Bo_setPattern 29 = .ok (.iconst 0, 1) := by decide +kernel
theorem d_Bo_setPattern_30 : decode c_Bo_setPattern 30 = .ok (.invokestatic 56, 3) := by decide +kernel
theorem d_Bo_setPattern_33 : decode c_Bo_setPattern 33 = .ok (.istore 7, 2) := by decide +kernel
theorem d_Bo_setPattern_35 : decode c_Bo_setPattern 35 = .ok (.iload_n 2, 1) := by decide +kernel
theorem d_Bo_setPattern_36 : decode c_Bo_setPattern 36 = .ok (.iload_n 3, 1) := by decide +kernel
theorem d_Bo_setPattern_37 : decode c_Bo_setPattern 37 = .ok (.iadd, 1) := by decide +kernel
theorem d_Bo_setPattern_38 : decode c_Bo_setPattern 38 = .ok (.iload 6, 2) := by decide +kernel
theorem d_Bo_setPattern_40 : decode c_Bo_setPattern 40 = .ok (.isub, 1) := by decide +kernel
theorem d_Bo_setPattern_41 : decode c_Bo_setPattern 41 = .ok (.sipush 1024, 3) := by decide +kernel
theorem d_Bo_setPattern_44 : decode c_Bo_setPattern 44 = .ok (.invokestatic 64, 3) := by decide +kernel
theorem d_Bo_setPattern_47 : decode c_Bo_setPattern 47 = .ok (.istore 8, 2) := by decide +kernel
theorem d_Bo_setPattern_49 : decode c_Bo_setPattern 49 = .ok (.iload 4, 2) := by decide +kernel
theorem d_Bo_setPattern_51 : decode c_Bo_setPattern 51 = .ok (.bipush 7, 2) := by decide +kernel
theorem d_Bo_setPattern_53 : decode c_Bo_setPattern 53 = .ok (.iload 6, 2) := by decide +kernel
theorem d_Bo_setPattern_55 : decode c_Bo_setPattern 55 = .ok (.iload 7, 2) := by decide +kernel
theorem d_Bo_setPattern_57 : decode c_Bo_setPattern 57 = .ok (.iadd, 1) := by decide +kernel
theorem d_Bo_setPattern_58 : decode c_Bo_setPattern 58 = .ok (.iload_n 2, 1) := by decide +kernel
theorem d_Bo_setPattern_59 : decode c_Bo_setPattern 59 = .ok (.isub, 1) := by decide +kernel
theorem d_Bo_setPattern_60 : decode c_Bo_setPattern 60 = .ok (.imul, 1) := by decide +kernel
theorem d_Bo_setPattern_61 : decode c_Bo_setPattern 61 = .ok (.iadd, 1) := by decide +kernel
theorem d_Bo_setPattern_62 : decode c_Bo_setPattern 62 = .ok (.istore 9, 2) := by decide +kernel
theorem d_Bo_setPattern_64 : decode c_Bo_setPattern 64 = .ok (.aload_n 0, 1) := by decide +kernel
theorem d_Bo_setPattern_65 : decode c_Bo_setPattern 65 = .ok (.getfield 9, 3) := by decide +kernel
theorem d_Bo_setPattern_68 : decode c_Bo_setPattern 68 = .ok (.aload_n 0, 1) := by decide +kernel
theorem d_Bo_setPattern_69 : decode c_Bo_setPattern 69 = .ok (.getfield 15, 3) := by decide +kernel
theorem d_Bo_setPattern_72 : decode c_Bo_setPattern 72 = .ok (.iload_n 1, 1) := by decide +kernel
theorem d_Bo_setPattern_73 : decode c_Bo_setPattern 73 = .ok (.iload 5, 2) := by decide +kernel
theorem d_Bo_setPattern_75 : decode c_Bo_setPattern 75 = .ok (.invokevirtual 29, 3) := by decide +kernel
theorem d_Bo_setPattern_78 : decode c_Bo_setPattern 78 = .ok (.iload 7, 2) := by decide +kernel
theorem d_Bo_setPattern_80 : decode c_Bo_setPattern 80 = .ok (.iload 8, 2) := by decide +kernel
theorem d_Bo_setPattern_82 : decode c_Bo_setPattern 82 = .ok (.iload 9, 2) := by decide +kernel
theorem d_Bo_setPattern_84 : decode c_Bo_setPattern 84 = .ok (.invokevirtual 67, 3) := by decide +kernel
theorem d_Bo_setPattern_87 : decode c_Bo_setPattern 87 = .ok (.iinc 5 1, 3) := by decide +kernel
theorem d_Bo_setPattern_90 : decode c_Bo_setPattern 90 = .ok (.goto (-83), 3) := by decide +kernel
theorem d_Bo_setPattern_93 : decode c_Bo_setPattern 93 = .ok (.return_, 1) := by decide +kernel
theorem d_Fb_read_0 : decode c_Fb_read 0 = .ok (.aload_n 0, 1) := by decide +kernel
theorem d_Fb_read_1 : decode c_Fb_read 1 = .ok (.iload_n 1, 1) := by decide +kernel
theorem d_Fb_read_2 : decode c_Fb_read 2 = .ok (.invokevirtual 109, 3) := by decide +kernel
theorem d_Fb_read_5 : decode c_Fb_read 5 = .ok (.iload_n 2, 1) := by decide +kernel
theorem d_Fb_read_6 : decode c_Fb_read 6 = .ok (.ifCond .lt 15, 3) := by decide +kernel
theorem d_Fb_read_9 : decode c_Fb_read 9 = .ok (.iload_n 2, 1) := by decide +kernel
theorem d_Fb_read_10 : decode c_Fb_read 10 = .ok (.aload_n 0, 1) := by decide +kernel
theorem d_Fb_read_11 : decode c_Fb_read 11 = .ok (.getfield 28, 3) := by decide +kernel
theorem d_Fb_read_14 : decode c_Fb_read 14 = .ok (.iload_n 1, 1) := by decide +kernel
theorem d_Fb_read_15 : decode c_Fb_read 15 = .ok (.invokevirtual 102, 3) := by decide +kernel
theorem d_Fb_read_18 : decode c_Fb_read 18 = .ok (.if_icmp .lt 13, 3) := by decide +kernel
theorem d_Fb_read_21 : decode c_Fb_read 21 = .ok (.new 112, 3) := by decide +kernel
theorem d_Fb_read_24 : decode c_Fb_read 24 = .ok (.dup, 1) := by decide +kernel
theorem d_Fb_read_25 : decode c_Fb_read 25 = .ok (.ldc 114, 2) := by decide +kernel
theorem d_Fb_read_27 : decode c_Fb_read 27 = .ok (.invokespecial 116, 3) := by decide +kernel
theorem d_Fb_read_30 : decode c_Fb_read 30 = .ok (.athrow, 1) := by decide +kernel
theorem d_Fb_read_31 : decode c_Fb_read 31 = .ok (.aload_n 0, 1) := by decide +kernel
theorem d_Fb_read_32 : decode c_Fb_read 32 = .ok (.getfield 46, 3) := by decide +kernel
theorem d_Fb_read_35 : decode c_Fb_read 35 = .ok (.iload_n 1, 1) := by decide +kernel
theorem d_Fb_read_36 : decode c_Fb_read 36 = .ok (.iload_n 2, 1) := by decide +kernel
theorem d_Fb_read_37 : decode c_Fb_read 37 = .ok (.invokevirtual 117, 3) := by decide +kernel
theorem d_Fb_read_40 : decode c_Fb_read 40 = .ok (.ireturn, 1) := by decide +kernel
theorem d_Fb_checkThere_0 : decode c_Fb_checkThere 0 = .ok (.aload_n 0, 1) := by decide +kernel
theorem d_Fb_checkThere_1 : decode c_Fb_checkThere 1 = .ok (.getfield 28, 3) := by decide +kernel
theorem d_Fb_checkThere_4 : decode c_Fb_checkThere 4 = .ok (.iload_n 1, 1) := by decide +kernel
theorem d_Fb_checkThere_5 : decode c_Fb_checkThere 5 = .ok (.invokevirtual 154, 3) := by decide +kernel
theorem d_Fb_checkThere_8 : decode c_Fb_checkThere 8 = .ok (.ifCond .ne 13, 3) := by decide +kernel
theorem d_Fb_checkThere_11 : decode c_Fb_checkThere 11 = .ok (.new 50, 3) := by decide +kernel
theorem d_Fb_checkThere_14 : decode c_Fb_checkThere 14 = .ok (.dup, 1) := by decide +kernel
theorem d_Fb_checkThere_15 : decode c_Fb_checkThere 15 = .ok (.ldc 185, 2) := by decide +kernel
theorem d_Fb_checkThere_17 : decode c_Fb_checkThere 17 = .ok (.invokespecial 54, 3) := by decide +kernel
theorem d_Fb_checkThere_20 : decode c_Fb_checkThere 20 = .ok (.athrow, 1) := by decide +kernel
theorem d_Fb_checkThere_21 : decode c_Fb_checkThere 21 = .ok (.return_, 1) := by decide +kernel
theorem d_Bo_byteAt_0 : decode c_Bo_byteAt 0 = .ok (.aload_n 0, 1) := by decide +kernel
theorem d_Bo_byteAt_1 : decode c_Bo_byteAt 1 = .ok (.getfield 15, 3) := by decide +kernel
theorem d_Bo_byteAt_4 : decode c_Bo_byteAt 4 = .ok (.iload_n 1, 1) := by decide +kernel
theorem d_Bo_byteAt_5 : decode c_Bo_byteAt 5 = .ok (.invokevirtual 19, 3) := by decide +kernel
theorem d_Bo_byteAt_8 : decode c_Bo_byteAt 8 = .ok (.ifCond .eq 13, 3) := by decide +kernel
theorem d_Bo_byteAt_11 : decode c_Bo_byteAt 11 = .ok (.aload_n 0, 1) := by decide +kernel
theorem d_Bo_byteAt_12 : decode c_Bo_byteAt 12 = .ok (.getfield 15, 3) := by decide +kernel
theorem d_Bo_byteAt_15 : decode c_Bo_byteAt 15 = .ok (.iload_n 1, 1) := by decide +kernel
theorem d_Bo_byteAt_16 : decode c_Bo_byteAt 16 = .ok (.iload_n 2, 1) := by decide +kernel
theorem d_Bo_byteAt_17 : decode c_Bo_byteAt 17 = .ok (.invokevirtual 25, 3) := by decide +kernel
theorem d_Bo_byteAt_20 : decode c_Bo_byteAt 20 = .ok (.ireturn, 1) := by decide +kernel
theorem d_Bo_byteAt_21 : decode c_Bo_byteAt 21 = .ok (.aload_n 0, 1) := by decide +kernel
theorem d_Bo_byteAt_22 : decode c_Bo_byteAt 22 = .ok (.getfield 15, 3) := by decide +kernel
theorem d_Bo_byteAt_25 : decode c_Bo_byteAt 25 = .ok (.iload_n 1, 1) := by decide +kernel
theorem d_Bo_byteAt_26 : decode c_Bo_byteAt 26 = .ok (.iload_n 2, 1) := by decide +kernel
theorem d_Bo_byteAt_27 : decode c_Bo_byteAt 27 = .ok (.sipush 1024, 3) := by decide +kernel
theorem d_Bo_byteAt_30 : decode c_Bo_byteAt 30 = .ok (.idiv, 1) := by decide +kernel
theorem d_Bo_byteAt_31 : decode c_Bo_byteAt 31 = .ok (.invokevirtual 29, 3) := by decide +kernel
theorem d_Bo_byteAt_34 : decode c_Bo_byteAt 34 = .ok (.istore_n 3, 1) := by decide +kernel
theorem d_Bo_byteAt_35 : decode c_Bo_byteAt 35 = .ok (.iload_n 3, 1) := by decide +kernel
theorem d_Bo_byteAt_36 : decode c_Bo_byteAt 36 = .ok (.ifCond .ne 7, 3) := by decide +kernel
theorem d_Bo_byteAt_39 : decode c_Bo_byteAt 39 = .ok (.iconst 0, 1) := by decide +kernel
theorem d_Bo_byteAt_40 : decode c_Bo_byteAt 40 = .ok (.goto 16, 3) := by decide +kernel
theorem d_Bo_byteAt_43 : decode c_Bo_byteAt 43 = .ok (.aload_n 0, 1) := by decide +kernel
theorem d_Bo_byteAt_44 : decode c_Bo_byteAt 44 = .ok (.getfield 9, 3) := by decide +kernel
theorem d_Bo_byteAt_47 : decode c_Bo_byteAt 47 = .ok (.iload_n 3, 1) := by decide +kernel
theorem d_Bo_byteAt_48 : decode c_Bo_byteAt 48 = .ok (.iload_n 2, 1) := by decide +kernel
theorem d_Bo_byteAt_49 : decode c_Bo_byteAt 49 = .ok (.sipush 1024, 3) := by decide +kernel
theorem d_Bo_byteAt_52 : decode c_Bo_byteAt 52 = .ok (.irem, 1) := by decide +kernel
theorem d_Bo_byteAt_53 : decode c_Bo_byteAt 53 = .ok (.invokevirtual 32, 3) := by decide +kernel
theorem d_Bo_byteAt_56 : decode c_Bo_byteAt 56 = .ok (.ireturn, 1) := by decide +kernel
theorem d_Fb_cut_0 : decode c_Fb_cut 0 = .ok (.aload_n 0, 1) := by decide +kernel
theorem d_Fb_cut_1 : decode c_Fb_cut 1 = .ok (.iload_n 1, 1) := by decide +kernel
theorem d_Fb_cut_2 : decode c_Fb_cut 2 = .ok (.invokevirtual 121, 3) := by decide +kernel
theorem d_Fb_cut_5 : decode c_Fb_cut 5 = .ok (.iload_n 2, 1) := by decide +kernel
theorem d_Fb_cut_6 : decode c_Fb_cut 6 = .ok (.ifCond .lt 10, 3) := by decide +kernel
theorem d_Fb_cut_9 : decode c_Fb_cut 9 = .ok (.iload_n 2, 1) := by decide +kernel
theorem d_Fb_cut_10 : decode c_Fb_cut 10 = .ok (.sipush 15360, 3) := by decide +kernel
theorem d_Fb_cut_13 : decode c_Fb_cut 13 = .ok (.if_icmp .le 13, 3) := by decide +kernel
theorem d_Fb_cut_16 : decode c_Fb_cut 16 = .ok (.new 50, 3) := by decide +kernel
theorem d_Fb_cut_19 : decode c_Fb_cut 19 = .ok (.dup, 1) := by decide +kernel
theorem d_Fb_cut_20 : decode c_Fb_cut 20 = .ok (.ldc 124, 2) := by decide +kernel
theorem d_Fb_cut_22 : decode c_Fb_cut 22 = .ok (.invokespecial 54, 3) := by decide +kernel
theorem d_Fb_cut_25 : decode c_Fb_cut 25 = .ok (.athrow, 1) := by decide +kernel
theorem d_Fb_cut_26 : decode c_Fb_cut 26 = .ok (.aload_n 0, 1) := by decide +kernel
theorem d_Fb_cut_27 : decode c_Fb_cut 27 = .ok (.getfield 28, 3) := by decide +kernel
theorem d_Fb_cut_30 : decode c_Fb_cut 30 = .ok (.iload_n 1, 1) := by decide +kernel
theorem d_Fb_cut_31 : decode c_Fb_cut 31 = .ok (.invokevirtual 102, 3) := by decide +kernel
theorem d_Fb_cut_34 : decode c_Fb_cut 34 = .ok (.istore_n 3, 1) := by decide +kernel
theorem d_Fb_cut_35 : decode c_Fb_cut 35 = .ok (.aload_n 0, 1) := by decide +kernel
theorem d_Fb_cut_36 : decode c_Fb_cut 36 = .ok (.getfield 46, 3) := by decide +kernel
theorem d_Fb_cut_39 : decode c_Fb_cut 39 = .ok (.iload_n 1, 1) := by decide +kernel
theorem d_Fb_cut_40 : decode c_Fb_cut 40 = .ok (.iload_n 2, 1) := by decide +kernel
theorem d_Fb_cut_41 : decode c_Fb_cut 41 = .ok (.invokevirtual 126, 3) := by decide +kernel
theorem d_Fb_cut_44 : decode c_Fb_cut 44 = .ok (.iload_n 3, 1) := by decide +kernel
theorem d_Fb_cut_45 : decode c_Fb_cut 45 = .ok (.ireturn, 1) := by decide +kernel
theorem d_Bo_resize_0 : decode c_Bo_resize 0 = .ok (.iload_n 2, 1) := by decide +kernel
theorem d_Bo_resize_1 : decode c_Bo_resize 1 = .ok (.sipush 1024, 3) := by decide +kernel
theorem d_Bo_resize_4 : decode c_Bo_resize 4 = .ok (.idiv, 1) := by decide +kernel
theorem d_Bo_resize_5 : decode c_Bo_resize 5 = .ok (.istore_n 3, 1) := by decide +kernel
theorem d_Bo_resize_6 : decode c_Bo_resize 6 = .ok (.iload_n 2, 1) := by decide +kernel
theorem d_Bo_resize_7 : decode c_Bo_resize 7 = .ok (.sipush 1024, 3) := by decide +kernel
theorem d_Bo_resize_10 : decode c_Bo_resize 10 = .ok (.irem, 1) := by decide +kernel
theorem d_Bo_resize_11 : decode c_Bo_resize 11 = .ok (.istore 4, 2) := by decide +kernel
theorem d_Bo_resize_13 : decode c_Bo_resize 13 = .ok (.aload_n 0, 1) := by decide +kernel
theorem d_Bo_resize_14 : decode c_Bo_resize 14 = .ok (.iload_n 1, 1) := by decide +kernel
theorem d_Bo_resize_15 : decode c_Bo_resize 15 = .ok (.iload 4, 2) := by decide +kernel
theorem d_Bo_resize_17 : decode c_Bo_resize 17 = .ok (.ifCond .ne 7, 3) := by decide +kernel
theorem d_Bo_resize_20 : decode c_Bo_resize 20 = .ok (.iload_n 3, 1) := by decide +kernel
theorem d_Bo_resize_21 : decode c_Bo_resize 21 = .ok (.goto 6, 3) := by decide +kernel
theorem d_Bo_resize_24 : decode c_Bo_resize 24 = .ok (.iload_n 3, 1) := by decide +kernel
theorem d_Bo_resize_25 : decode c_Bo_resize 25 = .ok (.iconst 1, 1) := by decide +kernel
theorem d_Bo_resize_26 : decode c_Bo_resize 26 = .ok (.iadd, 1) := by decide +kernel
theorem d_Bo_resize_27 : decode c_Bo_resize 27 = .ok (.invokevirtual 71, 3) := by decide +kernel
theorem d_Bo_resize_30 : decode c_Bo_resize 30 = .ok (.aload_n 0, 1) := by decide +kernel
theorem d_Bo_resize_31 : decode c_Bo_resize 31 = .ok (.getfield 15, 3) := by decide +kernel
theorem d_Bo_resize_34 : decode c_Bo_resize 34 = .ok (.iload_n 1, 1) := by decide +kernel
theorem d_Bo_resize_35 : decode c_Bo_resize 35 = .ok (.iload_n 3, 1) := by decide +kernel
theorem d_Bo_resize_36 : decode c_Bo_resize 36 = .ok (.invokevirtual 29, 3) := by decide +kernel
theorem d_Bo_resize_39 : decode c_Bo_resize 39 = .ok (.istore 5, 2) := by decide +kernel
theorem d_Bo_resize_41 : decode c_Bo_resize 41 = .ok (.iload 5, 2) := by decide +kernel
theorem d_Bo_resize_43 : decode c_Bo_resize 43 = .ok (.ifCond .eq 17, 3) := by decide +kernel
theorem d_Bo_resize_46 : decode c_Bo_resize 46 = .ok (.aload_n 0, 1) := by decide +kernel
theorem d_Bo_resize_47 : decode c_Bo_resize 47 = .ok (.getfield 9, 3) := by decide +kernel
theorem d_Bo_resize_50 : decode c_Bo_resize 50 = .ok (.iload 5, 2) := by decide +kernel
theorem d_Bo_resize_52 : decode c_Bo_resize 52 = .ok (.iload 4, 2) := by decide +kernel
theorem d_Bo_resize_54 : decode c_Bo_resize 54 = .ok (.sipush 1024, 3) := by decide +kernel
theorem d_Bo_resize_57 : decode c_Bo_resize 57 = .ok (.invokevirtual 74, 3) := by decide +kernel
theorem d_Bo_resize_60 : decode c_Bo_resize 60 = .ok (.aload_n 0, 1) := by decide +kernel
theorem d_Bo_resize_61 : decode c_Bo_resize 61 = .ok (.getfield 15, 3) := by decide +kernel
theorem d_Bo_resize_64 : decode c_Bo_resize 64 = .ok (.iload_n 1, 1) := by decide +kernel
theorem d_Bo_resize_65 : decode c_Bo_resize 65 = .ok (.iload_n 2, 1) := by decide +kernel
theorem d_Bo_resize_66 : decode c_Bo_resize 66 = .ok (.invokevirtual 61, 3) := by decide +kernel
theorem d_Bo_resize_69 : decode c_Bo_resize 69 = .ok (.return_, 1) := by decide +kernel
theorem d_Fb_links_0 : decode c_Fb_links 0 = .ok (.aload_n 0, 1) := by decide +kernel
theorem d_Fb_links_1 : decode c_Fb_links 1 = .ok (.iload_n 1, 1) := by decide +kernel
theorem d_Fb_links_2 : decode c_Fb_links 2 = .ok (.invokevirtual 109, 3) := by decide +kernel
theorem d_Fb_links_5 : decode c_Fb_links 5 = .ok (.aload_n 0, 1) := by decide +kernel
theorem d_Fb_links_6 : decode c_Fb_links 6 = .ok (.getfield 28, 3) := by decide +kernel
theorem d_Fb_links_9 : decode c_Fb_links 9 = .ok (.iload_n 1, 1) := by decide +kernel
theorem d_Fb_links_10 : decode c_Fb_links 10 = .ok (.invokevirtual 129, 3) := by decide +kernel
theorem d_Fb_links_13 : decode c_Fb_links 13 = .ok (.istore_n 3, 1) := by decide +kernel
theorem d_Fb_links_14 : decode c_Fb_links 14 = .ok (.iload_n 2, 1) := by decide +kernel
theorem d_Fb_links_15 : decode c_Fb_links 15 = .ok (.iload_n 3, 1) := by decide +kernel
theorem d_Fb_links_16 : decode c_Fb_links 16 = .ok (.ineg, 1) := by decide +kernel
theorem d_Fb_links_17 : decode c_Fb_links 17 = .ok (.if_icmp .lt 12, 3) := by decide +kernel
theorem d_Fb_links_20 : decode c_Fb_links 20 = .ok (.iload_n 2, 1) := by decide +kernel
theorem d_Fb_links_21 : decode c_Fb_links 21 = .ok (.sipush 1000, 3) := by decide +kernel
theorem d_Fb_links_24 : decode c_Fb_links 24 = .ok (.iload_n 3, 1) := by decide +kernel
theorem d_Fb_links_25 : decode c_Fb_links 25 = .ok (.isub, 1) := by decide +kernel
theorem d_Fb_links_26 : decode c_Fb_links 26 = .ok (.if_icmp .le 13, 3) := by decide +kernel
theorem d_Fb_links_29 : decode c_Fb_links 29 = .ok (.new 50, 3) := by decide +kernel
theorem d_Fb_links_32 : decode c_Fb_links 32 = .ok (.dup, 1) := by decide +kernel
theorem d_Fb_links_33 : decode c_Fb_links 33 = .ok (.ldc 132, 2) := by decide +kernel
theorem d_Fb_links_35 : decode c_Fb_links 35 = .ok (.invokespecial 54, 3) := by decide +kernel
theorem d_Fb_links_38 : decode c_Fb_links 38 = .ok (.athrow, 1) := by decide +kernel
theorem d_Fb_links_39 : decode c_Fb_links 39 = .ok (.iload_n 3, 1) := by decide +kernel
theorem d_Fb_links_40 : decode c_Fb_links 40 = .ok (.iload_n 2, 1) := by decide +kernel
theorem d_Fb_links_41 : decode c_Fb_links 41 = .ok (.iadd, 1) := by decide +kernel
theorem d_Fb_links_42 : decode c_Fb_links 42 = .ok (.istore 4, 2) := by decide +kernel
theorem d_Fb_links_44 : decode c_Fb_links 44 = .ok (.aload_n 0, 1) := by decide +kernel
theorem d_Fb_links_45 : decode c_Fb_links 45 = .ok (.getfield 28, 3) := by decide +kernel
theorem d_Fb_links_48 : decode c_Fb_links 48 = .ok (.iload_n 1, 1) := by decide +kernel
theorem d_Fb_links_49 : decode c_Fb_links 49 = .ok (.iload 4, 2) := by decide +kernel
theorem d_Fb_links_51 : decode c_Fb_links 51 = .ok (.invokevirtual 134, 3) := by decide +kernel
theorem d_Fb_links_54 : decode c_Fb_links 54 = .ok (.iload_n 3, 1) := by decide +kernel
theorem d_Fb_links_55 : decode c_Fb_links 55 = .ok (.ifCond .eq 16, 3) := by decide +kernel
theorem d_Fb_links_58 : decode c_Fb_links 58 = .ok (.iload 4, 2) := by decide +kernel
theorem d_Fb_links_60 : decode c_Fb_links 60 = .ok (.ifCond .ne 11, 3) := by decide +kernel
theorem d_Fb_links_63 : decode c_Fb_links 63 = .ok (.aload_n 0, 1) := by decide +kernel
theorem d_Fb_links_64 : decode c_Fb_links 64 = .ok (.getfield 37, 3) := by decide +kernel
theorem d_Fb_links_67 : decode c_Fb_links 67 = .ok (.iload_n 1, 1) := by decide +kernel
theorem d_Fb_links_68 : decode c_Fb_links 68 = .ok (.invokevirtual 70, 3) := by decide +kernel
theorem d_Fb_links_71 : decode c_Fb_links 71 = .ok (.iload_n 3, 1) := by decide +kernel
theorem d_Fb_links_72 : decode c_Fb_links 72 = .ok (.ifCond .ne 16, 3) := by decide +kernel
theorem d_Fb_links_75 : decode c_Fb_links 75 = .ok (.iload 4, 2) := by decide +kernel
theorem d_Fb_links_77 : decode c_Fb_links 77 = .ok (.ifCond .eq 11, 3) := by decide +kernel
theorem d_Fb_links_80 : decode c_Fb_links 80 = .ok (.aload_n 0, 1) := by decide +kernel
theorem d_Fb_links_81 : decode c_Fb_links 81 = .ok (.getfield 37, 3) := by decide +kernel
theorem d_Fb_links_84 : decode c_Fb_links 84 = .ok (.iload_n 1, 1) := by decide +kernel
theorem d_Fb_links_85 : decode c_Fb_links 85 = .ok (.invokevirtual 137, 3) := by decide +kernel
theorem d_Fb_links_88 : decode c_Fb_links 88 = .ok (.iload 4, 2) := by decide +kernel
theorem d_Fb_links_90 : decode c_Fb_links 90 = .ok (.ireturn, 1) := by decide +kernel
theorem d_Fb_drop_0 : decode c_Fb_drop 0 = .ok (.aload_n 0, 1) := by decide +kernel
theorem d_Fb_drop_1 : decode c_Fb_drop 1 = .ok (.iload_n 1, 1) := by decide +kernel
theorem d_Fb_drop_2 : decode c_Fb_drop 2 = .ok (.invokevirtual 109, 3) := by decide +kernel
theorem d_Fb_drop_5 : decode c_Fb_drop 5 = .ok (.aload_n 0, 1) := by decide +kernel
theorem d_Fb_drop_6 : decode c_Fb_drop 6 = .ok (.getfield 28, 3) := by decide +kernel
theorem d_Fb_drop_9 : decode c_Fb_drop 9 = .ok (.iload_n 1, 1) := by decide +kernel
theorem d_Fb_drop_10 : decode c_Fb_drop 10 = .ok (.invokevirtual 129, 3) := by decide +kernel
theorem d_Fb_drop_13 : decode c_Fb_drop 13 = .ok (.ifCond .eq 13, 3) := by decide +kernel
theorem d_Fb_drop_16 : decode c_Fb_drop 16 = .ok (.new 61, 3) := by decide +kernel
theorem d_Fb_drop_19 : decode c_Fb_drop 19 = .ok (.dup, 1) := by decide +kernel
theorem d_Fb_drop_20 : decode c_Fb_drop 20 = .ok (.ldc 140, 2) := by decide +kernel
theorem d_Fb_drop_22 : decode c_Fb_drop 22 = .ok (.invokespecial 65, 3) := by decide +kernel
theorem d_Fb_drop_25 : decode c_Fb_drop 25 = .ok (.athrow, 1) := by decide +kernel
theorem d_Fb_drop_26 : decode c_Fb_drop 26 = .ok (.aload_n 0, 1) := by decide +kernel
theorem d_Fb_drop_27 : decode c_Fb_drop 27 = .ok (.iload_n 1, 1) := by decide +kernel
theorem d_Fb_drop_28 : decode c_Fb_drop 28 = .ok (.invokevirtual 142, 3) := by decide +kernel
theorem d_Fb_drop_31 : decode c_Fb_drop 31 = .ok (.ireturn, 1) := by decide +kernel
theorem d_Fb_about_0 : decode c_Fb_about 0 = .ok (.aload_n 0, 1) := by decide +kernel
theorem d_Fb_about_1 : decode c_Fb_about 1 = .ok (.getfield 28, 3) := by decide +kernel
theorem d_Fb_about_4 : decode c_Fb_about 4 = .ok (.iload_n 1, 1) := by decide +kernel
theorem d_Fb_about_5 : decode c_Fb_about 5 = .ok (.invokevirtual 148, 3) := by decide +kernel
theorem d_Fb_about_8 : decode c_Fb_about 8 = .ok (.ifCond .ne 13, 3) := by decide +kernel
theorem d_Fb_about_11 : decode c_Fb_about 11 = .ok (.new 50, 3) := by decide +kernel
theorem d_Fb_about_14 : decode c_Fb_about 14 = .ok (.dup, 1) := by decide +kernel
theorem d_Fb_about_15 : decode c_Fb_about 15 = .ok (.ldc 152, 2) := by decide +kernel
theorem d_Fb_about_17 : decode c_Fb_about 17 = .ok (.invokespecial 54, 3) := by decide +kernel
theorem d_Fb_about_20 : decode c_Fb_about 20 = .ok (.athrow, 1) := by decide +kernel
theorem d_Fb_about_21 : decode c_Fb_about 21 = .ok (.iload_n 2, 1) := by decide +kernel
theorem d_Fb_about_22 : decode c_Fb_about 22 = .ok (.tableswitch 93 0 5 #[38, 47, 56, 65, 74, 84], 38) := by decide +kernel
theorem d_Fb_about_60 : decode c_Fb_about 60 = .ok (.aload_n 0, 1) := by decide +kernel
theorem d_Fb_about_61 : decode c_Fb_about 61 = .ok (.getfield 28, 3) := by decide +kernel
theorem d_Fb_about_64 : decode c_Fb_about 64 = .ok (.iload_n 1, 1) := by decide +kernel
theorem d_Fb_about_65 : decode c_Fb_about 65 = .ok (.invokevirtual 154, 3) := by decide +kernel
theorem d_Fb_about_68 : decode c_Fb_about 68 = .ok (.ireturn, 1) := by decide +kernel
theorem d_Fb_about_69 : decode c_Fb_about 69 = .ok (.aload_n 0, 1) := by decide +kernel
theorem d_Fb_about_70 : decode c_Fb_about 70 = .ok (.getfield 28, 3) := by decide +kernel
theorem d_Fb_about_73 : decode c_Fb_about 73 = .ok (.iload_n 1, 1) := by decide +kernel
theorem d_Fb_about_74 : decode c_Fb_about 74 = .ok (.invokevirtual 129, 3) := by decide +kernel
theorem d_Fb_about_77 : decode c_Fb_about 77 = .ok (.ireturn, 1) := by decide +kernel
theorem d_Fb_about_78 : decode c_Fb_about 78 = .ok (.aload_n 0, 1) := by decide +kernel
theorem d_Fb_about_79 : decode c_Fb_about 79 = .ok (.getfield 28, 3) := by decide +kernel
theorem d_Fb_about_82 : decode c_Fb_about 82 = .ok (.iload_n 1, 1) := by decide +kernel
theorem d_Fb_about_83 : decode c_Fb_about 83 = .ok (.invokevirtual 102, 3) := by decide +kernel
theorem d_Fb_about_86 : decode c_Fb_about 86 = .ok (.ireturn, 1) := by decide +kernel
theorem d_Fb_about_87 : decode c_Fb_about 87 = .ok (.aload_n 0, 1) := by decide +kernel
theorem d_Fb_about_88 : decode c_Fb_about 88 = .ok (.getfield 28, 3) := by decide +kernel
theorem d_Fb_about_91 : decode c_Fb_about 91 = .ok (.iload_n 1, 1) := by decide +kernel
theorem d_Fb_about_92 : decode c_Fb_about 92 = .ok (.invokevirtual 157, 3) := by decide +kernel
theorem d_Fb_about_95 : decode c_Fb_about 95 = .ok (.ireturn, 1) := by decide +kernel
theorem d_Fb_about_96 : decode c_Fb_about 96 = .ok (.aload_n 0, 1) := by decide +kernel
theorem d_Fb_about_97 : decode c_Fb_about 97 = .ok (.getfield 28, 3) := by decide +kernel
theorem d_Fb_about_100 : decode c_Fb_about 100 = .ok (.iload_n 1, 1) := by decide +kernel
theorem d_Fb_about_101 : decode c_Fb_about 101 = .ok (.iconst 0, 1) := by decide +kernel
theorem d_Fb_about_102 : decode c_Fb_about 102 = .ok (.invokevirtual 160, 3) := by decide +kernel
theorem d_Fb_about_105 : decode c_Fb_about 105 = .ok (.ireturn, 1) := by decide +kernel
theorem d_Fb_about_106 : decode c_Fb_about 106 = .ok (.aload_n 0, 1) := by decide +kernel
theorem d_Fb_about_107 : decode c_Fb_about 107 = .ok (.getfield 28, 3) := by decide +kernel
theorem d_Fb_about_110 : decode c_Fb_about 110 = .ok (.iload_n 1, 1) := by decide +kernel
theorem d_Fb_about_111 : decode c_Fb_about 111 = .ok (.invokevirtual 163, 3) := by decide +kernel
theorem d_Fb_about_114 : decode c_Fb_about 114 = .ok (.ireturn, 1) := by decide +kernel
theorem d_Fb_about_115 : decode c_Fb_about 115 = .ok (.new 50, 3) := by decide +kernel
theorem d_Fb_about_118 : decode c_Fb_about 118 = .ok (.dup, 1) := by decide +kernel
theorem d_Fb_about_119 : decode c_Fb_about 119 = .ok (.ldc 166, 2) := by decide +kernel
theorem d_Fb_about_121 : decode c_Fb_about 121 = .ok (.invokespecial 54, 3) := by decide +kernel
theorem d_Fb_about_124 : decode c_Fb_about 124 = .ok (.athrow, 1) := by decide +kernel
theorem d_Fb_block_0 : decode c_Fb_block 0 = .ok (.aload_n 0, 1) := by decide +kernel
theorem d_Fb_block_1 : decode c_Fb_block 1 = .ok (.iload_n 1, 1) := by decide +kernel
theorem d_Fb_block_2 : decode c_Fb_block 2 = .ok (.invokevirtual 109, 3) := by decide +kernel
theorem d_Fb_block_5 : decode c_Fb_block 5 = .ok (.iload_n 2, 1) := by decide +kernel
theorem d_Fb_block_6 : decode c_Fb_block 6 = .ok (.ifCond .lt 9, 3) := by decide +kernel
theorem d_Fb_block_9 : decode c_Fb_block 9 = .ok (.iload_n 2, 1) := by decide +kernel
theorem d_Fb_block_10 : decode c_Fb_block 10 = .ok (.bipush 15, 2) := by decide +kernel
theorem d_Fb_block_12 : decode c_Fb_block 12 = .ok (.if_icmp .lt 13, 3) := by decide +kernel
theorem d_Fb_block_15 : decode c_Fb_block 15 = .ok (.new 50, 3) := by decide +kernel
theorem d_Fb_block_18 : decode c_Fb_block 18 = .ok (.dup, 1) := by decide +kernel
theorem d_Fb_block_19 : decode c_Fb_block 19 = .ok (.ldc 168, 2) := by decide +kernel
theorem d_Fb_block_21 : decode c_Fb_block 21 = .ok (.invokespecial 54, 3) := by decide +kernel
theorem d_Fb_block_24 : decode c_Fb_block 24 = .ok (.athrow, 1) := by decide +kernel
theorem d_Fb_block_25 : decode c_Fb_block 25 = .ok (.aload_n 0, 1) := by decide +kernel
theorem d_Fb_block_26 : decode c_Fb_block 26 = .ok (.getfield 28, 3) := by decide +kernel
theorem d_Fb_block_29 : decode c_Fb_block 29 = .ok (.iload_n 1, 1) := by decide +kernel
theorem d_Fb_block_30 : decode c_Fb_block 30 = .ok (.iload_n 2, 1) := by decide +kernel
theorem d_Fb_block_31 : decode c_Fb_block 31 = .ok (.invokevirtual 160, 3) := by decide +kernel
theorem d_Fb_block_34 : decode c_Fb_block 34 = .ok (.ireturn, 1) := by decide +kernel
theorem d_Fb_count_0 : decode c_Fb_count 0 = .ok (.iload_n 1, 1) := by decide +kernel
theorem d_Fb_count_1 : decode c_Fb_count 1 = .ok (.tableswitch 63 0 3 #[31, 39, 47, 55], 31) := by decide +kernel
theorem d_Fb_count_32 : decode c_Fb_count 32 = .ok (.aload_n 0, 1) := by decide +kernel
theorem d_Fb_count_33 : decode c_Fb_count 33 = .ok (.getfield 19, 3) := by decide +kernel
theorem d_Fb_count_36 : decode c_Fb_count 36 = .ok (.invokevirtual 76, 3) := by decide +kernel
theorem d_Fb_count_39 : decode c_Fb_count 39 = .ok (.ireturn, 1) := by decide +kernel
theorem d_Fb_count_40 : decode c_Fb_count 40 = .ok (.aload_n 0, 1) := by decide +kernel
theorem d_Fb_count_41 : decode c_Fb_count 41 = .ok (.getfield 28, 3) := by decide +kernel
theorem d_Fb_count_44 : decode c_Fb_count 44 = .ok (.invokevirtual 170, 3) := by decide +kernel
theorem d_Fb_count_47 : decode c_Fb_count 47 = .ok (.ireturn, 1) := by decide +kernel
theorem d_Fb_count_48 : decode c_Fb_count 48 = .ok (.aload_n 0, 1) := by decide +kernel
theorem d_Fb_count_49 : decode c_Fb_count 49 = .ok (.getfield 37, 3) := by decide +kernel
theorem d_Fb_count_52 : decode c_Fb_count 52 = .ok (.invokevirtual 173, 3) := by decide +kernel
theorem d_Fb_count_55 : decode c_Fb_count 55 = .ok (.ireturn, 1) := by decide +kernel
theorem d_Fb_count_56 : decode c_Fb_count 56 = .ok (.aload_n 0, 1) := by decide +kernel
theorem d_Fb_count_57 : decode c_Fb_count 57 = .ok (.getfield 37, 3) := by decide +kernel
theorem d_Fb_count_60 : decode c_Fb_count 60 = .ok (.invokevirtual 145, 3) := by decide +kernel
theorem d_Fb_count_63 : decode c_Fb_count 63 = .ok (.ireturn, 1) := by decide +kernel
theorem d_Fb_count_64 : decode c_Fb_count 64 = .ok (.new 50, 3) := by decide +kernel
theorem d_Fb_count_67 : decode c_Fb_count 67 = .ok (.dup, 1) := by decide +kernel
theorem d_Fb_count_68 : decode c_Fb_count 68 = .ok (.ldc 176, 2) := by decide +kernel
theorem d_Fb_count_70 : decode c_Fb_count 70 = .ok (.invokespecial 54, 3) := by decide +kernel
theorem d_Fb_count_73 : decode c_Fb_count 73 = .ok (.athrow, 1) := by decide +kernel
theorem d_Fb_byteOf_0 : decode c_Fb_byteOf 0 = .ok (.iload_n 1, 1) := by decide +kernel
theorem d_Fb_byteOf_1 : decode c_Fb_byteOf 1 = .ok (.ifCond .lt 8, 3) := by decide +kernel
theorem d_Fb_byteOf_4 : decode c_Fb_byteOf 4 = .ok (.iload_n 1, 1) := by decide +kernel
theorem d_Fb_byteOf_5 : decode c_Fb_byteOf 5 = .ok (.iconst 4, 1) := by decide +kernel
theorem d_Fb_byteOf_6 : decode c_Fb_byteOf 6 = .ok (.if_icmp .lt 13, 3) := by decide +kernel
theorem d_Fb_byteOf_9 : decode c_Fb_byteOf 9 = .ok (.new 112, 3) := by decide +kernel
theorem d_Fb_byteOf_12 : decode c_Fb_byteOf 12 = .ok (.dup, 1) := by decide +kernel
theorem d_Fb_byteOf_13 : decode c_Fb_byteOf 13 = .ok (.ldc 178, 2) := by decide +kernel
theorem d_Fb_byteOf_15 : decode c_Fb_byteOf 15 = .ok (.invokespecial 116, 3) := by decide +kernel
theorem d_Fb_byteOf_18 : decode c_Fb_byteOf 18 = .ok (.athrow, 1) := by decide +kernel
theorem d_Fb_byteOf_19 : decode c_Fb_byteOf 19 = .ok (.iload_n 2, 1) := by decide +kernel
theorem d_Fb_byteOf_20 : decode c_Fb_byteOf 20 = .ok (.ifCond .lt 10, 3) := by decide +kernel
theorem d_Fb_byteOf_23 : decode c_Fb_byteOf 23 = .ok (.iload_n 2, 1) := by decide +kernel
theorem d_Fb_byteOf_24 : decode c_Fb_byteOf 24 = .ok (.sipush 1024, 3) := by decide +kernel
theorem d_Fb_byteOf_27 : decode c_Fb_byteOf 27 = .ok (.if_icmp .lt 13, 3) := by decide +kernel
theorem d_Fb_byteOf_30 : decode c_Fb_byteOf 30 = .ok (.new 112, 3) := by decide +kernel
theorem d_Fb_byteOf_33 : decode c_Fb_byteOf 33 = .ok (.dup, 1) := by decide +kernel
theorem d_Fb_byteOf_34 : decode c_Fb_byteOf 34 = .ok (.ldc 180, 2) := by decide +kernel
theorem d_Fb_byteOf_36 : decode c_Fb_byteOf 36 = .ok (.invokespecial 116, 3) := by decide +kernel
theorem d_Fb_byteOf_39 : decode c_Fb_byteOf 39 = .ok (.athrow, 1) := by decide +kernel
theorem d_Fb_byteOf_40 : decode c_Fb_byteOf 40 = .ok (.aload_n 0, 1) := by decide +kernel
theorem d_Fb_byteOf_41 : decode c_Fb_byteOf 41 = .ok (.getfield 12, 3) := by decide +kernel
theorem d_Fb_byteOf_44 : decode c_Fb_byteOf 44 = .ok (.iload_n 1, 1) := by decide +kernel
theorem d_Fb_byteOf_45 : decode c_Fb_byteOf 45 = .ok (.sipush 1024, 3) := by decide +kernel
theorem d_Fb_byteOf_48 : decode c_Fb_byteOf 48 = .ok (.imul, 1) := by decide +kernel
theorem d_Fb_byteOf_49 : decode c_Fb_byteOf 49 = .ok (.iload_n 2, 1) := by decide +kernel
theorem d_Fb_byteOf_50 : decode c_Fb_byteOf 50 = .ok (.iadd, 1) := by decide +kernel
theorem d_Fb_byteOf_51 : decode c_Fb_byteOf 51 = .ok (.iconst 1, 1) := by decide +kernel
theorem d_Fb_byteOf_52 : decode c_Fb_byteOf 52 = .ok (.invokevirtual 182, 3) := by decide +kernel
theorem d_Fb_byteOf_55 : decode c_Fb_byteOf 55 = .ok (.ireturn, 1) := by decide +kernel
end
section
theorem d_Mo_init_0 : decode c_Mo_init 0 = .ok (.aload_n 0, 1) := by decide +kernel
theorem d_Mo_init_1 : decode c_Mo_init 1 = .ok (.invokespecial 1, 3) := by decide +kernel
theorem d_Mo_init_4 : decode c_Mo_init 4 = .ok (.aload_n 0, 1) := by decide +kernel
theorem d_Mo_init_5 : decode c_Mo_init 5 = .ok (.ldc 7, 2) := by decide +kernel
theorem d_Mo_init_7 : decode c_Mo_init 7 = .ok (.newarray .byte, 2) := by decide +kernel
theorem d_Mo_init_9 : decode c_Mo_init 9 = .ok (.putfield 8, 3) := by decide +kernel
theorem d_Mo_init_12 : decode c_Mo_init 12 = .ok (.aload_n 0, 1) := by decide +kernel
theorem d_Mo_init_13 : decode c_Mo_init 13 = .ok (.sipush 128, 3) := by decide +kernel
theorem d_Mo_init_16 : decode c_Mo_init 16 = .ok (.newarray .boolean, 2) := by decide +kernel
theorem d_Mo_init_18 : decode c_Mo_init 18 = .ok (.putfield 14, 3) := by decide +kernel
theorem d_Mo_init_21 : decode c_Mo_init 21 = .ok (.aload_n 0, 1) := by decide +kernel
theorem d_Mo_init_22 : decode c_Mo_init 22 = .ok (.bipush 13, 2) := by decide +kernel
theorem d_Mo_init_24 : decode c_Mo_init 24 = .ok (.newarray .int, 2) := by decide +kernel
theorem d_Mo_init_26 : decode c_Mo_init 26 = .ok (.putfield 18, 3) := by decide +kernel
theorem d_Mo_init_29 : decode c_Mo_init 29 = .ok (.aload_n 0, 1) := by decide +kernel
theorem d_Mo_init_30 : decode c_Mo_init 30 = .ok (.bipush 13, 2) := by decide +kernel
theorem d_Mo_init_32 : decode c_Mo_init 32 = .ok (.newarray .int, 2) := by decide +kernel
theorem d_Mo_init_34 : decode c_Mo_init 34 = .ok (.putfield 22, 3) := by decide +kernel
theorem d_Mo_init_37 : decode c_Mo_init 37 = .ok (.aload_n 0, 1) := by decide +kernel
theorem d_Mo_init_38 : decode c_Mo_init 38 = .ok (.bipush 13, 2) := by decide +kernel
theorem d_Mo_init_40 : decode c_Mo_init 40 = .ok (.newarray .int, 2) := by decide +kernel
theorem d_Mo_init_42 : decode c_Mo_init 42 = .ok (.putfield 25, 3) := by decide +kernel
theorem d_Mo_init_45 : decode c_Mo_init 45 = .ok (.aload_n 0, 1) := by decide +kernel
theorem d_Mo_init_46 : decode c_Mo_init 46 = .ok (.bipush 13, 2) := by decide +kernel
theorem d_Mo_init_48 : decode c_Mo_init 48 = .ok (.newarray .int, 2) := by decide +kernel
theorem d_Mo_init_50 : decode c_Mo_init 50 = .ok (.putfield 28, 3) := by decide +kernel
theorem d_Mo_init_53 : decode c_Mo_init 53 = .ok (.aload_n 0, 1) := by decide +kernel
theorem d_Mo_init_54 : decode c_Mo_init 54 = .ok (.bipush 13, 2) := by decide +kernel
theorem d_Mo_init_56 : decode c_Mo_init 56 = .ok (.newarray .boolean, 2) := by decide +kernel
theorem d_Mo_init_58 : decode c_Mo_init 58 = .ok (.putfield 31, 3) := by decide +kernel
theorem d_Mo_init_61 : decode c_Mo_init 61 = .ok (.aload_n 0, 1) := by decide +kernel
theorem d_Mo_init_62 : decode c_Mo_init 62 = .ok (.sipush 195, 3) := by decide +kernel
theorem d_Mo_init_65 : decode c_Mo_init 65 = .ok (.newarray .int, 2) := by decide +kernel
theorem d_Mo_init_67 : decode c_Mo_init 67 = .ok (.putfield 34, 3) := by decide +kernel
theorem d_Mo_init_70 : decode c_Mo_init 70 = .ok (.aload_n 0, 1) := by decide +kernel
theorem d_Mo_init_71 : decode c_Mo_init 71 = .ok (.sipush 780, 3) := by decide +kernel
theorem d_Mo_init_74 : decode c_Mo_init 74 = .ok (.newarray .byte, 2) := by decide +kernel
theorem d_Mo_init_76 : decode c_Mo_init 76 = .ok (.putfield 37, 3) := by decide +kernel
theorem d_Mo_init_79 : decode c_Mo_init 79 = .ok (.iconst 0, 1) := by decide +kernel
theorem d_Mo_init_80 : decode c_Mo_init 80 = .ok (.istore_n 1, 1) := by decide +kernel
theorem d_Mo_init_81 : decode c_Mo_init 81 = .ok (.iload_n 1, 1) := by decide +kernel
theorem d_Mo_init_82 : decode c_Mo_init 82 = .ok (.iconst 4, 1) := by decide +kernel
theorem d_Mo_init_83 : decode c_Mo_init 83 = .ok (.if_icmp .ge 16, 3) := by decide +kernel
theorem d_Mo_init_86 : decode c_Mo_init 86 = .ok (.aload_n 0, 1) := by decide +kernel
theorem d_Mo_init_87 : decode c_Mo_init 87 = .ok (.getfield 14, 3) := by decide +kernel
theorem d_Mo_init_90 : decode c_Mo_init 90 = .ok (.iload_n 1, 1) := by decide +kernel
theorem d_Mo_init_91 : decode c_Mo_init 91 = .ok (.iconst 1, 1) := by decide +kernel
theorem d_Mo_init_92 : decode c_Mo_init 92 = .ok (.bastore, 1) := by decide +kernel
theorem d_Mo_init_93 : decode c_Mo_init 93 = .ok (.iinc 1 1, 3) := by decide +kernel
theorem d_Mo_init_96 : decode c_Mo_init 96 = .ok (.goto (-15), 3) := by decide +kernel
theorem d_Mo_init_99 : decode c_Mo_init 99 = .ok (.return_, 1) := by decide +kernel
theorem d_Mo_thrown_0 : decode c_Mo_thrown 0 = .ok (.aload_n 0, 1) := by decide +kernel
theorem d_Mo_thrown_1 : decode c_Mo_thrown 1 = .ok (.getfield 40, 3) := by decide +kernel
theorem d_Mo_thrown_4 : decode c_Mo_thrown 4 = .ok (.ireturn, 1) := by decide +kernel
theorem d_Mo_make_0 : decode c_Mo_make 0 = .ok (.aload_n 0, 1) := by decide +kernel
theorem d_Mo_make_1 : decode c_Mo_make 1 = .ok (.iload_n 1, 1) := by decide +kernel
theorem d_Mo_make_2 : decode c_Mo_make 2 = .ok (.i2l, 1) := by decide +kernel
theorem d_Mo_make_3 : decode c_Mo_make 3 = .ok (.lconst 0, 1) := by decide +kernel
theorem d_Mo_make_4 : decode c_Mo_make 4 = .ok (.ldc2_w 65, 3) := by decide +kernel
theorem d_Mo_make_7 : decode c_Mo_make 7 = .ok (.invokestatic 46, 3) := by decide +kernel
theorem d_Mo_make_10 : decode c_Mo_make 10 = .ok (.ifCond .ne 7, 3) := by decide +kernel
theorem d_Mo_make_13 : decode c_Mo_make 13 = .ok (.iconst 1, 1) := by decide +kernel
theorem d_Mo_make_14 : decode c_Mo_make 14 = .ok (.goto 15, 3) := by decide +kernel
theorem d_Mo_make_17 : decode c_Mo_make 17 = .ok (.aload_n 0, 1) := by decide +kernel
theorem d_Mo_make_18 : decode c_Mo_make 18 = .ok (.invokevirtual 57, 3) := by decide +kernel
theorem d_Mo_make_21 : decode c_Mo_make 21 = .ok (.ifCond .ne 7, 3) := by decide +kernel
theorem d_Mo_make_24 : decode c_Mo_make 24 = .ok (.iconst 2, 1) := by decide +kernel
theorem d_Mo_make_25 : decode c_Mo_make 25 = .ok (.goto 4, 3) := by decide +kernel
theorem d_Mo_make_28 : decode c_Mo_make 28 = .ok (.iconst 0, 1) := by decide +kernel
theorem d_Mo_make_29 : decode c_Mo_make 29 = .ok (.putfield 40, 3) := by decide +kernel
theorem d_Mo_make_32 : decode c_Mo_make 32 = .ok (.aload_n 0, 1) := by decide +kernel
theorem d_Mo_make_33 : decode c_Mo_make 33 = .ok (.getfield 40, 3) := by decide +kernel
theorem d_Mo_make_36 : decode c_Mo_make 36 = .ok (.ifCond .le 7, 3) := by decide +kernel
theorem d_Mo_make_39 : decode c_Mo_make 39 = .ok (.iconst 0, 1) := by decide +kernel
theorem d_Mo_make_40 : decode c_Mo_make 40 = .ok (.goto 9, 3) := by decide +kernel
theorem d_Mo_make_43 : decode c_Mo_make 43 = .ok (.aload_n 0, 1) := by decide +kernel
theorem d_Mo_make_44 : decode c_Mo_make 44 = .ok (.iconst 1, 1) := by decide +kernel
theorem d_Mo_make_45 : decode c_Mo_make 45 = .ok (.iload_n 1, 1) := by decide +kernel
theorem d_Mo_make_46 : decode c_Mo_make 46 = .ok (.invokevirtual 67, 3) := by decide +kernel
theorem d_Mo_make_49 : decode c_Mo_make 49 = .ok (.ireturn, 1) := by decide +kernel
theorem d_Mo_in_0 : decode c_Mo_in 0 = .ok (.lload_n 0, 1) := by decide +kernel
theorem d_Mo_in_1 : decode c_Mo_in 1 = .ok (.lload_n 2, 1) := by decide +kernel
theorem d_Mo_in_2 : decode c_Mo_in 2 = .ok (.lcmp, 1) := by decide +kernel
theorem d_Mo_in_3 : decode c_Mo_in 3 = .ok (.ifCond .lt 14, 3) := by decide +kernel
theorem d_Mo_in_6 : decode c_Mo_in 6 = .ok (.lload_n 0, 1) := by decide +kernel
theorem d_Mo_in_7 : decode c_Mo_in 7 = .ok (.lload 4, 2) := by decide +kernel
theorem d_Mo_in_9 : decode c_Mo_in 9 = .ok (.lcmp, 1) := by decide +kernel
theorem d_Mo_in_10 : decode c_Mo_in 10 = .ok (.ifCond .gt 7, 3) := by decide +kernel
theorem d_Mo_in_13 : decode c_Mo_in 13 = .ok (.iconst 1, 1) := by decide +kernel
theorem d_Mo_in_14 : decode c_Mo_in 14 = .ok (.goto 4, 3) := by decide +kernel
theorem d_Mo_in_17 : decode c_Mo_in 17 = .ok (.iconst 0, 1) := by decide +kernel
theorem d_Mo_in_18 : decode c_Mo_in 18 = .ok (.ireturn, 1) := by decide +kernel
theorem d_Mo_freeFile_0 : decode c_Mo_freeFile 0 = .ok (.iconst 1, 1) := by decide +kernel
theorem d_Mo_freeFile_1 : decode c_Mo_freeFile 1 = .ok (.istore_n 1, 1) := by decide +kernel
theorem d_Mo_freeFile_2 : decode c_Mo_freeFile 2 = .ok (.iload_n 1, 1) := by decide +kernel
theorem d_Mo_freeFile_3 : decode c_Mo_freeFile 3 = .ok (.bipush 12, 2) := by decide +kernel
theorem d_Mo_freeFile_5 : decode c_Mo_freeFile 5 = .ok (.if_icmp .gt 20, 3) := by decide +kernel
theorem d_Mo_freeFile_8 : decode c_Mo_freeFile 8 = .ok (.aload_n 0, 1) := by decide +kernel
theorem d_Mo_freeFile_9 : decode c_Mo_freeFile 9 = .ok (.getfield 18, 3) := by decide +kernel
theorem d_Mo_freeFile_12 : decode c_Mo_freeFile 12 = .ok (.iload_n 1, 1) := by decide +kernel
theorem d_Mo_freeFile_13 : decode c_Mo_freeFile 13 = .ok (.iaload, 1) := by decide +kernel
theorem d_Mo_freeFile_14 : decode c_Mo_freeFile 14 = .ok (.ifCond .ne 5, 3) := by decide +kernel
theorem d_Mo_freeFile_17 : decode c_Mo_freeFile 17 = .ok (.iload_n 1, 1) := by decide +kernel
theorem d_Mo_freeFile_18 : decode c_Mo_freeFile 18 = .ok (.ireturn, 1) := by decide +kernel
theorem d_Mo_freeFile_19 : decode c_Mo_freeFile 19 = .ok (.iinc 1 1, 3) := by decide +kernel
theorem d_Mo_freeFile_22 : decode c_Mo_freeFile 22 = .ok (.goto (-20), 3) := by decide +kernel
theorem d_Mo_freeFile_25 : decode c_Mo_freeFile 25 = .ok (.iconst 0, 1) := by decide +kernel
theorem d_Mo_freeFile_26 : decode c_Mo_freeFile 26 = .ok (.ireturn, 1) := by decide +kernel
theorem d_Mo_begin_0 : decode c_Mo_begin 0 = .ok (.aload_n 0, 1) := by decide +kernel
theorem d_Mo_begin_1 : decode c_Mo_begin 1 = .ok (.invokevirtual 57, 3) := by decide +kernel
theorem d_Mo_begin_4 : decode c_Mo_begin 4 = .ok (.istore_n 3, 1) := by decide +kernel
theorem d_Mo_begin_5 : decode c_Mo_begin 5 = .ok (.aload_n 0, 1) := by decide +kernel
theorem d_Mo_begin_6 : decode c_Mo_begin 6 = .ok (.getfield 18, 3) := by decide +kernel
theorem d_Mo_begin_9 : decode c_Mo_begin 9 = .ok (.iload_n 3, 1) := by decide +kernel
theorem d_Mo_begin_10 : decode c_Mo_begin 10 = .ok (.iload_n 1, 1) := by decide +kernel
theorem d_Mo_begin_11 : decode c_Mo_begin 11 = .ok (.iastore, 1) := by decide +kernel
theorem d_Mo_begin_12 : decode c_Mo_begin 12 = .ok (.aload_n 0, 1) := by decide +kernel
theorem d_Mo_begin_13 : decode c_Mo_begin 13 = .ok (.getfield 22, 3) := by decide +kernel
theorem d_Mo_begin_16 : decode c_Mo_begin 16 = .ok (.iload_n 3, 1) := by decide +kernel
theorem d_Mo_begin_17 : decode c_Mo_begin 17 = .ok (.iload_n 2, 1) := by decide +kernel
theorem d_Mo_begin_18 : decode c_Mo_begin 18 = .ok (.iastore, 1) := by decide +kernel
theorem d_Mo_begin_19 : decode c_Mo_begin 19 = .ok (.aload_n 0, 1) := by decide +kernel
theorem d_Mo_begin_20 : decode c_Mo_begin 20 = .ok (.getfield 25, 3) := by decide +kernel
theorem d_Mo_begin_23 : decode c_Mo_begin 23 = .ok (.iload_n 3, 1) := by decide +kernel
theorem d_Mo_begin_24 : decode c_Mo_begin 24 = .ok (.iconst 0, 1) := by decide +kernel
theorem d_Mo_begin_25 : decode c_Mo_begin 25 = .ok (.iastore, 1) := by decide +kernel
theorem d_Mo_begin_26 : decode c_Mo_begin 26 = .ok (.iconst 0, 1) := by decide +kernel
theorem d_Mo_begin_27 : decode c_Mo_begin 27 = .ok (.istore 4, 2) := by decide +kernel
theorem d_Mo_begin_29 : decode c_Mo_begin 29 = .ok (.iload 4, 2) := by decide +kernel
theorem d_Mo_begin_31 : decode c_Mo_begin 31 = .ok (.bipush 15, 2) := by decide +kernel
theorem d_Mo_begin_33 : decode c_Mo_begin 33 = .ok (.if_icmp .ge 22, 3) := by decide +kernel
theorem d_Mo_begin_36 : decode c_Mo_begin 36 = .ok (.aload_n 0, 1) := by decide +kernel
theorem d_Mo_begin_37 : decode c_Mo_begin 37 = .ok (.getfield 34, 3) := by decide +kernel
theorem d_Mo_begin_40 : decode c_Mo_begin 40 = .ok (.bipush 15, 2) := by decide +kernel
theorem d_Mo_begin_42 : decode c_Mo_begin 42 = .ok (.iload_n 3, 1) := by decide +kernel
theorem d_Mo_begin_43 : decode c_Mo_begin 43 = .ok (.imul, 1) := by decide +kernel
theorem d_Mo_begin_44 : decode c_Mo_begin 44 = .ok (.iload 4, 2) := by decide +kernel
theorem d_Mo_begin_46 : decode c_Mo_begin 46 = .ok (.iadd, 1) := by decide +kernel
theorem d_Mo_begin_47 : decode c_Mo_begin 47 = .ok (.iconst 0, 1) := by decide +kernel
theorem d_Mo_begin_48 : decode c_Mo_begin 48 = .ok (.iastore, 1) := by decide +kernel
theorem d_Mo_begin_49 : decode c_Mo_begin 49 = .ok (.iinc 4 1, 3) := by decide +kernel
theorem d_Mo_begin_52 : decode c_Mo_begin 52 = .ok (.goto (-23), 3) := by decide +kernel
theorem d_Mo_begin_55 : decode c_Mo_begin 55 = .ok (.aload_n 0, 1) := by decide +kernel
theorem d_Mo_begin_56 : decode c_Mo_begin 56 = .ok (.iload_n 3, 1) := by decide +kernel
theorem d_Mo_begin_57 : decode c_Mo_begin 57 = .ok (.iload_n 2, 1) := by decide +kernel
theorem d_Mo_begin_58 : decode c_Mo_begin 58 = .ok (.ifCond .ne 7, 3) := by decide +kernel
theorem d_Mo_begin_61 : decode c_Mo_begin 61 = .ok (.iconst 1, 1) := by decide +kernel
theorem d_Mo_begin_62 : decode c_Mo_begin 62 = .ok (.goto 4, 3) := by decide +kernel
theorem d_Mo_begin_65 : decode c_Mo_begin 65 = .ok (.iconst 0, 1) := by decide +kernel
theorem d_Mo_begin_66 : decode c_Mo_begin 66 = .ok (.invokevirtual 61, 3) := by decide +kernel
theorem d_Mo_begin_69 : decode c_Mo_begin 69 = .ok (.iload_n 3, 1) := by decide +kernel
theorem d_Mo_begin_70 : decode c_Mo_begin 70 = .ok (.ireturn, 1) := by decide +kernel
theorem d_Mo_rest_0 : decode c_Mo_rest 0 = .ok (.iload_n 2, 1) := by decide +kernel
theorem d_Mo_rest_1 : decode c_Mo_rest 1 = .ok (.aload_n 0, 1) := by decide +kernel
theorem d_Mo_rest_2 : decode c_Mo_rest 2 = .ok (.getfield 31, 3) := by decide +kernel
theorem d_Mo_rest_5 : decode c_Mo_rest 5 = .ok (.iload_n 1, 1) := by decide +kernel
theorem d_Mo_rest_6 : decode c_Mo_rest 6 = .ok (.baload, 1) := by decide +kernel
theorem d_Mo_rest_7 : decode c_Mo_rest 7 = .ok (.if_icmp .ne 4, 3) := by decide +kernel
theorem d_Mo_rest_10 : decode c_Mo_rest 10 = .ok (.return_, 1) := by decide +kernel
theorem d_Mo_rest_11 : decode c_Mo_rest 11 = .ok (.aload_n 0, 1) := by decide +kernel
theorem d_Mo_rest_12 : decode c_Mo_rest 12 = .ok (.getfield 31, 3) := by decide +kernel
theorem d_Mo_rest_15 : decode c_Mo_rest 15 = .ok (.iload_n 1, 1) := by decide +kernel
theorem d_Mo_rest_16 : decode c_Mo_rest 16 = .ok (.iload_n 2, 1) := by decide +kernel
theorem d_Mo_rest_17 : decode c_Mo_rest 17 = .ok (.bastore, 1) := by decide +kernel
theorem d_Mo_rest_18 : decode c_Mo_rest 18 = .ok (.iload_n 2, 1) := by decide +kernel
theorem d_Mo_rest_19 : decode c_Mo_rest 19 = .ok (.ifCond .eq 19, 3) := by decide +kernel
theorem d_Mo_rest_22 : decode c_Mo_rest 22 = .ok (.aload_n 0, 1) := by decide +kernel
theorem d_Mo_rest_23 : decode c_Mo_rest 23 = .ok (.getfield 28, 3) := by decide +kernel
theorem d_Mo_rest_26 : decode c_Mo_rest 26 = .ok (.iload_n 1, 1) := by decide +kernel
theorem d_Mo_rest_27 : decode c_Mo_rest 27 = .ok (.aload_n 0, 1) := by decide +kernel
theorem d_Mo_rest_28 : decode c_Mo_rest 28 = .ok (.getfield 54, 3) := by decide +kernel
theorem d_Mo_rest_31 : decode c_Mo_rest 31 = .ok (.iastore, 1) := by decide +kernel
theorem d_Mo_rest_32 : decode c_Mo_rest 32 = .ok (.aload_n 0, 1) := by decide +kernel
theorem d_Mo_rest_33 : decode c_Mo_rest 33 = .ok (.iload_n 1, 1) := by decide +kernel
theorem d_Mo_rest_34 : decode c_Mo_rest 34 = .ok (.putfield 54, 3) := by decide +kernel
theorem d_Mo_rest_37 : decode c_Mo_rest 37 = .ok (.return_, 1) := by decide +kernel
theorem d_Mo_rest_38 : decode c_Mo_rest 38 = .ok (.aload_n 0, 1) := by decide +kernel
theorem d_Mo_rest_39 : decode c_Mo_rest 39 = .ok (.getfield 54, 3) := by decide +kernel
theorem d_Mo_rest_42 : decode c_Mo_rest 42 = .ok (.iload_n 1, 1) := by decide +kernel
theorem d_Mo_rest_43 : decode c_Mo_rest 43 = .ok (.if_icmp .ne 13, 3) := by decide +kernel
theorem d_Mo_rest_46 : decode c_Mo_rest 46 = .ok (.aload_n 0, 1) := by decide +kernel
theorem d_Mo_rest_47 : decode c_Mo_rest 47 = .ok (.aload_n 0, 1) := by decide +kernel
theorem d_Mo_rest_48 : decode c_Mo_rest 48 = .ok (.getfield 28, 3) := by decide +kernel
theorem d_Mo_rest_51 : decode c_Mo_rest 51 = .ok (.iload_n 1, 1) := by decide +kernel
theorem d_Mo_rest_52 : decode c_Mo_rest 52 = .ok (.iaload, 1) := by decide +kernel
theorem d_Mo_rest_53 : decode c_Mo_rest 53 = .ok (.putfield 54, 3) := by decide +kernel
theorem d_Mo_rest_56 : decode c_Mo_rest 56 = .ok (.iconst 1, 1) := by decide +kernel
theorem d_Mo_rest_57 : decode c_Mo_rest 57 = .ok (.istore_n 3, 1) := by decide +kernel
theorem d_Mo_rest_58 : decode c_Mo_rest 58 = .ok (.iload_n 3, 1) := by decide +kernel
theorem d_Mo_rest_59 : decode c_Mo_rest 59 = .ok (.bipush 12, 2) := by decide +kernel
theorem d_Mo_rest_61 : decode c_Mo_rest 61 = .ok (.if_icmp .gt 49, 3) := by decide +kernel
theorem d_Mo_rest_64 : decode c_Mo_rest 64 = .ok (.aload_n 0, 1) := by decide +kernel
theorem d_Mo_rest_65 : decode c_Mo_rest 65 = .ok (.getfield 28, 3) := by decide +kernel
theorem d_Mo_rest_68 : decode c_Mo_rest 68 = .ok (.iload_n 3, 1) := by decide +kernel
theorem d_Mo_rest_69 : decode c_Mo_rest 69 = .ok (.aload_n 0, 1) := by decide +kernel
theorem d_Mo_rest_70 : decode c_Mo_rest 70 = .ok (.getfield 31, 3) := by decide +kernel
theorem d_Mo_rest_73 : decode c_Mo_rest 73 = .ok (.iload_n 3, 1) := by decide +kernel
theorem d_Mo_rest_74 : decode c_Mo_rest 74 = .ok (.baload, 1) := by decide +kernel
theorem d_Mo_rest_75 : decode c_Mo_rest 75 = .ok (.ifCond .eq 22, 3) := by decide +kernel
theorem d_Mo_rest_78 : decode c_Mo_rest 78 = .ok (.aload_n 0, 1) := by decide +kernel
theorem d_Mo_rest_79 : decode c_Mo_rest 79 = .ok (.getfield 28, 3) := by decide +kernel
theorem d_Mo_rest_82 : decode c_Mo_rest 82 = .ok (.iload_n 3, 1) := by decide +kernel
theorem d_Mo_rest_83 : decode c_Mo_rest 83 = .ok (.iaload, 1) := by decide +kernel
theorem d_Mo_rest_84 : decode c_Mo_rest 84 = .ok (.iload_n 1, 1) := by decide +kernel
theorem d_Mo_rest_85 : decode c_Mo_rest 85 = .ok (.if_icmp .ne 12, 3) := by decide +kernel
theorem d_Mo_rest_88 : decode c_Mo_rest 88 = .ok (.aload_n 0, 1) := by decide +kernel
theorem d_Mo_rest_89 : decode c_Mo_rest 89 = .ok (.getfield 28, 3) := by decide +kernel
theorem d_Mo_rest_92 : decode c_Mo_rest 92 = .ok (.iload_n 1, 1) := by decide +kernel
theorem d_Mo_rest_93 : decode c_Mo_rest 93 = .ok (.iaload, 1) := by decide +kernel
theorem d_Mo_rest_94 : decode c_Mo_rest 94 = .ok (.goto 9, 3) := by decide +kernel
theorem d_Mo_rest_97 : decode c_Mo_rest 97 = .ok (.aload_n 0, 1) := by decide +kernel
theorem d_Mo_rest_98 : decode c_Mo_rest 98 = .ok (.getfield 28, 3) := by decide +kernel
theorem d_Mo_rest_101 : decode c_Mo_rest 101 = .ok (.iload_n 3, 1) := by decide +kernel
theorem d_Mo_rest_102 : decode c_Mo_rest 102 = .ok (.iaload, 1) := by decide +kernel
theorem d_Mo_rest_103 : decode c_Mo_rest 103 = .ok (.iastore, 1) := by decide +kernel
theorem d_Mo_rest_104 : decode c_Mo_rest 104 = .ok (.iinc 3 1, 3) := by decide +kernel
theorem d_Mo_rest_107 : decode c_Mo_rest 107 = .ok (.goto (-49), 3) := by decide +kernel
theorem d_Mo_rest_110 : decode c_Mo_rest 110 = .ok (.aload_n 0, 1) := by decide +kernel
theorem d_Mo_rest_111 : decode c_Mo_rest 111 = .ok (.getfield 28, 3) := by decide +kernel
theorem d_Mo_rest_114 : decode c_Mo_rest 114 = .ok (.iload_n 1, 1) := by decide +kernel
theorem d_Mo_rest_115 : decode c_Mo_rest 115 = .ok (.iconst 0, 1) := by decide +kernel
theorem d_Mo_rest_116 : decode c_Mo_rest 116 = .ok (.iastore, 1) := by decide +kernel
theorem d_Mo_rest_117 : decode c_Mo_rest 117 = .ok (.return_, 1) := by decide +kernel
theorem d_Mo_link_0 : decode c_Mo_link 0 = .ok (.aload_n 0, 1) := by decide +kernel
theorem d_Mo_link_1 : decode c_Mo_link 1 = .ok (.iload_n 1, 1) := by decide +kernel
theorem d_Mo_link_2 : decode c_Mo_link 2 = .ok (.i2l, 1) := by decide +kernel
theorem d_Mo_link_3 : decode c_Mo_link 3 = .ok (.lconst 1, 1) := by decide +kernel
theorem d_Mo_link_4 : decode c_Mo_link 4 = .ok (.ldc2_w 65, 3) := by decide +kernel
theorem d_Mo_link_7 : decode c_Mo_link 7 = .ok (.invokestatic 46, 3) := by decide +kernel
theorem d_Mo_link_10 : decode c_Mo_link 10 = .ok (.ifCond .ne 7, 3) := by decide +kernel
theorem d_Mo_link_13 : decode c_Mo_link 13 = .ok (.iconst 1, 1) := by decide +kernel
theorem d_Mo_link_14 : decode c_Mo_link 14 = .ok (.goto 28, 3) := by decide +kernel
theorem d_Mo_link_17 : decode c_Mo_link 17 = .ok (.aload_n 0, 1) := by decide +kernel
theorem d_Mo_link_18 : decode c_Mo_link 18 = .ok (.invokevirtual 57, 3) := by decide +kernel
theorem d_Mo_link_21 : decode c_Mo_link 21 = .ok (.ifCond .eq 16, 3) := by decide +kernel
theorem d_Mo_link_24 : decode c_Mo_link 24 = .ok (.iload_n 1, 1) := by decide +kernel
theorem d_Mo_link_25 : decode c_Mo_link 25 = .ok (.bipush 59, 2) := by decide +kernel
theorem d_Mo_link_27 : decode c_Mo_link 27 = .ok (.if_icmp .le 14, 3) := by decide +kernel
theorem d_Mo_link_30 : decode c_Mo_link 30 = .ok (.aload_n 0, 1) := by decide +kernel
theorem d_Mo_link_31 : decode c_Mo_link 31 = .ok (.invokevirtual 71, 3) := by decide +kernel
theorem d_Mo_link_34 : decode c_Mo_link 34 = .ok (.ifCond .ne 7, 3) := by decide +kernel
theorem d_Mo_link_37 : decode c_Mo_link 37 = .ok (.iconst 2, 1) := by decide +kernel
theorem d_Mo_link_38 : decode c_Mo_link 38 = .ok (.goto 4, 3) := by decide +kernel
theorem d_Mo_link_41 : decode c_Mo_link 41 = .ok (.iconst 0, 1) := by decide +kernel
theorem d_Mo_link_42 : decode c_Mo_link 42 = .ok (.putfield 40, 3) := by decide +kernel
theorem d_Mo_link_45 : decode c_Mo_link 45 = .ok (.aload_n 0, 1) := by decide +kernel
theorem d_Mo_link_46 : decode c_Mo_link 46 = .ok (.getfield 40, 3) := by decide +kernel
theorem d_Mo_link_49 : decode c_Mo_link 49 = .ok (.ifCond .le 5, 3) := by decide +kernel
theorem d_Mo_link_52 : decode c_Mo_link 52 = .ok (.iconst 0, 1) := by decide +kernel
theorem d_Mo_link_53 : decode c_Mo_link 53 = .ok (.ireturn, 1) := by decide +kernel
theorem d_Mo_link_54 : decode c_Mo_link 54 = .ok (.aload_n 0, 1) := by decide +kernel
theorem d_Mo_link_55 : decode c_Mo_link 55 = .ok (.iconst 3, 1) := by decide +kernel
theorem d_Mo_link_56 : decode c_Mo_link 56 = .ok (.iconst 1, 1) := by decide +kernel
theorem d_Mo_link_57 : decode c_Mo_link 57 = .ok (.invokevirtual 67, 3) := by decide +kernel
theorem d_Mo_link_60 : decode c_Mo_link 60 = .ok (.istore_n 3, 1) := by decide +kernel
theorem d_Mo_link_61 : decode c_Mo_link 61 = .ok (.aload_n 0, 1) := by decide +kernel
theorem d_Mo_link_62 : decode c_Mo_link 62 = .ok (.getfield 25, 3) := by decide +kernel
theorem d_Mo_link_65 : decode c_Mo_link 65 = .ok (.iload_n 3, 1) := by decide +kernel
theorem d_Mo_link_66 : decode c_Mo_link 66 = .ok (.iload_n 1, 1) := by decide +kernel
theorem d_Mo_link_67 : decode c_Mo_link 67 = .ok (.iastore, 1) := by decide +kernel
theorem d_Mo_link_68 : decode c_Mo_link 68 = .ok (.iload_n 1, 1) := by decide +kernel
theorem d_Mo_link_69 : decode c_Mo_link 69 = .ok (.bipush 59, 2) := by decide +kernel
theorem d_Mo_link_71 : decode c_Mo_link 71 = .ok (.if_icmp .le 9, 3) := by decide +kernel
theorem d_Mo_link_74 : decode c_Mo_link 74 = .ok (.aload_n 0, 1) := by decide +kernel
theorem d_Mo_link_75 : decode c_Mo_link 75 = .ok (.iload_n 3, 1) := by decide +kernel
theorem d_Mo_link_76 : decode c_Mo_link 76 = .ok (.iconst 0, 1) := by decide +kernel
theorem d_Mo_link_77 : decode c_Mo_link 77 = .ok (.invokevirtual 74, 3) := by decide +kernel
theorem d_Mo_link_80 : decode c_Mo_link 80 = .ok (.iconst 0, 1) := by decide +kernel
theorem d_Mo_link_81 : decode c_Mo_link 81 = .ok (.istore 4, 2) := by decide +kernel
theorem d_Mo_link_83 : decode c_Mo_link 83 = .ok (.iload 4, 2) := by decide +kernel
theorem d_Mo_link_85 : decode c_Mo_link 85 = .ok (.iload_n 1, 1) := by decide +kernel
theorem d_Mo_link_86 : decode c_Mo_link 86 = .ok (.if_icmp .ge 87, 3) := by decide +kernel
theorem d_Mo_link_89 : decode c_Mo_link 89 = .ok (.iload_n 2, 1) := by decide +kernel
theorem d_Mo_link_90 : decode c_Mo_link 90 = .ok (.iload 4, 2) := by decide +kernel
theorem d_Mo_link_92 : decode c_Mo_link 92 = .ok (.iadd, 1) := by decide +kernel
theorem d_Mo_link_93 : decode c_Mo_link 93 = .ok (.sipush 255, 3) := by decide +kernel
theorem d_Mo_link_96 : decode c_Mo_link 96 = .ok (.irem, 1) := by decide +kernel
theorem d_Mo_link_97 : decode c_Mo_link 97 = .ok (.istore 5, 2) := by decide +kernel
theorem d_Mo_link_99 : decode c_Mo_link 99 = .ok (.iconst 1, 1) := by decide +kernel
theorem d_Mo_link_100 : decode c_Mo_link 100 = .ok (.iload 5, 2) := by decide +kernel
theorem d_Mo_link_102 : decode c_Mo_link 102 = .ok (.ifCond .ge 12, 3) := by decide +kernel
theorem d_Mo_link_105 : decode c_Mo_link 105 = .ok (.iload 5, 2) := by decide +kernel
theorem d_Mo_link_107 : decode c_Mo_link 107 = .ok (.sipush 255, 3) := by decide +kernel
theorem d_Mo_link_110 : decode c_Mo_link 110 = .ok (.iadd, 1) := by decide +kernel
theorem d_Mo_link_111 : decode c_Mo_link 111 = .ok (.goto 5, 3) := by decide +kernel
theorem d_Mo_link_114 : decode c_Mo_link 114 = .ok (.iload 5, 2) := by decide +kernel
theorem d_Mo_link_116 : decode c_Mo_link 116 = .ok (.iadd, 1) := by decide +kernel
theorem d_Mo_link_117 : decode c_Mo_link 117 = .ok (.istore 6, 2) := by decide +kernel
theorem d_Mo_link_119 : decode c_Mo_link 119 = .ok (.iload_n 1, 1) := by decide +kernel
theorem d_Mo_link_120 : decode c_Mo_link 120 = .ok (.bipush 59, 2) := by decide +kernel
theorem d_Mo_link_122 : decode c_Mo_link 122 = .ok (.if_icmp .le 30, 3) := by decide +kernel
theorem d_Mo_link_125 : decode c_Mo_link 125 = .ok (.aload_n 0, 1) := by decide +kernel
theorem d_Mo_link_126 : decode c_Mo_link 126 = .ok (.getfield 8, 3) := by decide +kernel
theorem d_Mo_link_129 : decode c_Mo_link 129 = .ok (.sipush 1024, 3) := by decide +kernel
theorem d_Mo_link_132 : decode c_Mo_link 132 = .ok (.aload_n 0, 1) := by decide +kernel
theorem d_Mo_link_133 : decode c_Mo_link 133 = .ok (.getfield 34, 3) := by decide +kernel
theorem d_Mo_link_136 : decode c_Mo_link 136 = .ok (.bipush 15, 2) := by decide +kernel
theorem d_Mo_link_138 : decode c_Mo_link 138 = .ok (.iload_n 3, 1) := by decide +kernel
theorem d_Mo_link_139 : decode c_Mo_link 139 = .ok (.imul, 1) := by decide +kernel
theorem d_Mo_link_140 : decode c_Mo_link 140 = .ok (.iaload, 1) := by decide +kernel
theorem d_Mo_link_141 : decode c_Mo_link 141 = .ok (.imul, 1) := by decide +kernel
theorem d_Mo_link_142 : decode c_Mo_link 142 = .ok (.iload 4, 2) := by decide +kernel
theorem d_Mo_link_144 : decode c_Mo_link 144 = .ok (.iadd, 1) := by decide +kernel
theorem d_Mo_link_145 : decode c_Mo_link 145 = .ok (.iload 6, 2) := by decide +kernel
theorem d_Mo_link_147 : decode c_Mo_link 147 = .ok (.i2b, 1) := by decide +kernel
theorem d_Mo_link_148 : decode c_Mo_link 148 = .ok (.bastore, 1) := by decide +kernel
theorem d_Mo_link_149 : decode c_Mo_link 149 = .ok (.goto 18, 3) := by decide +kernel
theorem d_Mo_link_152 : decode c_Mo_link 152 = .ok (.aload_n 0, 1) := by decide +kernel
theorem d_Mo_link_153 : decode c_Mo_link 153 = .ok (.getfield 37, 3) := by decide +kernel
theorem d_Mo_link_156 : decode c_Mo_link 156 = .ok (.bipush 60, 2) := by decide +kernel
theorem d_Mo_link_158 : decode c_Mo_link 158 = .ok (.iload_n 3, 1) := by decide +kernel
theorem d_Mo_link_159 : decode c_Mo_link 159 = .ok (.imul, 1) := by decide +kernel
theorem d_Mo_link_160 : decode c_Mo_link 160 = .ok (.iload 4, 2) := by decide +kernel
theorem d_Mo_link_162 : decode c_Mo_link 162 = .ok (.iadd, 1) := by decide +kernel
theorem d_Mo_link_163 : decode c_Mo_link 163 = .ok (.iload 6, 2) := by decide +kernel
theorem d_Mo_link_165 : decode c_Mo_link 165 = .ok (.i2b, 1) := by decide +kernel
theorem d_Mo_link_166 : decode c_Mo_link 166 = .ok (.bastore, 1) := by decide +kernel
theorem d_Mo_link_167 : decode c_Mo_link 167 = .ok (.iinc 4 1, 3) := by decide +kernel
theorem d_Mo_link_170 : decode c_Mo_link 170 = .ok (.goto (-87), 3) := by decide +kernel
theorem d_Mo_link_173 : decode c_Mo_link 173 = .ok (.iload_n 3, 1) := by decide +kernel
theorem d_Mo_link_174 : decode c_Mo_link 174 = .ok (.ireturn, 1) := by decide +kernel
theorem d_Mo_freeOnes_0 : decode c_Mo_freeOnes 0 = .ok (.iconst 0, 1) := by decide +kernel
theorem d_Mo_freeOnes_1 : decode c_Mo_freeOnes 1 = .ok (.istore_n 1, 1) := by decide +kernel
theorem d_Mo_freeOnes_2 : decode c_Mo_freeOnes 2 = .ok (.iconst 0, 1) := by decide +kernel
theorem d_Mo_freeOnes_3 : decode c_Mo_freeOnes 3 = .ok (.istore_n 2, 1) := by decide +kernel
theorem d_Mo_freeOnes_4 : decode c_Mo_freeOnes 4 = .ok (.iload_n 2, 1) := by decide +kernel
theorem d_Mo_freeOnes_5 : decode c_Mo_freeOnes 5 = .ok (.sipush 128, 3) := by decide +kernel
theorem d_Mo_freeOnes_8 : decode c_Mo_freeOnes 8 = .ok (.if_icmp .ge 26, 3) := by decide +kernel
theorem d_Mo_freeOnes_11 : decode c_Mo_freeOnes 11 = .ok (.iload_n 1, 1) := by decide +kernel
theorem d_Mo_freeOnes_12 : decode c_Mo_freeOnes 12 = .ok (.aload_n 0, 1) := by decide +kernel
theorem d_Mo_freeOnes_13 : decode c_Mo_freeOnes 13 = .ok (.getfield 14, 3) := by decide +kernel
theorem d_Mo_freeOnes_16 : decode c_Mo_freeOnes 16 = .ok (.iload_n 2, 1) := by decide +kernel
theorem d_Mo_freeOnes_17 : decode c_Mo_freeOnes 17 = .ok (.baload, 1) := by decide +kernel
theorem d_Mo_freeOnes_18 : decode c_Mo_freeOnes 18 = .ok (.ifCond .eq 7, 3) := by decide +kernel
theorem d_Mo_freeOnes_21 : decode c_Mo_freeOnes 21 = .ok (.iconst 0, 1) := by decide +kernel
theorem d_Mo_freeOnes_22 : decode c_Mo_freeOnes 22 = .ok (.goto 4, 3) := by decide +kernel
theorem d_Mo_freeOnes_25 : decode c_Mo_freeOnes 25 = .ok (.iconst 1, 1) := by decide +kernel
theorem d_Mo_freeOnes_26 : decode c_Mo_freeOnes 26 = .ok (.iadd, 1) := by decide +kernel
theorem d_Mo_freeOnes_27 : decode c_Mo_freeOnes 27 = .ok (.istore_n 1, 1) := by decide +kernel
theorem d_Mo_freeOnes_28 : decode c_Mo_freeOnes 28 = .ok (.iinc 2 1, 3) := by decide +kernel
theorem d_Mo_freeOnes_31 : decode c_Mo_freeOnes 31 = .ok (.goto (-27), 3) := by decide +kernel
theorem d_Mo_freeOnes_34 : decode c_Mo_freeOnes 34 = .ok (.iload_n 1, 1) := by decide +kernel
theorem d_Mo_freeOnes_35 : decode c_Mo_freeOnes 35 = .ok (.ireturn, 1) := by decide +kernel
theorem d_Mo_take_0 : decode c_Mo_take 0 = .ok (.iload_n 2, 1) := by decide +kernel
theorem d_Mo_take_1 : decode c_Mo_take 1 = .ok (.ifCond .ne 7, 3) := by decide +kernel
theorem d_Mo_take_4 : decode c_Mo_take 4 = .ok (.iconst 0, 1) := by decide +kernel
theorem d_Mo_take_5 : decode c_Mo_take 5 = .ok (.goto 16, 3) := by decide +kernel
theorem d_Mo_take_8 : decode c_Mo_take 8 = .ok (.aload_n 0, 1) := by decide +kernel
theorem d_Mo_take_9 : decode c_Mo_take 9 = .ok (.getfield 34, 3) := by decide +kernel
theorem d_Mo_take_12 : decode c_Mo_take 12 = .ok (.bipush 15, 2) := by decide +kernel
theorem d_Mo_take_14 : decode c_Mo_take 14 = .ok (.iload_n 1, 1) := by decide +kernel
theorem d_Mo_take_15 : decode c_Mo_take 15 = .ok (.imul, 1) := by decide +kernel
theorem d_Mo_take_16 : decode c_Mo_take 16 = .ok (.iload_n 2, 1) := by decide +kernel
theorem d_Mo_take_17 : decode c_Mo_take 17 = .ok (.iadd, 1) := by decide +kernel
theorem d_Mo_take_18 : decode c_Mo_take 18 = .ok (.iconst 1, 1) := by decide +kernel
theorem d_Mo_take_19 : decode c_Mo_take 19 = .ok (.isub, 1) := by decide +kernel
theorem d_Mo_take_20 : decode c_Mo_take 20 = .ok (.iaload, 1) := by decide +kernel
theorem d_Mo_take_21 : decode c_Mo_take 21 = .ok (.istore_n 3, 1) := by decide +kernel
theorem d_Mo_take_22 : decode c_Mo_take 22 = .ok (.iload_n 3, 1) := by decide +kernel
theorem d_Mo_take_23 : decode c_Mo_take 23 = .ok (.ifCond .ne 7, 3) := by decide +kernel
theorem d_Mo_take_26 : decode c_Mo_take 26 = .ok (.iconst 4, 1) := by decide +kernel
theorem d_Mo_take_27 : decode c_Mo_take 27 = .ok (.goto 6, 3) := by decide +kernel
theorem d_Mo_take_30 : decode c_Mo_take 30 = .ok (.iload_n 3, 1) := by decide +kernel
theorem d_Mo_take_31 : decode c_Mo_take 31 = .ok (.iconst 1, 1) := by decide +kernel
theorem d_Mo_take_32 : decode c_Mo_take 32 = .ok (.iadd, 1) := by decide +kernel
theorem d_Mo_take_33 : decode c_Mo_take 33 = .ok (.istore 4, 2) := by decide +kernel
theorem d_Mo_take_35 : decode c_Mo_take 35 = .ok (.iconst 0, 1) := by decide +kernel
theorem d_Mo_take_36 : decode c_Mo_take 36 = .ok (.istore 5, 2) := by decide +kernel
theorem d_Mo_take_38 : decode c_Mo_take 38 = .ok (.bipush 127, 2) := by decide +kernel
theorem d_Mo_take_40 : decode c_Mo_take 40 = .ok (.istore 6, 2) := by decide +kernel
theorem d_Mo_take_42 : decode c_Mo_take 42 = .ok (.iload 6, 2) := by decide +kernel
theorem d_Mo_take_44 : decode c_Mo_take 44 = .ok (.ifCond .le 35, 3) := by decide +kernel
theorem d_Mo_take_47 : decode c_Mo_take 47 = .ok (.aload_n 0, 1) := by decide +kernel
theorem d_Mo_take_48 : decode c_Mo_take 48 = .ok (.getfield 14, 3) := by decide +kernel
theorem d_Mo_take_51 : decode c_Mo_take 51 = .ok (.iload 6, 2) := by decide +kernel
theorem d_Mo_take_53 : decode c_Mo_take 53 = .ok (.baload, 1) := by decide +kernel
theorem d_Mo_take_54 : decode c_Mo_take 54 = .ok (.ifCond .ne 10, 3) := by decide +kernel
theorem d_Mo_take_57 : decode c_Mo_take 57 = .ok (.iload 6, 2) := by decide +kernel
theorem d_Mo_take_59 : decode c_Mo_take 59 = .ok (.iload 4, 2) := by decide +kernel
theorem d_Mo_take_61 : decode c_Mo_take 61 = .ok (.if_icmp .ge 8, 3) := by decide +kernel
theorem d_Mo_take_64 : decode c_Mo_take 64 = .ok (.iload 5, 2) := by decide +kernel
theorem d_Mo_take_66 : decode c_Mo_take 66 = .ok (.goto 5, 3) := by decide +kernel
theorem d_Mo_take_69 : decode c_Mo_take 69 = .ok (.iload 6, 2) := by decide +kernel
theorem d_Mo_take_71 : decode c_Mo_take 71 = .ok (.istore 5, 2) := by decide +kernel
theorem d_Mo_take_73 : decode c_Mo_take 73 = .ok (.iinc 6 (-1), 3) := by decide +kernel
theorem d_Mo_take_76 : decode c_Mo_take 76 = .ok (.goto (-34), 3) := by decide +kernel
theorem d_Mo_take_79 : decode c_Mo_take 79 = .ok (.bipush 127, 2) := by decide +kernel
theorem d_Mo_take_81 : decode c_Mo_take 81 = .ok (.istore 6, 2) := by decide +kernel
theorem d_Mo_take_83 : decode c_Mo_take 83 = .ok (.iload 6, 2) := by decide +kernel
theorem d_Mo_take_85 : decode c_Mo_take 85 = .ok (.ifCond .le 35, 3) := by decide +kernel
theorem d_Mo_take_88 : decode c_Mo_take 88 = .ok (.iload 5, 2) := by decide +kernel
theorem d_Mo_take_90 : decode c_Mo_take 90 = .ok (.iload 4, 2) := by decide +kernel
theorem d_Mo_take_92 : decode c_Mo_take 92 = .ok (.if_icmp .ge 28, 3) := by decide +kernel
theorem d_Mo_take_95 : decode c_Mo_take 95 = .ok (.aload_n 0, 1) := by decide +kernel
theorem d_Mo_take_96 : decode c_Mo_take 96 = .ok (.getfield 14, 3) := by decide +kernel
theorem d_Mo_take_99 : decode c_Mo_take 99 = .ok (.iload 6, 2) := by decide +kernel
theorem d_Mo_take_101 : decode c_Mo_take 101 = .ok (.baload, 1) := by decide +kernel
theorem d_Mo_take_102 : decode c_Mo_take 102 = .ok (.ifCond .eq 8, 3) := by decide +kernel
theorem d_Mo_take_105 : decode c_Mo_take 105 = .ok (.iload 5, 2) := by decide +kernel
theorem d_Mo_take_107 : decode c_Mo_take 107 = .ok (.goto 5, 3) := by decide +kernel
theorem d_Mo_take_110 : decode c_Mo_take 110 = .ok (.iload 6, 2) := by decide +kernel
theorem d_Mo_take_112 : decode c_Mo_take 112 = .ok (.istore 5, 2) := by decide +kernel
theorem d_Mo_take_114 : decode c_Mo_take 114 = .ok (.iinc 6 (-1), 3) := by decide +kernel
theorem d_Mo_take_117 : decode c_Mo_take 117 = .ok (.goto (-34), 3) := by decide +kernel
theorem d_Mo_take_120 : decode c_Mo_take 120 = .ok (.aload_n 0, 1) := by decide +kernel
theorem d_Mo_take_121 : decode c_Mo_take 121 = .ok (.getfield 14, 3) := by decide +kernel
theorem d_Mo_take_124 : decode c_Mo_take 124 = .ok (.iload 5, 2) := by decide +kernel
theorem d_Mo_take_126 : decode c_Mo_take 126 = .ok (.iconst 1, 1) := by decide +kernel
theorem d_Mo_take_127 : decode c_Mo_take 127 = .ok (.bastore, 1) := by decide +kernel
theorem d_Mo_take_128 : decode c_Mo_take 128 = .ok (.aload_n 0, 1) := by decide +kernel
theorem d_Mo_take_129 : decode c_Mo_take 129 = .ok (.getfield 34, 3) := by decide +kernel
theorem d_Mo_take_132 : decode c_Mo_take 132 = .ok (.bipush 15, 2) := by decide +kernel
theorem d_Mo_take_134 : decode c_Mo_take 134 = .ok (.iload_n 1, 1) := by decide +kernel
theorem d_Mo_take_135 : decode c_Mo_take 135 = .ok (.imul, 1) := by decide +kernel
theorem d_Mo_take_136 : decode c_Mo_take 136 = .ok (.iload_n 2, 1) := by decide +kernel
theorem d_Mo_take_137 : decode c_Mo_take 137 = .ok (.iadd, 1) := by decide +kernel
theorem d_Mo_take_138 : decode c_Mo_take 138 = .ok (.iload 5, 2) := by decide +kernel
theorem d_Mo_take_140 : decode c_Mo_take 140 = .ok (.iastore, 1) := by decide +kernel
theorem d_Mo_take_141 : decode c_Mo_take 141 = .ok (.iconst 0, 1) := by decide +kernel
theorem d_Mo_take_142 : decode c_Mo_take 142 = .ok (.istore 6, 2) := by decide +kernel
theorem d_Mo_take_144 : decode c_Mo_take 144 = .ok (.iload 6, 2) := by decide +kernel
theorem d_Mo_take_146 : decode c_Mo_take 146 = .ok (.sipush 1024, 3) := by decide +kernel
theorem d_Mo_take_149 : decode c_Mo_take 149 = .ok (.if_icmp .ge 24, 3) := by decide +kernel
theorem d_Mo_take_152 : decode c_Mo_take 152 = .ok (.aload_n 0, 1) := by decide +kernel
theorem d_Mo_take_153 : decode c_Mo_take 153 = .ok (.getfield 8, 3) := by decide +kernel
theorem d_Mo_take_156 : decode c_Mo_take 156 = .ok (.sipush 1024, 3) := by decide +kernel
theorem d_Mo_take_159 : decode c_Mo_take 159 = .ok (.iload 5, 2) := by decide +kernel
theorem d_Mo_take_161 : decode c_Mo_take 161 = .ok (.imul, 1) := by decide +kernel
theorem d_Mo_take_162 : decode c_Mo_take 162 = .ok (.iload 6, 2) := by decide +kernel
theorem d_Mo_take_164 : decode c_Mo_take 164 = .ok (.iadd, 1) := by decide +kernel
theorem d_Mo_take_165 : decode c_Mo_take 165 = .ok (.iconst 0, 1) := by decide +kernel
theorem d_Mo_take_166 : decode c_Mo_take 166 = .ok (.bastore, 1) := by decide +kernel
theorem d_Mo_take_167 : decode c_Mo_take 167 = .ok (.iinc 6 1, 3) := by decide +kernel
theorem d_Mo_take_170 : decode c_Mo_take 170 = .ok (.goto (-26), 3) := by decide +kernel
theorem d_Mo_take_173 : decode c_Mo_take 173 = .ok (.return_, 1) := by decide +kernel
theorem d_Mo_write_0 : decode c_Mo_write 0 = .ok (.aload_n 0, 1) := by decide +kernel
theorem d_Mo_write_1 : decode c_Mo_write 1 = .ok (.iload_n 1, 1) := by decide +kernel
theorem d_Mo_write_2 : decode c_Mo_write 2 = .ok (.iload_n 2, 1) := by decide +kernel
theorem d_Mo_write_3 : decode c_Mo_write 3 = .ok (.iload 5, 2) := by decide +kernel
theorem d_Mo_write_5 : decode c_Mo_write 5 = .ok (.bipush 8, 2) := by decide +kernel
theorem d_Mo_write_7 : decode c_Mo_write 7 = .ok (.invokevirtual 87, 3) := by decide +kernel
theorem d_Mo_write_10 : decode c_Mo_write 10 = .ok (.ifCond .ne 5, 3) := by decide +kernel
theorem d_Mo_write_13 : decode c_Mo_write 13 = .ok (.iconst 0, 1) := by decide +kernel
theorem d_Mo_write_14 : decode c_Mo_write 14 = .ok (.ireturn, 1) := by decide +kernel
theorem d_Mo_write_15 : decode c_Mo_write 15 = .ok (.aload_n 0, 1) := by decide +kernel
theorem d_Mo_write_16 : decode c_Mo_write 16 = .ok (.iload_n 1, 1) := by decide +kernel
theorem d_Mo_write_17 : decode c_Mo_write 17 = .ok (.iload_n 2, 1) := by decide +kernel
theorem d_Mo_write_18 : decode c_Mo_write 18 = .ok (.iload 5, 2) := by decide +kernel
theorem d_Mo_write_20 : decode c_Mo_write 20 = .ok (.invokevirtual 91, 3) := by decide +kernel
theorem d_Mo_write_23 : decode c_Mo_write 23 = .ok (.iconst 0, 1) := by decide +kernel
theorem d_Mo_write_24 : decode c_Mo_write 24 = .ok (.istore 6, 2) := by decide +kernel
theorem d_Mo_write_26 : decode c_Mo_write 26 = .ok (.iload 6, 2) := by decide +kernel
theorem d_Mo_write_28 : decode c_Mo_write 28 = .ok (.iload 5, 2) := by decide +kernel
theorem d_Mo_write_30 : decode c_Mo_write 30 = .ok (.if_icmp .ge 31, 3) := by decide +kernel
theorem d_Mo_write_33 : decode c_Mo_write 33 = .ok (.aload_n 0, 1) := by decide +kernel
theorem d_Mo_write_34 : decode c_Mo_write 34 = .ok (.iload_n 1, 1) := by decide +kernel
theorem d_Mo_write_35 : decode c_Mo_write 35 = .ok (.iload_n 2, 1) := by decide +kernel
theorem d_Mo_write_36 : decode c_Mo_write 36 = .ok (.iload 6, 2) := by decide +kernel
theorem d_Mo_write_38 : decode c_Mo_write 38 = .ok (.iadd, 1) := by decide +kernel
theorem d_Mo_write_39 : decode c_Mo_write 39 = .ok (.lload_n 3, 1) := by decide +kernel
theorem d_Mo_write_40 : decode c_Mo_write 40 = .ok (.bipush 8, 2) := by decide +kernel
theorem d_Mo_write_42 : decode c_Mo_write 42 = .ok (.iload 5, 2) := by decide +kernel
theorem d_Mo_write_44 : decode c_Mo_write 44 = .ok (.iconst 1, 1) := by decide +kernel
theorem d_Mo_write_45 : decode c_Mo_write 45 = .ok (.isub, 1) := by decide +kernel
theorem d_Mo_write_46 : decode c_Mo_write 46 = .ok (.iload 6, 2) := by decide +kernel
theorem d_Mo_write_48 : decode c_Mo_write 48 = .ok (.isub, 1) := by decide +kernel
theorem d_Mo_write_49 : decode c_Mo_write 49 = .ok (.imul, 1) := by decide +kernel
theorem d_Mo_write_50 : decode c_Mo_write 50 = .ok (.lshr, 1) := by decide +kernel
theorem d_Mo_write_51 : decode c_Mo_write 51 = .ok (.l2i, 1) := by decide +kernel
theorem d_Mo_write_52 : decode c_Mo_write 52 = .ok (.invokevirtual 95, 3) := by decide +kernel
theorem d_Mo_write_55 : decode c_Mo_write 55 = .ok (.iinc 6 1, 3) := by decide +kernel
theorem d_Mo_write_58 : decode c_Mo_write 58 = .ok (.goto (-32), 3) := by decide +kernel
theorem d_Mo_write_61 : decode c_Mo_write 61 = .ok (.aload_n 0, 1) := by decide +kernel
theorem d_Mo_write_62 : decode c_Mo_write 62 = .ok (.getfield 25, 3) := by decide +kernel
theorem d_Mo_write_65 : decode c_Mo_write 65 = .ok (.iload_n 1, 1) := by decide +kernel
theorem d_Mo_write_66 : decode c_Mo_write 66 = .ok (.iaload, 1) := by decide +kernel
theorem d_Mo_write_67 : decode c_Mo_write 67 = .ok (.ireturn, 1) := by decide +kernel
theorem d_Mo_may_0 : decode c_Mo_may 0 = .ok (.aload_n 0, 1) := by decide +kernel
theorem d_Mo_may_1 : decode c_Mo_may 1 = .ok (.iload_n 1, 1) := by decide +kernel
theorem d_Mo_may_2 : decode c_Mo_may 2 = .ok (.invokevirtual 78, 3) := by decide +kernel
theorem d_Mo_may_5 : decode c_Mo_may 5 = .ok (.ifCond .eq 35, 3) := by decide +kernel
theorem d_Mo_may_8 : decode c_Mo_may 8 = .ok (.iload_n 3, 1) := by decide +kernel
theorem d_Mo_may_9 : decode c_Mo_may 9 = .ok (.i2l, 1) := by decide +kernel
theorem d_Mo_may_10 : decode c_Mo_may 10 = .ok (.lconst 1, 1) := by decide +kernel
theorem d_Mo_may_11 : decode c_Mo_may 11 = .ok (.iload 4, 2) := by decide +kernel
theorem d_Mo_may_13 : decode c_Mo_may 13 = .ok (.i2l, 1) := by decide +kernel
theorem d_Mo_may_14 : decode c_Mo_may 14 = .ok (.invokestatic 46, 3) := by decide +kernel
theorem d_Mo_may_17 : decode c_Mo_may 17 = .ok (.ifCond .eq 23, 3) := by decide +kernel
theorem d_Mo_may_20 : decode c_Mo_may 20 = .ok (.iload_n 2, 1) := by decide +kernel
theorem d_Mo_may_21 : decode c_Mo_may 21 = .ok (.ifCond .lt 19, 3) := by decide +kernel
theorem d_Mo_may_24 : decode c_Mo_may 24 = .ok (.iload_n 2, 1) := by decide +kernel
theorem d_Mo_may_25 : decode c_Mo_may 25 = .ok (.i2l, 1) := by decide +kernel
theorem d_Mo_may_26 : decode c_Mo_may 26 = .ok (.iload_n 3, 1) := by decide +kernel
theorem d_Mo_may_27 : decode c_Mo_may 27 = .ok (.i2l, 1) := by decide +kernel
theorem d_Mo_may_28 : decode c_Mo_may 28 = .ok (.ladd, 1) := by decide +kernel
theorem d_Mo_may_29 : decode c_Mo_may 29 = .ok (.ldc2_w 81, 3) := by decide +kernel
theorem d_Mo_may_32 : decode c_Mo_may 32 = .ok (.lcmp, 1) := by decide +kernel
theorem d_Mo_may_33 : decode c_Mo_may 33 = .ok (.ifCond .gt 7, 3) := by decide +kernel
theorem d_Mo_may_36 : decode c_Mo_may 36 = .ok (.iconst 1, 1) := by decide +kernel
theorem d_Mo_may_37 : decode c_Mo_may 37 = .ok (.goto 4, 3) := by decide +kernel
theorem d_Mo_may_40 : decode c_Mo_may 40 = .ok (.iconst 0, 1) := by decide +kernel
theorem d_Mo_may_41 : decode c_Mo_may 41 = .ok (.istore 5, 2) := by decide +kernel
theorem d_Mo_may_43 : decode c_Mo_may 43 = .ok (.aload_n 0, 1) := by decide +kernel
theorem d_Mo_may_44 : decode c_Mo_may 44 = .ok (.iload 5, 2) := by decide +kernel
theorem d_Mo_may_46 : decode c_Mo_may 46 = .ok (.ifCond .ne 7, 3) := by decide +kernel
theorem d_Mo_may_49 : decode c_Mo_may 49 = .ok (.iconst 1, 1) := by decide +kernel
theorem d_Mo_may_50 : decode c_Mo_may 50 = .ok (.goto 22, 3) := by decide +kernel
theorem d_Mo_may_53 : decode c_Mo_may 53 = .ok (.aload_n 0, 1) := by decide +kernel
theorem d_Mo_may_54 : decode c_Mo_may 54 = .ok (.iload_n 1, 1) := by decide +kernel
theorem d_Mo_may_55 : decode c_Mo_may 55 = .ok (.iload_n 2, 1) := by decide +kernel
theorem d_Mo_may_56 : decode c_Mo_may 56 = .ok (.iload_n 3, 1) := by decide +kernel
theorem d_Mo_may_57 : decode c_Mo_may 57 = .ok (.invokevirtual 83, 3) := by decide +kernel
theorem d_Mo_may_60 : decode c_Mo_may 60 = .ok (.aload_n 0, 1) := by decide +kernel
theorem d_Mo_may_61 : decode c_Mo_may 61 = .ok (.invokevirtual 71, 3) := by decide +kernel
theorem d_Mo_may_64 : decode c_Mo_may 64 = .ok (.if_icmp .le 7, 3) := by decide +kernel
theorem d_Mo_may_67 : decode c_Mo_may 67 = .ok (.iconst 2, 1) := by decide +kernel
theorem d_Mo_may_68 : decode c_Mo_may 68 = .ok (.goto 4, 3) := by decide +kernel
theorem d_Mo_may_71 : decode c_Mo_may 71 = .ok (.iconst 0, 1) := by decide +kernel
theorem d_Mo_may_72 : decode c_Mo_may 72 = .ok (.putfield 40, 3) := by decide +kernel
theorem d_Mo_may_75 : decode c_Mo_may 75 = .ok (.aload_n 0, 1) := by decide +kernel
theorem d_Mo_may_76 : decode c_Mo_may 76 = .ok (.getfield 40, 3) := by decide +kernel
theorem d_Mo_may_79 : decode c_Mo_may 79 = .ok (.ifCond .ne 7, 3) := by decide +kernel
theorem d_Mo_may_82 : decode c_Mo_may 82 = .ok (.iconst 1, 1) := by decide +kernel
theorem d_Mo_may_83 : decode c_Mo_may 83 = .ok (.goto 4, 3) := by decide +kernel
theorem d_Mo_may_86 : decode c_Mo_may 86 = .ok (.iconst 0, 1) := by decide +kernel
theorem d_Mo_may_87 : decode c_Mo_may 87 = .ok (.ireturn, 1) := by decide +kernel
theorem d_Mo_isPlain_0 : decode c_Mo_isPlain 0 = .ok (.aload_n 0, 1) := by decide +kernel
theorem d_Mo_isPlain_1 : decode c_Mo_isPlain 1 = .ok (.iload_n 1, 1) := by decide +kernel
theorem d_Mo_isPlain_2 : decode c_Mo_isPlain 2 = .ok (.invokevirtual 50, 3) := by decide +kernel
theorem d_Mo_isPlain_5 : decode c_Mo_isPlain 5 = .ok (.ifCond .eq 17, 3) := by decide +kernel
theorem d_Mo_isPlain_8 : decode c_Mo_isPlain 8 = .ok (.aload_n 0, 1) := by decide +kernel
theorem d_Mo_isPlain_9 : decode c_Mo_isPlain 9 = .ok (.getfield 18, 3) := by decide +kernel
theorem d_Mo_isPlain_12 : decode c_Mo_isPlain 12 = .ok (.iload_n 1, 1) := by decide +kernel
theorem d_Mo_isPlain_13 : decode c_Mo_isPlain 13 = .ok (.iaload, 1) := by decide +kernel
theorem d_Mo_isPlain_14 : decode c_Mo_isPlain 14 = .ok (.iconst 1, 1) := by decide +kernel
theorem d_Mo_isPlain_15 : decode c_Mo_isPlain 15 = .ok (.if_icmp .ne 7, 3) := by decide +kernel
theorem d_Mo_isPlain_18 : decode c_Mo_isPlain 18 = .ok (.iconst 1, 1) := by decide +kernel
theorem d_Mo_isPlain_19 : decode c_Mo_isPlain 19 = .ok (.goto 4, 3) := by decide +kernel
theorem d_Mo_isPlain_22 : decode c_Mo_isPlain 22 = .ok (.iconst 0, 1) := by decide +kernel
theorem d_Mo_isPlain_23 : decode c_Mo_isPlain 23 = .ok (.ireturn, 1) := by decide +kernel
theorem d_Mo_isFile_0 : decode c_Mo_isFile 0 = .ok (.iload_n 1, 1) := by decide +kernel
theorem d_Mo_isFile_1 : decode c_Mo_isFile 1 = .ok (.i2l, 1) := by decide +kernel
theorem d_Mo_isFile_2 : decode c_Mo_isFile 2 = .ok (.lconst 1, 1) := by decide +kernel
theorem d_Mo_isFile_3 : decode c_Mo_isFile 3 = .ok (.ldc2_w 44, 3) := by decide +kernel
theorem d_Mo_isFile_6 : decode c_Mo_isFile 6 = .ok (.invokestatic 46, 3) := by decide +kernel
theorem d_Mo_isFile_9 : decode c_Mo_isFile 9 = .ok (.ifCond .eq 16, 3) := by decide +kernel
theorem d_Mo_isFile_12 : decode c_Mo_isFile 12 = .ok (.aload_n 0, 1) := by decide +kernel
theorem d_Mo_isFile_13 : decode c_Mo_isFile 13 = .ok (.getfield 18, 3) := by decide +kernel
theorem d_Mo_isFile_16 : decode c_Mo_isFile 16 = .ok (.iload_n 1, 1) := by decide +kernel
theorem d_Mo_isFile_17 : decode c_Mo_isFile 17 = .ok (.iaload, 1) := by decide +kernel
theorem d_Mo_isFile_18 : decode c_Mo_isFile 18 = .ok (.ifCond .le 7, 3) := by decide +kernel
theorem d_Mo_isFile_21 : decode c_Mo_isFile 21 = .ok (.iconst 1, 1) := by decide +kernel
theorem d_Mo_isFile_22 : decode c_Mo_isFile 22 = .ok (.goto 4, 3) := by decide +kernel
theorem d_Mo_isFile_25 : decode c_Mo_isFile 25 = .ok (.iconst 0, 1) := by decide +kernel
theorem d_Mo_isFile_26 : decode c_Mo_isFile 26 = .ok (.ireturn, 1) := by decide +kernel
theorem d_Mo_wanted_0 : decode c_Mo_wanted 0 = .ok (.iconst 0, 1) := by decide +kernel
theorem d_Mo_wanted_1 : decode c_Mo_wanted 1 = .ok (.istore 4, 2) := by decide +kernel
theorem d_Mo_wanted_3 : decode c_Mo_wanted 3 = .ok (.iload_n 2, 1) := by decide +kernel
theorem d_Mo_wanted_4 : decode c_Mo_wanted 4 = .ok (.sipush 1024, 3) := by decide +kernel
theorem d_Mo_wanted_7 : decode c_Mo_wanted 7 = .ok (.idiv, 1) := by decide +kernel
theorem d_Mo_wanted_8 : decode c_Mo_wanted 8 = .ok (.istore 5, 2) := by decide +kernel
theorem d_Mo_wanted_10 : decode c_Mo_wanted 10 = .ok (.iload 5, 2) := by decide +kernel
theorem d_Mo_wanted_12 : decode c_Mo_wanted 12 = .ok (.iload_n 2, 1) := by decide +kernel
theorem d_Mo_wanted_13 : decode c_Mo_wanted 13 = .ok (.iload_n 3, 1) := by decide +kernel
theorem d_Mo_wanted_14 : decode c_Mo_wanted 14 = .ok (.iadd, 1) := by decide +kernel
theorem d_Mo_wanted_15 : decode c_Mo_wanted 15 = .ok (.iconst 1, 1) := by decide +kernel
theorem d_Mo_wanted_16 : decode c_Mo_wanted 16 = .ok (.isub, 1) := by decide +kernel
theorem d_Mo_wanted_17 : decode c_Mo_wanted 17 = .ok (.sipush 1024, 3) := by decide +kernel
theorem d_Mo_wanted_20 : decode c_Mo_wanted 20 = .ok (.idiv, 1) := by decide +kernel
theorem d_Mo_wanted_21 : decode c_Mo_wanted 21 = .ok (.if_icmp .gt 34, 3) := by decide +kernel
theorem d_Mo_wanted_24 : decode c_Mo_wanted 24 = .ok (.iload 4, 2) := by decide +kernel
theorem d_Mo_wanted_26 : decode c_Mo_wanted 26 = .ok (.aload_n 0, 1) := by decide +kernel
theorem d_Mo_wanted_27 : decode c_Mo_wanted 27 = .ok (.getfield 34, 3) := by decide +kernel
theorem d_Mo_wanted_30 : decode c_Mo_wanted 30 = .ok (.bipush 15, 2) := by decide +kernel
theorem d_Mo_wanted_32 : decode c_Mo_wanted 32 = .ok (.iload_n 1, 1) := by decide +kernel
theorem d_Mo_wanted_33 : decode c_Mo_wanted 33 = .ok (.imul, 1) := by decide +kernel
theorem d_Mo_wanted_34 : decode c_Mo_wanted 34 = .ok (.iload 5, 2) := by decide +kernel
theorem d_Mo_wanted_36 : decode c_Mo_wanted 36 = .ok (.iadd, 1) := by decide +kernel
theorem d_Mo_wanted_37 : decode c_Mo_wanted 37 = .ok (.iaload, 1) := by decide +kernel
theorem d_Mo_wanted_38 : decode c_Mo_wanted 38 = .ok (.ifCond .ne 7, 3) := by decide +kernel
theorem d_Mo_wanted_41 : decode c_Mo_wanted 41 = .ok (.iconst 1, 1) := by decide +kernel
theorem d_Mo_wanted_42 : decode c_Mo_wanted 42 = .ok (.goto 4, 3) := by decide +kernel
theorem d_Mo_wanted_45 : decode c_Mo_wanted 45 = .ok (.iconst 0, 1) := by decide +kernel
theorem d_Mo_wanted_46 : decode c_Mo_wanted 46 = .ok (.iadd, 1) := by decide +kernel
theorem d_Mo_wanted_47 : decode c_Mo_wanted 47 = .ok (.istore 4, 2) := by decide +kernel
theorem d_Mo_wanted_49 : decode c_Mo_wanted 49 = .ok (.iinc 5 1, 3) := by decide +kernel
theorem d_Mo_wanted_52 : decode c_Mo_wanted 52 = .ok (.goto (-42), 3) := by decide +kernel
theorem d_Mo_wanted_55 : decode c_Mo_wanted 55 = .ok (.iload 4, 2) := by decide +kernel
theorem d_Mo_wanted_57 : decode c_Mo_wanted 57 = .ok (.ireturn, 1) := by decide +kernel
theorem d_Mo_takeAll_0 : decode c_Mo_takeAll 0 = .ok (.iload_n 2, 1) := by decide +kernel
theorem d_Mo_takeAll_1 : decode c_Mo_takeAll 1 = .ok (.sipush 1024, 3) := by decide +kernel
theorem d_Mo_takeAll_4 : decode c_Mo_takeAll 4 = .ok (.idiv, 1) := by decide +kernel
theorem d_Mo_takeAll_5 : decode c_Mo_takeAll 5 = .ok (.istore 4, 2) := by decide +kernel
theorem d_Mo_takeAll_7 : decode c_Mo_takeAll 7 = .ok (.iload 4, 2) := by decide +kernel
theorem d_Mo_takeAll_9 : decode c_Mo_takeAll 9 = .ok (.iload_n 2, 1) := by decide +kernel
theorem d_Mo_takeAll_10 : decode c_Mo_takeAll 10 = .ok (.iload_n 3, 1) := by decide +kernel
theorem d_Mo_takeAll_11 : decode c_Mo_takeAll 11 = .ok (.iadd, 1) := by decide +kernel
theorem d_Mo_takeAll_12 : decode c_Mo_takeAll 12 = .ok (.iconst 1, 1) := by decide +kernel
theorem d_Mo_takeAll_13 : decode c_Mo_takeAll 13 = .ok (.isub, 1) := by decide +kernel
theorem d_Mo_takeAll_14 : decode c_Mo_takeAll 14 = .ok (.sipush 1024, 3) := by decide +kernel
theorem d_Mo_takeAll_17 : decode c_Mo_takeAll 17 = .ok (.idiv, 1) := by decide +kernel
theorem d_Mo_takeAll_18 : decode c_Mo_takeAll 18 = .ok (.if_icmp .gt 31, 3) := by decide +kernel
theorem d_Mo_takeAll_21 : decode c_Mo_takeAll 21 = .ok (.aload_n 0, 1) := by decide +kernel
theorem d_Mo_takeAll_22 : decode c_Mo_takeAll 22 = .ok (.getfield 34, 3) := by decide +kernel
theorem d_Mo_takeAll_25 : decode c_Mo_takeAll 25 = .ok (.bipush 15, 2) := by decide +kernel
theorem d_Mo_takeAll_27 : decode c_Mo_takeAll 27 = .ok (.iload_n 1, 1) := by decide +kernel
theorem d_Mo_takeAll_28 : decode c_Mo_takeAll 28 = .ok (.imul, 1) := by decide +kernel
theorem d_Mo_takeAll_29 : decode c_Mo_takeAll 29 = .ok (.iload 4, 2) := by decide +kernel
theorem d_Mo_takeAll_31 : decode c_Mo_takeAll 31 = .ok (.iadd, 1) := by decide +kernel
theorem d_Mo_takeAll_32 : decode c_Mo_takeAll 32 = .ok (.iaload, 1) := by decide +kernel
theorem d_Mo_takeAll_33 : decode c_Mo_takeAll 33 = .ok (.ifCond .ne 10, 3) := by decide +kernel
theorem d_Mo_takeAll_36 : decode c_Mo_takeAll 36 = .ok (.aload_n 0, 1) := by decide +kernel
theorem d_Mo_takeAll_37 : decode c_Mo_takeAll 37 = .ok (.iload_n 1, 1) := by decide +kernel
theorem d_Mo_takeAll_38 : decode c_Mo_takeAll 38 = .ok (.iload 4, 2) := by decide +kernel
theorem d_Mo_takeAll_40 : decode c_Mo_takeAll 40 = .ok (.invokevirtual 74, 3) := by decide +kernel
theorem d_Mo_takeAll_43 : decode c_Mo_takeAll 43 = .ok (.iinc 4 1, 3) := by decide +kernel
theorem d_Mo_takeAll_46 : decode c_Mo_takeAll 46 = .ok (.goto (-39), 3) := by decide +kernel
theorem d_Mo_takeAll_49 : decode c_Mo_takeAll 49 = .ok (.aload_n 0, 1) := by decide +kernel
theorem d_Mo_takeAll_50 : decode c_Mo_takeAll 50 = .ok (.getfield 25, 3) := by decide +kernel
theorem d_Mo_takeAll_53 : decode c_Mo_takeAll 53 = .ok (.iload_n 1, 1) := by decide +kernel
theorem d_Mo_takeAll_54 : decode c_Mo_takeAll 54 = .ok (.iload_n 2, 1) := by decide +kernel
theorem d_Mo_takeAll_55 : decode c_Mo_takeAll 55 = .ok (.iload_n 3, 1) := by decide +kernel
theorem d_Mo_takeAll_56 : decode c_Mo_takeAll 56 = .ok (.iadd, 1) := by decide +kernel
theorem d_Mo_takeAll_57 : decode c_Mo_takeAll 57 = .ok (.aload_n 0, 1) := by decide +kernel
theorem d_Mo_takeAll_58 : decode c_Mo_takeAll 58 = .ok (.getfield 25, 3) := by decide +kernel
theorem d_Mo_takeAll_61 : decode c_Mo_takeAll 61 = .ok (.iload_n 1, 1) := by decide +kernel
theorem d_Mo_takeAll_62 : decode c_Mo_takeAll 62 = .ok (.iaload, 1) := by decide +kernel
theorem d_Mo_takeAll_63 : decode c_Mo_takeAll 63 = .ok (.if_icmp .le 9, 3) := by decide +kernel
theorem d_Mo_takeAll_66 : decode c_Mo_takeAll 66 = .ok (.iload_n 2, 1) := by decide +kernel
theorem d_Mo_takeAll_67 : decode c_Mo_takeAll 67 = .ok (.iload_n 3, 1) := by decide +kernel
theorem d_Mo_takeAll_68 : decode c_Mo_takeAll 68 = .ok (.iadd, 1) := by decide +kernel
theorem d_Mo_takeAll_69 : decode c_Mo_takeAll 69 = .ok (.goto 9, 3) := by decide +kernel
theorem d_Mo_takeAll_72 : decode c_Mo_takeAll 72 = .ok (.aload_n 0, 1) := by decide +kernel
theorem d_Mo_takeAll_73 : decode c_Mo_takeAll 73 = .ok (.getfield 25, 3) := by decide +kernel
theorem d_Mo_takeAll_76 : decode c_Mo_takeAll 76 = .ok (.iload_n 1, 1) := by decide +kernel
theorem d_Mo_takeAll_77 : decode c_Mo_takeAll 77 = .ok (.iaload, 1) := by decide +kernel
theorem d_Mo_takeAll_78 : decode c_Mo_takeAll 78 = .ok (.iastore, 1) := by decide +kernel
theorem d_Mo_takeAll_79 : decode c_Mo_takeAll 79 = .ok (.return_, 1) := by decide +kernel
theorem d_Mo_set_0 : decode c_Mo_set 0 = .ok (.aload_n 0, 1) := by decide +kernel
theorem d_Mo_set_1 : decode c_Mo_set 1 = .ok (.getfield 8, 3) := by decide +kernel
theorem d_Mo_set_4 : decode c_Mo_set 4 = .ok (.sipush 1024, 3) := by decide +kernel
theorem d_Mo_set_7 : decode c_Mo_set 7 = .ok (.aload_n 0, 1) := by decide +kernel
theorem d_Mo_set_8 : decode c_Mo_set 8 = .ok (.getfield 34, 3) := by decide +kernel
theorem d_Mo_set_11 : decode c_Mo_set 11 = .ok (.bipush 15, 2) := by decide +kernel
theorem d_Mo_set_13 : decode c_Mo_set 13 = .ok (.iload_n 1, 1) := by decide +kernel
theorem d_Mo_set_14 : decode c_Mo_set 14 = .ok (.imul, 1) := by decide +kernel
theorem d_Mo_set_15 : decode c_Mo_set 15 = .ok (.iload_n 2, 1) := by decide +kernel
theorem d_Mo_set_16 : decode c_Mo_set 16 = .ok (.sipush 1024, 3) := by decide +kernel
theorem d_Mo_set_19 : decode c_Mo_set 19 = .ok (.idiv, 1) := by decide +kernel
theorem d_Mo_set_20 : decode c_Mo_set 20 = .ok (.iadd, 1) := by decide +kernel
theorem d_Mo_set_21 : decode c_Mo_set 21 = .ok (.iaload, 1) := by decide +kernel
theorem d_Mo_set_22 : decode c_Mo_set 22 = .ok (.imul, 1) := by decide +kernel
theorem d_Mo_set_23 : decode c_Mo_set 23 = .ok (.iload_n 2, 1) := by decide +kernel
theorem d_Mo_set_24 : decode c_Mo_set 24 = .ok (.sipush 1024, 3) := by decide +kernel
theorem d_Mo_set_27 : decode c_Mo_set 27 = .ok (.irem, 1) := by decide +kernel
theorem d_Mo_set_28 : decode c_Mo_set 28 = .ok (.iadd, 1) := by decide +kernel
theorem d_Mo_set_29 : decode c_Mo_set 29 = .ok (.iload_n 3, 1) := by decide +kernel
theorem d_Mo_set_30 : decode c_Mo_set 30 = .ok (.i2b, 1) := by decide +kernel
theorem d_Mo_set_31 : decode c_Mo_set 31 = .ok (.bastore, 1) := by decide +kernel
theorem d_Mo_set_32 : decode c_Mo_set 32 = .ok (.return_, 1) := by decide +kernel
theorem d_Mo_paint_0 : decode c_Mo_paint 0 = .ok (.aload_n 0, 1) := by decide +kernel
theorem d_Mo_paint_1 : decode c_Mo_paint 1 = .ok (.iload_n 1, 1) := by decide +kernel
theorem d_Mo_paint_2 : decode c_Mo_paint 2 = .ok (.iload_n 2, 1) := by decide +kernel
theorem d_Mo_paint_3 : decode c_Mo_paint 3 = .ok (.iload_n 3, 1) := by decide +kernel
theorem d_Mo_paint_4 : decode c_Mo_paint 4 = .ok (.sipush 4000, 3) := by decide +kernel
theorem d_Mo_paint_7 : decode c_Mo_paint 7 = .ok (.invokevirtual 87, 3) := by decide +kernel
theorem d_Mo_paint_10 : decode c_Mo_paint 10 = .ok (.ifCond .ne 5, 3) := by decide +kernel
theorem d_Mo_paint_13 : decode c_Mo_paint 13 = .ok (.iconst 0, 1) := by decide +kernel
theorem d_Mo_paint_14 : decode c_Mo_paint 14 = .ok (.ireturn, 1) := by decide +kernel
theorem d_Mo_paint_15 : decode c_Mo_paint 15 = .ok (.aload_n 0, 1) := by decide +kernel
theorem d_Mo_paint_16 : decode c_Mo_paint 16 = .ok (.iload_n 1, 1) := by decide +kernel
theorem d_Mo_paint_17 : decode c_Mo_paint 17 = .ok (.iload_n 2, 1) := by decide +kernel
theorem d_Mo_paint_18 : decode c_Mo_paint 18 = .ok (.iload_n 3, 1) := by decide +kernel
theorem d_Mo_paint_19 : decode c_Mo_paint 19 = .ok (.invokevirtual 91, 3) := by decide +kernel
theorem d_Mo_paint_22 : decode c_Mo_paint 22 = .ok (.iconst 0, 1) := by decide +kernel
theorem d_Mo_paint_23 : decode c_Mo_paint 23 = .ok (.istore 5, 2) := by decide +kernel
theorem d_Mo_paint_25 : decode c_Mo_paint 25 = .ok (.iload 5, 2) := by decide +kernel
theorem d_Mo_paint_27 : decode c_Mo_paint 27 = .ok (.iload_n 3, 1) := by decide +kernel
theorem d_Mo_paint_28 : decode c_Mo_paint 28 = .ok (.if_icmp .ge 26, 3) := by decide +kernel
theorem d_Mo_paint_31 : decode c_Mo_paint 31 = .ok (.aload_n 0, 1) := by decide +kernel
theorem d_Mo_paint_32 : decode c_Mo_paint 32 = .ok (.iload_n 1, 1) := by decide +kernel
theorem d_Mo_paint_33 : decode c_Mo_paint 33 = .ok (.iload_n 2, 1) := by decide +kernel
theorem d_Mo_paint_34 : decode c_Mo_paint 34 = .ok (.iload 5, 2) := by decide +kernel
theorem d_Mo_paint_36 : decode c_Mo_paint 36 = .ok (.iadd, 1) := by decide +kernel
theorem d_Mo_paint_37 : decode c_Mo_paint 37 = .ok (.iload 4, 2) := by decide +kernel
theorem d_Mo_paint_39 : decode c_Mo_paint 39 = .ok (.bipush 7, 2) := by decide +kernel
theorem d_Mo_paint_41 : decode c_Mo_paint 41 = .ok (.iload 5, 2) := by decide +kernel
theorem d_Mo_paint_43 : decode c_Mo_paint 43 = .ok (.imul, 1) := by decide +kernel
theorem d_Mo_paint_44 : decode c_Mo_paint 44 = .ok (.iadd, 1) := by decide +kernel
theorem d_Mo_paint_45 : decode c_Mo_paint 45 = .ok (.invokevirtual 95, 3) := by decide +kernel
theorem d_Mo_paint_48 : decode c_Mo_paint 48 = .ok (.iinc 5 1, 3) := by decide +kernel
theorem d_Mo_paint_51 : decode c_Mo_paint 51 = .ok (.goto (-26), 3) := by decide +kernel
theorem d_Mo_paint_54 : decode c_Mo_paint 54 = .ok (.aload_n 0, 1) := by decide +kernel
theorem d_Mo_paint_55 : decode c_Mo_paint 55 = .ok (.getfield 25, 3) := by decide +kernel
theorem d_Mo_paint_58 : decode c_Mo_paint 58 = .ok (.iload_n 1, 1) := by decide +kernel
theorem d_Mo_paint_59 : decode c_Mo_paint 59 = .ok (.iaload, 1) := by decide +kernel
theorem d_Mo_paint_60 : decode c_Mo_paint 60 = .ok (.ireturn, 1) := by decide +kernel
theorem d_Mo_read_0 : decode c_Mo_read 0 = .ok (.aload_n 0, 1) := by decide +kernel
theorem d_Mo_read_1 : decode c_Mo_read 1 = .ok (.aload_n 0, 1) := by decide +kernel
theorem d_Mo_read_2 : decode c_Mo_read 2 = .ok (.iload_n 1, 1) := by decide +kernel
theorem d_Mo_read_3 : decode c_Mo_read 3 = .ok (.invokevirtual 50, 3) := by decide +kernel
theorem d_Mo_read_6 : decode c_Mo_read 6 = .ok (.ifCond .ne 7, 3) := by decide +kernel
theorem d_Mo_read_9 : decode c_Mo_read 9 = .ok (.iconst 1, 1) := by decide +kernel
theorem d_Mo_read_10 : decode c_Mo_read 10 = .ok (.goto 38, 3) := by decide +kernel
theorem d_Mo_read_13 : decode c_Mo_read 13 = .ok (.iload_n 2, 1) := by decide +kernel
theorem d_Mo_read_14 : decode c_Mo_read 14 = .ok (.i2l, 1) := by decide +kernel
theorem d_Mo_read_15 : decode c_Mo_read 15 = .ok (.lconst 0, 1) := by decide +kernel
theorem d_Mo_read_16 : decode c_Mo_read 16 = .ok (.aload_n 0, 1) := by decide +kernel
theorem d_Mo_read_17 : decode c_Mo_read 17 = .ok (.getfield 25, 3) := by decide +kernel
theorem d_Mo_read_20 : decode c_Mo_read 20 = .ok (.aload_n 0, 1) := by decide +kernel
theorem d_Mo_read_21 : decode c_Mo_read 21 = .ok (.iload_n 1, 1) := by decide +kernel
theorem d_Mo_read_22 : decode c_Mo_read 22 = .ok (.invokevirtual 50, 3) := by decide +kernel
theorem d_Mo_read_25 : decode c_Mo_read 25 = .ok (.ifCond .eq 7, 3) := by decide +kernel
theorem d_Mo_read_28 : decode c_Mo_read 28 = .ok (.iload_n 1, 1) := by decide +kernel
theorem d_Mo_read_29 : decode c_Mo_read 29 = .ok (.goto 4, 3) := by decide +kernel
theorem d_Mo_read_32 : decode c_Mo_read 32 = .ok (.iconst 0, 1) := by decide +kernel
theorem d_Mo_read_33 : decode c_Mo_read 33 = .ok (.iaload, 1) := by decide +kernel
theorem d_Mo_read_34 : decode c_Mo_read 34 = .ok (.iconst 1, 1) := by decide +kernel
theorem d_Mo_read_35 : decode c_Mo_read 35 = .ok (.isub, 1) := by decide +kernel
theorem d_Mo_read_36 : decode c_Mo_read 36 = .ok (.i2l, 1) := by decide +kernel
theorem d_Mo_read_37 : decode c_Mo_read 37 = .ok (.invokestatic 46, 3) := by decide +kernel
theorem d_Mo_read_40 : decode c_Mo_read 40 = .ok (.ifCond .ne 7, 3) := by decide +kernel
theorem d_Mo_read_43 : decode c_Mo_read 43 = .ok (.iconst 2, 1) := by decide +kernel
theorem d_Mo_read_44 : decode c_Mo_read 44 = .ok (.goto 4, 3) := by decide +kernel
theorem d_Mo_read_47 : decode c_Mo_read 47 = .ok (.iconst 0, 1) := by decide +kernel
theorem d_Mo_read_48 : decode c_Mo_read 48 = .ok (.putfield 40, 3) := by decide +kernel
theorem d_Mo_read_51 : decode c_Mo_read 51 = .ok (.aload_n 0, 1) := by decide +kernel
theorem d_Mo_read_52 : decode c_Mo_read 52 = .ok (.getfield 40, 3) := by decide +kernel
theorem d_Mo_read_55 : decode c_Mo_read 55 = .ok (.ifCond .le 5, 3) := by decide +kernel
theorem d_Mo_read_58 : decode c_Mo_read 58 = .ok (.iconst 0, 1) := by decide +kernel
theorem d_Mo_read_59 : decode c_Mo_read 59 = .ok (.ireturn, 1) := by decide +kernel
theorem d_Mo_read_60 : decode c_Mo_read 60 = .ok (.aload_n 0, 1) := by decide +kernel
theorem d_Mo_read_61 : decode c_Mo_read 61 = .ok (.getfield 18, 3) := by decide +kernel
theorem d_Mo_read_64 : decode c_Mo_read 64 = .ok (.iload_n 1, 1) := by decide +kernel
theorem d_Mo_read_65 : decode c_Mo_read 65 = .ok (.iaload, 1) := by decide +kernel
theorem d_Mo_read_66 : decode c_Mo_read 66 = .ok (.iconst 3, 1) := by decide +kernel
theorem d_Mo_read_67 : decode c_Mo_read 67 = .ok (.if_icmp .ne 30, 3) := by decide +kernel
theorem d_Mo_read_70 : decode c_Mo_read 70 = .ok (.aload_n 0, 1) := by decide +kernel
theorem d_Mo_read_71 : decode c_Mo_read 71 = .ok (.getfield 25, 3) := by decide +kernel
theorem d_Mo_read_74 : decode c_Mo_read 74 = .ok (.iload_n 1, 1) := by decide +kernel
theorem d_Mo_read_75 : decode c_Mo_read 75 = .ok (.iaload, 1) := by decide +kernel
theorem d_Mo_read_76 : decode c_Mo_read 76 = .ok (.bipush 60, 2) := by decide +kernel
theorem d_Mo_read_78 : decode c_Mo_read 78 = .ok (.if_icmp .ge 19, 3) := by decide +kernel
theorem d_Mo_read_81 : decode c_Mo_read 81 = .ok (.aload_n 0, 1) := by decide +kernel
theorem d_Mo_read_82 : decode c_Mo_read 82 = .ok (.getfield 37, 3) := by decide +kernel
theorem d_Mo_read_85 : decode c_Mo_read 85 = .ok (.bipush 60, 2) := by decide +kernel
theorem d_Mo_read_87 : decode c_Mo_read 87 = .ok (.iload_n 1, 1) := by decide +kernel
theorem d_Mo_read_88 : decode c_Mo_read 88 = .ok (.imul, 1) := by decide +kernel
theorem d_Mo_read_89 : decode c_Mo_read 89 = .ok (.iload_n 2, 1) := by decide +kernel
theorem d_Mo_read_90 : decode c_Mo_read 90 = .ok (.iadd, 1) := by decide +kernel
theorem d_Mo_read_91 : decode c_Mo_read 91 = .ok (.baload, 1) := by decide +kernel
theorem d_Mo_read_92 : decode c_Mo_read 92 = .ok (.sipush 255, 3) := by decide +kernel
theorem d_Mo_read_95 : decode c_Mo_read 95 = .ok (.iand, 1) := by decide +kernel
theorem d_Mo_read_96 : decode c_Mo_read 96 = .ok (.ireturn, 1) := by decide +kernel
theorem d_Mo_read_97 : decode c_Mo_read 97 = .ok (.aload_n 0, 1) := by decide +kernel
theorem d_Mo_read_98 : decode c_Mo_read 98 = .ok (.getfield 34, 3) := by decide +kernel
theorem d_Mo_read_101 : decode c_Mo_read 101 = .ok (.bipush 15, 2) := by decide +kernel
theorem d_Mo_read_103 : decode c_Mo_read 103 = .ok (.iload_n 1, 1) := by decide +kernel
theorem d_Mo_read_104 : decode c_Mo_read 104 = .ok (.imul, 1) := by decide +kernel
theorem d_Mo_read_105 : decode c_Mo_read 105 = .ok (.iload_n 2, 1) := by decide +kernel
theorem d_Mo_read_106 : decode c_Mo_read 106 = .ok (.sipush 1024, 3) := by decide +kernel
theorem d_Mo_read_109 : decode c_Mo_read 109 = .ok (.idiv, 1) := by decide +kernel
theorem d_Mo_read_110 : decode c_Mo_read 110 = .ok (.iadd, 1) := by decide +kernel
theorem d_Mo_read_111 : decode c_Mo_read 111 = .ok (.iaload, 1) := by decide +kernel
theorem d_Mo_read_112 : decode c_Mo_read 112 = .ok (.istore_n 3, 1) := by decide +kernel
theorem d_Mo_read_113 : decode c_Mo_read 113 = .ok (.iload_n 3, 1) := by decide +kernel
theorem d_Mo_read_114 : decode c_Mo_read 114 = .ok (.ifCond .ne 7, 3) := by decide +kernel
theorem d_Mo_read_117 : decode c_Mo_read 117 = .ok (.iconst 0, 1) := by decide +kernel
theorem d_Mo_read_118 : decode c_Mo_read 118 = .ok (.goto 23, 3) := by decide +kernel
theorem d_Mo_read_121 : decode c_Mo_read 121 = .ok (.aload_n 0, 1) := by decide +kernel
theorem d_Mo_read_122 : decode c_Mo_read 122 = .ok (.getfield 8, 3) := by decide +kernel
theorem d_Mo_read_125 : decode c_Mo_read 125 = .ok (.sipush 1024, 3) := by decide +kernel
theorem d_Mo_read_128 : decode c_Mo_read 128 = .ok (.iload_n 3, 1) := by decide +kernel
theorem d_Mo_read_129 : decode c_Mo_read 129 = .ok (.imul, 1) := by decide +kernel
theorem d_Mo_read_130 : decode c_Mo_read 130 = .ok (.iload_n 2, 1) := by decide +kernel
theorem d_Mo_read_131 : decode c_Mo_read 131 = .ok (.sipush 1024, 3) := by decide +kernel
theorem d_Mo_read_134 : decode c_Mo_read 134 = .ok (.irem, 1) := by decide +kernel
theorem d_Mo_read_135 : decode c_Mo_read 135 = .ok (.iadd, 1) := by decide +kernel
theorem d_Mo_read_136 : decode c_Mo_read 136 = .ok (.baload, 1) := by decide +kernel
theorem d_Mo_read_137 : decode c_Mo_read 137 = .ok (.sipush 255, 3) := by decide +kernel
theorem d_Mo_read_140 : decode c_Mo_read 140 = .ok (.iand, 1) := by decide +kernel
theorem d_Mo_read_141 : decode c_Mo_read 141 = .ok (.ireturn, 1) := by decide +kernel
theorem d_Mo_cut_0 : decode c_Mo_cut 0 = .ok (.aload_n 0, 1) := by decide +kernel
theorem d_Mo_cut_1 : decode c_Mo_cut 1 = .ok (.aload_n 0, 1) := by decide +kernel
theorem d_Mo_cut_2 : decode c_Mo_cut 2 = .ok (.iload_n 1, 1) := by decide +kernel
theorem d_Mo_cut_3 : decode c_Mo_cut 3 = .ok (.invokevirtual 78, 3) := by decide +kernel
theorem d_Mo_cut_6 : decode c_Mo_cut 6 = .ok (.ifCond .eq 19, 3) := by decide +kernel
theorem d_Mo_cut_9 : decode c_Mo_cut 9 = .ok (.iload_n 2, 1) := by decide +kernel
theorem d_Mo_cut_10 : decode c_Mo_cut 10 = .ok (.i2l, 1) := by decide +kernel
theorem d_Mo_cut_11 : decode c_Mo_cut 11 = .ok (.lconst 0, 1) := by decide +kernel
theorem d_Mo_cut_12 : decode c_Mo_cut 12 = .ok (.ldc2_w 81, 3) := by decide +kernel
theorem d_Mo_cut_15 : decode c_Mo_cut 15 = .ok (.invokestatic 46, 3) := by decide +kernel
theorem d_Mo_cut_18 : decode c_Mo_cut 18 = .ok (.ifCond .eq 7, 3) := by decide +kernel
theorem d_Mo_cut_21 : decode c_Mo_cut 21 = .ok (.iconst 0, 1) := by decide +kernel
theorem d_Mo_cut_22 : decode c_Mo_cut 22 = .ok (.goto 4, 3) := by decide +kernel
theorem d_Mo_cut_25 : decode c_Mo_cut 25 = .ok (.iconst 1, 1) := by decide +kernel
theorem d_Mo_cut_26 : decode c_Mo_cut 26 = .ok (.putfield 40, 3) := by decide +kernel
theorem d_Mo_cut_29 : decode c_Mo_cut 29 = .ok (.aload_n 0, 1) := by decide +kernel
theorem d_Mo_cut_30 : decode c_Mo_cut 30 = .ok (.getfield 40, 3) := by decide +kernel
theorem d_Mo_cut_33 : decode c_Mo_cut 33 = .ok (.ifCond .le 5, 3) := by decide +kernel
theorem d_Mo_cut_36 : decode c_Mo_cut 36 = .ok (.iconst 0, 1) := by decide +kernel
theorem d_Mo_cut_37 : decode c_Mo_cut 37 = .ok (.ireturn, 1) := by decide +kernel
theorem d_Mo_cut_38 : decode c_Mo_cut 38 = .ok (.aload_n 0, 1) := by decide +kernel
theorem d_Mo_cut_39 : decode c_Mo_cut 39 = .ok (.getfield 25, 3) := by decide +kernel
theorem d_Mo_cut_42 : decode c_Mo_cut 42 = .ok (.iload_n 1, 1) := by decide +kernel
theorem d_Mo_cut_43 : decode c_Mo_cut 43 = .ok (.iaload, 1) := by decide +kernel
theorem d_Mo_cut_44 : decode c_Mo_cut 44 = .ok (.istore_n 3, 1) := by decide +kernel
theorem d_Mo_cut_45 : decode c_Mo_cut 45 = .ok (.iconst 0, 1) := by decide +kernel
theorem d_Mo_cut_46 : decode c_Mo_cut 46 = .ok (.istore 4, 2) := by decide +kernel
theorem d_Mo_cut_48 : decode c_Mo_cut 48 = .ok (.iload 4, 2) := by decide +kernel
theorem d_Mo_cut_50 : decode c_Mo_cut 50 = .ok (.bipush 15, 2) := by decide +kernel
theorem d_Mo_cut_52 : decode c_Mo_cut 52 = .ok (.if_icmp .ge 26, 3) := by decide +kernel
theorem d_Mo_cut_55 : decode c_Mo_cut 55 = .ok (.sipush 1024, 3) := by decide +kernel
theorem d_Mo_cut_58 : decode c_Mo_cut 58 = .ok (.iload 4, 2) := by decide +kernel
theorem d_Mo_cut_60 : decode c_Mo_cut 60 = .ok (.imul, 1) := by decide +kernel
theorem d_Mo_cut_61 : decode c_Mo_cut 61 = .ok (.iload_n 2, 1) := by decide +kernel
theorem d_Mo_cut_62 : decode c_Mo_cut 62 = .ok (.if_icmp .lt 10, 3) := by decide +kernel
theorem d_Mo_cut_65 : decode c_Mo_cut 65 = .ok (.aload_n 0, 1) := by decide +kernel
theorem d_Mo_cut_66 : decode c_Mo_cut 66 = .ok (.iload_n 1, 1) := by decide +kernel
theorem d_Mo_cut_67 : decode c_Mo_cut 67 = .ok (.iload 4, 2) := by decide +kernel
theorem d_Mo_cut_69 : decode c_Mo_cut 69 = .ok (.invokevirtual 98, 3) := by decide +kernel
theorem d_Mo_cut_72 : decode c_Mo_cut 72 = .ok (.iinc 4 1, 3) := by decide +kernel
theorem d_Mo_cut_75 : decode c_Mo_cut 75 = .ok (.goto (-27), 3) := by decide +kernel
theorem d_Mo_cut_78 : decode c_Mo_cut 78 = .ok (.iload_n 2, 1) := by decide +kernel
theorem d_Mo_cut_79 : decode c_Mo_cut 79 = .ok (.istore 4, 2) := by decide +kernel
theorem d_Mo_cut_81 : decode c_Mo_cut 81 = .ok (.iload 4, 2) := by decide +kernel
theorem d_Mo_cut_83 : decode c_Mo_cut 83 = .ok (.iload_n 3, 1) := by decide +kernel
theorem d_Mo_cut_84 : decode c_Mo_cut 84 = .ok (.if_icmp .ge 60, 3) := by decide +kernel
theorem d_Mo_cut_87 : decode c_Mo_cut 87 = .ok (.iload 4, 2) := by decide +kernel
theorem d_Mo_cut_89 : decode c_Mo_cut 89 = .ok (.sipush 1024, 3) := by decide +kernel
theorem d_Mo_cut_92 : decode c_Mo_cut 92 = .ok (.irem, 1) := by decide +kernel
theorem d_Mo_cut_93 : decode c_Mo_cut 93 = .ok (.ifCond .eq 51, 3) := by decide +kernel
theorem d_Mo_cut_96 : decode c_Mo_cut 96 = .ok (.aload_n 0, 1) := by decide +kernel
theorem d_Mo_cut_97 : decode c_Mo_cut 97 = .ok (.getfield 34, 3) := by decide +kernel
theorem d_Mo_cut_100 : decode c_Mo_cut 100 = .ok (.bipush 15, 2) := by decide +kernel
theorem d_Mo_cut_102 : decode c_Mo_cut 102 = .ok (.iload_n 1, 1) := by decide +kernel
theorem d_Mo_cut_103 : decode c_Mo_cut 103 = .ok (.imul, 1) := by decide +kernel
theorem d_Mo_cut_104 : decode c_Mo_cut 104 = .ok (.iload 4, 2) := by decide +kernel
theorem d_Mo_cut_106 : decode c_Mo_cut 106 = .ok (.sipush 1024, 3) := by decide +kernel
theorem d_Mo_cut_109 : decode c_Mo_cut 109 = .ok (.idiv, 1) := by decide +kernel
theorem d_Mo_cut_110 : decode c_Mo_cut 110 = .ok (.iadd, 1) := by decide +kernel
theorem d_Mo_cut_111 : decode c_Mo_cut 111 = .ok (.iaload, 1) := by decide +kernel
theorem d_Mo_cut_112 : decode c_Mo_cut 112 = .ok (.istore 5, 2) := by decide +kernel
theorem d_Mo_cut_114 : decode c_Mo_cut 114 = .ok (.iload 5, 2) := by decide +kernel
theorem d_Mo_cut_116 : decode c_Mo_cut 116 = .ok (.ifCond .le 22, 3) := by decide +kernel
theorem d_Mo_cut_119 : decode c_Mo_cut 119 = .ok (.aload_n 0, 1) := by decide +kernel
theorem d_Mo_cut_120 : decode c_Mo_cut 120 = .ok (.getfield 8, 3) := by decide +kernel
theorem d_Mo_cut_123 : decode c_Mo_cut 123 = .ok (.sipush 1024, 3) := by decide +kernel
theorem d_Mo_cut_126 : decode c_Mo_cut 126 = .ok (.iload 5, 2) := by decide +kernel
theorem d_Mo_cut_128 : decode c_Mo_cut 128 = .ok (.imul, 1) := by decide +kernel
theorem d_Mo_cut_129 : decode c_Mo_cut 129 = .ok (.iload 4, 2) := by decide +kernel
theorem d_Mo_cut_131 : decode c_Mo_cut 131 = .ok (.sipush 1024, 3) := by decide +kernel
theorem d_Mo_cut_134 : decode c_Mo_cut 134 = .ok (.irem, 1) := by decide +kernel
theorem d_Mo_cut_135 : decode c_Mo_cut 135 = .ok (.iadd, 1) := by decide +kernel
theorem d_Mo_cut_136 : decode c_Mo_cut 136 = .ok (.iconst 0, 1) := by decide +kernel
theorem d_Mo_cut_137 : decode c_Mo_cut 137 = .ok (.bastore, 1) := by decide +kernel
theorem d_Mo_cut_138 : decode c_Mo_cut 138 = .ok (.iinc 4 1, 3) := by decide +kernel
theorem d_Mo_cut_141 : decode c_Mo_cut 141 = .ok (.goto (-60), 3) := by decide +kernel
theorem d_Mo_cut_144 : decode c_Mo_cut 144 = .ok (.aload_n 0, 1) := by decide +kernel
theorem d_Mo_cut_145 : decode c_Mo_cut 145 = .ok (.getfield 25, 3) := by decide +kernel
theorem d_Mo_cut_148 : decode c_Mo_cut 148 = .ok (.iload_n 1, 1) := by decide +kernel
theorem d_Mo_cut_149 : decode c_Mo_cut 149 = .ok (.iload_n 2, 1) := by decide +kernel
theorem d_Mo_cut_150 : decode c_Mo_cut 150 = .ok (.iastore, 1) := by decide +kernel
theorem d_Mo_cut_151 : decode c_Mo_cut 151 = .ok (.iload_n 3, 1) := by decide +kernel
theorem d_Mo_cut_152 : decode c_Mo_cut 152 = .ok (.ireturn, 1) := by decide +kernel
theorem d_Mo_giveBack_0 : decode c_Mo_giveBack 0 = .ok (.aload_n 0, 1) := by decide +kernel
theorem d_Mo_giveBack_1 : decode c_Mo_giveBack 1 = .ok (.getfield 34, 3) := by decide +kernel
theorem d_Mo_giveBack_4 : decode c_Mo_giveBack 4 = .ok (.bipush 15, 2) := by decide +kernel
theorem d_Mo_giveBack_6 : decode c_Mo_giveBack 6 = .ok (.iload_n 1, 1) := by decide +kernel
theorem d_Mo_giveBack_7 : decode c_Mo_giveBack 7 = .ok (.imul, 1) := by decide +kernel
theorem d_Mo_giveBack_8 : decode c_Mo_giveBack 8 = .ok (.iload_n 2, 1) := by decide +kernel
theorem d_Mo_giveBack_9 : decode c_Mo_giveBack 9 = .ok (.iadd, 1) := by decide +kernel
theorem d_Mo_giveBack_10 : decode c_Mo_giveBack 10 = .ok (.iaload, 1) := by decide +kernel
theorem d_Mo_giveBack_11 : decode c_Mo_giveBack 11 = .ok (.istore_n 3, 1) := by decide +kernel
theorem d_Mo_giveBack_12 : decode c_Mo_giveBack 12 = .ok (.iload_n 3, 1) := by decide +kernel
theorem d_Mo_giveBack_13 : decode c_Mo_giveBack 13 = .ok (.ifCond .le 22, 3) := by decide +kernel
theorem d_Mo_giveBack_16 : decode c_Mo_giveBack 16 = .ok (.aload_n 0, 1) := by decide +kernel
theorem d_Mo_giveBack_17 : decode c_Mo_giveBack 17 = .ok (.getfield 14, 3) := by decide +kernel
theorem d_Mo_giveBack_20 : decode c_Mo_giveBack 20 = .ok (.iload_n 3, 1) := by decide +kernel
theorem d_Mo_giveBack_21 : decode c_Mo_giveBack 21 = .ok (.iconst 0, 1) := by decide +kernel
theorem d_Mo_giveBack_22 : decode c_Mo_giveBack 22 = .ok (.bastore, 1) := by decide +kernel
theorem d_Mo_giveBack_23 : decode c_Mo_giveBack 23 = .ok (.aload_n 0, 1) := by decide +kernel
theorem d_Mo_giveBack_24 : decode c_Mo_giveBack 24 = .ok (.getfield 34, 3) := by decide +kernel
theorem d_Mo_giveBack_27 : decode c_Mo_giveBack 27 = .ok (.bipush 15, 2) := by decide +kernel
theorem d_Mo_giveBack_29 : decode c_Mo_giveBack 29 = .ok (.iload_n 1, 1) := by decide +kernel
theorem d_Mo_giveBack_30 : decode c_Mo_giveBack 30 = .ok (.imul, 1) := by decide +kernel
theorem d_Mo_giveBack_31 : decode c_Mo_giveBack 31 = .ok (.iload_n 2, 1) := by decide +kernel
theorem d_Mo_giveBack_32 : decode c_Mo_giveBack 32 = .ok (.iadd, 1) := by decide +kernel
theorem d_Mo_giveBack_33 : decode c_Mo_giveBack 33 = .ok (.iconst 0, 1) := by decide +kernel
theorem d_Mo_giveBack_34 : decode c_Mo_giveBack 34 = .ok (.iastore, 1) := by decide +kernel
theorem d_Mo_giveBack_35 : decode c_Mo_giveBack 35 = .ok (.return_, 1) := by decide +kernel
theorem d_Mo_links_0 : decode c_Mo_links 0 = .ok (.aload_n 0, 1) := by decide +kernel
theorem d_Mo_links_1 : decode c_Mo_links 1 = .ok (.aload_n 0, 1) := by decide +kernel
theorem d_Mo_links_2 : decode c_Mo_links 2 = .ok (.iload_n 1, 1) := by decide +kernel
theorem d_Mo_links_3 : decode c_Mo_links 3 = .ok (.invokevirtual 50, 3) := by decide +kernel
theorem d_Mo_links_6 : decode c_Mo_links 6 = .ok (.ifCond .eq 39, 3) := by decide +kernel
theorem d_Mo_links_9 : decode c_Mo_links 9 = .ok (.aload_n 0, 1) := by decide +kernel
theorem d_Mo_links_10 : decode c_Mo_links 10 = .ok (.getfield 22, 3) := by decide +kernel
theorem d_Mo_links_13 : decode c_Mo_links 13 = .ok (.aload_n 0, 1) := by decide +kernel
theorem d_Mo_links_14 : decode c_Mo_links 14 = .ok (.iload_n 1, 1) := by decide +kernel
theorem d_Mo_links_15 : decode c_Mo_links 15 = .ok (.invokevirtual 50, 3) := by decide +kernel
theorem d_Mo_links_18 : decode c_Mo_links 18 = .ok (.ifCond .eq 7, 3) := by decide +kernel
theorem d_Mo_links_21 : decode c_Mo_links 21 = .ok (.iload_n 1, 1) := by decide +kernel
theorem d_Mo_links_22 : decode c_Mo_links 22 = .ok (.goto 4, 3) := by decide +kernel
theorem d_Mo_links_25 : decode c_Mo_links 25 = .ok (.iconst 0, 1) := by decide +kernel
theorem d_Mo_links_26 : decode c_Mo_links 26 = .ok (.iaload, 1) := by decide +kernel
theorem d_Mo_links_27 : decode c_Mo_links 27 = .ok (.i2l, 1) := by decide +kernel
theorem d_Mo_links_28 : decode c_Mo_links 28 = .ok (.iload_n 2, 1) := by decide +kernel
theorem d_Mo_links_29 : decode c_Mo_links 29 = .ok (.i2l, 1) := by decide +kernel
theorem d_Mo_links_30 : decode c_Mo_links 30 = .ok (.ladd, 1) := by decide +kernel
theorem d_Mo_links_31 : decode c_Mo_links 31 = .ok (.lconst 0, 1) := by decide +kernel
theorem d_Mo_links_32 : decode c_Mo_links 32 = .ok (.ldc2_w 65, 3) := by decide +kernel
theorem d_Mo_links_35 : decode c_Mo_links 35 = .ok (.invokestatic 46, 3) := by decide +kernel
theorem d_Mo_links_38 : decode c_Mo_links 38 = .ok (.ifCond .eq 7, 3) := by decide +kernel
theorem d_Mo_links_41 : decode c_Mo_links 41 = .ok (.iconst 0, 1) := by decide +kernel
theorem d_Mo_links_42 : decode c_Mo_links 42 = .ok (.goto 4, 3) := by decide +kernel
theorem d_Mo_links_45 : decode c_Mo_links 45 = .ok (.iconst 1, 1) := by decide +kernel
theorem d_Mo_links_46 : decode c_Mo_links 46 = .ok (.putfield 40, 3) := by decide +kernel
theorem d_Mo_links_49 : decode c_Mo_links 49 = .ok (.aload_n 0, 1) := by decide +kernel
theorem d_Mo_links_50 : decode c_Mo_links 50 = .ok (.getfield 40, 3) := by decide +kernel
theorem d_Mo_links_53 : decode c_Mo_links 53 = .ok (.ifCond .le 5, 3) := by decide +kernel
theorem d_Mo_links_56 : decode c_Mo_links 56 = .ok (.iconst 0, 1) := by decide +kernel
theorem d_Mo_links_57 : decode c_Mo_links 57 = .ok (.ireturn, 1) := by decide +kernel
theorem d_Mo_links_58 : decode c_Mo_links 58 = .ok (.aload_n 0, 1) := by decide +kernel
theorem d_Mo_links_59 : decode c_Mo_links 59 = .ok (.getfield 22, 3) := by decide +kernel
theorem d_Mo_links_62 : decode c_Mo_links 62 = .ok (.iload_n 1, 1) := by decide +kernel
theorem d_Mo_links_63 : decode c_Mo_links 63 = .ok (.dup2, 1) := by decide +kernel
theorem d_Mo_links_64 : decode c_Mo_links 64 = .ok (.iaload, 1) := by decide +kernel
theorem d_Mo_links_65 : decode c_Mo_links 65 = .ok (.iload_n 2, 1) := by decide +kernel
theorem d_Mo_links_66 : decode c_Mo_links 66 = .ok (.iadd, 1) := by decide +kernel
theorem d_Mo_links_67 : decode c_Mo_links 67 = .ok (.iastore, 1) := by decide +kernel
theorem d_Mo_links_68 : decode c_Mo_links 68 = .ok (.aload_n 0, 1) := by decide +kernel
theorem d_Mo_links_69 : decode c_Mo_links 69 = .ok (.iload_n 1, 1) := by decide +kernel
theorem d_Mo_links_70 : decode c_Mo_links 70 = .ok (.aload_n 0, 1) := by decide +kernel
theorem d_Mo_links_71 : decode c_Mo_links 71 = .ok (.getfield 22, 3) := by decide +kernel
theorem d_Mo_links_74 : decode c_Mo_links 74 = .ok (.iload_n 1, 1) := by decide +kernel
theorem d_Mo_links_75 : decode c_Mo_links 75 = .ok (.iaload, 1) := by decide +kernel
theorem d_Mo_links_76 : decode c_Mo_links 76 = .ok (.ifCond .ne 7, 3) := by decide +kernel
theorem d_Mo_links_79 : decode c_Mo_links 79 = .ok (.iconst 1, 1) := by decide +kernel
theorem d_Mo_links_80 : decode c_Mo_links 80 = .ok (.goto 4, 3) := by decide +kernel
theorem d_Mo_links_83 : decode c_Mo_links 83 = .ok (.iconst 0, 1) := by decide +kernel
theorem d_Mo_links_84 : decode c_Mo_links 84 = .ok (.invokevirtual 61, 3) := by decide +kernel
theorem d_Mo_links_87 : decode c_Mo_links 87 = .ok (.aload_n 0, 1) := by decide +kernel
theorem d_Mo_links_88 : decode c_Mo_links 88 = .ok (.getfield 22, 3) := by decide +kernel
theorem d_Mo_links_91 : decode c_Mo_links 91 = .ok (.iload_n 1, 1) := by decide +kernel
theorem d_Mo_links_92 : decode c_Mo_links 92 = .ok (.iaload, 1) := by decide +kernel
theorem d_Mo_links_93 : decode c_Mo_links 93 = .ok (.ireturn, 1) := by decide +kernel
theorem d_Mo_drop_0 : decode c_Mo_drop 0 = .ok (.aload_n 0, 1) := by decide +kernel
theorem d_Mo_drop_1 : decode c_Mo_drop 1 = .ok (.aload_n 0, 1) := by decide +kernel
theorem d_Mo_drop_2 : decode c_Mo_drop 2 = .ok (.iload_n 1, 1) := by decide +kernel
theorem d_Mo_drop_3 : decode c_Mo_drop 3 = .ok (.invokevirtual 50, 3) := by decide +kernel
theorem d_Mo_drop_6 : decode c_Mo_drop 6 = .ok (.ifCond .ne 7, 3) := by decide +kernel
theorem d_Mo_drop_9 : decode c_Mo_drop 9 = .ok (.iconst 1, 1) := by decide +kernel
theorem d_Mo_drop_10 : decode c_Mo_drop 10 = .ok (.goto 17, 3) := by decide +kernel
theorem d_Mo_drop_13 : decode c_Mo_drop 13 = .ok (.aload_n 0, 1) := by decide +kernel
theorem d_Mo_drop_14 : decode c_Mo_drop 14 = .ok (.getfield 22, 3) := by decide +kernel
theorem d_Mo_drop_17 : decode c_Mo_drop 17 = .ok (.iload_n 1, 1) := by decide +kernel
theorem d_Mo_drop_18 : decode c_Mo_drop 18 = .ok (.iaload, 1) := by decide +kernel
theorem d_Mo_drop_19 : decode c_Mo_drop 19 = .ok (.ifCond .le 7, 3) := by decide +kernel
theorem d_Mo_drop_22 : decode c_Mo_drop 22 = .ok (.iconst 2, 1) := by decide +kernel
theorem d_Mo_drop_23 : decode c_Mo_drop 23 = .ok (.goto 4, 3) := by decide +kernel
theorem d_Mo_drop_26 : decode c_Mo_drop 26 = .ok (.iconst 0, 1) := by decide +kernel
theorem d_Mo_drop_27 : decode c_Mo_drop 27 = .ok (.putfield 40, 3) := by decide +kernel
theorem d_Mo_drop_30 : decode c_Mo_drop 30 = .ok (.aload_n 0, 1) := by decide +kernel
theorem d_Mo_drop_31 : decode c_Mo_drop 31 = .ok (.getfield 40, 3) := by decide +kernel
theorem d_Mo_drop_34 : decode c_Mo_drop 34 = .ok (.ifCond .le 7, 3) := by decide +kernel
theorem d_Mo_drop_37 : decode c_Mo_drop 37 = .ok (.iconst 0, 1) := by decide +kernel
theorem d_Mo_drop_38 : decode c_Mo_drop 38 = .ok (.goto 8, 3) := by decide +kernel
theorem d_Mo_drop_41 : decode c_Mo_drop 41 = .ok (.aload_n 0, 1) := by decide +kernel
theorem d_Mo_drop_42 : decode c_Mo_drop 42 = .ok (.iload_n 1, 1) := by decide +kernel
theorem d_Mo_drop_43 : decode c_Mo_drop 43 = .ok (.invokevirtual 105, 3) := by decide +kernel
theorem d_Mo_drop_46 : decode c_Mo_drop 46 = .ok (.ireturn, 1) := by decide +kernel
theorem d_Mo_go_0 : decode c_Mo_go 0 = .ok (.aload_n 0, 1) := by decide +kernel
theorem d_Mo_go_1 : decode c_Mo_go 1 = .ok (.iload_n 1, 1) := by decide +kernel
theorem d_Mo_go_2 : decode c_Mo_go 2 = .ok (.invokevirtual 101, 3) := by decide +kernel
theorem d_Mo_go_5 : decode c_Mo_go 5 = .ok (.istore_n 2, 1) := by decide +kernel
theorem d_Mo_go_6 : decode c_Mo_go 6 = .ok (.aload_n 0, 1) := by decide +kernel
theorem d_Mo_go_7 : decode c_Mo_go 7 = .ok (.iload_n 1, 1) := by decide +kernel
theorem d_Mo_go_8 : decode c_Mo_go 8 = .ok (.iconst 0, 1) := by decide +kernel
theorem d_Mo_go_9 : decode c_Mo_go 9 = .ok (.invokevirtual 61, 3) := by decide +kernel
theorem d_Mo_go_12 : decode c_Mo_go 12 = .ok (.iconst 0, 1) := by decide +kernel
theorem d_Mo_go_13 : decode c_Mo_go 13 = .ok (.istore_n 3, 1) := by decide +kernel
theorem d_Mo_go_14 : decode c_Mo_go 14 = .ok (.iload_n 3, 1) := by decide +kernel
theorem d_Mo_go_15 : decode c_Mo_go 15 = .ok (.bipush 15, 2) := by decide +kernel
theorem d_Mo_go_17 : decode c_Mo_go 17 = .ok (.if_icmp .ge 15, 3) := by decide +kernel
theorem d_Mo_go_20 : decode c_Mo_go 20 = .ok (.aload_n 0, 1) := by decide +kernel
theorem d_Mo_go_21 : decode c_Mo_go 21 = .ok (.iload_n 1, 1) := by decide +kernel
theorem d_Mo_go_22 : decode c_Mo_go 22 = .ok (.iload_n 3, 1) := by decide +kernel
theorem d_Mo_go_23 : decode c_Mo_go 23 = .ok (.invokevirtual 98, 3) := by decide +kernel
theorem d_Mo_go_26 : decode c_Mo_go 26 = .ok (.iinc 3 1, 3) := by decide +kernel
theorem d_Mo_go_29 : decode c_Mo_go 29 = .ok (.goto (-15), 3) := by decide +kernel
theorem d_Mo_go_32 : decode c_Mo_go 32 = .ok (.aload_n 0, 1) := by decide +kernel
theorem d_Mo_go_33 : decode c_Mo_go 33 = .ok (.getfield 18, 3) := by decide +kernel
theorem d_Mo_go_36 : decode c_Mo_go 36 = .ok (.iload_n 1, 1) := by decide +kernel
theorem d_Mo_go_37 : decode c_Mo_go 37 = .ok (.iconst 0, 1) := by decide +kernel
theorem d_Mo_go_38 : decode c_Mo_go 38 = .ok (.iastore, 1) := by decide +kernel
theorem d_Mo_go_39 : decode c_Mo_go 39 = .ok (.aload_n 0, 1) := by decide +kernel
theorem d_Mo_go_40 : decode c_Mo_go 40 = .ok (.getfield 25, 3) := by decide +kernel
theorem d_Mo_go_43 : decode c_Mo_go 43 = .ok (.iload_n 1, 1) := by decide +kernel
theorem d_Mo_go_44 : decode c_Mo_go 44 = .ok (.iconst 0, 1) := by decide +kernel
theorem d_Mo_go_45 : decode c_Mo_go 45 = .ok (.iastore, 1) := by decide +kernel
theorem d_Mo_go_46 : decode c_Mo_go 46 = .ok (.aload_n 0, 1) := by decide +kernel
theorem d_Mo_go_47 : decode c_Mo_go 47 = .ok (.getfield 22, 3) := by decide +kernel
theorem d_Mo_go_50 : decode c_Mo_go 50 = .ok (.iload_n 1, 1) := by decide +kernel
theorem d_Mo_go_51 : decode c_Mo_go 51 = .ok (.iconst 0, 1) := by decide +kernel
theorem d_Mo_go_52 : decode c_Mo_go 52 = .ok (.iastore, 1) := by decide +kernel
theorem d_Mo_go_53 : decode c_Mo_go 53 = .ok (.iload_n 2, 1) := by decide +kernel
theorem d_Mo_go_54 : decode c_Mo_go 54 = .ok (.ireturn, 1) := by decide +kernel
theorem d_Mo_blocksOf_0 : decode c_Mo_blocksOf 0 = .ok (.iconst 0, 1) := by decide +kernel
theorem d_Mo_blocksOf_1 : decode c_Mo_blocksOf 1 = .ok (.istore_n 2, 1) := by decide +kernel
theorem d_Mo_blocksOf_2 : decode c_Mo_blocksOf 2 = .ok (.iconst 0, 1) := by decide +kernel
theorem d_Mo_blocksOf_3 : decode c_Mo_blocksOf 3 = .ok (.istore_n 3, 1) := by decide +kernel
theorem d_Mo_blocksOf_4 : decode c_Mo_blocksOf 4 = .ok (.iload_n 3, 1) := by decide +kernel
theorem d_Mo_blocksOf_5 : decode c_Mo_blocksOf 5 = .ok (.bipush 15, 2) := by decide +kernel
theorem d_Mo_blocksOf_7 : decode c_Mo_blocksOf 7 = .ok (.if_icmp .ge 31, 3) := by decide +kernel
theorem d_Mo_blocksOf_10 : decode c_Mo_blocksOf 10 = .ok (.iload_n 2, 1) := by decide +kernel
theorem d_Mo_blocksOf_11 : decode c_Mo_blocksOf 11 = .ok (.aload_n 0, 1) := by decide +kernel
theorem d_Mo_blocksOf_12 : decode c_Mo_blocksOf 12 = .ok (.getfield 34, 3) := by decide +kernel
theorem d_Mo_blocksOf_15 : decode c_Mo_blocksOf 15 = .ok (.bipush 15, 2) := by decide +kernel
theorem d_Mo_blocksOf_17 : decode c_Mo_blocksOf 17 = .ok (.iload_n 1, 1) := by decide +kernel
theorem d_Mo_blocksOf_18 : decode c_Mo_blocksOf 18 = .ok (.imul, 1) := by decide +kernel
theorem d_Mo_blocksOf_19 : decode c_Mo_blocksOf 19 = .ok (.iload_n 3, 1) := by decide +kernel
theorem d_Mo_blocksOf_20 : decode c_Mo_blocksOf 20 = .ok (.iadd, 1) := by decide +kernel
theorem d_Mo_blocksOf_21 : decode c_Mo_blocksOf 21 = .ok (.iaload, 1) := by decide +kernel
theorem d_Mo_blocksOf_22 : decode c_Mo_blocksOf 22 = .ok (.ifCond .le 7, 3) := by decide +kernel
theorem d_Mo_blocksOf_25 : decode c_Mo_blocksOf 25 = .ok (.iconst 1, 1) := by decide +kernel
theorem d_Mo_blocksOf_26 : decode c_Mo_blocksOf 26 = .ok (.goto 4, 3) := by decide +kernel
theorem d_Mo_blocksOf_29 : decode c_Mo_blocksOf 29 = .ok (.iconst 0, 1) := by decide +kernel
theorem d_Mo_blocksOf_30 : decode c_Mo_blocksOf 30 = .ok (.iadd, 1) := by decide +kernel
theorem d_Mo_blocksOf_31 : decode c_Mo_blocksOf 31 = .ok (.istore_n 2, 1) := by decide +kernel
theorem d_Mo_blocksOf_32 : decode c_Mo_blocksOf 32 = .ok (.iinc 3 1, 3) := by decide +kernel
theorem d_Mo_blocksOf_35 : decode c_Mo_blocksOf 35 = .ok (.goto (-31), 3) := by decide +kernel
theorem d_Mo_blocksOf_38 : decode c_Mo_blocksOf 38 = .ok (.iload_n 2, 1) := by decide +kernel
theorem d_Mo_blocksOf_39 : decode c_Mo_blocksOf 39 = .ok (.ireturn, 1) := by decide +kernel
theorem d_Mo_finish_0 : decode c_Mo_finish 0 = .ok (.aload_n 0, 1) := by decide +kernel
theorem d_Mo_finish_1 : decode c_Mo_finish 1 = .ok (.iconst 0, 1) := by decide +kernel
theorem d_Mo_finish_2 : decode c_Mo_finish 2 = .ok (.putfield 40, 3) := by decide +kernel
theorem d_Mo_finish_5 : decode c_Mo_finish 5 = .ok (.iconst 0, 1) := by decide +kernel
theorem d_Mo_finish_6 : decode c_Mo_finish 6 = .ok (.istore_n 1, 1) := by decide +kernel
theorem d_Mo_finish_7 : decode c_Mo_finish 7 = .ok (.aload_n 0, 1) := by decide +kernel
theorem d_Mo_finish_8 : decode c_Mo_finish 8 = .ok (.getfield 54, 3) := by decide +kernel
theorem d_Mo_finish_11 : decode c_Mo_finish 11 = .ok (.ifCond .le 18, 3) := by decide +kernel
theorem d_Mo_finish_14 : decode c_Mo_finish 14 = .ok (.aload_n 0, 1) := by decide +kernel
theorem d_Mo_finish_15 : decode c_Mo_finish 15 = .ok (.aload_n 0, 1) := by decide +kernel
theorem d_Mo_finish_16 : decode c_Mo_finish 16 = .ok (.getfield 54, 3) := by decide +kernel
theorem d_Mo_finish_19 : decode c_Mo_finish 19 = .ok (.invokevirtual 105, 3) := by decide +kernel
theorem d_Mo_finish_22 : decode c_Mo_finish 22 = .ok (.istore_n 2, 1) := by decide +kernel
theorem d_Mo_finish_23 : decode c_Mo_finish 23 = .ok (.iinc 1 1, 3) := by decide +kernel
theorem d_Mo_finish_26 : decode c_Mo_finish 26 = .ok (.goto (-19), 3) := by decide +kernel
theorem d_Mo_finish_29 : decode c_Mo_finish 29 = .ok (.iload_n 1, 1) := by decide +kernel
theorem d_Mo_finish_30 : decode c_Mo_finish 30 = .ok (.ireturn, 1) := by decide +kernel
theorem d_Mo_about_0 : decode c_Mo_about 0 = .ok (.aload_n 0, 1) := by decide +kernel
theorem d_Mo_about_1 : decode c_Mo_about 1 = .ok (.iload_n 1, 1) := by decide +kernel
theorem d_Mo_about_2 : decode c_Mo_about 2 = .ok (.i2l, 1) := by decide +kernel
theorem d_Mo_about_3 : decode c_Mo_about 3 = .ok (.lconst 1, 1) := by decide +kernel
theorem d_Mo_about_4 : decode c_Mo_about 4 = .ok (.ldc2_w 44, 3) := by decide +kernel
theorem d_Mo_about_7 : decode c_Mo_about 7 = .ok (.invokestatic 46, 3) := by decide +kernel
theorem d_Mo_about_10 : decode c_Mo_about 10 = .ok (.ifCond .eq 19, 3) := by decide +kernel
theorem d_Mo_about_13 : decode c_Mo_about 13 = .ok (.iload_n 2, 1) := by decide +kernel
theorem d_Mo_about_14 : decode c_Mo_about 14 = .ok (.i2l, 1) := by decide +kernel
theorem d_Mo_about_15 : decode c_Mo_about 15 = .ok (.lconst 0, 1) := by decide +kernel
theorem d_Mo_about_16 : decode c_Mo_about 16 = .ok (.ldc2_w 108, 3) := by decide +kernel
theorem d_Mo_about_19 : decode c_Mo_about 19 = .ok (.invokestatic 46, 3) := by decide +kernel
theorem d_Mo_about_22 : decode c_Mo_about 22 = .ok (.ifCond .eq 7, 3) := by decide +kernel
theorem d_Mo_about_25 : decode c_Mo_about 25 = .ok (.iconst 0, 1) := by decide +kernel
theorem d_Mo_about_26 : decode c_Mo_about 26 = .ok (.goto 4, 3) := by decide +kernel
theorem d_Mo_about_29 : decode c_Mo_about 29 = .ok (.iconst 1, 1) := by decide +kernel
theorem d_Mo_about_30 : decode c_Mo_about 30 = .ok (.putfield 40, 3) := by decide +kernel
theorem d_Mo_about_33 : decode c_Mo_about 33 = .ok (.aload_n 0, 1) := by decide +kernel
theorem d_Mo_about_34 : decode c_Mo_about 34 = .ok (.getfield 40, 3) := by decide +kernel
theorem d_Mo_about_37 : decode c_Mo_about 37 = .ok (.ifCond .gt 12, 3) := by decide +kernel
theorem d_Mo_about_40 : decode c_Mo_about 40 = .ok (.aload_n 0, 1) := by decide +kernel
theorem d_Mo_about_41 : decode c_Mo_about 41 = .ok (.getfield 18, 3) := by decide +kernel
theorem d_Mo_about_44 : decode c_Mo_about 44 = .ok (.iload_n 1, 1) := by decide +kernel
theorem d_Mo_about_45 : decode c_Mo_about 45 = .ok (.iaload, 1) := by decide +kernel
theorem d_Mo_about_46 : decode c_Mo_about 46 = .ok (.ifCond .ne 5, 3) := by decide +kernel
theorem d_Mo_about_49 : decode c_Mo_about 49 = .ok (.iconst 0, 1) := by decide +kernel
theorem d_Mo_about_50 : decode c_Mo_about 50 = .ok (.ireturn, 1) := by decide +kernel
theorem d_Mo_about_51 : decode c_Mo_about 51 = .ok (.iload_n 2, 1) := by decide +kernel
theorem d_Mo_about_52 : decode c_Mo_about 52 = .ok (.tableswitch 73 0 4 #[36, 43, 50, 57, 63], 36) := by decide +kernel
theorem d_Mo_about_88 : decode c_Mo_about 88 = .ok (.aload_n 0, 1) := by decide +kernel
theorem d_Mo_about_89 : decode c_Mo_about 89 = .ok (.getfield 18, 3) := by decide +kernel
theorem d_Mo_about_92 : decode c_Mo_about 92 = .ok (.iload_n 1, 1) := by decide +kernel
theorem d_Mo_about_93 : decode c_Mo_about 93 = .ok (.iaload, 1) := by decide +kernel
theorem d_Mo_about_94 : decode c_Mo_about 94 = .ok (.ireturn, 1) := by decide +kernel
theorem d_Mo_about_95 : decode c_Mo_about 95 = .ok (.aload_n 0, 1) := by decide +kernel
theorem d_Mo_about_96 : decode c_Mo_about 96 = .ok (.getfield 22, 3) := by decide +kernel
theorem d_Mo_about_99 : decode c_Mo_about 99 = .ok (.iload_n 1, 1) := by decide +kernel
theorem d_Mo_about_100 : decode c_Mo_about 100 = .ok (.iaload, 1) := by decide +kernel
theorem d_Mo_about_101 : decode c_Mo_about 101 = .ok (.ireturn, 1) := by decide +kernel
theorem d_Mo_about_102 : decode c_Mo_about 102 = .ok (.aload_n 0, 1) := by decide +kernel
theorem d_Mo_about_103 : decode c_Mo_about 103 = .ok (.getfield 25, 3) := by decide +kernel
theorem d_Mo_about_106 : decode c_Mo_about 106 = .ok (.iload_n 1, 1) := by decide +kernel
theorem d_Mo_about_107 : decode c_Mo_about 107 = .ok (.iaload, 1) := by decide +kernel
theorem d_Mo_about_108 : decode c_Mo_about 108 = .ok (.ireturn, 1) := by decide +kernel
theorem d_Mo_about_109 : decode c_Mo_about 109 = .ok (.aload_n 0, 1) := by decide +kernel
theorem d_Mo_about_110 : decode c_Mo_about 110 = .ok (.iload_n 1, 1) := by decide +kernel
theorem d_Mo_about_111 : decode c_Mo_about 111 = .ok (.invokevirtual 101, 3) := by decide +kernel
theorem d_Mo_about_114 : decode c_Mo_about 114 = .ok (.ireturn, 1) := by decide +kernel
theorem d_Mo_about_115 : decode c_Mo_about 115 = .ok (.aload_n 0, 1) := by decide +kernel
theorem d_Mo_about_116 : decode c_Mo_about 116 = .ok (.getfield 34, 3) := by decide +kernel
theorem d_Mo_about_119 : decode c_Mo_about 119 = .ok (.bipush 15, 2) := by decide +kernel
theorem d_Mo_about_121 : decode c_Mo_about 121 = .ok (.iload_n 1, 1) := by decide +kernel
theorem d_Mo_about_122 : decode c_Mo_about 122 = .ok (.imul, 1) := by decide +kernel
theorem d_Mo_about_123 : decode c_Mo_about 123 = .ok (.iaload, 1) := by decide +kernel
theorem d_Mo_about_124 : decode c_Mo_about 124 = .ok (.ireturn, 1) := by decide +kernel
theorem d_Mo_about_125 : decode c_Mo_about 125 = .ok (.aload_n 0, 1) := by decide +kernel
theorem d_Mo_about_126 : decode c_Mo_about 126 = .ok (.getfield 28, 3) := by decide +kernel
theorem d_Mo_about_129 : decode c_Mo_about 129 = .ok (.iload_n 1, 1) := by decide +kernel
theorem d_Mo_about_130 : decode c_Mo_about 130 = .ok (.iaload, 1) := by decide +kernel
theorem d_Mo_about_131 : decode c_Mo_about 131 = .ok (.ireturn, 1) := by decide +kernel
theorem d_Mo_block_0 : decode c_Mo_block 0 = .ok (.aload_n 0, 1) := by decide +kernel
theorem d_Mo_block_1 : decode c_Mo_block 1 = .ok (.aload_n 0, 1) := by decide +kernel
theorem d_Mo_block_2 : decode c_Mo_block 2 = .ok (.iload_n 1, 1) := by decide +kernel
theorem d_Mo_block_3 : decode c_Mo_block 3 = .ok (.invokevirtual 50, 3) := by decide +kernel
theorem d_Mo_block_6 : decode c_Mo_block 6 = .ok (.ifCond .eq 19, 3) := by decide +kernel
theorem d_Mo_block_9 : decode c_Mo_block 9 = .ok (.iload_n 2, 1) := by decide +kernel
theorem d_Mo_block_10 : decode c_Mo_block 10 = .ok (.i2l, 1) := by decide +kernel
theorem d_Mo_block_11 : decode c_Mo_block 11 = .ok (.lconst 0, 1) := by decide +kernel
theorem d_Mo_block_12 : decode c_Mo_block 12 = .ok (.ldc2_w 110, 3) := by decide +kernel
theorem d_Mo_block_15 : decode c_Mo_block 15 = .ok (.invokestatic 46, 3) := by decide +kernel
theorem d_Mo_block_18 : decode c_Mo_block 18 = .ok (.ifCond .eq 7, 3) := by decide +kernel
theorem d_Mo_block_21 : decode c_Mo_block 21 = .ok (.iconst 0, 1) := by decide +kernel
theorem d_Mo_block_22 : decode c_Mo_block 22 = .ok (.goto 4, 3) := by decide +kernel
theorem d_Mo_block_25 : decode c_Mo_block 25 = .ok (.iconst 1, 1) := by decide +kernel
theorem d_Mo_block_26 : decode c_Mo_block 26 = .ok (.putfield 40, 3) := by decide +kernel
theorem d_Mo_block_29 : decode c_Mo_block 29 = .ok (.aload_n 0, 1) := by decide +kernel
theorem d_Mo_block_30 : decode c_Mo_block 30 = .ok (.getfield 40, 3) := by decide +kernel
theorem d_Mo_block_33 : decode c_Mo_block 33 = .ok (.ifCond .le 7, 3) := by decide +kernel
theorem d_Mo_block_36 : decode c_Mo_block 36 = .ok (.iconst 0, 1) := by decide +kernel
theorem d_Mo_block_37 : decode c_Mo_block 37 = .ok (.goto 14, 3) := by decide +kernel
theorem d_Mo_block_40 : decode c_Mo_block 40 = .ok (.aload_n 0, 1) := by decide +kernel
theorem d_Mo_block_41 : decode c_Mo_block 41 = .ok (.getfield 34, 3) := by decide +kernel
theorem d_Mo_block_44 : decode c_Mo_block 44 = .ok (.bipush 15, 2) := by decide +kernel
theorem d_Mo_block_46 : decode c_Mo_block 46 = .ok (.iload_n 1, 1) := by decide +kernel
theorem d_Mo_block_47 : decode c_Mo_block 47 = .ok (.imul, 1) := by decide +kernel
theorem d_Mo_block_48 : decode c_Mo_block 48 = .ok (.iload_n 2, 1) := by decide +kernel
theorem d_Mo_block_49 : decode c_Mo_block 49 = .ok (.iadd, 1) := by decide +kernel
theorem d_Mo_block_50 : decode c_Mo_block 50 = .ok (.iaload, 1) := by decide +kernel
theorem d_Mo_block_51 : decode c_Mo_block 51 = .ok (.ireturn, 1) := by decide +kernel
theorem d_Mo_count_0 : decode c_Mo_count 0 = .ok (.aload_n 0, 1) := by decide +kernel
theorem d_Mo_count_1 : decode c_Mo_count 1 = .ok (.iload_n 1, 1) := by decide +kernel
theorem d_Mo_count_2 : decode c_Mo_count 2 = .ok (.i2l, 1) := by decide +kernel
theorem d_Mo_count_3 : decode c_Mo_count 3 = .ok (.lconst 0, 1) := by decide +kernel
theorem d_Mo_count_4 : decode c_Mo_count 4 = .ok (.ldc2_w 112, 3) := by decide +kernel
theorem d_Mo_count_7 : decode c_Mo_count 7 = .ok (.invokestatic 46, 3) := by decide +kernel
theorem d_Mo_count_10 : decode c_Mo_count 10 = .ok (.ifCond .eq 7, 3) := by decide +kernel
theorem d_Mo_count_13 : decode c_Mo_count 13 = .ok (.iconst 0, 1) := by decide +kernel
theorem d_Mo_count_14 : decode c_Mo_count 14 = .ok (.goto 4, 3) := by decide +kernel
theorem d_Mo_count_17 : decode c_Mo_count 17 = .ok (.iconst 1, 1) := by decide +kernel
theorem d_Mo_count_18 : decode c_Mo_count 18 = .ok (.putfield 40, 3) := by decide +kernel
theorem d_Mo_count_21 : decode c_Mo_count 21 = .ok (.aload_n 0, 1) := by decide +kernel
theorem d_Mo_count_22 : decode c_Mo_count 22 = .ok (.getfield 40, 3) := by decide +kernel
theorem d_Mo_count_25 : decode c_Mo_count 25 = .ok (.ifCond .le 5, 3) := by decide +kernel
theorem d_Mo_count_28 : decode c_Mo_count 28 = .ok (.iconst 0, 1) := by decide +kernel
theorem d_Mo_count_29 : decode c_Mo_count 29 = .ok (.ireturn, 1) := by decide +kernel
theorem d_Mo_count_30 : decode c_Mo_count 30 = .ok (.iconst 0, 1) := by decide +kernel
theorem d_Mo_count_31 : decode c_Mo_count 31 = .ok (.istore_n 2, 1) := by decide +kernel
theorem d_Mo_count_32 : decode c_Mo_count 32 = .ok (.iconst 0, 1) := by decide +kernel
theorem d_Mo_count_33 : decode c_Mo_count 33 = .ok (.istore_n 3, 1) := by decide +kernel
theorem d_Mo_count_34 : decode c_Mo_count 34 = .ok (.iconst 1, 1) := by decide +kernel
theorem d_Mo_count_35 : decode c_Mo_count 35 = .ok (.istore 4, 2) := by decide +kernel
theorem d_Mo_count_37 : decode c_Mo_count 37 = .ok (.iload 4, 2) := by decide +kernel
theorem d_Mo_count_39 : decode c_Mo_count 39 = .ok (.bipush 12, 2) := by decide +kernel
theorem d_Mo_count_41 : decode c_Mo_count 41 = .ok (.if_icmp .gt 45, 3) := by decide +kernel
theorem d_Mo_count_44 : decode c_Mo_count 44 = .ok (.iload_n 2, 1) := by decide +kernel
theorem d_Mo_count_45 : decode c_Mo_count 45 = .ok (.aload_n 0, 1) := by decide +kernel
theorem d_Mo_count_46 : decode c_Mo_count 46 = .ok (.getfield 18, 3) := by decide +kernel
theorem d_Mo_count_49 : decode c_Mo_count 49 = .ok (.iload 4, 2) := by decide +kernel
theorem d_Mo_count_51 : decode c_Mo_count 51 = .ok (.iaload, 1) := by decide +kernel
theorem d_Mo_count_52 : decode c_Mo_count 52 = .ok (.ifCond .le 7, 3) := by decide +kernel
theorem d_Mo_count_55 : decode c_Mo_count 55 = .ok (.iconst 1, 1) := by decide +kernel
theorem d_Mo_count_56 : decode c_Mo_count 56 = .ok (.goto 4, 3) := by decide +kernel
theorem d_Mo_count_59 : decode c_Mo_count 59 = .ok (.iconst 0, 1) := by decide +kernel
theorem d_Mo_count_60 : decode c_Mo_count 60 = .ok (.iadd, 1) := by decide +kernel
theorem d_Mo_count_61 : decode c_Mo_count 61 = .ok (.istore_n 2, 1) := by decide +kernel
theorem d_Mo_count_62 : decode c_Mo_count 62 = .ok (.iload_n 3, 1) := by decide +kernel
theorem d_Mo_count_63 : decode c_Mo_count 63 = .ok (.aload_n 0, 1) := by decide +kernel
theorem d_Mo_count_64 : decode c_Mo_count 64 = .ok (.getfield 31, 3) := by decide +kernel
theorem d_Mo_count_67 : decode c_Mo_count 67 = .ok (.iload 4, 2) := by decide +kernel
theorem d_Mo_count_69 : decode c_Mo_count 69 = .ok (.baload, 1) := by decide +kernel
theorem d_Mo_count_70 : decode c_Mo_count 70 = .ok (.ifCond .eq 7, 3) := by decide +kernel
theorem d_Mo_count_73 : decode c_Mo_count 73 = .ok (.iconst 1, 1) := by decide +kernel
theorem d_Mo_count_74 : decode c_Mo_count 74 = .ok (.goto 4, 3) := by decide +kernel
theorem d_Mo_count_77 : decode c_Mo_count 77 = .ok (.iconst 0, 1) := by decide +kernel
theorem d_Mo_count_78 : decode c_Mo_count 78 = .ok (.iadd, 1) := by decide +kernel
theorem d_Mo_count_79 : decode c_Mo_count 79 = .ok (.istore_n 3, 1) := by decide +kernel
theorem d_Mo_count_80 : decode c_Mo_count 80 = .ok (.iinc 4 1, 3) := by decide +kernel
theorem d_Mo_count_83 : decode c_Mo_count 83 = .ok (.goto (-46), 3) := by decide +kernel
theorem d_Mo_count_86 : decode c_Mo_count 86 = .ok (.iload_n 1, 1) := by decide +kernel
theorem d_Mo_count_87 : decode c_Mo_count 87 = .ok (.ifCond .ne 10, 3) := by decide +kernel
theorem d_Mo_count_90 : decode c_Mo_count 90 = .ok (.aload_n 0, 1) := by decide +kernel
theorem d_Mo_count_91 : decode c_Mo_count 91 = .ok (.invokevirtual 71, 3) := by decide +kernel
theorem d_Mo_count_94 : decode c_Mo_count 94 = .ok (.goto 25, 3) := by decide +kernel
theorem d_Mo_count_97 : decode c_Mo_count 97 = .ok (.iload_n 1, 1) := by decide +kernel
theorem d_Mo_count_98 : decode c_Mo_count 98 = .ok (.iconst 1, 1) := by decide +kernel
theorem d_Mo_count_99 : decode c_Mo_count 99 = .ok (.if_icmp .ne 7, 3) := by decide +kernel
theorem d_Mo_count_102 : decode c_Mo_count 102 = .ok (.iload_n 2, 1) := by decide +kernel
theorem d_Mo_count_103 : decode c_Mo_count 103 = .ok (.goto 16, 3) := by decide +kernel
theorem d_Mo_count_106 : decode c_Mo_count 106 = .ok (.iload_n 1, 1) := by decide +kernel
theorem d_Mo_count_107 : decode c_Mo_count 107 = .ok (.iconst 2, 1) := by decide +kernel
theorem d_Mo_count_108 : decode c_Mo_count 108 = .ok (.if_icmp .ne 7, 3) := by decide +kernel
theorem d_Mo_count_111 : decode c_Mo_count 111 = .ok (.iload_n 3, 1) := by decide +kernel
theorem d_Mo_count_112 : decode c_Mo_count 112 = .ok (.goto 7, 3) := by decide +kernel
theorem d_Mo_count_115 : decode c_Mo_count 115 = .ok (.aload_n 0, 1) := by decide +kernel
theorem d_Mo_count_116 : decode c_Mo_count 116 = .ok (.getfield 54, 3) := by decide +kernel
theorem d_Mo_count_119 : decode c_Mo_count 119 = .ok (.ireturn, 1) := by decide +kernel
theorem d_Mo_byteOf_0 : decode c_Mo_byteOf 0 = .ok (.aload_n 0, 1) := by decide +kernel
theorem d_Mo_byteOf_1 : decode c_Mo_byteOf 1 = .ok (.iload_n 1, 1) := by decide +kernel
theorem d_Mo_byteOf_2 : decode c_Mo_byteOf 2 = .ok (.i2l, 1) := by decide +kernel
theorem d_Mo_byteOf_3 : decode c_Mo_byteOf 3 = .ok (.lconst 0, 1) := by decide +kernel
theorem d_Mo_byteOf_4 : decode c_Mo_byteOf 4 = .ok (.ldc2_w 112, 3) := by decide +kernel
theorem d_Mo_byteOf_7 : decode c_Mo_byteOf 7 = .ok (.invokestatic 46, 3) := by decide +kernel
theorem d_Mo_byteOf_10 : decode c_Mo_byteOf 10 = .ok (.ifCond .eq 19, 3) := by decide +kernel
theorem d_Mo_byteOf_13 : decode c_Mo_byteOf 13 = .ok (.iload_n 2, 1) := by decide +kernel
theorem d_Mo_byteOf_14 : decode c_Mo_byteOf 14 = .ok (.i2l, 1) := by decide +kernel
theorem d_Mo_byteOf_15 : decode c_Mo_byteOf 15 = .ok (.lconst 0, 1) := by decide +kernel
theorem d_Mo_byteOf_16 : decode c_Mo_byteOf 16 = .ok (.ldc2_w 119, 3) := by decide +kernel
theorem d_Mo_byteOf_19 : decode c_Mo_byteOf 19 = .ok (.invokestatic 46, 3) := by decide +kernel
theorem d_Mo_byteOf_22 : decode c_Mo_byteOf 22 = .ok (.ifCond .eq 7, 3) := by decide +kernel
theorem d_Mo_byteOf_25 : decode c_Mo_byteOf 25 = .ok (.iconst 0, 1) := by decide +kernel
theorem d_Mo_byteOf_26 : decode c_Mo_byteOf 26 = .ok (.goto 4, 3) := by decide +kernel
theorem d_Mo_byteOf_29 : decode c_Mo_byteOf 29 = .ok (.iconst 1, 1) := by decide +kernel
theorem d_Mo_byteOf_30 : decode c_Mo_byteOf 30 = .ok (.putfield 40, 3) := by decide +kernel
theorem d_Mo_byteOf_33 : decode c_Mo_byteOf 33 = .ok (.aload_n 0, 1) := by decide +kernel
theorem d_Mo_byteOf_34 : decode c_Mo_byteOf 34 = .ok (.getfield 40, 3) := by decide +kernel
theorem d_Mo_byteOf_37 : decode c_Mo_byteOf 37 = .ok (.ifCond .le 5, 3) := by decide +kernel
theorem d_Mo_byteOf_40 : decode c_Mo_byteOf 40 = .ok (.iconst 0, 1) := by decide +kernel
theorem d_Mo_byteOf_41 : decode c_Mo_byteOf 41 = .ok (.ireturn, 1) := by decide +kernel
theorem d_Mo_byteOf_42 : decode c_Mo_byteOf 42 = .ok (.iload_n 1, 1) := by decide +kernel
theorem d_Mo_byteOf_43 : decode c_Mo_byteOf 43 = .ok (.ifCond .ne 19, 3) := by decide +kernel
theorem d_Mo_byteOf_46 : decode c_Mo_byteOf 46 = .ok (.aload_n 0, 1) := by decide +kernel
theorem d_Mo_byteOf_47 : decode c_Mo_byteOf 47 = .ok (.getfield 54, 3) := by decide +kernel
theorem d_Mo_byteOf_50 : decode c_Mo_byteOf 50 = .ok (.iload_n 2, 1) := by decide +kernel
theorem d_Mo_byteOf_51 : decode c_Mo_byteOf 51 = .ok (.sipush 232, 3) := by decide +kernel
theorem d_Mo_byteOf_54 : decode c_Mo_byteOf 54 = .ok (.isub, 1) := by decide +kernel
theorem d_Mo_byteOf_55 : decode c_Mo_byteOf 55 = .ok (.iconst 4, 1) := by decide +kernel
theorem d_Mo_byteOf_56 : decode c_Mo_byteOf 56 = .ok (.invokestatic 114, 3) := by decide +kernel
theorem d_Mo_byteOf_59 : decode c_Mo_byteOf 59 = .ok (.goto 25, 3) := by decide +kernel
theorem d_Mo_byteOf_62 : decode c_Mo_byteOf 62 = .ok (.aload_n 0, 1) := by decide +kernel
theorem d_Mo_byteOf_63 : decode c_Mo_byteOf 63 = .ok (.iconst 1, 1) := by decide +kernel
theorem d_Mo_byteOf_64 : decode c_Mo_byteOf 64 = .ok (.iconst 4, 1) := by decide +kernel
theorem d_Mo_byteOf_65 : decode c_Mo_byteOf 65 = .ok (.iload_n 1, 1) := by decide +kernel
theorem d_Mo_byteOf_66 : decode c_Mo_byteOf 66 = .ok (.iconst 1, 1) := by decide +kernel
theorem d_Mo_byteOf_67 : decode c_Mo_byteOf 67 = .ok (.isub, 1) := by decide +kernel
theorem d_Mo_byteOf_68 : decode c_Mo_byteOf 68 = .ok (.imul, 1) := by decide +kernel
theorem d_Mo_byteOf_69 : decode c_Mo_byteOf 69 = .ok (.iadd, 1) := by decide +kernel
theorem d_Mo_byteOf_70 : decode c_Mo_byteOf 70 = .ok (.iload_n 2, 1) := by decide +kernel
theorem d_Mo_byteOf_71 : decode c_Mo_byteOf 71 = .ok (.sipush 256, 3) := by decide +kernel
theorem d_Mo_byteOf_74 : decode c_Mo_byteOf 74 = .ok (.idiv, 1) := by decide +kernel
theorem d_Mo_byteOf_75 : decode c_Mo_byteOf 75 = .ok (.iadd, 1) := by decide +kernel
theorem d_Mo_byteOf_76 : decode c_Mo_byteOf 76 = .ok (.iload_n 2, 1) := by decide +kernel
theorem d_Mo_byteOf_77 : decode c_Mo_byteOf 77 = .ok (.sipush 256, 3) := by decide +kernel
theorem d_Mo_byteOf_80 : decode c_Mo_byteOf 80 = .ok (.irem, 1) := by decide +kernel
theorem d_Mo_byteOf_81 : decode c_Mo_byteOf 81 = .ok (.invokevirtual 121, 3) := by decide +kernel
theorem d_Mo_byteOf_84 : decode c_Mo_byteOf 84 = .ok (.ireturn, 1) := by decide +kernel
theorem d_Mo_part_0 : decode c_Mo_part 0 = .ok (.iload_n 1, 1) := by decide +kernel
theorem d_Mo_part_1 : decode c_Mo_part 1 = .ok (.ifCond .lt 8, 3) := by decide +kernel
theorem d_Mo_part_4 : decode c_Mo_part 4 = .ok (.iload_n 1, 1) := by decide +kernel
theorem d_Mo_part_5 : decode c_Mo_part 5 = .ok (.iload_n 2, 1) := by decide +kernel
theorem d_Mo_part_6 : decode c_Mo_part 6 = .ok (.if_icmp .lt 7, 3) := by decide +kernel
theorem d_Mo_part_9 : decode c_Mo_part 9 = .ok (.iconst 0, 1) := by decide +kernel
theorem d_Mo_part_10 : decode c_Mo_part 10 = .ok (.goto 13, 3) := by decide +kernel
theorem d_Mo_part_13 : decode c_Mo_part 13 = .ok (.iload_n 0, 1) := by decide +kernel
theorem d_Mo_part_14 : decode c_Mo_part 14 = .ok (.bipush 8, 2) := by decide +kernel
theorem d_Mo_part_16 : decode c_Mo_part 16 = .ok (.iload_n 1, 1) := by decide +kernel
theorem d_Mo_part_17 : decode c_Mo_part 17 = .ok (.imul, 1) := by decide +kernel
theorem d_Mo_part_18 : decode c_Mo_part 18 = .ok (.ishr, 1) := by decide +kernel
theorem d_Mo_part_19 : decode c_Mo_part 19 = .ok (.sipush 255, 3) := by decide +kernel
theorem d_Mo_part_22 : decode c_Mo_part 22 = .ok (.iand, 1) := by decide +kernel
theorem d_Mo_part_23 : decode c_Mo_part 23 = .ok (.ireturn, 1) := by decide +kernel
theorem d_Mo_recordByte_0 : decode c_Mo_recordByte 0 = .ok (.aload_n 0, 1) := by decide +kernel
theorem d_Mo_recordByte_1 : decode c_Mo_recordByte 1 = .ok (.getfield 18, 3) := by decide +kernel
theorem d_Mo_recordByte_4 : decode c_Mo_recordByte 4 = .ok (.iload_n 1, 1) := by decide +kernel
theorem d_Mo_recordByte_5 : decode c_Mo_recordByte 5 = .ok (.iaload, 1) := by decide +kernel
theorem d_Mo_recordByte_6 : decode c_Mo_recordByte 6 = .ok (.ifCond .ne 5, 3) := by decide +kernel
theorem d_Mo_recordByte_9 : decode c_Mo_recordByte 9 = .ok (.iconst 0, 1) := by decide +kernel
theorem d_Mo_recordByte_10 : decode c_Mo_recordByte 10 = .ok (.ireturn, 1) := by decide +kernel
theorem d_Mo_recordByte_11 : decode c_Mo_recordByte 11 = .ok (.iload_n 2, 1) := by decide +kernel
theorem d_Mo_recordByte_12 : decode c_Mo_recordByte 12 = .ok (.bipush 40, 2) := by decide +kernel
theorem d_Mo_recordByte_14 : decode c_Mo_recordByte 14 = .ok (.if_icmp .lt 100, 3) := by decide +kernel
theorem d_Mo_recordByte_17 : decode c_Mo_recordByte 17 = .ok (.iload_n 2, 1) := by decide +kernel
theorem d_Mo_recordByte_18 : decode c_Mo_recordByte 18 = .ok (.bipush 100, 2) := by decide +kernel
theorem d_Mo_recordByte_20 : decode c_Mo_recordByte 20 = .ok (.if_icmp .ge 94, 3) := by decide +kernel
theorem d_Mo_recordByte_23 : decode c_Mo_recordByte 23 = .ok (.iload_n 2, 1) := by decide +kernel
theorem d_Mo_recordByte_24 : decode c_Mo_recordByte 24 = .ok (.bipush 40, 2) := by decide +kernel
theorem d_Mo_recordByte_26 : decode c_Mo_recordByte 26 = .ok (.isub, 1) := by decide +kernel
theorem d_Mo_recordByte_27 : decode c_Mo_recordByte 27 = .ok (.istore_n 3, 1) := by decide +kernel
theorem d_Mo_recordByte_28 : decode c_Mo_recordByte 28 = .ok (.aload_n 0, 1) := by decide +kernel
theorem d_Mo_recordByte_29 : decode c_Mo_recordByte 29 = .ok (.getfield 18, 3) := by decide +kernel
theorem d_Mo_recordByte_32 : decode c_Mo_recordByte 32 = .ok (.iload_n 1, 1) := by decide +kernel
theorem d_Mo_recordByte_33 : decode c_Mo_recordByte 33 = .ok (.iaload, 1) := by decide +kernel
theorem d_Mo_recordByte_34 : decode c_Mo_recordByte 34 = .ok (.iconst 3, 1) := by decide +kernel
theorem d_Mo_recordByte_35 : decode c_Mo_recordByte 35 = .ok (.if_icmp .ne 18, 3) := by decide +kernel
theorem d_Mo_recordByte_38 : decode c_Mo_recordByte 38 = .ok (.aload_n 0, 1) := by decide +kernel
theorem d_Mo_recordByte_39 : decode c_Mo_recordByte 39 = .ok (.getfield 25, 3) := by decide +kernel
theorem d_Mo_recordByte_42 : decode c_Mo_recordByte 42 = .ok (.iload_n 1, 1) := by decide +kernel
theorem d_Mo_recordByte_43 : decode c_Mo_recordByte 43 = .ok (.iaload, 1) := by decide +kernel
theorem d_Mo_recordByte_44 : decode c_Mo_recordByte 44 = .ok (.bipush 60, 2) := by decide +kernel
theorem d_Mo_recordByte_46 : decode c_Mo_recordByte 46 = .ok (.if_icmp .ge 7, 3) := by decide +kernel
theorem d_Mo_recordByte_49 : decode c_Mo_recordByte 49 = .ok (.iconst 1, 1) := by decide +kernel
theorem d_Mo_recordByte_50 : decode c_Mo_recordByte 50 = .ok (.goto 4, 3) := by decide +kernel
theorem d_Mo_recordByte_53 : decode c_Mo_recordByte 53 = .ok (.iconst 0, 1) := by decide +kernel
theorem d_Mo_recordByte_54 : decode c_Mo_recordByte 54 = .ok (.istore 4, 2) := by decide +kernel
theorem d_Mo_recordByte_56 : decode c_Mo_recordByte 56 = .ok (.iload 4, 2) := by decide +kernel
theorem d_Mo_recordByte_58 : decode c_Mo_recordByte 58 = .ok (.ifCond .eq 35, 3) := by decide +kernel
theorem d_Mo_recordByte_61 : decode c_Mo_recordByte 61 = .ok (.iload_n 3, 1) := by decide +kernel
theorem d_Mo_recordByte_62 : decode c_Mo_recordByte 62 = .ok (.aload_n 0, 1) := by decide +kernel
theorem d_Mo_recordByte_63 : decode c_Mo_recordByte 63 = .ok (.getfield 25, 3) := by decide +kernel
theorem d_Mo_recordByte_66 : decode c_Mo_recordByte 66 = .ok (.iload_n 1, 1) := by decide +kernel
theorem d_Mo_recordByte_67 : decode c_Mo_recordByte 67 = .ok (.iaload, 1) := by decide +kernel
theorem d_Mo_recordByte_68 : decode c_Mo_recordByte 68 = .ok (.if_icmp .ge 21, 3) := by decide +kernel
theorem d_Mo_recordByte_71 : decode c_Mo_recordByte 71 = .ok (.aload_n 0, 1) := by decide +kernel
theorem d_Mo_recordByte_72 : decode c_Mo_recordByte 72 = .ok (.getfield 37, 3) := by decide +kernel
theorem d_Mo_recordByte_75 : decode c_Mo_recordByte 75 = .ok (.bipush 60, 2) := by decide +kernel
theorem d_Mo_recordByte_77 : decode c_Mo_recordByte 77 = .ok (.iload_n 1, 1) := by decide +kernel
theorem d_Mo_recordByte_78 : decode c_Mo_recordByte 78 = .ok (.imul, 1) := by decide +kernel
theorem d_Mo_recordByte_79 : decode c_Mo_recordByte 79 = .ok (.iload_n 3, 1) := by decide +kernel
theorem d_Mo_recordByte_80 : decode c_Mo_recordByte 80 = .ok (.iadd, 1) := by decide +kernel
theorem d_Mo_recordByte_81 : decode c_Mo_recordByte 81 = .ok (.baload, 1) := by decide +kernel
theorem d_Mo_recordByte_82 : decode c_Mo_recordByte 82 = .ok (.sipush 255, 3) := by decide +kernel
theorem d_Mo_recordByte_85 : decode c_Mo_recordByte 85 = .ok (.iand, 1) := by decide +kernel
theorem d_Mo_recordByte_86 : decode c_Mo_recordByte 86 = .ok (.goto 27, 3) := by decide +kernel
theorem d_Mo_recordByte_89 : decode c_Mo_recordByte 89 = .ok (.iconst 0, 1) := by decide +kernel
theorem d_Mo_recordByte_90 : decode c_Mo_recordByte 90 = .ok (.goto 23, 3) := by decide +kernel
theorem d_Mo_recordByte_93 : decode c_Mo_recordByte 93 = .ok (.aload_n 0, 1) := by decide +kernel
theorem d_Mo_recordByte_94 : decode c_Mo_recordByte 94 = .ok (.getfield 34, 3) := by decide +kernel
theorem d_Mo_recordByte_97 : decode c_Mo_recordByte 97 = .ok (.bipush 15, 2) := by decide +kernel
theorem d_Mo_recordByte_99 : decode c_Mo_recordByte 99 = .ok (.iload_n 1, 1) := by decide +kernel
theorem d_Mo_recordByte_100 : decode c_Mo_recordByte 100 = .ok (.imul, 1) := by decide +kernel
theorem d_Mo_recordByte_101 : decode c_Mo_recordByte 101 = .ok (.iload_n 3, 1) := by decide +kernel
theorem d_Mo_recordByte_102 : decode c_Mo_recordByte 102 = .ok (.iconst 4, 1) := by decide +kernel
theorem d_Mo_recordByte_103 : decode c_Mo_recordByte 103 = .ok (.idiv, 1) := by decide +kernel
theorem d_Mo_recordByte_104 : decode c_Mo_recordByte 104 = .ok (.iadd, 1) := by decide +kernel
theorem d_Mo_recordByte_105 : decode c_Mo_recordByte 105 = .ok (.iaload, 1) := by decide +kernel
theorem d_Mo_recordByte_106 : decode c_Mo_recordByte 106 = .ok (.iload_n 3, 1) := by decide +kernel
theorem d_Mo_recordByte_107 : decode c_Mo_recordByte 107 = .ok (.iconst 4, 1) := by decide +kernel
theorem d_Mo_recordByte_108 : decode c_Mo_recordByte 108 = .ok (.irem, 1) := by decide +kernel
theorem d_Mo_recordByte_109 : decode c_Mo_recordByte 109 = .ok (.iconst 4, 1) := by decide +kernel
theorem d_Mo_recordByte_110 : decode c_Mo_recordByte 110 = .ok (.invokestatic 114, 3) := by decide +kernel
theorem d_Mo_recordByte_113 : decode c_Mo_recordByte 113 = .ok (.ireturn, 1) := by decide +kernel
theorem d_Mo_recordByte_114 : decode c_Mo_recordByte 114 = .ok (.aload_n 0, 1) := by decide +kernel
theorem d_Mo_recordByte_115 : decode c_Mo_recordByte 115 = .ok (.getfield 18, 3) := by decide +kernel
theorem d_Mo_recordByte_118 : decode c_Mo_recordByte 118 = .ok (.iload_n 1, 1) := by decide +kernel
theorem d_Mo_recordByte_119 : decode c_Mo_recordByte 119 = .ok (.iaload, 1) := by decide +kernel
theorem d_Mo_recordByte_120 : decode c_Mo_recordByte 120 = .ok (.iconst 1, 1) := by decide +kernel
theorem d_Mo_recordByte_121 : decode c_Mo_recordByte 121 = .ok (.if_icmp .ne 8, 3) := by decide +kernel
theorem d_Mo_recordByte_124 : decode c_Mo_recordByte 124 = .ok (.ldc 117, 2) := by decide +kernel
theorem d_Mo_recordByte_126 : decode c_Mo_recordByte 126 = .ok (.goto 5, 3) := by decide +kernel
theorem d_Mo_recordByte_129 : decode c_Mo_recordByte 129 = .ok (.ldc 118, 2) := by decide +kernel
theorem d_Mo_recordByte_131 : decode c_Mo_recordByte 131 = .ok (.iload_n 2, 1) := by decide +kernel
theorem d_Mo_recordByte_132 : decode c_Mo_recordByte 132 = .ok (.iconst 2, 1) := by decide +kernel
theorem d_Mo_recordByte_133 : decode c_Mo_recordByte 133 = .ok (.invokestatic 114, 3) := by decide +kernel
theorem d_Mo_recordByte_136 : decode c_Mo_recordByte 136 = .ok (.aload_n 0, 1) := by decide +kernel
theorem d_Mo_recordByte_137 : decode c_Mo_recordByte 137 = .ok (.getfield 25, 3) := by decide +kernel
theorem d_Mo_recordByte_140 : decode c_Mo_recordByte 140 = .ok (.iload_n 1, 1) := by decide +kernel
theorem d_Mo_recordByte_141 : decode c_Mo_recordByte 141 = .ok (.iaload, 1) := by decide +kernel
theorem d_Mo_recordByte_142 : decode c_Mo_recordByte 142 = .ok (.iload_n 2, 1) := by decide +kernel
theorem d_Mo_recordByte_143 : decode c_Mo_recordByte 143 = .ok (.iconst 4, 1) := by decide +kernel
theorem d_Mo_recordByte_144 : decode c_Mo_recordByte 144 = .ok (.isub, 1) := by decide +kernel
theorem d_Mo_recordByte_145 : decode c_Mo_recordByte 145 = .ok (.iconst 4, 1) := by decide +kernel
theorem d_Mo_recordByte_146 : decode c_Mo_recordByte 146 = .ok (.invokestatic 114, 3) := by decide +kernel
theorem d_Mo_recordByte_149 : decode c_Mo_recordByte 149 = .ok (.iadd, 1) := by decide +kernel
theorem d_Mo_recordByte_150 : decode c_Mo_recordByte 150 = .ok (.aload_n 0, 1) := by decide +kernel
theorem d_Mo_recordByte_151 : decode c_Mo_recordByte 151 = .ok (.getfield 28, 3) := by decide +kernel
theorem d_Mo_recordByte_154 : decode c_Mo_recordByte 154 = .ok (.iload_n 1, 1) := by decide +kernel
theorem d_Mo_recordByte_155 : decode c_Mo_recordByte 155 = .ok (.iaload, 1) := by decide +kernel
theorem d_Mo_recordByte_156 : decode c_Mo_recordByte 156 = .ok (.iload_n 2, 1) := by decide +kernel
theorem d_Mo_recordByte_157 : decode c_Mo_recordByte 157 = .ok (.bipush 20, 2) := by decide +kernel
theorem d_Mo_recordByte_159 : decode c_Mo_recordByte 159 = .ok (.isub, 1) := by decide +kernel
theorem d_Mo_recordByte_160 : decode c_Mo_recordByte 160 = .ok (.iconst 4, 1) := by decide +kernel
theorem d_Mo_recordByte_161 : decode c_Mo_recordByte 161 = .ok (.invokestatic 114, 3) := by decide +kernel
theorem d_Mo_recordByte_164 : decode c_Mo_recordByte 164 = .ok (.iadd, 1) := by decide +kernel
theorem d_Mo_recordByte_165 : decode c_Mo_recordByte 165 = .ok (.aload_n 0, 1) := by decide +kernel
theorem d_Mo_recordByte_166 : decode c_Mo_recordByte 166 = .ok (.getfield 22, 3) := by decide +kernel
theorem d_Mo_recordByte_169 : decode c_Mo_recordByte 169 = .ok (.iload_n 1, 1) := by decide +kernel
theorem d_Mo_recordByte_170 : decode c_Mo_recordByte 170 = .ok (.iaload, 1) := by decide +kernel
theorem d_Mo_recordByte_171 : decode c_Mo_recordByte 171 = .ok (.iload_n 2, 1) := by decide +kernel
theorem d_Mo_recordByte_172 : decode c_Mo_recordByte 172 = .ok (.bipush 26, 2) := by decide +kernel
theorem d_Mo_recordByte_174 : decode c_Mo_recordByte 174 = .ok (.isub, 1) := by decide +kernel
theorem d_Mo_recordByte_175 : decode c_Mo_recordByte 175 = .ok (.iconst 2, 1) := by decide +kernel
theorem d_Mo_recordByte_176 : decode c_Mo_recordByte 176 = .ok (.invokestatic 114, 3) := by decide +kernel
theorem d_Mo_recordByte_179 : decode c_Mo_recordByte 179 = .ok (.iadd, 1) := by decide +kernel
theorem d_Mo_recordByte_180 : decode c_Mo_recordByte 180 = .ok (.iconst 2, 1) := by decide +kernel
theorem d_Mo_recordByte_181 : decode c_Mo_recordByte 181 = .ok (.aload_n 0, 1) := by decide +kernel
theorem d_Mo_recordByte_182 : decode c_Mo_recordByte 182 = .ok (.iload_n 1, 1) := by decide +kernel
theorem d_Mo_recordByte_183 : decode c_Mo_recordByte 183 = .ok (.invokevirtual 101, 3) := by decide +kernel
theorem d_Mo_recordByte_186 : decode c_Mo_recordByte 186 = .ok (.imul, 1) := by decide +kernel
theorem d_Mo_recordByte_187 : decode c_Mo_recordByte 187 = .ok (.iload_n 2, 1) := by decide +kernel
theorem d_Mo_recordByte_188 : decode c_Mo_recordByte 188 = .ok (.bipush 28, 2) := by decide +kernel
theorem d_Mo_recordByte_190 : decode c_Mo_recordByte 190 = .ok (.isub, 1) := by decide +kernel
theorem d_Mo_recordByte_191 : decode c_Mo_recordByte 191 = .ok (.iconst 4, 1) := by decide +kernel
theorem d_Mo_recordByte_192 : decode c_Mo_recordByte 192 = .ok (.invokestatic 114, 3) := by decide +kernel
theorem d_Mo_recordByte_195 : decode c_Mo_recordByte 195 = .ok (.iadd, 1) := by decide +kernel
theorem d_Mo_recordByte_196 : decode c_Mo_recordByte 196 = .ok (.ireturn, 1) := by decide +kernel
end
section
theorem d_Lw_make_0 : decode c_Lw_make 0 = .ok (.aload_n 2, 1) := by decide +kernel
theorem d_Lw_make_1 : decode c_Lw_make 1 = .ok (.iconst 0, 1) := by decide +kernel
theorem d_Lw_make_2 : decode c_Lw_make 2 = .ok (.aload_n 0, 1) := by decide +kernel
theorem d_Lw_make_3 : decode c_Lw_make 3 = .ok (.iload_n 1, 1) := by decide +kernel
theorem d_Lw_make_4 : decode c_Lw_make 4 = .ok (.invokevirtual 7, 3) := by decide +kernel
theorem d_Lw_make_7 : decode c_Lw_make 7 = .ok (.i2l, 1) := by decide +kernel
theorem d_Lw_make_8 : decode c_Lw_make 8 = .ok (.lastore, 1) := by decide +kernel
theorem d_Lw_make_9 : decode c_Lw_make 9 = .ok (.goto 9, 3) := by decide +kernel
theorem d_Lw_make_12 : decode c_Lw_make 12 = .ok (.astore_n 3, 1) := by decide +kernel
theorem d_Lw_make_13 : decode c_Lw_make 13 = .ok (.iconst 1, 1) := by decide +kernel
theorem d_Lw_make_14 : decode c_Lw_make 14 = .ok (.ireturn, 1) := by decide +kernel
theorem d_Lw_make_15 : decode c_Lw_make 15 = .ok (.astore_n 3, 1) := by decide +kernel
theorem d_Lw_make_16 : decode c_Lw_make 16 = .ok (.iconst 2, 1) := by decide +kernel
theorem d_Lw_make_17 : decode c_Lw_make 17 = .ok (.ireturn, 1) := by decide +kernel
theorem d_Lw_make_18 : decode c_Lw_make 18 = .ok (.iconst 0, 1) := by decide +kernel
theorem d_Lw_make_19 : decode c_Lw_make 19 = .ok (.ireturn, 1) := by decide +kernel
theorem d_Lw_link_0 : decode c_Lw_link 0 = .ok (.aload_n 3, 1) := by decide +kernel
theorem d_Lw_link_1 : decode c_Lw_link 1 = .ok (.iconst 0, 1) := by decide +kernel
theorem d_Lw_link_2 : decode c_Lw_link 2 = .ok (.aload_n 0, 1) := by decide +kernel
theorem d_Lw_link_3 : decode c_Lw_link 3 = .ok (.iload_n 1, 1) := by decide +kernel
theorem d_Lw_link_4 : decode c_Lw_link 4 = .ok (.iload_n 2, 1) := by decide +kernel
theorem d_Lw_link_5 : decode c_Lw_link 5 = .ok (.invokevirtual 17, 3) := by decide +kernel
theorem d_Lw_link_8 : decode c_Lw_link 8 = .ok (.i2l, 1) := by decide +kernel
theorem d_Lw_link_9 : decode c_Lw_link 9 = .ok (.lastore, 1) := by decide +kernel
theorem d_Lw_link_10 : decode c_Lw_link 10 = .ok (.goto 11, 3) := by decide +kernel
theorem d_Lw_link_13 : decode c_Lw_link 13 = .ok (.astore 4, 2) := by decide +kernel
theorem d_Lw_link_15 : decode c_Lw_link 15 = .ok (.iconst 1, 1) := by decide +kernel
theorem d_Lw_link_16 : decode c_Lw_link 16 = .ok (.ireturn, 1) := by decide +kernel
theorem d_Lw_link_17 : decode c_Lw_link 17 = .ok (.astore 4, 2) := by decide +kernel
theorem d_Lw_link_19 : decode c_Lw_link 19 = .ok (.iconst 2, 1) := by decide +kernel
theorem d_Lw_link_20 : decode c_Lw_link 20 = .ok (.ireturn, 1) := by decide +kernel
theorem d_Lw_link_21 : decode c_Lw_link 21 = .ok (.iconst 0, 1) := by decide +kernel
theorem d_Lw_link_22 : decode c_Lw_link 22 = .ok (.ireturn, 1) := by decide +kernel
theorem d_Lw_write_0 : decode c_Lw_write 0 = .ok (.aload 6, 2) := by decide +kernel
theorem d_Lw_write_2 : decode c_Lw_write 2 = .ok (.iconst 0, 1) := by decide +kernel
theorem d_Lw_write_3 : decode c_Lw_write 3 = .ok (.aload_n 0, 1) := by decide +kernel
theorem d_Lw_write_4 : decode c_Lw_write 4 = .ok (.iload_n 1, 1) := by decide +kernel
theorem d_Lw_write_5 : decode c_Lw_write 5 = .ok (.iload_n 2, 1) := by decide +kernel
theorem d_Lw_write_6 : decode c_Lw_write 6 = .ok (.lload_n 3, 1) := by decide +kernel
theorem d_Lw_write_7 : decode c_Lw_write 7 = .ok (.iload 5, 2) := by decide +kernel
theorem d_Lw_write_9 : decode c_Lw_write 9 = .ok (.invokevirtual 21, 3) := by decide +kernel
theorem d_Lw_write_12 : decode c_Lw_write 12 = .ok (.i2l, 1) := by decide +kernel
theorem d_Lw_write_13 : decode c_Lw_write 13 = .ok (.lastore, 1) := by decide +kernel
theorem d_Lw_write_14 : decode c_Lw_write 14 = .ok (.goto 11, 3) := by decide +kernel
theorem d_Lw_write_17 : decode c_Lw_write 17 = .ok (.astore 7, 2) := by decide +kernel
theorem d_Lw_write_19 : decode c_Lw_write 19 = .ok (.iconst 1, 1) := by decide +kernel
theorem d_Lw_write_20 : decode c_Lw_write 20 = .ok (.ireturn, 1) := by decide +kernel
theorem d_Lw_write_21 : decode c_Lw_write 21 = .ok (.astore 7, 2) := by decide +kernel
theorem d_Lw_write_23 : decode c_Lw_write 23 = .ok (.iconst 2, 1) := by decide +kernel
theorem d_Lw_write_24 : decode c_Lw_write 24 = .ok (.ireturn, 1) := by decide +kernel
theorem d_Lw_write_25 : decode c_Lw_write 25 = .ok (.iconst 0, 1) := by decide +kernel
theorem d_Lw_write_26 : decode c_Lw_write 26 = .ok (.ireturn, 1) := by decide +kernel
theorem d_Lw_paint_0 : decode c_Lw_paint 0 = .ok (.aload 5, 2) := by decide +kernel
theorem d_Lw_paint_2 : decode c_Lw_paint 2 = .ok (.iconst 0, 1) := by decide +kernel
theorem d_Lw_paint_3 : decode c_Lw_paint 3 = .ok (.aload_n 0, 1) := by decide +kernel
theorem d_Lw_paint_4 : decode c_Lw_paint 4 = .ok (.iload_n 1, 1) := by decide +kernel
theorem d_Lw_paint_5 : decode c_Lw_paint 5 = .ok (.iload_n 2, 1) := by decide +kernel
theorem d_Lw_paint_6 : decode c_Lw_paint 6 = .ok (.iload_n 3, 1) := by decide +kernel
theorem d_Lw_paint_7 : decode c_Lw_paint 7 = .ok (.iload 4, 2) := by decide +kernel
theorem d_Lw_paint_9 : decode c_Lw_paint 9 = .ok (.invokevirtual 25, 3) := by decide +kernel
theorem d_Lw_paint_12 : decode c_Lw_paint 12 = .ok (.i2l, 1) := by decide +kernel
theorem d_Lw_paint_13 : decode c_Lw_paint 13 = .ok (.lastore, 1) := by decide +kernel
theorem d_Lw_paint_14 : decode c_Lw_paint 14 = .ok (.goto 11, 3) := by decide +kernel
theorem d_Lw_paint_17 : decode c_Lw_paint 17 = .ok (.astore 6, 2) := by decide +kernel
theorem d_Lw_paint_19 : decode c_Lw_paint 19 = .ok (.iconst 1, 1) := by decide +kernel
theorem d_Lw_paint_20 : decode c_Lw_paint 20 = .ok (.ireturn, 1) := by decide +kernel
theorem d_Lw_paint_21 : decode c_Lw_paint 21 = .ok (.astore 6, 2) := by decide +kernel
theorem d_Lw_paint_23 : decode c_Lw_paint 23 = .ok (.iconst 2, 1) := by decide +kernel
theorem d_Lw_paint_24 : decode c_Lw_paint 24 = .ok (.ireturn, 1) := by decide +kernel
theorem d_Lw_paint_25 : decode c_Lw_paint 25 = .ok (.iconst 0, 1) := by decide +kernel
theorem d_Lw_paint_26 : decode c_Lw_paint 26 = .ok (.ireturn, 1) := by decide +kernel
theorem d_Lw_read_0 : decode c_Lw_read 0 = .ok (.aload_n 3, 1) := by decide +kernel
theorem d_Lw_read_1 : decode c_Lw_read 1 = .ok (.iconst 0, 1) := by decide +kernel
theorem d_Lw_read_2 : decode c_Lw_read 2 = .ok (.aload_n 0, 1) := by decide +kernel
theorem d_Lw_read_3 : decode c_Lw_read 3 = .ok (.iload_n 1, 1) := by decide +kernel
theorem d_Lw_read_4 : decode c_Lw_read 4 = .ok (.iload_n 2, 1) := by decide +kernel
theorem d_Lw_read_5 : decode c_Lw_read 5 = .ok (.invokevirtual 29, 3) := by decide +kernel
theorem d_Lw_read_8 : decode c_Lw_read 8 = .ok (.i2l, 1) := by decide +kernel
theorem d_Lw_read_9 : decode c_Lw_read 9 = .ok (.lastore, 1) := by decide +kernel
theorem d_Lw_read_10 : decode c_Lw_read 10 = .ok (.goto 11, 3) := by decide +kernel
theorem d_Lw_read_13 : decode c_Lw_read 13 = .ok (.astore 4, 2) := by decide +kernel
theorem d_Lw_read_15 : decode c_Lw_read 15 = .ok (.iconst 1, 1) := by decide +kernel
theorem d_Lw_read_16 : decode c_Lw_read 16 = .ok (.ireturn, 1) := by decide +kernel
theorem d_Lw_read_17 : decode c_Lw_read 17 = .ok (.astore 4, 2) := by decide +kernel
theorem d_Lw_read_19 : decode c_Lw_read 19 = .ok (.iconst 2, 1) := by decide +kernel
theorem d_Lw_read_20 : decode c_Lw_read 20 = .ok (.ireturn, 1) := by decide +kernel
theorem d_Lw_read_21 : decode c_Lw_read 21 = .ok (.iconst 0, 1) := by decide +kernel
theorem d_Lw_read_22 : decode c_Lw_read 22 = .ok (.ireturn, 1) := by decide +kernel
theorem d_Lw_cut_0 : decode c_Lw_cut 0 = .ok (.aload_n 3, 1) := by decide +kernel
theorem d_Lw_cut_1 : decode c_Lw_cut 1 = .ok (.iconst 0, 1) := by decide +kernel
theorem d_Lw_cut_2 : decode c_Lw_cut 2 = .ok (.aload_n 0, 1) := by decide +kernel
theorem d_Lw_cut_3 : decode c_Lw_cut 3 = .ok (.iload_n 1, 1) := by decide +kernel
theorem d_Lw_cut_4 : decode c_Lw_cut 4 = .ok (.iload_n 2, 1) := by decide +kernel
theorem d_Lw_cut_5 : decode c_Lw_cut 5 = .ok (.invokevirtual 34, 3) := by decide +kernel
theorem d_Lw_cut_8 : decode c_Lw_cut 8 = .ok (.i2l, 1) := by decide +kernel
theorem d_Lw_cut_9 : decode c_Lw_cut 9 = .ok (.lastore, 1) := by decide +kernel
theorem d_Lw_cut_10 : decode c_Lw_cut 10 = .ok (.goto 7, 3) := by decide +kernel
theorem d_Lw_cut_13 : decode c_Lw_cut 13 = .ok (.astore 4, 2) := by decide +kernel
theorem d_Lw_cut_15 : decode c_Lw_cut 15 = .ok (.iconst 1, 1) := by decide +kernel
theorem d_Lw_cut_16 : decode c_Lw_cut 16 = .ok (.ireturn, 1) := by decide +kernel
theorem d_Lw_cut_17 : decode c_Lw_cut 17 = .ok (.iconst 0, 1) := by decide +kernel
theorem d_Lw_cut_18 : decode c_Lw_cut 18 = .ok (.ireturn, 1) := by decide +kernel
theorem d_Lw_links_0 : decode c_Lw_links 0 = .ok (.aload_n 3, 1) := by decide +kernel
theorem d_Lw_links_1 : decode c_Lw_links 1 = .ok (.iconst 0, 1) := by decide +kernel
theorem d_Lw_links_2 : decode c_Lw_links 2 = .ok (.aload_n 0, 1) := by decide +kernel
theorem d_Lw_links_3 : decode c_Lw_links 3 = .ok (.iload_n 1, 1) := by decide +kernel
theorem d_Lw_links_4 : decode c_Lw_links 4 = .ok (.iload_n 2, 1) := by decide +kernel
theorem d_Lw_links_5 : decode c_Lw_links 5 = .ok (.invokevirtual 37, 3) := by decide +kernel
theorem d_Lw_links_8 : decode c_Lw_links 8 = .ok (.i2l, 1) := by decide +kernel
theorem d_Lw_links_9 : decode c_Lw_links 9 = .ok (.lastore, 1) := by decide +kernel
theorem d_Lw_links_10 : decode c_Lw_links 10 = .ok (.goto 7, 3) := by decide +kernel
theorem d_Lw_links_13 : decode c_Lw_links 13 = .ok (.astore 4, 2) := by decide +kernel
theorem d_Lw_links_15 : decode c_Lw_links 15 = .ok (.iconst 1, 1) := by decide +kernel
theorem d_Lw_links_16 : decode c_Lw_links 16 = .ok (.ireturn, 1) := by decide +kernel
theorem d_Lw_links_17 : decode c_Lw_links 17 = .ok (.iconst 0, 1) := by decide +kernel
theorem d_Lw_links_18 : decode c_Lw_links 18 = .ok (.ireturn, 1) := by decide +kernel
theorem d_Lw_drop_0 : decode c_Lw_drop 0 = .ok (.aload_n 2, 1) := by decide +kernel
theorem d_Lw_drop_1 : decode c_Lw_drop 1 = .ok (.iconst 0, 1) := by decide +kernel
theorem d_Lw_drop_2 : decode c_Lw_drop 2 = .ok (.aload_n 0, 1) := by decide +kernel
theorem d_Lw_drop_3 : decode c_Lw_drop 3 = .ok (.iload_n 1, 1) := by decide +kernel
theorem d_Lw_drop_4 : decode c_Lw_drop 4 = .ok (.invokevirtual 40, 3) := by decide +kernel
theorem d_Lw_drop_7 : decode c_Lw_drop 7 = .ok (.i2l, 1) := by decide +kernel
theorem d_Lw_drop_8 : decode c_Lw_drop 8 = .ok (.lastore, 1) := by decide +kernel
theorem d_Lw_drop_9 : decode c_Lw_drop 9 = .ok (.goto 9, 3) := by decide +kernel
theorem d_Lw_drop_12 : decode c_Lw_drop 12 = .ok (.astore_n 3, 1) := by decide +kernel
theorem d_Lw_drop_13 : decode c_Lw_drop 13 = .ok (.iconst 1, 1) := by decide +kernel
theorem d_Lw_drop_14 : decode c_Lw_drop 14 = .ok (.ireturn, 1) := by decide +kernel
theorem d_Lw_drop_15 : decode c_Lw_drop 15 = .ok (.astore_n 3, 1) := by decide +kernel
theorem d_Lw_drop_16 : decode c_Lw_drop 16 = .ok (.iconst 2, 1) := by decide +kernel
theorem d_Lw_drop_17 : decode c_Lw_drop 17 = .ok (.ireturn, 1) := by decide +kernel
theorem d_Lw_drop_18 : decode c_Lw_drop 18 = .ok (.iconst 0, 1) := by decide +kernel
theorem d_Lw_drop_19 : decode c_Lw_drop 19 = .ok (.ireturn, 1) := by decide +kernel
theorem d_Lw_about_0 : decode c_Lw_about 0 = .ok (.aload_n 3, 1) := by decide +kernel
theorem d_Lw_about_1 : decode c_Lw_about 1 = .ok (.iconst 0, 1) := by decide +kernel
theorem d_Lw_about_2 : decode c_Lw_about 2 = .ok (.aload_n 0, 1) := by decide +kernel
theorem d_Lw_about_3 : decode c_Lw_about 3 = .ok (.iload_n 1, 1) := by decide +kernel
theorem d_Lw_about_4 : decode c_Lw_about 4 = .ok (.iload_n 2, 1) := by decide +kernel
theorem d_Lw_about_5 : decode c_Lw_about 5 = .ok (.invokevirtual 43, 3) := by decide +kernel
theorem d_Lw_about_8 : decode c_Lw_about 8 = .ok (.i2l, 1) := by decide +kernel
theorem d_Lw_about_9 : decode c_Lw_about 9 = .ok (.lastore, 1) := by decide +kernel
theorem d_Lw_about_10 : decode c_Lw_about 10 = .ok (.goto 7, 3) := by decide +kernel
theorem d_Lw_about_13 : decode c_Lw_about 13 = .ok (.astore 4, 2) := by decide +kernel
theorem d_Lw_about_15 : decode c_Lw_about 15 = .ok (.iconst 1, 1) := by decide +kernel
theorem d_Lw_about_16 : decode c_Lw_about 16 = .ok (.ireturn, 1) := by decide +kernel
theorem d_Lw_about_17 : decode c_Lw_about 17 = .ok (.iconst 0, 1) := by decide +kernel
theorem d_Lw_about_18 : decode c_Lw_about 18 = .ok (.ireturn, 1) := by decide +kernel
theorem d_Lw_block_0 : decode c_Lw_block 0 = .ok (.aload_n 3, 1) := by decide +kernel
theorem d_Lw_block_1 : decode c_Lw_block 1 = .ok (.iconst 0, 1) := by decide +kernel
theorem d_Lw_block_2 : decode c_Lw_block 2 = .ok (.aload_n 0, 1) := by decide +kernel
theorem d_Lw_block_3 : decode c_Lw_block 3 = .ok (.iload_n 1, 1) := by decide +kernel
theorem d_Lw_block_4 : decode c_Lw_block 4 = .ok (.iload_n 2, 1) := by decide +kernel
theorem d_Lw_block_5 : decode c_Lw_block 5 = .ok (.invokevirtual 46, 3) := by decide +kernel
theorem d_Lw_block_8 : decode c_Lw_block 8 = .ok (.i2l, 1) := by decide +kernel
theorem d_Lw_block_9 : decode c_Lw_block 9 = .ok (.lastore, 1) := by decide +kernel
theorem d_Lw_block_10 : decode c_Lw_block 10 = .ok (.goto 7, 3) := by decide +kernel
theorem d_Lw_block_13 : decode c_Lw_block 13 = .ok (.astore 4, 2) := by decide +kernel
theorem d_Lw_block_15 : decode c_Lw_block 15 = .ok (.iconst 1, 1) := by decide +kernel
theorem d_Lw_block_16 : decode c_Lw_block 16 = .ok (.ireturn, 1) := by decide +kernel
theorem d_Lw_block_17 : decode c_Lw_block 17 = .ok (.iconst 0, 1) := by decide +kernel
theorem d_Lw_block_18 : decode c_Lw_block 18 = .ok (.ireturn, 1) := by decide +kernel
theorem d_Lw_count_0 : decode c_Lw_count 0 = .ok (.aload_n 2, 1) := by decide +kernel
theorem d_Lw_count_1 : decode c_Lw_count 1 = .ok (.iconst 0, 1) := by decide +kernel
theorem d_Lw_count_2 : decode c_Lw_count 2 = .ok (.aload_n 0, 1) := by decide +kernel
theorem d_Lw_count_3 : decode c_Lw_count 3 = .ok (.iload_n 1, 1) := by decide +kernel
theorem d_Lw_count_4 : decode c_Lw_count 4 = .ok (.invokevirtual 49, 3) := by decide +kernel
theorem d_Lw_count_7 : decode c_Lw_count 7 = .ok (.i2l, 1) := by decide +kernel
theorem d_Lw_count_8 : decode c_Lw_count 8 = .ok (.lastore, 1) := by decide +kernel
theorem d_Lw_count_9 : decode c_Lw_count 9 = .ok (.goto 6, 3) := by decide +kernel
theorem d_Lw_count_12 : decode c_Lw_count 12 = .ok (.astore_n 3, 1) := by decide +kernel
theorem d_Lw_count_13 : decode c_Lw_count 13 = .ok (.iconst 1, 1) := by decide +kernel
theorem d_Lw_count_14 : decode c_Lw_count 14 = .ok (.ireturn, 1) := by decide +kernel
theorem d_Lw_count_15 : decode c_Lw_count 15 = .ok (.iconst 0, 1) := by decide +kernel
theorem d_Lw_count_16 : decode c_Lw_count 16 = .ok (.ireturn, 1) := by decide +kernel
theorem d_Lw_byteOf_0 : decode c_Lw_byteOf 0 = .ok (.aload_n 3, 1) := by decide +kernel
theorem d_Lw_byteOf_1 : decode c_Lw_byteOf 1 = .ok (.iconst 0, 1) := by decide +kernel
theorem d_Lw_byteOf_2 : decode c_Lw_byteOf 2 = .ok (.aload_n 0, 1) := by decide +kernel
theorem d_Lw_byteOf_3 : decode c_Lw_byteOf 3 = .ok (.iload_n 1, 1) := by decide +kernel
theorem d_Lw_byteOf_4 : decode c_Lw_byteOf 4 = .ok (.iload_n 2, 1) := by decide +kernel
theorem d_Lw_byteOf_5 : decode c_Lw_byteOf 5 = .ok (.invokevirtual 52, 3) := by decide +kernel
theorem d_Lw_byteOf_8 : decode c_Lw_byteOf 8 = .ok (.i2l, 1) := by decide +kernel
theorem d_Lw_byteOf_9 : decode c_Lw_byteOf 9 = .ok (.lastore, 1) := by decide +kernel
theorem d_Lw_byteOf_10 : decode c_Lw_byteOf 10 = .ok (.goto 7, 3) := by decide +kernel
theorem d_Lw_byteOf_13 : decode c_Lw_byteOf 13 = .ok (.astore 4, 2) := by decide +kernel
theorem d_Lw_byteOf_15 : decode c_Lw_byteOf 15 = .ok (.iconst 1, 1) := by decide +kernel
theorem d_Lw_byteOf_16 : decode c_Lw_byteOf 16 = .ok (.ireturn, 1) := by decide +kernel
theorem d_Lw_byteOf_17 : decode c_Lw_byteOf 17 = .ok (.iconst 0, 1) := by decide +kernel
theorem d_Lw_byteOf_18 : decode c_Lw_byteOf 18 = .ok (.ireturn, 1) := by decide +kernel
theorem d_Lw_law_0 : decode c_Lw_law 0 = .ok (.new 8, 3) := by decide +kernel
theorem d_Lw_law_3 : decode c_Lw_law 3 = .ok (.dup, 1) := by decide +kernel
theorem d_Lw_law_4 : decode c_Lw_law 4 = .ok (.invokespecial 55, 3) := by decide +kernel
theorem d_Lw_law_7 : decode c_Lw_law 7 = .ok (.astore_n 1, 1) := by decide +kernel
theorem d_Lw_law_8 : decode c_Lw_law 8 = .ok (.new 56, 3) := by decide +kernel
theorem d_Lw_law_11 : decode c_Lw_law 11 = .ok (.dup, 1) := by decide +kernel
theorem d_Lw_law_12 : decode c_Lw_law 12 = .ok (.invokespecial 58, 3) := by decide +kernel
theorem d_Lw_law_15 : decode c_Lw_law 15 = .ok (.astore_n 2, 1) := by decide +kernel
theorem d_Lw_law_16 : decode c_Lw_law 16 = .ok (.iconst 1, 1) := by decide +kernel
theorem d_Lw_law_17 : decode c_Lw_law 17 = .ok (.newarray .long, 2) := by decide +kernel
theorem d_Lw_law_19 : decode c_Lw_law 19 = .ok (.astore_n 3, 1) := by decide +kernel
theorem d_Lw_law_20 : decode c_Lw_law 20 = .ok (.iconst 0, 1) := by decide +kernel
theorem d_Lw_law_21 : decode c_Lw_law 21 = .ok (.istore 4, 2) := by decide +kernel
theorem d_Lw_law_23 : decode c_Lw_law 23 = .ok (.iload 4, 2) := by decide +kernel
theorem d_Lw_law_25 : decode c_Lw_law 25 = .ok (.aload_n 0, 1) := by decide +kernel
theorem d_Lw_law_26 : decode c_Lw_law 26 = .ok (.arraylength, 1) := by decide +kernel
theorem d_Lw_law_27 : decode c_Lw_law 27 = .ok (.bipush 6, 2) := by decide +kernel
theorem d_Lw_law_29 : decode c_Lw_law 29 = .ok (.isub, 1) := by decide +kernel
theorem d_Lw_law_30 : decode c_Lw_law 30 = .ok (.if_icmp .gt 957, 3) := by decide +kernel
theorem d_Lw_law_33 : decode c_Lw_law 33 = .ok (.aload_n 0, 1) := by decide +kernel
theorem d_Lw_law_34 : decode c_Lw_law 34 = .ok (.iload 4, 2) := by decide +kernel
theorem d_Lw_law_36 : decode c_Lw_law 36 = .ok (.iaload, 1) := by decide +kernel
theorem d_Lw_law_37 : decode c_Lw_law 37 = .ok (.bipush 15, 2) := by decide +kernel
theorem d_Lw_law_39 : decode c_Lw_law 39 = .ok (.iand, 1) := by decide +kernel
theorem d_Lw_law_40 : decode c_Lw_law 40 = .ok (.tableswitch 941 0 12 #[68, 124, 192, 316, 408, 476, 544, 612, 668, 681, 749, 817, 873], 68) := by decide +kernel
theorem d_Lw_law_108 : decode c_Lw_law 108 = .ok (.aload_n 1, 1) := by decide +kernel
theorem d_Lw_law_109 : decode c_Lw_law 109 = .ok (.aload_n 0, 1) := by decide +kernel
theorem d_Lw_law_110 : decode c_Lw_law 110 = .ok (.iload 4, 2) := by decide +kernel
theorem d_Lw_law_112 : decode c_Lw_law 112 = .ok (.iconst 1, 1) := by decide +kernel
theorem d_Lw_law_113 : decode c_Lw_law 113 = .ok (.iadd, 1) := by decide +kernel
theorem d_Lw_law_114 : decode c_Lw_law 114 = .ok (.iaload, 1) := by decide +kernel
theorem d_Lw_law_115 : decode c_Lw_law 115 = .ok (.aload_n 3, 1) := by decide +kernel
theorem d_Lw_law_116 : decode c_Lw_law 116 = .ok (.invokestatic 59, 3) := by decide +kernel
theorem d_Lw_law_119 : decode c_Lw_law 119 = .ok (.istore 5, 2) := by decide +kernel
theorem d_Lw_law_121 : decode c_Lw_law 121 = .ok (.aload_n 2, 1) := by decide +kernel
theorem d_Lw_law_122 : decode c_Lw_law 122 = .ok (.aload_n 0, 1) := by decide +kernel
theorem d_Lw_law_123 : decode c_Lw_law 123 = .ok (.iload 4, 2) := by decide +kernel
theorem d_Lw_law_125 : decode c_Lw_law 125 = .ok (.iconst 1, 1) := by decide +kernel
theorem d_Lw_law_126 : decode c_Lw_law 126 = .ok (.iadd, 1) := by decide +kernel
theorem d_Lw_law_127 : decode c_Lw_law 127 = .ok (.iaload, 1) := by decide +kernel
theorem d_Lw_law_128 : decode c_Lw_law 128 = .ok (.invokevirtual 64, 3) := by decide +kernel
theorem d_Lw_law_131 : decode c_Lw_law 131 = .ok (.istore 6, 2) := by decide +kernel
theorem d_Lw_law_133 : decode c_Lw_law 133 = .ok (.aload_n 2, 1) := by decide +kernel
theorem d_Lw_law_134 : decode c_Lw_law 134 = .ok (.invokevirtual 65, 3) := by decide +kernel
theorem d_Lw_law_137 : decode c_Lw_law 137 = .ok (.iload 5, 2) := by decide +kernel
theorem d_Lw_law_139 : decode c_Lw_law 139 = .ok (.if_icmp .eq 5, 3) := by decide +kernel
theorem d_Lw_law_142 : decode c_Lw_law 142 = .ok (.iconst 0, 1) := by decide +kernel
theorem d_Lw_law_143 : decode c_Lw_law 143 = .ok (.ireturn, 1) := by decide +kernel
theorem d_Lw_law_144 : decode c_Lw_law 144 = .ok (.iload 5, 2) := by decide +kernel
theorem d_Lw_law_146 : decode c_Lw_law 146 = .ok (.ifCond .ne 15, 3) := by decide +kernel
theorem d_Lw_law_149 : decode c_Lw_law 149 = .ok (.aload_n 3, 1) := by decide +kernel
theorem d_Lw_law_150 : decode c_Lw_law 150 = .ok (.iconst 0, 1) := by decide +kernel
theorem d_Lw_law_151 : decode c_Lw_law 151 = .ok (.laload, 1) := by decide +kernel
theorem d_Lw_law_152 : decode c_Lw_law 152 = .ok (.iload 6, 2) := by decide +kernel
theorem d_Lw_law_154 : decode c_Lw_law 154 = .ok (.i2l, 1) := by decide +kernel
theorem d_Lw_law_155 : decode c_Lw_law 155 = .ok (.lcmp, 1) := by decide +kernel
theorem d_Lw_law_156 : decode c_Lw_law 156 = .ok (.ifCond .eq 5, 3) := by decide +kernel
theorem d_Lw_law_159 : decode c_Lw_law 159 = .ok (.iconst 0, 1) := by decide +kernel
theorem d_Lw_law_160 : decode c_Lw_law 160 = .ok (.ireturn, 1) := by decide +kernel
theorem d_Lw_law_161 : decode c_Lw_law 161 = .ok (.goto 820, 3) := by decide +kernel
theorem d_Lw_law_164 : decode c_Lw_law 164 = .ok (.aload_n 1, 1) := by decide +kernel
theorem d_Lw_law_165 : decode c_Lw_law 165 = .ok (.aload_n 0, 1) := by decide +kernel
theorem d_Lw_law_166 : decode c_Lw_law 166 = .ok (.iload 4, 2) := by decide +kernel
theorem d_Lw_law_168 : decode c_Lw_law 168 = .ok (.iconst 1, 1) := by decide +kernel
theorem d_Lw_law_169 : decode c_Lw_law 169 = .ok (.iadd, 1) := by decide +kernel
theorem d_Lw_law_170 : decode c_Lw_law 170 = .ok (.iaload, 1) := by decide +kernel
theorem d_Lw_law_171 : decode c_Lw_law 171 = .ok (.aload_n 0, 1) := by decide +kernel
theorem d_Lw_law_172 : decode c_Lw_law 172 = .ok (.iload 4, 2) := by decide +kernel
theorem d_Lw_law_174 : decode c_Lw_law 174 = .ok (.iconst 2, 1) := by decide +kernel
theorem d_Lw_law_175 : decode c_Lw_law 175 = .ok (.iadd, 1) := by decide +kernel
theorem d_Lw_law_176 : decode c_Lw_law 176 = .ok (.iaload, 1) := by decide +kernel
theorem d_Lw_law_177 : decode c_Lw_law 177 = .ok (.aload_n 3, 1) := by decide +kernel
theorem d_Lw_law_178 : decode c_Lw_law 178 = .ok (.invokestatic 69, 3) := by decide +kernel
theorem d_Lw_law_181 : decode c_Lw_law 181 = .ok (.istore 5, 2) := by decide +kernel
theorem d_Lw_law_183 : decode c_Lw_law 183 = .ok (.aload_n 2, 1) := by decide +kernel
theorem d_Lw_law_184 : decode c_Lw_law 184 = .ok (.aload_n 0, 1) := by decide +kernel
theorem d_Lw_law_185 : decode c_Lw_law 185 = .ok (.iload 4, 2) := by decide +kernel
theorem d_Lw_law_187 : decode c_Lw_law 187 = .ok (.iconst 1, 1) := by decide +kernel
theorem d_Lw_law_188 : decode c_Lw_law 188 = .ok (.iadd, 1) := by decide +kernel
theorem d_Lw_law_189 : decode c_Lw_law 189 = .ok (.iaload, 1) := by decide +kernel
theorem d_Lw_law_190 : decode c_Lw_law 190 = .ok (.aload_n 0, 1) := by decide +kernel
theorem d_Lw_law_191 : decode c_Lw_law 191 = .ok (.iload 4, 2) := by decide +kernel
theorem d_Lw_law_193 : decode c_Lw_law 193 = .ok (.iconst 2, 1) := by decide +kernel
theorem d_Lw_law_194 : decode c_Lw_law 194 = .ok (.iadd, 1) := by decide +kernel
theorem d_Lw_law_195 : decode c_Lw_law 195 = .ok (.iaload, 1) := by decide +kernel
theorem d_Lw_law_196 : decode c_Lw_law 196 = .ok (.invokevirtual 72, 3) := by decide +kernel
theorem d_Lw_law_199 : decode c_Lw_law 199 = .ok (.istore 6, 2) := by decide +kernel
theorem d_Lw_law_201 : decode c_Lw_law 201 = .ok (.aload_n 2, 1) := by decide +kernel
theorem d_Lw_law_202 : decode c_Lw_law 202 = .ok (.invokevirtual 65, 3) := by decide +kernel
theorem d_Lw_law_205 : decode c_Lw_law 205 = .ok (.iload 5, 2) := by decide +kernel
theorem d_Lw_law_207 : decode c_Lw_law 207 = .ok (.if_icmp .eq 5, 3) := by decide +kernel
theorem d_Lw_law_210 : decode c_Lw_law 210 = .ok (.iconst 0, 1) := by decide +kernel
theorem d_Lw_law_211 : decode c_Lw_law 211 = .ok (.ireturn, 1) := by decide +kernel
theorem d_Lw_law_212 : decode c_Lw_law 212 = .ok (.iload 5, 2) := by decide +kernel
theorem d_Lw_law_214 : decode c_Lw_law 214 = .ok (.ifCond .ne 15, 3) := by decide +kernel
theorem d_Lw_law_217 : decode c_Lw_law 217 = .ok (.aload_n 3, 1) := by decide +kernel
theorem d_Lw_law_218 : decode c_Lw_law 218 = .ok (.iconst 0, 1) := by decide +kernel
theorem d_Lw_law_219 : decode c_Lw_law 219 = .ok (.laload, 1) := by decide +kernel
theorem d_Lw_law_220 : decode c_Lw_law 220 = .ok (.iload 6, 2) := by decide +kernel
theorem d_Lw_law_222 : decode c_Lw_law 222 = .ok (.i2l, 1) := by decide +kernel
theorem d_Lw_law_223 : decode c_Lw_law 223 = .ok (.lcmp, 1) := by decide +kernel
theorem d_Lw_law_224 : decode c_Lw_law 224 = .ok (.ifCond .eq 5, 3) := by decide +kernel
theorem d_Lw_law_227 : decode c_Lw_law 227 = .ok (.iconst 0, 1) := by decide +kernel
theorem d_Lw_law_228 : decode c_Lw_law 228 = .ok (.ireturn, 1) := by decide +kernel
theorem d_Lw_law_229 : decode c_Lw_law 229 = .ok (.goto 752, 3) := by decide +kernel
theorem d_Lw_law_232 : decode c_Lw_law 232 = .ok (.aload_n 1, 1) := by decide +kernel
theorem d_Lw_law_233 : decode c_Lw_law 233 = .ok (.aload_n 0, 1) := by decide +kernel
theorem d_Lw_law_234 : decode c_Lw_law 234 = .ok (.iload 4, 2) := by decide +kernel
theorem d_Lw_law_236 : decode c_Lw_law 236 = .ok (.iconst 1, 1) := by decide +kernel
theorem d_Lw_law_237 : decode c_Lw_law 237 = .ok (.iadd, 1) := by decide +kernel
theorem d_Lw_law_238 : decode c_Lw_law 238 = .ok (.iaload, 1) := by decide +kernel
theorem d_Lw_law_239 : decode c_Lw_law 239 = .ok (.aload_n 0, 1) := by decide +kernel
theorem d_Lw_law_240 : decode c_Lw_law 240 = .ok (.iload 4, 2) := by decide +kernel
theorem d_Lw_law_242 : decode c_Lw_law 242 = .ok (.iconst 2, 1) := by decide +kernel
theorem d_Lw_law_243 : decode c_Lw_law 243 = .ok (.iadd, 1) := by decide +kernel
theorem d_Lw_law_244 : decode c_Lw_law 244 = .ok (.iaload, 1) := by decide +kernel
theorem d_Lw_law_245 : decode c_Lw_law 245 = .ok (.aload_n 0, 1) := by decide +kernel
theorem d_Lw_law_246 : decode c_Lw_law 246 = .ok (.iload 4, 2) := by decide +kernel
theorem d_Lw_law_248 : decode c_Lw_law 248 = .ok (.iconst 3, 1) := by decide +kernel
theorem d_Lw_law_249 : decode c_Lw_law 249 = .ok (.iadd, 1) := by decide +kernel
theorem d_Lw_law_250 : decode c_Lw_law 250 = .ok (.iaload, 1) := by decide +kernel
theorem d_Lw_law_251 : decode c_Lw_law 251 = .ok (.i2l, 1) := by decide +kernel
theorem d_Lw_law_252 : decode c_Lw_law 252 = .ok (.bipush 32, 2) := by decide +kernel
theorem d_Lw_law_254 : decode c_Lw_law 254 = .ok (.lshl, 1) := by decide +kernel
theorem d_Lw_law_255 : decode c_Lw_law 255 = .ok (.aload_n 0, 1) := by decide +kernel
theorem d_Lw_law_256 : decode c_Lw_law 256 = .ok (.iload 4, 2) := by decide +kernel
theorem d_Lw_law_258 : decode c_Lw_law 258 = .ok (.iconst 4, 1) := by decide +kernel
theorem d_Lw_law_259 : decode c_Lw_law 259 = .ok (.iadd, 1) := by decide +kernel
theorem d_Lw_law_260 : decode c_Lw_law 260 = .ok (.iaload, 1) := by decide +kernel
theorem d_Lw_law_261 : decode c_Lw_law 261 = .ok (.i2l, 1) := by decide +kernel
theorem d_Lw_law_262 : decode c_Lw_law 262 = .ok (.ldc2_w 73, 3) := by decide +kernel
theorem d_Lw_law_265 : decode c_Lw_law 265 = .ok (.land, 1) := by decide +kernel
theorem d_Lw_law_266 : decode c_Lw_law 266 = .ok (.lor, 1) := by decide +kernel
theorem d_Lw_law_267 : decode c_Lw_law 267 = .ok (.aload_n 0, 1) := by decide +kernel
theorem d_Lw_law_268 : decode c_Lw_law 268 = .ok (.iload 4, 2) := by decide +kernel
theorem d_Lw_law_270 : decode c_Lw_law 270 = .ok (.iconst 5, 1) := by decide +kernel
theorem d_Lw_law_271 : decode c_Lw_law 271 = .ok (.iadd, 1) := by decide +kernel
theorem d_Lw_law_272 : decode c_Lw_law 272 = .ok (.iaload, 1) := by decide +kernel
theorem d_Lw_law_273 : decode c_Lw_law 273 = .ok (.aload_n 3, 1) := by decide +kernel
theorem d_Lw_law_274 : decode c_Lw_law 274 = .ok (.invokestatic 75, 3) := by decide +kernel
theorem d_Lw_law_277 : decode c_Lw_law 277 = .ok (.istore 5, 2) := by decide +kernel
theorem d_Lw_law_279 : decode c_Lw_law 279 = .ok (.aload_n 2, 1) := by decide +kernel
theorem d_Lw_law_280 : decode c_Lw_law 280 = .ok (.aload_n 0, 1) := by decide +kernel
theorem d_Lw_law_281 : decode c_Lw_law 281 = .ok (.iload 4, 2) := by decide +kernel
theorem d_Lw_law_283 : decode c_Lw_law 283 = .ok (.iconst 1, 1) := by decide +kernel
theorem d_Lw_law_284 : decode c_Lw_law 284 = .ok (.iadd, 1) := by decide +kernel
theorem d_Lw_law_285 : decode c_Lw_law 285 = .ok (.iaload, 1) := by decide +kernel
theorem d_Lw_law_286 : decode c_Lw_law 286 = .ok (.aload_n 0, 1) := by decide +kernel
theorem d_Lw_law_287 : decode c_Lw_law 287 = .ok (.iload 4, 2) := by decide +kernel
theorem d_Lw_law_289 : decode c_Lw_law 289 = .ok (.iconst 2, 1) := by decide +kernel
theorem d_Lw_law_290 : decode c_Lw_law 290 = .ok (.iadd, 1) := by decide +kernel
theorem d_Lw_law_291 : decode c_Lw_law 291 = .ok (.iaload, 1) := by decide +kernel
theorem d_Lw_law_292 : decode c_Lw_law 292 = .ok (.aload_n 0, 1) := by decide +kernel
theorem d_Lw_law_293 : decode c_Lw_law 293 = .ok (.iload 4, 2) := by decide +kernel
theorem d_Lw_law_295 : decode c_Lw_law 295 = .ok (.iconst 3, 1) := by decide +kernel
theorem d_Lw_law_296 : decode c_Lw_law 296 = .ok (.iadd, 1) := by decide +kernel
theorem d_Lw_law_297 : decode c_Lw_law 297 = .ok (.iaload, 1) := by decide +kernel
theorem d_Lw_law_298 : decode c_Lw_law 298 = .ok (.i2l, 1) := by decide +kernel
theorem d_Lw_law_299 : decode c_Lw_law 299 = .ok (.bipush 32, 2) := by decide +kernel
theorem d_Lw_law_301 : decode c_Lw_law 301 = .ok (.lshl, 1) := by decide +kernel
theorem d_Lw_law_302 : decode c_Lw_law 302 = .ok (.aload_n 0, 1) := by decide +kernel
theorem d_Lw_law_303 : decode c_Lw_law 303 = .ok (.iload 4, 2) := by decide +kernel
theorem d_Lw_law_305 : decode c_Lw_law 305 = .ok (.iconst 4, 1) := by decide +kernel
theorem d_Lw_law_306 : decode c_Lw_law 306 = .ok (.iadd, 1) := by decide +kernel
theorem d_Lw_law_307 : decode c_Lw_law 307 = .ok (.iaload, 1) := by decide +kernel
theorem d_Lw_law_308 : decode c_Lw_law 308 = .ok (.i2l, 1) := by decide +kernel
theorem d_Lw_law_309 : decode c_Lw_law 309 = .ok (.ldc2_w 73, 3) := by decide +kernel
theorem d_Lw_law_312 : decode c_Lw_law 312 = .ok (.land, 1) := by decide +kernel
theorem d_Lw_law_313 : decode c_Lw_law 313 = .ok (.lor, 1) := by decide +kernel
theorem d_Lw_law_314 : decode c_Lw_law 314 = .ok (.aload_n 0, 1) := by decide +kernel
theorem d_Lw_law_315 : decode c_Lw_law 315 = .ok (.iload 4, 2) := by decide +kernel
theorem d_Lw_law_317 : decode c_Lw_law 317 = .ok (.iconst 5, 1) := by decide +kernel
theorem d_Lw_law_318 : decode c_Lw_law 318 = .ok (.iadd, 1) := by decide +kernel
theorem d_Lw_law_319 : decode c_Lw_law 319 = .ok (.iaload, 1) := by decide +kernel
theorem d_Lw_law_320 : decode c_Lw_law 320 = .ok (.invokevirtual 78, 3) := by decide +kernel
theorem d_Lw_law_323 : decode c_Lw_law 323 = .ok (.istore 6, 2) := by decide +kernel
theorem d_Lw_law_325 : decode c_Lw_law 325 = .ok (.aload_n 2, 1) := by decide +kernel
theorem d_Lw_law_326 : decode c_Lw_law 326 = .ok (.invokevirtual 65, 3) := by decide +kernel
theorem d_Lw_law_329 : decode c_Lw_law 329 = .ok (.iload 5, 2) := by decide +kernel
theorem d_Lw_law_331 : decode c_Lw_law 331 = .ok (.if_icmp .eq 5, 3) := by decide +kernel
theorem d_Lw_law_334 : decode c_Lw_law 334 = .ok (.iconst 0, 1) := by decide +kernel
theorem d_Lw_law_335 : decode c_Lw_law 335 = .ok (.ireturn, 1) := by decide +kernel
theorem d_Lw_law_336 : decode c_Lw_law 336 = .ok (.iload 5, 2) := by decide +kernel
theorem d_Lw_law_338 : decode c_Lw_law 338 = .ok (.ifCond .ne 15, 3) := by decide +kernel
theorem d_Lw_law_341 : decode c_Lw_law 341 = .ok (.aload_n 3, 1) := by decide +kernel
theorem d_Lw_law_342 : decode c_Lw_law 342 = .ok (.iconst 0, 1) := by decide +kernel
theorem d_Lw_law_343 : decode c_Lw_law 343 = .ok (.laload, 1) := by decide +kernel
theorem d_Lw_law_344 : decode c_Lw_law 344 = .ok (.iload 6, 2) := by decide +kernel
theorem d_Lw_law_346 : decode c_Lw_law 346 = .ok (.i2l, 1) := by decide +kernel
theorem d_Lw_law_347 : decode c_Lw_law 347 = .ok (.lcmp, 1) := by decide +kernel
theorem d_Lw_law_348 : decode c_Lw_law 348 = .ok (.ifCond .eq 5, 3) := by decide +kernel
theorem d_Lw_law_351 : decode c_Lw_law 351 = .ok (.iconst 0, 1) := by decide +kernel
theorem d_Lw_law_352 : decode c_Lw_law 352 = .ok (.ireturn, 1) := by decide +kernel
theorem d_Lw_law_353 : decode c_Lw_law 353 = .ok (.goto 628, 3) := by decide +kernel
theorem d_Lw_law_356 : decode c_Lw_law 356 = .ok (.aload_n 1, 1) := by decide +kernel
theorem d_Lw_law_357 : decode c_Lw_law 357 = .ok (.aload_n 0, 1) := by decide +kernel
theorem d_Lw_law_358 : decode c_Lw_law 358 = .ok (.iload 4, 2) := by decide +kernel
theorem d_Lw_law_360 : decode c_Lw_law 360 = .ok (.iconst 1, 1) := by decide +kernel
theorem d_Lw_law_361 : decode c_Lw_law 361 = .ok (.iadd, 1) := by decide +kernel
theorem d_Lw_law_362 : decode c_Lw_law 362 = .ok (.iaload, 1) := by decide +kernel
theorem d_Lw_law_363 : decode c_Lw_law 363 = .ok (.aload_n 0, 1) := by decide +kernel
theorem d_Lw_law_364 : decode c_Lw_law 364 = .ok (.iload 4, 2) := by decide +kernel
theorem d_Lw_law_366 : decode c_Lw_law 366 = .ok (.iconst 2, 1) := by decide +kernel
theorem d_Lw_law_367 : decode c_Lw_law 367 = .ok (.iadd, 1) := by decide +kernel
theorem d_Lw_law_368 : decode c_Lw_law 368 = .ok (.iaload, 1) := by decide +kernel
theorem d_Lw_law_369 : decode c_Lw_law 369 = .ok (.aload_n 0, 1) := by decide +kernel
theorem d_Lw_law_370 : decode c_Lw_law 370 = .ok (.iload 4, 2) := by decide +kernel
theorem d_Lw_law_372 : decode c_Lw_law 372 = .ok (.iconst 3, 1) := by decide +kernel
theorem d_Lw_law_373 : decode c_Lw_law 373 = .ok (.iadd, 1) := by decide +kernel
theorem d_Lw_law_374 : decode c_Lw_law 374 = .ok (.iaload, 1) := by decide +kernel
theorem d_Lw_law_375 : decode c_Lw_law 375 = .ok (.aload_n 0, 1) := by decide +kernel
theorem d_Lw_law_376 : decode c_Lw_law 376 = .ok (.iload 4, 2) := by decide +kernel
theorem d_Lw_law_378 : decode c_Lw_law 378 = .ok (.iconst 4, 1) := by decide +kernel
theorem d_Lw_law_379 : decode c_Lw_law 379 = .ok (.iadd, 1) := by decide +kernel
theorem d_Lw_law_380 : decode c_Lw_law 380 = .ok (.iaload, 1) := by decide +kernel
theorem d_Lw_law_381 : decode c_Lw_law 381 = .ok (.aload_n 3, 1) := by decide +kernel
theorem d_Lw_law_382 : decode c_Lw_law 382 = .ok (.invokestatic 79, 3) := by decide +kernel
theorem d_Lw_law_385 : decode c_Lw_law 385 = .ok (.istore 5, 2) := by decide +kernel
theorem d_Lw_law_387 : decode c_Lw_law 387 = .ok (.aload_n 2, 1) := by decide +kernel
theorem d_Lw_law_388 : decode c_Lw_law 388 = .ok (.aload_n 0, 1) := by decide +kernel
theorem d_Lw_law_389 : decode c_Lw_law 389 = .ok (.iload 4, 2) := by decide +kernel
theorem d_Lw_law_391 : decode c_Lw_law 391 = .ok (.iconst 1, 1) := by decide +kernel
theorem d_Lw_law_392 : decode c_Lw_law 392 = .ok (.iadd, 1) := by decide +kernel
theorem d_Lw_law_393 : decode c_Lw_law 393 = .ok (.iaload, 1) := by decide +kernel
theorem d_Lw_law_394 : decode c_Lw_law 394 = .ok (.aload_n 0, 1) := by decide +kernel
theorem d_Lw_law_395 : decode c_Lw_law 395 = .ok (.iload 4, 2) := by decide +kernel
theorem d_Lw_law_397 : decode c_Lw_law 397 = .ok (.iconst 2, 1) := by decide +kernel
theorem d_Lw_law_398 : decode c_Lw_law 398 = .ok (.iadd, 1) := by decide +kernel
theorem d_Lw_law_399 : decode c_Lw_law 399 = .ok (.iaload, 1) := by decide +kernel
theorem d_Lw_law_400 : decode c_Lw_law 400 = .ok (.aload_n 0, 1) := by decide +kernel
theorem d_Lw_law_401 : decode c_Lw_law 401 = .ok (.iload 4, 2) := by decide +kernel
theorem d_Lw_law_403 : decode c_Lw_law 403 = .ok (.iconst 3, 1) := by decide +kernel
theorem d_Lw_law_404 : decode c_Lw_law 404 = .ok (.iadd, 1) := by decide +kernel
theorem d_Lw_law_405 : decode c_Lw_law 405 = .ok (.iaload, 1) := by decide +kernel
theorem d_Lw_law_406 : decode c_Lw_law 406 = .ok (.aload_n 0, 1) := by decide +kernel
theorem d_Lw_law_407 : decode c_Lw_law 407 = .ok (.iload 4, 2) := by decide +kernel
theorem d_Lw_law_409 : decode c_Lw_law 409 = .ok (.iconst 4, 1) := by decide +kernel
theorem d_Lw_law_410 : decode c_Lw_law 410 = .ok (.iadd, 1) := by decide +kernel
theorem d_Lw_law_411 : decode c_Lw_law 411 = .ok (.iaload, 1) := by decide +kernel
theorem d_Lw_law_412 : decode c_Lw_law 412 = .ok (.invokevirtual 82, 3) := by decide +kernel
theorem d_Lw_law_415 : decode c_Lw_law 415 = .ok (.istore 6, 2) := by decide +kernel
theorem d_Lw_law_417 : decode c_Lw_law 417 = .ok (.aload_n 2, 1) := by decide +kernel
theorem d_Lw_law_418 : decode c_Lw_law 418 = .ok (.invokevirtual 65, 3) := by decide +kernel
theorem d_Lw_law_421 : decode c_Lw_law 421 = .ok (.iload 5, 2) := by decide +kernel
theorem d_Lw_law_423 : decode c_Lw_law 423 = .ok (.if_icmp .eq 5, 3) := by decide +kernel
theorem d_Lw_law_426 : decode c_Lw_law 426 = .ok (.iconst 0, 1) := by decide +kernel
theorem d_Lw_law_427 : decode c_Lw_law 427 = .ok (.ireturn, 1) := by decide +kernel
theorem d_Lw_law_428 : decode c_Lw_law 428 = .ok (.iload 5, 2) := by decide +kernel
theorem d_Lw_law_430 : decode c_Lw_law 430 = .ok (.ifCond .ne 15, 3) := by decide +kernel
theorem d_Lw_law_433 : decode c_Lw_law 433 = .ok (.aload_n 3, 1) := by decide +kernel
theorem d_Lw_law_434 : decode c_Lw_law 434 = .ok (.iconst 0, 1) := by decide +kernel
theorem d_Lw_law_435 : decode c_Lw_law 435 = .ok (.laload, 1) := by decide +kernel
theorem d_Lw_law_436 : decode c_Lw_law 436 = .ok (.iload 6, 2) := by decide +kernel
theorem d_Lw_law_438 : decode c_Lw_law 438 = .ok (.i2l, 1) := by decide +kernel
theorem d_Lw_law_439 : decode c_Lw_law 439 = .ok (.lcmp, 1) := by decide +kernel
theorem d_Lw_law_440 : decode c_Lw_law 440 = .ok (.ifCond .eq 5, 3) := by decide +kernel
theorem d_Lw_law_443 : decode c_Lw_law 443 = .ok (.iconst 0, 1) := by decide +kernel
theorem d_Lw_law_444 : decode c_Lw_law 444 = .ok (.ireturn, 1) := by decide +kernel
theorem d_Lw_law_445 : decode c_Lw_law 445 = .ok (.goto 536, 3) := by decide +kernel
theorem d_Lw_law_448 : decode c_Lw_law 448 = .ok (.aload_n 1, 1) := by decide +kernel
theorem d_Lw_law_449 : decode c_Lw_law 449 = .ok (.aload_n 0, 1) := by decide +kernel
theorem d_Lw_law_450 : decode c_Lw_law 450 = .ok (.iload 4, 2) := by decide +kernel
theorem d_Lw_law_452 : decode c_Lw_law 452 = .ok (.iconst 1, 1) := by decide +kernel
theorem d_Lw_law_453 : decode c_Lw_law 453 = .ok (.iadd, 1) := by decide +kernel
theorem d_Lw_law_454 : decode c_Lw_law 454 = .ok (.iaload, 1) := by decide +kernel
theorem d_Lw_law_455 : decode c_Lw_law 455 = .ok (.aload_n 0, 1) := by decide +kernel
theorem d_Lw_law_456 : decode c_Lw_law 456 = .ok (.iload 4, 2) := by decide +kernel
theorem d_Lw_law_458 : decode c_Lw_law 458 = .ok (.iconst 2, 1) := by decide +kernel
theorem d_Lw_law_459 : decode c_Lw_law 459 = .ok (.iadd, 1) := by decide +kernel
theorem d_Lw_law_460 : decode c_Lw_law 460 = .ok (.iaload, 1) := by decide +kernel
theorem d_Lw_law_461 : decode c_Lw_law 461 = .ok (.aload_n 3, 1) := by decide +kernel
theorem d_Lw_law_462 : decode c_Lw_law 462 = .ok (.invokestatic 83, 3) := by decide +kernel
theorem d_Lw_law_465 : decode c_Lw_law 465 = .ok (.istore 5, 2) := by decide +kernel
theorem d_Lw_law_467 : decode c_Lw_law 467 = .ok (.aload_n 2, 1) := by decide +kernel
theorem d_Lw_law_468 : decode c_Lw_law 468 = .ok (.aload_n 0, 1) := by decide +kernel
theorem d_Lw_law_469 : decode c_Lw_law 469 = .ok (.iload 4, 2) := by decide +kernel
theorem d_Lw_law_471 : decode c_Lw_law 471 = .ok (.iconst 1, 1) := by decide +kernel
theorem d_Lw_law_472 : decode c_Lw_law 472 = .ok (.iadd, 1) := by decide +kernel
theorem d_Lw_law_473 : decode c_Lw_law 473 = .ok (.iaload, 1) := by decide +kernel
theorem d_Lw_law_474 : decode c_Lw_law 474 = .ok (.aload_n 0, 1) := by decide +kernel
theorem d_Lw_law_475 : decode c_Lw_law 475 = .ok (.iload 4, 2) := by decide +kernel
theorem d_Lw_law_477 : decode c_Lw_law 477 = .ok (.iconst 2, 1) := by decide +kernel
theorem d_Lw_law_478 : decode c_Lw_law 478 = .ok (.iadd, 1) := by decide +kernel
theorem d_Lw_law_479 : decode c_Lw_law 479 = .ok (.iaload, 1) := by decide +kernel
theorem d_Lw_law_480 : decode c_Lw_law 480 = .ok (.invokevirtual 85, 3) := by decide +kernel
theorem d_Lw_law_483 : decode c_Lw_law 483 = .ok (.istore 6, 2) := by decide +kernel
theorem d_Lw_law_485 : decode c_Lw_law 485 = .ok (.aload_n 2, 1) := by decide +kernel
theorem d_Lw_law_486 : decode c_Lw_law 486 = .ok (.invokevirtual 65, 3) := by decide +kernel
theorem d_Lw_law_489 : decode c_Lw_law 489 = .ok (.iload 5, 2) := by decide +kernel
theorem d_Lw_law_491 : decode c_Lw_law 491 = .ok (.if_icmp .eq 5, 3) := by decide +kernel
theorem d_Lw_law_494 : decode c_Lw_law 494 = .ok (.iconst 0, 1) := by decide +kernel
theorem d_Lw_law_495 : decode c_Lw_law 495 = .ok (.ireturn, 1) := by decide +kernel
theorem d_Lw_law_496 : decode c_Lw_law 496 = .ok (.iload 5, 2) := by decide +kernel
theorem d_Lw_law_498 : decode c_Lw_law 498 = .ok (.ifCond .ne 15, 3) := by decide +kernel
theorem d_Lw_law_501 : decode c_Lw_law 501 = .ok (.aload_n 3, 1) := by decide +kernel
theorem d_Lw_law_502 : decode c_Lw_law 502 = .ok (.iconst 0, 1) := by decide +kernel
theorem d_Lw_law_503 : decode c_Lw_law 503 = .ok (.laload, 1) := by decide +kernel
theorem d_Lw_law_504 : decode c_Lw_law 504 = .ok (.iload 6, 2) := by decide +kernel
theorem d_Lw_law_506 : decode c_Lw_law 506 = .ok (.i2l, 1) := by decide +kernel
theorem d_Lw_law_507 : decode c_Lw_law 507 = .ok (.lcmp, 1) := by decide +kernel
theorem d_Lw_law_508 : decode c_Lw_law 508 = .ok (.ifCond .eq 5, 3) := by decide +kernel
theorem d_Lw_law_511 : decode c_Lw_law 511 = .ok (.iconst 0, 1) := by decide +kernel
theorem d_Lw_law_512 : decode c_Lw_law 512 = .ok (.ireturn, 1) := by decide +kernel
theorem d_Lw_law_513 : decode c_Lw_law 513 = .ok (.goto 468, 3) := by decide +kernel
theorem d_Lw_law_516 : decode c_Lw_law 516 = .ok (.aload_n 1, 1) := by decide +kernel
theorem d_Lw_law_517 : decode c_Lw_law 517 = .ok (.aload_n 0, 1) := by decide +kernel
theorem d_Lw_law_518 : decode c_Lw_law 518 = .ok (.iload 4, 2) := by decide +kernel
theorem d_Lw_law_520 : decode c_Lw_law 520 = .ok (.iconst 1, 1) := by decide +kernel
theorem d_Lw_law_521 : decode c_Lw_law 521 = .ok (.iadd, 1) := by decide +kernel
theorem d_Lw_law_522 : decode c_Lw_law 522 = .ok (.iaload, 1) := by decide +kernel
theorem d_Lw_law_523 : decode c_Lw_law 523 = .ok (.aload_n 0, 1) := by decide +kernel
theorem d_Lw_law_524 : decode c_Lw_law 524 = .ok (.iload 4, 2) := by decide +kernel
theorem d_Lw_law_526 : decode c_Lw_law 526 = .ok (.iconst 2, 1) := by decide +kernel
theorem d_Lw_law_527 : decode c_Lw_law 527 = .ok (.iadd, 1) := by decide +kernel
theorem d_Lw_law_528 : decode c_Lw_law 528 = .ok (.iaload, 1) := by decide +kernel
theorem d_Lw_law_529 : decode c_Lw_law 529 = .ok (.aload_n 3, 1) := by decide +kernel
theorem d_Lw_law_530 : decode c_Lw_law 530 = .ok (.invokestatic 86, 3) := by decide +kernel
theorem d_Lw_law_533 : decode c_Lw_law 533 = .ok (.istore 5, 2) := by decide +kernel
theorem d_Lw_law_535 : decode c_Lw_law 535 = .ok (.aload_n 2, 1) := by decide +kernel
theorem d_Lw_law_536 : decode c_Lw_law 536 = .ok (.aload_n 0, 1) := by decide +kernel
theorem d_Lw_law_537 : decode c_Lw_law 537 = .ok (.iload 4, 2) := by decide +kernel
theorem d_Lw_law_539 : decode c_Lw_law 539 = .ok (.iconst 1, 1) := by decide +kernel
theorem d_Lw_law_540 : decode c_Lw_law 540 = .ok (.iadd, 1) := by decide +kernel
theorem d_Lw_law_541 : decode c_Lw_law 541 = .ok (.iaload, 1) := by decide +kernel
theorem d_Lw_law_542 : decode c_Lw_law 542 = .ok (.aload_n 0, 1) := by decide +kernel
theorem d_Lw_law_543 : decode c_Lw_law 543 = .ok (.iload 4, 2) := by decide +kernel
theorem d_Lw_law_545 : decode c_Lw_law 545 = .ok (.iconst 2, 1) := by decide +kernel
theorem d_Lw_law_546 : decode c_Lw_law 546 = .ok (.iadd, 1) := by decide +kernel
theorem d_Lw_law_547 : decode c_Lw_law 547 = .ok (.iaload, 1) := by decide +kernel
theorem d_Lw_law_548 : decode c_Lw_law 548 = .ok (.invokevirtual 88, 3) := by decide +kernel
theorem d_Lw_law_551 : decode c_Lw_law 551 = .ok (.istore 6, 2) := by decide +kernel
theorem d_Lw_law_553 : decode c_Lw_law 553 = .ok (.aload_n 2, 1) := by decide +kernel
theorem d_Lw_law_554 : decode c_Lw_law 554 = .ok (.invokevirtual 65, 3) := by decide +kernel
theorem d_Lw_law_557 : decode c_Lw_law 557 = .ok (.iload 5, 2) := by decide +kernel
theorem d_Lw_law_559 : decode c_Lw_law 559 = .ok (.if_icmp .eq 5, 3) := by decide +kernel
theorem d_Lw_law_562 : decode c_Lw_law 562 = .ok (.iconst 0, 1) := by decide +kernel
theorem d_Lw_law_563 : decode c_Lw_law 563 = .ok (.ireturn, 1) := by decide +kernel
theorem d_Lw_law_564 : decode c_Lw_law 564 = .ok (.iload 5, 2) := by decide +kernel
theorem d_Lw_law_566 : decode c_Lw_law 566 = .ok (.ifCond .ne 15, 3) := by decide +kernel
theorem d_Lw_law_569 : decode c_Lw_law 569 = .ok (.aload_n 3, 1) := by decide +kernel
theorem d_Lw_law_570 : decode c_Lw_law 570 = .ok (.iconst 0, 1) := by decide +kernel
theorem d_Lw_law_571 : decode c_Lw_law 571 = .ok (.laload, 1) := by decide +kernel
theorem d_Lw_law_572 : decode c_Lw_law 572 = .ok (.iload 6, 2) := by decide +kernel
theorem d_Lw_law_574 : decode c_Lw_law 574 = .ok (.i2l, 1) := by decide +kernel
theorem d_Lw_law_575 : decode c_Lw_law 575 = .ok (.lcmp, 1) := by decide +kernel
theorem d_Lw_law_576 : decode c_Lw_law 576 = .ok (.ifCond .eq 5, 3) := by decide +kernel
theorem d_Lw_law_579 : decode c_Lw_law 579 = .ok (.iconst 0, 1) := by decide +kernel
theorem d_Lw_law_580 : decode c_Lw_law 580 = .ok (.ireturn, 1) := by decide +kernel
theorem d_Lw_law_581 : decode c_Lw_law 581 = .ok (.goto 400, 3) := by decide +kernel
theorem d_Lw_law_584 : decode c_Lw_law 584 = .ok (.aload_n 1, 1) := by decide +kernel
theorem d_Lw_law_585 : decode c_Lw_law 585 = .ok (.aload_n 0, 1) := by decide +kernel
theorem d_Lw_law_586 : decode c_Lw_law 586 = .ok (.iload 4, 2) := by decide +kernel
theorem d_Lw_law_588 : decode c_Lw_law 588 = .ok (.iconst 1, 1) := by decide +kernel
theorem d_Lw_law_589 : decode c_Lw_law 589 = .ok (.iadd, 1) := by decide +kernel
theorem d_Lw_law_590 : decode c_Lw_law 590 = .ok (.iaload, 1) := by decide +kernel
theorem d_Lw_law_591 : decode c_Lw_law 591 = .ok (.aload_n 0, 1) := by decide +kernel
theorem d_Lw_law_592 : decode c_Lw_law 592 = .ok (.iload 4, 2) := by decide +kernel
theorem d_Lw_law_594 : decode c_Lw_law 594 = .ok (.iconst 2, 1) := by decide +kernel
theorem d_Lw_law_595 : decode c_Lw_law 595 = .ok (.iadd, 1) := by decide +kernel
theorem d_Lw_law_596 : decode c_Lw_law 596 = .ok (.iaload, 1) := by decide +kernel
theorem d_Lw_law_597 : decode c_Lw_law 597 = .ok (.aload_n 3, 1) := by decide +kernel
theorem d_Lw_law_598 : decode c_Lw_law 598 = .ok (.invokestatic 89, 3) := by decide +kernel
theorem d_Lw_law_601 : decode c_Lw_law 601 = .ok (.istore 5, 2) := by decide +kernel
theorem d_Lw_law_603 : decode c_Lw_law 603 = .ok (.aload_n 2, 1) := by decide +kernel
theorem d_Lw_law_604 : decode c_Lw_law 604 = .ok (.aload_n 0, 1) := by decide +kernel
theorem d_Lw_law_605 : decode c_Lw_law 605 = .ok (.iload 4, 2) := by decide +kernel
theorem d_Lw_law_607 : decode c_Lw_law 607 = .ok (.iconst 1, 1) := by decide +kernel
theorem d_Lw_law_608 : decode c_Lw_law 608 = .ok (.iadd, 1) := by decide +kernel
theorem d_Lw_law_609 : decode c_Lw_law 609 = .ok (.iaload, 1) := by decide +kernel
theorem d_Lw_law_610 : decode c_Lw_law 610 = .ok (.aload_n 0, 1) := by decide +kernel
theorem d_Lw_law_611 : decode c_Lw_law 611 = .ok (.iload 4, 2) := by decide +kernel
theorem d_Lw_law_613 : decode c_Lw_law 613 = .ok (.iconst 2, 1) := by decide +kernel
theorem d_Lw_law_614 : decode c_Lw_law 614 = .ok (.iadd, 1) := by decide +kernel
theorem d_Lw_law_615 : decode c_Lw_law 615 = .ok (.iaload, 1) := by decide +kernel
theorem d_Lw_law_616 : decode c_Lw_law 616 = .ok (.invokevirtual 91, 3) := by decide +kernel
theorem d_Lw_law_619 : decode c_Lw_law 619 = .ok (.istore 6, 2) := by decide +kernel
theorem d_Lw_law_621 : decode c_Lw_law 621 = .ok (.aload_n 2, 1) := by decide +kernel
theorem d_Lw_law_622 : decode c_Lw_law 622 = .ok (.invokevirtual 65, 3) := by decide +kernel
theorem d_Lw_law_625 : decode c_Lw_law 625 = .ok (.iload 5, 2) := by decide +kernel
theorem d_Lw_law_627 : decode c_Lw_law 627 = .ok (.if_icmp .eq 5, 3) := by decide +kernel
theorem d_Lw_law_630 : decode c_Lw_law 630 = .ok (.iconst 0, 1) := by decide +kernel
theorem d_Lw_law_631 : decode c_Lw_law 631 = .ok (.ireturn, 1) := by decide +kernel
theorem d_Lw_law_632 : decode c_Lw_law 632 = .ok (.iload 5, 2) := by decide +kernel
theorem d_Lw_law_634 : decode c_Lw_law 634 = .ok (.ifCond .ne 15, 3) := by decide +kernel
theorem d_Lw_law_637 : decode c_Lw_law 637 = .ok (.aload_n 3, 1) := by decide +kernel
theorem d_Lw_law_638 : decode c_Lw_law 638 = .ok (.iconst 0, 1) := by decide +kernel
theorem d_Lw_law_639 : decode c_Lw_law 639 = .ok (.laload, 1) := by decide +kernel
theorem d_Lw_law_640 : decode c_Lw_law 640 = .ok (.iload 6, 2) := by decide +kernel
theorem d_Lw_law_642 : decode c_Lw_law 642 = .ok (.i2l, 1) := by decide +kernel
theorem d_Lw_law_643 : decode c_Lw_law 643 = .ok (.lcmp, 1) := by decide +kernel
theorem d_Lw_law_644 : decode c_Lw_law 644 = .ok (.ifCond .eq 5, 3) := by decide +kernel
theorem d_Lw_law_647 : decode c_Lw_law 647 = .ok (.iconst 0, 1) := by decide +kernel
theorem d_Lw_law_648 : decode c_Lw_law 648 = .ok (.ireturn, 1) := by decide +kernel
theorem d_Lw_law_649 : decode c_Lw_law 649 = .ok (.goto 332, 3) := by decide +kernel
theorem d_Lw_law_652 : decode c_Lw_law 652 = .ok (.aload_n 1, 1) := by decide +kernel
theorem d_Lw_law_653 : decode c_Lw_law 653 = .ok (.aload_n 0, 1) := by decide +kernel
theorem d_Lw_law_654 : decode c_Lw_law 654 = .ok (.iload 4, 2) := by decide +kernel
theorem d_Lw_law_656 : decode c_Lw_law 656 = .ok (.iconst 1, 1) := by decide +kernel
theorem d_Lw_law_657 : decode c_Lw_law 657 = .ok (.iadd, 1) := by decide +kernel
theorem d_Lw_law_658 : decode c_Lw_law 658 = .ok (.iaload, 1) := by decide +kernel
theorem d_Lw_law_659 : decode c_Lw_law 659 = .ok (.aload_n 3, 1) := by decide +kernel
theorem d_Lw_law_660 : decode c_Lw_law 660 = .ok (.invokestatic 92, 3) := by decide +kernel
theorem d_Lw_law_663 : decode c_Lw_law 663 = .ok (.istore 5, 2) := by decide +kernel
theorem d_Lw_law_665 : decode c_Lw_law 665 = .ok (.aload_n 2, 1) := by decide +kernel
theorem d_Lw_law_666 : decode c_Lw_law 666 = .ok (.aload_n 0, 1) := by decide +kernel
theorem d_Lw_law_667 : decode c_Lw_law 667 = .ok (.iload 4, 2) := by decide +kernel
theorem d_Lw_law_669 : decode c_Lw_law 669 = .ok (.iconst 1, 1) := by decide +kernel
theorem d_Lw_law_670 : decode c_Lw_law 670 = .ok (.iadd, 1) := by decide +kernel
theorem d_Lw_law_671 : decode c_Lw_law 671 = .ok (.iaload, 1) := by decide +kernel
theorem d_Lw_law_672 : decode c_Lw_law 672 = .ok (.invokevirtual 94, 3) := by decide +kernel
theorem d_Lw_law_675 : decode c_Lw_law 675 = .ok (.istore 6, 2) := by decide +kernel
theorem d_Lw_law_677 : decode c_Lw_law 677 = .ok (.aload_n 2, 1) := by decide +kernel
theorem d_Lw_law_678 : decode c_Lw_law 678 = .ok (.invokevirtual 65, 3) := by decide +kernel
theorem d_Lw_law_681 : decode c_Lw_law 681 = .ok (.iload 5, 2) := by decide +kernel
theorem d_Lw_law_683 : decode c_Lw_law 683 = .ok (.if_icmp .eq 5, 3) := by decide +kernel
theorem d_Lw_law_686 : decode c_Lw_law 686 = .ok (.iconst 0, 1) := by decide +kernel
theorem d_Lw_law_687 : decode c_Lw_law 687 = .ok (.ireturn, 1) := by decide +kernel
theorem d_Lw_law_688 : decode c_Lw_law 688 = .ok (.iload 5, 2) := by decide +kernel
theorem d_Lw_law_690 : decode c_Lw_law 690 = .ok (.ifCond .ne 15, 3) := by decide +kernel
theorem d_Lw_law_693 : decode c_Lw_law 693 = .ok (.aload_n 3, 1) := by decide +kernel
theorem d_Lw_law_694 : decode c_Lw_law 694 = .ok (.iconst 0, 1) := by decide +kernel
theorem d_Lw_law_695 : decode c_Lw_law 695 = .ok (.laload, 1) := by decide +kernel
theorem d_Lw_law_696 : decode c_Lw_law 696 = .ok (.iload 6, 2) := by decide +kernel
theorem d_Lw_law_698 : decode c_Lw_law 698 = .ok (.i2l, 1) := by decide +kernel
theorem d_Lw_law_699 : decode c_Lw_law 699 = .ok (.lcmp, 1) := by decide +kernel
theorem d_Lw_law_700 : decode c_Lw_law 700 = .ok (.ifCond .eq 5, 3) := by decide +kernel
theorem d_Lw_law_703 : decode c_Lw_law 703 = .ok (.iconst 0, 1) := by decide +kernel
theorem d_Lw_law_704 : decode c_Lw_law 704 = .ok (.ireturn, 1) := by decide +kernel
theorem d_Lw_law_705 : decode c_Lw_law 705 = .ok (.goto 276, 3) := by decide +kernel
theorem d_Lw_law_708 : decode c_Lw_law 708 = .ok (.aload_n 1, 1) := by decide +kernel
theorem d_Lw_law_709 : decode c_Lw_law 709 = .ok (.invokevirtual 95, 3) := by decide +kernel
theorem d_Lw_law_712 : decode c_Lw_law 712 = .ok (.aload_n 2, 1) := by decide +kernel
theorem d_Lw_law_713 : decode c_Lw_law 713 = .ok (.invokevirtual 98, 3) := by decide +kernel
theorem d_Lw_law_716 : decode c_Lw_law 716 = .ok (.if_icmp .eq 265, 3) := by decide +kernel
theorem d_Lw_law_719 : decode c_Lw_law 719 = .ok (.iconst 0, 1) := by decide +kernel
theorem d_Lw_law_720 : decode c_Lw_law 720 = .ok (.ireturn, 1) := by decide +kernel
theorem d_Lw_law_721 : decode c_Lw_law 721 = .ok (.aload_n 1, 1) := by decide +kernel
theorem d_Lw_law_722 : decode c_Lw_law 722 = .ok (.aload_n 0, 1) := by decide +kernel
theorem d_Lw_law_723 : decode c_Lw_law 723 = .ok (.iload 4, 2) := by decide +kernel
theorem d_Lw_law_725 : decode c_Lw_law 725 = .ok (.iconst 1, 1) := by decide +kernel
theorem d_Lw_law_726 : decode c_Lw_law 726 = .ok (.iadd, 1) := by decide +kernel
theorem d_Lw_law_727 : decode c_Lw_law 727 = .ok (.iaload, 1) := by decide +kernel
theorem d_Lw_law_728 : decode c_Lw_law 728 = .ok (.aload_n 0, 1) := by decide +kernel
theorem d_Lw_law_729 : decode c_Lw_law 729 = .ok (.iload 4, 2) := by decide +kernel
theorem d_Lw_law_731 : decode c_Lw_law 731 = .ok (.iconst 2, 1) := by decide +kernel
theorem d_Lw_law_732 : decode c_Lw_law 732 = .ok (.iadd, 1) := by decide +kernel
theorem d_Lw_law_733 : decode c_Lw_law 733 = .ok (.iaload, 1) := by decide +kernel
theorem d_Lw_law_734 : decode c_Lw_law 734 = .ok (.aload_n 3, 1) := by decide +kernel
theorem d_Lw_law_735 : decode c_Lw_law 735 = .ok (.invokestatic 99, 3) := by decide +kernel
theorem d_Lw_law_738 : decode c_Lw_law 738 = .ok (.istore 5, 2) := by decide +kernel
theorem d_Lw_law_740 : decode c_Lw_law 740 = .ok (.aload_n 2, 1) := by decide +kernel
theorem d_Lw_law_741 : decode c_Lw_law 741 = .ok (.aload_n 0, 1) := by decide +kernel
theorem d_Lw_law_742 : decode c_Lw_law 742 = .ok (.iload 4, 2) := by decide +kernel
theorem d_Lw_law_744 : decode c_Lw_law 744 = .ok (.iconst 1, 1) := by decide +kernel
theorem d_Lw_law_745 : decode c_Lw_law 745 = .ok (.iadd, 1) := by decide +kernel
theorem d_Lw_law_746 : decode c_Lw_law 746 = .ok (.iaload, 1) := by decide +kernel
theorem d_Lw_law_747 : decode c_Lw_law 747 = .ok (.aload_n 0, 1) := by decide +kernel
theorem d_Lw_law_748 : decode c_Lw_law 748 = .ok (.iload 4, 2) := by decide +kernel
theorem d_Lw_law_750 : decode c_Lw_law 750 = .ok (.iconst 2, 1) := by decide +kernel
theorem d_Lw_law_751 : decode c_Lw_law 751 = .ok (.iadd, 1) := by decide +kernel
theorem d_Lw_law_752 : decode c_Lw_law 752 = .ok (.iaload, 1) := by decide +kernel
theorem d_Lw_law_753 : decode c_Lw_law 753 = .ok (.invokevirtual 101, 3) := by decide +kernel
theorem d_Lw_law_756 : decode c_Lw_law 756 = .ok (.istore 6, 2) := by decide +kernel
theorem d_Lw_law_758 : decode c_Lw_law 758 = .ok (.aload_n 2, 1) := by decide +kernel
theorem d_Lw_law_759 : decode c_Lw_law 759 = .ok (.invokevirtual 65, 3) := by decide +kernel
theorem d_Lw_law_762 : decode c_Lw_law 762 = .ok (.iload 5, 2) := by decide +kernel
theorem d_Lw_law_764 : decode c_Lw_law 764 = .ok (.if_icmp .eq 5, 3) := by decide +kernel
theorem d_Lw_law_767 : decode c_Lw_law 767 = .ok (.iconst 0, 1) := by decide +kernel
theorem d_Lw_law_768 : decode c_Lw_law 768 = .ok (.ireturn, 1) := by decide +kernel
theorem d_Lw_law_769 : decode c_Lw_law 769 = .ok (.iload 5, 2) := by decide +kernel
theorem d_Lw_law_771 : decode c_Lw_law 771 = .ok (.ifCond .ne 15, 3) := by decide +kernel
theorem d_Lw_law_774 : decode c_Lw_law 774 = .ok (.aload_n 3, 1) := by decide +kernel
theorem d_Lw_law_775 : decode c_Lw_law 775 = .ok (.iconst 0, 1) := by decide +kernel
theorem d_Lw_law_776 : decode c_Lw_law 776 = .ok (.laload, 1) := by decide +kernel
theorem d_Lw_law_777 : decode c_Lw_law 777 = .ok (.iload 6, 2) := by decide +kernel
theorem d_Lw_law_779 : decode c_Lw_law 779 = .ok (.i2l, 1) := by decide +kernel
theorem d_Lw_law_780 : decode c_Lw_law 780 = .ok (.lcmp, 1) := by decide +kernel
theorem d_Lw_law_781 : decode c_Lw_law 781 = .ok (.ifCond .eq 5, 3) := by decide +kernel
theorem d_Lw_law_784 : decode c_Lw_law 784 = .ok (.iconst 0, 1) := by decide +kernel
theorem d_Lw_law_785 : decode c_Lw_law 785 = .ok (.ireturn, 1) := by decide +kernel
theorem d_Lw_law_786 : decode c_Lw_law 786 = .ok (.goto 195, 3) := by decide +kernel
theorem d_Lw_law_789 : decode c_Lw_law 789 = .ok (.aload_n 1, 1) := by decide +kernel
theorem d_Lw_law_790 : decode c_Lw_law 790 = .ok (.aload_n 0, 1) := by decide +kernel
theorem d_Lw_law_791 : decode c_Lw_law 791 = .ok (.iload 4, 2) := by decide +kernel
theorem d_Lw_law_793 : decode c_Lw_law 793 = .ok (.iconst 1, 1) := by decide +kernel
theorem d_Lw_law_794 : decode c_Lw_law 794 = .ok (.iadd, 1) := by decide +kernel
theorem d_Lw_law_795 : decode c_Lw_law 795 = .ok (.iaload, 1) := by decide +kernel
theorem d_Lw_law_796 : decode c_Lw_law 796 = .ok (.aload_n 0, 1) := by decide +kernel
theorem d_Lw_law_797 : decode c_Lw_law 797 = .ok (.iload 4, 2) := by decide +kernel
theorem d_Lw_law_799 : decode c_Lw_law 799 = .ok (.iconst 2, 1) := by decide +kernel
theorem d_Lw_law_800 : decode c_Lw_law 800 = .ok (.iadd, 1) := by decide +kernel
theorem d_Lw_law_801 : decode c_Lw_law 801 = .ok (.iaload, 1) := by decide +kernel
theorem d_Lw_law_802 : decode c_Lw_law 802 = .ok (.aload_n 3, 1) := by decide +kernel
theorem d_Lw_law_803 : decode c_Lw_law 803 = .ok (.invokestatic 102, 3) := by decide +kernel
theorem d_Lw_law_806 : decode c_Lw_law 806 = .ok (.istore 5, 2) := by decide +kernel
theorem d_Lw_law_808 : decode c_Lw_law 808 = .ok (.aload_n 2, 1) := by decide +kernel
theorem d_Lw_law_809 : decode c_Lw_law 809 = .ok (.aload_n 0, 1) := by decide +kernel
theorem d_Lw_law_810 : decode c_Lw_law 810 = .ok (.iload 4, 2) := by decide +kernel
theorem d_Lw_law_812 : decode c_Lw_law 812 = .ok (.iconst 1, 1) := by decide +kernel
theorem d_Lw_law_813 : decode c_Lw_law 813 = .ok (.iadd, 1) := by decide +kernel
theorem d_Lw_law_814 : decode c_Lw_law 814 = .ok (.iaload, 1) := by decide +kernel
theorem d_Lw_law_815 : decode c_Lw_law 815 = .ok (.aload_n 0, 1) := by decide +kernel
theorem d_Lw_law_816 : decode c_Lw_law 816 = .ok (.iload 4, 2) := by decide +kernel
theorem d_Lw_law_818 : decode c_Lw_law 818 = .ok (.iconst 2, 1) := by decide +kernel
theorem d_Lw_law_819 : decode c_Lw_law 819 = .ok (.iadd, 1) := by decide +kernel
theorem d_Lw_law_820 : decode c_Lw_law 820 = .ok (.iaload, 1) := by decide +kernel
theorem d_Lw_law_821 : decode c_Lw_law 821 = .ok (.invokevirtual 104, 3) := by decide +kernel
theorem d_Lw_law_824 : decode c_Lw_law 824 = .ok (.istore 6, 2) := by decide +kernel
theorem d_Lw_law_826 : decode c_Lw_law 826 = .ok (.aload_n 2, 1) := by decide +kernel
theorem d_Lw_law_827 : decode c_Lw_law 827 = .ok (.invokevirtual 65, 3) := by decide +kernel
theorem d_Lw_law_830 : decode c_Lw_law 830 = .ok (.iload 5, 2) := by decide +kernel
theorem d_Lw_law_832 : decode c_Lw_law 832 = .ok (.if_icmp .eq 5, 3) := by decide +kernel
theorem d_Lw_law_835 : decode c_Lw_law 835 = .ok (.iconst 0, 1) := by decide +kernel
theorem d_Lw_law_836 : decode c_Lw_law 836 = .ok (.ireturn, 1) := by decide +kernel
theorem d_Lw_law_837 : decode c_Lw_law 837 = .ok (.iload 5, 2) := by decide +kernel
theorem d_Lw_law_839 : decode c_Lw_law 839 = .ok (.ifCond .ne 15, 3) := by decide +kernel
theorem d_Lw_law_842 : decode c_Lw_law 842 = .ok (.aload_n 3, 1) := by decide +kernel
theorem d_Lw_law_843 : decode c_Lw_law 843 = .ok (.iconst 0, 1) := by decide +kernel
theorem d_Lw_law_844 : decode c_Lw_law 844 = .ok (.laload, 1) := by decide +kernel
theorem d_Lw_law_845 : decode c_Lw_law 845 = .ok (.iload 6, 2) := by decide +kernel
theorem d_Lw_law_847 : decode c_Lw_law 847 = .ok (.i2l, 1) := by decide +kernel
theorem d_Lw_law_848 : decode c_Lw_law 848 = .ok (.lcmp, 1) := by decide +kernel
theorem d_Lw_law_849 : decode c_Lw_law 849 = .ok (.ifCond .eq 5, 3) := by decide +kernel
theorem d_Lw_law_852 : decode c_Lw_law 852 = .ok (.iconst 0, 1) := by decide +kernel
theorem d_Lw_law_853 : decode c_Lw_law 853 = .ok (.ireturn, 1) := by decide +kernel
theorem d_Lw_law_854 : decode c_Lw_law 854 = .ok (.goto 127, 3) := by decide +kernel
theorem d_Lw_law_857 : decode c_Lw_law 857 = .ok (.aload_n 1, 1) := by decide +kernel
theorem d_Lw_law_858 : decode c_Lw_law 858 = .ok (.aload_n 0, 1) := by decide +kernel
theorem d_Lw_law_859 : decode c_Lw_law 859 = .ok (.iload 4, 2) := by decide +kernel
theorem d_Lw_law_861 : decode c_Lw_law 861 = .ok (.iconst 1, 1) := by decide +kernel
theorem d_Lw_law_862 : decode c_Lw_law 862 = .ok (.iadd, 1) := by decide +kernel
theorem d_Lw_law_863 : decode c_Lw_law 863 = .ok (.iaload, 1) := by decide +kernel
theorem d_Lw_law_864 : decode c_Lw_law 864 = .ok (.aload_n 3, 1) := by decide +kernel
theorem d_Lw_law_865 : decode c_Lw_law 865 = .ok (.invokestatic 105, 3) := by decide +kernel
theorem d_Lw_law_868 : decode c_Lw_law 868 = .ok (.istore 5, 2) := by decide +kernel
theorem d_Lw_law_870 : decode c_Lw_law 870 = .ok (.aload_n 2, 1) := by decide +kernel
theorem d_Lw_law_871 : decode c_Lw_law 871 = .ok (.aload_n 0, 1) := by decide +kernel
theorem d_Lw_law_872 : decode c_Lw_law 872 = .ok (.iload 4, 2) := by decide +kernel
theorem d_Lw_law_874 : decode c_Lw_law 874 = .ok (.iconst 1, 1) := by decide +kernel
theorem d_Lw_law_875 : decode c_Lw_law 875 = .ok (.iadd, 1) := by decide +kernel
theorem d_Lw_law_876 : decode c_Lw_law 876 = .ok (.iaload, 1) := by decide +kernel
theorem d_Lw_law_877 : decode c_Lw_law 877 = .ok (.invokevirtual 107, 3) := by decide +kernel
theorem d_Lw_law_880 : decode c_Lw_law 880 = .ok (.istore 6, 2) := by decide +kernel
theorem d_Lw_law_882 : decode c_Lw_law 882 = .ok (.aload_n 2, 1) := by decide +kernel
theorem d_Lw_law_883 : decode c_Lw_law 883 = .ok (.invokevirtual 65, 3) := by decide +kernel
theorem d_Lw_law_886 : decode c_Lw_law 886 = .ok (.iload 5, 2) := by decide +kernel
theorem d_Lw_law_888 : decode c_Lw_law 888 = .ok (.if_icmp .eq 5, 3) := by decide +kernel
theorem d_Lw_law_891 : decode c_Lw_law 891 = .ok (.iconst 0, 1) := by decide +kernel
theorem d_Lw_law_892 : decode c_Lw_law 892 = .ok (.ireturn, 1) := by decide +kernel
theorem d_Lw_law_893 : decode c_Lw_law 893 = .ok (.iload 5, 2) := by decide +kernel
theorem d_Lw_law_895 : decode c_Lw_law 895 = .ok (.ifCond .ne 15, 3) := by decide +kernel
theorem d_Lw_law_898 : decode c_Lw_law 898 = .ok (.aload_n 3, 1) := by decide +kernel
theorem d_Lw_law_899 : decode c_Lw_law 899 = .ok (.iconst 0, 1) := by decide +kernel
theorem d_Lw_law_900 : decode c_Lw_law 900 = .ok (.laload, 1) := by decide +kernel
theorem d_Lw_law_901 : decode c_Lw_law 901 = .ok (.iload 6, 2) := by decide +kernel
theorem d_Lw_law_903 : decode c_Lw_law 903 = .ok (.i2l, 1) := by decide +kernel
theorem d_Lw_law_904 : decode c_Lw_law 904 = .ok (.lcmp, 1) := by decide +kernel
theorem d_Lw_law_905 : decode c_Lw_law 905 = .ok (.ifCond .eq 5, 3) := by decide +kernel
theorem d_Lw_law_908 : decode c_Lw_law 908 = .ok (.iconst 0, 1) := by decide +kernel
theorem d_Lw_law_909 : decode c_Lw_law 909 = .ok (.ireturn, 1) := by decide +kernel
theorem d_Lw_law_910 : decode c_Lw_law 910 = .ok (.goto 71, 3) := by decide +kernel
theorem d_Lw_law_913 : decode c_Lw_law 913 = .ok (.aload_n 1, 1) := by decide +kernel
theorem d_Lw_law_914 : decode c_Lw_law 914 = .ok (.aload_n 0, 1) := by decide +kernel
theorem d_Lw_law_915 : decode c_Lw_law 915 = .ok (.iload 4, 2) := by decide +kernel
theorem d_Lw_law_917 : decode c_Lw_law 917 = .ok (.iconst 1, 1) := by decide +kernel
theorem d_Lw_law_918 : decode c_Lw_law 918 = .ok (.iadd, 1) := by decide +kernel
theorem d_Lw_law_919 : decode c_Lw_law 919 = .ok (.iaload, 1) := by decide +kernel
theorem d_Lw_law_920 : decode c_Lw_law 920 = .ok (.aload_n 0, 1) := by decide +kernel
theorem d_Lw_law_921 : decode c_Lw_law 921 = .ok (.iload 4, 2) := by decide +kernel
theorem d_Lw_law_923 : decode c_Lw_law 923 = .ok (.iconst 2, 1) := by decide +kernel
theorem d_Lw_law_924 : decode c_Lw_law 924 = .ok (.iadd, 1) := by decide +kernel
theorem d_Lw_law_925 : decode c_Lw_law 925 = .ok (.iaload, 1) := by decide +kernel
theorem d_Lw_law_926 : decode c_Lw_law 926 = .ok (.aload_n 3, 1) := by decide +kernel
theorem d_Lw_law_927 : decode c_Lw_law 927 = .ok (.invokestatic 108, 3) := by decide +kernel
theorem d_Lw_law_930 : decode c_Lw_law 930 = .ok (.istore 5, 2) := by decide +kernel
theorem d_Lw_law_932 : decode c_Lw_law 932 = .ok (.aload_n 2, 1) := by decide +kernel
theorem d_Lw_law_933 : decode c_Lw_law 933 = .ok (.aload_n 0, 1) := by decide +kernel
theorem d_Lw_law_934 : decode c_Lw_law 934 = .ok (.iload 4, 2) := by decide +kernel
theorem d_Lw_law_936 : decode c_Lw_law 936 = .ok (.iconst 1, 1) := by decide +kernel
theorem d_Lw_law_937 : decode c_Lw_law 937 = .ok (.iadd, 1) := by decide +kernel
theorem d_Lw_law_938 : decode c_Lw_law 938 = .ok (.iaload, 1) := by decide +kernel
theorem d_Lw_law_939 : decode c_Lw_law 939 = .ok (.aload_n 0, 1) := by decide +kernel
theorem d_Lw_law_940 : decode c_Lw_law 940 = .ok (.iload 4, 2) := by decide +kernel
theorem d_Lw_law_942 : decode c_Lw_law 942 = .ok (.iconst 2, 1) := by decide +kernel
theorem d_Lw_law_943 : decode c_Lw_law 943 = .ok (.iadd, 1) := by decide +kernel
theorem d_Lw_law_944 : decode c_Lw_law 944 = .ok (.iaload, 1) := by decide +kernel
theorem d_Lw_law_945 : decode c_Lw_law 945 = .ok (.invokevirtual 110, 3) := by decide +kernel
theorem d_Lw_law_948 : decode c_Lw_law 948 = .ok (.istore 6, 2) := by decide +kernel
theorem d_Lw_law_950 : decode c_Lw_law 950 = .ok (.aload_n 2, 1) := by decide +kernel
theorem d_Lw_law_951 : decode c_Lw_law 951 = .ok (.invokevirtual 65, 3) := by decide +kernel
theorem d_Lw_law_954 : decode c_Lw_law 954 = .ok (.iload 5, 2) := by decide +kernel
theorem d_Lw_law_956 : decode c_Lw_law 956 = .ok (.if_icmp .eq 5, 3) := by decide +kernel
theorem d_Lw_law_959 : decode c_Lw_law 959 = .ok (.iconst 0, 1) := by decide +kernel
theorem d_Lw_law_960 : decode c_Lw_law 960 = .ok (.ireturn, 1) := by decide +kernel
theorem d_Lw_law_961 : decode c_Lw_law 961 = .ok (.iload 5, 2) := by decide +kernel
theorem d_Lw_law_963 : decode c_Lw_law 963 = .ok (.ifCond .ne 15, 3) := by decide +kernel
theorem d_Lw_law_966 : decode c_Lw_law 966 = .ok (.aload_n 3, 1) := by decide +kernel
theorem d_Lw_law_967 : decode c_Lw_law 967 = .ok (.iconst 0, 1) := by decide +kernel
theorem d_Lw_law_968 : decode c_Lw_law 968 = .ok (.laload, 1) := by decide +kernel
theorem d_Lw_law_969 : decode c_Lw_law 969 = .ok (.iload 6, 2) := by decide +kernel
theorem d_Lw_law_971 : decode c_Lw_law 971 = .ok (.i2l, 1) := by decide +kernel
theorem d_Lw_law_972 : decode c_Lw_law 972 = .ok (.lcmp, 1) := by decide +kernel
theorem d_Lw_law_973 : decode c_Lw_law 973 = .ok (.ifCond .eq 5, 3) := by decide +kernel
theorem d_Lw_law_976 : decode c_Lw_law 976 = .ok (.iconst 0, 1) := by decide +kernel
theorem d_Lw_law_977 : decode c_Lw_law 977 = .ok (.ireturn, 1) := by decide +kernel
theorem d_Lw_law_978 : decode c_Lw_law 978 = .ok (.goto 3, 3) := by decide +kernel
theorem d_Lw_law_981 : decode c_Lw_law 981 = .ok (.iinc 4 6, 3) := by decide +kernel
theorem d_Lw_law_984 : decode c_Lw_law 984 = .ok (.goto (-961), 3) := by decide +kernel
theorem d_Lw_law_987 : decode c_Lw_law 987 = .ok (.iconst 1, 1) := by decide +kernel
theorem d_Lw_law_988 : decode c_Lw_law 988 = .ok (.ireturn, 1) := by decide +kernel
end
section
/-! rooms, worlds, words: what every contract here is said in -/
def rmk (k mc ms : Nat) : Room := { frames := 10 * k, cells := mc, slots := ms, locals := 100 * k }
/-- a reader's world -/
def cR (D : va_G) (tys : List (ClassId × FieldType)) (ws : va_W) (U : State) : Prop := va_P D vwC ws U.heap ∧ va_K D vwC tys U
/-- a writer's world: A says which cells may change -/
def cW (A : Nat → Prop) (D : va_G) (tys : List (ClassId × FieldType)) (ws : va_W) (U : State) : Prop := (∀ q : Nat, U.heap.size ≤ q → A q) ∧ va_P D vwC ws U.heap ∧ va_D A ws ∧ va_K D vwC tys U
theorem cR_blind {D : va_G} {tys : List (ClassId × FieldType)} {ws : va_W} {av : List Value} : FrameBlind (va_Pc av (cR D tys ws)) := fun a U g mk q => ⟨q.1, q.2.1, va_K.moved (u := U) (U := U.calling g mk a) (Vm.Alike.refl U.vm) q.2.2⟩
theorem cW_blind {A : Nat → Prop} {D : va_G} {tys : List (ClassId × FieldType)} {ws : va_W} {av : List Value} : FrameBlind (va_Pc av (cW A D tys ws)) := fun a U g mk q => ⟨q.1, q.2.1, q.2.2.1, q.2.2.2.1, va_K.moved (u := U) (U := U.calling g mk a) (Vm.Alike.refl U.vm) q.2.2.2.2⟩
theorem gV {own C : String} {idx : Nat} {y : MethodName} {cw : Cond} (m1 : Cond.methodLink own idx y ∈ wA) (m2 : Cond.instanceMethod y ∈ wA) (m3 : Cond.selects C y y ∈ wA) (m4 : Cond.initialized C ∈ wA) (m5 : cw ∈ wA) : GoodIn wA (wsV own idx C y (cw :: wA)) := by
  intro w hw
  have h : w ∈ wA := by
    unfold wsV at hw
    simp only [List.mem_append, List.mem_cons, List.not_mem_nil, or_false] at hw
    rcases hw with (rfl | rfl | rfl | rfl) | rfl | h
    · exact m1
    · exact m2
    · exact m3
    · exact m4
    · exact m5
    · exact h
  exact ⟨h, wA_good h⟩
theorem gS {own : String} {idx : Nat} {y : MethodName} {cw : Cond} (m1 : Cond.methodLink own idx y ∈ wA) (m2 : Cond.static y ∈ wA) (m4 : Cond.initialized y.cls ∈ wA) (m5 : cw ∈ wA) : GoodIn wA (va_wsS own idx y (cw :: wA)) := by
  intro w hw
  have h : w ∈ wA := by
    unfold va_wsS at hw
    simp only [List.mem_append, List.mem_cons, List.not_mem_nil, or_false] at hw
    rcases hw with (rfl | rfl | rfl) | rfl | h
    · exact m1
    · exact m2
    · exact m4
    · exact m5
    · exact h
  exact ⟨h, wA_good h⟩
theorem gC {cw : Cond} (m5 : cw ∈ wA) : GoodIn wA (cw :: wA) := by
  intro w hw
  have h : w ∈ wA := by
    rcases List.mem_cons.mp hw with rfl | h
    · exact m5
    · exact h
  exact ⟨h, wA_good h⟩
/-- what a called method's own words are: an instance's, by its class -/
def mV (C : String) (y : MethodName) (cw : Cond) (n : Nat) : Prop := (Cond.instanceMethod y ∈ wA ∧ Cond.selects C y y ∈ wA ∧ Cond.initialized C ∈ wA ∧ cw ∈ wA) ∧ (y.cls = C ∧ y.cls ≠ "java/lang/invoke/MethodHandle" ∧ y.cls ≠ "java/lang/invoke/VarHandle" ∧ (parseMethodDescriptor y.desc).map (fun d => d.parameters.length) = some n)
def mS (y : MethodName) (cw : Cond) (n : Nat) : Prop := (Cond.static y ∈ wA ∧ Cond.initialized y.cls ∈ wA ∧ cw ∈ wA) ∧ (y.cls ≠ "java/lang/invoke/MethodHandle" ∧ y.cls ≠ "java/lang/invoke/VarHandle" ∧ (parseMethodDescriptor y.desc).map (fun d => d.parameters.length) = some n)
/-- the end of a writer: its answer, the world behind it, what else stays -/
def wQ (v : Option Value) (A : Nat → Prop) (D : va_G) (ws : va_W) : Array Value → State → Outcome → State → Prop := fun _ st oc t => oc = .returned v ∧ va_P D vwC ws t.heap ∧ va_D A ws ∧ va_F A st t
/-- the same, where what is behind it is known up to a choice -/
def wE {S : Type} (v : S → Option Value) (post : S → Prop) (A : Nat → Prop) (D : va_G) (ws : S → va_W) : Array Value → State → Outcome → State → Prop := fun _ st oc t => ∃ u : S, oc = .returned (v u) ∧ post u ∧ va_P D vwC (ws u) t.heap ∧ va_D A (ws u) ∧ va_F A st t
section RWC
variable {p : Program} {l : Launch} {e : Env} {R : Room} {s : State} {m : MethodId} {args : Array Value} {below : List Frame} {meth : Method} {c : Code} {H : Heap} {locs : List Loc} {cells slots : Nat} {Q : State → Prop}
variable {cc : ByteArray} {pc : Nat} {ls : Array Slot} {rest st0 : List Value}
variable {D : va_G} {tys tys' : List (ClassId × FieldType)} {ws ws' : va_W} {own C : String} {T : u_T} {N ci idx maxL nL n k mc ms : Nat} {y : MethodName} {bytes : ByteArray} {ret : Option FieldType} {r : Int32} {v : Option Value} {b : Nat} {As : List Value} {fs : List Value} {A : Nat → Prop}
/-- a call that only reads, of an object of the world -/
theorem rdV (S : CallFix p m c cc nL s args wA own) (hK : va_K D vwC tys s) (hP : va_P D vwC ws H)
    (hM : Met l y (Cond.code y bytes maxL ret :: wA) (rmk k 0 0) (va_Pc (.ref b :: As) (cR D tys ws)) (QcRead r) 0 0 (fun _ => False))
    (m1 : Cond.methodLink own idx y ∈ wA) (hm : mV C y (Cond.code y bytes maxL ret) n) (hR : 10 * k + 1 ≤ R.frames ∧ 8 + (maxL + 11) + 100 * k ≤ R.locals)
    (q0 : Nat) (he : ws[q0]? = some (b, .inr (ci, fs))) (hc : vwC[ci]? = some (C, T, N)) (hn : As.length = n) (hsz : ls.size = nL) (hst : st0 = As.reverse ++ .ref b :: rest) (hW : (rest.map fun v => v.category).sum ≤ 8)
    (hdg : decode cc pc = .ok (.invokevirtual idx, 3)) (hf : cells ≤ R.cells ∧ slots ≤ R.slots) (kk : W p l e R s m args below meth c H locs cells slots Q (F0 m (pc + 3) ls (.int r :: rest))) : W p l e R s m args below meth c H locs cells slots Q (F0 m pc ls st0) := by
  obtain ⟨⟨m2, m3, m4, m5⟩, hd⟩ := hm
  refine ln_callR (W.runV (As := As) (rest := rest) S hM (cwV n S.2.2.2.2 (gV m1 m2 m3 m4 m5) rfl rfl rfl hd hR) ⟨cR_blind, va_recv hK hP (ci := ci) (q0 := q0) hc he, fun U hU hW => ⟨rfl, by rw [hU]; exact hP, va_K.moved hW.alike hK⟩⟩ rfl hn hsz hst (lv_room hW) hdg ⟨by simpa using hf.1, by simpa using hf.2⟩) kk
theorem rdS (S : CallFix p m c cc nL s args wA own) (hK : va_K D vwC tys s) (hP : va_P D vwC ws H)
    (hM : Met l y (Cond.code y bytes maxL ret :: wA) (rmk k 0 0) (va_Pc As (cR D tys ws)) (QcRead r) 0 0 (fun _ => False))
    (m1 : Cond.methodLink own idx y ∈ wA) (hm : mS y (Cond.code y bytes maxL ret) n) (hR : 10 * k + 1 ≤ R.frames ∧ 8 + (maxL + 11) + 100 * k ≤ R.locals)
    (hn : As.length = n) (hsz : ls.size = nL) (hst : st0 = As.reverse ++ rest) (hW : (rest.map fun v => v.category).sum ≤ 8)
    (hdg : decode cc pc = .ok (.invokestatic idx, 3)) (hf : cells ≤ R.cells ∧ slots ≤ R.slots) (kk : W p l e R s m args below meth c H locs cells slots Q (F0 m (pc + 3) ls (.int r :: rest))) : W p l e R s m args below meth c H locs cells slots Q (F0 m pc ls st0) := by
  obtain ⟨⟨m2, m4, m5⟩, hd⟩ := hm
  refine ln_callR (W.runS (As := As) (rest := rest) S hM (va_cwS n S.2.2.2.2 (gS m1 m2 m4 m5) rfl rfl rfl hd hR) ⟨cR_blind, fun U hU hW => ⟨rfl, by rw [hU]; exact hP, va_K.moved hW.alike hK⟩⟩ rfl hn hsz hst (lv_room hW) hdg ⟨by simpa using hf.1, by simpa using hf.2⟩) kk
theorem wq_run {a : Array Value} {mc ms : Nat} (hr : va_Run p l e R s m args below meth c H locs cells slots mc ms (F0 m pc ls st0) rest (wQ v A D ws' a) A) (hS : va_S A s.heap H locs)
    (kk : ∀ (H1 : Heap) (locs1 : List Loc), va_P D vwC ws' H1 → va_D A ws' → va_S A s.heap H1 locs1 → W p l e R s m args below meth c H1 locs1 (cells + mc) (slots + ms) Q (F0 m (pc + 3) ls (v.toList ++ rest))) : W p l e R s m args below meth c H locs cells slots Q (F0 m pc ls st0) := by
  intro T hT X
  obtain ⟨v1, st₀, t, T', L, h0, X', hL, e1, e2, ⟨hv, hp, hd, hz, hk⟩, st⟩ := hr T hT X
  cases hv
  rw [h0] at hz hk
  obtain ⟨t2, a1, b1⟩ := kk T'.heap (locs ++ L) (by rw [e1]; exact hp) hd
    ⟨Nat.le_trans hS.1 (by rw [e1]; exact hz), fun q h1 h2 => by rw [e1, hk q (Nat.lt_of_lt_of_le h1 hS.1) h2]; exact hS.2.1 q h1 h2, fun q hq => by
      rcases List.mem_append.mp hq with h | h
      · exact hS.2.2 q h
      · exact hL q h⟩ T' rfl X'
  exact ⟨t2, st t2 a1, b1⟩
/-- a call that writes, of an object of the world -/
theorem wrV (S : CallFix p m c cc nL s args wA own) (hK : va_K D vwC tys s) (hP : va_P D vwC ws H) (hD : va_D A ws) (hS : va_S A s.heap H locs) (hA : ∀ q : Nat, s.heap.size ≤ q → A q)
    (hM : Met l y (Cond.code y bytes maxL ret :: wA) (rmk k mc ms) (va_Pc (.ref b :: As) (cW A D tys ws)) (wQ v A D ws') mc ms A)
    (m1 : Cond.methodLink own idx y ∈ wA) (hm : mV C y (Cond.code y bytes maxL ret) n) (hR : 10 * k + 1 ≤ R.frames ∧ 8 + (maxL + 11) + 100 * k ≤ R.locals)
    (q0 : Nat) (he : ws[q0]? = some (b, .inr (ci, fs))) (hc : vwC[ci]? = some (C, T, N)) (hn : As.length = n) (hsz : ls.size = nL) (hst : st0 = As.reverse ++ .ref b :: rest) (hW : (rest.map fun v => v.category).sum ≤ 8)
    (hdg : decode cc pc = .ok (.invokevirtual idx, 3)) (hf : cells + mc ≤ R.cells ∧ slots + ms ≤ R.slots)
    (kk : ∀ (H1 : Heap) (locs1 : List Loc), va_P D vwC ws' H1 → va_D A ws' → va_S A s.heap H1 locs1 → W p l e R s m args below meth c H1 locs1 (cells + mc) (slots + ms) Q (F0 m (pc + 3) ls (v.toList ++ rest))) : W p l e R s m args below meth c H locs cells slots Q (F0 m pc ls st0) := by
  obtain ⟨⟨m2, m3, m4, m5⟩, hd⟩ := hm
  exact wq_run (va_runV (As := As) (rest := rest) S hM (cwV n S.2.2.2.2 (gV m1 m2 m3 m4 m5) rfl rfl rfl hd hR) ⟨cW_blind, va_recv hK hP (ci := ci) (q0 := q0) hc he, fun U hU hW => ⟨rfl, fun q hq => hA q (by rw [hU] at hq; exact Nat.le_trans hS.1 hq), by rw [hU]; exact hP, hD, va_K.moved hW.alike hK⟩⟩ rfl hn hsz hst (lv_room hW) hdg hf) hS kk
end RWC
/-! the class's world -/
def wsC (ct : Nat → ClassId) (ad : Nat → Nat) (B : Nat → Int32) (g : Nat → Option Nat) (tk : Nat → Int32) (fr : Int32) (LP : List Nat) (pr : Nat → Nat → Int32) : va_W :=
  [(ad 0, .inr (5, [.ref (ad 3), .ref (ad 1), .ref (ad 2), .ref (ad 4), .ref (ad 5)])), (ad 1, .inr (1, [.ref (ad 7), .ref (ad 8), .int fr])), (ad 2, .inr (3, [.ref (ad 3)])), (ad 3, .inr (2, [.ref (ad 6)])), (ad 4, .inr (4, [.ref (ad 3), .ref (ad 2)])), (ad 5, .inr (0, [.ref (ad 1), .ref (ad 2)])),
   (ad 6, .inl (ct 0, 4096, .inl B)), (ad 7, .inl (ct 2, 128, .inr (.inr (.inr (.inr g))))), (ad 8, .inl (ct 1, 128, .inl tk))] ++ va_pl LP (fun a => .inl (ct 0, 1024, .inl (pr a)))
def tyC (ct : Nat → ClassId) : List (ClassId × FieldType) := [(ct 0, .byte), (ct 1, .boolean), (ct 2, .array .byte)]
end
section
section RWZ
variable {p : Program} {l : Launch} {e : Env} {R : Room} {s : State} {m : MethodId} {args : Array Value} {below : List Frame} {meth : Method} {c : Code} {H : Heap} {locs : List Loc} {cells slots : Nat} {Q : State → Prop}
variable {cc : ByteArray} {pc : Nat} {ls : Array Slot} {rest : List Value}
theorem lz_icmp_eq (hx : p.tables.exec = Jvm.exec) (hb : c.code = cc) {x y : Int32} {a b : Int} (hx9 : x.toInt = a) (hy9 : y.toInt = b) {off : Int} {tgt : Nat} (hdg : decode cc pc = .ok (.if_icmp .eq off, 3)) (ht : (pc : Int) + off = (tgt : Int)) (kt : a = b → W p l e R s m args below meth c H locs cells slots Q (F0 m tgt ls rest)) (kf : a ≠ b → W p l e R s m args below meth c H locs cells slots Q (F0 m (pc + 3) ls rest)) : W p l e R s m args below meth c H locs cells slots Q (F0 m pc ls (.int y :: .int x :: rest)) := lv_icmp_eq hx hb hdg ht (fun q => kt (by simp only [Int32.lt_iff_toInt_lt, Int32.le_iff_toInt_le, ← Int32.toInt_inj, hx9, hy9] at q; omega)) (fun q => kf (by simp only [Int32.lt_iff_toInt_lt, Int32.le_iff_toInt_le, ← Int32.toInt_inj, hx9, hy9] at q; omega))
theorem lz_icmp_ne (hx : p.tables.exec = Jvm.exec) (hb : c.code = cc) {x y : Int32} {a b : Int} (hx9 : x.toInt = a) (hy9 : y.toInt = b) {off : Int} {tgt : Nat} (hdg : decode cc pc = .ok (.if_icmp .ne off, 3)) (ht : (pc : Int) + off = (tgt : Int)) (kt : a ≠ b → W p l e R s m args below meth c H locs cells slots Q (F0 m tgt ls rest)) (kf : a = b → W p l e R s m args below meth c H locs cells slots Q (F0 m (pc + 3) ls rest)) : W p l e R s m args below meth c H locs cells slots Q (F0 m pc ls (.int y :: .int x :: rest)) := lv_icmp_ne hx hb hdg ht (fun q => kt (by simp only [Int32.lt_iff_toInt_lt, Int32.le_iff_toInt_le, ← Int32.toInt_inj, hx9, hy9] at q; omega)) (fun q => kf (by simp only [Int32.lt_iff_toInt_lt, Int32.le_iff_toInt_le, ← Int32.toInt_inj, hx9, hy9] at q; omega))
theorem lz_icmp_lt (hx : p.tables.exec = Jvm.exec) (hb : c.code = cc) {x y : Int32} {a b : Int} (hx9 : x.toInt = a) (hy9 : y.toInt = b) {off : Int} {tgt : Nat} (hdg : decode cc pc = .ok (.if_icmp .lt off, 3)) (ht : (pc : Int) + off = (tgt : Int)) (kt : a < b → W p l e R s m args below meth c H locs cells slots Q (F0 m tgt ls rest)) (kf : b ≤ a → W p l e R s m args below meth c H locs cells slots Q (F0 m (pc + 3) ls rest)) : W p l e R s m args below meth c H locs cells slots Q (F0 m pc ls (.int y :: .int x :: rest)) := lv_icmp_lt hx hb hdg ht (fun q => kt (by simp only [Int32.lt_iff_toInt_lt, Int32.le_iff_toInt_le, ← Int32.toInt_inj, hx9, hy9] at q; omega)) (fun q => kf (by simp only [Int32.lt_iff_toInt_lt, Int32.le_iff_toInt_le, ← Int32.toInt_inj, hx9, hy9] at q; omega))
theorem lz_icmp_ge (hx : p.tables.exec = Jvm.exec) (hb : c.code = cc) {x y : Int32} {a b : Int} (hx9 : x.toInt = a) (hy9 : y.toInt = b) {off : Int} {tgt : Nat} (hdg : decode cc pc = .ok (.if_icmp .ge off, 3)) (ht : (pc : Int) + off = (tgt : Int)) (kt : b ≤ a → W p l e R s m args below meth c H locs cells slots Q (F0 m tgt ls rest)) (kf : a < b → W p l e R s m args below meth c H locs cells slots Q (F0 m (pc + 3) ls rest)) : W p l e R s m args below meth c H locs cells slots Q (F0 m pc ls (.int y :: .int x :: rest)) := lv_icmp_ge hx hb hdg ht (fun q => kt (by simp only [Int32.lt_iff_toInt_lt, Int32.le_iff_toInt_le, ← Int32.toInt_inj, hx9, hy9] at q; omega)) (fun q => kf (by simp only [Int32.lt_iff_toInt_lt, Int32.le_iff_toInt_le, ← Int32.toInt_inj, hx9, hy9] at q; omega))
theorem lz_icmp_gt (hx : p.tables.exec = Jvm.exec) (hb : c.code = cc) {x y : Int32} {a b : Int} (hx9 : x.toInt = a) (hy9 : y.toInt = b) {off : Int} {tgt : Nat} (hdg : decode cc pc = .ok (.if_icmp .gt off, 3)) (ht : (pc : Int) + off = (tgt : Int)) (kt : b < a → W p l e R s m args below meth c H locs cells slots Q (F0 m tgt ls rest)) (kf : a ≤ b → W p l e R s m args below meth c H locs cells slots Q (F0 m (pc + 3) ls rest)) : W p l e R s m args below meth c H locs cells slots Q (F0 m pc ls (.int y :: .int x :: rest)) := lv_icmp_gt hx hb hdg ht (fun q => kt (by simp only [Int32.lt_iff_toInt_lt, Int32.le_iff_toInt_le, ← Int32.toInt_inj, hx9, hy9] at q; omega)) (fun q => kf (by simp only [Int32.lt_iff_toInt_lt, Int32.le_iff_toInt_le, ← Int32.toInt_inj, hx9, hy9] at q; omega))
theorem lz_icmp_le (hx : p.tables.exec = Jvm.exec) (hb : c.code = cc) {x y : Int32} {a b : Int} (hx9 : x.toInt = a) (hy9 : y.toInt = b) {off : Int} {tgt : Nat} (hdg : decode cc pc = .ok (.if_icmp .le off, 3)) (ht : (pc : Int) + off = (tgt : Int)) (kt : a ≤ b → W p l e R s m args below meth c H locs cells slots Q (F0 m tgt ls rest)) (kf : b < a → W p l e R s m args below meth c H locs cells slots Q (F0 m (pc + 3) ls rest)) : W p l e R s m args below meth c H locs cells slots Q (F0 m pc ls (.int y :: .int x :: rest)) := lv_icmp_le hx hb hdg ht (fun q => kt (by simp only [Int32.lt_iff_toInt_lt, Int32.le_iff_toInt_le, ← Int32.toInt_inj, hx9, hy9] at q; omega)) (fun q => kf (by simp only [Int32.lt_iff_toInt_lt, Int32.le_iff_toInt_le, ← Int32.toInt_inj, hx9, hy9] at q; omega))
theorem lz_if_eq (hx : p.tables.exec = Jvm.exec) (hb : c.code = cc) {x : Int32} {a : Int} (hx9 : x.toInt = a) {off : Int} {tgt : Nat} (hdg : decode cc pc = .ok (.ifCond .eq off, 3)) (ht : (pc : Int) + off = (tgt : Int)) (kt : a = 0 → W p l e R s m args below meth c H locs cells slots Q (F0 m tgt ls rest)) (kf : a ≠ 0 → W p l e R s m args below meth c H locs cells slots Q (F0 m (pc + 3) ls rest)) : W p l e R s m args below meth c H locs cells slots Q (F0 m pc ls (.int x :: rest)) := lv_if_eq hx hb hdg ht (fun q => kt (by simp only [Int32.lt_iff_toInt_lt, Int32.le_iff_toInt_le, ← Int32.toInt_inj, hx9, Int32.toInt_zero] at q; omega)) (fun q => kf (by simp only [Int32.lt_iff_toInt_lt, Int32.le_iff_toInt_le, ← Int32.toInt_inj, hx9, Int32.toInt_zero] at q; omega))
theorem lz_if_ne (hx : p.tables.exec = Jvm.exec) (hb : c.code = cc) {x : Int32} {a : Int} (hx9 : x.toInt = a) {off : Int} {tgt : Nat} (hdg : decode cc pc = .ok (.ifCond .ne off, 3)) (ht : (pc : Int) + off = (tgt : Int)) (kt : a ≠ 0 → W p l e R s m args below meth c H locs cells slots Q (F0 m tgt ls rest)) (kf : a = 0 → W p l e R s m args below meth c H locs cells slots Q (F0 m (pc + 3) ls rest)) : W p l e R s m args below meth c H locs cells slots Q (F0 m pc ls (.int x :: rest)) := lv_if_ne hx hb hdg ht (fun q => kt (by simp only [Int32.lt_iff_toInt_lt, Int32.le_iff_toInt_le, ← Int32.toInt_inj, hx9, Int32.toInt_zero] at q; omega)) (fun q => kf (by simp only [Int32.lt_iff_toInt_lt, Int32.le_iff_toInt_le, ← Int32.toInt_inj, hx9, Int32.toInt_zero] at q; omega))
theorem lz_if_lt (hx : p.tables.exec = Jvm.exec) (hb : c.code = cc) {x : Int32} {a : Int} (hx9 : x.toInt = a) {off : Int} {tgt : Nat} (hdg : decode cc pc = .ok (.ifCond .lt off, 3)) (ht : (pc : Int) + off = (tgt : Int)) (kt : a < 0 → W p l e R s m args below meth c H locs cells slots Q (F0 m tgt ls rest)) (kf : 0 ≤ a → W p l e R s m args below meth c H locs cells slots Q (F0 m (pc + 3) ls rest)) : W p l e R s m args below meth c H locs cells slots Q (F0 m pc ls (.int x :: rest)) := lv_if_lt hx hb hdg ht (fun q => kt (by simp only [Int32.lt_iff_toInt_lt, Int32.le_iff_toInt_le, ← Int32.toInt_inj, hx9, Int32.toInt_zero] at q; omega)) (fun q => kf (by simp only [Int32.lt_iff_toInt_lt, Int32.le_iff_toInt_le, ← Int32.toInt_inj, hx9, Int32.toInt_zero] at q; omega))
theorem lz_if_ge (hx : p.tables.exec = Jvm.exec) (hb : c.code = cc) {x : Int32} {a : Int} (hx9 : x.toInt = a) {off : Int} {tgt : Nat} (hdg : decode cc pc = .ok (.ifCond .ge off, 3)) (ht : (pc : Int) + off = (tgt : Int)) (kt : 0 ≤ a → W p l e R s m args below meth c H locs cells slots Q (F0 m tgt ls rest)) (kf : a < 0 → W p l e R s m args below meth c H locs cells slots Q (F0 m (pc + 3) ls rest)) : W p l e R s m args below meth c H locs cells slots Q (F0 m pc ls (.int x :: rest)) := lv_if_ge hx hb hdg ht (fun q => kt (by simp only [Int32.lt_iff_toInt_lt, Int32.le_iff_toInt_le, ← Int32.toInt_inj, hx9, Int32.toInt_zero] at q; omega)) (fun q => kf (by simp only [Int32.lt_iff_toInt_lt, Int32.le_iff_toInt_le, ← Int32.toInt_inj, hx9, Int32.toInt_zero] at q; omega))
theorem lz_if_gt (hx : p.tables.exec = Jvm.exec) (hb : c.code = cc) {x : Int32} {a : Int} (hx9 : x.toInt = a) {off : Int} {tgt : Nat} (hdg : decode cc pc = .ok (.ifCond .gt off, 3)) (ht : (pc : Int) + off = (tgt : Int)) (kt : 0 < a → W p l e R s m args below meth c H locs cells slots Q (F0 m tgt ls rest)) (kf : a ≤ 0 → W p l e R s m args below meth c H locs cells slots Q (F0 m (pc + 3) ls rest)) : W p l e R s m args below meth c H locs cells slots Q (F0 m pc ls (.int x :: rest)) := lv_if_gt hx hb hdg ht (fun q => kt (by simp only [Int32.lt_iff_toInt_lt, Int32.le_iff_toInt_le, ← Int32.toInt_inj, hx9, Int32.toInt_zero] at q; omega)) (fun q => kf (by simp only [Int32.lt_iff_toInt_lt, Int32.le_iff_toInt_le, ← Int32.toInt_inj, hx9, Int32.toInt_zero] at q; omega))
theorem lz_if_le (hx : p.tables.exec = Jvm.exec) (hb : c.code = cc) {x : Int32} {a : Int} (hx9 : x.toInt = a) {off : Int} {tgt : Nat} (hdg : decode cc pc = .ok (.ifCond .le off, 3)) (ht : (pc : Int) + off = (tgt : Int)) (kt : a ≤ 0 → W p l e R s m args below meth c H locs cells slots Q (F0 m tgt ls rest)) (kf : 0 < a → W p l e R s m args below meth c H locs cells slots Q (F0 m (pc + 3) ls rest)) : W p l e R s m args below meth c H locs cells slots Q (F0 m pc ls (.int x :: rest)) := lv_if_le hx hb hdg ht (fun q => kt (by simp only [Int32.lt_iff_toInt_lt, Int32.le_iff_toInt_le, ← Int32.toInt_inj, hx9, Int32.toInt_zero] at q; omega)) (fun q => kf (by simp only [Int32.lt_iff_toInt_lt, Int32.le_iff_toInt_le, ← Int32.toInt_inj, hx9, Int32.toInt_zero] at q; omega))
end RWZ
theorem z_add {x y : Int32} {a b : Int} (hx : x.toInt = a) (hy : y.toInt = b) (h1 : -2147483648 ≤ a + b) (h2 : a + b < 2147483648) : (x + y).toInt = a + b := by
  rw [Int32.toInt_add, hx, hy]
  exact Int.bmod_eq_of_le (by omega) (by omega)
theorem z_sub {x y : Int32} {a b : Int} (hx : x.toInt = a) (hy : y.toInt = b) (h1 : -2147483648 ≤ a - b) (h2 : a - b < 2147483648) : (x - y).toInt = a - b := by
  rw [Int32.toInt_sub, hx, hy]
  exact Int.bmod_eq_of_le (by omega) (by omega)
theorem z_i {x : Int32} {j : Nat} (h : x.toInt = (j : Int)) (hj : j < 2 ^ 31) : x = nI j := Int32.toInt_inj.mp (by rw [h, nI_toInt hj])
theorem z_cl {x : Int32} {j : Nat} (h : x.toNatClampNeg = j) (h0 : 0 < j) : x = nI j := by
  have e : x.toInt.toNat = j := h
  have hb : x.toInt < 2147483648 := Int32.toInt_lt x
  exact z_i (by omega) (by omega)
theorem z_lt (x : Int32) : x.toInt < 2147483648 := Int32.toInt_lt x
theorem z_ge (x : Int32) : -2147483648 ≤ x.toInt := Int32.le_toInt x
end
section
/-! Front and Records: what is read -/
/-- the number in n bytes from a on, lowest first -/
def fr_num (B : Nat → Int32) : Nat → Nat → Int32
  | _, 0 => 0
  | a, n + 1 => (fr_num B (a + 1) n <<< (nI 8 &&& 31)) ||| (B a &&& nI 255)
theorem i_sub1 {j : Nat} (h : j < 2 ^ 30) : (nI j - nI 1).toInt = (j : Int) - 1 := pk_sub_toInt h (by decide)
theorem i_of {x : Int32} {j : Nat} (h : x.toInt = (j : Int)) (hj : j < 2 ^ 31) : x = nI j := Int32.toInt_inj.mp (by rw [h, nI_toInt hj])
theorem i_dec {j : Nat} (h : j < 2 ^ 30) : (nI j + Int32.ofInt (-1)).toInt = (j : Int) - 1 := by
  have e : nI j + Int32.ofInt (-1) = nI j - nI 1 := by rw [Int32.sub_eq_add_neg]; rfl
  rw [e]; exact i_sub1 h
theorem m_Fr_number : mV R_Fr y_Fr_number (Cond.code y_Fr_number c_Fr_number 5 (some .int)) 2 := ⟨⟨w_125, w_126, w_2, w_127⟩, by decide +kernel⟩
set_option maxHeartbeats 4000000 in
set_option maxRecDepth 100000 in
theorem k_Fr_number (l : Launch) {D : va_G} {ct : Nat → ClassId} {ad : Nat → Nat} {B : Nat → Int32} {g : Nat → Option Nat} {tk : Nat → Int32} {fr : Int32} {LP : List Nat} {pr : Nat → Nat → Int32} {a : Nat} {n : Nat} (h0 : a + n ≤ 4096) (h1 : 0 < n) : Met l y_Fr_number (Cond.code y_Fr_number c_Fr_number 5 (some .int) :: wA) (rmk 1 0 0) (va_Pc [.ref (ad 3), .int (nI a), .int (nI n)] (cR D (tyC ct) (wsC ct ad B g tk fr LP pr))) (QcRead (fr_num B a n)) 0 0 (fun _ => False) := by
  refine Met.ofW (cc := c_Fr_number) (maxL := 5) (ret := (some .int)) (by decide +kernel) rfl ?_
  intro p e s m args below meth c s₁ B0 hml hv
  obtain ⟨rfl, hP, hK⟩ := hv
  have hx := B0.exec
  have hb := B0.bytes
  have hr := B0.returns
  have hts := fun w (h : w ∈ wA) => atoms_spec (ws := Cond.code y_Fr_number c_Fr_number 5 (some .int) :: wA) B0.pre w (List.mem_cons_of_mem _ h)
  have hown : s.vm.findClass R_Fr = some m.cls := findClass_of_methodNamed B0.named
  have hlocks := B0.notSynchronized
  have hl := lv_entry ([.ref (ad 3), .int (nI a), .int (nI n)]) (n := 5) (Nat.le_of_ble_eq_true rfl)
  rw [lg_entry_eq]
  generalize (lg_sl ([.ref (ad 3), .int (nI a), .int (nI n)]) ++ List.replicate (5 - (lg_sl ([.ref (ad 3), .int (nI a), .int (nI n)])).length) Slot.unset).toArray = ls at hl ⊢
  have hl : lv_has ls 5 [(0, .ref (ad 3)), (1, .int (nI a)), (2, .int (nI n))] := hl
  refine lv_iconst (v := nI 0) hx hb d_Fr_number_0 (by decide) ?_
  refine lv_istore_n (lv' := [(3, .int (nI 0)), (0, .ref (ad 3)), (1, .int (nI a)), (2, .int (nI n))]) hx hb d_Fr_number_1 rfl hl (by decide) rfl (fun ls hl => ?_)
  refine lv_iload_n hx hb d_Fr_number_2 rfl (lv_at hl 2 rfl) ?_
  refine lv_iload_n hx hb d_Fr_number_3 rfl (lv_at hl 3 rfl) ?_
  refine ln_iadd hx hb d_Fr_number_4 ?_
  refine lv_iconst (v := nI 1) hx hb d_Fr_number_5 (by decide) ?_
  refine lv_isub hx hb d_Fr_number_6 ?_
  refine lv_istore (lv' := [(4, .int ((nI (a + n)) - (nI 1))), (3, .int (nI 0)), (0, .ref (ad 3)), (1, .int (nI a)), (2, .int (nI n))]) hx hb d_Fr_number_7 hl (by decide) rfl (fun ls hl => ?_)
  have loop9 : ∀ (n9 : Nat) (j : Nat) (i : Int32) (v : Int32), j - a < n9 → a ≤ j → j ≤ a + n → i.toInt = (j : Int) - 1 → v = fr_num B j (a + n - j) → ∀ ls : Array Slot, lv_has ls 5 [(0, .ref (ad 3)), (1, .int (nI a)), (2, .int (nI n)), (3, .int v), (4, .int i)] → W p l e (headSpec (Cond.code y_Fr_number c_Fr_number 5 (some .int) :: wA) (rmk 1 0 0)).room s m ([.ref (ad 3), .int (nI a), .int (nI n)] : List Value).toArray below meth c s.heap [] 0 0 (MQ below (QcRead (fr_num B a n)) ([.ref (ad 3), .int (nI a), .int (nI n)] : List Value).toArray s 0 0 (fun _ => False)) (F0 m 9 ls []) := by
    intro n9
    induction n9 with
    | zero => intro j i v h8 h9 h10 hi hv9 ls hl; exact absurd h8 (by omega)
    | succ n9 ih =>
      intro j i v h8 h9 h10 hi hv9 ls hl
      refine lv_iload hx hb d_Fr_number_9 (lv_at hl 4 rfl) ?_
      refine lv_iload_n hx hb d_Fr_number_11 rfl (lv_at hl 1 rfl) ?_
      refine lv_icmp_lt (tgt := 53) hx hb d_Fr_number_12 (by decide) (fun c_1 => ?_) (fun c_1 => ?_)
      · skip
        refine lv_iload_n hx hb d_Fr_number_53 rfl (lv_at hl 3 rfl) ?_
        exact W.iret (v := v) hx hb hr (fun t9 ht hW => ⟨congrArg (fun z => Outcome.returned (some (Value.int z))) (show v = (fr_num B a n) from (by rw [hv9]; have q := Int32.lt_iff_toInt_lt.mp c_1; rw [hi, nI_toInt (by omega)] at q; rw [show j = a by omega, show a + n - a = n by omega])), ht⟩) (fun q h => nomatch h) d_Fr_number_54
      · skip
        have hj : ∃ j9, j = a + j9 + 1 := ⟨j - a - 1, by rw [Int32.lt_iff_toInt_lt, hi, nI_toInt (by omega)] at c_1; omega⟩
        obtain ⟨j9, rfl⟩ := hj
        obtain rfl : i = nI (a + j9) := i_of (by rw [hi]; omega) (by omega)
        refine lv_iload hx hb d_Fr_number_15 (lv_at hl 4 rfl) ?_
        refine ln_if_lt (tgt := 47) hx hb (by omega) d_Fr_number_17 (by decide) ?_
        refine lv_iload hx hb d_Fr_number_20 (lv_at hl 4 rfl) ?_
        refine lv_aload_n hx hb d_Fr_number_22 rfl (lv_at hl 0 rfl) ?_
        refine va_get (D := D) (ci := 2) (v := .ref (ad 6)) (C := R_Fr) (T := T_Fr) (N := 1) hx hb hts u_Fr hown hK hP 3 rfl rfl 0 (by decide) (hts _ w_40) (fun _ h9 => h9) rfl d_Fr_number_23 ?_
        refine va_alen hx hb hK hP 6 0 rfl rfl (v := nI 4096) rfl d_Fr_number_26 ?_
        refine ln_icmp_ge (tgt := 47) hx hb (by omega) (by omega) d_Fr_number_27 (by decide) (fun c_3 => ?_) (fun c_3 => ?_)
        · exact absurd c_3 (by omega)
        · skip
          refine lv_iload_n hx hb d_Fr_number_30 rfl (lv_at hl 3 rfl) ?_
          refine lv_bipush (v := nI 8) hx hb d_Fr_number_31 (by decide) ?_
          refine lv_ishl hx hb d_Fr_number_33 ?_
          refine lv_aload_n hx hb d_Fr_number_34 rfl (lv_at hl 0 rfl) ?_
          refine va_get (D := D) (ci := 2) (v := .ref (ad 6)) (C := R_Fr) (T := T_Fr) (N := 1) hx hb hts u_Fr hown hK hP 3 rfl rfl 0 (by decide) (hts _ w_40) (fun _ h9 => h9) rfl d_Fr_number_35 ?_
          refine lv_iload hx hb d_Fr_number_38 (lv_at hl 4 rfl) ?_
          refine ln_bald hx hb hK hP 6 0 rfl rfl (by omega) (by decide) d_Fr_number_40 ?_
          refine lv_sipush (v := nI 255) hx hb d_Fr_number_41 (by decide) ?_
          refine lv_iand hx hb d_Fr_number_44 ?_
          refine lv_ior hx hb d_Fr_number_45 ?_
          refine lv_istore_n (lv' := [(3, .int ((v <<< ((nI 8) &&& 31)) ||| ((B (a + j9)) &&& (nI 255)))), (0, .ref (ad 3)), (1, .int (nI a)), (2, .int (nI n)), (4, .int (nI (a + j9)))]) hx hb d_Fr_number_46 rfl hl (by decide) rfl (fun ls hl => ?_)
          have z_4 : ((nI (a + j9)) + Int32.ofInt (-1)).toInt = ((a + j9 : Nat) : Int) + (-1) := z_add (nI_toInt (by omega)) (by decide) (by omega) (by omega)
          refine lv_iinc (v := (nI (a + j9)) + Int32.ofInt (-1)) (lv' := [(4, .int ((nI (a + j9)) + Int32.ofInt (-1))), (3, .int ((v <<< ((nI 8) &&& 31)) ||| ((B (a + j9)) &&& (nI 255)))), (0, .ref (ad 3)), (1, .int (nI a)), (2, .int (nI n))]) hx hb d_Fr_number_47 hl (k := 4) rfl (rfl) (by decide) rfl (fun ls hl => ?_)
          refine lv_goto (tgt := 9) hx hb d_Fr_number_50 (by decide) ?_
          exact ih (a + j9) ((nI (a + j9)) + Int32.ofInt (-1)) ((v <<< ((nI 8) &&& 31)) ||| ((B (a + j9)) &&& (nI 255))) (by omega) (by omega) (by omega) (i_dec (by omega)) (by rw [hv9, show a + n - (a + j9) = (a + n - (a + j9 + 1)) + 1 by omega, fr_num]) ls (lv_sub hl [2, 3, 4, 1, 0] rfl)
  exact loop9 (n + 1) (a + n) (nI (a + n) - nI 1) (nI 0) (by omega) (by omega) (by omega) (i_sub1 (by omega)) (by rw [Nat.sub_self]; rfl) ls (lv_sub hl [2, 3, 4, 1, 0] rfl)
end
section
/-! truth as an int; arrays of byte arrays -/
def bI (P : Prop) [Decidable P] : Int32 := if P then nI 1 else nI 0
theorem bI_t {P : Prop} [Decidable P] (h : P) : nI 1 = bI P := (if_pos h).symm
theorem bI_f {P : Prop} [Decidable P] (h : ¬ P) : nI 0 = bI P := (if_neg h).symm
theorem bI_0 {P : Prop} [Decidable P] (h : bI P = 0) : ¬ P := fun q => by rw [bI, if_pos q] at h; exact absurd h (by decide)
theorem bI_1 {P : Prop} [Decidable P] (h : ¬ bI P = 0) : P := by
  rcases Decidable.em P with q | q
  · exact q
  · exact absurd (by rw [bI, if_neg q]; rfl) h
section RWB
variable {p : Program} {l : Launch} {e : Env} {R : Room} {s : State} {m : MethodId} {args : Array Value} {below : List Frame} {meth : Method} {c : Code} {H : Heap} {locs : List Loc} {cells slots : Nat} {Q : State → Prop}
variable {cc : ByteArray} {pc : Nat} {ls : Array Slot} {rest : List Value}
variable {D : va_G} {cl : List vw_C} {ad0 : Nat} {tys : List (ClassId × FieldType)} {ws : va_W}
theorem lb_if_eq (hx : p.tables.exec = Jvm.exec) (hb : c.code = cc) {P : Prop} {dp : Decidable P} {off : Int} {tgt : Nat} (hdg : decode cc pc = .ok (.ifCond .eq off, 3)) (ht : (pc : Int) + off = (tgt : Int)) (kt : ¬ P → W p l e R s m args below meth c H locs cells slots Q (F0 m tgt ls rest)) (kf : P → W p l e R s m args below meth c H locs cells slots Q (F0 m (pc + 3) ls rest)) : W p l e R s m args below meth c H locs cells slots Q (F0 m pc ls (.int (bI P) :: rest)) := lv_if_eq hx hb hdg ht (fun q => kt (bI_0 q)) (fun q => kf (bI_1 q))
theorem lb_if_ne (hx : p.tables.exec = Jvm.exec) (hb : c.code = cc) {P : Prop} {dp : Decidable P} {off : Int} {tgt : Nat} (hdg : decode cc pc = .ok (.ifCond .ne off, 3)) (ht : (pc : Int) + off = (tgt : Int)) (kt : P → W p l e R s m args below meth c H locs cells slots Q (F0 m tgt ls rest)) (kf : ¬ P → W p l e R s m args below meth c H locs cells slots Q (F0 m (pc + 3) ls rest)) : W p l e R s m args below meth c H locs cells slots Q (F0 m pc ls (.int (bI P) :: rest)) := lv_if_ne hx hb hdg ht (fun q => kt (bI_1 q)) (fun q => kf (bI_0 q))
theorem ln_aald (hx : p.tables.exec = Jvm.exec) (hb : c.code = cc) (hK : va_K D cl tys s) (hP : va_P D cl ws H) (q0 t0 : Nat) {cA : ClassId} {t : FieldType} {n i : Nat} {f : Nat → Option Nat} (ha : ws[q0]? = some (ad0, .inl (cA, n, .inr (.inr (.inr (.inr f)))))) (ht : tys[t0]? = some (cA, .array t)) (hi : i < n) (hn : n < 2 ^ 31) (hdg : decode cc pc = .ok (.aaload, 1))
    (kk : W p l e R s m args below meth c H locs cells slots Q (F0 m (pc + 1) ls (va_rf (f i) :: rest))) : W p l e R s m args below meth c H locs cells slots Q (F0 m pc ls (.int (nI i) :: .ref ad0 :: rest)) := by
  have hin := vp_in_nI hi hn
  have hcl : (nI i).toNatClampNeg = i := nI_clamp (by omega)
  exact W.aald (v := va_rf (f i)) (ty := .array t) hx hb (hP q0 _ ha) ((hK.2 t0 _ ht).1 n (fun j => va_rf (f j))) rfl (fun q => by cases q) (by show ¬ (nI i < 0 ∨ (arrV _ _ _).slots.size ≤ _); rw [arrV_size]; exact hin) (by show (arrV _ _ _).slots[_]? = _; rw [hcl, arrV_read _ _ hi]) rfl rfl hdg kk
end RWB
end
section
/-! Records: what is read -/
/-- the number of n bytes at o of file f's record; 0 of a file that is none -/
def re_f (B : Nat → Int32) (f o n : Nat) : Int32 := if f = 0 ∨ 12 < f then nI 0 else fr_num B (768 + 256 * f + o) n
theorem re_f_in {B : Nat → Int32} {f o n : Nat} (h1 : 1 ≤ f) (h2 : f ≤ 12) : re_f B f o n = fr_num B (768 + 256 * f + o) n := if_neg (by omega)
def re_kind (B : Nat → Int32) (f : Nat) : Int32 := if re_f B f 0 2 = nI 32768 then nI 1 else if re_f B f 0 2 = nI 40960 then nI 3 else nI 0
/-- how many blocks -/
def re_nb (B : Nat → Int32) (f : Nat) : Int32 := re_f B f 28 4 / nI 2
def re_blk (B : Nat → Int32) (f : Nat) (z : Int) : Int32 := if z < 0 ∨ 15 ≤ z ∨ re_nb B f = 0 then nI 0 else re_f B f (40 + 4 * z.toNat) 4
def re_abs (B : Nat → Int32) : Nat → Nat → Nat
  | 0, _ => 0
  | k + 1, f => if re_kind B f = 0 then f else re_abs B k (f + 1)
def re_cnt (B : Nat → Int32) : Nat → Nat → Nat → Nat
  | 0, _, n => n
  | k + 1, f, n => re_cnt B k (f + 1) (if re_kind B f = 0 then n else n + 1)
theorem m_Re_isNumber : mV R_Re y_Re_isNumber (Cond.code y_Re_isNumber c_Re_isNumber 2 (some .boolean)) 1 := ⟨⟨w_141, w_142, w_4, w_143⟩, by decide +kernel⟩
set_option maxHeartbeats 4000000 in
set_option maxRecDepth 100000 in
theorem k_Re_isNumber (l : Launch) {D : va_G} {ct : Nat → ClassId} {ad : Nat → Nat} {B : Nat → Int32} {g : Nat → Option Nat} {tk : Nat → Int32} {fr : Int32} {LP : List Nat} {pr : Nat → Nat → Int32} {f : Nat} {x_f : Int32} (hx_f : x_f.toNatClampNeg = f)  : Met l y_Re_isNumber (Cond.code y_Re_isNumber c_Re_isNumber 2 (some .boolean) :: wA) (rmk 1 0 0) (va_Pc [.ref (ad 2), .int x_f] (cR D (tyC ct) (wsC ct ad B g tk fr LP pr))) (QcRead (bI (f ≠ 0 ∧ f ≤ 12))) 0 0 (fun _ => False) := by
  refine Met.ofW (cc := c_Re_isNumber) (maxL := 2) (ret := (some .boolean)) (by decide +kernel) rfl ?_
  intro p e s m args below meth c s₁ B0 hml hv
  obtain ⟨rfl, hP, hK⟩ := hv
  have hx := B0.exec
  have hb := B0.bytes
  have hr := B0.returns
  have hts := fun w (h : w ∈ wA) => atoms_spec (ws := Cond.code y_Re_isNumber c_Re_isNumber 2 (some .boolean) :: wA) B0.pre w (List.mem_cons_of_mem _ h)
  have hown : s.vm.findClass R_Re = some m.cls := findClass_of_methodNamed B0.named
  have hlocks := B0.notSynchronized
  have hl := lv_entry ([.ref (ad 2), .int x_f]) (n := 2) (Nat.le_of_ble_eq_true rfl)
  rw [lg_entry_eq]
  generalize (lg_sl ([.ref (ad 2), .int x_f]) ++ List.replicate (2 - (lg_sl ([.ref (ad 2), .int x_f])).length) Slot.unset).toArray = ls at hl ⊢
  have hl : lv_has ls 2 [(0, .ref (ad 2)), (1, .int x_f)] := hl
  have hf_f : x_f.toInt.toNat = f := hx_f
  have hg_f := z_lt x_f
  refine lv_iload_n hx hb d_Re_isNumber_0 rfl (lv_at hl 1 rfl) ?_
  refine lv_iconst (v := nI 1) hx hb d_Re_isNumber_1 (by decide) ?_
  refine lz_icmp_lt (tgt := 15) hx hb rfl (nI_toInt (by omega)) d_Re_isNumber_2 (by decide) (fun c_1 => ?_) (fun c_1 => ?_)
  · skip
    refine lv_iconst (v := nI 0) hx hb d_Re_isNumber_15 (by decide) ?_
    exact W.zret (ty := .boolean) (v := nI 0) hx hb hr rfl (fun t9 ht hW => ⟨congrArg (fun z => Outcome.returned (some (Value.int z))) (show nI 0 = (bI (f ≠ 0 ∧ f ≤ 12)) from (by first | exact bI_t (by omega) | exact bI_f (by omega))), ht⟩) (fun q h => nomatch h) d_Re_isNumber_16
  · skip
    refine lv_iload_n hx hb d_Re_isNumber_5 rfl (lv_at hl 1 rfl) ?_
    refine lv_bipush (v := nI 12) hx hb d_Re_isNumber_6 (by decide) ?_
    refine lz_icmp_gt (tgt := 15) hx hb rfl (nI_toInt (by omega)) d_Re_isNumber_8 (by decide) (fun c_2 => ?_) (fun c_2 => ?_)
    · skip
      refine lv_iconst (v := nI 0) hx hb d_Re_isNumber_15 (by decide) ?_
      exact W.zret (ty := .boolean) (v := nI 0) hx hb hr rfl (fun t9 ht hW => ⟨congrArg (fun z => Outcome.returned (some (Value.int z))) (show nI 0 = (bI (f ≠ 0 ∧ f ≤ 12)) from (by first | exact bI_t (by omega) | exact bI_f (by omega))), ht⟩) (fun q h => nomatch h) d_Re_isNumber_16
    · skip
      refine lv_iconst (v := nI 1) hx hb d_Re_isNumber_11 (by decide) ?_
      refine lv_goto (tgt := 16) hx hb d_Re_isNumber_12 (by decide) ?_
      exact W.zret (ty := .boolean) (v := nI 1) hx hb hr rfl (fun t9 ht hW => ⟨congrArg (fun z => Outcome.returned (some (Value.int z))) (show nI 1 = (bI (f ≠ 0 ∧ f ≤ 12)) from (by first | exact bI_t (by omega) | exact bI_f (by omega))), ht⟩) (fun q h => nomatch h) d_Re_isNumber_16
theorem m_Re_startOf : mS y_Re_startOf (Cond.code y_Re_startOf c_Re_startOf 1 (some .int)) 1 := ⟨⟨w_145, w_4, w_146⟩, by decide +kernel⟩
set_option maxHeartbeats 4000000 in
set_option maxRecDepth 100000 in
theorem k_Re_startOf (l : Launch) {D : va_G} {ct : Nat → ClassId} {ad : Nat → Nat} {B : Nat → Int32} {g : Nat → Option Nat} {tk : Nat → Int32} {fr : Int32} {LP : List Nat} {pr : Nat → Nat → Int32} {f : Nat} (h0 : 1 ≤ f) (h1 : f ≤ 12) : Met l y_Re_startOf (Cond.code y_Re_startOf c_Re_startOf 1 (some .int) :: wA) (rmk 1 0 0) (va_Pc [.int (nI f)] (cR D (tyC ct) (wsC ct ad B g tk fr LP pr))) (QcRead (nI (768 + 256 * f))) 0 0 (fun _ => False) := by
  refine Met.ofW (cc := c_Re_startOf) (maxL := 1) (ret := (some .int)) (by decide +kernel) rfl ?_
  intro p e s m args below meth c s₁ B0 hml hv
  obtain ⟨rfl, hP, hK⟩ := hv
  have hx := B0.exec
  have hb := B0.bytes
  have hr := B0.returns
  have hts := fun w (h : w ∈ wA) => atoms_spec (ws := Cond.code y_Re_startOf c_Re_startOf 1 (some .int) :: wA) B0.pre w (List.mem_cons_of_mem _ h)
  have hown : s.vm.findClass R_Re = some m.cls := findClass_of_methodNamed B0.named
  have hlocks := B0.notSynchronized
  have hl := lv_entry ([.int (nI f)]) (n := 1) (Nat.le_of_ble_eq_true rfl)
  rw [lg_entry_eq]
  generalize (lg_sl ([.int (nI f)]) ++ List.replicate (1 - (lg_sl ([.int (nI f)])).length) Slot.unset).toArray = ls at hl ⊢
  have hl : lv_has ls 1 [(0, .int (nI f))] := hl
  refine lv_sipush (v := nI 1024) hx hb d_Re_startOf_0 (by decide) ?_
  refine lv_sipush (v := nI 256) hx hb d_Re_startOf_3 (by decide) ?_
  refine lv_iload_n hx hb d_Re_startOf_6 rfl (lv_at hl 0 rfl) ?_
  refine lv_iconst (v := nI 1) hx hb d_Re_startOf_7 (by decide) ?_
  refine ln_isub hx hb d_Re_startOf_8 (by omega) ?_
  refine ln_imul hx hb d_Re_startOf_9 ?_
  refine ln_iadd hx hb d_Re_startOf_10 ?_
  exact W.iret (v := nI (1024 + (256 * (f - 1)))) hx hb hr (fun t9 ht hW => ⟨congrArg (fun z => Outcome.returned (some (Value.int z))) (show nI (1024 + (256 * (f - 1))) = (nI (768 + 256 * f)) from (congrArg nI (by omega))), ht⟩) (fun q h => nomatch h) d_Re_startOf_11
theorem m_Re_field : mV R_Re y_Re_field (Cond.code y_Re_field c_Re_field 4 (some .int)) 3 := ⟨⟨w_138, wp_1, w_4, w_139⟩, by decide +kernel⟩
set_option maxHeartbeats 4000000 in
set_option maxRecDepth 100000 in
theorem k_Re_field (l : Launch) {D : va_G} {ct : Nat → ClassId} {ad : Nat → Nat} {B : Nat → Int32} {g : Nat → Option Nat} {tk : Nat → Int32} {fr : Int32} {LP : List Nat} {pr : Nat → Nat → Int32} {f : Nat} {x_f : Int32} (hx_f : x_f.toNatClampNeg = f) {o : Nat} {n : Nat} (h0 : o + n ≤ 256) (h1 : 0 < n) : Met l y_Re_field (Cond.code y_Re_field c_Re_field 4 (some .int) :: wA) (rmk 2 0 0) (va_Pc [.ref (ad 2), .int x_f, .int (nI o), .int (nI n)] (cR D (tyC ct) (wsC ct ad B g tk fr LP pr))) (QcRead (re_f B f o n)) 0 0 (fun _ => False) := by
  refine Met.ofW (cc := c_Re_field) (maxL := 4) (ret := (some .int)) (by decide +kernel) rfl ?_
  intro p e s m args below meth c s₁ B0 hml hv
  obtain ⟨rfl, hP, hK⟩ := hv
  have hx := B0.exec
  have hb := B0.bytes
  have hr := B0.returns
  have hts := fun w (h : w ∈ wA) => atoms_spec (ws := Cond.code y_Re_field c_Re_field 4 (some .int) :: wA) B0.pre w (List.mem_cons_of_mem _ h)
  have hown : s.vm.findClass R_Re = some m.cls := findClass_of_methodNamed B0.named
  have hlocks := B0.notSynchronized
  have hl := lv_entry ([.ref (ad 2), .int x_f, .int (nI o), .int (nI n)]) (n := 4) (Nat.le_of_ble_eq_true rfl)
  rw [lg_entry_eq]
  generalize (lg_sl ([.ref (ad 2), .int x_f, .int (nI o), .int (nI n)]) ++ List.replicate (4 - (lg_sl ([.ref (ad 2), .int x_f, .int (nI o), .int (nI n)])).length) Slot.unset).toArray = ls at hl ⊢
  have hl : lv_has ls 4 [(0, .ref (ad 2)), (1, .int x_f), (2, .int (nI o)), (3, .int (nI n))] := hl
  have hf_f : x_f.toInt.toNat = f := hx_f
  have hg_f := z_lt x_f
  refine lv_aload_n hx hb d_Re_field_0 rfl (lv_at hl 0 rfl) ?_
  refine lv_iload_n hx hb d_Re_field_1 rfl (lv_at hl 1 rfl) ?_
  refine rdV ⟨hx, hb, hml, hown, hts⟩ hK hP (k_Re_isNumber l (f := f) (x_f := x_f) hx_f ) w_140 m_Re_isNumber ⟨by decide, by decide⟩ 2 rfl rfl rfl hl.1 rfl (Nat.le_of_ble_eq_true rfl) d_Re_field_2 ⟨Nat.zero_le _, Nat.zero_le _⟩ ?_
  refine lb_if_eq (tgt := 25) hx hb d_Re_field_5 (by decide) (fun c_1 => ?_) (fun c_1 => ?_)
  · skip
    refine lv_iconst (v := nI 0) hx hb d_Re_field_25 (by decide) ?_
    exact W.iret (v := nI 0) hx hb hr (fun t9 ht hW => ⟨congrArg (fun z => Outcome.returned (some (Value.int z))) (show nI 0 = (re_f B f o n) from (by first | exact (re_f_in (by omega) (by omega)).symm | exact (if_pos (by omega)).symm)), ht⟩) (fun q h => nomatch h) d_Re_field_26
  · skip
    obtain rfl : x_f = nI f := z_cl hx_f (by omega)
    refine lv_aload_n hx hb d_Re_field_8 rfl (lv_at hl 0 rfl) ?_
    refine va_get (D := D) (ci := 3) (v := .ref (ad 3)) (C := R_Re) (T := T_Re) (N := 1) hx hb hts u_Re hown hK hP 2 rfl rfl 0 (by decide) (hts _ w_70) (fun _ h9 => h9) rfl d_Re_field_9 ?_
    refine lv_iload_n hx hb d_Re_field_12 rfl (lv_at hl 1 rfl) ?_
    refine rdS ⟨hx, hb, hml, hown, hts⟩ hK hP (k_Re_startOf l (f := f) (by omega) (by omega)) w_144 m_Re_startOf ⟨by decide, by decide⟩ rfl hl.1 rfl (Nat.le_of_ble_eq_true rfl) d_Re_field_13 ⟨Nat.zero_le _, Nat.zero_le _⟩ ?_
    refine lv_iload_n hx hb d_Re_field_16 rfl (lv_at hl 2 rfl) ?_
    refine ln_iadd hx hb d_Re_field_17 ?_
    refine lv_iload_n hx hb d_Re_field_18 rfl (lv_at hl 3 rfl) ?_
    refine rdV ⟨hx, hb, hml, hown, hts⟩ hK hP (k_Fr_number l (a := ((768 + 256 * f) + o)) (n := n) (by omega) (by omega)) w_147 m_Fr_number ⟨by decide, by decide⟩ 3 rfl rfl rfl hl.1 rfl (Nat.le_of_ble_eq_true rfl) d_Re_field_19 ⟨Nat.zero_le _, Nat.zero_le _⟩ ?_
    refine lv_goto (tgt := 26) hx hb d_Re_field_22 (by decide) ?_
    exact W.iret (v := fr_num B ((768 + 256 * f) + o) n) hx hb hr (fun t9 ht hW => ⟨congrArg (fun z => Outcome.returned (some (Value.int z))) (show fr_num B ((768 + 256 * f) + o) n = (re_f B f o n) from (by first | exact (re_f_in (by omega) (by omega)).symm | exact (if_pos (by omega)).symm)), ht⟩) (fun q h => nomatch h) d_Re_field_26
theorem m_Re_kindOf : mV R_Re y_Re_kindOf (Cond.code y_Re_kindOf c_Re_kindOf 2 (some .int)) 1 := ⟨⟨w_281, w_282, w_4, w_283⟩, by decide +kernel⟩
set_option maxHeartbeats 4000000 in
set_option maxRecDepth 100000 in
theorem k_Re_kindOf (l : Launch) {D : va_G} {ct : Nat → ClassId} {ad : Nat → Nat} {B : Nat → Int32} {g : Nat → Option Nat} {tk : Nat → Int32} {fr : Int32} {LP : List Nat} {pr : Nat → Nat → Int32} {f : Nat} {x_f : Int32} (hx_f : x_f.toNatClampNeg = f)  : Met l y_Re_kindOf (Cond.code y_Re_kindOf c_Re_kindOf 2 (some .int) :: wA) (rmk 3 0 0) (va_Pc [.ref (ad 2), .int x_f] (cR D (tyC ct) (wsC ct ad B g tk fr LP pr))) (QcRead (re_kind B f)) 0 0 (fun _ => False) := by
  refine Met.ofW (cc := c_Re_kindOf) (maxL := 2) (ret := (some .int)) (by decide +kernel) rfl ?_
  intro p e s m args below meth c s₁ B0 hml hv
  obtain ⟨rfl, hP, hK⟩ := hv
  have hx := B0.exec
  have hb := B0.bytes
  have hr := B0.returns
  have hts := fun w (h : w ∈ wA) => atoms_spec (ws := Cond.code y_Re_kindOf c_Re_kindOf 2 (some .int) :: wA) B0.pre w (List.mem_cons_of_mem _ h)
  have hown : s.vm.findClass R_Re = some m.cls := findClass_of_methodNamed B0.named
  have hlocks := B0.notSynchronized
  have hl := lv_entry ([.ref (ad 2), .int x_f]) (n := 2) (Nat.le_of_ble_eq_true rfl)
  rw [lg_entry_eq]
  generalize (lg_sl ([.ref (ad 2), .int x_f]) ++ List.replicate (2 - (lg_sl ([.ref (ad 2), .int x_f])).length) Slot.unset).toArray = ls at hl ⊢
  have hl : lv_has ls 2 [(0, .ref (ad 2)), (1, .int x_f)] := hl
  have hf_f : x_f.toInt.toNat = f := hx_f
  have hg_f := z_lt x_f
  refine lv_aload_n hx hb d_Re_kindOf_0 rfl (lv_at hl 0 rfl) ?_
  refine lv_iload_n hx hb d_Re_kindOf_1 rfl (lv_at hl 1 rfl) ?_
  refine lv_iconst (v := nI 0) hx hb d_Re_kindOf_2 (by decide) ?_
  refine lv_iconst (v := nI 2) hx hb d_Re_kindOf_3 (by decide) ?_
  refine rdV ⟨hx, hb, hml, hown, hts⟩ hK hP (k_Re_field l (f := f) (x_f := x_f) (o := 0) (n := 2) hx_f (by omega) (by omega)) w_136 m_Re_field ⟨by decide, by decide⟩ 2 rfl rfl rfl hl.1 rfl (Nat.le_of_ble_eq_true rfl) d_Re_kindOf_4 ⟨Nat.zero_le _, Nat.zero_le _⟩ ?_
  by_cases s_0 : re_f B f 0 2 = nI 32768
  · refine lv_lookup (off := 25) (tgt := 32) hx hb d_Re_kindOf_7 (by decide) (by rw [s_0]; decide) (by decide) ?_
    refine lv_iconst (v := nI 1) hx hb d_Re_kindOf_32 (by decide) ?_
    exact W.iret (v := nI 1) hx hb hr (fun t9 ht hW => ⟨congrArg (fun z => Outcome.returned (some (Value.int z))) (show nI 1 = (re_kind B f) from (by unfold re_kind; first | rw [if_pos s_0] | rw [if_neg s_0, if_pos s_1] | rw [if_neg s_0, if_neg s_1])), ht⟩) (fun q h => nomatch h) d_Re_kindOf_33
  by_cases s_1 : re_f B f 0 2 = nI 40960
  · refine lv_lookup (off := 27) (tgt := 34) hx hb d_Re_kindOf_7 (by decide) (by rw [s_1]; decide) (by decide) ?_
    refine lv_iconst (v := nI 3) hx hb d_Re_kindOf_34 (by decide) ?_
    exact W.iret (v := nI 3) hx hb hr (fun t9 ht hW => ⟨congrArg (fun z => Outcome.returned (some (Value.int z))) (show nI 3 = (re_kind B f) from (by unfold re_kind; first | rw [if_pos s_0] | rw [if_neg s_0, if_pos s_1] | rw [if_neg s_0, if_neg s_1])), ht⟩) (fun q h => nomatch h) d_Re_kindOf_35
  refine lv_lookup (off := 29) (tgt := 36) hx hb d_Re_kindOf_7 (by decide) (by show Op.lookupswitch.offset [(32768, 25), (40960, 27)] 29 _ = 29; rw [lv_osw s_0 (by decide), lv_osw s_1 (by decide)]; rfl) (by decide) ?_
  refine lv_iconst (v := nI 0) hx hb d_Re_kindOf_36 (by decide) ?_
  exact W.iret (v := nI 0) hx hb hr (fun t9 ht hW => ⟨congrArg (fun z => Outcome.returned (some (Value.int z))) (show nI 0 = (re_kind B f) from (by unfold re_kind; first | rw [if_pos s_0] | rw [if_neg s_0, if_pos s_1] | rw [if_neg s_0, if_neg s_1])), ht⟩) (fun q h => nomatch h) d_Re_kindOf_37
theorem m_Re_sizeOf : mV R_Re y_Re_sizeOf (Cond.code y_Re_sizeOf c_Re_sizeOf 2 (some .int)) 1 := ⟨⟨w_340, w_341, w_4, w_342⟩, by decide +kernel⟩
set_option maxHeartbeats 4000000 in
set_option maxRecDepth 100000 in
theorem k_Re_sizeOf (l : Launch) {D : va_G} {ct : Nat → ClassId} {ad : Nat → Nat} {B : Nat → Int32} {g : Nat → Option Nat} {tk : Nat → Int32} {fr : Int32} {LP : List Nat} {pr : Nat → Nat → Int32} {f : Nat} {x_f : Int32} (hx_f : x_f.toNatClampNeg = f)  : Met l y_Re_sizeOf (Cond.code y_Re_sizeOf c_Re_sizeOf 2 (some .int) :: wA) (rmk 3 0 0) (va_Pc [.ref (ad 2), .int x_f] (cR D (tyC ct) (wsC ct ad B g tk fr LP pr))) (QcRead (re_f B f 4 4)) 0 0 (fun _ => False) := by
  refine Met.ofW (cc := c_Re_sizeOf) (maxL := 2) (ret := (some .int)) (by decide +kernel) rfl ?_
  intro p e s m args below meth c s₁ B0 hml hv
  obtain ⟨rfl, hP, hK⟩ := hv
  have hx := B0.exec
  have hb := B0.bytes
  have hr := B0.returns
  have hts := fun w (h : w ∈ wA) => atoms_spec (ws := Cond.code y_Re_sizeOf c_Re_sizeOf 2 (some .int) :: wA) B0.pre w (List.mem_cons_of_mem _ h)
  have hown : s.vm.findClass R_Re = some m.cls := findClass_of_methodNamed B0.named
  have hlocks := B0.notSynchronized
  have hl := lv_entry ([.ref (ad 2), .int x_f]) (n := 2) (Nat.le_of_ble_eq_true rfl)
  rw [lg_entry_eq]
  generalize (lg_sl ([.ref (ad 2), .int x_f]) ++ List.replicate (2 - (lg_sl ([.ref (ad 2), .int x_f])).length) Slot.unset).toArray = ls at hl ⊢
  have hl : lv_has ls 2 [(0, .ref (ad 2)), (1, .int x_f)] := hl
  have hf_f : x_f.toInt.toNat = f := hx_f
  have hg_f := z_lt x_f
  refine lv_aload_n hx hb d_Re_sizeOf_0 rfl (lv_at hl 0 rfl) ?_
  refine lv_iload_n hx hb d_Re_sizeOf_1 rfl (lv_at hl 1 rfl) ?_
  refine lv_iconst (v := nI 4) hx hb d_Re_sizeOf_2 (by decide) ?_
  refine lv_iconst (v := nI 4) hx hb d_Re_sizeOf_3 (by decide) ?_
  refine rdV ⟨hx, hb, hml, hown, hts⟩ hK hP (k_Re_field l (f := f) (x_f := x_f) (o := 4) (n := 4) hx_f (by omega) (by omega)) w_136 m_Re_field ⟨by decide, by decide⟩ 2 rfl rfl rfl hl.1 rfl (Nat.le_of_ble_eq_true rfl) d_Re_sizeOf_4 ⟨Nat.zero_le _, Nat.zero_le _⟩ ?_
  exact W.iret (v := re_f B f 4 4) hx hb hr (fun t9 ht hW => ⟨congrArg (fun z => Outcome.returned (some (Value.int z))) (show re_f B f 4 4 = (re_f B f 4 4) from rfl), ht⟩) (fun q h => nomatch h) d_Re_sizeOf_7
theorem m_Re_behind : mV R_Re y_Re_behind (Cond.code y_Re_behind c_Re_behind 2 (some .int)) 1 := ⟨⟨w_154, w_155, w_4, w_156⟩, by decide +kernel⟩
set_option maxHeartbeats 4000000 in
set_option maxRecDepth 100000 in
theorem k_Re_behind (l : Launch) {D : va_G} {ct : Nat → ClassId} {ad : Nat → Nat} {B : Nat → Int32} {g : Nat → Option Nat} {tk : Nat → Int32} {fr : Int32} {LP : List Nat} {pr : Nat → Nat → Int32} {f : Nat} {x_f : Int32} (hx_f : x_f.toNatClampNeg = f)  : Met l y_Re_behind (Cond.code y_Re_behind c_Re_behind 2 (some .int) :: wA) (rmk 3 0 0) (va_Pc [.ref (ad 2), .int x_f] (cR D (tyC ct) (wsC ct ad B g tk fr LP pr))) (QcRead (re_f B f 20 4)) 0 0 (fun _ => False) := by
  refine Met.ofW (cc := c_Re_behind) (maxL := 2) (ret := (some .int)) (by decide +kernel) rfl ?_
  intro p e s m args below meth c s₁ B0 hml hv
  obtain ⟨rfl, hP, hK⟩ := hv
  have hx := B0.exec
  have hb := B0.bytes
  have hr := B0.returns
  have hts := fun w (h : w ∈ wA) => atoms_spec (ws := Cond.code y_Re_behind c_Re_behind 2 (some .int) :: wA) B0.pre w (List.mem_cons_of_mem _ h)
  have hown : s.vm.findClass R_Re = some m.cls := findClass_of_methodNamed B0.named
  have hlocks := B0.notSynchronized
  have hl := lv_entry ([.ref (ad 2), .int x_f]) (n := 2) (Nat.le_of_ble_eq_true rfl)
  rw [lg_entry_eq]
  generalize (lg_sl ([.ref (ad 2), .int x_f]) ++ List.replicate (2 - (lg_sl ([.ref (ad 2), .int x_f])).length) Slot.unset).toArray = ls at hl ⊢
  have hl : lv_has ls 2 [(0, .ref (ad 2)), (1, .int x_f)] := hl
  have hf_f : x_f.toInt.toNat = f := hx_f
  have hg_f := z_lt x_f
  refine lv_aload_n hx hb d_Re_behind_0 rfl (lv_at hl 0 rfl) ?_
  refine lv_iload_n hx hb d_Re_behind_1 rfl (lv_at hl 1 rfl) ?_
  refine lv_bipush (v := nI 20) hx hb d_Re_behind_2 (by decide) ?_
  refine lv_iconst (v := nI 4) hx hb d_Re_behind_4 (by decide) ?_
  refine rdV ⟨hx, hb, hml, hown, hts⟩ hK hP (k_Re_field l (f := f) (x_f := x_f) (o := 20) (n := 4) hx_f (by omega) (by omega)) w_136 m_Re_field ⟨by decide, by decide⟩ 2 rfl rfl rfl hl.1 rfl (Nat.le_of_ble_eq_true rfl) d_Re_behind_5 ⟨Nat.zero_le _, Nat.zero_le _⟩ ?_
  exact W.iret (v := re_f B f 20 4) hx hb hr (fun t9 ht hW => ⟨congrArg (fun z => Outcome.returned (some (Value.int z))) (show re_f B f 20 4 = (re_f B f 20 4) from rfl), ht⟩) (fun q h => nomatch h) d_Re_behind_8
theorem m_Re_linksOf : mV R_Re y_Re_linksOf (Cond.code y_Re_linksOf c_Re_linksOf 2 (some .int)) 1 := ⟨⟨w_773, w_774, w_4, w_775⟩, by decide +kernel⟩
set_option maxHeartbeats 4000000 in
set_option maxRecDepth 100000 in
theorem k_Re_linksOf (l : Launch) {D : va_G} {ct : Nat → ClassId} {ad : Nat → Nat} {B : Nat → Int32} {g : Nat → Option Nat} {tk : Nat → Int32} {fr : Int32} {LP : List Nat} {pr : Nat → Nat → Int32} {f : Nat} {x_f : Int32} (hx_f : x_f.toNatClampNeg = f)  : Met l y_Re_linksOf (Cond.code y_Re_linksOf c_Re_linksOf 2 (some .int) :: wA) (rmk 3 0 0) (va_Pc [.ref (ad 2), .int x_f] (cR D (tyC ct) (wsC ct ad B g tk fr LP pr))) (QcRead (re_f B f 26 2)) 0 0 (fun _ => False) := by
  refine Met.ofW (cc := c_Re_linksOf) (maxL := 2) (ret := (some .int)) (by decide +kernel) rfl ?_
  intro p e s m args below meth c s₁ B0 hml hv
  obtain ⟨rfl, hP, hK⟩ := hv
  have hx := B0.exec
  have hb := B0.bytes
  have hr := B0.returns
  have hts := fun w (h : w ∈ wA) => atoms_spec (ws := Cond.code y_Re_linksOf c_Re_linksOf 2 (some .int) :: wA) B0.pre w (List.mem_cons_of_mem _ h)
  have hown : s.vm.findClass R_Re = some m.cls := findClass_of_methodNamed B0.named
  have hlocks := B0.notSynchronized
  have hl := lv_entry ([.ref (ad 2), .int x_f]) (n := 2) (Nat.le_of_ble_eq_true rfl)
  rw [lg_entry_eq]
  generalize (lg_sl ([.ref (ad 2), .int x_f]) ++ List.replicate (2 - (lg_sl ([.ref (ad 2), .int x_f])).length) Slot.unset).toArray = ls at hl ⊢
  have hl : lv_has ls 2 [(0, .ref (ad 2)), (1, .int x_f)] := hl
  have hf_f : x_f.toInt.toNat = f := hx_f
  have hg_f := z_lt x_f
  refine lv_aload_n hx hb d_Re_linksOf_0 rfl (lv_at hl 0 rfl) ?_
  refine lv_iload_n hx hb d_Re_linksOf_1 rfl (lv_at hl 1 rfl) ?_
  refine lv_bipush (v := nI 26) hx hb d_Re_linksOf_2 (by decide) ?_
  refine lv_iconst (v := nI 2) hx hb d_Re_linksOf_4 (by decide) ?_
  refine rdV ⟨hx, hb, hml, hown, hts⟩ hK hP (k_Re_field l (f := f) (x_f := x_f) (o := 26) (n := 2) hx_f (by omega) (by omega)) w_136 m_Re_field ⟨by decide, by decide⟩ 2 rfl rfl rfl hl.1 rfl (Nat.le_of_ble_eq_true rfl) d_Re_linksOf_5 ⟨Nat.zero_le _, Nat.zero_le _⟩ ?_
  exact W.iret (v := re_f B f 26 2) hx hb hr (fun t9 ht hW => ⟨congrArg (fun z => Outcome.returned (some (Value.int z))) (show re_f B f 26 2 = (re_f B f 26 2) from rfl), ht⟩) (fun q h => nomatch h) d_Re_linksOf_8
theorem m_Re_blocksOf : mV R_Re y_Re_blocksOf (Cond.code y_Re_blocksOf c_Re_blocksOf 2 (some .int)) 1 := ⟨⟨w_133, w_134, w_4, w_135⟩, by decide +kernel⟩
set_option maxHeartbeats 4000000 in
set_option maxRecDepth 100000 in
theorem k_Re_blocksOf (l : Launch) {D : va_G} {ct : Nat → ClassId} {ad : Nat → Nat} {B : Nat → Int32} {g : Nat → Option Nat} {tk : Nat → Int32} {fr : Int32} {LP : List Nat} {pr : Nat → Nat → Int32} {f : Nat} {x_f : Int32} (hx_f : x_f.toNatClampNeg = f)  : Met l y_Re_blocksOf (Cond.code y_Re_blocksOf c_Re_blocksOf 2 (some .int) :: wA) (rmk 3 0 0) (va_Pc [.ref (ad 2), .int x_f] (cR D (tyC ct) (wsC ct ad B g tk fr LP pr))) (QcRead (re_nb B f)) 0 0 (fun _ => False) := by
  refine Met.ofW (cc := c_Re_blocksOf) (maxL := 2) (ret := (some .int)) (by decide +kernel) rfl ?_
  intro p e s m args below meth c s₁ B0 hml hv
  obtain ⟨rfl, hP, hK⟩ := hv
  have hx := B0.exec
  have hb := B0.bytes
  have hr := B0.returns
  have hts := fun w (h : w ∈ wA) => atoms_spec (ws := Cond.code y_Re_blocksOf c_Re_blocksOf 2 (some .int) :: wA) B0.pre w (List.mem_cons_of_mem _ h)
  have hown : s.vm.findClass R_Re = some m.cls := findClass_of_methodNamed B0.named
  have hlocks := B0.notSynchronized
  have hl := lv_entry ([.ref (ad 2), .int x_f]) (n := 2) (Nat.le_of_ble_eq_true rfl)
  rw [lg_entry_eq]
  generalize (lg_sl ([.ref (ad 2), .int x_f]) ++ List.replicate (2 - (lg_sl ([.ref (ad 2), .int x_f])).length) Slot.unset).toArray = ls at hl ⊢
  have hl : lv_has ls 2 [(0, .ref (ad 2)), (1, .int x_f)] := hl
  have hf_f : x_f.toInt.toNat = f := hx_f
  have hg_f := z_lt x_f
  refine lv_aload_n hx hb d_Re_blocksOf_0 rfl (lv_at hl 0 rfl) ?_
  refine lv_iload_n hx hb d_Re_blocksOf_1 rfl (lv_at hl 1 rfl) ?_
  refine lv_bipush (v := nI 28) hx hb d_Re_blocksOf_2 (by decide) ?_
  refine lv_iconst (v := nI 4) hx hb d_Re_blocksOf_4 (by decide) ?_
  refine rdV ⟨hx, hb, hml, hown, hts⟩ hK hP (k_Re_field l (f := f) (x_f := x_f) (o := 28) (n := 4) hx_f (by omega) (by omega)) w_136 m_Re_field ⟨by decide, by decide⟩ 2 rfl rfl rfl hl.1 rfl (Nat.le_of_ble_eq_true rfl) d_Re_blocksOf_5 ⟨Nat.zero_le _, Nat.zero_le _⟩ ?_
  refine lv_iconst (v := nI 2) hx hb d_Re_blocksOf_8 (by decide) ?_
  refine lv_idiv hx hb d_Re_blocksOf_9 (by decide) ?_
  exact W.iret (v := (re_f B f 28 4) / (nI 2)) hx hb hr (fun t9 ht hW => ⟨congrArg (fun z => Outcome.returned (some (Value.int z))) (show (re_f B f 28 4) / (nI 2) = (re_nb B f) from rfl), ht⟩) (fun q h => nomatch h) d_Re_blocksOf_10
theorem m_Re_hasTarget : mV R_Re y_Re_hasTarget (Cond.code y_Re_hasTarget c_Re_hasTarget 2 (some .boolean)) 1 := ⟨⟨w_336, w_337, w_4, w_338⟩, by decide +kernel⟩
set_option maxHeartbeats 4000000 in
set_option maxRecDepth 100000 in
theorem k_Re_hasTarget (l : Launch) {D : va_G} {ct : Nat → ClassId} {ad : Nat → Nat} {B : Nat → Int32} {g : Nat → Option Nat} {tk : Nat → Int32} {fr : Int32} {LP : List Nat} {pr : Nat → Nat → Int32} {f : Nat} {x_f : Int32} (hx_f : x_f.toNatClampNeg = f)  : Met l y_Re_hasTarget (Cond.code y_Re_hasTarget c_Re_hasTarget 2 (some .boolean) :: wA) (rmk 4 0 0) (va_Pc [.ref (ad 2), .int x_f] (cR D (tyC ct) (wsC ct ad B g tk fr LP pr))) (QcRead (bI (re_kind B f = nI 3 ∧ ¬ nI 59 < re_f B f 4 4))) 0 0 (fun _ => False) := by
  refine Met.ofW (cc := c_Re_hasTarget) (maxL := 2) (ret := (some .boolean)) (by decide +kernel) rfl ?_
  intro p e s m args below meth c s₁ B0 hml hv
  obtain ⟨rfl, hP, hK⟩ := hv
  have hx := B0.exec
  have hb := B0.bytes
  have hr := B0.returns
  have hts := fun w (h : w ∈ wA) => atoms_spec (ws := Cond.code y_Re_hasTarget c_Re_hasTarget 2 (some .boolean) :: wA) B0.pre w (List.mem_cons_of_mem _ h)
  have hown : s.vm.findClass R_Re = some m.cls := findClass_of_methodNamed B0.named
  have hlocks := B0.notSynchronized
  have hl := lv_entry ([.ref (ad 2), .int x_f]) (n := 2) (Nat.le_of_ble_eq_true rfl)
  rw [lg_entry_eq]
  generalize (lg_sl ([.ref (ad 2), .int x_f]) ++ List.replicate (2 - (lg_sl ([.ref (ad 2), .int x_f])).length) Slot.unset).toArray = ls at hl ⊢
  have hl : lv_has ls 2 [(0, .ref (ad 2)), (1, .int x_f)] := hl
  have hf_f : x_f.toInt.toNat = f := hx_f
  have hg_f := z_lt x_f
  refine lv_aload_n hx hb d_Re_hasTarget_0 rfl (lv_at hl 0 rfl) ?_
  refine lv_iload_n hx hb d_Re_hasTarget_1 rfl (lv_at hl 1 rfl) ?_
  refine rdV ⟨hx, hb, hml, hown, hts⟩ hK hP (k_Re_kindOf l (f := f) (x_f := x_f) hx_f ) w_280 m_Re_kindOf ⟨by decide, by decide⟩ 2 rfl rfl rfl hl.1 rfl (Nat.le_of_ble_eq_true rfl) d_Re_hasTarget_2 ⟨Nat.zero_le _, Nat.zero_le _⟩ ?_
  refine lv_iconst (v := nI 3) hx hb d_Re_hasTarget_5 (by decide) ?_
  refine lv_icmp_ne (tgt := 23) hx hb d_Re_hasTarget_6 (by decide) (fun c_1 => ?_) (fun c_1 => ?_)
  · skip
    refine lv_iconst (v := nI 0) hx hb d_Re_hasTarget_23 (by decide) ?_
    exact W.zret (ty := .boolean) (v := nI 0) hx hb hr rfl (fun t9 ht hW => ⟨congrArg (fun z => Outcome.returned (some (Value.int z))) (show nI 0 = (bI (re_kind B f = nI 3 ∧ ¬ nI 59 < re_f B f 4 4)) from (by first | exact bI_t ⟨c_1, c_2⟩ | exact bI_f (fun q => q.2 c_2) | exact bI_f (fun q => c_1 q.1))), ht⟩) (fun q h => nomatch h) d_Re_hasTarget_24
  · skip
    refine lv_aload_n hx hb d_Re_hasTarget_9 rfl (lv_at hl 0 rfl) ?_
    refine lv_iload_n hx hb d_Re_hasTarget_10 rfl (lv_at hl 1 rfl) ?_
    refine rdV ⟨hx, hb, hml, hown, hts⟩ hK hP (k_Re_sizeOf l (f := f) (x_f := x_f) hx_f ) w_339 m_Re_sizeOf ⟨by decide, by decide⟩ 2 rfl rfl rfl hl.1 rfl (Nat.le_of_ble_eq_true rfl) d_Re_hasTarget_11 ⟨Nat.zero_le _, Nat.zero_le _⟩ ?_
    refine lv_bipush (v := nI 59) hx hb d_Re_hasTarget_14 (by decide) ?_
    refine lv_icmp_gt (tgt := 23) hx hb d_Re_hasTarget_16 (by decide) (fun c_2 => ?_) (fun c_2 => ?_)
    · skip
      refine lv_iconst (v := nI 0) hx hb d_Re_hasTarget_23 (by decide) ?_
      exact W.zret (ty := .boolean) (v := nI 0) hx hb hr rfl (fun t9 ht hW => ⟨congrArg (fun z => Outcome.returned (some (Value.int z))) (show nI 0 = (bI (re_kind B f = nI 3 ∧ ¬ nI 59 < re_f B f 4 4)) from (by first | exact bI_t ⟨c_1, c_2⟩ | exact bI_f (fun q => q.2 c_2) | exact bI_f (fun q => c_1 q.1))), ht⟩) (fun q h => nomatch h) d_Re_hasTarget_24
    · skip
      refine lv_iconst (v := nI 1) hx hb d_Re_hasTarget_19 (by decide) ?_
      refine lv_goto (tgt := 24) hx hb d_Re_hasTarget_20 (by decide) ?_
      exact W.zret (ty := .boolean) (v := nI 1) hx hb hr rfl (fun t9 ht hW => ⟨congrArg (fun z => Outcome.returned (some (Value.int z))) (show nI 1 = (bI (re_kind B f = nI 3 ∧ ¬ nI 59 < re_f B f 4 4)) from (by first | exact bI_t ⟨c_1, c_2⟩ | exact bI_f (fun q => q.2 c_2) | exact bI_f (fun q => c_1 q.1))), ht⟩) (fun q h => nomatch h) d_Re_hasTarget_24
theorem m_Re_targetByte : mV R_Re y_Re_targetByte (Cond.code y_Re_targetByte c_Re_targetByte 3 (some .int)) 2 := ⟨⟨w_478, w_479, w_4, w_480⟩, by decide +kernel⟩
set_option maxHeartbeats 4000000 in
set_option maxRecDepth 100000 in
theorem k_Re_targetByte (l : Launch) {D : va_G} {ct : Nat → ClassId} {ad : Nat → Nat} {B : Nat → Int32} {g : Nat → Option Nat} {tk : Nat → Int32} {fr : Int32} {LP : List Nat} {pr : Nat → Nat → Int32} {f : Nat} {x_f : Int32} (hx_f : x_f.toNatClampNeg = f) {i : Nat} (h0 : i < 60) : Met l y_Re_targetByte (Cond.code y_Re_targetByte c_Re_targetByte 3 (some .int) :: wA) (rmk 3 0 0) (va_Pc [.ref (ad 2), .int x_f, .int (nI i)] (cR D (tyC ct) (wsC ct ad B g tk fr LP pr))) (QcRead (re_f B f (40 + i) 1)) 0 0 (fun _ => False) := by
  refine Met.ofW (cc := c_Re_targetByte) (maxL := 3) (ret := (some .int)) (by decide +kernel) rfl ?_
  intro p e s m args below meth c s₁ B0 hml hv
  obtain ⟨rfl, hP, hK⟩ := hv
  have hx := B0.exec
  have hb := B0.bytes
  have hr := B0.returns
  have hts := fun w (h : w ∈ wA) => atoms_spec (ws := Cond.code y_Re_targetByte c_Re_targetByte 3 (some .int) :: wA) B0.pre w (List.mem_cons_of_mem _ h)
  have hown : s.vm.findClass R_Re = some m.cls := findClass_of_methodNamed B0.named
  have hlocks := B0.notSynchronized
  have hl := lv_entry ([.ref (ad 2), .int x_f, .int (nI i)]) (n := 3) (Nat.le_of_ble_eq_true rfl)
  rw [lg_entry_eq]
  generalize (lg_sl ([.ref (ad 2), .int x_f, .int (nI i)]) ++ List.replicate (3 - (lg_sl ([.ref (ad 2), .int x_f, .int (nI i)])).length) Slot.unset).toArray = ls at hl ⊢
  have hl : lv_has ls 3 [(0, .ref (ad 2)), (1, .int x_f), (2, .int (nI i))] := hl
  have hf_f : x_f.toInt.toNat = f := hx_f
  have hg_f := z_lt x_f
  refine lv_aload_n hx hb d_Re_targetByte_0 rfl (lv_at hl 0 rfl) ?_
  refine lv_iload_n hx hb d_Re_targetByte_1 rfl (lv_at hl 1 rfl) ?_
  refine lv_bipush (v := nI 40) hx hb d_Re_targetByte_2 (by decide) ?_
  refine lv_iload_n hx hb d_Re_targetByte_4 rfl (lv_at hl 2 rfl) ?_
  refine ln_iadd hx hb d_Re_targetByte_5 ?_
  refine lv_iconst (v := nI 1) hx hb d_Re_targetByte_6 (by decide) ?_
  refine rdV ⟨hx, hb, hml, hown, hts⟩ hK hP (k_Re_field l (f := f) (x_f := x_f) (o := (40 + i)) (n := 1) hx_f (by omega) (by omega)) w_136 m_Re_field ⟨by decide, by decide⟩ 2 rfl rfl rfl hl.1 rfl (Nat.le_of_ble_eq_true rfl) d_Re_targetByte_7 ⟨Nat.zero_le _, Nat.zero_le _⟩ ?_
  exact W.iret (v := re_f B f (40 + i) 1) hx hb hr (fun t9 ht hW => ⟨congrArg (fun z => Outcome.returned (some (Value.int z))) (show re_f B f (40 + i) 1 = (re_f B f (40 + i) 1) from rfl), ht⟩) (fun q h => nomatch h) d_Re_targetByte_10
theorem m_Re_blockOf : mV R_Re y_Re_blockOf (Cond.code y_Re_blockOf c_Re_blockOf 3 (some .int)) 2 := ⟨⟨w_183, w_184, w_4, w_185⟩, by decide +kernel⟩
set_option maxHeartbeats 4000000 in
set_option maxRecDepth 100000 in
theorem k_Re_blockOf (l : Launch) {D : va_G} {ct : Nat → ClassId} {ad : Nat → Nat} {B : Nat → Int32} {g : Nat → Option Nat} {tk : Nat → Int32} {fr : Int32} {LP : List Nat} {pr : Nat → Nat → Int32} {f : Nat} {x_f : Int32} (hx_f : x_f.toNatClampNeg = f) {z : Int} {x_z : Int32} (hx_z : x_z.toInt = z)  : Met l y_Re_blockOf (Cond.code y_Re_blockOf c_Re_blockOf 3 (some .int) :: wA) (rmk 4 0 0) (va_Pc [.ref (ad 2), .int x_f, .int x_z] (cR D (tyC ct) (wsC ct ad B g tk fr LP pr))) (QcRead (re_blk B f z)) 0 0 (fun _ => False) := by
  refine Met.ofW (cc := c_Re_blockOf) (maxL := 3) (ret := (some .int)) (by decide +kernel) rfl ?_
  intro p e s m args below meth c s₁ B0 hml hv
  obtain ⟨rfl, hP, hK⟩ := hv
  have hx := B0.exec
  have hb := B0.bytes
  have hr := B0.returns
  have hts := fun w (h : w ∈ wA) => atoms_spec (ws := Cond.code y_Re_blockOf c_Re_blockOf 3 (some .int) :: wA) B0.pre w (List.mem_cons_of_mem _ h)
  have hown : s.vm.findClass R_Re = some m.cls := findClass_of_methodNamed B0.named
  have hlocks := B0.notSynchronized
  have hl := lv_entry ([.ref (ad 2), .int x_f, .int x_z]) (n := 3) (Nat.le_of_ble_eq_true rfl)
  rw [lg_entry_eq]
  generalize (lg_sl ([.ref (ad 2), .int x_f, .int x_z]) ++ List.replicate (3 - (lg_sl ([.ref (ad 2), .int x_f, .int x_z])).length) Slot.unset).toArray = ls at hl ⊢
  have hl : lv_has ls 3 [(0, .ref (ad 2)), (1, .int x_f), (2, .int x_z)] := hl
  have hf_f : x_f.toInt.toNat = f := hx_f
  have hg_f := z_lt x_f
  have hf_z := z_lt x_z
  have hg_z := z_ge x_z
  rw [hx_z] at hf_z hg_z
  refine lv_iload_n hx hb d_Re_blockOf_0 rfl (lv_at hl 2 rfl) ?_
  refine lz_if_lt (tgt := 18) hx hb hx_z d_Re_blockOf_1 (by decide) (fun c_1 => ?_) (fun c_1 => ?_)
  · skip
    refine lv_iconst (v := nI 0) hx hb d_Re_blockOf_18 (by decide) ?_
    exact W.iret (v := nI 0) hx hb hr (fun t9 ht hW => ⟨congrArg (fun z => Outcome.returned (some (Value.int z))) (show nI 0 = (re_blk B f z) from (by unfold re_blk; first | rw [if_pos (Or.inl (by omega))] | rw [if_pos (Or.inr (Or.inl (by omega)))] | rw [if_pos (Or.inr (Or.inr (by assumption)))])), ht⟩) (fun q h => nomatch h) d_Re_blockOf_19
  · skip
    refine lv_iload_n hx hb d_Re_blockOf_4 rfl (lv_at hl 2 rfl) ?_
    refine lv_bipush (v := nI 15) hx hb d_Re_blockOf_5 (by decide) ?_
    refine lz_icmp_ge (tgt := 18) hx hb hx_z (nI_toInt (by omega)) d_Re_blockOf_7 (by decide) (fun c_2 => ?_) (fun c_2 => ?_)
    · skip
      refine lv_iconst (v := nI 0) hx hb d_Re_blockOf_18 (by decide) ?_
      exact W.iret (v := nI 0) hx hb hr (fun t9 ht hW => ⟨congrArg (fun z => Outcome.returned (some (Value.int z))) (show nI 0 = (re_blk B f z) from (by unfold re_blk; first | rw [if_pos (Or.inl (by omega))] | rw [if_pos (Or.inr (Or.inl (by omega)))] | rw [if_pos (Or.inr (Or.inr (by assumption)))])), ht⟩) (fun q h => nomatch h) d_Re_blockOf_19
    · skip
      obtain ⟨k, rfl⟩ := Int.eq_ofNat_of_zero_le (show 0 ≤ z by omega)
      obtain rfl : x_z = nI k := z_i hx_z (by omega)
      refine lv_aload_n hx hb d_Re_blockOf_10 rfl (lv_at hl 0 rfl) ?_
      refine lv_iload_n hx hb d_Re_blockOf_11 rfl (lv_at hl 1 rfl) ?_
      refine rdV ⟨hx, hb, hml, hown, hts⟩ hK hP (k_Re_blocksOf l (f := f) (x_f := x_f) hx_f ) w_186 m_Re_blocksOf ⟨by decide, by decide⟩ 2 rfl rfl rfl hl.1 rfl (Nat.le_of_ble_eq_true rfl) d_Re_blockOf_12 ⟨Nat.zero_le _, Nat.zero_le _⟩ ?_
      refine lv_if_ne (tgt := 20) hx hb d_Re_blockOf_15 (by decide) (fun c_3 => ?_) (fun c_3 => ?_)
      · skip
        refine lv_aload_n hx hb d_Re_blockOf_20 rfl (lv_at hl 0 rfl) ?_
        refine lv_iload_n hx hb d_Re_blockOf_21 rfl (lv_at hl 1 rfl) ?_
        refine lv_bipush (v := nI 40) hx hb d_Re_blockOf_22 (by decide) ?_
        refine lv_iconst (v := nI 4) hx hb d_Re_blockOf_24 (by decide) ?_
        refine lv_iload_n hx hb d_Re_blockOf_25 rfl (lv_at hl 2 rfl) ?_
        refine ln_imul hx hb d_Re_blockOf_26 ?_
        refine ln_iadd hx hb d_Re_blockOf_27 ?_
        refine lv_iconst (v := nI 4) hx hb d_Re_blockOf_28 (by decide) ?_
        refine rdV ⟨hx, hb, hml, hown, hts⟩ hK hP (k_Re_field l (f := f) (x_f := x_f) (o := (40 + (4 * k))) (n := 4) hx_f (by omega) (by omega)) w_136 m_Re_field ⟨by decide, by decide⟩ 2 rfl rfl rfl hl.1 rfl (Nat.le_of_ble_eq_true rfl) d_Re_blockOf_29 ⟨Nat.zero_le _, Nat.zero_le _⟩ ?_
        exact W.iret (v := re_f B f (40 + (4 * k)) 4) hx hb hr (fun t9 ht hW => ⟨congrArg (fun z => Outcome.returned (some (Value.int z))) (show re_f B f (40 + (4 * k)) 4 = (re_blk B f ((k : Nat) : Int)) from (by unfold re_blk; rw [if_neg (by rintro (q | q | q); exact absurd q (by omega); exact absurd q (by omega); exact absurd q (by assumption))]; rfl)), ht⟩) (fun q h => nomatch h) d_Re_blockOf_32
      · skip
        refine lv_iconst (v := nI 0) hx hb d_Re_blockOf_18 (by decide) ?_
        exact W.iret (v := nI 0) hx hb hr (fun t9 ht hW => ⟨congrArg (fun z => Outcome.returned (some (Value.int z))) (show nI 0 = (re_blk B f ((k : Nat) : Int)) from (by unfold re_blk; first | rw [if_pos (Or.inl (by omega))] | rw [if_pos (Or.inr (Or.inl (by omega)))] | rw [if_pos (Or.inr (Or.inr (by assumption)))])), ht⟩) (fun q h => nomatch h) d_Re_blockOf_19
theorem m_Re_leastAbsent : mV R_Re y_Re_leastAbsent (Cond.code y_Re_leastAbsent c_Re_leastAbsent 2 (some .int)) 0 := ⟨⟨w_277, w_278, w_4, w_279⟩, by decide +kernel⟩
set_option maxHeartbeats 4000000 in
set_option maxRecDepth 100000 in
theorem k_Re_leastAbsent (l : Launch) {D : va_G} {ct : Nat → ClassId} {ad : Nat → Nat} {B : Nat → Int32} {g : Nat → Option Nat} {tk : Nat → Int32} {fr : Int32} {LP : List Nat} {pr : Nat → Nat → Int32}   : Met l y_Re_leastAbsent (Cond.code y_Re_leastAbsent c_Re_leastAbsent 2 (some .int) :: wA) (rmk 4 0 0) (va_Pc [.ref (ad 2)] (cR D (tyC ct) (wsC ct ad B g tk fr LP pr))) (QcRead (nI (re_abs B 12 1))) 0 0 (fun _ => False) := by
  refine Met.ofW (cc := c_Re_leastAbsent) (maxL := 2) (ret := (some .int)) (by decide +kernel) rfl ?_
  intro p e s m args below meth c s₁ B0 hml hv
  obtain ⟨rfl, hP, hK⟩ := hv
  have hx := B0.exec
  have hb := B0.bytes
  have hr := B0.returns
  have hts := fun w (h : w ∈ wA) => atoms_spec (ws := Cond.code y_Re_leastAbsent c_Re_leastAbsent 2 (some .int) :: wA) B0.pre w (List.mem_cons_of_mem _ h)
  have hown : s.vm.findClass R_Re = some m.cls := findClass_of_methodNamed B0.named
  have hlocks := B0.notSynchronized
  have hl := lv_entry ([.ref (ad 2)]) (n := 2) (Nat.le_of_ble_eq_true rfl)
  rw [lg_entry_eq]
  generalize (lg_sl ([.ref (ad 2)]) ++ List.replicate (2 - (lg_sl ([.ref (ad 2)])).length) Slot.unset).toArray = ls at hl ⊢
  have hl : lv_has ls 2 [(0, .ref (ad 2))] := hl
  refine lv_iconst (v := nI 1) hx hb d_Re_leastAbsent_0 (by decide) ?_
  refine lv_istore_n (lv' := [(1, .int (nI 1)), (0, .ref (ad 2))]) hx hb d_Re_leastAbsent_1 rfl hl (by decide) rfl (fun ls hl => ?_)
  have loop2 : ∀ (n9 : Nat) (f : Nat), 13 - f < n9 → 1 ≤ f → f ≤ 13 → re_abs B 12 1 = re_abs B (13 - f) f → ∀ ls : Array Slot, lv_has ls 2 [(0, .ref (ad 2)), (1, .int (nI f))] → W p l e (headSpec (Cond.code y_Re_leastAbsent c_Re_leastAbsent 2 (some .int) :: wA) (rmk 4 0 0)).room s m ([.ref (ad 2)] : List Value).toArray below meth c s.heap [] 0 0 (MQ below (QcRead (nI (re_abs B 12 1))) ([.ref (ad 2)] : List Value).toArray s 0 0 (fun _ => False)) (F0 m 2 ls []) := by
    intro n9
    induction n9 with
    | zero => intro f h8 h9 h10 h11 ls hl; exact absurd h8 (by omega)
    | succ n9 ih =>
      intro f h8 h9 h10 h11 ls hl
      refine lv_iload_n hx hb d_Re_leastAbsent_2 rfl (lv_at hl 1 rfl) ?_
      refine lv_bipush (v := nI 12) hx hb d_Re_leastAbsent_3 (by decide) ?_
      refine ln_icmp_gt (tgt := 24) hx hb (by omega) (by omega) d_Re_leastAbsent_5 (by decide) (fun c_1 => ?_) (fun c_1 => ?_)
      · skip
        refine lv_iconst (v := nI 0) hx hb d_Re_leastAbsent_24 (by decide) ?_
        exact W.iret (v := nI 0) hx hb hr (fun t9 ht hW => ⟨congrArg (fun z => Outcome.returned (some (Value.int z))) (show nI 0 = (nI (re_abs B 12 1)) from (congrArg nI (by rw [h11]; first | (rw [show 13 - f = 0 by omega]; rfl) | (rw [show 13 - f = 12 - f + 1 by omega, re_abs, if_pos (by assumption)])))), ht⟩) (fun q h => nomatch h) d_Re_leastAbsent_25
      · skip
        refine lv_aload_n hx hb d_Re_leastAbsent_8 rfl (lv_at hl 0 rfl) ?_
        refine lv_iload_n hx hb d_Re_leastAbsent_9 rfl (lv_at hl 1 rfl) ?_
        refine rdV ⟨hx, hb, hml, hown, hts⟩ hK hP (k_Re_kindOf l (f := f) (x_f := nI f) (nI_clamp (by omega)) ) w_280 m_Re_kindOf ⟨by decide, by decide⟩ 2 rfl rfl rfl hl.1 rfl (Nat.le_of_ble_eq_true rfl) d_Re_leastAbsent_10 ⟨Nat.zero_le _, Nat.zero_le _⟩ ?_
        refine lv_if_ne (tgt := 18) hx hb d_Re_leastAbsent_13 (by decide) (fun c_2 => ?_) (fun c_2 => ?_)
        · skip
          refine lv_iinc (v := nI (f + 1)) (lv' := [(1, .int (nI (f + 1))), (0, .ref (ad 2))]) hx hb d_Re_leastAbsent_18 hl (k := 1) rfl (ln_inc (by decide)) (by decide) rfl (fun ls hl => ?_)
          refine lv_goto (tgt := 2) hx hb d_Re_leastAbsent_21 (by decide) ?_
          exact ih (f + 1) (by omega) (by omega) (by omega) (by rw [h11, show 13 - f = 12 - f + 1 by omega, re_abs, if_neg (by assumption), show 13 - (f + 1) = 12 - f by omega]) ls (lv_sub hl [1, 0] rfl)
        · skip
          refine lv_iload_n hx hb d_Re_leastAbsent_16 rfl (lv_at hl 1 rfl) ?_
          exact W.iret (v := nI f) hx hb hr (fun t9 ht hW => ⟨congrArg (fun z => Outcome.returned (some (Value.int z))) (show nI f = (nI (re_abs B 12 1)) from (congrArg nI (by rw [h11]; first | (rw [show 13 - f = 0 by omega]; rfl) | (rw [show 13 - f = 12 - f + 1 by omega, re_abs, if_pos (by assumption)])))), ht⟩) (fun q h => nomatch h) d_Re_leastAbsent_17
  exact loop2 14 1 (by omega) (by omega) (by omega) rfl ls (lv_sub hl [1, 0] rfl)
theorem m_Re_howManyThere : mV R_Re y_Re_howManyThere (Cond.code y_Re_howManyThere c_Re_howManyThere 3 (some .int)) 0 := ⟨⟨w_814, w_815, w_4, w_816⟩, by decide +kernel⟩
set_option maxHeartbeats 4000000 in
set_option maxRecDepth 100000 in
theorem k_Re_howManyThere (l : Launch) {D : va_G} {ct : Nat → ClassId} {ad : Nat → Nat} {B : Nat → Int32} {g : Nat → Option Nat} {tk : Nat → Int32} {fr : Int32} {LP : List Nat} {pr : Nat → Nat → Int32}   : Met l y_Re_howManyThere (Cond.code y_Re_howManyThere c_Re_howManyThere 3 (some .int) :: wA) (rmk 4 0 0) (va_Pc [.ref (ad 2)] (cR D (tyC ct) (wsC ct ad B g tk fr LP pr))) (QcRead (nI (re_cnt B 12 1 0))) 0 0 (fun _ => False) := by
  refine Met.ofW (cc := c_Re_howManyThere) (maxL := 3) (ret := (some .int)) (by decide +kernel) rfl ?_
  intro p e s m args below meth c s₁ B0 hml hv
  obtain ⟨rfl, hP, hK⟩ := hv
  have hx := B0.exec
  have hb := B0.bytes
  have hr := B0.returns
  have hts := fun w (h : w ∈ wA) => atoms_spec (ws := Cond.code y_Re_howManyThere c_Re_howManyThere 3 (some .int) :: wA) B0.pre w (List.mem_cons_of_mem _ h)
  have hown : s.vm.findClass R_Re = some m.cls := findClass_of_methodNamed B0.named
  have hlocks := B0.notSynchronized
  have hl := lv_entry ([.ref (ad 2)]) (n := 3) (Nat.le_of_ble_eq_true rfl)
  rw [lg_entry_eq]
  generalize (lg_sl ([.ref (ad 2)]) ++ List.replicate (3 - (lg_sl ([.ref (ad 2)])).length) Slot.unset).toArray = ls at hl ⊢
  have hl : lv_has ls 3 [(0, .ref (ad 2))] := hl
  refine lv_iconst (v := nI 0) hx hb d_Re_howManyThere_0 (by decide) ?_
  refine lv_istore_n (lv' := [(1, .int (nI 0)), (0, .ref (ad 2))]) hx hb d_Re_howManyThere_1 rfl hl (by decide) rfl (fun ls hl => ?_)
  refine lv_iconst (v := nI 1) hx hb d_Re_howManyThere_2 (by decide) ?_
  refine lv_istore_n (lv' := [(2, .int (nI 1)), (1, .int (nI 0)), (0, .ref (ad 2))]) hx hb d_Re_howManyThere_3 rfl hl (by decide) rfl (fun ls hl => ?_)
  have loop4 : ∀ (n9 : Nat) (f : Nat) (t : Nat), 13 - f < n9 → 1 ≤ f → f ≤ 13 → t < f → re_cnt B 12 1 0 = re_cnt B (13 - f) f t → ∀ ls : Array Slot, lv_has ls 3 [(0, .ref (ad 2)), (1, .int (nI t)), (2, .int (nI f))] → W p l e (headSpec (Cond.code y_Re_howManyThere c_Re_howManyThere 3 (some .int) :: wA) (rmk 4 0 0)).room s m ([.ref (ad 2)] : List Value).toArray below meth c s.heap [] 0 0 (MQ below (QcRead (nI (re_cnt B 12 1 0))) ([.ref (ad 2)] : List Value).toArray s 0 0 (fun _ => False)) (F0 m 4 ls []) := by
    intro n9
    induction n9 with
    | zero => intro f t h8 h9 h10 h12 h11 ls hl; exact absurd h8 (by omega)
    | succ n9 ih =>
      intro f t h8 h9 h10 h12 h11 ls hl
      refine lv_iload_n hx hb d_Re_howManyThere_4 rfl (lv_at hl 2 rfl) ?_
      refine lv_bipush (v := nI 12) hx hb d_Re_howManyThere_5 (by decide) ?_
      refine ln_icmp_gt (tgt := 27) hx hb (by omega) (by omega) d_Re_howManyThere_7 (by decide) (fun c_1 => ?_) (fun c_1 => ?_)
      · skip
        refine lv_iload_n hx hb d_Re_howManyThere_27 rfl (lv_at hl 1 rfl) ?_
        exact W.iret (v := nI t) hx hb hr (fun t9 ht hW => ⟨congrArg (fun z => Outcome.returned (some (Value.int z))) (show nI t = (nI (re_cnt B 12 1 0)) from (congrArg nI (by rw [h11, show 13 - f = 0 by omega]; rfl))), ht⟩) (fun q h => nomatch h) d_Re_howManyThere_28
      · skip
        refine lv_aload_n hx hb d_Re_howManyThere_10 rfl (lv_at hl 0 rfl) ?_
        refine lv_iload_n hx hb d_Re_howManyThere_11 rfl (lv_at hl 2 rfl) ?_
        refine rdV ⟨hx, hb, hml, hown, hts⟩ hK hP (k_Re_kindOf l (f := f) (x_f := nI f) (nI_clamp (by omega)) ) w_280 m_Re_kindOf ⟨by decide, by decide⟩ 2 rfl rfl rfl hl.1 rfl (Nat.le_of_ble_eq_true rfl) d_Re_howManyThere_12 ⟨Nat.zero_le _, Nat.zero_le _⟩ ?_
        refine lv_if_eq (tgt := 21) hx hb d_Re_howManyThere_15 (by decide) (fun c_2 => ?_) (fun c_2 => ?_)
        · skip
          refine lv_iinc (v := nI (f + 1)) (lv' := [(2, .int (nI (f + 1))), (0, .ref (ad 2)), (1, .int (nI t))]) hx hb d_Re_howManyThere_21 hl (k := 2) rfl (ln_inc (by decide)) (by decide) rfl (fun ls hl => ?_)
          refine lv_goto (tgt := 4) hx hb d_Re_howManyThere_24 (by decide) ?_
          exact ih (f + 1) t (by omega) (by omega) (by omega) (by omega) (by rw [h11, show 13 - f = 12 - f + 1 by omega, re_cnt, show 13 - (f + 1) = 12 - f by omega]; first | rw [if_neg (by assumption)] | rw [if_pos (by assumption)]) ls (lv_sub hl [1, 2, 0] rfl)
        · skip
          refine lv_iinc (v := nI (t + 1)) (lv' := [(1, .int (nI (t + 1))), (0, .ref (ad 2)), (2, .int (nI f))]) hx hb d_Re_howManyThere_18 hl (k := 1) rfl (ln_inc (by decide)) (by decide) rfl (fun ls hl => ?_)
          refine lv_iinc (v := nI (f + 1)) (lv' := [(2, .int (nI (f + 1))), (1, .int (nI (t + 1))), (0, .ref (ad 2))]) hx hb d_Re_howManyThere_21 hl (k := 2) rfl (ln_inc (by decide)) (by decide) rfl (fun ls hl => ?_)
          refine lv_goto (tgt := 4) hx hb d_Re_howManyThere_24 (by decide) ?_
          exact ih (f + 1) (t + 1) (by omega) (by omega) (by omega) (by omega) (by rw [h11, show 13 - f = 12 - f + 1 by omega, re_cnt, show 13 - (f + 1) = 12 - f by omega]; first | rw [if_neg (by assumption)] | rw [if_pos (by assumption)]) ls (lv_sub hl [2, 1, 0] rfl)
  exact loop4 14 1 0 (by omega) (by omega) (by omega) (by omega) rfl ls (lv_sub hl [2, 1, 0] rfl)
end
section
/-! Waiting, DataBlocks, Bodies: what is read -/
def gOK (g : Nat → Option Nat) (LP : List Nat) : Prop := ∀ b y, b < 128 → g b = some y → y ∈ LP
theorem wsC_row {ct : Nat → ClassId} {ad : Nat → Nat} {B : Nat → Int32} {g : Nat → Option Nat} {tk : Nat → Int32} {fr : Int32} {LP : List Nat} {pr : Nat → Nat → Int32} {y : Nat} (h : y ∈ LP) : ∃ k : Nat, (wsC ct ad B g tk fr LP pr)[k]? = some (y, .inl (ct 0, 1024, .inl (pr y))) := va_pl_get h
def wa_many (B : Nat → Int32) : Nat → Int32 → Nat → Nat
  | 0, _, n => n
  | k + 1, x, n => if x = 0 then n else wa_many B k (re_f B x.toNatClampNeg 20 4) (n + 1)
def wa_bef (B : Nat → Int32) (y : Int32) : Nat → Int32 → Int32
  | 0, x => x
  | k + 1, x => if x = 0 then x else if re_f B x.toNatClampNeg 20 4 = y then x else wa_bef B y k (re_f B x.toNatClampNeg 20 4)
def db_lf (tk : Nat → Int32) : Nat → Nat → Nat
  | 0, _ => 0
  | k + 1, b => if tk b = 0 then b else db_lf tk k (b + 1)
def db_at (g : Nat → Option Nat) (pr : Nat → Nat → Int32) (z : Int) (i : Nat) : Int32 := if z < 0 ∨ 128 ≤ z then nI 0 else match g z.toNat with
  | none => nI 0
  | some y => pr y i &&& nI 255
def ma_fm (x y : Int32) : Int32 := if 0 ≤ (x ^^^ y) then x - x / y * y else if x - x / y * y = 0 then x - x / y * y else (x - x / y * y) + y
def bo_tb (x : Int32) (i : Nat) : Int32 := nI 1 + ma_fm (x + nI i) (nI 255)
def bo_want (B : Nat → Int32) (f : Nat) : Nat → Nat → Nat → Nat
  | 0, _, w => w
  | k + 1, q, w => bo_want B f k (q + 1) (if re_blk B f q = 0 then w + 1 else w)
def bo_at (B : Nat → Int32) (g : Nat → Option Nat) (pr : Nat → Nat → Int32) (f i : Nat) : Int32 := if re_kind B f = nI 3 ∧ ¬ nI 59 < re_f B f 4 4 then re_f B f (40 + i) 1 else if re_blk B f ((i / 1024 : Nat) : Int) = 0 then nI 0 else db_at g pr (re_blk B f ((i / 1024 : Nat) : Int)).toInt (i % 1024)
theorem m_Wa_first : mV R_Wa y_Wa_first (Cond.code y_Wa_first c_Wa_first 1 (some .int)) 0 := ⟨⟨w_121, w_122, w_5, w_123⟩, by decide +kernel⟩
set_option maxHeartbeats 4000000 in
set_option maxRecDepth 100000 in
theorem k_Wa_first (l : Launch) {D : va_G} {ct : Nat → ClassId} {ad : Nat → Nat} {B : Nat → Int32} {g : Nat → Option Nat} {tk : Nat → Int32} {fr : Int32} {LP : List Nat} {pr : Nat → Nat → Int32}   : Met l y_Wa_first (Cond.code y_Wa_first c_Wa_first 1 (some .int) :: wA) (rmk 2 0 0) (va_Pc [.ref (ad 4)] (cR D (tyC ct) (wsC ct ad B g tk fr LP pr))) (QcRead (fr_num B 232 4)) 0 0 (fun _ => False) := by
  refine Met.ofW (cc := c_Wa_first) (maxL := 1) (ret := (some .int)) (by decide +kernel) rfl ?_
  intro p e s m args below meth c s₁ B0 hml hv
  obtain ⟨rfl, hP, hK⟩ := hv
  have hx := B0.exec
  have hb := B0.bytes
  have hr := B0.returns
  have hts := fun w (h : w ∈ wA) => atoms_spec (ws := Cond.code y_Wa_first c_Wa_first 1 (some .int) :: wA) B0.pre w (List.mem_cons_of_mem _ h)
  have hown : s.vm.findClass R_Wa = some m.cls := findClass_of_methodNamed B0.named
  have hlocks := B0.notSynchronized
  have hl := lv_entry ([.ref (ad 4)]) (n := 1) (Nat.le_of_ble_eq_true rfl)
  rw [lg_entry_eq]
  generalize (lg_sl ([.ref (ad 4)]) ++ List.replicate (1 - (lg_sl ([.ref (ad 4)])).length) Slot.unset).toArray = ls at hl ⊢
  have hl : lv_has ls 1 [(0, .ref (ad 4))] := hl
  refine lv_aload_n hx hb d_Wa_first_0 rfl (lv_at hl 0 rfl) ?_
  refine va_get (D := D) (ci := 4) (v := .ref (ad 3)) (C := R_Wa) (T := T_Wa) (N := 2) hx hb hts u_Wa hown hK hP 4 rfl rfl 0 (by decide) (hts _ w_80) (fun _ h9 => h9) rfl d_Wa_first_1 ?_
  refine lv_sipush (v := nI 232) hx hb d_Wa_first_4 (by decide) ?_
  refine lv_iconst (v := nI 4) hx hb d_Wa_first_7 (by decide) ?_
  refine rdV ⟨hx, hb, hml, hown, hts⟩ hK hP (k_Fr_number l (a := 232) (n := 4) (by omega) (by omega)) w_124 m_Fr_number ⟨by decide, by decide⟩ 3 rfl rfl rfl hl.1 rfl (Nat.le_of_ble_eq_true rfl) d_Wa_first_8 ⟨Nat.zero_le _, Nat.zero_le _⟩ ?_
  exact W.iret (v := fr_num B 232 4) hx hb hr (fun t9 ht hW => ⟨congrArg (fun z => Outcome.returned (some (Value.int z))) (show fr_num B 232 4 = (fr_num B 232 4) from rfl), ht⟩) (fun q h => nomatch h) d_Wa_first_11
theorem m_Wa_howMany : mV R_Wa y_Wa_howMany (Cond.code y_Wa_howMany c_Wa_howMany 3 (some .int)) 0 := ⟨⟨w_818, w_819, w_5, w_820⟩, by decide +kernel⟩
set_option maxHeartbeats 4000000 in
set_option maxRecDepth 100000 in
theorem k_Wa_howMany (l : Launch) {D : va_G} {ct : Nat → ClassId} {ad : Nat → Nat} {B : Nat → Int32} {g : Nat → Option Nat} {tk : Nat → Int32} {fr : Int32} {LP : List Nat} {pr : Nat → Nat → Int32}   : Met l y_Wa_howMany (Cond.code y_Wa_howMany c_Wa_howMany 3 (some .int) :: wA) (rmk 4 0 0) (va_Pc [.ref (ad 4)] (cR D (tyC ct) (wsC ct ad B g tk fr LP pr))) (QcRead (nI (wa_many B 12 (fr_num B 232 4) 0))) 0 0 (fun _ => False) := by
  refine Met.ofW (cc := c_Wa_howMany) (maxL := 3) (ret := (some .int)) (by decide +kernel) rfl ?_
  intro p e s m args below meth c s₁ B0 hml hv
  obtain ⟨rfl, hP, hK⟩ := hv
  have hx := B0.exec
  have hb := B0.bytes
  have hr := B0.returns
  have hts := fun w (h : w ∈ wA) => atoms_spec (ws := Cond.code y_Wa_howMany c_Wa_howMany 3 (some .int) :: wA) B0.pre w (List.mem_cons_of_mem _ h)
  have hown : s.vm.findClass R_Wa = some m.cls := findClass_of_methodNamed B0.named
  have hlocks := B0.notSynchronized
  have hl := lv_entry ([.ref (ad 4)]) (n := 3) (Nat.le_of_ble_eq_true rfl)
  rw [lg_entry_eq]
  generalize (lg_sl ([.ref (ad 4)]) ++ List.replicate (3 - (lg_sl ([.ref (ad 4)])).length) Slot.unset).toArray = ls at hl ⊢
  have hl : lv_has ls 3 [(0, .ref (ad 4))] := hl
  refine lv_aload_n hx hb d_Wa_howMany_0 rfl (lv_at hl 0 rfl) ?_
  refine rdV ⟨hx, hb, hml, hown, hts⟩ hK hP (k_Wa_first l  ) w_152 m_Wa_first ⟨by decide, by decide⟩ 4 rfl rfl rfl hl.1 rfl (Nat.le_of_ble_eq_true rfl) d_Wa_howMany_1 ⟨Nat.zero_le _, Nat.zero_le _⟩ ?_
  refine lv_istore_n (lv' := [(1, .int (fr_num B 232 4)), (0, .ref (ad 4))]) hx hb d_Wa_howMany_4 rfl hl (by decide) rfl (fun ls hl => ?_)
  refine lv_iconst (v := nI 0) hx hb d_Wa_howMany_5 (by decide) ?_
  refine lv_istore_n (lv' := [(2, .int (nI 0)), (1, .int (fr_num B 232 4)), (0, .ref (ad 4))]) hx hb d_Wa_howMany_6 rfl hl (by decide) rfl (fun ls hl => ?_)
  have loop7 : ∀ (n9 : Nat) (x : Int32) (n : Nat), 12 - n < n9 → n ≤ 12 → wa_many B 12 (fr_num B 232 4) 0 = wa_many B (12 - n) x n → ∀ ls : Array Slot, lv_has ls 3 [(0, .ref (ad 4)), (1, .int x), (2, .int (nI n))] → W p l e (headSpec (Cond.code y_Wa_howMany c_Wa_howMany 3 (some .int) :: wA) (rmk 4 0 0)).room s m ([.ref (ad 4)] : List Value).toArray below meth c s.heap [] 0 0 (MQ below (QcRead (nI (wa_many B 12 (fr_num B 232 4) 0))) ([.ref (ad 4)] : List Value).toArray s 0 0 (fun _ => False)) (F0 m 7 ls []) := by
    intro n9
    induction n9 with
    | zero => intro x n h8 h9 h10 ls hl; exact absurd h8 (by omega)
    | succ n9 ih =>
      intro x n h8 h9 h10 ls hl
      refine lv_iload_n hx hb d_Wa_howMany_7 rfl (lv_at hl 2 rfl) ?_
      refine lv_bipush (v := nI 12) hx hb d_Wa_howMany_8 (by decide) ?_
      refine ln_icmp_ge (tgt := 32) hx hb (by omega) (by omega) d_Wa_howMany_10 (by decide) (fun c_1 => ?_) (fun c_1 => ?_)
      · skip
        refine lv_iload_n hx hb d_Wa_howMany_32 rfl (lv_at hl 2 rfl) ?_
        exact W.iret (v := nI n) hx hb hr (fun t9 ht hW => ⟨congrArg (fun z => Outcome.returned (some (Value.int z))) (show nI n = (nI (wa_many B 12 (fr_num B 232 4) 0)) from (congrArg nI (by rw [h10]; first | (rw [show 12 - n = 0 by omega]; rfl) | (rw [show 12 - n = 11 - n + 1 by omega, wa_many, if_pos (by assumption)])))), ht⟩) (fun q h => nomatch h) d_Wa_howMany_33
      · skip
        refine lv_iload_n hx hb d_Wa_howMany_13 rfl (lv_at hl 1 rfl) ?_
        refine lv_if_eq (tgt := 32) hx hb d_Wa_howMany_14 (by decide) (fun c_2 => ?_) (fun c_2 => ?_)
        · skip
          refine lv_iload_n hx hb d_Wa_howMany_32 rfl (lv_at hl 2 rfl) ?_
          exact W.iret (v := nI n) hx hb hr (fun t9 ht hW => ⟨congrArg (fun z => Outcome.returned (some (Value.int z))) (show nI n = (nI (wa_many B 12 (fr_num B 232 4) 0)) from (congrArg nI (by rw [h10]; first | (rw [show 12 - n = 0 by omega]; rfl) | (rw [show 12 - n = 11 - n + 1 by omega, wa_many, if_pos (by assumption)])))), ht⟩) (fun q h => nomatch h) d_Wa_howMany_33
        · skip
          refine lv_aload_n hx hb d_Wa_howMany_17 rfl (lv_at hl 0 rfl) ?_
          refine va_get (D := D) (ci := 4) (v := .ref (ad 2)) (C := R_Wa) (T := T_Wa) (N := 2) hx hb hts u_Wa hown hK hP 4 rfl rfl 1 (by decide) (hts _ w_81) (fun _ h9 => h9) rfl d_Wa_howMany_18 ?_
          refine lv_iload_n hx hb d_Wa_howMany_21 rfl (lv_at hl 1 rfl) ?_
          refine rdV ⟨hx, hb, hml, hown, hts⟩ hK hP (k_Re_behind l (f := x.toNatClampNeg) (x_f := x) rfl ) w_153 m_Re_behind ⟨by decide, by decide⟩ 2 rfl rfl rfl hl.1 rfl (Nat.le_of_ble_eq_true rfl) d_Wa_howMany_22 ⟨Nat.zero_le _, Nat.zero_le _⟩ ?_
          refine lv_istore_n (lv' := [(1, .int (re_f B x.toNatClampNeg 20 4)), (0, .ref (ad 4)), (2, .int (nI n))]) hx hb d_Wa_howMany_25 rfl hl (by decide) rfl (fun ls hl => ?_)
          refine lv_iinc (v := nI (n + 1)) (lv' := [(2, .int (nI (n + 1))), (1, .int (re_f B x.toNatClampNeg 20 4)), (0, .ref (ad 4))]) hx hb d_Wa_howMany_26 hl (k := 2) rfl (ln_inc (by decide)) (by decide) rfl (fun ls hl => ?_)
          refine lv_goto (tgt := 7) hx hb d_Wa_howMany_29 (by decide) ?_
          exact ih (re_f B x.toNatClampNeg 20 4) (n + 1) (by omega) (by omega) (by rw [h10, show 12 - n = 11 - n + 1 by omega, wa_many, if_neg (by assumption), show 12 - (n + 1) = 11 - n by omega]) ls (lv_sub hl [2, 1, 0] rfl)
  exact loop7 13 (fr_num B 232 4) 0 (by omega) (by omega) rfl ls (lv_sub hl [2, 1, 0] rfl)
theorem m_Wa_fileBefore : mV R_Wa y_Wa_fileBefore (Cond.code y_Wa_fileBefore c_Wa_fileBefore 4 (some .int)) 1 := ⟨⟨w_167, wp_3, w_5, w_168⟩, by decide +kernel⟩
set_option maxHeartbeats 4000000 in
set_option maxRecDepth 100000 in
theorem k_Wa_fileBefore (l : Launch) {D : va_G} {ct : Nat → ClassId} {ad : Nat → Nat} {B : Nat → Int32} {g : Nat → Option Nat} {tk : Nat → Int32} {fr : Int32} {LP : List Nat} {pr : Nat → Nat → Int32} {y : Int32}  : Met l y_Wa_fileBefore (Cond.code y_Wa_fileBefore c_Wa_fileBefore 4 (some .int) :: wA) (rmk 4 0 0) (va_Pc [.ref (ad 4), .int y] (cR D (tyC ct) (wsC ct ad B g tk fr LP pr))) (QcRead (wa_bef B y 12 (fr_num B 232 4))) 0 0 (fun _ => False) := by
  refine Met.ofW (cc := c_Wa_fileBefore) (maxL := 4) (ret := (some .int)) (by decide +kernel) rfl ?_
  intro p e s m args below meth c s₁ B0 hml hv
  obtain ⟨rfl, hP, hK⟩ := hv
  have hx := B0.exec
  have hb := B0.bytes
  have hr := B0.returns
  have hts := fun w (h : w ∈ wA) => atoms_spec (ws := Cond.code y_Wa_fileBefore c_Wa_fileBefore 4 (some .int) :: wA) B0.pre w (List.mem_cons_of_mem _ h)
  have hown : s.vm.findClass R_Wa = some m.cls := findClass_of_methodNamed B0.named
  have hlocks := B0.notSynchronized
  have hl := lv_entry ([.ref (ad 4), .int y]) (n := 4) (Nat.le_of_ble_eq_true rfl)
  rw [lg_entry_eq]
  generalize (lg_sl ([.ref (ad 4), .int y]) ++ List.replicate (4 - (lg_sl ([.ref (ad 4), .int y])).length) Slot.unset).toArray = ls at hl ⊢
  have hl : lv_has ls 4 [(0, .ref (ad 4)), (1, .int y)] := hl
  refine lv_aload_n hx hb d_Wa_fileBefore_0 rfl (lv_at hl 0 rfl) ?_
  refine rdV ⟨hx, hb, hml, hown, hts⟩ hK hP (k_Wa_first l  ) w_152 m_Wa_first ⟨by decide, by decide⟩ 4 rfl rfl rfl hl.1 rfl (Nat.le_of_ble_eq_true rfl) d_Wa_fileBefore_1 ⟨Nat.zero_le _, Nat.zero_le _⟩ ?_
  refine lv_istore_n (lv' := [(2, .int (fr_num B 232 4)), (0, .ref (ad 4)), (1, .int y)]) hx hb d_Wa_fileBefore_4 rfl hl (by decide) rfl (fun ls hl => ?_)
  refine lv_iconst (v := nI 0) hx hb d_Wa_fileBefore_5 (by decide) ?_
  refine lv_istore_n (lv' := [(3, .int (nI 0)), (2, .int (fr_num B 232 4)), (0, .ref (ad 4)), (1, .int y)]) hx hb d_Wa_fileBefore_6 rfl hl (by decide) rfl (fun ls hl => ?_)
  have loop7 : ∀ (n9 : Nat) (x : Int32) (n : Nat), 12 - n < n9 → n ≤ 12 → wa_bef B y 12 (fr_num B 232 4) = wa_bef B y (12 - n) x → ∀ ls : Array Slot, lv_has ls 4 [(0, .ref (ad 4)), (1, .int y), (2, .int x), (3, .int (nI n))] → W p l e (headSpec (Cond.code y_Wa_fileBefore c_Wa_fileBefore 4 (some .int) :: wA) (rmk 4 0 0)).room s m ([.ref (ad 4), .int y] : List Value).toArray below meth c s.heap [] 0 0 (MQ below (QcRead (wa_bef B y 12 (fr_num B 232 4))) ([.ref (ad 4), .int y] : List Value).toArray s 0 0 (fun _ => False)) (F0 m 7 ls []) := by
    intro n9
    induction n9 with
    | zero => intro x n h8 h9 h10 ls hl; exact absurd h8 (by omega)
    | succ n9 ih =>
      intro x n h8 h9 h10 ls hl
      refine lv_iload_n hx hb d_Wa_fileBefore_7 rfl (lv_at hl 3 rfl) ?_
      refine lv_bipush (v := nI 12) hx hb d_Wa_fileBefore_8 (by decide) ?_
      refine ln_icmp_ge (tgt := 44) hx hb (by omega) (by omega) d_Wa_fileBefore_10 (by decide) (fun c_1 => ?_) (fun c_1 => ?_)
      · skip
        refine lv_iload_n hx hb d_Wa_fileBefore_44 rfl (lv_at hl 2 rfl) ?_
        exact W.iret (v := x) hx hb hr (fun t9 ht hW => ⟨congrArg (fun z => Outcome.returned (some (Value.int z))) (show x = (wa_bef B y 12 (fr_num B 232 4)) from (by rw [h10]; first | (rw [show 12 - n = 0 by omega]; rfl) | (rw [show 12 - n = 11 - n + 1 by omega, wa_bef, if_pos (by assumption)]; done) | (rw [show 12 - n = 11 - n + 1 by omega, wa_bef, if_neg (by assumption), if_pos (by assumption)]))), ht⟩) (fun q h => nomatch h) d_Wa_fileBefore_45
      · skip
        refine lv_iload_n hx hb d_Wa_fileBefore_13 rfl (lv_at hl 2 rfl) ?_
        refine lv_if_eq (tgt := 44) hx hb d_Wa_fileBefore_14 (by decide) (fun c_2 => ?_) (fun c_2 => ?_)
        · skip
          refine lv_iload_n hx hb d_Wa_fileBefore_44 rfl (lv_at hl 2 rfl) ?_
          exact W.iret (v := x) hx hb hr (fun t9 ht hW => ⟨congrArg (fun z => Outcome.returned (some (Value.int z))) (show x = (wa_bef B y 12 (fr_num B 232 4)) from (by rw [h10]; first | (rw [show 12 - n = 0 by omega]; rfl) | (rw [show 12 - n = 11 - n + 1 by omega, wa_bef, if_pos (by assumption)]; done) | (rw [show 12 - n = 11 - n + 1 by omega, wa_bef, if_neg (by assumption), if_pos (by assumption)]))), ht⟩) (fun q h => nomatch h) d_Wa_fileBefore_45
        · skip
          refine lv_aload_n hx hb d_Wa_fileBefore_17 rfl (lv_at hl 0 rfl) ?_
          refine va_get (D := D) (ci := 4) (v := .ref (ad 2)) (C := R_Wa) (T := T_Wa) (N := 2) hx hb hts u_Wa hown hK hP 4 rfl rfl 1 (by decide) (hts _ w_81) (fun _ h9 => h9) rfl d_Wa_fileBefore_18 ?_
          refine lv_iload_n hx hb d_Wa_fileBefore_21 rfl (lv_at hl 2 rfl) ?_
          refine rdV ⟨hx, hb, hml, hown, hts⟩ hK hP (k_Re_behind l (f := x.toNatClampNeg) (x_f := x) rfl ) w_153 m_Re_behind ⟨by decide, by decide⟩ 2 rfl rfl rfl hl.1 rfl (Nat.le_of_ble_eq_true rfl) d_Wa_fileBefore_22 ⟨Nat.zero_le _, Nat.zero_le _⟩ ?_
          refine lv_iload_n hx hb d_Wa_fileBefore_25 rfl (lv_at hl 1 rfl) ?_
          refine lv_icmp_eq (tgt := 44) hx hb d_Wa_fileBefore_26 (by decide) (fun c_3 => ?_) (fun c_3 => ?_)
          · skip
            refine lv_iload_n hx hb d_Wa_fileBefore_44 rfl (lv_at hl 2 rfl) ?_
            exact W.iret (v := x) hx hb hr (fun t9 ht hW => ⟨congrArg (fun z => Outcome.returned (some (Value.int z))) (show x = (wa_bef B y 12 (fr_num B 232 4)) from (by rw [h10]; first | (rw [show 12 - n = 0 by omega]; rfl) | (rw [show 12 - n = 11 - n + 1 by omega, wa_bef, if_pos (by assumption)]; done) | (rw [show 12 - n = 11 - n + 1 by omega, wa_bef, if_neg (by assumption), if_pos (by assumption)]))), ht⟩) (fun q h => nomatch h) d_Wa_fileBefore_45
          · skip
            refine lv_aload_n hx hb d_Wa_fileBefore_29 rfl (lv_at hl 0 rfl) ?_
            refine va_get (D := D) (ci := 4) (v := .ref (ad 2)) (C := R_Wa) (T := T_Wa) (N := 2) hx hb hts u_Wa hown hK hP 4 rfl rfl 1 (by decide) (hts _ w_81) (fun _ h9 => h9) rfl d_Wa_fileBefore_30 ?_
            refine lv_iload_n hx hb d_Wa_fileBefore_33 rfl (lv_at hl 2 rfl) ?_
            refine rdV ⟨hx, hb, hml, hown, hts⟩ hK hP (k_Re_behind l (f := x.toNatClampNeg) (x_f := x) rfl ) w_153 m_Re_behind ⟨by decide, by decide⟩ 2 rfl rfl rfl hl.1 rfl (Nat.le_of_ble_eq_true rfl) d_Wa_fileBefore_34 ⟨Nat.zero_le _, Nat.zero_le _⟩ ?_
            refine lv_istore_n (lv' := [(2, .int (re_f B x.toNatClampNeg 20 4)), (0, .ref (ad 4)), (1, .int y), (3, .int (nI n))]) hx hb d_Wa_fileBefore_37 rfl hl (by decide) rfl (fun ls hl => ?_)
            refine lv_iinc (v := nI (n + 1)) (lv' := [(3, .int (nI (n + 1))), (2, .int (re_f B x.toNatClampNeg 20 4)), (0, .ref (ad 4)), (1, .int y)]) hx hb d_Wa_fileBefore_38 hl (k := 3) rfl (ln_inc (by decide)) (by decide) rfl (fun ls hl => ?_)
            refine lv_goto (tgt := 7) hx hb d_Wa_fileBefore_41 (by decide) ?_
            exact ih (re_f B x.toNatClampNeg 20 4) (n + 1) (by omega) (by omega) (by rw [h10, show 12 - n = 11 - n + 1 by omega, wa_bef, if_neg (by assumption), if_neg (by assumption), show 12 - (n + 1) = 11 - n by omega]) ls (lv_sub hl [2, 3, 1, 0] rfl)
  exact loop7 13 (fr_num B 232 4) 0 (by omega) (by omega) rfl ls (lv_sub hl [2, 3, 1, 0] rfl)
theorem m_Db_howManyFree : mV R_Db y_Db_howManyFree (Cond.code y_Db_howManyFree c_Db_howManyFree 1 (some .int)) 0 := ⟨⟨w_323, w_324, w_3, w_325⟩, by decide +kernel⟩
set_option maxHeartbeats 4000000 in
set_option maxRecDepth 100000 in
theorem k_Db_howManyFree (l : Launch) {D : va_G} {ct : Nat → ClassId} {ad : Nat → Nat} {B : Nat → Int32} {g : Nat → Option Nat} {tk : Nat → Int32} {fr : Int32} {LP : List Nat} {pr : Nat → Nat → Int32}   : Met l y_Db_howManyFree (Cond.code y_Db_howManyFree c_Db_howManyFree 1 (some .int) :: wA) (rmk 1 0 0) (va_Pc [.ref (ad 1)] (cR D (tyC ct) (wsC ct ad B g tk fr LP pr))) (QcRead fr) 0 0 (fun _ => False) := by
  refine Met.ofW (cc := c_Db_howManyFree) (maxL := 1) (ret := (some .int)) (by decide +kernel) rfl ?_
  intro p e s m args below meth c s₁ B0 hml hv
  obtain ⟨rfl, hP, hK⟩ := hv
  have hx := B0.exec
  have hb := B0.bytes
  have hr := B0.returns
  have hts := fun w (h : w ∈ wA) => atoms_spec (ws := Cond.code y_Db_howManyFree c_Db_howManyFree 1 (some .int) :: wA) B0.pre w (List.mem_cons_of_mem _ h)
  have hown : s.vm.findClass R_Db = some m.cls := findClass_of_methodNamed B0.named
  have hlocks := B0.notSynchronized
  have hl := lv_entry ([.ref (ad 1)]) (n := 1) (Nat.le_of_ble_eq_true rfl)
  rw [lg_entry_eq]
  generalize (lg_sl ([.ref (ad 1)]) ++ List.replicate (1 - (lg_sl ([.ref (ad 1)])).length) Slot.unset).toArray = ls at hl ⊢
  have hl : lv_has ls 1 [(0, .ref (ad 1))] := hl
  refine lv_aload_n hx hb d_Db_howManyFree_0 rfl (lv_at hl 0 rfl) ?_
  refine va_get (D := D) (ci := 1) (v := .int fr) (C := R_Db) (T := T_Db) (N := 3) hx hb hts u_Db hown hK hP 1 rfl rfl 2 (by decide) (hts _ w_55) (fun _ h9 => h9) rfl d_Db_howManyFree_1 ?_
  exact W.iret (v := fr) hx hb hr (fun t9 ht hW => ⟨congrArg (fun z => Outcome.returned (some (Value.int z))) (show fr = fr from rfl), ht⟩) (fun q h => nomatch h) d_Db_howManyFree_4
theorem m_Db_leastFree : mV R_Db y_Db_leastFree (Cond.code y_Db_leastFree c_Db_leastFree 3 (some .int)) 1 := ⟨⟨w_363, wp_7, w_3, w_364⟩, by decide +kernel⟩
set_option maxHeartbeats 4000000 in
set_option maxRecDepth 100000 in
theorem k_Db_leastFree (l : Launch) {D : va_G} {ct : Nat → ClassId} {ad : Nat → Nat} {B : Nat → Int32} {g : Nat → Option Nat} {tk : Nat → Int32} {fr : Int32} {LP : List Nat} {pr : Nat → Nat → Int32} {a : Int} {x_a : Int32} (hx_a : x_a.toInt = a)  : Met l y_Db_leastFree (Cond.code y_Db_leastFree c_Db_leastFree 3 (some .int) :: wA) (rmk 2 0 0) (va_Pc [.ref (ad 1), .int x_a] (cR D (tyC ct) (wsC ct ad B g tk fr LP pr))) (QcRead (nI (db_lf tk (128 - (max a 4).toNat) (max a 4).toNat))) 0 0 (fun _ => False) := by
  refine Met.ofW (cc := c_Db_leastFree) (maxL := 3) (ret := (some .int)) (by decide +kernel) rfl ?_
  intro p e s m args below meth c s₁ B0 hml hv
  obtain ⟨rfl, hP, hK⟩ := hv
  have hx := B0.exec
  have hb := B0.bytes
  have hr := B0.returns
  have hts := fun w (h : w ∈ wA) => atoms_spec (ws := Cond.code y_Db_leastFree c_Db_leastFree 3 (some .int) :: wA) B0.pre w (List.mem_cons_of_mem _ h)
  have hown : s.vm.findClass R_Db = some m.cls := findClass_of_methodNamed B0.named
  have hlocks := B0.notSynchronized
  have hl := lv_entry ([.ref (ad 1), .int x_a]) (n := 3) (Nat.le_of_ble_eq_true rfl)
  rw [lg_entry_eq]
  generalize (lg_sl ([.ref (ad 1), .int x_a]) ++ List.replicate (3 - (lg_sl ([.ref (ad 1), .int x_a])).length) Slot.unset).toArray = ls at hl ⊢
  have hl : lv_has ls 3 [(0, .ref (ad 1)), (1, .int x_a)] := hl
  have hf_a := z_lt x_a
  have hg_a := z_ge x_a
  rw [hx_a] at hf_a hg_a
  refine lv_iload_n hx hb d_Db_leastFree_0 rfl (lv_at hl 1 rfl) ?_
  refine lv_iconst (v := nI 4) hx hb d_Db_leastFree_1 (by decide) ?_
  refine va_mmax hx hb (hml.trans hl.1.symm) hown (hts _ w_365) (hts _ w_366) (hts _ w_13) (hts _ w_367) (Nat.le_of_ble_eq_true rfl) (Nat.le_of_ble_eq_true rfl) (Nat.zero_le _) (Nat.zero_le _) d_Db_leastFree_2 ?_
  obtain ⟨b0, hb0⟩ : ∃ b0 : Nat, b0 = (max a 4).toNat := ⟨_, rfl⟩
  have hb1 : b0 < 2147483648 := by omega
  refine W.eq (g2 := F0 m 5 ls [.int (nI b0)]) (by congr 3; rcases Int.lt_or_le a 4 with q | q; rw [if_pos (Int32.lt_iff_toInt_lt.mpr (by rw [hx_a, nI_toInt (by decide)]; exact q)), show b0 = 4 by omega]; rw [if_neg (fun w => absurd (Int32.lt_iff_toInt_lt.mp w) (by rw [hx_a, nI_toInt (by decide)]; omega))]; exact z_i (by rw [hx_a]; omega) (by omega)) ?_
  refine lv_istore_n (lv' := [(2, .int (nI b0)), (0, .ref (ad 1)), (1, .int x_a)]) hx hb d_Db_leastFree_5 rfl hl (by decide) rfl (fun ls hl => ?_)
  have loop6 : ∀ (n9 : Nat) (b : Nat), 128 - b < n9 → b < 2147483648 → db_lf tk (128 - (max a 4).toNat) (max a 4).toNat = db_lf tk (128 - b) b → ∀ ls : Array Slot, lv_has ls 3 [(0, .ref (ad 1)), (1, .int x_a), (2, .int (nI b))] → W p l e (headSpec (Cond.code y_Db_leastFree c_Db_leastFree 3 (some .int) :: wA) (rmk 2 0 0)).room s m ([.ref (ad 1), .int x_a] : List Value).toArray below meth c s.heap [] 0 0 (MQ below (QcRead (nI (db_lf tk (128 - (max a 4).toNat) (max a 4).toNat))) ([.ref (ad 1), .int x_a] : List Value).toArray s 0 0 (fun _ => False)) (F0 m 6 ls []) := by
    intro n9
    induction n9 with
    | zero => intro b h8 h9 h10 ls hl; exact absurd h8 (by omega)
    | succ n9 ih =>
      intro b h8 h9 h10 ls hl
      refine lv_iload_n hx hb d_Db_leastFree_6 rfl (lv_at hl 2 rfl) ?_
      refine lv_sipush (v := nI 128) hx hb d_Db_leastFree_7 (by decide) ?_
      refine ln_icmp_ge (tgt := 30) hx hb (by omega) (by omega) d_Db_leastFree_10 (by decide) (fun c_1 => ?_) (fun c_1 => ?_)
      · skip
        refine lv_iconst (v := nI 0) hx hb d_Db_leastFree_30 (by decide) ?_
        exact W.iret (v := nI 0) hx hb hr (fun t9 ht hW => ⟨congrArg (fun z => Outcome.returned (some (Value.int z))) (show nI 0 = (nI (db_lf tk (128 - (max a 4).toNat) (max a 4).toNat)) from (congrArg nI (by rw [h10]; first | (rw [show 128 - b = 0 by omega]; rfl) | (rw [show 128 - b = 127 - b + 1 by omega, db_lf, if_pos (by assumption)])))), ht⟩) (fun q h => nomatch h) d_Db_leastFree_31
      · skip
        refine lv_aload_n hx hb d_Db_leastFree_13 rfl (lv_at hl 0 rfl) ?_
        refine va_get (D := D) (ci := 1) (v := .ref (ad 8)) (C := R_Db) (T := T_Db) (N := 3) hx hb hts u_Db hown hK hP 1 rfl rfl 1 (by decide) (hts _ w_54) (fun _ h9 => h9) rfl d_Db_leastFree_14 ?_
        refine lv_iload_n hx hb d_Db_leastFree_17 rfl (lv_at hl 2 rfl) ?_
        refine ln_zald hx hb hK hP 8 1 rfl rfl (by omega) (by decide) d_Db_leastFree_18 ?_
        refine lv_if_ne (tgt := 24) hx hb d_Db_leastFree_19 (by decide) (fun c_2 => ?_) (fun c_2 => ?_)
        · skip
          refine lv_iinc (v := nI (b + 1)) (lv' := [(2, .int (nI (b + 1))), (0, .ref (ad 1)), (1, .int x_a)]) hx hb d_Db_leastFree_24 hl (k := 2) rfl (ln_inc (by decide)) (by decide) rfl (fun ls hl => ?_)
          refine lv_goto (tgt := 6) hx hb d_Db_leastFree_27 (by decide) ?_
          exact ih (b + 1) (by omega) (by omega) (by rw [h10, show 128 - b = 127 - b + 1 by omega, db_lf, if_neg (by assumption), show 128 - (b + 1) = 127 - b by omega]) ls (lv_sub hl [1, 2, 0] rfl)
        · skip
          refine lv_iload_n hx hb d_Db_leastFree_22 rfl (lv_at hl 2 rfl) ?_
          exact W.iret (v := nI b) hx hb hr (fun t9 ht hW => ⟨congrArg (fun z => Outcome.returned (some (Value.int z))) (show nI b = (nI (db_lf tk (128 - (max a 4).toNat) (max a 4).toNat)) from (congrArg nI (by rw [h10]; first | (rw [show 128 - b = 0 by omega]; rfl) | (rw [show 128 - b = 127 - b + 1 by omega, db_lf, if_pos (by assumption)])))), ht⟩) (fun q h => nomatch h) d_Db_leastFree_23
  exact loop6 129 b0 (by omega) (by omega) (by rw [hb0]) ls (lv_sub hl [1, 2, 0] rfl)
theorem m_Db_hasSpan : mV R_Db y_Db_hasSpan (Cond.code y_Db_hasSpan c_Db_hasSpan 4 (some .boolean)) 3 := ⟨⟨w_381, wp_8, w_3, w_382⟩, by decide +kernel⟩
set_option maxHeartbeats 4000000 in
set_option maxRecDepth 100000 in
theorem k_Db_hasSpan (l : Launch) {D : va_G} {ct : Nat → ClassId} {ad : Nat → Nat} {B : Nat → Int32} {g : Nat → Option Nat} {tk : Nat → Int32} {fr : Int32} {LP : List Nat} {pr : Nat → Nat → Int32} {b : Int} {x_b : Int32} (hx_b : x_b.toInt = b) {u : Int} {x_u : Int32} (hx_u : x_u.toInt = u) {v : Int} {x_v : Int32} (hx_v : x_v.toInt = v)  : Met l y_Db_hasSpan (Cond.code y_Db_hasSpan c_Db_hasSpan 4 (some .boolean) :: wA) (rmk 1 0 0) (va_Pc [.ref (ad 1), .int x_b, .int x_u, .int x_v] (cR D (tyC ct) (wsC ct ad B g tk fr LP pr))) (QcRead (bI (0 ≤ b ∧ b < 128 ∧ g b.toNat ≠ none ∧ 0 ≤ u ∧ u ≤ v ∧ v ≤ 1024))) 0 0 (fun _ => False) := by
  refine Met.ofW (cc := c_Db_hasSpan) (maxL := 4) (ret := (some .boolean)) (by decide +kernel) rfl ?_
  intro p e s m args below meth c s₁ B0 hml hv
  obtain ⟨rfl, hP, hK⟩ := hv
  have hx := B0.exec
  have hb := B0.bytes
  have hr := B0.returns
  have hts := fun w (h : w ∈ wA) => atoms_spec (ws := Cond.code y_Db_hasSpan c_Db_hasSpan 4 (some .boolean) :: wA) B0.pre w (List.mem_cons_of_mem _ h)
  have hown : s.vm.findClass R_Db = some m.cls := findClass_of_methodNamed B0.named
  have hlocks := B0.notSynchronized
  have hl := lv_entry ([.ref (ad 1), .int x_b, .int x_u, .int x_v]) (n := 4) (Nat.le_of_ble_eq_true rfl)
  rw [lg_entry_eq]
  generalize (lg_sl ([.ref (ad 1), .int x_b, .int x_u, .int x_v]) ++ List.replicate (4 - (lg_sl ([.ref (ad 1), .int x_b, .int x_u, .int x_v])).length) Slot.unset).toArray = ls at hl ⊢
  have hl : lv_has ls 4 [(0, .ref (ad 1)), (1, .int x_b), (2, .int x_u), (3, .int x_v)] := hl
  have hf_b := z_lt x_b
  have hg_b := z_ge x_b
  rw [hx_b] at hf_b hg_b
  have hf_u := z_lt x_u
  have hg_u := z_ge x_u
  rw [hx_u] at hf_u hg_u
  have hf_v := z_lt x_v
  have hg_v := z_ge x_v
  rw [hx_v] at hf_v hg_v
  refine lv_iload_n hx hb d_Db_hasSpan_0 rfl (lv_at hl 1 rfl) ?_
  refine lz_if_lt (tgt := 40) hx hb hx_b d_Db_hasSpan_1 (by decide) (fun c_1 => ?_) (fun c_1 => ?_)
  · skip
    refine lv_iconst (v := nI 0) hx hb d_Db_hasSpan_40 (by decide) ?_
    exact W.zret (ty := .boolean) (v := nI 0) hx hb hr rfl (fun t9 ht hW => ⟨congrArg (fun z => Outcome.returned (some (Value.int z))) (show nI 0 = (bI (0 ≤ b ∧ b < 128 ∧ g b.toNat ≠ none ∧ 0 ≤ u ∧ u ≤ v ∧ v ≤ 1024)) from (by first | exact bI_t ⟨by omega, by omega, (by rw [Int.toNat_natCast, y_3e]; exact fun q => by cases q), by omega, by omega, by omega⟩ | exact bI_f (fun q => absurd q (by omega)) | exact bI_f (fun q => q.2.2.1 (by rw [Int.toNat_natCast]; assumption)))), ht⟩) (fun q h => nomatch h) d_Db_hasSpan_41
  · skip
    refine lv_iload_n hx hb d_Db_hasSpan_4 rfl (lv_at hl 1 rfl) ?_
    refine lv_sipush (v := nI 128) hx hb d_Db_hasSpan_5 (by decide) ?_
    refine lz_icmp_ge (tgt := 40) hx hb hx_b (nI_toInt (by omega)) d_Db_hasSpan_8 (by decide) (fun c_2 => ?_) (fun c_2 => ?_)
    · skip
      refine lv_iconst (v := nI 0) hx hb d_Db_hasSpan_40 (by decide) ?_
      exact W.zret (ty := .boolean) (v := nI 0) hx hb hr rfl (fun t9 ht hW => ⟨congrArg (fun z => Outcome.returned (some (Value.int z))) (show nI 0 = (bI (0 ≤ b ∧ b < 128 ∧ g b.toNat ≠ none ∧ 0 ≤ u ∧ u ≤ v ∧ v ≤ 1024)) from (by first | exact bI_t ⟨by omega, by omega, (by rw [Int.toNat_natCast, y_3e]; exact fun q => by cases q), by omega, by omega, by omega⟩ | exact bI_f (fun q => absurd q (by omega)) | exact bI_f (fun q => q.2.2.1 (by rw [Int.toNat_natCast]; assumption)))), ht⟩) (fun q h => nomatch h) d_Db_hasSpan_41
    · skip
      obtain ⟨k, rfl⟩ := Int.eq_ofNat_of_zero_le (show 0 ≤ b by omega)
      obtain rfl : x_b = nI k := z_i hx_b (by omega)
      refine lv_aload_n hx hb d_Db_hasSpan_11 rfl (lv_at hl 0 rfl) ?_
      refine va_get (D := D) (ci := 1) (v := .ref (ad 7)) (C := R_Db) (T := T_Db) (N := 3) hx hb hts u_Db hown hK hP 1 rfl rfl 0 (by decide) (hts _ w_53) (fun _ h9 => h9) rfl d_Db_hasSpan_12 ?_
      refine lv_iload_n hx hb d_Db_hasSpan_15 rfl (lv_at hl 1 rfl) ?_
      refine ln_aald hx hb hK hP 7 2 rfl rfl (by omega) (by decide) d_Db_hasSpan_16 ?_
      rcases y_3e : g k with _ | y_3
      · skip
        refine lv_ifnullN (tgt := 40) hx hb d_Db_hasSpan_17 (by decide) ?_
        refine lv_iconst (v := nI 0) hx hb d_Db_hasSpan_40 (by decide) ?_
        exact W.zret (ty := .boolean) (v := nI 0) hx hb hr rfl (fun t9 ht hW => ⟨congrArg (fun z => Outcome.returned (some (Value.int z))) (show nI 0 = (bI (0 ≤ ((k : Nat) : Int) ∧ ((k : Nat) : Int) < 128 ∧ g ((k : Nat) : Int).toNat ≠ none ∧ 0 ≤ u ∧ u ≤ v ∧ v ≤ 1024)) from (by first | exact bI_t ⟨by omega, by omega, (by rw [Int.toNat_natCast, y_3e]; exact fun q => by cases q), by omega, by omega, by omega⟩ | exact bI_f (fun q => absurd q (by omega)) | exact bI_f (fun q => q.2.2.1 (by rw [Int.toNat_natCast]; assumption)))), ht⟩) (fun q h => nomatch h) d_Db_hasSpan_41
      · skip
        refine lv_ifnull hx hb d_Db_hasSpan_17 ?_
        refine lv_iload_n hx hb d_Db_hasSpan_20 rfl (lv_at hl 2 rfl) ?_
        refine lz_if_lt (tgt := 40) hx hb hx_u d_Db_hasSpan_21 (by decide) (fun c_4 => ?_) (fun c_4 => ?_)
        · skip
          refine lv_iconst (v := nI 0) hx hb d_Db_hasSpan_40 (by decide) ?_
          exact W.zret (ty := .boolean) (v := nI 0) hx hb hr rfl (fun t9 ht hW => ⟨congrArg (fun z => Outcome.returned (some (Value.int z))) (show nI 0 = (bI (0 ≤ ((k : Nat) : Int) ∧ ((k : Nat) : Int) < 128 ∧ g ((k : Nat) : Int).toNat ≠ none ∧ 0 ≤ u ∧ u ≤ v ∧ v ≤ 1024)) from (by first | exact bI_t ⟨by omega, by omega, (by rw [Int.toNat_natCast, y_3e]; exact fun q => by cases q), by omega, by omega, by omega⟩ | exact bI_f (fun q => absurd q (by omega)) | exact bI_f (fun q => q.2.2.1 (by rw [Int.toNat_natCast]; assumption)))), ht⟩) (fun q h => nomatch h) d_Db_hasSpan_41
        · skip
          refine lv_iload_n hx hb d_Db_hasSpan_24 rfl (lv_at hl 2 rfl) ?_
          refine lv_iload_n hx hb d_Db_hasSpan_25 rfl (lv_at hl 3 rfl) ?_
          refine lz_icmp_gt (tgt := 40) hx hb hx_u hx_v d_Db_hasSpan_26 (by decide) (fun c_5 => ?_) (fun c_5 => ?_)
          · skip
            refine lv_iconst (v := nI 0) hx hb d_Db_hasSpan_40 (by decide) ?_
            exact W.zret (ty := .boolean) (v := nI 0) hx hb hr rfl (fun t9 ht hW => ⟨congrArg (fun z => Outcome.returned (some (Value.int z))) (show nI 0 = (bI (0 ≤ ((k : Nat) : Int) ∧ ((k : Nat) : Int) < 128 ∧ g ((k : Nat) : Int).toNat ≠ none ∧ 0 ≤ u ∧ u ≤ v ∧ v ≤ 1024)) from (by first | exact bI_t ⟨by omega, by omega, (by rw [Int.toNat_natCast, y_3e]; exact fun q => by cases q), by omega, by omega, by omega⟩ | exact bI_f (fun q => absurd q (by omega)) | exact bI_f (fun q => q.2.2.1 (by rw [Int.toNat_natCast]; assumption)))), ht⟩) (fun q h => nomatch h) d_Db_hasSpan_41
          · skip
            refine lv_iload_n hx hb d_Db_hasSpan_29 rfl (lv_at hl 3 rfl) ?_
            refine lv_sipush (v := nI 1024) hx hb d_Db_hasSpan_30 (by decide) ?_
            refine lz_icmp_gt (tgt := 40) hx hb hx_v (nI_toInt (by omega)) d_Db_hasSpan_33 (by decide) (fun c_6 => ?_) (fun c_6 => ?_)
            · skip
              refine lv_iconst (v := nI 0) hx hb d_Db_hasSpan_40 (by decide) ?_
              exact W.zret (ty := .boolean) (v := nI 0) hx hb hr rfl (fun t9 ht hW => ⟨congrArg (fun z => Outcome.returned (some (Value.int z))) (show nI 0 = (bI (0 ≤ ((k : Nat) : Int) ∧ ((k : Nat) : Int) < 128 ∧ g ((k : Nat) : Int).toNat ≠ none ∧ 0 ≤ u ∧ u ≤ v ∧ v ≤ 1024)) from (by first | exact bI_t ⟨by omega, by omega, (by rw [Int.toNat_natCast, y_3e]; exact fun q => by cases q), by omega, by omega, by omega⟩ | exact bI_f (fun q => absurd q (by omega)) | exact bI_f (fun q => q.2.2.1 (by rw [Int.toNat_natCast]; assumption)))), ht⟩) (fun q h => nomatch h) d_Db_hasSpan_41
            · skip
              refine lv_iconst (v := nI 1) hx hb d_Db_hasSpan_36 (by decide) ?_
              refine lv_goto (tgt := 41) hx hb d_Db_hasSpan_37 (by decide) ?_
              exact W.zret (ty := .boolean) (v := nI 1) hx hb hr rfl (fun t9 ht hW => ⟨congrArg (fun z => Outcome.returned (some (Value.int z))) (show nI 1 = (bI (0 ≤ ((k : Nat) : Int) ∧ ((k : Nat) : Int) < 128 ∧ g ((k : Nat) : Int).toNat ≠ none ∧ 0 ≤ u ∧ u ≤ v ∧ v ≤ 1024)) from (by first | exact bI_t ⟨by omega, by omega, (by rw [Int.toNat_natCast, y_3e]; exact fun q => by cases q), by omega, by omega, by omega⟩ | exact bI_f (fun q => absurd q (by omega)) | exact bI_f (fun q => q.2.2.1 (by rw [Int.toNat_natCast]; assumption)))), ht⟩) (fun q h => nomatch h) d_Db_hasSpan_41
theorem m_Db_byteAt : mV R_Db y_Db_byteAt (Cond.code y_Db_byteAt c_Db_byteAt 3 (some .int)) 2 := ⟨⟨w_482, w_483, w_3, w_484⟩, by decide +kernel⟩
set_option maxHeartbeats 4000000 in
set_option maxRecDepth 100000 in
theorem k_Db_byteAt (l : Launch) {D : va_G} {ct : Nat → ClassId} {ad : Nat → Nat} {B : Nat → Int32} {g : Nat → Option Nat} {tk : Nat → Int32} {fr : Int32} {LP : List Nat} {pr : Nat → Nat → Int32} {b : Int} {x_b : Int32} (hx_b : x_b.toInt = b) {i : Nat} (h0 : gOK g LP) (h1 : i < 1024) : Met l y_Db_byteAt (Cond.code y_Db_byteAt c_Db_byteAt 3 (some .int) :: wA) (rmk 2 0 0) (va_Pc [.ref (ad 1), .int x_b, .int (nI i)] (cR D (tyC ct) (wsC ct ad B g tk fr LP pr))) (QcRead (db_at g pr b i)) 0 0 (fun _ => False) := by
  refine Met.ofW (cc := c_Db_byteAt) (maxL := 3) (ret := (some .int)) (by decide +kernel) rfl ?_
  intro p e s m args below meth c s₁ B0 hml hv
  obtain ⟨rfl, hP, hK⟩ := hv
  have hx := B0.exec
  have hb := B0.bytes
  have hr := B0.returns
  have hts := fun w (h : w ∈ wA) => atoms_spec (ws := Cond.code y_Db_byteAt c_Db_byteAt 3 (some .int) :: wA) B0.pre w (List.mem_cons_of_mem _ h)
  have hown : s.vm.findClass R_Db = some m.cls := findClass_of_methodNamed B0.named
  have hlocks := B0.notSynchronized
  have hl := lv_entry ([.ref (ad 1), .int x_b, .int (nI i)]) (n := 3) (Nat.le_of_ble_eq_true rfl)
  rw [lg_entry_eq]
  generalize (lg_sl ([.ref (ad 1), .int x_b, .int (nI i)]) ++ List.replicate (3 - (lg_sl ([.ref (ad 1), .int x_b, .int (nI i)])).length) Slot.unset).toArray = ls at hl ⊢
  have hl : lv_has ls 3 [(0, .ref (ad 1)), (1, .int x_b), (2, .int (nI i))] := hl
  have hf_b := z_lt x_b
  have hg_b := z_ge x_b
  rw [hx_b] at hf_b hg_b
  have hg9 := h0
  refine lv_aload_n hx hb d_Db_byteAt_0 rfl (lv_at hl 0 rfl) ?_
  refine lv_iload_n hx hb d_Db_byteAt_1 rfl (lv_at hl 1 rfl) ?_
  refine lv_iload_n hx hb d_Db_byteAt_2 rfl (lv_at hl 2 rfl) ?_
  refine lv_iload_n hx hb d_Db_byteAt_3 rfl (lv_at hl 2 rfl) ?_
  refine lv_iconst (v := nI 1) hx hb d_Db_byteAt_4 (by decide) ?_
  refine ln_iadd hx hb d_Db_byteAt_5 ?_
  refine rdV ⟨hx, hb, hml, hown, hts⟩ hK hP (k_Db_hasSpan l (b := b) (x_b := x_b) (u := ((i : Nat) : Int)) (x_u := (nI i)) (v := ((i + 1 : Nat) : Int)) (x_v := (nI (i + 1))) hx_b (nI_toInt (by omega)) (nI_toInt (by omega)) ) w_379 m_Db_hasSpan ⟨by decide, by decide⟩ 1 rfl rfl rfl hl.1 rfl (Nat.le_of_ble_eq_true rfl) d_Db_byteAt_6 ⟨Nat.zero_le _, Nat.zero_le _⟩ ?_
  refine lb_if_eq (tgt := 27) hx hb d_Db_byteAt_9 (by decide) (fun c_1 => ?_) (fun c_1 => ?_)
  · skip
    refine lv_iconst (v := nI 0) hx hb d_Db_byteAt_27 (by decide) ?_
    exact W.iret (v := nI 0) hx hb hr (fun t9 ht hW => ⟨congrArg (fun z => Outcome.returned (some (Value.int z))) (show nI 0 = (db_at g pr b i) from (by unfold db_at; first | (rw [if_neg (by omega), Int.toNat_natCast, hy]; done) | skip; rcases Decidable.em (b < 0 ∨ 128 ≤ b) with q | q; rw [if_pos q]; rw [if_neg q]; rcases h9 : g b.toNat with _ | y; rfl; exact absurd ⟨by omega, by omega, (by rw [h9]; exact fun q => by cases q), by omega, by omega, by omega⟩ c_1)), ht⟩) (fun q h => nomatch h) d_Db_byteAt_28
  · skip
    obtain ⟨p1, p2, p3, -⟩ := c_1
    obtain ⟨k, rfl⟩ := Int.eq_ofNat_of_zero_le (show 0 ≤ b by omega)
    obtain rfl : x_b = nI k := z_i hx_b (by omega)
    rw [Int.toNat_natCast] at p3
    obtain ⟨y, hy⟩ := Option.ne_none_iff_exists'.mp p3
    obtain ⟨k9, hk9⟩ := wsC_row (ct := ct) (ad := ad) (B := B) (g := g) (tk := tk) (fr := fr) (pr := pr) (hg9 k y (by omega) hy)
    refine lv_aload_n hx hb d_Db_byteAt_12 rfl (lv_at hl 0 rfl) ?_
    refine va_get (D := D) (ci := 1) (v := .ref (ad 7)) (C := R_Db) (T := T_Db) (N := 3) hx hb hts u_Db hown hK hP 1 rfl rfl 0 (by decide) (hts _ w_53) (fun _ h9 => h9) rfl d_Db_byteAt_13 ?_
    refine lv_iload_n hx hb d_Db_byteAt_16 rfl (lv_at hl 1 rfl) ?_
    refine ln_aald hx hb hK hP 7 2 rfl rfl (by omega) (by decide) d_Db_byteAt_17 ?_
    refine W.eq (g2 := F0 m 18 ls [.ref y]) (by rw [hy]; rfl) ?_
    refine lv_iload_n hx hb d_Db_byteAt_18 rfl (lv_at hl 2 rfl) ?_
    refine ln_bald hx hb hK hP k9 0 hk9 rfl (by omega) (by decide) d_Db_byteAt_19 ?_
    refine lv_sipush (v := nI 255) hx hb d_Db_byteAt_20 (by decide) ?_
    refine lv_iand hx hb d_Db_byteAt_23 ?_
    refine lv_goto (tgt := 28) hx hb d_Db_byteAt_24 (by decide) ?_
    exact W.iret (v := (pr y i) &&& (nI 255)) hx hb hr (fun t9 ht hW => ⟨congrArg (fun z => Outcome.returned (some (Value.int z))) (show (pr y i) &&& (nI 255) = (db_at g pr ((k : Nat) : Int) i) from (by unfold db_at; first | (rw [if_neg (by omega), Int.toNat_natCast, hy]; done) | skip; rcases Decidable.em (b < 0 ∨ 128 ≤ b) with q | q; rw [if_pos q]; rw [if_neg q]; rcases h9 : g b.toNat with _ | y; rfl; exact absurd ⟨by omega, by omega, (by rw [h9]; exact fun q => by cases q), by omega, by omega, by omega⟩ c_1)), ht⟩) (fun q h => nomatch h) d_Db_byteAt_28
theorem m_Ma_floorMod : mS y_Ma_floorMod (Cond.code y_Ma_floorMod c_Ma_floorMod 3 (some .int)) 2 := ⟨⟨w_347, w_13, w_348⟩, by decide +kernel⟩
set_option maxHeartbeats 4000000 in
set_option maxRecDepth 100000 in
theorem k_Ma_floorMod (l : Launch) {D : va_G} {ct : Nat → ClassId} {ad : Nat → Nat} {B : Nat → Int32} {g : Nat → Option Nat} {tk : Nat → Int32} {fr : Int32} {LP : List Nat} {pr : Nat → Nat → Int32} {x : Int32} {y : Int32} (h0 : ¬ y = 0) : Met l y_Ma_floorMod (Cond.code y_Ma_floorMod c_Ma_floorMod 3 (some .int) :: wA) (rmk 1 0 0) (va_Pc [.int x, .int y] (cR D (tyC ct) (wsC ct ad B g tk fr LP pr))) (QcRead (ma_fm x y)) 0 0 (fun _ => False) := by
  refine va_MetF (cc := c_Ma_floorMod) (maxL := 3) (ret := (some .int)) (by decide +kernel) rfl ?_
  intro p e s m args below meth c s₁ B0 hml hv
  obtain ⟨rfl, hP, hK⟩ := hv
  have hx := B0.exec
  have hb := B0.bytes
  have hr := B0.returns
  have hts := fun w (h : w ∈ wA) => atoms_spec (ws := Cond.code y_Ma_floorMod c_Ma_floorMod 3 (some .int) :: wA) B0.pre w (List.mem_cons_of_mem _ h)
  have hown : s.vm.findClass R_Ma = some m.cls := findClass_of_methodNamed B0.named
  have hlocks := B0.notSynchronized
  have hl := lv_entry ([.int x, .int y]) (n := 3) (Nat.le_of_ble_eq_true rfl)
  rw [lg_entry_eq]
  generalize (lg_sl ([.int x, .int y]) ++ List.replicate (3 - (lg_sl ([.int x, .int y])).length) Slot.unset).toArray = ls at hl ⊢
  have hl : lv_has ls 3 [(0, .int x), (1, .int y)] := hl
  refine lv_iload_n hx hb d_Ma_floorMod_0 rfl (lv_at hl 0 rfl) ?_
  refine lv_iload_n hx hb d_Ma_floorMod_1 rfl (lv_at hl 1 rfl) ?_
  refine lv_irem hx hb d_Ma_floorMod_2 h0 ?_
  refine lv_istore_n (lv' := [(2, .int (x - x / y * y)), (0, .int x), (1, .int y)]) hx hb d_Ma_floorMod_3 rfl hl (by decide) rfl (fun ls hl => ?_)
  refine lv_iload_n hx hb d_Ma_floorMod_4 rfl (lv_at hl 1 rfl) ?_
  refine lv_iload_n hx hb d_Ma_floorMod_5 rfl (lv_at hl 2 rfl) ?_
  refine lv_ixor hx hb d_Ma_floorMod_6 ?_
  refine lv_if_ge (tgt := 18) hx hb d_Ma_floorMod_7 (by decide) (fun c_1 => ?_) (fun c_1 => ?_)
  · skip
    refine lv_iload_n hx hb d_Ma_floorMod_18 rfl (lv_at hl 0 rfl) ?_
    exact W.iret (v := x - x / y * y) hx hb hr (fun t9 ht hW => ⟨congrArg (fun z => Outcome.returned (some (Value.int z))) (show x - x / y * y = (ma_fm x y) from (by unfold ma_fm; first | (rw [if_pos c_1]; done) | (rw [if_neg c_1, if_pos c_2]; done) | (rw [if_neg c_1, if_neg c_2]; done))), ht⟩) (fun q h => nomatch h) d_Ma_floorMod_19
  · skip
    refine lv_iload_n hx hb d_Ma_floorMod_10 rfl (lv_at hl 0 rfl) ?_
    refine lv_if_eq (tgt := 18) hx hb d_Ma_floorMod_11 (by decide) (fun c_2 => ?_) (fun c_2 => ?_)
    · skip
      refine lv_iload_n hx hb d_Ma_floorMod_18 rfl (lv_at hl 0 rfl) ?_
      exact W.iret (v := x - x / y * y) hx hb hr (fun t9 ht hW => ⟨congrArg (fun z => Outcome.returned (some (Value.int z))) (show x - x / y * y = (ma_fm x y) from (by unfold ma_fm; first | (rw [if_pos c_1]; done) | (rw [if_neg c_1, if_pos c_2]; done) | (rw [if_neg c_1, if_neg c_2]; done))), ht⟩) (fun q h => nomatch h) d_Ma_floorMod_19
    · skip
      refine lv_iload_n hx hb d_Ma_floorMod_14 rfl (lv_at hl 0 rfl) ?_
      refine lv_iload_n hx hb d_Ma_floorMod_15 rfl (lv_at hl 2 rfl) ?_
      refine lv_iadd hx hb d_Ma_floorMod_16 ?_
      exact W.iret (v := (x - x / y * y) + y) hx hb hr (fun t9 ht hW => ⟨congrArg (fun z => Outcome.returned (some (Value.int z))) (show (x - x / y * y) + y = (ma_fm x y) from (by unfold ma_fm; first | (rw [if_pos c_1]; done) | (rw [if_neg c_1, if_pos c_2]; done) | (rw [if_neg c_1, if_neg c_2]; done))), ht⟩) (fun q h => nomatch h) d_Ma_floorMod_17
theorem m_Bo_targetByte : mS y_Bo_targetByte (Cond.code y_Bo_targetByte c_Bo_targetByte 2 (some .int)) 2 := ⟨⟨w_344, w_6, w_345⟩, by decide +kernel⟩
set_option maxHeartbeats 4000000 in
set_option maxRecDepth 100000 in
theorem k_Bo_targetByte (l : Launch) {D : va_G} {ct : Nat → ClassId} {ad : Nat → Nat} {B : Nat → Int32} {g : Nat → Option Nat} {tk : Nat → Int32} {fr : Int32} {LP : List Nat} {pr : Nat → Nat → Int32} {x : Int32} {i : Nat}  : Met l y_Bo_targetByte (Cond.code y_Bo_targetByte c_Bo_targetByte 2 (some .int) :: wA) (rmk 2 0 0) (va_Pc [.int x, .int (nI i)] (cR D (tyC ct) (wsC ct ad B g tk fr LP pr))) (QcRead (bo_tb x i)) 0 0 (fun _ => False) := by
  refine Met.ofW (cc := c_Bo_targetByte) (maxL := 2) (ret := (some .int)) (by decide +kernel) rfl ?_
  intro p e s m args below meth c s₁ B0 hml hv
  obtain ⟨rfl, hP, hK⟩ := hv
  have hx := B0.exec
  have hb := B0.bytes
  have hr := B0.returns
  have hts := fun w (h : w ∈ wA) => atoms_spec (ws := Cond.code y_Bo_targetByte c_Bo_targetByte 2 (some .int) :: wA) B0.pre w (List.mem_cons_of_mem _ h)
  have hown : s.vm.findClass R_Bo = some m.cls := findClass_of_methodNamed B0.named
  have hlocks := B0.notSynchronized
  have hl := lv_entry ([.int x, .int (nI i)]) (n := 2) (Nat.le_of_ble_eq_true rfl)
  rw [lg_entry_eq]
  generalize (lg_sl ([.int x, .int (nI i)]) ++ List.replicate (2 - (lg_sl ([.int x, .int (nI i)])).length) Slot.unset).toArray = ls at hl ⊢
  have hl : lv_has ls 2 [(0, .int x), (1, .int (nI i))] := hl
  refine lv_iconst (v := nI 1) hx hb d_Bo_targetByte_0 (by decide) ?_
  refine lv_iload_n hx hb d_Bo_targetByte_1 rfl (lv_at hl 0 rfl) ?_
  refine lv_iload_n hx hb d_Bo_targetByte_2 rfl (lv_at hl 1 rfl) ?_
  refine lv_iadd hx hb d_Bo_targetByte_3 ?_
  refine lv_sipush (v := nI 255) hx hb d_Bo_targetByte_4 (by decide) ?_
  refine rdS ⟨hx, hb, hml, hown, hts⟩ hK hP (k_Ma_floorMod l (x := (x + (nI i))) (y := (nI 255)) (by decide)) w_346 m_Ma_floorMod ⟨by decide, by decide⟩ rfl hl.1 rfl (Nat.le_of_ble_eq_true rfl) d_Bo_targetByte_7 ⟨Nat.zero_le _, Nat.zero_le _⟩ ?_
  refine lv_iadd hx hb d_Bo_targetByte_10 ?_
  exact W.iret (v := (nI 1) + (ma_fm (x + (nI i)) (nI 255))) hx hb hr (fun t9 ht hW => ⟨congrArg (fun z => Outcome.returned (some (Value.int z))) (show (nI 1) + (ma_fm (x + (nI i)) (nI 255)) = (bo_tb x i) from rfl), ht⟩) (fun q h => nomatch h) d_Bo_targetByte_11
theorem m_Bo_lastPiece : mS y_Bo_lastPiece (Cond.code y_Bo_lastPiece c_Bo_lastPiece 2 (some .int)) 2 := ⟨⟨w_411, w_6, w_412⟩, by decide +kernel⟩
set_option maxHeartbeats 4000000 in
set_option maxRecDepth 100000 in
theorem k_Bo_lastPiece (l : Launch) {D : va_G} {ct : Nat → ClassId} {ad : Nat → Nat} {B : Nat → Int32} {g : Nat → Option Nat} {tk : Nat → Int32} {fr : Int32} {LP : List Nat} {pr : Nat → Nat → Int32} {a : Nat} {n : Nat} (h0 : a + n < 2147483648) (h1 : 1 ≤ n) : Met l y_Bo_lastPiece (Cond.code y_Bo_lastPiece c_Bo_lastPiece 2 (some .int) :: wA) (rmk 1 0 0) (va_Pc [.int (nI a), .int (nI n)] (cR D (tyC ct) (wsC ct ad B g tk fr LP pr))) (QcRead (nI ((a + n - 1) / 1024))) 0 0 (fun _ => False) := by
  refine Met.ofW (cc := c_Bo_lastPiece) (maxL := 2) (ret := (some .int)) (by decide +kernel) rfl ?_
  intro p e s m args below meth c s₁ B0 hml hv
  obtain ⟨rfl, hP, hK⟩ := hv
  have hx := B0.exec
  have hb := B0.bytes
  have hr := B0.returns
  have hts := fun w (h : w ∈ wA) => atoms_spec (ws := Cond.code y_Bo_lastPiece c_Bo_lastPiece 2 (some .int) :: wA) B0.pre w (List.mem_cons_of_mem _ h)
  have hown : s.vm.findClass R_Bo = some m.cls := findClass_of_methodNamed B0.named
  have hlocks := B0.notSynchronized
  have hl := lv_entry ([.int (nI a), .int (nI n)]) (n := 2) (Nat.le_of_ble_eq_true rfl)
  rw [lg_entry_eq]
  generalize (lg_sl ([.int (nI a), .int (nI n)]) ++ List.replicate (2 - (lg_sl ([.int (nI a), .int (nI n)])).length) Slot.unset).toArray = ls at hl ⊢
  have hl : lv_has ls 2 [(0, .int (nI a)), (1, .int (nI n))] := hl
  refine lv_iload_n hx hb d_Bo_lastPiece_0 rfl (lv_at hl 0 rfl) ?_
  refine lv_iload_n hx hb d_Bo_lastPiece_1 rfl (lv_at hl 1 rfl) ?_
  refine ln_iadd hx hb d_Bo_lastPiece_2 ?_
  refine lv_iconst (v := nI 1) hx hb d_Bo_lastPiece_3 (by decide) ?_
  refine ln_isub hx hb d_Bo_lastPiece_4 (by omega) ?_
  refine lv_sipush (v := nI 1024) hx hb d_Bo_lastPiece_5 (by decide) ?_
  refine ln_idiv hx hb d_Bo_lastPiece_8 (by omega) (by omega) (by omega) ?_
  exact W.iret (v := nI (((a + n) - 1) / 1024)) hx hb hr (fun t9 ht hW => ⟨congrArg (fun z => Outcome.returned (some (Value.int z))) (show nI (((a + n) - 1) / 1024) = (nI ((a + n - 1) / 1024)) from rfl), ht⟩) (fun q h => nomatch h) d_Bo_lastPiece_9
theorem m_Bo_byteAt : mV R_Bo y_Bo_byteAt (Cond.code y_Bo_byteAt c_Bo_byteAt 4 (some .int)) 2 := ⟨⟨w_474, w_475, w_6, w_476⟩, by decide +kernel⟩
set_option maxHeartbeats 4000000 in
set_option maxRecDepth 100000 in
theorem k_Bo_byteAt (l : Launch) {D : va_G} {ct : Nat → ClassId} {ad : Nat → Nat} {B : Nat → Int32} {g : Nat → Option Nat} {tk : Nat → Int32} {fr : Int32} {LP : List Nat} {pr : Nat → Nat → Int32} {f : Nat} {x_f : Int32} (hx_f : x_f.toNatClampNeg = f) {i : Nat} (h0 : gOK g LP) (h1 : i < 2147483648) (h2 : (re_kind B f = nI 3 ∧ ¬ nI 59 < re_f B f 4 4) → i < 60) : Met l y_Bo_byteAt (Cond.code y_Bo_byteAt c_Bo_byteAt 4 (some .int) :: wA) (rmk 5 0 0) (va_Pc [.ref (ad 5), .int x_f, .int (nI i)] (cR D (tyC ct) (wsC ct ad B g tk fr LP pr))) (QcRead (bo_at B g pr f i)) 0 0 (fun _ => False) := by
  refine Met.ofW (cc := c_Bo_byteAt) (maxL := 4) (ret := (some .int)) (by decide +kernel) rfl ?_
  intro p e s m args below meth c s₁ B0 hml hv
  obtain ⟨rfl, hP, hK⟩ := hv
  have hx := B0.exec
  have hb := B0.bytes
  have hr := B0.returns
  have hts := fun w (h : w ∈ wA) => atoms_spec (ws := Cond.code y_Bo_byteAt c_Bo_byteAt 4 (some .int) :: wA) B0.pre w (List.mem_cons_of_mem _ h)
  have hown : s.vm.findClass R_Bo = some m.cls := findClass_of_methodNamed B0.named
  have hlocks := B0.notSynchronized
  have hl := lv_entry ([.ref (ad 5), .int x_f, .int (nI i)]) (n := 4) (Nat.le_of_ble_eq_true rfl)
  rw [lg_entry_eq]
  generalize (lg_sl ([.ref (ad 5), .int x_f, .int (nI i)]) ++ List.replicate (4 - (lg_sl ([.ref (ad 5), .int x_f, .int (nI i)])).length) Slot.unset).toArray = ls at hl ⊢
  have hl : lv_has ls 4 [(0, .ref (ad 5)), (1, .int x_f), (2, .int (nI i))] := hl
  have hf_f : x_f.toInt.toNat = f := hx_f
  have hg_f := z_lt x_f
  have hg9 := h0
  refine lv_aload_n hx hb d_Bo_byteAt_0 rfl (lv_at hl 0 rfl) ?_
  refine va_get (D := D) (ci := 0) (v := .ref (ad 2)) (C := R_Bo) (T := T_Bo) (N := 2) hx hb hts u_Bo hown hK hP 5 rfl rfl 1 (by decide) (hts _ w_94) (fun _ h9 => h9) rfl d_Bo_byteAt_1 ?_
  refine lv_iload_n hx hb d_Bo_byteAt_4 rfl (lv_at hl 1 rfl) ?_
  refine rdV ⟨hx, hb, hml, hown, hts⟩ hK hP (k_Re_hasTarget l (f := f) (x_f := x_f) hx_f ) w_335 m_Re_hasTarget ⟨by decide, by decide⟩ 2 rfl rfl rfl hl.1 rfl (Nat.le_of_ble_eq_true rfl) d_Bo_byteAt_5 ⟨Nat.zero_le _, Nat.zero_le _⟩ ?_
  refine lb_if_eq (tgt := 21) hx hb d_Bo_byteAt_8 (by decide) (fun c_1 => ?_) (fun c_1 => ?_)
  · skip
    refine lv_aload_n hx hb d_Bo_byteAt_21 rfl (lv_at hl 0 rfl) ?_
    refine va_get (D := D) (ci := 0) (v := .ref (ad 2)) (C := R_Bo) (T := T_Bo) (N := 2) hx hb hts u_Bo hown hK hP 5 rfl rfl 1 (by decide) (hts _ w_94) (fun _ h9 => h9) rfl d_Bo_byteAt_22 ?_
    refine lv_iload_n hx hb d_Bo_byteAt_25 rfl (lv_at hl 1 rfl) ?_
    refine lv_iload_n hx hb d_Bo_byteAt_26 rfl (lv_at hl 2 rfl) ?_
    refine lv_sipush (v := nI 1024) hx hb d_Bo_byteAt_27 (by decide) ?_
    refine ln_idiv hx hb d_Bo_byteAt_30 (by omega) (by omega) (by omega) ?_
    refine rdV ⟨hx, hb, hml, hown, hts⟩ hK hP (k_Re_blockOf l (f := f) (x_f := x_f) (z := ((i / 1024 : Nat) : Int)) (x_z := (nI (i / 1024))) hx_f (nI_toInt (by omega)) ) w_182 m_Re_blockOf ⟨by decide, by decide⟩ 2 rfl rfl rfl hl.1 rfl (Nat.le_of_ble_eq_true rfl) d_Bo_byteAt_31 ⟨Nat.zero_le _, Nat.zero_le _⟩ ?_
    refine lv_istore_n (lv' := [(3, .int (re_blk B f ((i / 1024 : Nat) : Int))), (0, .ref (ad 5)), (1, .int x_f), (2, .int (nI i))]) hx hb d_Bo_byteAt_34 rfl hl (by decide) rfl (fun ls hl => ?_)
    refine lv_iload_n hx hb d_Bo_byteAt_35 rfl (lv_at hl 0 rfl) ?_
    refine lv_if_ne (tgt := 43) hx hb d_Bo_byteAt_36 (by decide) (fun c_2 => ?_) (fun c_2 => ?_)
    · skip
      refine lv_aload_n hx hb d_Bo_byteAt_43 rfl (lv_at hl 1 rfl) ?_
      refine va_get (D := D) (ci := 0) (v := .ref (ad 1)) (C := R_Bo) (T := T_Bo) (N := 2) hx hb hts u_Bo hown hK hP 5 rfl rfl 0 (by decide) (hts _ w_93) (fun _ h9 => h9) rfl d_Bo_byteAt_44 ?_
      refine lv_iload_n hx hb d_Bo_byteAt_47 rfl (lv_at hl 0 rfl) ?_
      refine lv_iload_n hx hb d_Bo_byteAt_48 rfl (lv_at hl 3 rfl) ?_
      refine lv_sipush (v := nI 1024) hx hb d_Bo_byteAt_49 (by decide) ?_
      refine ln_irem hx hb d_Bo_byteAt_52 (by omega) (by omega) (by omega) ?_
      refine rdV ⟨hx, hb, hml, hown, hts⟩ hK hP (k_Db_byteAt l (b := ((re_blk B f ((i / 1024 : Nat) : Int)).toInt)) (x_b := (re_blk B f ((i / 1024 : Nat) : Int))) (i := (i % 1024)) rfl hg9 (by omega)) w_481 m_Db_byteAt ⟨by decide, by decide⟩ 1 rfl rfl rfl hl.1 rfl (Nat.le_of_ble_eq_true rfl) d_Bo_byteAt_53 ⟨Nat.zero_le _, Nat.zero_le _⟩ ?_
      exact W.iret (v := db_at g pr ((re_blk B f ((i / 1024 : Nat) : Int)).toInt) (i % 1024)) hx hb hr (fun t9 ht hW => ⟨congrArg (fun z => Outcome.returned (some (Value.int z))) (show db_at g pr ((re_blk B f ((i / 1024 : Nat) : Int)).toInt) (i % 1024) = (bo_at B g pr f i) from (by unfold bo_at; first | (rw [if_pos c_1]; done) | (rw [if_neg c_1, if_pos c_2]; done) | (rw [if_neg c_1, if_neg c_2]; done))), ht⟩) (fun q h => nomatch h) d_Bo_byteAt_56
    · skip
      refine lv_iconst (v := nI 0) hx hb d_Bo_byteAt_39 (by decide) ?_
      refine lv_goto (tgt := 56) hx hb d_Bo_byteAt_40 (by decide) ?_
      exact W.iret (v := nI 0) hx hb hr (fun t9 ht hW => ⟨congrArg (fun z => Outcome.returned (some (Value.int z))) (show nI 0 = (bo_at B g pr f i) from (by unfold bo_at; first | (rw [if_pos c_1]; done) | (rw [if_neg c_1, if_pos c_2]; done) | (rw [if_neg c_1, if_neg c_2]; done))), ht⟩) (fun q h => nomatch h) d_Bo_byteAt_56
  · skip
    refine lv_aload_n hx hb d_Bo_byteAt_11 rfl (lv_at hl 0 rfl) ?_
    refine va_get (D := D) (ci := 0) (v := .ref (ad 2)) (C := R_Bo) (T := T_Bo) (N := 2) hx hb hts u_Bo hown hK hP 5 rfl rfl 1 (by decide) (hts _ w_94) (fun _ h9 => h9) rfl d_Bo_byteAt_12 ?_
    refine lv_iload_n hx hb d_Bo_byteAt_15 rfl (lv_at hl 1 rfl) ?_
    refine lv_iload_n hx hb d_Bo_byteAt_16 rfl (lv_at hl 2 rfl) ?_
    refine rdV ⟨hx, hb, hml, hown, hts⟩ hK hP (k_Re_targetByte l (f := f) (x_f := x_f) (i := i) hx_f (h2 c_1)) w_477 m_Re_targetByte ⟨by decide, by decide⟩ 2 rfl rfl rfl hl.1 rfl (Nat.le_of_ble_eq_true rfl) d_Bo_byteAt_17 ⟨Nat.zero_le _, Nat.zero_le _⟩ ?_
    exact W.iret (v := re_f B f (40 + i) 1) hx hb hr (fun t9 ht hW => ⟨congrArg (fun z => Outcome.returned (some (Value.int z))) (show re_f B f (40 + i) 1 = (bo_at B g pr f i) from (by unfold bo_at; first | (rw [if_pos c_1]; done) | (rw [if_neg c_1, if_pos c_2]; done) | (rw [if_neg c_1, if_neg c_2]; done))), ht⟩) (fun q h => nomatch h) d_Bo_byteAt_20
theorem m_Bo_blocksWanted : mV R_Bo y_Bo_blocksWanted (Cond.code y_Bo_blocksWanted c_Bo_blocksWanted 6 (some .int)) 3 := ⟨⟨w_407, w_408, w_6, w_409⟩, by decide +kernel⟩
set_option maxHeartbeats 4000000 in
set_option maxRecDepth 100000 in
theorem k_Bo_blocksWanted (l : Launch) {D : va_G} {ct : Nat → ClassId} {ad : Nat → Nat} {B : Nat → Int32} {g : Nat → Option Nat} {tk : Nat → Int32} {fr : Int32} {LP : List Nat} {pr : Nat → Nat → Int32} {f : Nat} {x_f : Int32} (hx_f : x_f.toNatClampNeg = f) {a : Nat} {n : Nat} (h0 : a + n ≤ 15360) (h1 : 1 ≤ n) : Met l y_Bo_blocksWanted (Cond.code y_Bo_blocksWanted c_Bo_blocksWanted 6 (some .int) :: wA) (rmk 5 0 0) (va_Pc [.ref (ad 5), .int x_f, .int (nI a), .int (nI n)] (cR D (tyC ct) (wsC ct ad B g tk fr LP pr))) (QcRead (nI (bo_want B f ((a + n - 1) / 1024 + 1 - a / 1024) (a / 1024) 0))) 0 0 (fun _ => False) := by
  refine Met.ofW (cc := c_Bo_blocksWanted) (maxL := 6) (ret := (some .int)) (by decide +kernel) rfl ?_
  intro p e s m args below meth c s₁ B0 hml hv
  obtain ⟨rfl, hP, hK⟩ := hv
  have hx := B0.exec
  have hb := B0.bytes
  have hr := B0.returns
  have hts := fun w (h : w ∈ wA) => atoms_spec (ws := Cond.code y_Bo_blocksWanted c_Bo_blocksWanted 6 (some .int) :: wA) B0.pre w (List.mem_cons_of_mem _ h)
  have hown : s.vm.findClass R_Bo = some m.cls := findClass_of_methodNamed B0.named
  have hlocks := B0.notSynchronized
  have hl := lv_entry ([.ref (ad 5), .int x_f, .int (nI a), .int (nI n)]) (n := 6) (Nat.le_of_ble_eq_true rfl)
  rw [lg_entry_eq]
  generalize (lg_sl ([.ref (ad 5), .int x_f, .int (nI a), .int (nI n)]) ++ List.replicate (6 - (lg_sl ([.ref (ad 5), .int x_f, .int (nI a), .int (nI n)])).length) Slot.unset).toArray = ls at hl ⊢
  have hl : lv_has ls 6 [(0, .ref (ad 5)), (1, .int x_f), (2, .int (nI a)), (3, .int (nI n))] := hl
  have hf_f : x_f.toInt.toNat = f := hx_f
  have hg_f := z_lt x_f
  refine lv_iconst (v := nI 0) hx hb d_Bo_blocksWanted_0 (by decide) ?_
  refine lv_istore (lv' := [(4, .int (nI 0)), (0, .ref (ad 5)), (1, .int x_f), (2, .int (nI a)), (3, .int (nI n))]) hx hb d_Bo_blocksWanted_1 hl (by decide) rfl (fun ls hl => ?_)
  refine lv_iload_n hx hb d_Bo_blocksWanted_3 rfl (lv_at hl 3 rfl) ?_
  refine lv_sipush (v := nI 1024) hx hb d_Bo_blocksWanted_4 (by decide) ?_
  refine ln_idiv hx hb d_Bo_blocksWanted_7 (by omega) (by omega) (by omega) ?_
  refine lv_istore (lv' := [(5, .int (nI (a / 1024))), (4, .int (nI 0)), (0, .ref (ad 5)), (1, .int x_f), (2, .int (nI a)), (3, .int (nI n))]) hx hb d_Bo_blocksWanted_8 hl (by decide) rfl (fun ls hl => ?_)
  have loop10 : ∀ (n9 : Nat) (q : Nat) (w : Nat), (a + n - 1) / 1024 + 1 - q < n9 → q ≤ (a + n - 1) / 1024 + 1 → w ≤ q → bo_want B f ((a + n - 1) / 1024 + 1 - a / 1024) (a / 1024) 0 = bo_want B f ((a + n - 1) / 1024 + 1 - q) q w → ∀ ls : Array Slot, lv_has ls 6 [(0, .ref (ad 5)), (1, .int x_f), (2, .int (nI a)), (3, .int (nI n)), (4, .int (nI w)), (5, .int (nI q))] → W p l e (headSpec (Cond.code y_Bo_blocksWanted c_Bo_blocksWanted 6 (some .int) :: wA) (rmk 5 0 0)).room s m ([.ref (ad 5), .int x_f, .int (nI a), .int (nI n)] : List Value).toArray below meth c s.heap [] 0 0 (MQ below (QcRead (nI (bo_want B f ((a + n - 1) / 1024 + 1 - a / 1024) (a / 1024) 0))) ([.ref (ad 5), .int x_f, .int (nI a), .int (nI n)] : List Value).toArray s 0 0 (fun _ => False)) (F0 m 10 ls []) := by
    intro n9
    induction n9 with
    | zero => intro q w h8 h9 h11 h10 ls hl; exact absurd h8 (by omega)
    | succ n9 ih =>
      intro q w h8 h9 h11 h10 ls hl
      refine lv_iload hx hb d_Bo_blocksWanted_10 (lv_at hl 5 rfl) ?_
      refine lv_iload_n hx hb d_Bo_blocksWanted_12 rfl (lv_at hl 2 rfl) ?_
      refine lv_iload_n hx hb d_Bo_blocksWanted_13 rfl (lv_at hl 3 rfl) ?_
      refine rdS ⟨hx, hb, hml, hown, hts⟩ hK hP (k_Bo_lastPiece l (a := a) (n := n) (by omega) (by omega)) w_410 m_Bo_lastPiece ⟨by decide, by decide⟩ rfl hl.1 rfl (Nat.le_of_ble_eq_true rfl) d_Bo_blocksWanted_14 ⟨Nat.zero_le _, Nat.zero_le _⟩ ?_
      refine ln_icmp_gt (tgt := 42) hx hb (by omega) (by omega) d_Bo_blocksWanted_17 (by decide) (fun c_1 => ?_) (fun c_1 => ?_)
      · skip
        refine lv_iload hx hb d_Bo_blocksWanted_42 (lv_at hl 4 rfl) ?_
        exact W.iret (v := nI w) hx hb hr (fun t9 ht hW => ⟨congrArg (fun z => Outcome.returned (some (Value.int z))) (show nI w = (nI (bo_want B f ((a + n - 1) / 1024 + 1 - a / 1024) (a / 1024) 0)) from (congrArg nI (by rw [h10, show (a + n - 1) / 1024 + 1 - q = 0 by omega]; rfl))), ht⟩) (fun q h => nomatch h) d_Bo_blocksWanted_44
      · skip
        refine lv_aload_n hx hb d_Bo_blocksWanted_20 rfl (lv_at hl 0 rfl) ?_
        refine va_get (D := D) (ci := 0) (v := .ref (ad 2)) (C := R_Bo) (T := T_Bo) (N := 2) hx hb hts u_Bo hown hK hP 5 rfl rfl 1 (by decide) (hts _ w_94) (fun _ h9 => h9) rfl d_Bo_blocksWanted_21 ?_
        refine lv_iload_n hx hb d_Bo_blocksWanted_24 rfl (lv_at hl 1 rfl) ?_
        refine lv_iload hx hb d_Bo_blocksWanted_25 (lv_at hl 5 rfl) ?_
        refine rdV ⟨hx, hb, hml, hown, hts⟩ hK hP (k_Re_blockOf l (f := f) (x_f := x_f) (z := ((q : Nat) : Int)) (x_z := (nI q)) hx_f (nI_toInt (by omega)) ) w_182 m_Re_blockOf ⟨by decide, by decide⟩ 2 rfl rfl rfl hl.1 rfl (Nat.le_of_ble_eq_true rfl) d_Bo_blocksWanted_27 ⟨Nat.zero_le _, Nat.zero_le _⟩ ?_
        refine lv_if_ne (tgt := 36) hx hb d_Bo_blocksWanted_30 (by decide) (fun c_2 => ?_) (fun c_2 => ?_)
        · skip
          refine lv_iinc (v := nI (q + 1)) (lv' := [(5, .int (nI (q + 1))), (0, .ref (ad 5)), (1, .int x_f), (2, .int (nI a)), (3, .int (nI n)), (4, .int (nI w))]) hx hb d_Bo_blocksWanted_36 hl (k := 5) rfl (ln_inc (by decide)) (by decide) rfl (fun ls hl => ?_)
          refine lv_goto (tgt := 10) hx hb d_Bo_blocksWanted_39 (by decide) ?_
          exact ih (q + 1) w (by omega) (by omega) (by omega) (by rw [h10, show (a + n - 1) / 1024 + 1 - q = (a + n - 1) / 1024 - q + 1 by omega, bo_want, show (a + n - 1) / 1024 + 1 - (q + 1) = (a + n - 1) / 1024 - q by omega]; first | rw [if_neg (by assumption)] | rw [if_pos (by assumption)]) ls (lv_sub hl [1, 2, 3, 4, 5, 0] rfl)
        · skip
          refine lv_iinc (v := nI (w + 1)) (lv' := [(4, .int (nI (w + 1))), (0, .ref (ad 5)), (1, .int x_f), (2, .int (nI a)), (3, .int (nI n)), (5, .int (nI q))]) hx hb d_Bo_blocksWanted_33 hl (k := 4) rfl (ln_inc (by decide)) (by decide) rfl (fun ls hl => ?_)
          refine lv_iinc (v := nI (q + 1)) (lv' := [(5, .int (nI (q + 1))), (4, .int (nI (w + 1))), (0, .ref (ad 5)), (1, .int x_f), (2, .int (nI a)), (3, .int (nI n))]) hx hb d_Bo_blocksWanted_36 hl (k := 5) rfl (ln_inc (by decide)) (by decide) rfl (fun ls hl => ?_)
          refine lv_goto (tgt := 10) hx hb d_Bo_blocksWanted_39 (by decide) ?_
          exact ih (q + 1) (w + 1) (by omega) (by omega) (by omega) (by rw [h10, show (a + n - 1) / 1024 + 1 - q = (a + n - 1) / 1024 - q + 1 by omega, bo_want, show (a + n - 1) / 1024 + 1 - (q + 1) = (a + n - 1) / 1024 - q by omega]; first | rw [if_neg (by assumption)] | rw [if_pos (by assumption)]) ls (lv_sub hl [2, 3, 4, 5, 1, 0] rfl)
  exact loop10 ((a + n - 1) / 1024 + 2) (a / 1024) 0 (by omega) (by omega) (by omega) rfl ls (lv_sub hl [2, 3, 4, 5, 1, 0] rfl)
end
section
/-! Front, Records, Waiting: what is written -/
def fr_set (B : Nat → Int32) : Nat → Nat → Int32 → (Nat → Int32)
  | _, 0, _ => B
  | a, n + 1, v => fr_set (upd B a (vp_nar .byte (v.toInt8.toInt32))) (a + 1) n ((v.toUInt32 >>> ((nI 8).toUInt32 &&& Int32.toUInt32 31)).toInt32)
def re_set (B : Nat → Int32) (f o n : Nat) (v : Int32) : Nat → Int32 := if f = 0 ∨ 12 < f then B else fr_set B (768 + 256 * f + o) n v
theorem re_set_in {B : Nat → Int32} {f o n : Nat} {v : Int32} (h1 : 1 ≤ f) (h2 : f ≤ 12) : re_set B f o n v = fr_set B (768 + 256 * f + o) n v := if_neg (by omega)
def re_beg (B : Nat → Int32) (f : Nat) (k v : Int32) : Nat → Int32 := re_set (re_set B f 0 2 (if k = nI 3 then nI 40960 else nI 32768)) f 26 2 v
def re_add (B : Nat → Int32) (f k : Nat) (v : Int32) : Nat → Int32 := re_set (re_set B f (40 + 4 * k) 4 v) f 28 4 (nI 2 * (re_nb (re_set B f (40 + 4 * k) 4 v) f + nI 1))
def re_rem (B : Nat → Int32) (f k : Nat) : Nat → Int32 := re_set (re_set B f (40 + 4 * k) 4 (nI 0)) f 28 4 (nI 2 * (re_nb (re_set B f (40 + 4 * k) 4 (nI 0)) f - nI 1))
def wa_add (B : Nat → Int32) (f : Nat) (x : Int32) : Nat → Int32 := fr_set (re_set B f 20 4 (fr_num B 232 4)) 232 4 x
def wa_rem1 (B : Nat → Int32) (f : Nat) (x : Int32) : Nat → Int32 := if fr_num B 232 4 = x then fr_set B 232 4 (re_f B f 20 4) else re_set B (wa_bef B x 12 (fr_num B 232 4)).toNatClampNeg 20 4 (re_f B f 20 4)
def wa_rem (B : Nat → Int32) (f : Nat) (x : Int32) : Nat → Int32 := re_set (wa_rem1 B f x) f 20 4 (nI 0)
def db_gt (tk : Nat → Int32) (z : Int) : Nat → Int32 := if z < 4 ∨ 128 ≤ z ∨ tk z.toNat = 0 then tk else upd tk z.toNat (vp_nar .boolean (nI 0))
def db_gf (tk : Nat → Int32) (fr : Int32) (z : Int) : Int32 := if z < 4 ∨ 128 ≤ z ∨ tk z.toNat = 0 then fr else fr + nI 1
theorem m_Fr_setNumber : mV R_Fr y_Fr_setNumber (Cond.code y_Fr_setNumber c_Fr_setNumber 6 none) 3 := ⟨⟨w_162, w_163, w_2, w_164⟩, by decide +kernel⟩
set_option maxHeartbeats 4000000 in
set_option maxRecDepth 100000 in
theorem k_Fr_setNumber (l : Launch) {D : va_G} {ct : Nat → ClassId} {ad : Nat → Nat} {B : Nat → Int32} {g : Nat → Option Nat} {tk : Nat → Int32} {fr : Int32} {LP : List Nat} {pr : Nat → Nat → Int32} {A : Nat → Prop} {a : Nat} {n : Nat} {v : Int32} (h0 : a + n ≤ 4096) : Met l y_Fr_setNumber (Cond.code y_Fr_setNumber c_Fr_setNumber 6 none :: wA) (rmk 1 0 0) (va_Pc [.ref (ad 3), .int (nI a), .int (nI n), .int v] (cW A D (tyC ct) (wsC ct ad B g tk fr LP pr))) (wQ none A D (wsC ct ad (fr_set B a n v) g tk fr LP pr)) 0 0 A := by
  refine Met.ofW (cc := c_Fr_setNumber) (maxL := 6) (ret := none) (by decide +kernel) rfl ?_
  intro p e s m args below meth c s₁ B0 hml hv
  obtain ⟨rfl, hA, hP, hD, hK⟩ := hv
  have hS : va_S A s.heap s.heap [] := va_S.rf
  have hx := B0.exec
  have hb := B0.bytes
  have hr := B0.returns
  have hts := fun w (h : w ∈ wA) => atoms_spec (ws := Cond.code y_Fr_setNumber c_Fr_setNumber 6 none :: wA) B0.pre w (List.mem_cons_of_mem _ h)
  have hown : s.vm.findClass R_Fr = some m.cls := findClass_of_methodNamed B0.named
  have hlocks := B0.notSynchronized
  have hl := lv_entry ([.ref (ad 3), .int (nI a), .int (nI n), .int v]) (n := 6) (Nat.le_of_ble_eq_true rfl)
  rw [lg_entry_eq]
  generalize (lg_sl ([.ref (ad 3), .int (nI a), .int (nI n), .int v]) ++ List.replicate (6 - (lg_sl ([.ref (ad 3), .int (nI a), .int (nI n), .int v])).length) Slot.unset).toArray = ls at hl ⊢
  have hl : lv_has ls 6 [(0, .ref (ad 3)), (1, .int (nI a)), (2, .int (nI n)), (3, .int v)] := hl
  refine lv_iload_n hx hb d_Fr_setNumber_0 rfl (lv_at hl 3 rfl) ?_
  refine lv_istore (lv' := [(4, .int v), (0, .ref (ad 3)), (1, .int (nI a)), (2, .int (nI n)), (3, .int v)]) hx hb d_Fr_setNumber_1 hl (by decide) rfl (fun ls hl => ?_)
  refine lv_iload_n hx hb d_Fr_setNumber_3 rfl (lv_at hl 2 rfl) ?_
  refine lv_istore (lv' := [(5, .int (nI a)), (4, .int v), (0, .ref (ad 3)), (1, .int (nI a)), (2, .int (nI n)), (3, .int v)]) hx hb d_Fr_setNumber_4 hl (by decide) rfl (fun ls hl => ?_)
  have loop6 : ∀ (n9 : Nat) (i : Nat) (r : Int32) (b : Nat → Int32), a + n - i < n9 → a ≤ i → i ≤ a + n → fr_set B a n v = fr_set b i (a + n - i) r → ∀ (H : Heap) (locs : List Loc), va_P D vwC (wsC ct ad b g tk fr LP pr) H → va_D A (wsC ct ad b g tk fr LP pr) → va_S A s.heap H locs → ∀ ls : Array Slot, lv_has ls 6 [(0, .ref (ad 3)), (1, .int (nI a)), (2, .int (nI n)), (3, .int v), (4, .int r), (5, .int (nI i))] → W p l e (headSpec (Cond.code y_Fr_setNumber c_Fr_setNumber 6 none :: wA) (rmk 1 0 0)).room s m ([.ref (ad 3), .int (nI a), .int (nI n), .int v] : List Value).toArray below meth c H locs 0 0 (MQ below (wQ none A D (wsC ct ad (fr_set B a n v) g tk fr LP pr)) ([.ref (ad 3), .int (nI a), .int (nI n), .int v] : List Value).toArray s 0 0 A) (F0 m 6 ls []) := by
    intro n9
    induction n9 with
    | zero => intro i r b h8 h9 h11 h10 H locs hP hD hS ls hl; exact absurd h8 (by omega)
    | succ n9 ih =>
      intro i r b h8 h9 h11 h10 H locs hP hD hS ls hl
      refine lv_iload hx hb d_Fr_setNumber_6 (lv_at hl 5 rfl) ?_
      refine lv_iload_n hx hb d_Fr_setNumber_8 rfl (lv_at hl 1 rfl) ?_
      refine lv_iload_n hx hb d_Fr_setNumber_9 rfl (lv_at hl 2 rfl) ?_
      refine ln_iadd hx hb d_Fr_setNumber_10 ?_
      refine ln_icmp_ge (tgt := 52) hx hb (by omega) (by omega) d_Fr_setNumber_11 (by decide) (fun c_1 => ?_) (fun c_1 => ?_)
      · skip
        have e9 : wsC ct ad b g tk fr LP pr = wsC ct ad (fr_set B a n v) g tk fr LP pr := (by rw [h10, show a + n - i = 0 by omega]; rfl)
        rw [e9] at hP hD
        exact W.vret hx hb hr (fun t9 ht hW => ⟨rfl, by rw [ht]; exact hP, hD, hS.F ht⟩) hS.2.2 d_Fr_setNumber_52
      · skip
        refine lv_iload hx hb d_Fr_setNumber_14 (lv_at hl 5 rfl) ?_
        refine ln_if_lt (tgt := 39) hx hb (by omega) d_Fr_setNumber_16 (by decide) ?_
        refine lv_iload hx hb d_Fr_setNumber_19 (lv_at hl 5 rfl) ?_
        refine lv_aload_n hx hb d_Fr_setNumber_21 rfl (lv_at hl 0 rfl) ?_
        refine va_get (D := D) (ci := 2) (v := .ref (ad 6)) (C := R_Fr) (T := T_Fr) (N := 1) hx hb hts u_Fr hown hK hP 3 rfl rfl 0 (by decide) (hts _ w_40) (fun _ h9 => h9) rfl d_Fr_setNumber_22 ?_
        refine va_alen hx hb hK hP 6 0 rfl rfl (v := nI 4096) rfl d_Fr_setNumber_25 ?_
        refine ln_icmp_ge (tgt := 39) hx hb (by omega) (by omega) d_Fr_setNumber_26 (by decide) (fun c_3 => ?_) (fun c_3 => ?_)
        · exact absurd c_3 (by omega)
        · skip
          refine lv_aload_n hx hb d_Fr_setNumber_29 rfl (lv_at hl 0 rfl) ?_
          refine va_get (D := D) (ci := 2) (v := .ref (ad 6)) (C := R_Fr) (T := T_Fr) (N := 1) hx hb hts u_Fr hown hK hP 3 rfl rfl 0 (by decide) (hts _ w_40) (fun _ h9 => h9) rfl d_Fr_setNumber_30 ?_
          refine lv_iload hx hb d_Fr_setNumber_33 (lv_at hl 5 rfl) ?_
          refine lv_iload hx hb d_Fr_setNumber_35 (lv_at hl 4 rfl) ?_
          refine lv_i2b hx hb d_Fr_setNumber_37 rfl ?_
          refine ln_bast hx hb hK hP hD hS 6 0 rfl rfl (by omega) (by decide) d_Fr_setNumber_38 (fun H locs hP hD hS => ?_)
          have hP : va_P D vwC (wsC ct ad (upd b i (vp_nar .byte r.toInt8.toInt32)) g tk fr LP pr) H := hP
          have hD : va_D A (wsC ct ad (upd b i (vp_nar .byte r.toInt8.toInt32)) g tk fr LP pr) := hD
          refine lv_iload hx hb d_Fr_setNumber_39 (lv_at hl 4 rfl) ?_
          refine lv_bipush (v := nI 8) hx hb d_Fr_setNumber_41 (by decide) ?_
          refine lv_iushr hx hb d_Fr_setNumber_43 rfl ?_
          refine lv_istore (lv' := [(4, .int ((r.toUInt32 >>> ((nI 8).toUInt32 &&& Int32.toUInt32 31)).toInt32)), (0, .ref (ad 3)), (1, .int (nI a)), (2, .int (nI n)), (3, .int v), (5, .int (nI i))]) hx hb d_Fr_setNumber_44 hl (by decide) rfl (fun ls hl => ?_)
          refine lv_iinc (v := nI (i + 1)) (lv' := [(5, .int (nI (i + 1))), (4, .int ((r.toUInt32 >>> ((nI 8).toUInt32 &&& Int32.toUInt32 31)).toInt32)), (0, .ref (ad 3)), (1, .int (nI a)), (2, .int (nI n)), (3, .int v)]) hx hb d_Fr_setNumber_46 hl (k := 5) rfl (ln_inc (by decide)) (by decide) rfl (fun ls hl => ?_)
          refine lv_goto (tgt := 6) hx hb d_Fr_setNumber_49 (by decide) ?_
          exact ih (i + 1) ((r.toUInt32 >>> ((nI 8).toUInt32 &&& Int32.toUInt32 31)).toInt32) (upd b i (vp_nar .byte r.toInt8.toInt32)) (by omega) (by omega) (by omega) (by rw [h10, show a + n - i = a + n - (i + 1) + 1 by omega, fr_set]) _ _ hP hD hS ls (lv_sub hl [2, 3, 4, 5, 1, 0] rfl)
  exact loop6 (n + 1) a v B (by omega) (by omega) (by omega) (by rw [Nat.add_sub_cancel_left]) _ _ hP hD hS ls (lv_sub hl [2, 3, 4, 5, 1, 0] rfl)
theorem m_Re_setField : mV R_Re y_Re_setField (Cond.code y_Re_setField c_Re_setField 5 none) 4 := ⟨⟨w_175, wp_4, w_4, w_176⟩, by decide +kernel⟩
set_option maxHeartbeats 4000000 in
set_option maxRecDepth 100000 in
theorem k_Re_setField (l : Launch) {D : va_G} {ct : Nat → ClassId} {ad : Nat → Nat} {B : Nat → Int32} {g : Nat → Option Nat} {tk : Nat → Int32} {fr : Int32} {LP : List Nat} {pr : Nat → Nat → Int32} {A : Nat → Prop} {f : Nat} {x_f : Int32} (hx_f : x_f.toNatClampNeg = f) {o : Nat} {n : Nat} {v : Int32} (h0 : o + n ≤ 256) : Met l y_Re_setField (Cond.code y_Re_setField c_Re_setField 5 none :: wA) (rmk 2 0 0) (va_Pc [.ref (ad 2), .int x_f, .int (nI o), .int (nI n), .int v] (cW A D (tyC ct) (wsC ct ad B g tk fr LP pr))) (wQ none A D (wsC ct ad (re_set B f o n v) g tk fr LP pr)) 0 0 A := by
  refine Met.ofW (cc := c_Re_setField) (maxL := 5) (ret := none) (by decide +kernel) rfl ?_
  intro p e s m args below meth c s₁ B0 hml hv
  obtain ⟨rfl, hA, hP, hD, hK⟩ := hv
  have hS : va_S A s.heap s.heap [] := va_S.rf
  have hx := B0.exec
  have hb := B0.bytes
  have hr := B0.returns
  have hts := fun w (h : w ∈ wA) => atoms_spec (ws := Cond.code y_Re_setField c_Re_setField 5 none :: wA) B0.pre w (List.mem_cons_of_mem _ h)
  have hown : s.vm.findClass R_Re = some m.cls := findClass_of_methodNamed B0.named
  have hlocks := B0.notSynchronized
  have hl := lv_entry ([.ref (ad 2), .int x_f, .int (nI o), .int (nI n), .int v]) (n := 5) (Nat.le_of_ble_eq_true rfl)
  rw [lg_entry_eq]
  generalize (lg_sl ([.ref (ad 2), .int x_f, .int (nI o), .int (nI n), .int v]) ++ List.replicate (5 - (lg_sl ([.ref (ad 2), .int x_f, .int (nI o), .int (nI n), .int v])).length) Slot.unset).toArray = ls at hl ⊢
  have hl : lv_has ls 5 [(0, .ref (ad 2)), (1, .int x_f), (2, .int (nI o)), (3, .int (nI n)), (4, .int v)] := hl
  have hf_f : x_f.toInt.toNat = f := hx_f
  have hg_f := z_lt x_f
  refine lv_aload_n hx hb d_Re_setField_0 rfl (lv_at hl 0 rfl) ?_
  refine lv_iload_n hx hb d_Re_setField_1 rfl (lv_at hl 1 rfl) ?_
  refine rdV ⟨hx, hb, hml, hown, hts⟩ hK hP (k_Re_isNumber l (f := f) (x_f := x_f) hx_f ) w_140 m_Re_isNumber ⟨by decide, by decide⟩ 2 rfl rfl rfl hl.1 rfl (Nat.le_of_ble_eq_true rfl) d_Re_setField_2 ⟨Nat.zero_le _, Nat.zero_le _⟩ ?_
  refine lb_if_eq (tgt := 24) hx hb d_Re_setField_5 (by decide) (fun c_1 => ?_) (fun c_1 => ?_)
  · skip
    have e9 : wsC ct ad B g tk fr LP pr = wsC ct ad (re_set B f o n v) g tk fr LP pr := (by first | rw [re_set_in (by omega) (by omega)] | rw [re_set, if_pos (by omega)])
    rw [e9] at hP hD
    exact W.vret hx hb hr (fun t9 ht hW => ⟨rfl, by rw [ht]; exact hP, hD, hS.F ht⟩) hS.2.2 d_Re_setField_24
  · skip
    obtain rfl : x_f = nI f := z_cl hx_f (by omega)
    refine lv_aload_n hx hb d_Re_setField_8 rfl (lv_at hl 0 rfl) ?_
    refine va_get (D := D) (ci := 3) (v := .ref (ad 3)) (C := R_Re) (T := T_Re) (N := 1) hx hb hts u_Re hown hK hP 2 rfl rfl 0 (by decide) (hts _ w_70) (fun _ h9 => h9) rfl d_Re_setField_9 ?_
    refine lv_iload_n hx hb d_Re_setField_12 rfl (lv_at hl 1 rfl) ?_
    refine rdS ⟨hx, hb, hml, hown, hts⟩ hK hP (k_Re_startOf l (f := f) (by omega) (by omega)) w_144 m_Re_startOf ⟨by decide, by decide⟩ rfl hl.1 rfl (Nat.le_of_ble_eq_true rfl) d_Re_setField_13 ⟨Nat.zero_le _, Nat.zero_le _⟩ ?_
    refine lv_iload_n hx hb d_Re_setField_16 rfl (lv_at hl 2 rfl) ?_
    refine ln_iadd hx hb d_Re_setField_17 ?_
    refine lv_iload_n hx hb d_Re_setField_18 rfl (lv_at hl 3 rfl) ?_
    refine lv_iload hx hb d_Re_setField_19 (lv_at hl 4 rfl) ?_
    refine wrV ⟨hx, hb, hml, hown, hts⟩ hK hP hD hS hA (k_Fr_setNumber l (a := ((768 + 256 * f) + o)) (n := n) (v := v) (by omega)) w_177 m_Fr_setNumber ⟨by decide, by decide⟩ 3 rfl rfl rfl hl.1 rfl (Nat.le_of_ble_eq_true rfl) d_Re_setField_21 ⟨Nat.zero_le _, Nat.zero_le _⟩ (fun H locs hP hD hS => ?_)
    have hP : va_P D vwC (wsC ct ad (fr_set B ((768 + 256 * f) + o) n v) g tk fr LP pr) H := hP
    have hD : va_D A (wsC ct ad (fr_set B ((768 + 256 * f) + o) n v) g tk fr LP pr) := hD
    refine W.eq (g2 := F0 m 24 ls []) rfl ?_
    have e9 : wsC ct ad (fr_set B ((768 + 256 * f) + o) n v) g tk fr LP pr = wsC ct ad (re_set B f o n v) g tk fr LP pr := (by first | rw [re_set_in (by omega) (by omega)] | rw [re_set, if_pos (by omega)])
    rw [e9] at hP hD
    exact W.vret hx hb hr (fun t9 ht hW => ⟨rfl, by rw [ht]; exact hP, hD, hS.F ht⟩) hS.2.2 d_Re_setField_24
theorem m_Re_setSize : mV R_Re y_Re_setSize (Cond.code y_Re_setSize c_Re_setSize 3 none) 2 := ⟨⟨w_328, w_329, w_4, w_330⟩, by decide +kernel⟩
set_option maxHeartbeats 4000000 in
set_option maxRecDepth 100000 in
theorem k_Re_setSize (l : Launch) {D : va_G} {ct : Nat → ClassId} {ad : Nat → Nat} {B : Nat → Int32} {g : Nat → Option Nat} {tk : Nat → Int32} {fr : Int32} {LP : List Nat} {pr : Nat → Nat → Int32} {A : Nat → Prop} {f : Nat} {x_f : Int32} (hx_f : x_f.toNatClampNeg = f) {v : Int32}  : Met l y_Re_setSize (Cond.code y_Re_setSize c_Re_setSize 3 none :: wA) (rmk 3 0 0) (va_Pc [.ref (ad 2), .int x_f, .int v] (cW A D (tyC ct) (wsC ct ad B g tk fr LP pr))) (wQ none A D (wsC ct ad (re_set B f 4 4 v) g tk fr LP pr)) 0 0 A := by
  refine Met.ofW (cc := c_Re_setSize) (maxL := 3) (ret := none) (by decide +kernel) rfl ?_
  intro p e s m args below meth c s₁ B0 hml hv
  obtain ⟨rfl, hA, hP, hD, hK⟩ := hv
  have hS : va_S A s.heap s.heap [] := va_S.rf
  have hx := B0.exec
  have hb := B0.bytes
  have hr := B0.returns
  have hts := fun w (h : w ∈ wA) => atoms_spec (ws := Cond.code y_Re_setSize c_Re_setSize 3 none :: wA) B0.pre w (List.mem_cons_of_mem _ h)
  have hown : s.vm.findClass R_Re = some m.cls := findClass_of_methodNamed B0.named
  have hlocks := B0.notSynchronized
  have hl := lv_entry ([.ref (ad 2), .int x_f, .int v]) (n := 3) (Nat.le_of_ble_eq_true rfl)
  rw [lg_entry_eq]
  generalize (lg_sl ([.ref (ad 2), .int x_f, .int v]) ++ List.replicate (3 - (lg_sl ([.ref (ad 2), .int x_f, .int v])).length) Slot.unset).toArray = ls at hl ⊢
  have hl : lv_has ls 3 [(0, .ref (ad 2)), (1, .int x_f), (2, .int v)] := hl
  have hf_f : x_f.toInt.toNat = f := hx_f
  have hg_f := z_lt x_f
  refine lv_aload_n hx hb d_Re_setSize_0 rfl (lv_at hl 0 rfl) ?_
  refine lv_iload_n hx hb d_Re_setSize_1 rfl (lv_at hl 1 rfl) ?_
  refine lv_iconst (v := nI 4) hx hb d_Re_setSize_2 (by decide) ?_
  refine lv_iconst (v := nI 4) hx hb d_Re_setSize_3 (by decide) ?_
  refine lv_iload_n hx hb d_Re_setSize_4 rfl (lv_at hl 2 rfl) ?_
  refine wrV ⟨hx, hb, hml, hown, hts⟩ hK hP hD hS hA (k_Re_setField l (f := f) (x_f := x_f) (o := 4) (n := 4) (v := v) hx_f (by omega)) w_173 m_Re_setField ⟨by decide, by decide⟩ 2 rfl rfl rfl hl.1 rfl (Nat.le_of_ble_eq_true rfl) d_Re_setSize_5 ⟨Nat.zero_le _, Nat.zero_le _⟩ (fun H locs hP hD hS => ?_)
  have hP : va_P D vwC (wsC ct ad (re_set B f 4 4 v) g tk fr LP pr) H := hP
  have hD : va_D A (wsC ct ad (re_set B f 4 4 v) g tk fr LP pr) := hD
  refine W.eq (g2 := F0 m 8 ls []) rfl ?_
  have e9 : wsC ct ad (re_set B f 4 4 v) g tk fr LP pr = wsC ct ad (re_set B f 4 4 v) g tk fr LP pr := rfl
  rw [e9] at hP hD
  exact W.vret hx hb hr (fun t9 ht hW => ⟨rfl, by rw [ht]; exact hP, hD, hS.F ht⟩) hS.2.2 d_Re_setSize_8
theorem m_Re_setBehind : mV R_Re y_Re_setBehind (Cond.code y_Re_setBehind c_Re_setBehind 3 none) 2 := ⟨⟨w_170, w_171, w_4, w_172⟩, by decide +kernel⟩
set_option maxHeartbeats 4000000 in
set_option maxRecDepth 100000 in
theorem k_Re_setBehind (l : Launch) {D : va_G} {ct : Nat → ClassId} {ad : Nat → Nat} {B : Nat → Int32} {g : Nat → Option Nat} {tk : Nat → Int32} {fr : Int32} {LP : List Nat} {pr : Nat → Nat → Int32} {A : Nat → Prop} {f : Nat} {x_f : Int32} (hx_f : x_f.toNatClampNeg = f) {v : Int32}  : Met l y_Re_setBehind (Cond.code y_Re_setBehind c_Re_setBehind 3 none :: wA) (rmk 3 0 0) (va_Pc [.ref (ad 2), .int x_f, .int v] (cW A D (tyC ct) (wsC ct ad B g tk fr LP pr))) (wQ none A D (wsC ct ad (re_set B f 20 4 v) g tk fr LP pr)) 0 0 A := by
  refine Met.ofW (cc := c_Re_setBehind) (maxL := 3) (ret := none) (by decide +kernel) rfl ?_
  intro p e s m args below meth c s₁ B0 hml hv
  obtain ⟨rfl, hA, hP, hD, hK⟩ := hv
  have hS : va_S A s.heap s.heap [] := va_S.rf
  have hx := B0.exec
  have hb := B0.bytes
  have hr := B0.returns
  have hts := fun w (h : w ∈ wA) => atoms_spec (ws := Cond.code y_Re_setBehind c_Re_setBehind 3 none :: wA) B0.pre w (List.mem_cons_of_mem _ h)
  have hown : s.vm.findClass R_Re = some m.cls := findClass_of_methodNamed B0.named
  have hlocks := B0.notSynchronized
  have hl := lv_entry ([.ref (ad 2), .int x_f, .int v]) (n := 3) (Nat.le_of_ble_eq_true rfl)
  rw [lg_entry_eq]
  generalize (lg_sl ([.ref (ad 2), .int x_f, .int v]) ++ List.replicate (3 - (lg_sl ([.ref (ad 2), .int x_f, .int v])).length) Slot.unset).toArray = ls at hl ⊢
  have hl : lv_has ls 3 [(0, .ref (ad 2)), (1, .int x_f), (2, .int v)] := hl
  have hf_f : x_f.toInt.toNat = f := hx_f
  have hg_f := z_lt x_f
  refine lv_aload_n hx hb d_Re_setBehind_0 rfl (lv_at hl 0 rfl) ?_
  refine lv_iload_n hx hb d_Re_setBehind_1 rfl (lv_at hl 1 rfl) ?_
  refine lv_bipush (v := nI 20) hx hb d_Re_setBehind_2 (by decide) ?_
  refine lv_iconst (v := nI 4) hx hb d_Re_setBehind_4 (by decide) ?_
  refine lv_iload_n hx hb d_Re_setBehind_5 rfl (lv_at hl 2 rfl) ?_
  refine wrV ⟨hx, hb, hml, hown, hts⟩ hK hP hD hS hA (k_Re_setField l (f := f) (x_f := x_f) (o := 20) (n := 4) (v := v) hx_f (by omega)) w_173 m_Re_setField ⟨by decide, by decide⟩ 2 rfl rfl rfl hl.1 rfl (Nat.le_of_ble_eq_true rfl) d_Re_setBehind_6 ⟨Nat.zero_le _, Nat.zero_le _⟩ (fun H locs hP hD hS => ?_)
  have hP : va_P D vwC (wsC ct ad (re_set B f 20 4 v) g tk fr LP pr) H := hP
  have hD : va_D A (wsC ct ad (re_set B f 20 4 v) g tk fr LP pr) := hD
  refine W.eq (g2 := F0 m 9 ls []) rfl ?_
  have e9 : wsC ct ad (re_set B f 20 4 v) g tk fr LP pr = wsC ct ad (re_set B f 20 4 v) g tk fr LP pr := rfl
  rw [e9] at hP hD
  exact W.vret hx hb hr (fun t9 ht hW => ⟨rfl, by rw [ht]; exact hP, hD, hS.F ht⟩) hS.2.2 d_Re_setBehind_9
theorem m_Re_setLinks : mV R_Re y_Re_setLinks (Cond.code y_Re_setLinks c_Re_setLinks 3 none) 2 := ⟨⟨w_307, w_308, w_4, w_309⟩, by decide +kernel⟩
set_option maxHeartbeats 4000000 in
set_option maxRecDepth 100000 in
theorem k_Re_setLinks (l : Launch) {D : va_G} {ct : Nat → ClassId} {ad : Nat → Nat} {B : Nat → Int32} {g : Nat → Option Nat} {tk : Nat → Int32} {fr : Int32} {LP : List Nat} {pr : Nat → Nat → Int32} {A : Nat → Prop} {f : Nat} {x_f : Int32} (hx_f : x_f.toNatClampNeg = f) {v : Int32}  : Met l y_Re_setLinks (Cond.code y_Re_setLinks c_Re_setLinks 3 none :: wA) (rmk 3 0 0) (va_Pc [.ref (ad 2), .int x_f, .int v] (cW A D (tyC ct) (wsC ct ad B g tk fr LP pr))) (wQ none A D (wsC ct ad (re_set B f 26 2 v) g tk fr LP pr)) 0 0 A := by
  refine Met.ofW (cc := c_Re_setLinks) (maxL := 3) (ret := none) (by decide +kernel) rfl ?_
  intro p e s m args below meth c s₁ B0 hml hv
  obtain ⟨rfl, hA, hP, hD, hK⟩ := hv
  have hS : va_S A s.heap s.heap [] := va_S.rf
  have hx := B0.exec
  have hb := B0.bytes
  have hr := B0.returns
  have hts := fun w (h : w ∈ wA) => atoms_spec (ws := Cond.code y_Re_setLinks c_Re_setLinks 3 none :: wA) B0.pre w (List.mem_cons_of_mem _ h)
  have hown : s.vm.findClass R_Re = some m.cls := findClass_of_methodNamed B0.named
  have hlocks := B0.notSynchronized
  have hl := lv_entry ([.ref (ad 2), .int x_f, .int v]) (n := 3) (Nat.le_of_ble_eq_true rfl)
  rw [lg_entry_eq]
  generalize (lg_sl ([.ref (ad 2), .int x_f, .int v]) ++ List.replicate (3 - (lg_sl ([.ref (ad 2), .int x_f, .int v])).length) Slot.unset).toArray = ls at hl ⊢
  have hl : lv_has ls 3 [(0, .ref (ad 2)), (1, .int x_f), (2, .int v)] := hl
  have hf_f : x_f.toInt.toNat = f := hx_f
  have hg_f := z_lt x_f
  refine lv_aload_n hx hb d_Re_setLinks_0 rfl (lv_at hl 0 rfl) ?_
  refine lv_iload_n hx hb d_Re_setLinks_1 rfl (lv_at hl 1 rfl) ?_
  refine lv_bipush (v := nI 26) hx hb d_Re_setLinks_2 (by decide) ?_
  refine lv_iconst (v := nI 2) hx hb d_Re_setLinks_4 (by decide) ?_
  refine lv_iload_n hx hb d_Re_setLinks_5 rfl (lv_at hl 2 rfl) ?_
  refine wrV ⟨hx, hb, hml, hown, hts⟩ hK hP hD hS hA (k_Re_setField l (f := f) (x_f := x_f) (o := 26) (n := 2) (v := v) hx_f (by omega)) w_173 m_Re_setField ⟨by decide, by decide⟩ 2 rfl rfl rfl hl.1 rfl (Nat.le_of_ble_eq_true rfl) d_Re_setLinks_6 ⟨Nat.zero_le _, Nat.zero_le _⟩ (fun H locs hP hD hS => ?_)
  have hP : va_P D vwC (wsC ct ad (re_set B f 26 2 v) g tk fr LP pr) H := hP
  have hD : va_D A (wsC ct ad (re_set B f 26 2 v) g tk fr LP pr) := hD
  refine W.eq (g2 := F0 m 9 ls []) rfl ?_
  have e9 : wsC ct ad (re_set B f 26 2 v) g tk fr LP pr = wsC ct ad (re_set B f 26 2 v) g tk fr LP pr := rfl
  rw [e9] at hP hD
  exact W.vret hx hb hr (fun t9 ht hW => ⟨rfl, by rw [ht]; exact hP, hD, hS.F ht⟩) hS.2.2 d_Re_setLinks_9
theorem m_Re_erase : mV R_Re y_Re_erase (Cond.code y_Re_erase c_Re_erase 2 none) 1 := ⟨⟨w_196, w_197, w_4, w_198⟩, by decide +kernel⟩
set_option maxHeartbeats 4000000 in
set_option maxRecDepth 100000 in
theorem k_Re_erase (l : Launch) {D : va_G} {ct : Nat → ClassId} {ad : Nat → Nat} {B : Nat → Int32} {g : Nat → Option Nat} {tk : Nat → Int32} {fr : Int32} {LP : List Nat} {pr : Nat → Nat → Int32} {A : Nat → Prop} {f : Nat} {x_f : Int32} (hx_f : x_f.toNatClampNeg = f)  : Met l y_Re_erase (Cond.code y_Re_erase c_Re_erase 2 none :: wA) (rmk 3 0 0) (va_Pc [.ref (ad 2), .int x_f] (cW A D (tyC ct) (wsC ct ad B g tk fr LP pr))) (wQ none A D (wsC ct ad (re_set B f 0 256 (nI 0)) g tk fr LP pr)) 0 0 A := by
  refine Met.ofW (cc := c_Re_erase) (maxL := 2) (ret := none) (by decide +kernel) rfl ?_
  intro p e s m args below meth c s₁ B0 hml hv
  obtain ⟨rfl, hA, hP, hD, hK⟩ := hv
  have hS : va_S A s.heap s.heap [] := va_S.rf
  have hx := B0.exec
  have hb := B0.bytes
  have hr := B0.returns
  have hts := fun w (h : w ∈ wA) => atoms_spec (ws := Cond.code y_Re_erase c_Re_erase 2 none :: wA) B0.pre w (List.mem_cons_of_mem _ h)
  have hown : s.vm.findClass R_Re = some m.cls := findClass_of_methodNamed B0.named
  have hlocks := B0.notSynchronized
  have hl := lv_entry ([.ref (ad 2), .int x_f]) (n := 2) (Nat.le_of_ble_eq_true rfl)
  rw [lg_entry_eq]
  generalize (lg_sl ([.ref (ad 2), .int x_f]) ++ List.replicate (2 - (lg_sl ([.ref (ad 2), .int x_f])).length) Slot.unset).toArray = ls at hl ⊢
  have hl : lv_has ls 2 [(0, .ref (ad 2)), (1, .int x_f)] := hl
  have hf_f : x_f.toInt.toNat = f := hx_f
  have hg_f := z_lt x_f
  refine lv_aload_n hx hb d_Re_erase_0 rfl (lv_at hl 0 rfl) ?_
  refine lv_iload_n hx hb d_Re_erase_1 rfl (lv_at hl 1 rfl) ?_
  refine lv_iconst (v := nI 0) hx hb d_Re_erase_2 (by decide) ?_
  refine lv_sipush (v := nI 256) hx hb d_Re_erase_3 (by decide) ?_
  refine lv_iconst (v := nI 0) hx hb d_Re_erase_6 (by decide) ?_
  refine wrV ⟨hx, hb, hml, hown, hts⟩ hK hP hD hS hA (k_Re_setField l (f := f) (x_f := x_f) (o := 0) (n := 256) (v := (nI 0)) hx_f (by omega)) w_173 m_Re_setField ⟨by decide, by decide⟩ 2 rfl rfl rfl hl.1 rfl (Nat.le_of_ble_eq_true rfl) d_Re_erase_7 ⟨Nat.zero_le _, Nat.zero_le _⟩ (fun H locs hP hD hS => ?_)
  have hP : va_P D vwC (wsC ct ad (re_set B f 0 256 (nI 0)) g tk fr LP pr) H := hP
  have hD : va_D A (wsC ct ad (re_set B f 0 256 (nI 0)) g tk fr LP pr) := hD
  refine W.eq (g2 := F0 m 10 ls []) rfl ?_
  have e9 : wsC ct ad (re_set B f 0 256 (nI 0)) g tk fr LP pr = wsC ct ad (re_set B f 0 256 (nI 0)) g tk fr LP pr := rfl
  rw [e9] at hP hD
  exact W.vret hx hb hr (fun t9 ht hW => ⟨rfl, by rw [ht]; exact hP, hD, hS.F ht⟩) hS.2.2 d_Re_erase_10
theorem m_Re_setTargetByte : mV R_Re y_Re_setTargetByte (Cond.code y_Re_setTargetByte c_Re_setTargetByte 4 none) 3 := ⟨⟨w_350, w_351, w_4, w_352⟩, by decide +kernel⟩
set_option maxHeartbeats 4000000 in
set_option maxRecDepth 100000 in
theorem k_Re_setTargetByte (l : Launch) {D : va_G} {ct : Nat → ClassId} {ad : Nat → Nat} {B : Nat → Int32} {g : Nat → Option Nat} {tk : Nat → Int32} {fr : Int32} {LP : List Nat} {pr : Nat → Nat → Int32} {A : Nat → Prop} {f : Nat} {x_f : Int32} (hx_f : x_f.toNatClampNeg = f) {i : Nat} {v : Int32} (h0 : i < 60) : Met l y_Re_setTargetByte (Cond.code y_Re_setTargetByte c_Re_setTargetByte 4 none :: wA) (rmk 3 0 0) (va_Pc [.ref (ad 2), .int x_f, .int (nI i), .int v] (cW A D (tyC ct) (wsC ct ad B g tk fr LP pr))) (wQ none A D (wsC ct ad (re_set B f (40 + i) 1 v) g tk fr LP pr)) 0 0 A := by
  refine Met.ofW (cc := c_Re_setTargetByte) (maxL := 4) (ret := none) (by decide +kernel) rfl ?_
  intro p e s m args below meth c s₁ B0 hml hv
  obtain ⟨rfl, hA, hP, hD, hK⟩ := hv
  have hS : va_S A s.heap s.heap [] := va_S.rf
  have hx := B0.exec
  have hb := B0.bytes
  have hr := B0.returns
  have hts := fun w (h : w ∈ wA) => atoms_spec (ws := Cond.code y_Re_setTargetByte c_Re_setTargetByte 4 none :: wA) B0.pre w (List.mem_cons_of_mem _ h)
  have hown : s.vm.findClass R_Re = some m.cls := findClass_of_methodNamed B0.named
  have hlocks := B0.notSynchronized
  have hl := lv_entry ([.ref (ad 2), .int x_f, .int (nI i), .int v]) (n := 4) (Nat.le_of_ble_eq_true rfl)
  rw [lg_entry_eq]
  generalize (lg_sl ([.ref (ad 2), .int x_f, .int (nI i), .int v]) ++ List.replicate (4 - (lg_sl ([.ref (ad 2), .int x_f, .int (nI i), .int v])).length) Slot.unset).toArray = ls at hl ⊢
  have hl : lv_has ls 4 [(0, .ref (ad 2)), (1, .int x_f), (2, .int (nI i)), (3, .int v)] := hl
  have hf_f : x_f.toInt.toNat = f := hx_f
  have hg_f := z_lt x_f
  refine lv_aload_n hx hb d_Re_setTargetByte_0 rfl (lv_at hl 0 rfl) ?_
  refine lv_iload_n hx hb d_Re_setTargetByte_1 rfl (lv_at hl 1 rfl) ?_
  refine lv_bipush (v := nI 40) hx hb d_Re_setTargetByte_2 (by decide) ?_
  refine lv_iload_n hx hb d_Re_setTargetByte_4 rfl (lv_at hl 2 rfl) ?_
  refine ln_iadd hx hb d_Re_setTargetByte_5 ?_
  refine lv_iconst (v := nI 1) hx hb d_Re_setTargetByte_6 (by decide) ?_
  refine lv_iload_n hx hb d_Re_setTargetByte_7 rfl (lv_at hl 3 rfl) ?_
  refine wrV ⟨hx, hb, hml, hown, hts⟩ hK hP hD hS hA (k_Re_setField l (f := f) (x_f := x_f) (o := (40 + i)) (n := 1) (v := v) hx_f (by omega)) w_173 m_Re_setField ⟨by decide, by decide⟩ 2 rfl rfl rfl hl.1 rfl (Nat.le_of_ble_eq_true rfl) d_Re_setTargetByte_8 ⟨Nat.zero_le _, Nat.zero_le _⟩ (fun H locs hP hD hS => ?_)
  have hP : va_P D vwC (wsC ct ad (re_set B f (40 + i) 1 v) g tk fr LP pr) H := hP
  have hD : va_D A (wsC ct ad (re_set B f (40 + i) 1 v) g tk fr LP pr) := hD
  refine W.eq (g2 := F0 m 11 ls []) rfl ?_
  have e9 : wsC ct ad (re_set B f (40 + i) 1 v) g tk fr LP pr = wsC ct ad (re_set B f (40 + i) 1 v) g tk fr LP pr := rfl
  rw [e9] at hP hD
  exact W.vret hx hb hr (fun t9 ht hW => ⟨rfl, by rw [ht]; exact hP, hD, hS.F ht⟩) hS.2.2 d_Re_setTargetByte_11
theorem m_Re_begin : mV R_Re y_Re_begin (Cond.code y_Re_begin c_Re_begin 4 none) 3 := ⟨⟨w_301, w_302, w_4, w_303⟩, by decide +kernel⟩
set_option maxHeartbeats 4000000 in
set_option maxRecDepth 100000 in
theorem k_Re_begin (l : Launch) {D : va_G} {ct : Nat → ClassId} {ad : Nat → Nat} {B : Nat → Int32} {g : Nat → Option Nat} {tk : Nat → Int32} {fr : Int32} {LP : List Nat} {pr : Nat → Nat → Int32} {A : Nat → Prop} {f : Nat} {x_f : Int32} (hx_f : x_f.toNatClampNeg = f) {k : Int32} {v : Int32}  : Met l y_Re_begin (Cond.code y_Re_begin c_Re_begin 4 none :: wA) (rmk 4 0 0) (va_Pc [.ref (ad 2), .int x_f, .int k, .int v] (cW A D (tyC ct) (wsC ct ad B g tk fr LP pr))) (wQ none A D (wsC ct ad (re_beg B f k v) g tk fr LP pr)) 0 0 A := by
  refine Met.ofW (cc := c_Re_begin) (maxL := 4) (ret := none) (by decide +kernel) rfl ?_
  intro p e s m args below meth c s₁ B0 hml hv
  obtain ⟨rfl, hA, hP, hD, hK⟩ := hv
  have hS : va_S A s.heap s.heap [] := va_S.rf
  have hx := B0.exec
  have hb := B0.bytes
  have hr := B0.returns
  have hts := fun w (h : w ∈ wA) => atoms_spec (ws := Cond.code y_Re_begin c_Re_begin 4 none :: wA) B0.pre w (List.mem_cons_of_mem _ h)
  have hown : s.vm.findClass R_Re = some m.cls := findClass_of_methodNamed B0.named
  have hlocks := B0.notSynchronized
  have hl := lv_entry ([.ref (ad 2), .int x_f, .int k, .int v]) (n := 4) (Nat.le_of_ble_eq_true rfl)
  rw [lg_entry_eq]
  generalize (lg_sl ([.ref (ad 2), .int x_f, .int k, .int v]) ++ List.replicate (4 - (lg_sl ([.ref (ad 2), .int x_f, .int k, .int v])).length) Slot.unset).toArray = ls at hl ⊢
  have hl : lv_has ls 4 [(0, .ref (ad 2)), (1, .int x_f), (2, .int k), (3, .int v)] := hl
  have hf_f : x_f.toInt.toNat = f := hx_f
  have hg_f := z_lt x_f
  refine lv_aload_n hx hb d_Re_begin_0 rfl (lv_at hl 0 rfl) ?_
  refine lv_iload_n hx hb d_Re_begin_1 rfl (lv_at hl 1 rfl) ?_
  refine lv_iconst (v := nI 0) hx hb d_Re_begin_2 (by decide) ?_
  refine lv_iconst (v := nI 2) hx hb d_Re_begin_3 (by decide) ?_
  refine lv_iload_n hx hb d_Re_begin_4 rfl (lv_at hl 2 rfl) ?_
  refine lv_iconst (v := nI 3) hx hb d_Re_begin_5 (by decide) ?_
  refine lv_icmp_ne (tgt := 14) hx hb d_Re_begin_6 (by decide) (fun c_1 => ?_) (fun c_1 => ?_)
  · skip
    refine lv_ldc (v := nI 32768) hx hb hown (hts _ w_305) d_Re_begin_14 ?_
    refine wrV ⟨hx, hb, hml, hown, hts⟩ hK hP hD hS hA (k_Re_setField l (f := f) (x_f := x_f) (o := 0) (n := 2) (v := (nI 32768)) hx_f (by omega)) w_173 m_Re_setField ⟨by decide, by decide⟩ 2 rfl rfl rfl hl.1 rfl (Nat.le_of_ble_eq_true rfl) d_Re_begin_16 ⟨Nat.zero_le _, Nat.zero_le _⟩ (fun H locs hP hD hS => ?_)
    have hP : va_P D vwC (wsC ct ad (re_set B f 0 2 (nI 32768)) g tk fr LP pr) H := hP
    have hD : va_D A (wsC ct ad (re_set B f 0 2 (nI 32768)) g tk fr LP pr) := hD
    refine W.eq (g2 := F0 m 19 ls []) rfl ?_
    refine lv_aload_n hx hb d_Re_begin_19 rfl (lv_at hl 0 rfl) ?_
    refine lv_iload_n hx hb d_Re_begin_20 rfl (lv_at hl 1 rfl) ?_
    refine lv_iload_n hx hb d_Re_begin_21 rfl (lv_at hl 3 rfl) ?_
    refine wrV ⟨hx, hb, hml, hown, hts⟩ hK hP hD hS hA (k_Re_setLinks l (f := f) (x_f := x_f) (v := v) hx_f ) w_306 m_Re_setLinks ⟨by decide, by decide⟩ 2 rfl rfl rfl hl.1 rfl (Nat.le_of_ble_eq_true rfl) d_Re_begin_22 ⟨Nat.zero_le _, Nat.zero_le _⟩ (fun H locs hP hD hS => ?_)
    have hP : va_P D vwC (wsC ct ad (re_set (re_set B f 0 2 (nI 32768)) f 26 2 v) g tk fr LP pr) H := hP
    have hD : va_D A (wsC ct ad (re_set (re_set B f 0 2 (nI 32768)) f 26 2 v) g tk fr LP pr) := hD
    refine W.eq (g2 := F0 m 25 ls []) rfl ?_
    have e9 : wsC ct ad (re_set (re_set B f 0 2 (nI 32768)) f 26 2 v) g tk fr LP pr = wsC ct ad (re_beg B f k v) g tk fr LP pr := (by unfold re_beg; first | rw [if_pos (by assumption)] | rw [if_neg (by assumption)])
    rw [e9] at hP hD
    exact W.vret hx hb hr (fun t9 ht hW => ⟨rfl, by rw [ht]; exact hP, hD, hS.F ht⟩) hS.2.2 d_Re_begin_25
  · skip
    refine lv_ldc (v := nI 40960) hx hb hown (hts _ w_304) d_Re_begin_9 ?_
    refine lv_goto (tgt := 16) hx hb d_Re_begin_11 (by decide) ?_
    refine wrV ⟨hx, hb, hml, hown, hts⟩ hK hP hD hS hA (k_Re_setField l (f := f) (x_f := x_f) (o := 0) (n := 2) (v := (nI 40960)) hx_f (by omega)) w_173 m_Re_setField ⟨by decide, by decide⟩ 2 rfl rfl rfl hl.1 rfl (Nat.le_of_ble_eq_true rfl) d_Re_begin_16 ⟨Nat.zero_le _, Nat.zero_le _⟩ (fun H locs hP hD hS => ?_)
    have hP : va_P D vwC (wsC ct ad (re_set B f 0 2 (nI 40960)) g tk fr LP pr) H := hP
    have hD : va_D A (wsC ct ad (re_set B f 0 2 (nI 40960)) g tk fr LP pr) := hD
    refine W.eq (g2 := F0 m 19 ls []) rfl ?_
    refine lv_aload_n hx hb d_Re_begin_19 rfl (lv_at hl 0 rfl) ?_
    refine lv_iload_n hx hb d_Re_begin_20 rfl (lv_at hl 1 rfl) ?_
    refine lv_iload_n hx hb d_Re_begin_21 rfl (lv_at hl 3 rfl) ?_
    refine wrV ⟨hx, hb, hml, hown, hts⟩ hK hP hD hS hA (k_Re_setLinks l (f := f) (x_f := x_f) (v := v) hx_f ) w_306 m_Re_setLinks ⟨by decide, by decide⟩ 2 rfl rfl rfl hl.1 rfl (Nat.le_of_ble_eq_true rfl) d_Re_begin_22 ⟨Nat.zero_le _, Nat.zero_le _⟩ (fun H locs hP hD hS => ?_)
    have hP : va_P D vwC (wsC ct ad (re_set (re_set B f 0 2 (nI 40960)) f 26 2 v) g tk fr LP pr) H := hP
    have hD : va_D A (wsC ct ad (re_set (re_set B f 0 2 (nI 40960)) f 26 2 v) g tk fr LP pr) := hD
    refine W.eq (g2 := F0 m 25 ls []) rfl ?_
    have e9 : wsC ct ad (re_set (re_set B f 0 2 (nI 40960)) f 26 2 v) g tk fr LP pr = wsC ct ad (re_beg B f k v) g tk fr LP pr := (by unfold re_beg; first | rw [if_pos (by assumption)] | rw [if_neg (by assumption)])
    rw [e9] at hP hD
    exact W.vret hx hb hr (fun t9 ht hW => ⟨rfl, by rw [ht]; exact hP, hD, hS.F ht⟩) hS.2.2 d_Re_begin_25
theorem m_Re_addBlock : mV R_Re y_Re_addBlock (Cond.code y_Re_addBlock c_Re_addBlock 4 none) 3 := ⟨⟨w_372, w_373, w_4, w_374⟩, by decide +kernel⟩
set_option maxHeartbeats 4000000 in
set_option maxRecDepth 100000 in
theorem k_Re_addBlock (l : Launch) {D : va_G} {ct : Nat → ClassId} {ad : Nat → Nat} {B : Nat → Int32} {g : Nat → Option Nat} {tk : Nat → Int32} {fr : Int32} {LP : List Nat} {pr : Nat → Nat → Int32} {A : Nat → Prop} {f : Nat} {x_f : Int32} (hx_f : x_f.toNatClampNeg = f) {k : Nat} {v : Int32} (h0 : k < 15) : Met l y_Re_addBlock (Cond.code y_Re_addBlock c_Re_addBlock 4 none :: wA) (rmk 4 0 0) (va_Pc [.ref (ad 2), .int x_f, .int (nI k), .int v] (cW A D (tyC ct) (wsC ct ad B g tk fr LP pr))) (wQ none A D (wsC ct ad (re_add B f k v) g tk fr LP pr)) 0 0 A := by
  refine Met.ofW (cc := c_Re_addBlock) (maxL := 4) (ret := none) (by decide +kernel) rfl ?_
  intro p e s m args below meth c s₁ B0 hml hv
  obtain ⟨rfl, hA, hP, hD, hK⟩ := hv
  have hS : va_S A s.heap s.heap [] := va_S.rf
  have hx := B0.exec
  have hb := B0.bytes
  have hr := B0.returns
  have hts := fun w (h : w ∈ wA) => atoms_spec (ws := Cond.code y_Re_addBlock c_Re_addBlock 4 none :: wA) B0.pre w (List.mem_cons_of_mem _ h)
  have hown : s.vm.findClass R_Re = some m.cls := findClass_of_methodNamed B0.named
  have hlocks := B0.notSynchronized
  have hl := lv_entry ([.ref (ad 2), .int x_f, .int (nI k), .int v]) (n := 4) (Nat.le_of_ble_eq_true rfl)
  rw [lg_entry_eq]
  generalize (lg_sl ([.ref (ad 2), .int x_f, .int (nI k), .int v]) ++ List.replicate (4 - (lg_sl ([.ref (ad 2), .int x_f, .int (nI k), .int v])).length) Slot.unset).toArray = ls at hl ⊢
  have hl : lv_has ls 4 [(0, .ref (ad 2)), (1, .int x_f), (2, .int (nI k)), (3, .int v)] := hl
  have hf_f : x_f.toInt.toNat = f := hx_f
  have hg_f := z_lt x_f
  refine lv_aload_n hx hb d_Re_addBlock_0 rfl (lv_at hl 0 rfl) ?_
  refine lv_iload_n hx hb d_Re_addBlock_1 rfl (lv_at hl 1 rfl) ?_
  refine lv_bipush (v := nI 40) hx hb d_Re_addBlock_2 (by decide) ?_
  refine lv_iconst (v := nI 4) hx hb d_Re_addBlock_4 (by decide) ?_
  refine lv_iload_n hx hb d_Re_addBlock_5 rfl (lv_at hl 2 rfl) ?_
  refine ln_imul hx hb d_Re_addBlock_6 ?_
  refine ln_iadd hx hb d_Re_addBlock_7 ?_
  refine lv_iconst (v := nI 4) hx hb d_Re_addBlock_8 (by decide) ?_
  refine lv_iload_n hx hb d_Re_addBlock_9 rfl (lv_at hl 3 rfl) ?_
  refine wrV ⟨hx, hb, hml, hown, hts⟩ hK hP hD hS hA (k_Re_setField l (f := f) (x_f := x_f) (o := (40 + (4 * k))) (n := 4) (v := v) hx_f (by omega)) w_173 m_Re_setField ⟨by decide, by decide⟩ 2 rfl rfl rfl hl.1 rfl (Nat.le_of_ble_eq_true rfl) d_Re_addBlock_10 ⟨Nat.zero_le _, Nat.zero_le _⟩ (fun H locs hP hD hS => ?_)
  have hP : va_P D vwC (wsC ct ad (re_set B f (40 + (4 * k)) 4 v) g tk fr LP pr) H := hP
  have hD : va_D A (wsC ct ad (re_set B f (40 + (4 * k)) 4 v) g tk fr LP pr) := hD
  refine W.eq (g2 := F0 m 13 ls []) rfl ?_
  refine lv_aload_n hx hb d_Re_addBlock_13 rfl (lv_at hl 0 rfl) ?_
  refine lv_iload_n hx hb d_Re_addBlock_14 rfl (lv_at hl 1 rfl) ?_
  refine lv_bipush (v := nI 28) hx hb d_Re_addBlock_15 (by decide) ?_
  refine lv_iconst (v := nI 4) hx hb d_Re_addBlock_17 (by decide) ?_
  refine lv_iconst (v := nI 2) hx hb d_Re_addBlock_18 (by decide) ?_
  refine lv_aload_n hx hb d_Re_addBlock_19 rfl (lv_at hl 0 rfl) ?_
  refine lv_iload_n hx hb d_Re_addBlock_20 rfl (lv_at hl 1 rfl) ?_
  refine rdV ⟨hx, hb, hml, hown, hts⟩ hK hP (k_Re_blocksOf l (f := f) (x_f := x_f) hx_f ) w_186 m_Re_blocksOf ⟨by decide, by decide⟩ 2 rfl rfl rfl hl.1 rfl (Nat.le_of_ble_eq_true rfl) d_Re_addBlock_21 ⟨Nat.zero_le _, Nat.zero_le _⟩ ?_
  refine lv_iconst (v := nI 1) hx hb d_Re_addBlock_24 (by decide) ?_
  refine lv_iadd hx hb d_Re_addBlock_25 ?_
  refine lv_imul hx hb d_Re_addBlock_26 ?_
  refine wrV ⟨hx, hb, hml, hown, hts⟩ hK hP hD hS hA (k_Re_setField l (f := f) (x_f := x_f) (o := 28) (n := 4) (v := ((nI 2) * ((re_nb (re_set B f (40 + (4 * k)) 4 v) f) + (nI 1)))) hx_f (by omega)) w_173 m_Re_setField ⟨by decide, by decide⟩ 2 rfl rfl rfl hl.1 rfl (Nat.le_of_ble_eq_true rfl) d_Re_addBlock_27 ⟨Nat.zero_le _, Nat.zero_le _⟩ (fun H locs hP hD hS => ?_)
  have hP : va_P D vwC (wsC ct ad (re_set (re_set B f (40 + (4 * k)) 4 v) f 28 4 ((nI 2) * ((re_nb (re_set B f (40 + (4 * k)) 4 v) f) + (nI 1)))) g tk fr LP pr) H := hP
  have hD : va_D A (wsC ct ad (re_set (re_set B f (40 + (4 * k)) 4 v) f 28 4 ((nI 2) * ((re_nb (re_set B f (40 + (4 * k)) 4 v) f) + (nI 1)))) g tk fr LP pr) := hD
  refine W.eq (g2 := F0 m 30 ls []) rfl ?_
  have e9 : wsC ct ad (re_set (re_set B f (40 + (4 * k)) 4 v) f 28 4 ((nI 2) * ((re_nb (re_set B f (40 + (4 * k)) 4 v) f) + (nI 1)))) g tk fr LP pr = wsC ct ad (re_add B f k v) g tk fr LP pr := rfl
  rw [e9] at hP hD
  exact W.vret hx hb hr (fun t9 ht hW => ⟨rfl, by rw [ht]; exact hP, hD, hS.F ht⟩) hS.2.2 d_Re_addBlock_30
theorem m_Re_removeBlock : mV R_Re y_Re_removeBlock (Cond.code y_Re_removeBlock c_Re_removeBlock 3 none) 2 := ⟨⟨w_192, w_193, w_4, w_194⟩, by decide +kernel⟩
set_option maxHeartbeats 4000000 in
set_option maxRecDepth 100000 in
theorem k_Re_removeBlock (l : Launch) {D : va_G} {ct : Nat → ClassId} {ad : Nat → Nat} {B : Nat → Int32} {g : Nat → Option Nat} {tk : Nat → Int32} {fr : Int32} {LP : List Nat} {pr : Nat → Nat → Int32} {A : Nat → Prop} {f : Nat} {x_f : Int32} (hx_f : x_f.toNatClampNeg = f) {k : Nat} (h0 : k < 15) : Met l y_Re_removeBlock (Cond.code y_Re_removeBlock c_Re_removeBlock 3 none :: wA) (rmk 4 0 0) (va_Pc [.ref (ad 2), .int x_f, .int (nI k)] (cW A D (tyC ct) (wsC ct ad B g tk fr LP pr))) (wQ none A D (wsC ct ad (re_rem B f k) g tk fr LP pr)) 0 0 A := by
  refine Met.ofW (cc := c_Re_removeBlock) (maxL := 3) (ret := none) (by decide +kernel) rfl ?_
  intro p e s m args below meth c s₁ B0 hml hv
  obtain ⟨rfl, hA, hP, hD, hK⟩ := hv
  have hS : va_S A s.heap s.heap [] := va_S.rf
  have hx := B0.exec
  have hb := B0.bytes
  have hr := B0.returns
  have hts := fun w (h : w ∈ wA) => atoms_spec (ws := Cond.code y_Re_removeBlock c_Re_removeBlock 3 none :: wA) B0.pre w (List.mem_cons_of_mem _ h)
  have hown : s.vm.findClass R_Re = some m.cls := findClass_of_methodNamed B0.named
  have hlocks := B0.notSynchronized
  have hl := lv_entry ([.ref (ad 2), .int x_f, .int (nI k)]) (n := 3) (Nat.le_of_ble_eq_true rfl)
  rw [lg_entry_eq]
  generalize (lg_sl ([.ref (ad 2), .int x_f, .int (nI k)]) ++ List.replicate (3 - (lg_sl ([.ref (ad 2), .int x_f, .int (nI k)])).length) Slot.unset).toArray = ls at hl ⊢
  have hl : lv_has ls 3 [(0, .ref (ad 2)), (1, .int x_f), (2, .int (nI k))] := hl
  have hf_f : x_f.toInt.toNat = f := hx_f
  have hg_f := z_lt x_f
  refine lv_aload_n hx hb d_Re_removeBlock_0 rfl (lv_at hl 0 rfl) ?_
  refine lv_iload_n hx hb d_Re_removeBlock_1 rfl (lv_at hl 1 rfl) ?_
  refine lv_bipush (v := nI 40) hx hb d_Re_removeBlock_2 (by decide) ?_
  refine lv_iconst (v := nI 4) hx hb d_Re_removeBlock_4 (by decide) ?_
  refine lv_iload_n hx hb d_Re_removeBlock_5 rfl (lv_at hl 2 rfl) ?_
  refine ln_imul hx hb d_Re_removeBlock_6 ?_
  refine ln_iadd hx hb d_Re_removeBlock_7 ?_
  refine lv_iconst (v := nI 4) hx hb d_Re_removeBlock_8 (by decide) ?_
  refine lv_iconst (v := nI 0) hx hb d_Re_removeBlock_9 (by decide) ?_
  refine wrV ⟨hx, hb, hml, hown, hts⟩ hK hP hD hS hA (k_Re_setField l (f := f) (x_f := x_f) (o := (40 + (4 * k))) (n := 4) (v := (nI 0)) hx_f (by omega)) w_173 m_Re_setField ⟨by decide, by decide⟩ 2 rfl rfl rfl hl.1 rfl (Nat.le_of_ble_eq_true rfl) d_Re_removeBlock_10 ⟨Nat.zero_le _, Nat.zero_le _⟩ (fun H locs hP hD hS => ?_)
  have hP : va_P D vwC (wsC ct ad (re_set B f (40 + (4 * k)) 4 (nI 0)) g tk fr LP pr) H := hP
  have hD : va_D A (wsC ct ad (re_set B f (40 + (4 * k)) 4 (nI 0)) g tk fr LP pr) := hD
  refine W.eq (g2 := F0 m 13 ls []) rfl ?_
  refine lv_aload_n hx hb d_Re_removeBlock_13 rfl (lv_at hl 0 rfl) ?_
  refine lv_iload_n hx hb d_Re_removeBlock_14 rfl (lv_at hl 1 rfl) ?_
  refine lv_bipush (v := nI 28) hx hb d_Re_removeBlock_15 (by decide) ?_
  refine lv_iconst (v := nI 4) hx hb d_Re_removeBlock_17 (by decide) ?_
  refine lv_iconst (v := nI 2) hx hb d_Re_removeBlock_18 (by decide) ?_
  refine lv_aload_n hx hb d_Re_removeBlock_19 rfl (lv_at hl 0 rfl) ?_
  refine lv_iload_n hx hb d_Re_removeBlock_20 rfl (lv_at hl 1 rfl) ?_
  refine rdV ⟨hx, hb, hml, hown, hts⟩ hK hP (k_Re_blocksOf l (f := f) (x_f := x_f) hx_f ) w_186 m_Re_blocksOf ⟨by decide, by decide⟩ 2 rfl rfl rfl hl.1 rfl (Nat.le_of_ble_eq_true rfl) d_Re_removeBlock_21 ⟨Nat.zero_le _, Nat.zero_le _⟩ ?_
  refine lv_iconst (v := nI 1) hx hb d_Re_removeBlock_24 (by decide) ?_
  refine lv_isub hx hb d_Re_removeBlock_25 ?_
  refine lv_imul hx hb d_Re_removeBlock_26 ?_
  refine wrV ⟨hx, hb, hml, hown, hts⟩ hK hP hD hS hA (k_Re_setField l (f := f) (x_f := x_f) (o := 28) (n := 4) (v := ((nI 2) * ((re_nb (re_set B f (40 + (4 * k)) 4 (nI 0)) f) - (nI 1)))) hx_f (by omega)) w_173 m_Re_setField ⟨by decide, by decide⟩ 2 rfl rfl rfl hl.1 rfl (Nat.le_of_ble_eq_true rfl) d_Re_removeBlock_27 ⟨Nat.zero_le _, Nat.zero_le _⟩ (fun H locs hP hD hS => ?_)
  have hP : va_P D vwC (wsC ct ad (re_set (re_set B f (40 + (4 * k)) 4 (nI 0)) f 28 4 ((nI 2) * ((re_nb (re_set B f (40 + (4 * k)) 4 (nI 0)) f) - (nI 1)))) g tk fr LP pr) H := hP
  have hD : va_D A (wsC ct ad (re_set (re_set B f (40 + (4 * k)) 4 (nI 0)) f 28 4 ((nI 2) * ((re_nb (re_set B f (40 + (4 * k)) 4 (nI 0)) f) - (nI 1)))) g tk fr LP pr) := hD
  refine W.eq (g2 := F0 m 30 ls []) rfl ?_
  have e9 : wsC ct ad (re_set (re_set B f (40 + (4 * k)) 4 (nI 0)) f 28 4 ((nI 2) * ((re_nb (re_set B f (40 + (4 * k)) 4 (nI 0)) f) - (nI 1)))) g tk fr LP pr = wsC ct ad (re_rem B f k) g tk fr LP pr := rfl
  rw [e9] at hP hD
  exact W.vret hx hb hr (fun t9 ht hW => ⟨rfl, by rw [ht]; exact hP, hD, hS.F ht⟩) hS.2.2 d_Re_removeBlock_30
theorem m_Wa_setFirst : mV R_Wa y_Wa_setFirst (Cond.code y_Wa_setFirst c_Wa_setFirst 2 none) 1 := ⟨⟨w_159, wp_2, w_5, w_160⟩, by decide +kernel⟩
set_option maxHeartbeats 4000000 in
set_option maxRecDepth 100000 in
theorem k_Wa_setFirst (l : Launch) {D : va_G} {ct : Nat → ClassId} {ad : Nat → Nat} {B : Nat → Int32} {g : Nat → Option Nat} {tk : Nat → Int32} {fr : Int32} {LP : List Nat} {pr : Nat → Nat → Int32} {A : Nat → Prop} {x : Int32}  : Met l y_Wa_setFirst (Cond.code y_Wa_setFirst c_Wa_setFirst 2 none :: wA) (rmk 2 0 0) (va_Pc [.ref (ad 4), .int x] (cW A D (tyC ct) (wsC ct ad B g tk fr LP pr))) (wQ none A D (wsC ct ad (fr_set B 232 4 x) g tk fr LP pr)) 0 0 A := by
  refine Met.ofW (cc := c_Wa_setFirst) (maxL := 2) (ret := none) (by decide +kernel) rfl ?_
  intro p e s m args below meth c s₁ B0 hml hv
  obtain ⟨rfl, hA, hP, hD, hK⟩ := hv
  have hS : va_S A s.heap s.heap [] := va_S.rf
  have hx := B0.exec
  have hb := B0.bytes
  have hr := B0.returns
  have hts := fun w (h : w ∈ wA) => atoms_spec (ws := Cond.code y_Wa_setFirst c_Wa_setFirst 2 none :: wA) B0.pre w (List.mem_cons_of_mem _ h)
  have hown : s.vm.findClass R_Wa = some m.cls := findClass_of_methodNamed B0.named
  have hlocks := B0.notSynchronized
  have hl := lv_entry ([.ref (ad 4), .int x]) (n := 2) (Nat.le_of_ble_eq_true rfl)
  rw [lg_entry_eq]
  generalize (lg_sl ([.ref (ad 4), .int x]) ++ List.replicate (2 - (lg_sl ([.ref (ad 4), .int x])).length) Slot.unset).toArray = ls at hl ⊢
  have hl : lv_has ls 2 [(0, .ref (ad 4)), (1, .int x)] := hl
  refine lv_aload_n hx hb d_Wa_setFirst_0 rfl (lv_at hl 0 rfl) ?_
  refine va_get (D := D) (ci := 4) (v := .ref (ad 3)) (C := R_Wa) (T := T_Wa) (N := 2) hx hb hts u_Wa hown hK hP 4 rfl rfl 0 (by decide) (hts _ w_80) (fun _ h9 => h9) rfl d_Wa_setFirst_1 ?_
  refine lv_sipush (v := nI 232) hx hb d_Wa_setFirst_4 (by decide) ?_
  refine lv_iconst (v := nI 4) hx hb d_Wa_setFirst_7 (by decide) ?_
  refine lv_iload_n hx hb d_Wa_setFirst_8 rfl (lv_at hl 1 rfl) ?_
  refine wrV ⟨hx, hb, hml, hown, hts⟩ hK hP hD hS hA (k_Fr_setNumber l (a := 232) (n := 4) (v := x) (by omega)) w_161 m_Fr_setNumber ⟨by decide, by decide⟩ 3 rfl rfl rfl hl.1 rfl (Nat.le_of_ble_eq_true rfl) d_Wa_setFirst_9 ⟨Nat.zero_le _, Nat.zero_le _⟩ (fun H locs hP hD hS => ?_)
  have hP : va_P D vwC (wsC ct ad (fr_set B 232 4 x) g tk fr LP pr) H := hP
  have hD : va_D A (wsC ct ad (fr_set B 232 4 x) g tk fr LP pr) := hD
  refine W.eq (g2 := F0 m 12 ls []) rfl ?_
  have e9 : wsC ct ad (fr_set B 232 4 x) g tk fr LP pr = wsC ct ad (fr_set B 232 4 x) g tk fr LP pr := rfl
  rw [e9] at hP hD
  exact W.vret hx hb hr (fun t9 ht hW => ⟨rfl, by rw [ht]; exact hP, hD, hS.F ht⟩) hS.2.2 d_Wa_setFirst_12
theorem m_Wa_add : mV R_Wa y_Wa_add (Cond.code y_Wa_add c_Wa_add 2 none) 1 := ⟨⟨w_311, w_312, w_5, w_313⟩, by decide +kernel⟩
set_option maxHeartbeats 4000000 in
set_option maxRecDepth 100000 in
theorem k_Wa_add (l : Launch) {D : va_G} {ct : Nat → ClassId} {ad : Nat → Nat} {B : Nat → Int32} {g : Nat → Option Nat} {tk : Nat → Int32} {fr : Int32} {LP : List Nat} {pr : Nat → Nat → Int32} {A : Nat → Prop} {f : Nat} {x_f : Int32} (hx_f : x_f.toNatClampNeg = f)  : Met l y_Wa_add (Cond.code y_Wa_add c_Wa_add 2 none :: wA) (rmk 4 0 0) (va_Pc [.ref (ad 4), .int x_f] (cW A D (tyC ct) (wsC ct ad B g tk fr LP pr))) (wQ none A D (wsC ct ad (wa_add B f x_f) g tk fr LP pr)) 0 0 A := by
  refine Met.ofW (cc := c_Wa_add) (maxL := 2) (ret := none) (by decide +kernel) rfl ?_
  intro p e s m args below meth c s₁ B0 hml hv
  obtain ⟨rfl, hA, hP, hD, hK⟩ := hv
  have hS : va_S A s.heap s.heap [] := va_S.rf
  have hx := B0.exec
  have hb := B0.bytes
  have hr := B0.returns
  have hts := fun w (h : w ∈ wA) => atoms_spec (ws := Cond.code y_Wa_add c_Wa_add 2 none :: wA) B0.pre w (List.mem_cons_of_mem _ h)
  have hown : s.vm.findClass R_Wa = some m.cls := findClass_of_methodNamed B0.named
  have hlocks := B0.notSynchronized
  have hl := lv_entry ([.ref (ad 4), .int x_f]) (n := 2) (Nat.le_of_ble_eq_true rfl)
  rw [lg_entry_eq]
  generalize (lg_sl ([.ref (ad 4), .int x_f]) ++ List.replicate (2 - (lg_sl ([.ref (ad 4), .int x_f])).length) Slot.unset).toArray = ls at hl ⊢
  have hl : lv_has ls 2 [(0, .ref (ad 4)), (1, .int x_f)] := hl
  have hf_f : x_f.toInt.toNat = f := hx_f
  have hg_f := z_lt x_f
  refine lv_aload_n hx hb d_Wa_add_0 rfl (lv_at hl 0 rfl) ?_
  refine va_get (D := D) (ci := 4) (v := .ref (ad 2)) (C := R_Wa) (T := T_Wa) (N := 2) hx hb hts u_Wa hown hK hP 4 rfl rfl 1 (by decide) (hts _ w_81) (fun _ h9 => h9) rfl d_Wa_add_1 ?_
  refine lv_iload_n hx hb d_Wa_add_4 rfl (lv_at hl 1 rfl) ?_
  refine lv_aload_n hx hb d_Wa_add_5 rfl (lv_at hl 0 rfl) ?_
  refine rdV ⟨hx, hb, hml, hown, hts⟩ hK hP (k_Wa_first l  ) w_152 m_Wa_first ⟨by decide, by decide⟩ 4 rfl rfl rfl hl.1 rfl (Nat.le_of_ble_eq_true rfl) d_Wa_add_6 ⟨Nat.zero_le _, Nat.zero_le _⟩ ?_
  refine wrV ⟨hx, hb, hml, hown, hts⟩ hK hP hD hS hA (k_Re_setBehind l (f := f) (x_f := x_f) (v := (fr_num B 232 4)) hx_f ) w_169 m_Re_setBehind ⟨by decide, by decide⟩ 2 rfl rfl rfl hl.1 rfl (Nat.le_of_ble_eq_true rfl) d_Wa_add_9 ⟨Nat.zero_le _, Nat.zero_le _⟩ (fun H locs hP hD hS => ?_)
  have hP : va_P D vwC (wsC ct ad (re_set B f 20 4 (fr_num B 232 4)) g tk fr LP pr) H := hP
  have hD : va_D A (wsC ct ad (re_set B f 20 4 (fr_num B 232 4)) g tk fr LP pr) := hD
  refine W.eq (g2 := F0 m 12 ls []) rfl ?_
  refine lv_aload_n hx hb d_Wa_add_12 rfl (lv_at hl 0 rfl) ?_
  refine lv_iload_n hx hb d_Wa_add_13 rfl (lv_at hl 1 rfl) ?_
  refine wrV ⟨hx, hb, hml, hown, hts⟩ hK hP hD hS hA (k_Wa_setFirst l (x := x_f) ) w_157 m_Wa_setFirst ⟨by decide, by decide⟩ 4 rfl rfl rfl hl.1 rfl (Nat.le_of_ble_eq_true rfl) d_Wa_add_14 ⟨Nat.zero_le _, Nat.zero_le _⟩ (fun H locs hP hD hS => ?_)
  have hP : va_P D vwC (wsC ct ad (fr_set (re_set B f 20 4 (fr_num B 232 4)) 232 4 x_f) g tk fr LP pr) H := hP
  have hD : va_D A (wsC ct ad (fr_set (re_set B f 20 4 (fr_num B 232 4)) 232 4 x_f) g tk fr LP pr) := hD
  refine W.eq (g2 := F0 m 17 ls []) rfl ?_
  have e9 : wsC ct ad (fr_set (re_set B f 20 4 (fr_num B 232 4)) 232 4 x_f) g tk fr LP pr = wsC ct ad (wa_add B f x_f) g tk fr LP pr := rfl
  rw [e9] at hP hD
  exact W.vret hx hb hr (fun t9 ht hW => ⟨rfl, by rw [ht]; exact hP, hD, hS.F ht⟩) hS.2.2 d_Wa_add_17
theorem m_Wa_remove : mV R_Wa y_Wa_remove (Cond.code y_Wa_remove c_Wa_remove 3 none) 1 := ⟨⟨w_149, w_150, w_5, w_151⟩, by decide +kernel⟩
set_option maxHeartbeats 4000000 in
set_option maxRecDepth 100000 in
theorem k_Wa_remove (l : Launch) {D : va_G} {ct : Nat → ClassId} {ad : Nat → Nat} {B : Nat → Int32} {g : Nat → Option Nat} {tk : Nat → Int32} {fr : Int32} {LP : List Nat} {pr : Nat → Nat → Int32} {A : Nat → Prop} {f : Nat} {x_f : Int32} (hx_f : x_f.toNatClampNeg = f)  : Met l y_Wa_remove (Cond.code y_Wa_remove c_Wa_remove 3 none :: wA) (rmk 5 0 0) (va_Pc [.ref (ad 4), .int x_f] (cW A D (tyC ct) (wsC ct ad B g tk fr LP pr))) (wQ none A D (wsC ct ad (wa_rem B f x_f) g tk fr LP pr)) 0 0 A := by
  refine Met.ofW (cc := c_Wa_remove) (maxL := 3) (ret := none) (by decide +kernel) rfl ?_
  intro p e s m args below meth c s₁ B0 hml hv
  obtain ⟨rfl, hA, hP, hD, hK⟩ := hv
  have hS : va_S A s.heap s.heap [] := va_S.rf
  have hx := B0.exec
  have hb := B0.bytes
  have hr := B0.returns
  have hts := fun w (h : w ∈ wA) => atoms_spec (ws := Cond.code y_Wa_remove c_Wa_remove 3 none :: wA) B0.pre w (List.mem_cons_of_mem _ h)
  have hown : s.vm.findClass R_Wa = some m.cls := findClass_of_methodNamed B0.named
  have hlocks := B0.notSynchronized
  have hl := lv_entry ([.ref (ad 4), .int x_f]) (n := 3) (Nat.le_of_ble_eq_true rfl)
  rw [lg_entry_eq]
  generalize (lg_sl ([.ref (ad 4), .int x_f]) ++ List.replicate (3 - (lg_sl ([.ref (ad 4), .int x_f])).length) Slot.unset).toArray = ls at hl ⊢
  have hl : lv_has ls 3 [(0, .ref (ad 4)), (1, .int x_f)] := hl
  have hf_f : x_f.toInt.toNat = f := hx_f
  have hg_f := z_lt x_f
  refine lv_aload_n hx hb d_Wa_remove_0 rfl (lv_at hl 0 rfl) ?_
  refine rdV ⟨hx, hb, hml, hown, hts⟩ hK hP (k_Wa_first l  ) w_152 m_Wa_first ⟨by decide, by decide⟩ 4 rfl rfl rfl hl.1 rfl (Nat.le_of_ble_eq_true rfl) d_Wa_remove_1 ⟨Nat.zero_le _, Nat.zero_le _⟩ ?_
  refine lv_iload_n hx hb d_Wa_remove_4 rfl (lv_at hl 1 rfl) ?_
  refine lv_icmp_ne (tgt := 23) hx hb d_Wa_remove_5 (by decide) (fun c_1 => ?_) (fun c_1 => ?_)
  · skip
    refine lv_aload_n hx hb d_Wa_remove_23 rfl (lv_at hl 0 rfl) ?_
    refine lv_iload_n hx hb d_Wa_remove_24 rfl (lv_at hl 1 rfl) ?_
    refine rdV ⟨hx, hb, hml, hown, hts⟩ hK hP (k_Wa_fileBefore l (y := x_f) ) w_165 m_Wa_fileBefore ⟨by decide, by decide⟩ 4 rfl rfl rfl hl.1 rfl (Nat.le_of_ble_eq_true rfl) d_Wa_remove_25 ⟨Nat.zero_le _, Nat.zero_le _⟩ ?_
    refine lv_istore_n (lv' := [(2, .int (wa_bef B x_f 12 (fr_num B 232 4))), (0, .ref (ad 4)), (1, .int x_f)]) hx hb d_Wa_remove_28 rfl hl (by decide) rfl (fun ls hl => ?_)
    refine lv_aload_n hx hb d_Wa_remove_29 rfl (lv_at hl 1 rfl) ?_
    refine va_get (D := D) (ci := 4) (v := .ref (ad 2)) (C := R_Wa) (T := T_Wa) (N := 2) hx hb hts u_Wa hown hK hP 4 rfl rfl 1 (by decide) (hts _ w_81) (fun _ h9 => h9) rfl d_Wa_remove_30 ?_
    refine lv_iload_n hx hb d_Wa_remove_33 rfl (lv_at hl 0 rfl) ?_
    refine lv_aload_n hx hb d_Wa_remove_34 rfl (lv_at hl 1 rfl) ?_
    refine va_get (D := D) (ci := 4) (v := .ref (ad 2)) (C := R_Wa) (T := T_Wa) (N := 2) hx hb hts u_Wa hown hK hP 4 rfl rfl 1 (by decide) (hts _ w_81) (fun _ h9 => h9) rfl d_Wa_remove_35 ?_
    refine lv_iload_n hx hb d_Wa_remove_38 rfl (lv_at hl 2 rfl) ?_
    refine rdV ⟨hx, hb, hml, hown, hts⟩ hK hP (k_Re_behind l (f := f) (x_f := x_f) hx_f ) w_153 m_Re_behind ⟨by decide, by decide⟩ 2 rfl rfl rfl hl.1 rfl (Nat.le_of_ble_eq_true rfl) d_Wa_remove_39 ⟨Nat.zero_le _, Nat.zero_le _⟩ ?_
    refine wrV ⟨hx, hb, hml, hown, hts⟩ hK hP hD hS hA (k_Re_setBehind l (f := (wa_bef B x_f 12 (fr_num B 232 4)).toNatClampNeg) (x_f := (wa_bef B x_f 12 (fr_num B 232 4))) (v := (re_f B f 20 4)) rfl ) w_169 m_Re_setBehind ⟨by decide, by decide⟩ 2 rfl rfl rfl hl.1 rfl (Nat.le_of_ble_eq_true rfl) d_Wa_remove_42 ⟨Nat.zero_le _, Nat.zero_le _⟩ (fun H locs hP hD hS => ?_)
    have hP : va_P D vwC (wsC ct ad (re_set B (wa_bef B x_f 12 (fr_num B 232 4)).toNatClampNeg 20 4 (re_f B f 20 4)) g tk fr LP pr) H := hP
    have hD : va_D A (wsC ct ad (re_set B (wa_bef B x_f 12 (fr_num B 232 4)).toNatClampNeg 20 4 (re_f B f 20 4)) g tk fr LP pr) := hD
    refine W.eq (g2 := F0 m 45 ls []) rfl ?_
    refine lv_aload_n hx hb d_Wa_remove_45 rfl (lv_at hl 1 rfl) ?_
    refine va_get (D := D) (ci := 4) (v := .ref (ad 2)) (C := R_Wa) (T := T_Wa) (N := 2) hx hb hts u_Wa hown hK hP 4 rfl rfl 1 (by decide) (hts _ w_81) (fun _ h9 => h9) rfl d_Wa_remove_46 ?_
    refine lv_iload_n hx hb d_Wa_remove_49 rfl (lv_at hl 2 rfl) ?_
    refine lv_iconst (v := nI 0) hx hb d_Wa_remove_50 (by decide) ?_
    refine wrV ⟨hx, hb, hml, hown, hts⟩ hK hP hD hS hA (k_Re_setBehind l (f := f) (x_f := x_f) (v := (nI 0)) hx_f ) w_169 m_Re_setBehind ⟨by decide, by decide⟩ 2 rfl rfl rfl hl.1 rfl (Nat.le_of_ble_eq_true rfl) d_Wa_remove_51 ⟨Nat.zero_le _, Nat.zero_le _⟩ (fun H locs hP hD hS => ?_)
    have hP : va_P D vwC (wsC ct ad (re_set (re_set B (wa_bef B x_f 12 (fr_num B 232 4)).toNatClampNeg 20 4 (re_f B f 20 4)) f 20 4 (nI 0)) g tk fr LP pr) H := hP
    have hD : va_D A (wsC ct ad (re_set (re_set B (wa_bef B x_f 12 (fr_num B 232 4)).toNatClampNeg 20 4 (re_f B f 20 4)) f 20 4 (nI 0)) g tk fr LP pr) := hD
    refine W.eq (g2 := F0 m 54 ls []) rfl ?_
    have e9 : wsC ct ad (re_set (re_set B (wa_bef B x_f 12 (fr_num B 232 4)).toNatClampNeg 20 4 (re_f B f 20 4)) f 20 4 (nI 0)) g tk fr LP pr = wsC ct ad (wa_rem B f x_f) g tk fr LP pr := (by unfold wa_rem wa_rem1; first | rw [if_pos (by assumption)] | rw [if_neg (by assumption)])
    rw [e9] at hP hD
    exact W.vret hx hb hr (fun t9 ht hW => ⟨rfl, by rw [ht]; exact hP, hD, hS.F ht⟩) hS.2.2 d_Wa_remove_54
  · skip
    refine lv_aload_n hx hb d_Wa_remove_8 rfl (lv_at hl 0 rfl) ?_
    refine lv_aload_n hx hb d_Wa_remove_9 rfl (lv_at hl 0 rfl) ?_
    refine va_get (D := D) (ci := 4) (v := .ref (ad 2)) (C := R_Wa) (T := T_Wa) (N := 2) hx hb hts u_Wa hown hK hP 4 rfl rfl 1 (by decide) (hts _ w_81) (fun _ h9 => h9) rfl d_Wa_remove_10 ?_
    refine lv_iload_n hx hb d_Wa_remove_13 rfl (lv_at hl 1 rfl) ?_
    refine rdV ⟨hx, hb, hml, hown, hts⟩ hK hP (k_Re_behind l (f := f) (x_f := x_f) hx_f ) w_153 m_Re_behind ⟨by decide, by decide⟩ 2 rfl rfl rfl hl.1 rfl (Nat.le_of_ble_eq_true rfl) d_Wa_remove_14 ⟨Nat.zero_le _, Nat.zero_le _⟩ ?_
    refine wrV ⟨hx, hb, hml, hown, hts⟩ hK hP hD hS hA (k_Wa_setFirst l (x := (re_f B f 20 4)) ) w_157 m_Wa_setFirst ⟨by decide, by decide⟩ 4 rfl rfl rfl hl.1 rfl (Nat.le_of_ble_eq_true rfl) d_Wa_remove_17 ⟨Nat.zero_le _, Nat.zero_le _⟩ (fun H locs hP hD hS => ?_)
    have hP : va_P D vwC (wsC ct ad (fr_set B 232 4 (re_f B f 20 4)) g tk fr LP pr) H := hP
    have hD : va_D A (wsC ct ad (fr_set B 232 4 (re_f B f 20 4)) g tk fr LP pr) := hD
    refine W.eq (g2 := F0 m 20 ls []) rfl ?_
    refine lv_goto (tgt := 45) hx hb d_Wa_remove_20 (by decide) ?_
    refine lv_aload_n hx hb d_Wa_remove_45 rfl (lv_at hl 0 rfl) ?_
    refine va_get (D := D) (ci := 4) (v := .ref (ad 2)) (C := R_Wa) (T := T_Wa) (N := 2) hx hb hts u_Wa hown hK hP 4 rfl rfl 1 (by decide) (hts _ w_81) (fun _ h9 => h9) rfl d_Wa_remove_46 ?_
    refine lv_iload_n hx hb d_Wa_remove_49 rfl (lv_at hl 1 rfl) ?_
    refine lv_iconst (v := nI 0) hx hb d_Wa_remove_50 (by decide) ?_
    refine wrV ⟨hx, hb, hml, hown, hts⟩ hK hP hD hS hA (k_Re_setBehind l (f := f) (x_f := x_f) (v := (nI 0)) hx_f ) w_169 m_Re_setBehind ⟨by decide, by decide⟩ 2 rfl rfl rfl hl.1 rfl (Nat.le_of_ble_eq_true rfl) d_Wa_remove_51 ⟨Nat.zero_le _, Nat.zero_le _⟩ (fun H locs hP hD hS => ?_)
    have hP : va_P D vwC (wsC ct ad (re_set (fr_set B 232 4 (re_f B f 20 4)) f 20 4 (nI 0)) g tk fr LP pr) H := hP
    have hD : va_D A (wsC ct ad (re_set (fr_set B 232 4 (re_f B f 20 4)) f 20 4 (nI 0)) g tk fr LP pr) := hD
    refine W.eq (g2 := F0 m 54 ls []) rfl ?_
    have e9 : wsC ct ad (re_set (fr_set B 232 4 (re_f B f 20 4)) f 20 4 (nI 0)) g tk fr LP pr = wsC ct ad (wa_rem B f x_f) g tk fr LP pr := (by unfold wa_rem wa_rem1; first | rw [if_pos (by assumption)] | rw [if_neg (by assumption)])
    rw [e9] at hP hD
    exact W.vret hx hb hr (fun t9 ht hW => ⟨rfl, by rw [ht]; exact hP, hD, hS.F ht⟩) hS.2.2 d_Wa_remove_54
theorem m_Db_give : mV R_Db y_Db_give (Cond.code y_Db_give c_Db_give 2 none) 1 := ⟨⟨w_188, w_189, w_3, w_190⟩, by decide +kernel⟩
set_option maxHeartbeats 4000000 in
set_option maxRecDepth 100000 in
theorem k_Db_give (l : Launch) {D : va_G} {ct : Nat → ClassId} {ad : Nat → Nat} {B : Nat → Int32} {g : Nat → Option Nat} {tk : Nat → Int32} {fr : Int32} {LP : List Nat} {pr : Nat → Nat → Int32} {A : Nat → Prop} {b : Int} {x_b : Int32} (hx_b : x_b.toInt = b)  : Met l y_Db_give (Cond.code y_Db_give c_Db_give 2 none :: wA) (rmk 1 0 0) (va_Pc [.ref (ad 1), .int x_b] (cW A D (tyC ct) (wsC ct ad B g tk fr LP pr))) (wQ none A D (wsC ct ad B g (db_gt tk b) (db_gf tk fr b) LP pr)) 0 0 A := by
  refine Met.ofW (cc := c_Db_give) (maxL := 2) (ret := none) (by decide +kernel) rfl ?_
  intro p e s m args below meth c s₁ B0 hml hv
  obtain ⟨rfl, hA, hP, hD, hK⟩ := hv
  have hS : va_S A s.heap s.heap [] := va_S.rf
  have hx := B0.exec
  have hb := B0.bytes
  have hr := B0.returns
  have hts := fun w (h : w ∈ wA) => atoms_spec (ws := Cond.code y_Db_give c_Db_give 2 none :: wA) B0.pre w (List.mem_cons_of_mem _ h)
  have hown : s.vm.findClass R_Db = some m.cls := findClass_of_methodNamed B0.named
  have hlocks := B0.notSynchronized
  have hl := lv_entry ([.ref (ad 1), .int x_b]) (n := 2) (Nat.le_of_ble_eq_true rfl)
  rw [lg_entry_eq]
  generalize (lg_sl ([.ref (ad 1), .int x_b]) ++ List.replicate (2 - (lg_sl ([.ref (ad 1), .int x_b])).length) Slot.unset).toArray = ls at hl ⊢
  have hl : lv_has ls 2 [(0, .ref (ad 1)), (1, .int x_b)] := hl
  have hf_b := z_lt x_b
  have hg_b := z_ge x_b
  rw [hx_b] at hf_b hg_b
  refine lv_iload_n hx hb d_Db_give_0 rfl (lv_at hl 1 rfl) ?_
  refine lv_iconst (v := nI 4) hx hb d_Db_give_1 (by decide) ?_
  refine lz_icmp_lt (tgt := 38) hx hb hx_b (nI_toInt (by omega)) d_Db_give_2 (by decide) (fun c_1 => ?_) (fun c_1 => ?_)
  · skip
    have e9 : wsC ct ad B g tk fr LP pr = wsC ct ad B g (db_gt tk b) (db_gf tk fr b) LP pr := (by unfold db_gt db_gf; first | (rw [if_neg (by rintro (q | q | q); exact absurd q (by omega); exact absurd q (by omega); exact absurd q (by rw [Int.toNat_natCast]; assumption)), if_neg (by rintro (q | q | q); exact absurd q (by omega); exact absurd q (by omega); exact absurd q (by rw [Int.toNat_natCast]; assumption)), Int.toNat_natCast]; done) | (rw [if_pos (Or.inl (by omega)), if_pos (Or.inl (by omega))]; done) | (rw [if_pos (Or.inr (Or.inl (by omega))), if_pos (Or.inr (Or.inl (by omega)))]; done) | (rw [if_pos (Or.inr (Or.inr (by rw [Int.toNat_natCast]; assumption))), if_pos (Or.inr (Or.inr (by rw [Int.toNat_natCast]; assumption)))]))
    rw [e9] at hP hD
    exact W.vret hx hb hr (fun t9 ht hW => ⟨rfl, by rw [ht]; exact hP, hD, hS.F ht⟩) hS.2.2 d_Db_give_38
  · skip
    refine lv_iload_n hx hb d_Db_give_5 rfl (lv_at hl 1 rfl) ?_
    refine lv_sipush (v := nI 128) hx hb d_Db_give_6 (by decide) ?_
    refine lz_icmp_ge (tgt := 38) hx hb hx_b (nI_toInt (by omega)) d_Db_give_9 (by decide) (fun c_2 => ?_) (fun c_2 => ?_)
    · skip
      have e9 : wsC ct ad B g tk fr LP pr = wsC ct ad B g (db_gt tk b) (db_gf tk fr b) LP pr := (by unfold db_gt db_gf; first | (rw [if_neg (by rintro (q | q | q); exact absurd q (by omega); exact absurd q (by omega); exact absurd q (by rw [Int.toNat_natCast]; assumption)), if_neg (by rintro (q | q | q); exact absurd q (by omega); exact absurd q (by omega); exact absurd q (by rw [Int.toNat_natCast]; assumption)), Int.toNat_natCast]; done) | (rw [if_pos (Or.inl (by omega)), if_pos (Or.inl (by omega))]; done) | (rw [if_pos (Or.inr (Or.inl (by omega))), if_pos (Or.inr (Or.inl (by omega)))]; done) | (rw [if_pos (Or.inr (Or.inr (by rw [Int.toNat_natCast]; assumption))), if_pos (Or.inr (Or.inr (by rw [Int.toNat_natCast]; assumption)))]))
      rw [e9] at hP hD
      exact W.vret hx hb hr (fun t9 ht hW => ⟨rfl, by rw [ht]; exact hP, hD, hS.F ht⟩) hS.2.2 d_Db_give_38
    · skip
      obtain ⟨k, rfl⟩ := Int.eq_ofNat_of_zero_le (show 0 ≤ b by omega)
      obtain rfl : x_b = nI k := z_i hx_b (by omega)
      refine lv_aload_n hx hb d_Db_give_12 rfl (lv_at hl 0 rfl) ?_
      refine va_get (D := D) (ci := 1) (v := .ref (ad 8)) (C := R_Db) (T := T_Db) (N := 3) hx hb hts u_Db hown hK hP 1 rfl rfl 1 (by decide) (hts _ w_54) (fun _ h9 => h9) rfl d_Db_give_13 ?_
      refine lv_iload_n hx hb d_Db_give_16 rfl (lv_at hl 1 rfl) ?_
      refine ln_zald hx hb hK hP 8 1 rfl rfl (by omega) (by decide) d_Db_give_17 ?_
      refine lv_if_eq (tgt := 38) hx hb d_Db_give_18 (by decide) (fun c_3 => ?_) (fun c_3 => ?_)
      · skip
        have e9 : wsC ct ad B g tk fr LP pr = wsC ct ad B g (db_gt tk ((k : Nat) : Int)) (db_gf tk fr ((k : Nat) : Int)) LP pr := (by unfold db_gt db_gf; first | (rw [if_neg (by rintro (q | q | q); exact absurd q (by omega); exact absurd q (by omega); exact absurd q (by rw [Int.toNat_natCast]; assumption)), if_neg (by rintro (q | q | q); exact absurd q (by omega); exact absurd q (by omega); exact absurd q (by rw [Int.toNat_natCast]; assumption)), Int.toNat_natCast]; done) | (rw [if_pos (Or.inl (by omega)), if_pos (Or.inl (by omega))]; done) | (rw [if_pos (Or.inr (Or.inl (by omega))), if_pos (Or.inr (Or.inl (by omega)))]; done) | (rw [if_pos (Or.inr (Or.inr (by rw [Int.toNat_natCast]; assumption))), if_pos (Or.inr (Or.inr (by rw [Int.toNat_natCast]; assumption)))]))
        rw [e9] at hP hD
        exact W.vret hx hb hr (fun t9 ht hW => ⟨rfl, by rw [ht]; exact hP, hD, hS.F ht⟩) hS.2.2 d_Db_give_38
      · skip
        refine lv_aload_n hx hb d_Db_give_21 rfl (lv_at hl 0 rfl) ?_
        refine va_get (D := D) (ci := 1) (v := .ref (ad 8)) (C := R_Db) (T := T_Db) (N := 3) hx hb hts u_Db hown hK hP 1 rfl rfl 1 (by decide) (hts _ w_54) (fun _ h9 => h9) rfl d_Db_give_22 ?_
        refine lv_iload_n hx hb d_Db_give_25 rfl (lv_at hl 1 rfl) ?_
        refine lv_iconst (v := nI 0) hx hb d_Db_give_26 (by decide) ?_
        refine ln_zast hx hb hK hP hD hS 8 1 rfl rfl (by omega) (by decide) d_Db_give_27 (fun H locs hP hD hS => ?_)
        have hP : va_P D vwC (wsC ct ad B g (upd tk k (vp_nar .boolean (nI 0))) fr LP pr) H := hP
        have hD : va_D A (wsC ct ad B g (upd tk k (vp_nar .boolean (nI 0))) fr LP pr) := hD
        refine lv_aload_n hx hb d_Db_give_28 rfl (lv_at hl 0 rfl) ?_
        refine lv_dup hx hb d_Db_give_29 rfl ?_
        refine va_get (D := D) (ci := 1) (v := .int fr) (C := R_Db) (T := T_Db) (N := 3) hx hb hts u_Db hown hK hP 1 rfl rfl 2 (by decide) (hts _ w_55) (fun _ h9 => h9) rfl d_Db_give_30 ?_
        refine lv_iconst (v := nI 1) hx hb d_Db_give_33 (by decide) ?_
        refine lv_iadd hx hb d_Db_give_34 ?_
        refine va_put (D := D) (ci := 1) (v := .int (fr + (nI 1))) (ty := .int) (C := R_Db) (T := T_Db) (N := 3) hx hb hts u_Db t_Db t_Db_ok n_Db hown hK hP hD hS 1 rfl rfl 2 (by decide) (hts _ w_55) (fun _ h9 => h9) rfl (by decide +kernel) rfl rfl (Nat.le_of_ble_eq_true rfl) d_Db_give_35 (fun H locs hP hD hS => ?_)
        have hP : va_P D vwC (wsC ct ad B g (upd tk k (vp_nar .boolean (nI 0))) (fr + (nI 1)) LP pr) H := hP
        have hD : va_D A (wsC ct ad B g (upd tk k (vp_nar .boolean (nI 0))) (fr + (nI 1)) LP pr) := hD
        have e9 : wsC ct ad B g (upd tk k (vp_nar .boolean (nI 0))) (fr + (nI 1)) LP pr = wsC ct ad B g (db_gt tk ((k : Nat) : Int)) (db_gf tk fr ((k : Nat) : Int)) LP pr := (by unfold db_gt db_gf; first | (rw [if_neg (by rintro (q | q | q); exact absurd q (by omega); exact absurd q (by omega); exact absurd q (by rw [Int.toNat_natCast]; assumption)), if_neg (by rintro (q | q | q); exact absurd q (by omega); exact absurd q (by omega); exact absurd q (by rw [Int.toNat_natCast]; assumption)), Int.toNat_natCast]; done) | (rw [if_pos (Or.inl (by omega)), if_pos (Or.inl (by omega))]; done) | (rw [if_pos (Or.inr (Or.inl (by omega))), if_pos (Or.inr (Or.inl (by omega)))]; done) | (rw [if_pos (Or.inr (Or.inr (by rw [Int.toNat_natCast]; assumption))), if_pos (Or.inr (Or.inr (by rw [Int.toNat_natCast]; assumption)))]))
        rw [e9] at hP hD
        exact W.vret hx hb hr (fun t9 ht hW => ⟨rfl, by rw [ht]; exact hP, hD, hS.F ht⟩) hS.2.2 d_Db_give_38
end
section
/-! what the class's larger methods are said in: the rows of blocks as contents, and what the launch gives -/
/-- words on the tables that no warming changes -/
def wF : List Cond := lw_tbl.filter (fun w => w.onTables && w.keepsFace)
theorem wF_moved {s U : State} (hW : s.WarmedH U.vm) (h : ∀ w ∈ wF, w.before #[] s = true) : ∀ w ∈ wF, w.before #[] U = true := by
  intro w hw
  have hg := (List.mem_filter.mp hw).2
  simp only [Bool.and_eq_true] at hg
  have h1 := Cond.before_shiftedFace (State.Shifted.of_warmed hW) w hg.2 (h w hw)
  have e := Cond.onTables_vm (A := #[]) (A' := #[]) (U := s) (U' := U) U.vm w hg.1
  have hU : U.setVm U.vm = U := rfl
  rw [hU] at e
  rw [← e]
  exact h1
/-- the texts of the class's exceptions -/
def strs : List (Nat × String) := [(52, "links is not 0 .. 1000"), (63, "all files are there"), (74, "n is not 1 .. 1000"), (79, "no block is free for the target"), (187, "there is no such plain file"), (189, "so many bytes can't be written at once"), (191, "the place is not in a file"), (197, "fewer blocks are free than are wanted"), (185, "there is no such file"), (114, "i is not 0 .. size less 1"), (124, "size is not 0 .. 15360"), (132, "links would not be 0 .. 1000"), (140, "the file has links"), (152, "file is not 1 .. 12"), (166, "what is not 0 .. 5"), (168, "piece is not 0 .. 14"), (176, "what is not 0 .. 3"), (178, "block is not 0 .. 3"), (180, "i is not 0 .. 1023")]
/-- the class of arrays of byte arrays -/
def rA (ct : Nat → ClassId) (U : State) : Prop := ∃ kA kB : Class, U.vm.classes[ct 2]? = some kA ∧ kA.kind = .array (ct 0) (.array .byte) ∧ U.vm.classes[ct 0]? = some kB
theorem rA_moved {ct : Nat → ClassId} {u U : State} (hvm : u.vm.Alike U.vm) (h : rA ct u) : rA ct U := by
  obtain ⟨kA, kB, h1, h2, h3⟩ := h
  obtain ⟨kA', hA, eA⟩ := hvm.2.2 _ _ h1
  obtain ⟨kB', hB, eB⟩ := hvm.2.2 _ _ h3
  exact ⟨kA', kB', hA, by rw [eA]; exact h2, hB⟩
/-- the rows of blocks: what block b holds, none where no row has been made -/
def rX (g : Nat → Option Nat) (LP : List Nat) (pr : Nat → Nat → Int32) (X : Nat → Option (Nat → Int32)) : Prop :=
  (∀ b, b < 128 → (g b = none ∧ X b = none) ∨ ∃ (y : Nat) (r : Nat → Int32), g b = some y ∧ y ∈ LP ∧ X b = some r ∧ ∀ i, i < 1024 → pr y i = r i) ∧ ∀ b c y, b < 128 → c < 128 → g b = some y → g c = some y → b = c
theorem rX_gOK {g : Nat → Option Nat} {LP : List Nat} {pr : Nat → Nat → Int32} {X : Nat → Option (Nat → Int32)} (h : rX g LP pr X) : gOK g LP := by
  intro b y hb hy
  rcases h.1 b hb with ⟨h1, -⟩ | ⟨z, r, h1, h2, -⟩
  · rw [h1] at hy; cases hy
  · rw [h1] at hy; cases hy; exact h2
theorem wsC_set {A : Nat → Prop} {ct : Nat → ClassId} {ad : Nat → Nat} {B : Nat → Int32} {g : Nat → Option Nat} {tk : Nat → Int32} {fr : Int32} {LP : List Nat} {pr : Nat → Nat → Int32} {y k : Nat} {r : Nat → Int32} (hD : va_D A (wsC ct ad B g tk fr LP pr)) (h : y ∈ LP) (hk : (wsC ct ad B g tk fr LP pr)[k]? = some (y, .inl (ct 0, 1024, .inl (pr y)))) :
    (wsC ct ad B g tk fr LP pr).set k (y, .inl (ct 0, 1024, .inl r)) = wsC ct ad B g tk fr LP (va_up pr y r) := by
  refine (va_pl_set hD h hk).trans ?_
  show _ ++ va_pl LP _ = _ ++ va_pl LP _
  congr 2
  funext a
  by_cases e : a = y
  · subst e; simp [va_up]
  · simp [va_up, e]
theorem va_up_eta {α : Type} (f : Nat → α) (y : Nat) : va_up f y (f y) = f := by
  funext a
  by_cases e : a = y
  · subst e; simp [va_up]
  · simp [va_up, e]
/-- the class's world, its rows as contents -/
def cX (A : Nat → Prop) (D : va_G) (ct : Nat → ClassId) (ad : Nat → Nat) (B : Nat → Int32) (tk : Nat → Int32) (fr : Int32) (X : Nat → Option (Nat → Int32)) (H : Heap) : Prop :=
  ∃ (g : Nat → Option Nat) (LP : List Nat) (pr : Nat → Nat → Int32), rX g LP pr X ∧ va_P D vwC (wsC ct ad B g tk fr LP pr) H ∧ va_D A (wsC ct ad B g tk fr LP pr)
section EC
/-- what the launch gives: the exceptions' static fields, their texts, words on the tables -/
def eC (ct : Nat → ClassId) (A : Nat → Prop) (U : State) : Prop := rA ct U ∧ (∀ w ∈ wF, w.before #[] U = true) ∧ vx_Zq Bundle.tN "UNASSIGNED_STACK" Bundle.steD A U U.heap ∧ vx_Zq Bundle.tN "SUPPRESSED_SENTINEL" Bundle.listD A U U.heap ∧ ∀ q ∈ strs, ∃ sa : Nat, vk_R R_Fb q.1 q.2 sa U
theorem eC_moved {ct : Nat → ClassId} {A : Nat → Prop} {s U : State} {locs : List Loc} (hW : s.WarmedH U.vm) (hS : va_S A s.heap U.heap locs) (h : eC ct A s) : eC ct A U := by
  obtain ⟨h1, h2, h3, h4, h5⟩ := h
  refine ⟨rA_moved hW.alike h1, wF_moved hW h2, (h3.kept hS.2.1).moved hW.alike, (h4.kept hS.2.1).moved hW.alike, fun q hq => ?_⟩
  obtain ⟨sa, h⟩ := h5 q hq
  exact ⟨sa, vk_R.warm hW h⟩
theorem eC_same {ct : Nat → ClassId} {A : Nat → Prop} {u U : State} (hv : U.vm = u.vm) (hh : U.heap = u.heap) (h : eC ct A u) : eC ct A U := by
  obtain ⟨h1, h2, h3, h4, h5⟩ := h
  have hal : u.vm.Alike U.vm := by rw [hv]; exact Vm.Alike.refl u.vm
  refine ⟨rA_moved hal h1, fun w hw => ?_, by rw [hh]; exact h3.moved hal, by rw [hh]; exact h4.moved hal, fun q hq => ?_⟩
  · have hg := (List.mem_filter.mp hw).2
    simp only [Bool.and_eq_true] at hg
    exact va_tabs hg.1 hv.symm (h2 w hw)
  · obtain ⟨sa, h⟩ := h5 q hq
    exact ⟨sa, vk_R.same hv h⟩
end EC
/-- a larger method's start -/
def cS (A : Nat → Prop) (D : va_G) (ct : Nat → ClassId) (ad : Nat → Nat) (B : Nat → Int32) (tk : Nat → Int32) (fr : Int32) (X : Nat → Option (Nat → Int32)) (U : State) : Prop := (∀ q : Nat, U.heap.size ≤ q → A q) ∧ eC ct A U ∧ va_K D vwC (tyC ct) U ∧ cX A D ct ad B tk fr X U.heap
theorem cS_blind {A : Nat → Prop} {D : va_G} {ct : Nat → ClassId} {ad : Nat → Nat} {B : Nat → Int32} {tk : Nat → Int32} {fr : Int32} {X : Nat → Option (Nat → Int32)} {av : List Value} : FrameBlind (va_Pc av (cS A D ct ad B tk fr X)) := fun a U g mk q => ⟨q.1, q.2.1, eC_same (u := U) (U := U.calling g mk a) rfl rfl q.2.2.1, va_K.moved (u := U) (U := U.calling g mk a) (Vm.Alike.refl U.vm) q.2.2.2.1, q.2.2.2.2⟩
/-- .. and its end -/
def xQ (v : Option Value) (A : Nat → Prop) (D : va_G) (ct : Nat → ClassId) (ad : Nat → Nat) (B : Nat → Int32) (tk : Nat → Int32) (fr : Int32) (X : Nat → Option (Nat → Int32)) : Array Value → State → Outcome → State → Prop := fun _ st oc t => oc = .returned v ∧ cX A D ct ad B tk fr X t.heap ∧ va_F A st t
section RWX
variable {p : Program} {l : Launch} {e : Env} {R : Room} {s : State} {m : MethodId} {args : Array Value} {below : List Frame} {meth : Method} {c : Code} {H : Heap} {locs : List Loc} {cells slots : Nat} {Q : State → Prop}
variable {cc : ByteArray} {pc : Nat} {ls : Array Slot} {rest st0 : List Value}
variable {D : va_G} {tys tys' : List (ClassId × FieldType)} {ws ws' : va_W} {own C : String} {T : u_T} {N ci idx maxL nL n k mc ms : Nat} {y : MethodName} {bytes : ByteArray} {ret : Option FieldType} {r : Int32} {v : Option Value} {b : Nat} {As : List Value} {fs : List Value} {A : Nat → Prop}
variable {ct : Nat → ClassId} {ad : Nat → Nat} {B B' : Nat → Int32} {tk tk' : Nat → Int32} {fr fr' : Int32} {X X' : Nat → Option (Nat → Int32)} {g : Nat → Option Nat} {LP : List Nat} {pr : Nat → Nat → Int32}
theorem wrS (S : CallFix p m c cc nL s args wA own) (hK : va_K D vwC tys s) (hP : va_P D vwC ws H) (hD : va_D A ws) (hS : va_S A s.heap H locs) (hA : ∀ q : Nat, s.heap.size ≤ q → A q)
    (hM : Met l y (Cond.code y bytes maxL ret :: wA) (rmk k mc ms) (va_Pc As (cW A D tys ws)) (wQ v A D ws') mc ms A)
    (m1 : Cond.methodLink own idx y ∈ wA) (hm : mS y (Cond.code y bytes maxL ret) n) (hR : 10 * k + 1 ≤ R.frames ∧ 8 + (maxL + 11) + 100 * k ≤ R.locals)
    (hn : As.length = n) (hsz : ls.size = nL) (hst : st0 = As.reverse ++ rest) (hW : (rest.map fun v => v.category).sum ≤ 8)
    (hdg : decode cc pc = .ok (.invokestatic idx, 3)) (hf : cells + mc ≤ R.cells ∧ slots + ms ≤ R.slots)
    (kk : ∀ (H1 : Heap) (locs1 : List Loc), va_P D vwC ws' H1 → va_D A ws' → va_S A s.heap H1 locs1 → W p l e R s m args below meth c H1 locs1 (cells + mc) (slots + ms) Q (F0 m (pc + 3) ls (v.toList ++ rest))) : W p l e R s m args below meth c H locs cells slots Q (F0 m pc ls st0) := by
  obtain ⟨⟨m2, m4, m5⟩, hd⟩ := hm
  exact wq_run (va_runS (As := As) (rest := rest) S hM (va_cwS n S.2.2.2.2 (gS m1 m2 m4 m5) rfl rfl rfl hd hR) ⟨cW_blind, fun U hU hW => ⟨rfl, fun q hq => hA q (by rw [hU] at hq; exact Nat.le_trans hS.1 hq), by rw [hU]; exact hP, hD, va_K.moved hW.alike hK⟩⟩ rfl hn hsz hst (lv_room hW) hdg hf) hS kk
theorem xq_run {a : Array Value} {mc ms : Nat} (hr : va_Run p l e R s m args below meth c H locs cells slots mc ms (F0 m pc ls st0) rest (xQ v A D ct ad B' tk' fr' X' a) A) (hS : va_S A s.heap H locs)
    (kk : ∀ (H1 : Heap) (locs1 : List Loc) (g : Nat → Option Nat) (LP : List Nat) (pr : Nat → Nat → Int32), rX g LP pr X' → va_P D vwC (wsC ct ad B' g tk' fr' LP pr) H1 → va_D A (wsC ct ad B' g tk' fr' LP pr) → va_S A s.heap H1 locs1 → W p l e R s m args below meth c H1 locs1 (cells + mc) (slots + ms) Q (F0 m (pc + 3) ls (v.toList ++ rest))) : W p l e R s m args below meth c H locs cells slots Q (F0 m pc ls st0) := by
  intro T hT X
  obtain ⟨v1, st₀, t, T', L, h0, X', hL, e1, e2, ⟨hv, ⟨g, LP, pr, hr9, hp, hd⟩, hz, hk⟩, st⟩ := hr T hT X
  cases hv
  rw [h0] at hz hk
  obtain ⟨t2, a1, b1⟩ := kk T'.heap (locs ++ L) g LP pr hr9 (by rw [e1]; exact hp) hd
    ⟨Nat.le_trans hS.1 (by rw [e1]; exact hz), fun q h1 h2 => by rw [e1, hk q (Nat.lt_of_lt_of_le h1 hS.1) h2]; exact hS.2.1 q h1 h2, fun q hq => by
      rcases List.mem_append.mp hq with h | h
      · exact hS.2.2 q h
      · exact hL q h⟩ T' rfl X'
  exact ⟨t2, st t2 a1, b1⟩
/-- a call of a larger method -/
theorem wrX (S : CallFix p m c cc nL s args wA own) (hE : eC ct A s) (hK : va_K D vwC (tyC ct) s) (hr : rX g LP pr X) (hP : va_P D vwC (wsC ct ad B g tk fr LP pr) H) (hD : va_D A (wsC ct ad B g tk fr LP pr)) (hS : va_S A s.heap H locs) (hA : ∀ q : Nat, s.heap.size ≤ q → A q)
    (hM : Met l y (Cond.code y bytes maxL ret :: wA) (rmk k mc ms) (va_Pc (.ref b :: As) (cS A D ct ad B tk fr X)) (xQ v A D ct ad B' tk' fr' X') mc ms A)
    (m1 : Cond.methodLink own idx y ∈ wA) (hm : mV C y (Cond.code y bytes maxL ret) n) (hR : 10 * k + 1 ≤ R.frames ∧ 8 + (maxL + 11) + 100 * k ≤ R.locals)
    (q0 : Nat) (he : (wsC ct ad B g tk fr LP pr)[q0]? = some (b, .inr (ci, fs))) (hc : vwC[ci]? = some (C, T, N)) (hn : As.length = n) (hsz : ls.size = nL) (hst : st0 = As.reverse ++ .ref b :: rest) (hW : (rest.map fun v => v.category).sum ≤ 8)
    (hdg : decode cc pc = .ok (.invokevirtual idx, 3)) (hf : cells + mc ≤ R.cells ∧ slots + ms ≤ R.slots)
    (kk : ∀ (H1 : Heap) (locs1 : List Loc) (g : Nat → Option Nat) (LP : List Nat) (pr : Nat → Nat → Int32), rX g LP pr X' → va_P D vwC (wsC ct ad B' g tk' fr' LP pr) H1 → va_D A (wsC ct ad B' g tk' fr' LP pr) → va_S A s.heap H1 locs1 → W p l e R s m args below meth c H1 locs1 (cells + mc) (slots + ms) Q (F0 m (pc + 3) ls (v.toList ++ rest))) : W p l e R s m args below meth c H locs cells slots Q (F0 m pc ls st0) := by
  obtain ⟨⟨m2, m3, m4, m5⟩, hd⟩ := hm
  exact xq_run (va_runV (As := As) (rest := rest) S hM (cwV n S.2.2.2.2 (gV m1 m2 m3 m4 m5) rfl rfl rfl hd hR) ⟨cS_blind, va_recv hK hP (ci := ci) (q0 := q0) hc he, fun U hU hW => ⟨rfl, fun q hq => hA q (by rw [hU] at hq; exact Nat.le_trans hS.1 hq), eC_moved hW (by rw [hU]; exact hS) hE, va_K.moved hW.alike hK, g, LP, pr, hr, by rw [hU]; exact hP, hD⟩⟩ rfl hn hsz hst (lv_room hW) hdg hf) hS kk
end RWX
end
section
/-! rows of blocks -/
theorem wsC_row2 {ct : Nat → ClassId} {ad : Nat → Nat} {B : Nat → Int32} {g : Nat → Option Nat} {tk : Nat → Int32} {fr : Int32} {LP : List Nat} {pr : Nat → Nat → Int32} {y : Nat} {r : Nat → Int32} (h : y ∈ LP) : ∃ k : Nat, (wsC ct ad B g tk fr LP (va_up pr y r))[k]? = some (y, .inl (ct 0, 1024, .inl r)) := by
  obtain ⟨k, hk⟩ := wsC_row (ct := ct) (ad := ad) (B := B) (g := g) (tk := tk) (fr := fr) (pr := va_up pr y r) h
  rw [va_up_self] at hk
  exact ⟨k, hk⟩
theorem wsC_set2 {A : Nat → Prop} {ct : Nat → ClassId} {ad : Nat → Nat} {B : Nat → Int32} {g : Nat → Option Nat} {tk : Nat → Int32} {fr : Int32} {LP : List Nat} {pr : Nat → Nat → Int32} {y k : Nat} {r r2 : Nat → Int32} (hD : va_D A (wsC ct ad B g tk fr LP (va_up pr y r))) (h : y ∈ LP) (hk : (wsC ct ad B g tk fr LP (va_up pr y r))[k]? = some (y, .inl (ct 0, 1024, .inl r))) :
    (wsC ct ad B g tk fr LP (va_up pr y r)).set k (y, .inl (ct 0, 1024, .inl r2)) = wsC ct ad B g tk fr LP (va_up pr y r2) := by
  rw [wsC_set hD h (by rw [va_up_self]; exact hk), bx_uu]
theorem rX_some {g : Nat → Option Nat} {LP : List Nat} {pr : Nat → Nat → Int32} {X : Nat → Option (Nat → Int32)} {b : Nat} (h : rX g LP pr X) (hb : b < 128) (hn : g b ≠ none) : ∃ (y : Nat) (r : Nat → Int32), g b = some y ∧ y ∈ LP ∧ X b = some r ∧ ∀ i, i < 1024 → pr y i = r i := by
  rcases h.1 b hb with ⟨h1, -⟩ | h1
  · exact absurd h1 hn
  · exact h1
theorem rX_none {g : Nat → Option Nat} {LP : List Nat} {pr : Nat → Nat → Int32} {X : Nat → Option (Nat → Int32)} {b : Nat} (h : rX g LP pr X) (hb : b < 128) (hn : ¬ (g b ≠ none)) : X b = none := by
  rcases h.1 b hb with ⟨-, h1⟩ | ⟨y, r, h1, -⟩
  · exact h1
  · exact absurd (by rw [h1]; exact fun q => by cases q) hn
theorem rX_put {g : Nat → Option Nat} {LP : List Nat} {pr : Nat → Nat → Int32} {X : Nat → Option (Nat → Int32)} {b y : Nat} {r r2 : Nat → Int32} (h : rX g LP pr X) (hb : b < 128) (hy : g b = some y) (hr : ∀ i, i < 1024 → r i = r2 i) : rX g LP (va_up pr y r) (va_up X b (some r2)) := by
  refine ⟨fun c hc => ?_, h.2⟩
  by_cases e : c = b
  · subst e
    refine Or.inr ⟨y, r2, hy, rX_gOK h c y hb hy, va_up_self _ _ _, fun i hi => ?_⟩
    rw [va_up_self]; exact hr i hi
  · rw [va_up_ne _ _ e]
    rcases h.1 c hc with ⟨h1, h2⟩ | ⟨z, q, h1, h2, h3, h4⟩
    · exact Or.inl ⟨h1, h2⟩
    · refine Or.inr ⟨z, q, h1, h2, h3, fun i hi => ?_⟩
      have hz : z ≠ y := fun w => e (h.2 c b y hc hb (by rw [h1, w]) hy)
      rw [va_up_ne _ _ hz]; exact h4 i hi
theorem rX_new {g : Nat → Option Nat} {LP : List Nat} {pr : Nat → Nat → Int32} {X : Nat → Option (Nat → Int32)} {b y : Nat} {r r2 : Nat → Int32} (h : rX g LP pr X) (hb : b < 128) (hy : y ∉ LP) (hr : ∀ i, i < 1024 → r i = r2 i) : rX (va_up g b (some y)) (LP ++ [y]) (va_up pr y r) (va_up X b (some r2)) := by
  have key : ∀ c z, c < 128 → g c = some z → z ≠ y := fun c z hc hz w => hy (by rw [← w]; exact rX_gOK h c z hc hz)
  refine ⟨fun c hc => ?_, fun c d z hc hd h1 h2 => ?_⟩
  · by_cases e : c = b
    · subst e
      exact Or.inr ⟨y, r2, va_up_self _ _ _, List.mem_append.mpr (Or.inr (List.mem_singleton.mpr rfl)), va_up_self _ _ _, fun i hi => by rw [va_up_self]; exact hr i hi⟩
    · rw [va_up_ne _ _ e, va_up_ne _ _ e]
      rcases h.1 c hc with h1 | ⟨z, q, h1, h2, h3, h4⟩
      · exact Or.inl h1
      · exact Or.inr ⟨z, q, h1, List.mem_append.mpr (Or.inl h2), h3, fun i hi => by rw [va_up_ne _ _ (key c z hc h1)]; exact h4 i hi⟩
  · by_cases e : c = b
    · by_cases e2 : d = b
      · rw [e, e2]
      · rw [e, va_up_self] at h1
        rw [va_up_ne _ _ e2] at h2
        cases h1
        exact absurd rfl (key d y hd h2)
    · by_cases e2 : d = b
      · rw [e2, va_up_self] at h2
        rw [va_up_ne _ _ e] at h1
        cases h2
        exact absurd rfl (key c y hc h1)
      · rw [va_up_ne _ _ e] at h1
        rw [va_up_ne _ _ e2] at h2
        exact h.2 c d z hc hd h1 h2
def row_fill (x : Int32) : (Nat → Int32) → Nat → Nat → (Nat → Int32)
  | r, _, 0 => r
  | r, i, n + 1 => row_fill x (upd r i (vp_nar .byte x)) (i + 1) n
def row_pat : (Nat → Int32) → Nat → Nat → Int32 → (Nat → Int32)
  | r, _, 0, _ => r
  | r, i, n + 1, x => row_pat (upd r i (vp_nar .byte (x.toInt8.toInt32))) (i + 1) n (x + Int32.ofInt 7)
theorem upd_agree {r q : Nat → Int32} {i : Nat} {x : Int32} (h : ∀ j, j < 1024 → r j = q j) : ∀ j, j < 1024 → upd r i x j = upd q i x j := by
  intro j hj
  by_cases e : j = i
  · rw [e, pk_us, pk_us]
  · rw [pk_un e, pk_un e]; exact h j hj
theorem row_fill_agree (x : Int32) : ∀ (n i : Nat) (r q : Nat → Int32), (∀ j, j < 1024 → r j = q j) → ∀ j, j < 1024 → row_fill x r i n j = row_fill x q i n j
  | 0, _, _, _, h => h
  | n + 1, i, r, q, h => row_fill_agree x n (i + 1) _ _ (upd_agree h)
theorem row_pat_agree : ∀ (n i : Nat) (x : Int32) (r q : Nat → Int32), (∀ j, j < 1024 → r j = q j) → ∀ j, j < 1024 → row_pat r i n x j = row_pat q i n x j
  | 0, _, _, _, _, h => h
  | n + 1, i, x, r, q, h => row_pat_agree n (i + 1) _ _ _ (upd_agree h)
theorem row_fill_out (x : Int32) : ∀ (n i : Nat) (r : Nat → Int32) (j : Nat), (j < i ∨ i + n ≤ j) → row_fill x r i n j = r j
  | 0, _, _, _, _ => rfl
  | n + 1, i, r, j, h => by rw [row_fill, row_fill_out x n (i + 1) _ j (by omega), pk_un (by omega)]
theorem row_fill_in (x : Int32) : ∀ (n i : Nat) (r : Nat → Int32) (j : Nat), i ≤ j → j < i + n → row_fill x r i n j = vp_nar .byte x
  | 0, _, _, _, h1, h2 => absurd h2 (by omega)
  | n + 1, i, r, j, h1, h2 => by
    rw [row_fill]
    rcases Nat.eq_or_lt_of_le h1 with e | e
    · rw [row_fill_out x n (i + 1) _ j (by omega), ← e, pk_us]
    · exact row_fill_in x n (i + 1) _ j (by omega) (by omega)
def dx_at (X : Nat → Option (Nat → Int32)) (z : Int) (i : Nat) : Int32 := if z < 0 ∨ 128 ≤ z then nI 0 else match X z.toNat with
  | none => nI 0
  | some r => r i &&& nI 255
def dx_put (X : Nat → Option (Nat → Int32)) (z : Int) (i : Nat) (v : Int32) : Nat → Option (Nat → Int32) := if z < 0 ∨ 128 ≤ z then X else match X z.toNat with
  | none => X
  | some r => va_up X z.toNat (some (upd r i (vp_nar .byte (v.toInt8.toInt32))))
def dx_clr (X : Nat → Option (Nat → Int32)) (z : Int) (u v : Nat) : Nat → Option (Nat → Int32) := if z < 0 ∨ 128 ≤ z then X else match X z.toNat with
  | none => X
  | some r => va_up X z.toNat (some (row_fill (nI 0) r u (v - u)))
def dx_pat (X : Nat → Option (Nat → Int32)) (z : Int) (u v : Nat) (x : Int32) : Nat → Option (Nat → Int32) := if z < 0 ∨ 128 ≤ z then X else match X z.toNat with
  | none => X
  | some r => va_up X z.toNat (some (row_pat r u (v - u) x))
theorem db_at_X {g : Nat → Option Nat} {LP : List Nat} {pr : Nat → Nat → Int32} {X : Nat → Option (Nat → Int32)} {z : Int} {i : Nat} (h : rX g LP pr X) (hi : i < 1024) : db_at g pr z i = dx_at X z i := by
  unfold db_at dx_at
  rcases Decidable.em (z < 0 ∨ 128 ≤ z) with q | q
  · rw [if_pos q, if_pos q]
  · rw [if_neg q, if_neg q]
    rcases h.1 z.toNat (by omega) with ⟨h1, h2⟩ | ⟨y, r, h1, h2, h3, h4⟩
    · rw [h1, h2]
    · rw [h1, h3]; show pr y i &&& nI 255 = r i &&& nI 255; rw [h4 i hi]
theorem m_Ar_fill : mS y_Ar_fill (Cond.code y_Ar_fill c_Ar_fill 4 none) 2 := ⟨⟨w_369, w_14, w_370⟩, by decide +kernel⟩
set_option maxHeartbeats 4000000 in
set_option maxRecDepth 100000 in
theorem k_Ar_fill (l : Launch) {D : va_G} {ct : Nat → ClassId} {ad : Nat → Nat} {B : Nat → Int32} {g : Nat → Option Nat} {tk : Nat → Int32} {fr : Int32} {LP : List Nat} {pr : Nat → Nat → Int32} {A : Nat → Prop} {y : Nat} (hyL : y ∈ LP) {x : Int32}  : Met l y_Ar_fill (Cond.code y_Ar_fill c_Ar_fill 4 none :: wA) (rmk 1 0 0) (va_Pc [.ref y, .int x] (cW A D (tyC ct) (wsC ct ad B g tk fr LP pr))) (wQ none A D (wsC ct ad B g tk fr LP (va_up pr y (row_fill x (pr y) 0 1024)))) 0 0 A := by
  refine va_MetF (cc := c_Ar_fill) (maxL := 4) (ret := none) (by decide +kernel) rfl ?_
  intro p e s m args below meth c s₁ B0 hml hv
  obtain ⟨rfl, hA, hP, hD, hK⟩ := hv
  have hS : va_S A s.heap s.heap [] := va_S.rf
  have hx := B0.exec
  have hb := B0.bytes
  have hr := B0.returns
  have hts := fun w (h : w ∈ wA) => atoms_spec (ws := Cond.code y_Ar_fill c_Ar_fill 4 none :: wA) B0.pre w (List.mem_cons_of_mem _ h)
  have hown : s.vm.findClass R_Ar = some m.cls := findClass_of_methodNamed B0.named
  have hlocks := B0.notSynchronized
  have hl := lv_entry ([.ref y, .int x]) (n := 4) (Nat.le_of_ble_eq_true rfl)
  rw [lg_entry_eq]
  generalize (lg_sl ([.ref y, .int x]) ++ List.replicate (4 - (lg_sl ([.ref y, .int x])).length) Slot.unset).toArray = ls at hl ⊢
  have hl : lv_has ls 4 [(0, .ref y), (1, .int x)] := hl
  obtain ⟨k9, hk9⟩ := wsC_row (ct := ct) (ad := ad) (B := B) (g := g) (tk := tk) (fr := fr) (pr := pr) hyL
  refine lv_iconst (v := nI 0) hx hb d_Ar_fill_0 (by decide) ?_
  refine lv_istore_n (lv' := [(2, .int (nI 0)), (0, .ref y), (1, .int x)]) hx hb d_Ar_fill_1 rfl hl (by decide) rfl (fun ls hl => ?_)
  refine lv_aload_n hx hb d_Ar_fill_2 rfl (lv_at hl 1 rfl) ?_
  refine va_alen hx hb hK hP k9 0 hk9 rfl (v := nI 1024) rfl d_Ar_fill_3 ?_
  refine lv_istore_n (lv' := [(3, .int (nI 1024)), (2, .int (nI 0)), (0, .ref y), (1, .int x)]) hx hb d_Ar_fill_4 rfl hl (by decide) rfl (fun ls hl => ?_)
  have loop5 : ∀ (n9 : Nat) (i : Nat) (r : Nat → Int32), 1024 - i < n9 → i ≤ 1024 → row_fill x (pr y) 0 1024 = row_fill x r i (1024 - i) → ∀ (H : Heap) (locs : List Loc), va_P D vwC (wsC ct ad B g tk fr LP (va_up pr y r)) H → va_D A (wsC ct ad B g tk fr LP (va_up pr y r)) → va_S A s.heap H locs → ∀ ls : Array Slot, lv_has ls 4 [(0, .ref y), (1, .int x), (2, .int (nI i)), (3, .int (nI 1024))] → W p l e (headSpec (Cond.code y_Ar_fill c_Ar_fill 4 none :: wA) (rmk 1 0 0)).room s m ([.ref y, .int x] : List Value).toArray below meth c H locs 0 0 (MQ below (wQ none A D (wsC ct ad B g tk fr LP (va_up pr y (row_fill x (pr y) 0 1024)))) ([.ref y, .int x] : List Value).toArray s 0 0 A) (F0 m 5 ls []) := by
    intro n9
    induction n9 with
    | zero => intro i r h8 h9 h10 H locs hP hD hS ls hl; exact absurd h8 (by omega)
    | succ n9 ih =>
      intro i r h8 h9 h10 H locs hP hD hS ls hl
      refine lv_iload_n hx hb d_Ar_fill_5 rfl (lv_at hl 2 rfl) ?_
      refine lv_iload_n hx hb d_Ar_fill_6 rfl (lv_at hl 3 rfl) ?_
      refine ln_icmp_ge (tgt := 20) hx hb (by omega) (by omega) d_Ar_fill_7 (by decide) (fun c_1 => ?_) (fun c_1 => ?_)
      · skip
        have e9 : wsC ct ad B g tk fr LP (va_up pr y r) = wsC ct ad B g tk fr LP (va_up pr y (row_fill x (pr y) 0 1024)) := (by rw [h10, show 1024 - i = 0 by omega]; rfl)
        rw [e9] at hP hD
        exact W.vret hx hb hr (fun t9 ht hW => ⟨rfl, by rw [ht]; exact hP, hD, hS.F ht⟩) hS.2.2 d_Ar_fill_20
      · skip
        obtain ⟨k9, hk9⟩ := wsC_row2 (ct := ct) (ad := ad) (B := B) (g := g) (tk := tk) (fr := fr) (pr := pr) (r := r) hyL
        refine lv_aload_n hx hb d_Ar_fill_10 rfl (lv_at hl 0 rfl) ?_
        refine lv_iload_n hx hb d_Ar_fill_11 rfl (lv_at hl 2 rfl) ?_
        refine lv_iload_n hx hb d_Ar_fill_12 rfl (lv_at hl 1 rfl) ?_
        refine ln_bast hx hb hK hP hD hS k9 0 hk9 rfl (by omega) (by decide) d_Ar_fill_13 (fun H locs hP8 hD8 hS => ?_)
        rw [wsC_set2 hD hyL hk9] at hP8 hD8
        have hP : va_P D vwC (wsC ct ad B g tk fr LP (va_up pr y (upd r i (vp_nar .byte x)))) H := hP8
        have hD : va_D A (wsC ct ad B g tk fr LP (va_up pr y (upd r i (vp_nar .byte x)))) := hD8
        refine lv_iinc (v := nI (i + 1)) (lv' := [(2, .int (nI (i + 1))), (0, .ref y), (1, .int x), (3, .int (nI 1024))]) hx hb d_Ar_fill_14 hl (k := 2) rfl (ln_inc (by decide)) (by decide) rfl (fun ls hl => ?_)
        refine lv_goto (tgt := 5) hx hb d_Ar_fill_17 (by decide) ?_
        exact ih (i + 1) (upd r i (vp_nar .byte x)) (by omega) (by omega) (by rw [h10, show 1024 - i = 1024 - (i + 1) + 1 by omega, row_fill]) _ _ hP hD hS ls (lv_sub hl [1, 2, 0, 3] rfl)
  have hP : va_P D vwC (wsC ct ad B g tk fr LP (va_up pr y (pr y))) s.heap := by rw [va_up_eta]; exact hP
  have hD : va_D A (wsC ct ad B g tk fr LP (va_up pr y (pr y))) := by rw [va_up_eta]; exact hD
  exact loop5 1025 0 (pr y) (by omega) (by omega) rfl _ _ hP hD hS ls (lv_sub hl [2, 3, 1, 0] rfl)
theorem m_Ar_rangeCheck : mS y_Ar_rangeCheck (Cond.code y_Ar_rangeCheck c_Ar_rangeCheck 3 none) 3 := ⟨⟨w_506, w_14, w_507⟩, by decide +kernel⟩
set_option maxHeartbeats 4000000 in
set_option maxRecDepth 100000 in
theorem k_Ar_rangeCheck (l : Launch) {D : va_G} {ct : Nat → ClassId} {ad : Nat → Nat} {B : Nat → Int32} {g : Nat → Option Nat} {tk : Nat → Int32} {fr : Int32} {LP : List Nat} {pr : Nat → Nat → Int32} {A : Nat → Prop} {n : Nat} {u : Nat} {v : Nat} (h0 : u ≤ v) (h1 : v ≤ n) (h2 : n < 2147483648) : Met l y_Ar_rangeCheck (Cond.code y_Ar_rangeCheck c_Ar_rangeCheck 3 none :: wA) (rmk 1 0 0) (va_Pc [.int (nI n), .int (nI u), .int (nI v)] (cW A D (tyC ct) (wsC ct ad B g tk fr LP pr))) (wQ none A D (wsC ct ad B g tk fr LP pr)) 0 0 A := by
  refine va_MetF (cc := c_Ar_rangeCheck) (maxL := 3) (ret := none) (by decide +kernel) rfl ?_
  intro p e s m args below meth c s₁ B0 hml hv
  obtain ⟨rfl, hA, hP, hD, hK⟩ := hv
  have hS : va_S A s.heap s.heap [] := va_S.rf
  have hx := B0.exec
  have hb := B0.bytes
  have hr := B0.returns
  have hts := fun w (h : w ∈ wA) => atoms_spec (ws := Cond.code y_Ar_rangeCheck c_Ar_rangeCheck 3 none :: wA) B0.pre w (List.mem_cons_of_mem _ h)
  have hown : s.vm.findClass R_Ar = some m.cls := findClass_of_methodNamed B0.named
  have hlocks := B0.notSynchronized
  have hl := lv_entry ([.int (nI n), .int (nI u), .int (nI v)]) (n := 3) (Nat.le_of_ble_eq_true rfl)
  rw [lg_entry_eq]
  generalize (lg_sl ([.int (nI n), .int (nI u), .int (nI v)]) ++ List.replicate (3 - (lg_sl ([.int (nI n), .int (nI u), .int (nI v)])).length) Slot.unset).toArray = ls at hl ⊢
  have hl : lv_has ls 3 [(0, .int (nI n)), (1, .int (nI u)), (2, .int (nI v))] := hl
  refine lv_iload_n hx hb d_Ar_rangeCheck_0 rfl (lv_at hl 1 rfl) ?_
  refine lv_iload_n hx hb d_Ar_rangeCheck_1 rfl (lv_at hl 2 rfl) ?_
  refine ln_icmp_le (tgt := 46) hx hb (by omega) (by omega) d_Ar_rangeCheck_2 (by decide) (fun c_1 => ?_) (fun c_1 => ?_)
  · skip
    refine lv_iload_n hx hb d_Ar_rangeCheck_46 rfl (lv_at hl 1 rfl) ?_
    refine ln_if_ge (tgt := 59) hx hb (by omega) d_Ar_rangeCheck_47 (by decide) ?_
    refine lv_iload_n hx hb d_Ar_rangeCheck_59 rfl (lv_at hl 2 rfl) ?_
    refine lv_iload_n hx hb d_Ar_rangeCheck_60 rfl (lv_at hl 0 rfl) ?_
    refine ln_icmp_le (tgt := 73) hx hb (by omega) (by omega) d_Ar_rangeCheck_61 (by decide) (fun c_3 => ?_) (fun c_3 => ?_)
    · skip
      have e9 : wsC ct ad B g tk fr LP pr = wsC ct ad B g tk fr LP pr := rfl
      rw [e9] at hP hD
      exact W.vret hx hb hr (fun t9 ht hW => ⟨rfl, by rw [ht]; exact hP, hD, hS.F ht⟩) hS.2.2 d_Ar_rangeCheck_73
    · exact absurd c_3 (by omega)
  · exact absurd c_1 (by omega)
theorem m_Ar_fill4 : mS y_Ar_fill4 (Cond.code y_Ar_fill4 c_Ar_fill4 5 none) 4 := ⟨⟨w_503, w_14, w_504⟩, by decide +kernel⟩
set_option maxHeartbeats 4000000 in
set_option maxRecDepth 100000 in
theorem k_Ar_fill4 (l : Launch) {D : va_G} {ct : Nat → ClassId} {ad : Nat → Nat} {B : Nat → Int32} {g : Nat → Option Nat} {tk : Nat → Int32} {fr : Int32} {LP : List Nat} {pr : Nat → Nat → Int32} {A : Nat → Prop} {y : Nat} (hyL : y ∈ LP) {u : Nat} {v : Nat} {x : Int32} (h0 : u ≤ v) (h1 : v ≤ 1024) : Met l y_Ar_fill4 (Cond.code y_Ar_fill4 c_Ar_fill4 5 none :: wA) (rmk 2 0 0) (va_Pc [.ref y, .int (nI u), .int (nI v), .int x] (cW A D (tyC ct) (wsC ct ad B g tk fr LP pr))) (wQ none A D (wsC ct ad B g tk fr LP (va_up pr y (row_fill x (pr y) u (v - u))))) 0 0 A := by
  refine va_MetF (cc := c_Ar_fill4) (maxL := 5) (ret := none) (by decide +kernel) rfl ?_
  intro p e s m args below meth c s₁ B0 hml hv
  obtain ⟨rfl, hA, hP, hD, hK⟩ := hv
  have hS : va_S A s.heap s.heap [] := va_S.rf
  have hx := B0.exec
  have hb := B0.bytes
  have hr := B0.returns
  have hts := fun w (h : w ∈ wA) => atoms_spec (ws := Cond.code y_Ar_fill4 c_Ar_fill4 5 none :: wA) B0.pre w (List.mem_cons_of_mem _ h)
  have hown : s.vm.findClass R_Ar = some m.cls := findClass_of_methodNamed B0.named
  have hlocks := B0.notSynchronized
  have hl := lv_entry ([.ref y, .int (nI u), .int (nI v), .int x]) (n := 5) (Nat.le_of_ble_eq_true rfl)
  rw [lg_entry_eq]
  generalize (lg_sl ([.ref y, .int (nI u), .int (nI v), .int x]) ++ List.replicate (5 - (lg_sl ([.ref y, .int (nI u), .int (nI v), .int x])).length) Slot.unset).toArray = ls at hl ⊢
  have hl : lv_has ls 5 [(0, .ref y), (1, .int (nI u)), (2, .int (nI v)), (3, .int x)] := hl
  obtain ⟨k9, hk9⟩ := wsC_row (ct := ct) (ad := ad) (B := B) (g := g) (tk := tk) (fr := fr) (pr := pr) hyL
  refine lv_aload_n hx hb d_Ar_fill4_0 rfl (lv_at hl 0 rfl) ?_
  refine va_alen hx hb hK hP k9 0 hk9 rfl (v := nI 1024) rfl d_Ar_fill4_1 ?_
  refine lv_iload_n hx hb d_Ar_fill4_2 rfl (lv_at hl 1 rfl) ?_
  refine lv_iload_n hx hb d_Ar_fill4_3 rfl (lv_at hl 2 rfl) ?_
  refine wrS ⟨hx, hb, hml, hown, hts⟩ hK hP hD hS hA (k_Ar_rangeCheck l (n := 1024) (u := u) (v := v) (by omega) (by omega) (by omega)) w_505 m_Ar_rangeCheck ⟨by decide, by decide⟩ rfl hl.1 rfl (Nat.le_of_ble_eq_true rfl) d_Ar_fill4_4 ⟨Nat.zero_le _, Nat.zero_le _⟩ (fun H locs hP hD hS => ?_)
  have hP : va_P D vwC (wsC ct ad B g tk fr LP pr) H := hP
  have hD : va_D A (wsC ct ad B g tk fr LP pr) := hD
  refine W.eq (g2 := F0 m 7 ls []) rfl ?_
  refine lv_iload_n hx hb d_Ar_fill4_7 rfl (lv_at hl 1 rfl) ?_
  refine lv_istore (lv' := [(4, .int (nI u)), (0, .ref y), (1, .int (nI u)), (2, .int (nI v)), (3, .int x)]) hx hb d_Ar_fill4_8 hl (by decide) rfl (fun ls hl => ?_)
  have loop10 : ∀ (n9 : Nat) (i : Nat) (r : Nat → Int32), v - i < n9 → i ≤ v → row_fill x (pr y) u (v - u) = row_fill x r i (v - i) → ∀ (H : Heap) (locs : List Loc), va_P D vwC (wsC ct ad B g tk fr LP (va_up pr y r)) H → va_D A (wsC ct ad B g tk fr LP (va_up pr y r)) → va_S A s.heap H locs → ∀ ls : Array Slot, lv_has ls 5 [(0, .ref y), (1, .int (nI u)), (2, .int (nI v)), (3, .int x), (4, .int (nI i))] → W p l e (headSpec (Cond.code y_Ar_fill4 c_Ar_fill4 5 none :: wA) (rmk 2 0 0)).room s m ([.ref y, .int (nI u), .int (nI v), .int x] : List Value).toArray below meth c H locs 0 0 (MQ below (wQ none A D (wsC ct ad B g tk fr LP (va_up pr y (row_fill x (pr y) u (v - u))))) ([.ref y, .int (nI u), .int (nI v), .int x] : List Value).toArray s 0 0 A) (F0 m 10 ls []) := by
    intro n9
    induction n9 with
    | zero => intro i r h8 h9 h10 H locs hP hD hS ls hl; exact absurd h8 (by omega)
    | succ n9 ih =>
      intro i r h8 h9 h10 H locs hP hD hS ls hl
      refine lv_iload hx hb d_Ar_fill4_10 (lv_at hl 4 rfl) ?_
      refine lv_iload_n hx hb d_Ar_fill4_12 rfl (lv_at hl 2 rfl) ?_
      refine ln_icmp_ge (tgt := 27) hx hb (by omega) (by omega) d_Ar_fill4_13 (by decide) (fun c_1 => ?_) (fun c_1 => ?_)
      · skip
        have e9 : wsC ct ad B g tk fr LP (va_up pr y r) = wsC ct ad B g tk fr LP (va_up pr y (row_fill x (pr y) u (v - u))) := (by rw [h10, show v - i = 0 by omega]; rfl)
        rw [e9] at hP hD
        exact W.vret hx hb hr (fun t9 ht hW => ⟨rfl, by rw [ht]; exact hP, hD, hS.F ht⟩) hS.2.2 d_Ar_fill4_27
      · skip
        obtain ⟨k9, hk9⟩ := wsC_row2 (ct := ct) (ad := ad) (B := B) (g := g) (tk := tk) (fr := fr) (pr := pr) (r := r) hyL
        refine lv_aload_n hx hb d_Ar_fill4_16 rfl (lv_at hl 0 rfl) ?_
        refine lv_iload hx hb d_Ar_fill4_17 (lv_at hl 4 rfl) ?_
        refine lv_iload_n hx hb d_Ar_fill4_19 rfl (lv_at hl 3 rfl) ?_
        refine ln_bast hx hb hK hP hD hS k9 0 hk9 rfl (by omega) (by decide) d_Ar_fill4_20 (fun H locs hP8 hD8 hS => ?_)
        rw [wsC_set2 hD hyL hk9] at hP8 hD8
        have hP : va_P D vwC (wsC ct ad B g tk fr LP (va_up pr y (upd r i (vp_nar .byte x)))) H := hP8
        have hD : va_D A (wsC ct ad B g tk fr LP (va_up pr y (upd r i (vp_nar .byte x)))) := hD8
        refine lv_iinc (v := nI (i + 1)) (lv' := [(4, .int (nI (i + 1))), (0, .ref y), (1, .int (nI u)), (2, .int (nI v)), (3, .int x)]) hx hb d_Ar_fill4_21 hl (k := 4) rfl (ln_inc (by decide)) (by decide) rfl (fun ls hl => ?_)
        refine lv_goto (tgt := 10) hx hb d_Ar_fill4_24 (by decide) ?_
        exact ih (i + 1) (upd r i (vp_nar .byte x)) (by omega) (by omega) (by rw [h10, show v - i = v - (i + 1) + 1 by omega, row_fill]) _ _ hP hD hS ls (lv_sub hl [1, 2, 3, 4, 0] rfl)
  have hP : va_P D vwC (wsC ct ad B g tk fr LP (va_up pr y (pr y))) H := by rw [va_up_eta]; exact hP
  have hD : va_D A (wsC ct ad B g tk fr LP (va_up pr y (pr y))) := by rw [va_up_eta]; exact hD
  exact loop10 (v - u + 1) u (pr y) (by omega) (by omega) rfl _ _ hP hD hS ls (lv_sub hl [1, 2, 3, 4, 0] rfl)
end
section
/-! DataBlocks: what is written -/
section RWA
variable {p : Program} {l : Launch} {e : Env} {R : Room} {s : State} {m : MethodId} {args : Array Value} {below : List Frame} {meth : Method} {c : Code} {H : Heap} {locs : List Loc} {cells slots : Nat} {Q : State → Prop}
variable {cc : ByteArray} {pc : Nat} {ls : Array Slot} {rest : List Value}
variable {D : va_G} {A : Nat → Prop} {ct : Nat → ClassId} {ad : Nat → Nat} {B : Nat → Int32} {g : Nat → Option Nat} {tk : Nat → Int32} {fr : Int32} {LP : List Nat} {pr : Nat → Nat → Int32} {H0 : Heap}
theorem ln_aastA (hx : p.tables.exec = Jvm.exec) (hb : c.code = cc) {cl : List vw_C} {ws : va_W} (hP : va_P D cl ws H) (hD : va_D A ws) (hS : va_S A H0 H locs) (q0 qk : Nat) {ad0 n n2 i v : Nat} {cA cV : ClassId} {t : FieldType} {f : Nat → Option Nat} {r : Nat → Int32} (ha : ws[q0]? = some (ad0, .inl (cA, n, .inr (.inr (.inr (.inr f)))))) (hv : ws[qk]? = some (v, .inl (cV, n2, .inl r))) {kA kB : Class} (k1 : s.vm.classes[cA]? = some kA) (k2 : kA.kind = .array cV t) (ht : t.isReference = true) (k3 : s.vm.classes[cV]? = some kB) (hi : i < n) (hn : n < 2 ^ 31) (hdg : decode cc pc = .ok (.aastore, 1))
    (kk : ∀ (H1 : Heap) (locs1 : List Loc), va_P D cl (ws.set q0 (ad0, .inl (cA, n, .inr (.inr (.inr (.inr (va_up f i (some v)))))))) H1 → va_D A (ws.set q0 (ad0, .inl (cA, n, .inr (.inr (.inr (.inr (va_up f i (some v)))))))) → va_S A H0 H1 locs1 → W p l e R s m args below meth c H1 locs1 cells slots Q (F0 m (pc + 1) ls rest)) : W p l e R s m args below meth c H locs cells slots Q (F0 m pc ls (.ref v :: .int (nI i) :: .ref ad0 :: rest)) := by
  have hcl : (nI i).toNatClampNeg = i := nI_clamp (by omega)
  refine W.aast hx hb (hP q0 _ ha) (fun q h => by cases h) (fun h => by cases h) k1 k2 ht k3 ⟨nI_pos (by omega), by show _ < (arrV _ _ _).slots.size; rw [arrV_size, hcl]; exact hi⟩ (hP qk _ hv) (fun q h => by cases h) k3 (by show Vm.assignableAux _ (255 + 1) _ _ = true; rw [Vm.assignableAux, Bool.or_eq_true]; exact Or.inl (beq_iff_eq.mpr rfl)) rfl rfl hdg fun H1 e z oq => ?_
  refine kk H1 _ (hP.set hD ha ?_ oq) (hD.set ha) (hS.put z oq (hD.2 q0 _ ha))
  show H1[ad0]? = some (vp_cell _ _)
  rw [e, hcl]
  rw [vp_cell_q, vp_cell_q, arrV_store]
  congr 2
  funext j
  by_cases hj : j = i
  · subst hj
    simp [updV, va_up, va_rf]
  · simp [updV, va_up, hj]
theorem ln_aastC (hx : p.tables.exec = Jvm.exec) (hb : c.code = cc) (hR : rA ct s) (hP : va_P D vwC (wsC ct ad B g tk fr LP pr) H) (hD : va_D A (wsC ct ad B g tk fr LP pr)) (hS : va_S A H0 H locs) {i q : Nat} (hi : i < 128) (hq : q ∈ LP) (hdg : decode cc pc = .ok (.aastore, 1))
    (kk : ∀ (H1 : Heap) (locs1 : List Loc), va_P D vwC (wsC ct ad B (va_up g i (some q)) tk fr LP pr) H1 → va_D A (wsC ct ad B (va_up g i (some q)) tk fr LP pr) → va_S A H0 H1 locs1 → W p l e R s m args below meth c H1 locs1 cells slots Q (F0 m (pc + 1) ls rest)) : W p l e R s m args below meth c H locs cells slots Q (F0 m pc ls (.ref q :: .int (nI i) :: .ref (ad 7) :: rest)) := by
  obtain ⟨kA, kB, k1, k2, k3⟩ := hR
  obtain ⟨k9, hk9⟩ := wsC_row (ct := ct) (ad := ad) (B := B) (g := g) (tk := tk) (fr := fr) (pr := pr) hq
  exact ln_aastA hx hb hP hD hS 7 k9 (show (wsC ct ad B g tk fr LP pr)[7]? = some (ad 7, .inl (ct 2, 128, .inr (.inr (.inr (.inr g))))) from rfl) hk9 k1 k2 rfl k3 hi (by decide) hdg kk
theorem ln_newa8 (hx : p.tables.exec = Jvm.exec) (hb : c.code = cc) {ws : va_W} {tys : List (ClassId × FieldType)} {N : Nat} (hN : N < 2 ^ 28) (harr : (Cond.arrayClass .byte).before args s = true) (hK : va_K D vwC tys s) (hP : va_P D vwC ws H) (hD : va_D A ws) (hS : va_S A s.heap H locs) (hA : ∀ q : Nat, s.heap.size ≤ q → A q)
    (hcells : cells + 1 ≤ R.cells) (hslots : slots + N ≤ R.slots) (hdg : decode cc pc = .ok (.newarray .byte, 2))
    (kk : ∀ (q : Nat) (cA : ClassId) (H1 : Heap), va_K D vwC (tys ++ [(cA, .byte)]) s → va_P D vwC (ws ++ [(q, .inl (cA, N, .inl (fun _ => 0)))]) H1 → va_D A (ws ++ [(q, .inl (cA, N, .inl (fun _ => 0)))]) → va_S A s.heap H1 locs → W p l e R s m args below meth c H1 locs (cells + 1) (slots + N) Q (F0 m (pc + 2) ls (.ref q :: rest))) : W p l e R s m args below meth c H locs cells slots Q (F0 m pc ls (.int (nI N) :: rest)) :=
  va_newa (atype := .byte) (a0 := (N, .inl (fun _ => 0))) (ty := .byte) hx hb harr rfl hK hP hD hS hA (fun cA => vp_cell_i cA N (fun _ => 0)) (nI_pos (by omega)) (nI_clamp (by omega)) (show N * 1 ≤ 536870912 by omega) hcells hslots hdg kk
theorem ln_newb (hx : p.tables.exec = Jvm.exec) (hb : c.code = cc) (harr : (Cond.arrayClass .byte).before args s = true) (hK : va_K D vwC (tyC ct) s) (hP : va_P D vwC (wsC ct ad B g tk fr LP pr) H) (hD : va_D A (wsC ct ad B g tk fr LP pr)) (hS : va_S A s.heap H locs) (hA : ∀ q : Nat, s.heap.size ≤ q → A q)
    (hcells : cells + 1 ≤ R.cells) (hslots : slots + 1024 ≤ R.slots) (hdg : decode cc pc = .ok (.newarray .byte, 2))
    (kk : ∀ (q : Nat) (H1 : Heap), q ∉ LP → va_P D vwC (wsC ct ad B g tk fr (LP ++ [q]) (va_up pr q (fun _ => 0))) H1 → va_D A (wsC ct ad B g tk fr (LP ++ [q]) (va_up pr q (fun _ => 0))) → va_S A s.heap H1 locs → W p l e R s m args below meth c H1 locs (cells + 1) (slots + 1024) Q (F0 m (pc + 2) ls (.ref q :: rest))) : W p l e R s m args below meth c H locs cells slots Q (F0 m pc ls (.int (nI 1024) :: rest)) := by
  refine ln_newa8 hx hb (by decide) harr hK hP hD hS hA hcells hslots hdg (fun q cA H1 hK1 hP1 hD1 hS1 => ?_)
  have e1 : s.vm.findClass ("[" ++ FieldType.toString .byte) = some cA := (hK1.2 3 (cA, .byte) rfl).2
  have e2 : s.vm.findClass ("[" ++ FieldType.toString .byte) = some (ct 0) := (hK.2 0 (ct 0, .byte) rfl).2
  obtain rfl : cA = ct 0 := Option.some.inj (e1.symm.trans e2)
  have hq : q ∉ LP := va_pl_fresh2 hD1
  have e3 : wsC ct ad B g tk fr LP pr ++ [(q, .inl (ct 0, 1024, .inl (fun _ => 0)))] = wsC ct ad B g tk fr (LP ++ [q]) (va_up pr q (fun _ => 0)) := by
    unfold wsC
    rw [List.append_assoc, va_pl_push hq]
    congr 2
    funext a
    by_cases h : a = q
    · subst h; simp [va_up]
    · simp [va_up, h]
  rw [e3] at hP1 hD1
  exact kk q H1 hq hP1 hD1 hS1
end RWA
theorem db_lf_lt {tk : Nat → Int32} : ∀ (k b : Nat), k ≤ 128 - b → db_lf tk k b < 128
  | 0, _, _ => by rw [db_lf]; decide
  | k + 1, b, h => by
    rw [db_lf]
    by_cases q : tk b = 0
    · rw [if_pos q]; omega
    · rw [if_neg q]; exact db_lf_lt k (b + 1) (by omega)
/-- the block that is taken for a goal; 0 for none -/
def dx_tb (tk : Nat → Int32) (a : Int) : Nat := if db_lf tk (128 - (max a 4).toNat) (max a 4).toNat = 0 then db_lf tk 124 4 else db_lf tk (128 - (max a 4).toNat) (max a 4).toNat
def dx_tk (tk : Nat → Int32) (b : Nat) : Nat → Int32 := if b = 0 then tk else upd tk b (vp_nar .boolean (nI 1))
def dx_tf (fr : Int32) (b : Nat) : Int32 := if b = 0 then fr else fr - nI 1
def dx_tx (X : Nat → Option (Nat → Int32)) (b : Nat) : Nat → Option (Nat → Int32) := if b = 0 then X else va_up X b (some (fun _ => 0))
theorem m_Db_setByte : mV R_Db y_Db_setByte (Cond.code y_Db_setByte c_Db_setByte 4 none) 3 := ⟨⟨w_376, w_377, w_3, w_378⟩, by decide +kernel⟩
set_option maxHeartbeats 4000000 in
set_option maxRecDepth 100000 in
theorem k_Db_setByte (l : Launch) {D : va_G} {ct : Nat → ClassId} {ad : Nat → Nat} {B : Nat → Int32} {tk : Nat → Int32} {fr : Int32} {X : Nat → Option (Nat → Int32)} {A : Nat → Prop} {b : Int} {x_b : Int32} (hx_b : x_b.toInt = b) {i : Nat} {v : Int32} (h0 : i < 1024) : Met l y_Db_setByte (Cond.code y_Db_setByte c_Db_setByte 4 none :: wA) (rmk 2 0 0) (va_Pc [.ref (ad 1), .int x_b, .int (nI i), .int v] (cS A D ct ad B tk fr X)) (xQ none A D ct ad B tk fr (dx_put X b i v)) 0 0 A := by
  refine Met.ofW (cc := c_Db_setByte) (maxL := 4) (ret := none) (by decide +kernel) rfl ?_
  intro p e s m args below meth c s₁ B0 hml hv
  obtain ⟨rfl, hA, hE, hK, g, LP, pr, hrx, hP, hD⟩ := hv
  have hS : va_S A s.heap s.heap [] := va_S.rf
  have hx := B0.exec
  have hb := B0.bytes
  have hr := B0.returns
  have hts := fun w (h : w ∈ wA) => atoms_spec (ws := Cond.code y_Db_setByte c_Db_setByte 4 none :: wA) B0.pre w (List.mem_cons_of_mem _ h)
  have hown : s.vm.findClass R_Db = some m.cls := findClass_of_methodNamed B0.named
  have hlocks := B0.notSynchronized
  have hl := lv_entry ([.ref (ad 1), .int x_b, .int (nI i), .int v]) (n := 4) (Nat.le_of_ble_eq_true rfl)
  rw [lg_entry_eq]
  generalize (lg_sl ([.ref (ad 1), .int x_b, .int (nI i), .int v]) ++ List.replicate (4 - (lg_sl ([.ref (ad 1), .int x_b, .int (nI i), .int v])).length) Slot.unset).toArray = ls at hl ⊢
  have hl : lv_has ls 4 [(0, .ref (ad 1)), (1, .int x_b), (2, .int (nI i)), (3, .int v)] := hl
  have hf_b := z_lt x_b
  have hg_b := z_ge x_b
  rw [hx_b] at hf_b hg_b
  refine lv_aload_n hx hb d_Db_setByte_0 rfl (lv_at hl 0 rfl) ?_
  refine lv_iload_n hx hb d_Db_setByte_1 rfl (lv_at hl 1 rfl) ?_
  refine lv_iload_n hx hb d_Db_setByte_2 rfl (lv_at hl 2 rfl) ?_
  refine lv_iload_n hx hb d_Db_setByte_3 rfl (lv_at hl 2 rfl) ?_
  refine lv_iconst (v := nI 1) hx hb d_Db_setByte_4 (by decide) ?_
  refine ln_iadd hx hb d_Db_setByte_5 ?_
  refine rdV ⟨hx, hb, hml, hown, hts⟩ hK hP (k_Db_hasSpan l (b := b) (x_b := x_b) (u := ((i : Nat) : Int)) (x_u := (nI i)) (v := ((i + 1 : Nat) : Int)) (x_v := (nI (i + 1))) hx_b (nI_toInt (by omega)) (nI_toInt (by omega)) ) w_379 m_Db_hasSpan ⟨by decide, by decide⟩ 1 rfl rfl rfl hl.1 rfl (Nat.le_of_ble_eq_true rfl) d_Db_setByte_6 ⟨Nat.zero_le _, Nat.zero_le _⟩ ?_
  refine lb_if_eq (tgt := 22) hx hb d_Db_setByte_9 (by decide) (fun c_1 => ?_) (fun c_1 => ?_)
  · skip
    have hC9 : cX A D ct ad B tk fr X s.heap := ⟨g, LP, pr, hrx, hP, hD⟩
    have e9 : cX A D ct ad B tk fr X = cX A D ct ad B tk fr (dx_put X b i v) := (by first | exact (by unfold dx_put; rw [if_neg (by omega), Int.toNat_natCast, hX]) | exact (by congr 1; unfold dx_put; rcases Decidable.em (b < 0 ∨ 128 ≤ b) with q | q; rw [if_pos q]; rw [if_neg q, rX_none hrx (by omega) (fun w => c_1 ⟨by omega, by omega, w, by omega, by omega, by omega⟩)]))
    rw [e9] at hC9
    exact W.vret hx hb hr (fun t9 ht hW => ⟨rfl, by rw [ht]; exact hC9, hS.F ht⟩) hS.2.2 d_Db_setByte_22
  · skip
    obtain ⟨p1, p2, p3, p4, p5, p6⟩ := c_1
    obtain ⟨k, rfl⟩ := Int.eq_ofNat_of_zero_le p1
    obtain rfl : x_b = nI k := z_i hx_b (by omega)
    rw [Int.toNat_natCast] at p3
    obtain ⟨y, r0, hy, hyL, hX, hpr⟩ := rX_some hrx (show k < 128 by omega) p3
    obtain ⟨k9, hk9⟩ := wsC_row (ct := ct) (ad := ad) (B := B) (g := g) (tk := tk) (fr := fr) (pr := pr) hyL
    refine lv_aload_n hx hb d_Db_setByte_12 rfl (lv_at hl 0 rfl) ?_
    refine va_get (D := D) (ci := 1) (v := .ref (ad 7)) (C := R_Db) (T := T_Db) (N := 3) hx hb hts u_Db hown hK hP 1 rfl rfl 0 (by decide) (hts _ w_53) (fun _ h9 => h9) rfl d_Db_setByte_13 ?_
    refine lv_iload_n hx hb d_Db_setByte_16 rfl (lv_at hl 1 rfl) ?_
    refine ln_aald hx hb hK hP 7 2 rfl rfl (by omega) (by decide) d_Db_setByte_17 ?_
    refine W.eq (g2 := F0 m 18 ls [.ref y]) (by rw [hy]; rfl) ?_
    refine lv_iload_n hx hb d_Db_setByte_18 rfl (lv_at hl 2 rfl) ?_
    refine lv_iload_n hx hb d_Db_setByte_19 rfl (lv_at hl 3 rfl) ?_
    refine lv_i2b hx hb d_Db_setByte_20 rfl ?_
    refine ln_bast hx hb hK hP hD hS k9 0 hk9 rfl (by omega) (by decide) d_Db_setByte_21 (fun H locs hP8 hD8 hS => ?_)
    rw [wsC_set hD hyL hk9] at hP8 hD8
    have hP : va_P D vwC (wsC ct ad B g tk fr LP (va_up pr y (upd (pr y) i (vp_nar .byte v.toInt8.toInt32)))) H := hP8
    have hD : va_D A (wsC ct ad B g tk fr LP (va_up pr y (upd (pr y) i (vp_nar .byte v.toInt8.toInt32)))) := hD8
    have hrx : rX g LP (va_up pr y (upd (pr y) i (vp_nar .byte v.toInt8.toInt32))) (va_up X k (some (upd r0 i (vp_nar .byte v.toInt8.toInt32)))) := rX_put hrx (by omega) hy (upd_agree hpr)
    have hC9 : cX A D ct ad B tk fr (va_up X k (some (upd r0 i (vp_nar .byte v.toInt8.toInt32)))) H := ⟨g, LP, (va_up pr y (upd (pr y) i (vp_nar .byte v.toInt8.toInt32))), hrx, hP, hD⟩
    have e9 : cX A D ct ad B tk fr (va_up X k (some (upd r0 i (vp_nar .byte v.toInt8.toInt32)))) = cX A D ct ad B tk fr (dx_put X ((k : Nat) : Int) i v) := (by first | exact (by unfold dx_put; rw [if_neg (by omega), Int.toNat_natCast, hX]) | exact (by congr 1; unfold dx_put; rcases Decidable.em (b < 0 ∨ 128 ≤ b) with q | q; rw [if_pos q]; rw [if_neg q, rX_none hrx (by omega) (fun w => c_1 ⟨by omega, by omega, w, by omega, by omega, by omega⟩)]))
    rw [e9] at hC9
    exact W.vret hx hb hr (fun t9 ht hW => ⟨rfl, by rw [ht]; exact hC9, hS.F ht⟩) hS.2.2 d_Db_setByte_22
theorem m_Db_clear : mV R_Db y_Db_clear (Cond.code y_Db_clear c_Db_clear 4 none) 3 := ⟨⟨w_499, w_500, w_3, w_501⟩, by decide +kernel⟩
set_option maxHeartbeats 4000000 in
set_option maxRecDepth 100000 in
theorem k_Db_clear (l : Launch) {D : va_G} {ct : Nat → ClassId} {ad : Nat → Nat} {B : Nat → Int32} {tk : Nat → Int32} {fr : Int32} {X : Nat → Option (Nat → Int32)} {A : Nat → Prop} {b : Int} {x_b : Int32} (hx_b : x_b.toInt = b) {u : Nat} {v : Nat} (h0 : u ≤ v) (h1 : v ≤ 1024) : Met l y_Db_clear (Cond.code y_Db_clear c_Db_clear 4 none :: wA) (rmk 3 0 0) (va_Pc [.ref (ad 1), .int x_b, .int (nI u), .int (nI v)] (cS A D ct ad B tk fr X)) (xQ none A D ct ad B tk fr (dx_clr X b u v)) 0 0 A := by
  refine Met.ofW (cc := c_Db_clear) (maxL := 4) (ret := none) (by decide +kernel) rfl ?_
  intro p e s m args below meth c s₁ B0 hml hv
  obtain ⟨rfl, hA, hE, hK, g, LP, pr, hrx, hP, hD⟩ := hv
  have hS : va_S A s.heap s.heap [] := va_S.rf
  have hx := B0.exec
  have hb := B0.bytes
  have hr := B0.returns
  have hts := fun w (h : w ∈ wA) => atoms_spec (ws := Cond.code y_Db_clear c_Db_clear 4 none :: wA) B0.pre w (List.mem_cons_of_mem _ h)
  have hown : s.vm.findClass R_Db = some m.cls := findClass_of_methodNamed B0.named
  have hlocks := B0.notSynchronized
  have hl := lv_entry ([.ref (ad 1), .int x_b, .int (nI u), .int (nI v)]) (n := 4) (Nat.le_of_ble_eq_true rfl)
  rw [lg_entry_eq]
  generalize (lg_sl ([.ref (ad 1), .int x_b, .int (nI u), .int (nI v)]) ++ List.replicate (4 - (lg_sl ([.ref (ad 1), .int x_b, .int (nI u), .int (nI v)])).length) Slot.unset).toArray = ls at hl ⊢
  have hl : lv_has ls 4 [(0, .ref (ad 1)), (1, .int x_b), (2, .int (nI u)), (3, .int (nI v))] := hl
  have hf_b := z_lt x_b
  have hg_b := z_ge x_b
  rw [hx_b] at hf_b hg_b
  refine lv_aload_n hx hb d_Db_clear_0 rfl (lv_at hl 0 rfl) ?_
  refine lv_iload_n hx hb d_Db_clear_1 rfl (lv_at hl 1 rfl) ?_
  refine lv_iload_n hx hb d_Db_clear_2 rfl (lv_at hl 2 rfl) ?_
  refine lv_iload_n hx hb d_Db_clear_3 rfl (lv_at hl 3 rfl) ?_
  refine rdV ⟨hx, hb, hml, hown, hts⟩ hK hP (k_Db_hasSpan l (b := b) (x_b := x_b) (u := ((u : Nat) : Int)) (x_u := (nI u)) (v := ((v : Nat) : Int)) (x_v := (nI v)) hx_b (nI_toInt (by omega)) (nI_toInt (by omega)) ) w_379 m_Db_hasSpan ⟨by decide, by decide⟩ 1 rfl rfl rfl hl.1 rfl (Nat.le_of_ble_eq_true rfl) d_Db_clear_4 ⟨Nat.zero_le _, Nat.zero_le _⟩ ?_
  refine lb_if_eq (tgt := 22) hx hb d_Db_clear_7 (by decide) (fun c_1 => ?_) (fun c_1 => ?_)
  · skip
    have hC9 : cX A D ct ad B tk fr X s.heap := ⟨g, LP, pr, hrx, hP, hD⟩
    have e9 : cX A D ct ad B tk fr X = cX A D ct ad B tk fr (dx_clr X b u v) := (by first | exact (by unfold dx_clr; rw [if_neg (by omega), Int.toNat_natCast, hX]) | exact (by congr 1; unfold dx_clr; rcases Decidable.em (b < 0 ∨ 128 ≤ b) with q | q; rw [if_pos q]; rw [if_neg q, rX_none hrx (by omega) (fun w => c_1 ⟨by omega, by omega, w, by omega, by omega, by omega⟩)]))
    rw [e9] at hC9
    exact W.vret hx hb hr (fun t9 ht hW => ⟨rfl, by rw [ht]; exact hC9, hS.F ht⟩) hS.2.2 d_Db_clear_22
  · skip
    obtain ⟨p1, p2, p3, p4, p5, p6⟩ := c_1
    obtain ⟨k, rfl⟩ := Int.eq_ofNat_of_zero_le p1
    obtain rfl : x_b = nI k := z_i hx_b (by omega)
    rw [Int.toNat_natCast] at p3
    obtain ⟨y, r0, hy, hyL, hX, hpr⟩ := rX_some hrx (show k < 128 by omega) p3
    obtain ⟨k9, hk9⟩ := wsC_row (ct := ct) (ad := ad) (B := B) (g := g) (tk := tk) (fr := fr) (pr := pr) hyL
    refine lv_aload_n hx hb d_Db_clear_10 rfl (lv_at hl 0 rfl) ?_
    refine va_get (D := D) (ci := 1) (v := .ref (ad 7)) (C := R_Db) (T := T_Db) (N := 3) hx hb hts u_Db hown hK hP 1 rfl rfl 0 (by decide) (hts _ w_53) (fun _ h9 => h9) rfl d_Db_clear_11 ?_
    refine lv_iload_n hx hb d_Db_clear_14 rfl (lv_at hl 1 rfl) ?_
    refine ln_aald hx hb hK hP 7 2 rfl rfl (by omega) (by decide) d_Db_clear_15 ?_
    refine W.eq (g2 := F0 m 16 ls [.ref y]) (by rw [hy]; rfl) ?_
    refine lv_iload_n hx hb d_Db_clear_16 rfl (lv_at hl 2 rfl) ?_
    refine lv_iload_n hx hb d_Db_clear_17 rfl (lv_at hl 3 rfl) ?_
    refine lv_iconst (v := nI 0) hx hb d_Db_clear_18 (by decide) ?_
    refine wrS ⟨hx, hb, hml, hown, hts⟩ hK hP hD hS hA (k_Ar_fill4 l (y := y) (u := u) (v := v) (x := (nI 0)) hyL (by omega) (by omega)) w_502 m_Ar_fill4 ⟨by decide, by decide⟩ rfl hl.1 rfl (Nat.le_of_ble_eq_true rfl) d_Db_clear_19 ⟨Nat.zero_le _, Nat.zero_le _⟩ (fun H locs hP hD hS => ?_)
    have hP : va_P D vwC (wsC ct ad B g tk fr LP (va_up pr y (row_fill (nI 0) (pr y) u (v - u)))) H := hP
    have hD : va_D A (wsC ct ad B g tk fr LP (va_up pr y (row_fill (nI 0) (pr y) u (v - u)))) := hD
    refine W.eq (g2 := F0 m 22 ls []) rfl ?_
    have hrx : rX g LP (va_up pr y (row_fill (nI 0) (pr y) u (v - u))) (va_up X k (some (row_fill (nI 0) r0 u (v - u)))) := rX_put hrx (by omega) hy (row_fill_agree (nI 0) (v - u) u _ _ hpr)
    have hC9 : cX A D ct ad B tk fr (va_up X k (some (row_fill (nI 0) r0 u (v - u)))) H := ⟨g, LP, (va_up pr y (row_fill (nI 0) (pr y) u (v - u))), hrx, hP, hD⟩
    have e9 : cX A D ct ad B tk fr (va_up X k (some (row_fill (nI 0) r0 u (v - u)))) = cX A D ct ad B tk fr (dx_clr X ((k : Nat) : Int) u v) := (by first | exact (by unfold dx_clr; rw [if_neg (by omega), Int.toNat_natCast, hX]) | exact (by congr 1; unfold dx_clr; rcases Decidable.em (b < 0 ∨ 128 ≤ b) with q | q; rw [if_pos q]; rw [if_neg q, rX_none hrx (by omega) (fun w => c_1 ⟨by omega, by omega, w, by omega, by omega, by omega⟩)]))
    rw [e9] at hC9
    exact W.vret hx hb hr (fun t9 ht hW => ⟨rfl, by rw [ht]; exact hC9, hS.F ht⟩) hS.2.2 d_Db_clear_22
theorem m_Db_setPattern : mV R_Db y_Db_setPattern (Cond.code y_Db_setPattern c_Db_setPattern 8 none) 4 := ⟨⟨w_441, w_442, w_3, w_443⟩, by decide +kernel⟩
set_option maxHeartbeats 4000000 in
set_option maxRecDepth 100000 in
theorem k_Db_setPattern (l : Launch) {D : va_G} {ct : Nat → ClassId} {ad : Nat → Nat} {B : Nat → Int32} {tk : Nat → Int32} {fr : Int32} {X : Nat → Option (Nat → Int32)} {A : Nat → Prop} {b : Int} {x_b : Int32} (hx_b : x_b.toInt = b) {u : Nat} {v : Nat} {x : Int32} (h0 : u ≤ v) (h1 : v ≤ 1024) : Met l y_Db_setPattern (Cond.code y_Db_setPattern c_Db_setPattern 8 none :: wA) (rmk 2 0 0) (va_Pc [.ref (ad 1), .int x_b, .int (nI u), .int (nI v), .int x] (cS A D ct ad B tk fr X)) (xQ none A D ct ad B tk fr (dx_pat X b u v x)) 0 0 A := by
  refine Met.ofW (cc := c_Db_setPattern) (maxL := 8) (ret := none) (by decide +kernel) rfl ?_
  intro p e s m args below meth c s₁ B0 hml hv
  obtain ⟨rfl, hA, hE, hK, g, LP, pr, hrx, hP, hD⟩ := hv
  have hS : va_S A s.heap s.heap [] := va_S.rf
  have hx := B0.exec
  have hb := B0.bytes
  have hr := B0.returns
  have hts := fun w (h : w ∈ wA) => atoms_spec (ws := Cond.code y_Db_setPattern c_Db_setPattern 8 none :: wA) B0.pre w (List.mem_cons_of_mem _ h)
  have hown : s.vm.findClass R_Db = some m.cls := findClass_of_methodNamed B0.named
  have hlocks := B0.notSynchronized
  have hl := lv_entry ([.ref (ad 1), .int x_b, .int (nI u), .int (nI v), .int x]) (n := 8) (Nat.le_of_ble_eq_true rfl)
  rw [lg_entry_eq]
  generalize (lg_sl ([.ref (ad 1), .int x_b, .int (nI u), .int (nI v), .int x]) ++ List.replicate (8 - (lg_sl ([.ref (ad 1), .int x_b, .int (nI u), .int (nI v), .int x])).length) Slot.unset).toArray = ls at hl ⊢
  have hl : lv_has ls 8 [(0, .ref (ad 1)), (1, .int x_b), (2, .int (nI u)), (3, .int (nI v)), (4, .int x)] := hl
  have hf_b := z_lt x_b
  have hg_b := z_ge x_b
  rw [hx_b] at hf_b hg_b
  refine lv_aload_n hx hb d_Db_setPattern_0 rfl (lv_at hl 0 rfl) ?_
  refine lv_iload_n hx hb d_Db_setPattern_1 rfl (lv_at hl 1 rfl) ?_
  refine lv_iload_n hx hb d_Db_setPattern_2 rfl (lv_at hl 2 rfl) ?_
  refine lv_iload_n hx hb d_Db_setPattern_3 rfl (lv_at hl 3 rfl) ?_
  refine rdV ⟨hx, hb, hml, hown, hts⟩ hK hP (k_Db_hasSpan l (b := b) (x_b := x_b) (u := ((u : Nat) : Int)) (x_u := (nI u)) (v := ((v : Nat) : Int)) (x_v := (nI v)) hx_b (nI_toInt (by omega)) (nI_toInt (by omega)) ) w_379 m_Db_hasSpan ⟨by decide, by decide⟩ 1 rfl rfl rfl hl.1 rfl (Nat.le_of_ble_eq_true rfl) d_Db_setPattern_4 ⟨Nat.zero_le _, Nat.zero_le _⟩ ?_
  refine lb_if_ne (tgt := 11) hx hb d_Db_setPattern_7 (by decide) (fun c_1 => ?_) (fun c_1 => ?_)
  · skip
    obtain ⟨p1, p2, p3, p4, p5, p6⟩ := c_1
    obtain ⟨k, rfl⟩ := Int.eq_ofNat_of_zero_le p1
    obtain rfl : x_b = nI k := z_i hx_b (by omega)
    rw [Int.toNat_natCast] at p3
    obtain ⟨y, r0, hy, hyL, hX, hpr⟩ := rX_some hrx (show k < 128 by omega) p3
    obtain ⟨k9, hk9⟩ := wsC_row (ct := ct) (ad := ad) (B := B) (g := g) (tk := tk) (fr := fr) (pr := pr) hyL
    refine lv_aload_n hx hb d_Db_setPattern_11 rfl (lv_at hl 0 rfl) ?_
    refine va_get (D := D) (ci := 1) (v := .ref (ad 7)) (C := R_Db) (T := T_Db) (N := 3) hx hb hts u_Db hown hK hP 1 rfl rfl 0 (by decide) (hts _ w_53) (fun _ h9 => h9) rfl d_Db_setPattern_12 ?_
    refine lv_iload_n hx hb d_Db_setPattern_15 rfl (lv_at hl 1 rfl) ?_
    refine ln_aald hx hb hK hP 7 2 rfl rfl (by omega) (by decide) d_Db_setPattern_16 ?_
    refine W.eq (g2 := F0 m 17 ls [.ref y]) (by rw [hy]; rfl) ?_
    refine lv_astore (lv' := [(5, .ref y), (0, .ref (ad 1)), (1, .int (nI k)), (2, .int (nI u)), (3, .int (nI v)), (4, .int x)]) hx hb d_Db_setPattern_17 hl (by decide) rfl (fun ls hl => ?_)
    refine lv_iload hx hb d_Db_setPattern_19 (lv_at hl 5 rfl) ?_
    refine lv_istore (lv' := [(6, .int x), (5, .ref y), (0, .ref (ad 1)), (1, .int (nI k)), (2, .int (nI u)), (3, .int (nI v)), (4, .int x)]) hx hb d_Db_setPattern_21 hl (by decide) rfl (fun ls hl => ?_)
    refine lv_iload_n hx hb d_Db_setPattern_23 rfl (lv_at hl 4 rfl) ?_
    refine lv_istore (lv' := [(7, .int (nI u)), (6, .int x), (5, .ref y), (0, .ref (ad 1)), (1, .int (nI k)), (2, .int (nI u)), (3, .int (nI v)), (4, .int x)]) hx hb d_Db_setPattern_24 hl (by decide) rfl (fun ls hl => ?_)
    have loop26 : ∀ (n9 : Nat) (i : Nat) (r : Nat → Int32) (z : Int32), v - i < n9 → i ≤ v → row_pat (pr y) u (v - u) x = row_pat r i (v - i) z → ∀ (H : Heap) (locs : List Loc), va_P D vwC (wsC ct ad B g tk fr LP (va_up pr y r)) H → va_D A (wsC ct ad B g tk fr LP (va_up pr y r)) → va_S A s.heap H locs → ∀ ls : Array Slot, lv_has ls 8 [(0, .ref (ad 1)), (1, .int (nI k)), (2, .int (nI u)), (3, .int (nI v)), (4, .int x), (5, .ref y), (6, .int z), (7, .int (nI i))] → W p l e (headSpec (Cond.code y_Db_setPattern c_Db_setPattern 8 none :: wA) (rmk 2 0 0)).room s m ([.ref (ad 1), .int (nI k), .int (nI u), .int (nI v), .int x] : List Value).toArray below meth c H locs 0 0 (MQ below (xQ none A D ct ad B tk fr (dx_pat X ((k : Nat) : Int) u v x)) ([.ref (ad 1), .int (nI k), .int (nI u), .int (nI v), .int x] : List Value).toArray s 0 0 A) (F0 m 26 ls []) := by
      intro n9
      induction n9 with
      | zero => intro i r z h8 h9 h10 H locs hP hD hS ls hl; exact absurd h8 (by omega)
      | succ n9 ih =>
        intro i r z h8 h9 h10 H locs hP hD hS ls hl
        refine lv_iload hx hb d_Db_setPattern_26 (lv_at hl 7 rfl) ?_
        refine lv_iload_n hx hb d_Db_setPattern_28 rfl (lv_at hl 3 rfl) ?_
        refine ln_icmp_ge (tgt := 49) hx hb (by omega) (by omega) d_Db_setPattern_29 (by decide) (fun c_2 => ?_) (fun c_2 => ?_)
        · skip
          have hrx : rX g LP (va_up pr y r) (va_up X k (some (row_pat r0 u (v - u) x))) := rX_put hrx (by omega) hy (fun j hj => by rw [← row_pat_agree (v - u) u x _ _ hpr j hj, h10, show v - i = 0 by omega]; rfl)
          have hC9 : cX A D ct ad B tk fr (va_up X k (some (row_pat r0 u (v - u) x))) H := ⟨g, LP, (va_up pr y r), hrx, hP, hD⟩
          have e9 : cX A D ct ad B tk fr (va_up X k (some (row_pat r0 u (v - u) x))) = cX A D ct ad B tk fr (dx_pat X ((k : Nat) : Int) u v x) := (by first | exact (by unfold dx_pat; rw [if_neg (by omega), Int.toNat_natCast, hX]) | exact (by congr 1; unfold dx_pat; rcases Decidable.em (b < 0 ∨ 128 ≤ b) with q | q; rw [if_pos q]; rw [if_neg q, rX_none hrx (by omega) (fun w => c_1 ⟨by omega, by omega, w, by omega, by omega, by omega⟩)]))
          rw [e9] at hC9
          exact W.vret hx hb hr (fun t9 ht hW => ⟨rfl, by rw [ht]; exact hC9, hS.F ht⟩) hS.2.2 d_Db_setPattern_49
        · skip
          obtain ⟨k9, hk9⟩ := wsC_row2 (ct := ct) (ad := ad) (B := B) (g := g) (tk := tk) (fr := fr) (pr := pr) (r := r) hyL
          refine lv_aload hx hb d_Db_setPattern_32 (lv_at hl 5 rfl) ?_
          refine lv_iload hx hb d_Db_setPattern_34 (lv_at hl 7 rfl) ?_
          refine lv_iload hx hb d_Db_setPattern_36 (lv_at hl 6 rfl) ?_
          refine lv_i2b hx hb d_Db_setPattern_38 rfl ?_
          refine ln_bast hx hb hK hP hD hS k9 0 hk9 rfl (by omega) (by decide) d_Db_setPattern_39 (fun H locs hP8 hD8 hS => ?_)
          rw [wsC_set2 hD hyL hk9] at hP8 hD8
          have hP : va_P D vwC (wsC ct ad B g tk fr LP (va_up pr y (upd r i (vp_nar .byte z.toInt8.toInt32)))) H := hP8
          have hD : va_D A (wsC ct ad B g tk fr LP (va_up pr y (upd r i (vp_nar .byte z.toInt8.toInt32)))) := hD8
          refine lv_iinc (v := z + Int32.ofInt 7) (lv' := [(6, .int (z + Int32.ofInt 7)), (0, .ref (ad 1)), (1, .int (nI k)), (2, .int (nI u)), (3, .int (nI v)), (4, .int x), (5, .ref y), (7, .int (nI i))]) hx hb d_Db_setPattern_40 hl (k := 6) rfl (rfl) (by decide) rfl (fun ls hl => ?_)
          refine lv_iinc (v := nI (i + 1)) (lv' := [(7, .int (nI (i + 1))), (6, .int (z + Int32.ofInt 7)), (0, .ref (ad 1)), (1, .int (nI k)), (2, .int (nI u)), (3, .int (nI v)), (4, .int x), (5, .ref y)]) hx hb d_Db_setPattern_43 hl (k := 7) rfl (ln_inc (by decide)) (by decide) rfl (fun ls hl => ?_)
          refine lv_goto (tgt := 26) hx hb d_Db_setPattern_46 (by decide) ?_
          exact ih (i + 1) (upd r i (vp_nar .byte (z.toInt8.toInt32))) (z + Int32.ofInt 7) (by omega) (by omega) (by rw [h10, show v - i = v - (i + 1) + 1 by omega, row_pat]) _ _ hP hD hS ls (lv_sub hl [2, 3, 4, 5, 6, 7, 1, 0] rfl)
    have hP : va_P D vwC (wsC ct ad B g tk fr LP (va_up pr y (pr y))) s.heap := by rw [va_up_eta]; exact hP
    have hD : va_D A (wsC ct ad B g tk fr LP (va_up pr y (pr y))) := by rw [va_up_eta]; exact hD
    exact loop26 (v - u + 1) u (pr y) x (by omega) (by omega) rfl _ _ hP hD hS ls (lv_sub hl [3, 4, 5, 6, 7, 2, 1, 0] rfl)
  · skip
    have hC9 : cX A D ct ad B tk fr X s.heap := ⟨g, LP, pr, hrx, hP, hD⟩
    have e9 : cX A D ct ad B tk fr X = cX A D ct ad B tk fr (dx_pat X b u v x) := (by first | exact (by unfold dx_pat; rw [if_neg (by omega), Int.toNat_natCast, hX]) | exact (by congr 1; unfold dx_pat; rcases Decidable.em (b < 0 ∨ 128 ≤ b) with q | q; rw [if_pos q]; rw [if_neg q, rX_none hrx (by omega) (fun w => c_1 ⟨by omega, by omega, w, by omega, by omega, by omega⟩)]))
    rw [e9] at hC9
    exact W.vret hx hb hr (fun t9 ht hW => ⟨rfl, by rw [ht]; exact hC9, hS.F ht⟩) hS.2.2 d_Db_setPattern_10
theorem m_Db_take : mV R_Db y_Db_take (Cond.code y_Db_take c_Db_take 3 (some .int)) 1 := ⟨⟨w_358, w_359, w_3, w_360⟩, by decide +kernel⟩
set_option maxHeartbeats 4000000 in
set_option maxRecDepth 100000 in
theorem k_Db_take (l : Launch) {D : va_G} {ct : Nat → ClassId} {ad : Nat → Nat} {B : Nat → Int32} {tk : Nat → Int32} {fr : Int32} {X : Nat → Option (Nat → Int32)} {A : Nat → Prop} {a : Int} {x_a : Int32} (hx_a : x_a.toInt = a)  : Met l y_Db_take (Cond.code y_Db_take c_Db_take 3 (some .int) :: wA) (rmk 3 1 1024) (va_Pc [.ref (ad 1), .int x_a] (cS A D ct ad B tk fr X)) (xQ (some (.int (nI (dx_tb tk a)))) A D ct ad B (dx_tk tk (dx_tb tk a)) (dx_tf fr (dx_tb tk a)) (dx_tx X (dx_tb tk a))) 1 1024 A := by
  refine Met.ofW (cc := c_Db_take) (maxL := 3) (ret := (some .int)) (by decide +kernel) rfl ?_
  intro p e s m args below meth c s₁ B0 hml hv
  obtain ⟨rfl, hA, hE, hK, g, LP, pr, hrx, hP, hD⟩ := hv
  have hS : va_S A s.heap s.heap [] := va_S.rf
  have hx := B0.exec
  have hb := B0.bytes
  have hr := B0.returns
  have hts := fun w (h : w ∈ wA) => atoms_spec (ws := Cond.code y_Db_take c_Db_take 3 (some .int) :: wA) B0.pre w (List.mem_cons_of_mem _ h)
  have hown : s.vm.findClass R_Db = some m.cls := findClass_of_methodNamed B0.named
  have hlocks := B0.notSynchronized
  have hl := lv_entry ([.ref (ad 1), .int x_a]) (n := 3) (Nat.le_of_ble_eq_true rfl)
  rw [lg_entry_eq]
  generalize (lg_sl ([.ref (ad 1), .int x_a]) ++ List.replicate (3 - (lg_sl ([.ref (ad 1), .int x_a])).length) Slot.unset).toArray = ls at hl ⊢
  have hl : lv_has ls 3 [(0, .ref (ad 1)), (1, .int x_a)] := hl
  have hf_a := z_lt x_a
  have hg_a := z_ge x_a
  rw [hx_a] at hf_a hg_a
  refine lv_aload_n hx hb d_Db_take_0 rfl (lv_at hl 0 rfl) ?_
  refine lv_iload_n hx hb d_Db_take_1 rfl (lv_at hl 1 rfl) ?_
  refine rdV ⟨hx, hb, hml, hown, hts⟩ hK hP (k_Db_leastFree l (a := a) (x_a := x_a) hx_a ) w_361 m_Db_leastFree ⟨by decide, by decide⟩ 1 rfl rfl rfl hl.1 rfl (Nat.le_of_ble_eq_true rfl) d_Db_take_2 ⟨show 0 ≤ 1 by omega, show 0 ≤ 1024 by omega⟩ ?_
  obtain ⟨b1, hb1⟩ : ∃ b1 : Nat, b1 = db_lf tk (128 - (max a 4).toNat) (max a 4).toNat := ⟨_, rfl⟩
  have hl1 : b1 < 128 := by rw [hb1]; exact db_lf_lt _ _ (by omega)
  refine W.eq (g2 := F0 m 5 ls [.int (nI b1)]) (by rw [hb1]) ?_
  refine lv_istore_n (lv' := [(2, .int (nI b1)), (0, .ref (ad 1)), (1, .int x_a)]) hx hb d_Db_take_5 rfl hl (by decide) rfl (fun ls hl => ?_)
  refine lv_iload_n hx hb d_Db_take_6 rfl (lv_at hl 0 rfl) ?_
  refine ln_if_ne (tgt := 16) hx hb (by omega) d_Db_take_7 (by decide) (fun c_1 => ?_) (fun c_1 => ?_)
  · skip
    have hdx : dx_tb tk a = b1 := by unfold dx_tb; rw [← hb1, if_neg (by omega)]
    refine lv_iload_n hx hb d_Db_take_16 rfl (lv_at hl 0 rfl) ?_
    refine ln_if_ne (tgt := 22) hx hb (by omega) d_Db_take_17 (by decide) (fun c_2 => ?_) (fun c_2 => ?_)
    · skip
      refine lv_aload_n hx hb d_Db_take_22 rfl (lv_at hl 1 rfl) ?_
      refine va_get (D := D) (ci := 1) (v := .ref (ad 7)) (C := R_Db) (T := T_Db) (N := 3) hx hb hts u_Db hown hK hP 1 rfl rfl 0 (by decide) (hts _ w_53) (fun _ h9 => h9) rfl d_Db_take_23 ?_
      refine lv_iload_n hx hb d_Db_take_26 rfl (lv_at hl 0 rfl) ?_
      refine ln_aald hx hb hK hP 7 2 rfl rfl (by omega) (by decide) d_Db_take_27 ?_
      rcases y_3e : g b1 with _ | y_3
      · skip
        refine lv_ifnonnullN hx hb d_Db_take_28 ?_
        refine lv_aload_n hx hb d_Db_take_31 rfl (lv_at hl 1 rfl) ?_
        refine va_get (D := D) (ci := 1) (v := .ref (ad 7)) (C := R_Db) (T := T_Db) (N := 3) hx hb hts u_Db hown hK hP 1 rfl rfl 0 (by decide) (hts _ w_53) (fun _ h9 => h9) rfl d_Db_take_32 ?_
        refine lv_iload_n hx hb d_Db_take_35 rfl (lv_at hl 0 rfl) ?_
        refine lv_sipush (v := nI 1024) hx hb d_Db_take_36 (by decide) ?_
        refine ln_newb hx hb (hts _ w_44) hK hP hD hS hA (show 0 + 1 ≤ 1 by omega) (show 0 + 1024 ≤ 1024 by omega) d_Db_take_39 (fun q H hqn hP hD hS => ?_)
        refine ln_aastC hx hb hE.1 hP hD hS (by omega) (List.mem_append.mpr (Or.inr (List.mem_singleton.mpr rfl))) d_Db_take_41 (fun H locs hP hD hS => ?_)
        have hrx : rX (va_up g b1 (some q)) (LP ++ [q]) (va_up pr q (fun _ => 0)) (va_up X b1 (some (fun _ => 0))) := rX_new hrx (by omega) hqn (fun i hi => rfl)
        refine lv_goto (tgt := 55) hx hb d_Db_take_42 (by decide) ?_
        refine lv_aload_n hx hb d_Db_take_55 rfl (lv_at hl 1 rfl) ?_
        refine va_get (D := D) (ci := 1) (v := .ref (ad 8)) (C := R_Db) (T := T_Db) (N := 3) hx hb hts u_Db hown hK hP 1 rfl rfl 1 (by decide) (hts _ w_54) (fun _ h9 => h9) rfl d_Db_take_56 ?_
        refine lv_iload_n hx hb d_Db_take_59 rfl (lv_at hl 0 rfl) ?_
        refine lv_iconst (v := nI 1) hx hb d_Db_take_60 (by decide) ?_
        refine ln_zast hx hb hK hP hD hS 8 1 rfl rfl (by omega) (by decide) d_Db_take_61 (fun H locs hP hD hS => ?_)
        have hP : va_P D vwC (wsC ct ad B (va_up g b1 (some q)) (upd tk b1 (vp_nar .boolean (nI 1))) fr (LP ++ [q]) (va_up pr q (fun _ => 0))) H := hP
        have hD : va_D A (wsC ct ad B (va_up g b1 (some q)) (upd tk b1 (vp_nar .boolean (nI 1))) fr (LP ++ [q]) (va_up pr q (fun _ => 0))) := hD
        refine lv_aload_n hx hb d_Db_take_62 rfl (lv_at hl 1 rfl) ?_
        refine lv_dup hx hb d_Db_take_63 rfl ?_
        refine va_get (D := D) (ci := 1) (v := .int fr) (C := R_Db) (T := T_Db) (N := 3) hx hb hts u_Db hown hK hP 1 rfl rfl 2 (by decide) (hts _ w_55) (fun _ h9 => h9) rfl d_Db_take_64 ?_
        refine lv_iconst (v := nI 1) hx hb d_Db_take_67 (by decide) ?_
        refine lv_isub hx hb d_Db_take_68 ?_
        refine va_put (D := D) (ci := 1) (v := .int (fr - (nI 1))) (ty := .int) (C := R_Db) (T := T_Db) (N := 3) hx hb hts u_Db t_Db t_Db_ok n_Db hown hK hP hD hS 1 rfl rfl 2 (by decide) (hts _ w_55) (fun _ h9 => h9) rfl (by decide +kernel) rfl rfl (Nat.le_of_ble_eq_true rfl) d_Db_take_69 (fun H locs hP hD hS => ?_)
        have hP : va_P D vwC (wsC ct ad B (va_up g b1 (some q)) (upd tk b1 (vp_nar .boolean (nI 1))) (fr - (nI 1)) (LP ++ [q]) (va_up pr q (fun _ => 0))) H := hP
        have hD : va_D A (wsC ct ad B (va_up g b1 (some q)) (upd tk b1 (vp_nar .boolean (nI 1))) (fr - (nI 1)) (LP ++ [q]) (va_up pr q (fun _ => 0))) := hD
        refine lv_iload_n hx hb d_Db_take_72 rfl (lv_at hl 0 rfl) ?_
        have hC9 : cX A D ct ad B (upd tk b1 (vp_nar .boolean (nI 1))) (fr - (nI 1)) (va_up X b1 (some (fun _ => 0))) H := ⟨(va_up g b1 (some q)), (LP ++ [q]), (va_up pr q (fun _ => 0)), hrx, hP, hD⟩
        have e9 : cX A D ct ad B (upd tk b1 (vp_nar .boolean (nI 1))) (fr - (nI 1)) (va_up X b1 (some (fun _ => 0))) = cX A D ct ad B (dx_tk tk (dx_tb tk a)) (dx_tf fr (dx_tb tk a)) (dx_tx X (dx_tb tk a)) := (by rw [hdx]; unfold dx_tk dx_tf dx_tx; first | (rw [if_neg (by omega), if_neg (by omega), if_neg (by omega)]; done) | rw [if_pos (by omega), if_pos (by omega), if_pos (by omega)])
        rw [e9] at hC9
        refine W.widen (k := 1) (n := 1024) (by omega) (by omega) ?_
        exact W.iret (v := nI b1) hx hb hr (fun t9 ht hW => ⟨congrArg (fun z => Outcome.returned (some (Value.int z))) (show nI b1 = (nI (dx_tb tk a)) from (by first | (rw [hdx]; done) | (rw [hdx]; exact congrArg nI (by omega)))), by rw [ht]; exact hC9, hS.F ht⟩) hS.2.2 d_Db_take_73
      · skip
        refine lv_ifnonnull (tgt := 45) hx hb d_Db_take_28 (by decide) ?_
        have yy := ‹g _ = some _›
        refine lv_aload_n hx hb d_Db_take_45 rfl (lv_at hl 1 rfl) ?_
        refine va_get (D := D) (ci := 1) (v := .ref (ad 7)) (C := R_Db) (T := T_Db) (N := 3) hx hb hts u_Db hown hK hP 1 rfl rfl 0 (by decide) (hts _ w_53) (fun _ h9 => h9) rfl d_Db_take_46 ?_
        refine lv_iload_n hx hb d_Db_take_49 rfl (lv_at hl 0 rfl) ?_
        refine ln_aald hx hb hK hP 7 2 rfl rfl (by omega) (by decide) d_Db_take_50 ?_
        obtain ⟨y, r0, hy, hyL, hX, hpr⟩ := rX_some hrx (show b1 < 128 by omega) (fun w => by rw [w] at yy; cases yy)
        obtain ⟨k9, hk9⟩ := wsC_row (ct := ct) (ad := ad) (B := B) (g := g) (tk := tk) (fr := fr) (pr := pr) hyL
        refine W.eq (g2 := F0 m 51 ls [.ref y]) (by rw [hy]; rfl) ?_
        refine lv_iconst (v := nI 0) hx hb d_Db_take_51 (by decide) ?_
        refine wrS ⟨hx, hb, hml, hown, hts⟩ hK hP hD hS hA (k_Ar_fill l (y := y) (x := (nI 0)) hyL ) w_368 m_Ar_fill ⟨by decide, by decide⟩ rfl hl.1 rfl (Nat.le_of_ble_eq_true rfl) d_Db_take_52 ⟨show 0 + 0 ≤ 1 by omega, show 0 + 0 ≤ 1024 by omega⟩ (fun H locs hP hD hS => ?_)
        have hP : va_P D vwC (wsC ct ad B g tk fr LP (va_up pr y (row_fill (nI 0) (pr y) 0 1024))) H := hP
        have hD : va_D A (wsC ct ad B g tk fr LP (va_up pr y (row_fill (nI 0) (pr y) 0 1024))) := hD
        refine W.eq (g2 := F0 m 55 ls []) rfl ?_
        have hrx : rX g LP (va_up pr y (row_fill (nI 0) (pr y) 0 1024)) (va_up X b1 (some (fun _ => 0))) := rX_put hrx (by omega) hy (fun i hi => by rw [row_fill_in (nI 0) 1024 0 _ i (by omega) (by omega)]; rfl)
        refine lv_aload_n hx hb d_Db_take_55 rfl (lv_at hl 1 rfl) ?_
        refine va_get (D := D) (ci := 1) (v := .ref (ad 8)) (C := R_Db) (T := T_Db) (N := 3) hx hb hts u_Db hown hK hP 1 rfl rfl 1 (by decide) (hts _ w_54) (fun _ h9 => h9) rfl d_Db_take_56 ?_
        refine lv_iload_n hx hb d_Db_take_59 rfl (lv_at hl 0 rfl) ?_
        refine lv_iconst (v := nI 1) hx hb d_Db_take_60 (by decide) ?_
        refine ln_zast hx hb hK hP hD hS 8 1 rfl rfl (by omega) (by decide) d_Db_take_61 (fun H locs hP hD hS => ?_)
        have hP : va_P D vwC (wsC ct ad B g (upd tk b1 (vp_nar .boolean (nI 1))) fr LP (va_up pr y (row_fill (nI 0) (pr y) 0 1024))) H := hP
        have hD : va_D A (wsC ct ad B g (upd tk b1 (vp_nar .boolean (nI 1))) fr LP (va_up pr y (row_fill (nI 0) (pr y) 0 1024))) := hD
        refine lv_aload_n hx hb d_Db_take_62 rfl (lv_at hl 1 rfl) ?_
        refine lv_dup hx hb d_Db_take_63 rfl ?_
        refine va_get (D := D) (ci := 1) (v := .int fr) (C := R_Db) (T := T_Db) (N := 3) hx hb hts u_Db hown hK hP 1 rfl rfl 2 (by decide) (hts _ w_55) (fun _ h9 => h9) rfl d_Db_take_64 ?_
        refine lv_iconst (v := nI 1) hx hb d_Db_take_67 (by decide) ?_
        refine lv_isub hx hb d_Db_take_68 ?_
        refine va_put (D := D) (ci := 1) (v := .int (fr - (nI 1))) (ty := .int) (C := R_Db) (T := T_Db) (N := 3) hx hb hts u_Db t_Db t_Db_ok n_Db hown hK hP hD hS 1 rfl rfl 2 (by decide) (hts _ w_55) (fun _ h9 => h9) rfl (by decide +kernel) rfl rfl (Nat.le_of_ble_eq_true rfl) d_Db_take_69 (fun H locs hP hD hS => ?_)
        have hP : va_P D vwC (wsC ct ad B g (upd tk b1 (vp_nar .boolean (nI 1))) (fr - (nI 1)) LP (va_up pr y (row_fill (nI 0) (pr y) 0 1024))) H := hP
        have hD : va_D A (wsC ct ad B g (upd tk b1 (vp_nar .boolean (nI 1))) (fr - (nI 1)) LP (va_up pr y (row_fill (nI 0) (pr y) 0 1024))) := hD
        refine lv_iload_n hx hb d_Db_take_72 rfl (lv_at hl 0 rfl) ?_
        have hC9 : cX A D ct ad B (upd tk b1 (vp_nar .boolean (nI 1))) (fr - (nI 1)) (va_up X b1 (some (fun _ => 0))) H := ⟨g, LP, (va_up pr y (row_fill (nI 0) (pr y) 0 1024)), hrx, hP, hD⟩
        have e9 : cX A D ct ad B (upd tk b1 (vp_nar .boolean (nI 1))) (fr - (nI 1)) (va_up X b1 (some (fun _ => 0))) = cX A D ct ad B (dx_tk tk (dx_tb tk a)) (dx_tf fr (dx_tb tk a)) (dx_tx X (dx_tb tk a)) := (by rw [hdx]; unfold dx_tk dx_tf dx_tx; first | (rw [if_neg (by omega), if_neg (by omega), if_neg (by omega)]; done) | rw [if_pos (by omega), if_pos (by omega), if_pos (by omega)])
        rw [e9] at hC9
        refine W.widen (k := 1) (n := 1024) (by omega) (by omega) ?_
        exact W.iret (v := nI b1) hx hb hr (fun t9 ht hW => ⟨congrArg (fun z => Outcome.returned (some (Value.int z))) (show nI b1 = (nI (dx_tb tk a)) from (by first | (rw [hdx]; done) | (rw [hdx]; exact congrArg nI (by omega)))), by rw [ht]; exact hC9, hS.F ht⟩) hS.2.2 d_Db_take_73
    · skip
      refine lv_iconst (v := nI 0) hx hb d_Db_take_20 (by decide) ?_
      have hC9 : cX A D ct ad B tk fr X s.heap := ⟨g, LP, pr, hrx, hP, hD⟩
      have e9 : cX A D ct ad B tk fr X = cX A D ct ad B (dx_tk tk (dx_tb tk a)) (dx_tf fr (dx_tb tk a)) (dx_tx X (dx_tb tk a)) := (by rw [hdx]; unfold dx_tk dx_tf dx_tx; first | (rw [if_neg (by omega), if_neg (by omega), if_neg (by omega)]; done) | rw [if_pos (by omega), if_pos (by omega), if_pos (by omega)])
      rw [e9] at hC9
      refine W.widen (k := 1) (n := 1024) (by omega) (by omega) ?_
      exact W.iret (v := nI 0) hx hb hr (fun t9 ht hW => ⟨congrArg (fun z => Outcome.returned (some (Value.int z))) (show nI 0 = (nI (dx_tb tk a)) from (by first | (rw [hdx]; done) | (rw [hdx]; exact congrArg nI (by omega)))), by rw [ht]; exact hC9, hS.F ht⟩) hS.2.2 d_Db_take_21
  · skip
    refine lv_aload_n hx hb d_Db_take_10 rfl (lv_at hl 1 rfl) ?_
    refine lv_iconst (v := nI 4) hx hb d_Db_take_11 (by decide) ?_
    refine rdV ⟨hx, hb, hml, hown, hts⟩ hK hP (k_Db_leastFree l (a := ((4 : Nat) : Int)) (x_a := (nI 4)) (nI_toInt (by omega)) ) w_361 m_Db_leastFree ⟨by decide, by decide⟩ 1 rfl rfl rfl hl.1 rfl (Nat.le_of_ble_eq_true rfl) d_Db_take_12 ⟨show 0 ≤ 1 by omega, show 0 ≤ 1024 by omega⟩ ?_
    obtain ⟨b2, hb2⟩ : ∃ b2 : Nat, b2 = db_lf tk 124 4 := ⟨_, rfl⟩
    have hl2 : b2 < 128 := by rw [hb2]; exact db_lf_lt _ _ (by omega)
    refine W.eq (g2 := F0 m 15 ls [.int (nI b2)]) (by rw [hb2]; rfl) ?_
    refine lv_istore_n (lv' := [(2, .int (nI b2)), (0, .ref (ad 1)), (1, .int x_a)]) hx hb d_Db_take_15 rfl hl (by decide) rfl (fun ls hl => ?_)
    have hdx : dx_tb tk a = b2 := by unfold dx_tb; rw [← hb1, if_pos (by omega), ← hb2]
    refine lv_iload_n hx hb d_Db_take_16 rfl (lv_at hl 0 rfl) ?_
    refine ln_if_ne (tgt := 22) hx hb (by omega) d_Db_take_17 (by decide) (fun c_4 => ?_) (fun c_4 => ?_)
    · skip
      refine lv_aload_n hx hb d_Db_take_22 rfl (lv_at hl 1 rfl) ?_
      refine va_get (D := D) (ci := 1) (v := .ref (ad 7)) (C := R_Db) (T := T_Db) (N := 3) hx hb hts u_Db hown hK hP 1 rfl rfl 0 (by decide) (hts _ w_53) (fun _ h9 => h9) rfl d_Db_take_23 ?_
      refine lv_iload_n hx hb d_Db_take_26 rfl (lv_at hl 0 rfl) ?_
      refine ln_aald hx hb hK hP 7 2 rfl rfl (by omega) (by decide) d_Db_take_27 ?_
      rcases y_5e : g b2 with _ | y_5
      · skip
        refine lv_ifnonnullN hx hb d_Db_take_28 ?_
        refine lv_aload_n hx hb d_Db_take_31 rfl (lv_at hl 1 rfl) ?_
        refine va_get (D := D) (ci := 1) (v := .ref (ad 7)) (C := R_Db) (T := T_Db) (N := 3) hx hb hts u_Db hown hK hP 1 rfl rfl 0 (by decide) (hts _ w_53) (fun _ h9 => h9) rfl d_Db_take_32 ?_
        refine lv_iload_n hx hb d_Db_take_35 rfl (lv_at hl 0 rfl) ?_
        refine lv_sipush (v := nI 1024) hx hb d_Db_take_36 (by decide) ?_
        refine ln_newb hx hb (hts _ w_44) hK hP hD hS hA (show 0 + 1 ≤ 1 by omega) (show 0 + 1024 ≤ 1024 by omega) d_Db_take_39 (fun q H hqn hP hD hS => ?_)
        refine ln_aastC hx hb hE.1 hP hD hS (by omega) (List.mem_append.mpr (Or.inr (List.mem_singleton.mpr rfl))) d_Db_take_41 (fun H locs hP hD hS => ?_)
        have hrx : rX (va_up g b2 (some q)) (LP ++ [q]) (va_up pr q (fun _ => 0)) (va_up X b2 (some (fun _ => 0))) := rX_new hrx (by omega) hqn (fun i hi => rfl)
        refine lv_goto (tgt := 55) hx hb d_Db_take_42 (by decide) ?_
        refine lv_aload_n hx hb d_Db_take_55 rfl (lv_at hl 1 rfl) ?_
        refine va_get (D := D) (ci := 1) (v := .ref (ad 8)) (C := R_Db) (T := T_Db) (N := 3) hx hb hts u_Db hown hK hP 1 rfl rfl 1 (by decide) (hts _ w_54) (fun _ h9 => h9) rfl d_Db_take_56 ?_
        refine lv_iload_n hx hb d_Db_take_59 rfl (lv_at hl 0 rfl) ?_
        refine lv_iconst (v := nI 1) hx hb d_Db_take_60 (by decide) ?_
        refine ln_zast hx hb hK hP hD hS 8 1 rfl rfl (by omega) (by decide) d_Db_take_61 (fun H locs hP hD hS => ?_)
        have hP : va_P D vwC (wsC ct ad B (va_up g b2 (some q)) (upd tk b2 (vp_nar .boolean (nI 1))) fr (LP ++ [q]) (va_up pr q (fun _ => 0))) H := hP
        have hD : va_D A (wsC ct ad B (va_up g b2 (some q)) (upd tk b2 (vp_nar .boolean (nI 1))) fr (LP ++ [q]) (va_up pr q (fun _ => 0))) := hD
        refine lv_aload_n hx hb d_Db_take_62 rfl (lv_at hl 1 rfl) ?_
        refine lv_dup hx hb d_Db_take_63 rfl ?_
        refine va_get (D := D) (ci := 1) (v := .int fr) (C := R_Db) (T := T_Db) (N := 3) hx hb hts u_Db hown hK hP 1 rfl rfl 2 (by decide) (hts _ w_55) (fun _ h9 => h9) rfl d_Db_take_64 ?_
        refine lv_iconst (v := nI 1) hx hb d_Db_take_67 (by decide) ?_
        refine lv_isub hx hb d_Db_take_68 ?_
        refine va_put (D := D) (ci := 1) (v := .int (fr - (nI 1))) (ty := .int) (C := R_Db) (T := T_Db) (N := 3) hx hb hts u_Db t_Db t_Db_ok n_Db hown hK hP hD hS 1 rfl rfl 2 (by decide) (hts _ w_55) (fun _ h9 => h9) rfl (by decide +kernel) rfl rfl (Nat.le_of_ble_eq_true rfl) d_Db_take_69 (fun H locs hP hD hS => ?_)
        have hP : va_P D vwC (wsC ct ad B (va_up g b2 (some q)) (upd tk b2 (vp_nar .boolean (nI 1))) (fr - (nI 1)) (LP ++ [q]) (va_up pr q (fun _ => 0))) H := hP
        have hD : va_D A (wsC ct ad B (va_up g b2 (some q)) (upd tk b2 (vp_nar .boolean (nI 1))) (fr - (nI 1)) (LP ++ [q]) (va_up pr q (fun _ => 0))) := hD
        refine lv_iload_n hx hb d_Db_take_72 rfl (lv_at hl 0 rfl) ?_
        have hC9 : cX A D ct ad B (upd tk b2 (vp_nar .boolean (nI 1))) (fr - (nI 1)) (va_up X b2 (some (fun _ => 0))) H := ⟨(va_up g b2 (some q)), (LP ++ [q]), (va_up pr q (fun _ => 0)), hrx, hP, hD⟩
        have e9 : cX A D ct ad B (upd tk b2 (vp_nar .boolean (nI 1))) (fr - (nI 1)) (va_up X b2 (some (fun _ => 0))) = cX A D ct ad B (dx_tk tk (dx_tb tk a)) (dx_tf fr (dx_tb tk a)) (dx_tx X (dx_tb tk a)) := (by rw [hdx]; unfold dx_tk dx_tf dx_tx; first | (rw [if_neg (by omega), if_neg (by omega), if_neg (by omega)]; done) | rw [if_pos (by omega), if_pos (by omega), if_pos (by omega)])
        rw [e9] at hC9
        refine W.widen (k := 1) (n := 1024) (by omega) (by omega) ?_
        exact W.iret (v := nI b2) hx hb hr (fun t9 ht hW => ⟨congrArg (fun z => Outcome.returned (some (Value.int z))) (show nI b2 = (nI (dx_tb tk a)) from (by first | (rw [hdx]; done) | (rw [hdx]; exact congrArg nI (by omega)))), by rw [ht]; exact hC9, hS.F ht⟩) hS.2.2 d_Db_take_73
      · skip
        refine lv_ifnonnull (tgt := 45) hx hb d_Db_take_28 (by decide) ?_
        have yy := ‹g _ = some _›
        refine lv_aload_n hx hb d_Db_take_45 rfl (lv_at hl 1 rfl) ?_
        refine va_get (D := D) (ci := 1) (v := .ref (ad 7)) (C := R_Db) (T := T_Db) (N := 3) hx hb hts u_Db hown hK hP 1 rfl rfl 0 (by decide) (hts _ w_53) (fun _ h9 => h9) rfl d_Db_take_46 ?_
        refine lv_iload_n hx hb d_Db_take_49 rfl (lv_at hl 0 rfl) ?_
        refine ln_aald hx hb hK hP 7 2 rfl rfl (by omega) (by decide) d_Db_take_50 ?_
        obtain ⟨y, r0, hy, hyL, hX, hpr⟩ := rX_some hrx (show b2 < 128 by omega) (fun w => by rw [w] at yy; cases yy)
        obtain ⟨k9, hk9⟩ := wsC_row (ct := ct) (ad := ad) (B := B) (g := g) (tk := tk) (fr := fr) (pr := pr) hyL
        refine W.eq (g2 := F0 m 51 ls [.ref y]) (by rw [hy]; rfl) ?_
        refine lv_iconst (v := nI 0) hx hb d_Db_take_51 (by decide) ?_
        refine wrS ⟨hx, hb, hml, hown, hts⟩ hK hP hD hS hA (k_Ar_fill l (y := y) (x := (nI 0)) hyL ) w_368 m_Ar_fill ⟨by decide, by decide⟩ rfl hl.1 rfl (Nat.le_of_ble_eq_true rfl) d_Db_take_52 ⟨show 0 + 0 ≤ 1 by omega, show 0 + 0 ≤ 1024 by omega⟩ (fun H locs hP hD hS => ?_)
        have hP : va_P D vwC (wsC ct ad B g tk fr LP (va_up pr y (row_fill (nI 0) (pr y) 0 1024))) H := hP
        have hD : va_D A (wsC ct ad B g tk fr LP (va_up pr y (row_fill (nI 0) (pr y) 0 1024))) := hD
        refine W.eq (g2 := F0 m 55 ls []) rfl ?_
        have hrx : rX g LP (va_up pr y (row_fill (nI 0) (pr y) 0 1024)) (va_up X b2 (some (fun _ => 0))) := rX_put hrx (by omega) hy (fun i hi => by rw [row_fill_in (nI 0) 1024 0 _ i (by omega) (by omega)]; rfl)
        refine lv_aload_n hx hb d_Db_take_55 rfl (lv_at hl 1 rfl) ?_
        refine va_get (D := D) (ci := 1) (v := .ref (ad 8)) (C := R_Db) (T := T_Db) (N := 3) hx hb hts u_Db hown hK hP 1 rfl rfl 1 (by decide) (hts _ w_54) (fun _ h9 => h9) rfl d_Db_take_56 ?_
        refine lv_iload_n hx hb d_Db_take_59 rfl (lv_at hl 0 rfl) ?_
        refine lv_iconst (v := nI 1) hx hb d_Db_take_60 (by decide) ?_
        refine ln_zast hx hb hK hP hD hS 8 1 rfl rfl (by omega) (by decide) d_Db_take_61 (fun H locs hP hD hS => ?_)
        have hP : va_P D vwC (wsC ct ad B g (upd tk b2 (vp_nar .boolean (nI 1))) fr LP (va_up pr y (row_fill (nI 0) (pr y) 0 1024))) H := hP
        have hD : va_D A (wsC ct ad B g (upd tk b2 (vp_nar .boolean (nI 1))) fr LP (va_up pr y (row_fill (nI 0) (pr y) 0 1024))) := hD
        refine lv_aload_n hx hb d_Db_take_62 rfl (lv_at hl 1 rfl) ?_
        refine lv_dup hx hb d_Db_take_63 rfl ?_
        refine va_get (D := D) (ci := 1) (v := .int fr) (C := R_Db) (T := T_Db) (N := 3) hx hb hts u_Db hown hK hP 1 rfl rfl 2 (by decide) (hts _ w_55) (fun _ h9 => h9) rfl d_Db_take_64 ?_
        refine lv_iconst (v := nI 1) hx hb d_Db_take_67 (by decide) ?_
        refine lv_isub hx hb d_Db_take_68 ?_
        refine va_put (D := D) (ci := 1) (v := .int (fr - (nI 1))) (ty := .int) (C := R_Db) (T := T_Db) (N := 3) hx hb hts u_Db t_Db t_Db_ok n_Db hown hK hP hD hS 1 rfl rfl 2 (by decide) (hts _ w_55) (fun _ h9 => h9) rfl (by decide +kernel) rfl rfl (Nat.le_of_ble_eq_true rfl) d_Db_take_69 (fun H locs hP hD hS => ?_)
        have hP : va_P D vwC (wsC ct ad B g (upd tk b2 (vp_nar .boolean (nI 1))) (fr - (nI 1)) LP (va_up pr y (row_fill (nI 0) (pr y) 0 1024))) H := hP
        have hD : va_D A (wsC ct ad B g (upd tk b2 (vp_nar .boolean (nI 1))) (fr - (nI 1)) LP (va_up pr y (row_fill (nI 0) (pr y) 0 1024))) := hD
        refine lv_iload_n hx hb d_Db_take_72 rfl (lv_at hl 0 rfl) ?_
        have hC9 : cX A D ct ad B (upd tk b2 (vp_nar .boolean (nI 1))) (fr - (nI 1)) (va_up X b2 (some (fun _ => 0))) H := ⟨g, LP, (va_up pr y (row_fill (nI 0) (pr y) 0 1024)), hrx, hP, hD⟩
        have e9 : cX A D ct ad B (upd tk b2 (vp_nar .boolean (nI 1))) (fr - (nI 1)) (va_up X b2 (some (fun _ => 0))) = cX A D ct ad B (dx_tk tk (dx_tb tk a)) (dx_tf fr (dx_tb tk a)) (dx_tx X (dx_tb tk a)) := (by rw [hdx]; unfold dx_tk dx_tf dx_tx; first | (rw [if_neg (by omega), if_neg (by omega), if_neg (by omega)]; done) | rw [if_pos (by omega), if_pos (by omega), if_pos (by omega)])
        rw [e9] at hC9
        refine W.widen (k := 1) (n := 1024) (by omega) (by omega) ?_
        exact W.iret (v := nI b2) hx hb hr (fun t9 ht hW => ⟨congrArg (fun z => Outcome.returned (some (Value.int z))) (show nI b2 = (nI (dx_tb tk a)) from (by first | (rw [hdx]; done) | (rw [hdx]; exact congrArg nI (by omega)))), by rw [ht]; exact hC9, hS.F ht⟩) hS.2.2 d_Db_take_73
    · skip
      refine lv_iconst (v := nI 0) hx hb d_Db_take_20 (by decide) ?_
      have hC9 : cX A D ct ad B tk fr X s.heap := ⟨g, LP, pr, hrx, hP, hD⟩
      have e9 : cX A D ct ad B tk fr X = cX A D ct ad B (dx_tk tk (dx_tb tk a)) (dx_tf fr (dx_tb tk a)) (dx_tx X (dx_tb tk a)) := (by rw [hdx]; unfold dx_tk dx_tf dx_tx; first | (rw [if_neg (by omega), if_neg (by omega), if_neg (by omega)]; done) | rw [if_pos (by omega), if_pos (by omega), if_pos (by omega)])
      rw [e9] at hC9
      refine W.widen (k := 1) (n := 1024) (by omega) (by omega) ?_
      exact W.iret (v := nI 0) hx hb hr (fun t9 ht hW => ⟨congrArg (fun z => Outcome.returned (some (Value.int z))) (show nI 0 = (nI (dx_tb tk a)) from (by first | (rw [hdx]; done) | (rw [hdx]; exact congrArg nI (by omega)))), by rw [ht]; exact hC9, hS.F ht⟩) hS.2.2 d_Db_take_21
end
section
/-! Bodies: what is written -/
abbrev cs : Type := (Nat → Int32) × (Nat → Int32) × Int32 × (Nat → Option (Nat → Int32))
abbrev c3 : Type := (Nat → Int32) × (Nat → Int32) × Int32
def bo_goal (B : Nat → Int32) (f k : Nat) : Int32 := if re_blk B f (((k : Nat) : Int) - ((1 : Nat) : Int)) = 0 then nI 4 else re_blk B f (((k : Nat) : Int) - ((1 : Nat) : Int)) + nI 1
def tb_b (S : cs) (f k : Nat) : Nat := dx_tb S.2.1 (bo_goal S.1 f k).toInt
def tbS (S : cs) (f k : Nat) : cs := (if tb_b S f k = 0 then S.1 else re_add S.1 f k (nI (tb_b S f k)), dx_tk S.2.1 (tb_b S f k), dx_tf S.2.2.1 (tb_b S f k), dx_tx S.2.2.2 (tb_b S f k))
theorem dx_tb_lt (tk : Nat → Int32) (a : Int) : dx_tb tk a < 128 := by
  unfold dx_tb
  by_cases h : db_lf tk (128 - (max a 4).toNat) (max a 4).toNat = 0
  · rw [if_pos h]; exact db_lf_lt _ _ (by omega)
  · rw [if_neg h]; exact db_lf_lt _ _ (by omega)
/-- pieces from q on give their blocks back -/
def gbS (f : Nat) : Nat → Nat → c3 → c3
  | 0, _, S => S
  | n + 1, q, S => gbS f n (q + 1) (if re_blk S.1 f ((q : Nat) : Int) = 0 then S else (re_rem S.1 f q, db_gt S.2.1 (re_blk S.1 f ((q : Nat) : Int)).toInt, db_gf S.2.1 S.2.2 (re_blk S.1 f ((q : Nat) : Int)).toInt))
def prS (f : Nat) : Nat → Nat → cs → cs
  | 0, _, S => S
  | n + 1, q, S => prS f n (q + 1) (if re_blk S.1 f ((q : Nat) : Int) = 0 then tbS S f q else S)
def imx (x y : Int32) : Int32 := if x < y then y else x
def pr_S (S : cs) (f a n : Nat) : cs := prS f ((a + n - 1) / 1024 + 1 - a / 1024) (a / 1024) S
def pr_B (S : cs) (f a n : Nat) : Nat → Int32 := re_set (pr_S S f a n).1 f 4 4 (imx (re_f (pr_S S f a n).1 f 4 4) (nI (a + n)))
/-- n bytes are set, the last one first -/
def sbX (B : Nat → Int32) (f a : Nat) : Nat → (Nat → Option (Nat → Int32)) → Int64 → (Nat → Option (Nat → Int32))
  | 0, X, _ => X
  | n + 1, X, r => sbX B f a n (dx_put X (re_blk B f (((a + n) / 1024 : Nat) : Int)).toInt ((a + n) % 1024) r.toInt32) ((r.toUInt64 >>> ((nI 8).toInt64.toUInt64 &&& Int64.toUInt64 63)).toInt64)
def ptX (B : Nat → Int32) (f a n : Nat) (x : Int32) : Nat → Nat → (Nat → Option (Nat → Int32)) → (Nat → Option (Nat → Int32))
  | 0, _, X => X
  | k + 1, q, X => ptX B f a n x k (q + 1) (dx_pat X (re_blk B f ((q : Nat) : Int)).toInt (a - q * 1024) (min (a + n - q * 1024) 1024) (x + nI (7 * (q * 1024 + (a - q * 1024) - a))))
theorem zmax {x : Int32} {z : Int} (h : x.toInt = z) (hz : z < 2147483648) : (if x < nI 0 then nI 0 else x) = nI z.toNat := by
  rcases Int.lt_or_le z 0 with q | q
  · rw [if_pos (Int32.lt_iff_toInt_lt.mpr (by rw [h, nI_toInt (by decide)]; exact q)), show z.toNat = 0 by omega]
  · rw [if_neg (fun w => absurd (Int32.lt_iff_toInt_lt.mp w) (by rw [h, nI_toInt (by decide)]; omega))]; exact z_i (by rw [h]; omega) (by omega)
theorem zmin {x : Int32} {z : Int} (h : x.toInt = z) (h0 : 0 ≤ z) (hz : z < 2147483648) : (if nI 1024 < x then nI 1024 else x) = nI (min z.toNat 1024) := by
  rcases Int.lt_or_le 1024 z with q | q
  · rw [if_pos (Int32.lt_iff_toInt_lt.mpr (by rw [h, nI_toInt (by decide)]; exact q)), show min z.toNat 1024 = 1024 by omega]
  · rw [if_neg (fun w => absurd (Int32.lt_iff_toInt_lt.mp w) (by rw [h, nI_toInt (by decide)]; omega)), show min z.toNat 1024 = z.toNat by omega]; exact z_i (by rw [h]; omega) (by omega)
def rs_q (z : Nat) : Nat := if z % 1024 = 0 then z / 1024 else z / 1024 + 1
def rs_S (S : cs) (f z : Nat) : c3 := gbS f (15 - rs_q z) (rs_q z) (S.1, S.2.1, S.2.2.1)
def rs_X (S : cs) (f z : Nat) : Nat → Option (Nat → Int32) := if re_blk (rs_S S f z).1 f ((z / 1024 : Nat) : Int) = 0 then S.2.2.2 else dx_clr S.2.2.2 (re_blk (rs_S S f z).1 f ((z / 1024 : Nat) : Int)).toInt (z % 1024) 1024
/-- a short target goes to the record -/
def tgB (f : Nat) (x : Int32) : Nat → Nat → (Nat → Int32) → (Nat → Int32)
  | 0, _, B => B
  | k + 1, i, B => tgB f x k (i + 1) (re_set B f (40 + i) 1 (bo_tb x i))
def tgX (z : Int) (x : Int32) : Nat → Nat → (Nat → Option (Nat → Int32)) → (Nat → Option (Nat → Int32))
  | 0, _, X => X
  | k + 1, i, X => tgX z x k (i + 1) (dx_put X z i (bo_tb x i))
def tg_S (S : cs) (f n : Nat) (x : Int32) : cs := if re_kind S.1 f = nI 3 ∧ ¬ nI 59 < re_f S.1 f 4 4 then (tgB f x n 0 S.1, S.2.1, S.2.2.1, S.2.2.2) else ((tbS S f 0).1, (tbS S f 0).2.1, (tbS S f 0).2.2.1, tgX (re_blk (tbS S f 0).1 f ((0 : Nat) : Int)).toInt x n 0 (tbS S f 0).2.2.2)
theorem m_Bo_takeBlock : mV R_Bo y_Bo_takeBlock (Cond.code y_Bo_takeBlock c_Bo_takeBlock 6 none) 2 := ⟨⟨w_355, wp_6, w_6, w_356⟩, by decide +kernel⟩
set_option maxHeartbeats 4000000 in
set_option maxRecDepth 100000 in
theorem k_Bo_takeBlock (l : Launch) {D : va_G} {ct : Nat → ClassId} {ad : Nat → Nat} {B : Nat → Int32} {tk : Nat → Int32} {fr : Int32} {X : Nat → Option (Nat → Int32)} {A : Nat → Prop} {f : Nat} {x_f : Int32} (hx_f : x_f.toNatClampNeg = f) {k : Nat} (h0 : k < 15) : Met l y_Bo_takeBlock (Cond.code y_Bo_takeBlock c_Bo_takeBlock 6 none :: wA) (rmk 5 1 1024) (va_Pc [.ref (ad 5), .int x_f, .int (nI k)] (cS A D ct ad B tk fr X)) (xQ none A D ct ad ((tbS (B, tk, fr, X) f k).1) ((tbS (B, tk, fr, X) f k).2.1) ((tbS (B, tk, fr, X) f k).2.2.1) ((tbS (B, tk, fr, X) f k).2.2.2)) 1 1024 A := by
  refine Met.ofW (cc := c_Bo_takeBlock) (maxL := 6) (ret := none) (by decide +kernel) rfl ?_
  intro p e s m args below meth c s₁ B0 hml hv
  obtain ⟨rfl, hA, hE, hK, g, LP, pr, hrx, hP, hD⟩ := hv
  have hS : va_S A s.heap s.heap [] := va_S.rf
  have hx := B0.exec
  have hb := B0.bytes
  have hr := B0.returns
  have hts := fun w (h : w ∈ wA) => atoms_spec (ws := Cond.code y_Bo_takeBlock c_Bo_takeBlock 6 none :: wA) B0.pre w (List.mem_cons_of_mem _ h)
  have hown : s.vm.findClass R_Bo = some m.cls := findClass_of_methodNamed B0.named
  have hlocks := B0.notSynchronized
  have hl := lv_entry ([.ref (ad 5), .int x_f, .int (nI k)]) (n := 6) (Nat.le_of_ble_eq_true rfl)
  rw [lg_entry_eq]
  generalize (lg_sl ([.ref (ad 5), .int x_f, .int (nI k)]) ++ List.replicate (6 - (lg_sl ([.ref (ad 5), .int x_f, .int (nI k)])).length) Slot.unset).toArray = ls at hl ⊢
  have hl : lv_has ls 6 [(0, .ref (ad 5)), (1, .int x_f), (2, .int (nI k))] := hl
  have hf_f : x_f.toInt.toNat = f := hx_f
  have hg_f := z_lt x_f
  refine lv_aload_n hx hb d_Bo_takeBlock_0 rfl (lv_at hl 0 rfl) ?_
  refine va_get (D := D) (ci := 0) (v := .ref (ad 2)) (C := R_Bo) (T := T_Bo) (N := 2) hx hb hts u_Bo hown hK hP 5 rfl rfl 1 (by decide) (hts _ w_94) (fun _ h9 => h9) rfl d_Bo_takeBlock_1 ?_
  refine lv_iload_n hx hb d_Bo_takeBlock_4 rfl (lv_at hl 1 rfl) ?_
  refine lv_iload_n hx hb d_Bo_takeBlock_5 rfl (lv_at hl 2 rfl) ?_
  refine lv_iconst (v := nI 1) hx hb d_Bo_takeBlock_6 (by decide) ?_
  refine lv_isub hx hb d_Bo_takeBlock_7 ?_
  have z_1 : ((nI k) - (nI 1)).toInt = ((k : Nat) : Int) - ((1 : Nat) : Int) := z_sub (nI_toInt (by omega)) (nI_toInt (by omega)) (by omega) (by omega)
  refine rdV ⟨hx, hb, hml, hown, hts⟩ hK hP (k_Re_blockOf l (f := f) (x_f := x_f) (z := (((k : Nat) : Int) - ((1 : Nat) : Int))) (x_z := ((nI k) - (nI 1))) hx_f z_1 ) w_182 m_Re_blockOf ⟨by decide, by decide⟩ 2 rfl rfl rfl hl.1 rfl (Nat.le_of_ble_eq_true rfl) d_Bo_takeBlock_8 ⟨show 0 ≤ 1 by omega, show 0 ≤ 1024 by omega⟩ ?_
  refine lv_istore_n (lv' := [(3, .int (re_blk B f (((k : Nat) : Int) - ((1 : Nat) : Int)))), (0, .ref (ad 5)), (1, .int x_f), (2, .int (nI k))]) hx hb d_Bo_takeBlock_11 rfl hl (by decide) rfl (fun ls hl => ?_)
  refine lv_iload_n hx hb d_Bo_takeBlock_12 rfl (lv_at hl 0 rfl) ?_
  refine lv_if_ne (tgt := 20) hx hb d_Bo_takeBlock_13 (by decide) (fun c_2 => ?_) (fun c_2 => ?_)
  · skip
    refine lv_iload_n hx hb d_Bo_takeBlock_20 rfl (lv_at hl 0 rfl) ?_
    refine lv_iconst (v := nI 1) hx hb d_Bo_takeBlock_21 (by decide) ?_
    refine lv_iadd hx hb d_Bo_takeBlock_22 ?_
    refine W.eq (g2 := F0 m 23 ls [.int (bo_goal B f k)]) (by unfold bo_goal; first | rw [if_pos (by assumption)] | rw [if_neg (by assumption)]) ?_
    refine lv_istore (lv' := [(4, .int (bo_goal B f k)), (3, .int (re_blk B f (((k : Nat) : Int) - ((1 : Nat) : Int)))), (0, .ref (ad 5)), (1, .int x_f), (2, .int (nI k))]) hx hb d_Bo_takeBlock_23 hl (by decide) rfl (fun ls hl => ?_)
    refine lv_aload_n hx hb d_Bo_takeBlock_25 rfl (lv_at hl 2 rfl) ?_
    refine va_get (D := D) (ci := 0) (v := .ref (ad 1)) (C := R_Bo) (T := T_Bo) (N := 2) hx hb hts u_Bo hown hK hP 5 rfl rfl 0 (by decide) (hts _ w_93) (fun _ h9 => h9) rfl d_Bo_takeBlock_26 ?_
    refine lv_iload hx hb d_Bo_takeBlock_29 (lv_at hl 0 rfl) ?_
    refine wrX ⟨hx, hb, hml, hown, hts⟩ hE hK hrx hP hD hS hA (k_Db_take l (a := ((bo_goal B f k).toInt)) (x_a := (bo_goal B f k)) rfl ) w_357 m_Db_take ⟨by decide, by decide⟩ 1 rfl rfl rfl hl.1 rfl (Nat.le_of_ble_eq_true rfl) d_Bo_takeBlock_31 ⟨show 0 + 1 ≤ 1 by omega, show 0 + 1024 ≤ 1024 by omega⟩ (fun H locs g LP pr hrx hP hD hS => ?_)
    refine W.eq (g2 := F0 m 34 ls [.int (nI (dx_tb tk ((bo_goal B f k).toInt)))]) rfl ?_
    have hlt := dx_tb_lt tk (bo_goal B f k).toInt
    refine lv_istore (lv' := [(5, .int (nI (dx_tb tk ((bo_goal B f k).toInt)))), (4, .int (bo_goal B f k)), (3, .int (re_blk B f (((k : Nat) : Int) - ((1 : Nat) : Int)))), (0, .ref (ad 5)), (1, .int x_f), (2, .int (nI k))]) hx hb d_Bo_takeBlock_34 hl (by decide) rfl (fun ls hl => ?_)
    refine lv_iload hx hb d_Bo_takeBlock_36 (lv_at hl 0 rfl) ?_
    refine ln_if_eq (tgt := 52) hx hb (by omega) d_Bo_takeBlock_38 (by decide) (fun c_3 => ?_) (fun c_3 => ?_)
    · skip
      have hC9 : cX A D ct ad B (dx_tk tk (dx_tb tk ((bo_goal B f k).toInt))) (dx_tf fr (dx_tb tk ((bo_goal B f k).toInt))) (dx_tx X (dx_tb tk ((bo_goal B f k).toInt))) H := ⟨g, LP, pr, hrx, hP, hD⟩
      have e9 : cX A D ct ad B (dx_tk tk (dx_tb tk ((bo_goal B f k).toInt))) (dx_tf fr (dx_tb tk ((bo_goal B f k).toInt))) (dx_tx X (dx_tb tk ((bo_goal B f k).toInt))) = cX A D ct ad ((tbS (B, tk, fr, X) f k).1) ((tbS (B, tk, fr, X) f k).2.1) ((tbS (B, tk, fr, X) f k).2.2.1) ((tbS (B, tk, fr, X) f k).2.2.2) := (by unfold tbS tb_b; dsimp only; first | (rw [if_neg (by omega)]; done) | rw [if_pos (by omega)])
      rw [e9] at hC9
      refine W.widen (k := 1) (n := 1024) (by omega) (by omega) ?_
      exact W.vret hx hb hr (fun t9 ht hW => ⟨rfl, by rw [ht]; exact hC9, hS.F ht⟩) hS.2.2 d_Bo_takeBlock_52
    · skip
      refine lv_aload_n hx hb d_Bo_takeBlock_41 rfl (lv_at hl 3 rfl) ?_
      refine va_get (D := D) (ci := 0) (v := .ref (ad 2)) (C := R_Bo) (T := T_Bo) (N := 2) hx hb hts u_Bo hown hK hP 5 rfl rfl 1 (by decide) (hts _ w_94) (fun _ h9 => h9) rfl d_Bo_takeBlock_42 ?_
      refine lv_iload_n hx hb d_Bo_takeBlock_45 rfl (lv_at hl 4 rfl) ?_
      refine lv_iload_n hx hb d_Bo_takeBlock_46 rfl (lv_at hl 5 rfl) ?_
      refine lv_iload hx hb d_Bo_takeBlock_47 (lv_at hl 0 rfl) ?_
      refine wrV ⟨hx, hb, hml, hown, hts⟩ hK hP hD hS hA (k_Re_addBlock l (f := f) (x_f := x_f) (k := k) (v := (nI (dx_tb tk ((bo_goal B f k).toInt)))) hx_f (by omega)) w_371 m_Re_addBlock ⟨by decide, by decide⟩ 2 rfl rfl rfl hl.1 rfl (Nat.le_of_ble_eq_true rfl) d_Bo_takeBlock_49 ⟨show (0 + 1) + 0 ≤ 1 by omega, show (0 + 1024) + 0 ≤ 1024 by omega⟩ (fun H locs hP hD hS => ?_)
      have hP : va_P D vwC (wsC ct ad (re_add B f k (nI (dx_tb tk ((bo_goal B f k).toInt)))) g (dx_tk tk (dx_tb tk ((bo_goal B f k).toInt))) (dx_tf fr (dx_tb tk ((bo_goal B f k).toInt))) LP pr) H := hP
      have hD : va_D A (wsC ct ad (re_add B f k (nI (dx_tb tk ((bo_goal B f k).toInt)))) g (dx_tk tk (dx_tb tk ((bo_goal B f k).toInt))) (dx_tf fr (dx_tb tk ((bo_goal B f k).toInt))) LP pr) := hD
      refine W.eq (g2 := F0 m 52 ls []) rfl ?_
      have hC9 : cX A D ct ad (re_add B f k (nI (dx_tb tk ((bo_goal B f k).toInt)))) (dx_tk tk (dx_tb tk ((bo_goal B f k).toInt))) (dx_tf fr (dx_tb tk ((bo_goal B f k).toInt))) (dx_tx X (dx_tb tk ((bo_goal B f k).toInt))) H := ⟨g, LP, pr, hrx, hP, hD⟩
      have e9 : cX A D ct ad (re_add B f k (nI (dx_tb tk ((bo_goal B f k).toInt)))) (dx_tk tk (dx_tb tk ((bo_goal B f k).toInt))) (dx_tf fr (dx_tb tk ((bo_goal B f k).toInt))) (dx_tx X (dx_tb tk ((bo_goal B f k).toInt))) = cX A D ct ad ((tbS (B, tk, fr, X) f k).1) ((tbS (B, tk, fr, X) f k).2.1) ((tbS (B, tk, fr, X) f k).2.2.1) ((tbS (B, tk, fr, X) f k).2.2.2) := (by unfold tbS tb_b; dsimp only; first | (rw [if_neg (by omega)]; done) | rw [if_pos (by omega)])
      rw [e9] at hC9
      refine W.widen (k := 1) (n := 1024) (by omega) (by omega) ?_
      exact W.vret hx hb hr (fun t9 ht hW => ⟨rfl, by rw [ht]; exact hC9, hS.F ht⟩) hS.2.2 d_Bo_takeBlock_52
  · skip
    refine lv_iconst (v := nI 4) hx hb d_Bo_takeBlock_16 (by decide) ?_
    refine lv_goto (tgt := 23) hx hb d_Bo_takeBlock_17 (by decide) ?_
    refine W.eq (g2 := F0 m 23 ls [.int (bo_goal B f k)]) (by unfold bo_goal; first | rw [if_pos (by assumption)] | rw [if_neg (by assumption)]) ?_
    refine lv_istore (lv' := [(4, .int (bo_goal B f k)), (3, .int (re_blk B f (((k : Nat) : Int) - ((1 : Nat) : Int)))), (0, .ref (ad 5)), (1, .int x_f), (2, .int (nI k))]) hx hb d_Bo_takeBlock_23 hl (by decide) rfl (fun ls hl => ?_)
    refine lv_aload_n hx hb d_Bo_takeBlock_25 rfl (lv_at hl 2 rfl) ?_
    refine va_get (D := D) (ci := 0) (v := .ref (ad 1)) (C := R_Bo) (T := T_Bo) (N := 2) hx hb hts u_Bo hown hK hP 5 rfl rfl 0 (by decide) (hts _ w_93) (fun _ h9 => h9) rfl d_Bo_takeBlock_26 ?_
    refine lv_iload hx hb d_Bo_takeBlock_29 (lv_at hl 0 rfl) ?_
    refine wrX ⟨hx, hb, hml, hown, hts⟩ hE hK hrx hP hD hS hA (k_Db_take l (a := ((bo_goal B f k).toInt)) (x_a := (bo_goal B f k)) rfl ) w_357 m_Db_take ⟨by decide, by decide⟩ 1 rfl rfl rfl hl.1 rfl (Nat.le_of_ble_eq_true rfl) d_Bo_takeBlock_31 ⟨show 0 + 1 ≤ 1 by omega, show 0 + 1024 ≤ 1024 by omega⟩ (fun H locs g LP pr hrx hP hD hS => ?_)
    refine W.eq (g2 := F0 m 34 ls [.int (nI (dx_tb tk ((bo_goal B f k).toInt)))]) rfl ?_
    have hlt := dx_tb_lt tk (bo_goal B f k).toInt
    refine lv_istore (lv' := [(5, .int (nI (dx_tb tk ((bo_goal B f k).toInt)))), (4, .int (bo_goal B f k)), (3, .int (re_blk B f (((k : Nat) : Int) - ((1 : Nat) : Int)))), (0, .ref (ad 5)), (1, .int x_f), (2, .int (nI k))]) hx hb d_Bo_takeBlock_34 hl (by decide) rfl (fun ls hl => ?_)
    refine lv_iload hx hb d_Bo_takeBlock_36 (lv_at hl 0 rfl) ?_
    refine ln_if_eq (tgt := 52) hx hb (by omega) d_Bo_takeBlock_38 (by decide) (fun c_4 => ?_) (fun c_4 => ?_)
    · skip
      have hC9 : cX A D ct ad B (dx_tk tk (dx_tb tk ((bo_goal B f k).toInt))) (dx_tf fr (dx_tb tk ((bo_goal B f k).toInt))) (dx_tx X (dx_tb tk ((bo_goal B f k).toInt))) H := ⟨g, LP, pr, hrx, hP, hD⟩
      have e9 : cX A D ct ad B (dx_tk tk (dx_tb tk ((bo_goal B f k).toInt))) (dx_tf fr (dx_tb tk ((bo_goal B f k).toInt))) (dx_tx X (dx_tb tk ((bo_goal B f k).toInt))) = cX A D ct ad ((tbS (B, tk, fr, X) f k).1) ((tbS (B, tk, fr, X) f k).2.1) ((tbS (B, tk, fr, X) f k).2.2.1) ((tbS (B, tk, fr, X) f k).2.2.2) := (by unfold tbS tb_b; dsimp only; first | (rw [if_neg (by omega)]; done) | rw [if_pos (by omega)])
      rw [e9] at hC9
      refine W.widen (k := 1) (n := 1024) (by omega) (by omega) ?_
      exact W.vret hx hb hr (fun t9 ht hW => ⟨rfl, by rw [ht]; exact hC9, hS.F ht⟩) hS.2.2 d_Bo_takeBlock_52
    · skip
      refine lv_aload_n hx hb d_Bo_takeBlock_41 rfl (lv_at hl 3 rfl) ?_
      refine va_get (D := D) (ci := 0) (v := .ref (ad 2)) (C := R_Bo) (T := T_Bo) (N := 2) hx hb hts u_Bo hown hK hP 5 rfl rfl 1 (by decide) (hts _ w_94) (fun _ h9 => h9) rfl d_Bo_takeBlock_42 ?_
      refine lv_iload_n hx hb d_Bo_takeBlock_45 rfl (lv_at hl 4 rfl) ?_
      refine lv_iload_n hx hb d_Bo_takeBlock_46 rfl (lv_at hl 5 rfl) ?_
      refine lv_iload hx hb d_Bo_takeBlock_47 (lv_at hl 0 rfl) ?_
      refine wrV ⟨hx, hb, hml, hown, hts⟩ hK hP hD hS hA (k_Re_addBlock l (f := f) (x_f := x_f) (k := k) (v := (nI (dx_tb tk ((bo_goal B f k).toInt)))) hx_f (by omega)) w_371 m_Re_addBlock ⟨by decide, by decide⟩ 2 rfl rfl rfl hl.1 rfl (Nat.le_of_ble_eq_true rfl) d_Bo_takeBlock_49 ⟨show (0 + 1) + 0 ≤ 1 by omega, show (0 + 1024) + 0 ≤ 1024 by omega⟩ (fun H locs hP hD hS => ?_)
      have hP : va_P D vwC (wsC ct ad (re_add B f k (nI (dx_tb tk ((bo_goal B f k).toInt)))) g (dx_tk tk (dx_tb tk ((bo_goal B f k).toInt))) (dx_tf fr (dx_tb tk ((bo_goal B f k).toInt))) LP pr) H := hP
      have hD : va_D A (wsC ct ad (re_add B f k (nI (dx_tb tk ((bo_goal B f k).toInt)))) g (dx_tk tk (dx_tb tk ((bo_goal B f k).toInt))) (dx_tf fr (dx_tb tk ((bo_goal B f k).toInt))) LP pr) := hD
      refine W.eq (g2 := F0 m 52 ls []) rfl ?_
      have hC9 : cX A D ct ad (re_add B f k (nI (dx_tb tk ((bo_goal B f k).toInt)))) (dx_tk tk (dx_tb tk ((bo_goal B f k).toInt))) (dx_tf fr (dx_tb tk ((bo_goal B f k).toInt))) (dx_tx X (dx_tb tk ((bo_goal B f k).toInt))) H := ⟨g, LP, pr, hrx, hP, hD⟩
      have e9 : cX A D ct ad (re_add B f k (nI (dx_tb tk ((bo_goal B f k).toInt)))) (dx_tk tk (dx_tb tk ((bo_goal B f k).toInt))) (dx_tf fr (dx_tb tk ((bo_goal B f k).toInt))) (dx_tx X (dx_tb tk ((bo_goal B f k).toInt))) = cX A D ct ad ((tbS (B, tk, fr, X) f k).1) ((tbS (B, tk, fr, X) f k).2.1) ((tbS (B, tk, fr, X) f k).2.2.1) ((tbS (B, tk, fr, X) f k).2.2.2) := (by unfold tbS tb_b; dsimp only; first | (rw [if_neg (by omega)]; done) | rw [if_pos (by omega)])
      rw [e9] at hC9
      refine W.widen (k := 1) (n := 1024) (by omega) (by omega) ?_
      exact W.vret hx hb hr (fun t9 ht hW => ⟨rfl, by rw [ht]; exact hC9, hS.F ht⟩) hS.2.2 d_Bo_takeBlock_52
theorem m_Bo_giveBack : mV R_Bo y_Bo_giveBack (Cond.code y_Bo_giveBack c_Bo_giveBack 5 none) 2 := ⟨⟨w_179, w_180, w_6, w_181⟩, by decide +kernel⟩
set_option maxHeartbeats 4000000 in
set_option maxRecDepth 100000 in
theorem k_Bo_giveBack (l : Launch) {D : va_G} {ct : Nat → ClassId} {ad : Nat → Nat} {B : Nat → Int32} {g : Nat → Option Nat} {tk : Nat → Int32} {fr : Int32} {LP : List Nat} {pr : Nat → Nat → Int32} {A : Nat → Prop} {f : Nat} {x_f : Int32} (hx_f : x_f.toNatClampNeg = f) {k : Nat} (h0 : k ≤ 15) : Met l y_Bo_giveBack (Cond.code y_Bo_giveBack c_Bo_giveBack 5 none :: wA) (rmk 5 0 0) (va_Pc [.ref (ad 5), .int x_f, .int (nI k)] (cW A D (tyC ct) (wsC ct ad B g tk fr LP pr))) (wQ none A D (wsC ct ad ((gbS f (15 - k) k (B, tk, fr)).1) g ((gbS f (15 - k) k (B, tk, fr)).2.1) ((gbS f (15 - k) k (B, tk, fr)).2.2) LP pr)) 0 0 A := by
  refine Met.ofW (cc := c_Bo_giveBack) (maxL := 5) (ret := none) (by decide +kernel) rfl ?_
  intro p e s m args below meth c s₁ B0 hml hv
  obtain ⟨rfl, hA, hP, hD, hK⟩ := hv
  have hS : va_S A s.heap s.heap [] := va_S.rf
  have hx := B0.exec
  have hb := B0.bytes
  have hr := B0.returns
  have hts := fun w (h : w ∈ wA) => atoms_spec (ws := Cond.code y_Bo_giveBack c_Bo_giveBack 5 none :: wA) B0.pre w (List.mem_cons_of_mem _ h)
  have hown : s.vm.findClass R_Bo = some m.cls := findClass_of_methodNamed B0.named
  have hlocks := B0.notSynchronized
  have hl := lv_entry ([.ref (ad 5), .int x_f, .int (nI k)]) (n := 5) (Nat.le_of_ble_eq_true rfl)
  rw [lg_entry_eq]
  generalize (lg_sl ([.ref (ad 5), .int x_f, .int (nI k)]) ++ List.replicate (5 - (lg_sl ([.ref (ad 5), .int x_f, .int (nI k)])).length) Slot.unset).toArray = ls at hl ⊢
  have hl : lv_has ls 5 [(0, .ref (ad 5)), (1, .int x_f), (2, .int (nI k))] := hl
  have hf_f : x_f.toInt.toNat = f := hx_f
  have hg_f := z_lt x_f
  refine lv_iload_n hx hb d_Bo_giveBack_0 rfl (lv_at hl 2 rfl) ?_
  refine lv_istore_n (lv' := [(3, .int (nI k)), (0, .ref (ad 5)), (1, .int x_f), (2, .int (nI k))]) hx hb d_Bo_giveBack_1 rfl hl (by decide) rfl (fun ls hl => ?_)
  have loop2 : ∀ (n9 : Nat) (q : Nat) (S : c3), 15 - q < n9 → q ≤ 15 → gbS f (15 - k) k (B, tk, fr) = gbS f (15 - q) q S → ∀ (H : Heap) (locs : List Loc), va_P D vwC (wsC ct ad S.1 g S.2.1 S.2.2 LP pr) H → va_D A (wsC ct ad S.1 g S.2.1 S.2.2 LP pr) → va_S A s.heap H locs → ∀ ls : Array Slot, lv_has ls 5 [(0, .ref (ad 5)), (1, .int x_f), (2, .int (nI k)), (3, .int (nI q))] → W p l e (headSpec (Cond.code y_Bo_giveBack c_Bo_giveBack 5 none :: wA) (rmk 5 0 0)).room s m ([.ref (ad 5), .int x_f, .int (nI k)] : List Value).toArray below meth c H locs 0 0 (MQ below (wQ none A D (wsC ct ad ((gbS f (15 - k) k (B, tk, fr)).1) g ((gbS f (15 - k) k (B, tk, fr)).2.1) ((gbS f (15 - k) k (B, tk, fr)).2.2) LP pr)) ([.ref (ad 5), .int x_f, .int (nI k)] : List Value).toArray s 0 0 A) (F0 m 2 ls []) := by
    intro n9
    induction n9 with
    | zero => intro q S h8 h9 h10 H locs hP hD hS ls hl; exact absurd h8 (by omega)
    | succ n9 ih =>
      intro q S h8 h9 h10 H locs hP hD hS ls hl
      refine lv_iload_n hx hb d_Bo_giveBack_2 rfl (lv_at hl 3 rfl) ?_
      refine lv_bipush (v := nI 15) hx hb d_Bo_giveBack_3 (by decide) ?_
      refine ln_icmp_ge (tgt := 48) hx hb (by omega) (by omega) d_Bo_giveBack_5 (by decide) (fun c_1 => ?_) (fun c_1 => ?_)
      · skip
        have e9 : wsC ct ad S.1 g S.2.1 S.2.2 LP pr = wsC ct ad ((gbS f (15 - k) k (B, tk, fr)).1) g ((gbS f (15 - k) k (B, tk, fr)).2.1) ((gbS f (15 - k) k (B, tk, fr)).2.2) LP pr := (by rw [h10, show 15 - q = 0 by omega]; rfl)
        rw [e9] at hP hD
        exact W.vret hx hb hr (fun t9 ht hW => ⟨rfl, by rw [ht]; exact hP, hD, hS.F ht⟩) hS.2.2 d_Bo_giveBack_48
      · skip
        refine lv_aload_n hx hb d_Bo_giveBack_8 rfl (lv_at hl 0 rfl) ?_
        refine va_get (D := D) (ci := 0) (v := .ref (ad 2)) (C := R_Bo) (T := T_Bo) (N := 2) hx hb hts u_Bo hown hK hP 5 rfl rfl 1 (by decide) (hts _ w_94) (fun _ h9 => h9) rfl d_Bo_giveBack_9 ?_
        refine lv_iload_n hx hb d_Bo_giveBack_12 rfl (lv_at hl 1 rfl) ?_
        refine lv_iload_n hx hb d_Bo_giveBack_13 rfl (lv_at hl 3 rfl) ?_
        refine rdV ⟨hx, hb, hml, hown, hts⟩ hK hP (k_Re_blockOf l (f := f) (x_f := x_f) (z := ((q : Nat) : Int)) (x_z := (nI q)) hx_f (nI_toInt (by omega)) ) w_182 m_Re_blockOf ⟨by decide, by decide⟩ 2 rfl rfl rfl hl.1 rfl (Nat.le_of_ble_eq_true rfl) d_Bo_giveBack_14 ⟨Nat.zero_le _, Nat.zero_le _⟩ ?_
        refine lv_istore (lv' := [(4, .int (re_blk S.1 f ((q : Nat) : Int))), (0, .ref (ad 5)), (1, .int x_f), (2, .int (nI k)), (3, .int (nI q))]) hx hb d_Bo_giveBack_17 hl (by decide) rfl (fun ls hl => ?_)
        refine lv_iload hx hb d_Bo_giveBack_19 (lv_at hl 0 rfl) ?_
        refine lv_if_eq (tgt := 42) hx hb d_Bo_giveBack_21 (by decide) (fun c_2 => ?_) (fun c_2 => ?_)
        · skip
          refine lv_iinc (v := nI (q + 1)) (lv' := [(3, .int (nI (q + 1))), (4, .int (re_blk S.1 f ((q : Nat) : Int))), (0, .ref (ad 5)), (1, .int x_f), (2, .int (nI k))]) hx hb d_Bo_giveBack_42 hl (k := 4) rfl (ln_inc (by decide)) (by decide) rfl (fun ls hl => ?_)
          refine lv_goto (tgt := 2) hx hb d_Bo_giveBack_45 (by decide) ?_
          exact ih (q + 1) (S.1, S.2.1, S.2.2) (by omega) (by omega) (by rw [h10, show 15 - q = 15 - (q + 1) + 1 by omega, gbS]; first | rw [if_pos (by assumption)] | rw [if_neg (by assumption)]) _ _ hP hD hS ls (lv_sub hl [2, 3, 4, 0] rfl)
        · skip
          refine lv_aload_n hx hb d_Bo_giveBack_24 rfl (lv_at hl 1 rfl) ?_
          refine va_get (D := D) (ci := 0) (v := .ref (ad 1)) (C := R_Bo) (T := T_Bo) (N := 2) hx hb hts u_Bo hown hK hP 5 rfl rfl 0 (by decide) (hts _ w_93) (fun _ h9 => h9) rfl d_Bo_giveBack_25 ?_
          refine lv_iload hx hb d_Bo_giveBack_28 (lv_at hl 0 rfl) ?_
          refine wrV ⟨hx, hb, hml, hown, hts⟩ hK hP hD hS hA (k_Db_give l (b := ((re_blk S.1 f ((q : Nat) : Int)).toInt)) (x_b := (re_blk S.1 f ((q : Nat) : Int))) rfl ) w_187 m_Db_give ⟨by decide, by decide⟩ 1 rfl rfl rfl hl.1 rfl (Nat.le_of_ble_eq_true rfl) d_Bo_giveBack_30 ⟨Nat.zero_le _, Nat.zero_le _⟩ (fun H locs hP hD hS => ?_)
          have hP : va_P D vwC (wsC ct ad S.1 g (db_gt S.2.1 ((re_blk S.1 f ((q : Nat) : Int)).toInt)) (db_gf S.2.1 S.2.2 ((re_blk S.1 f ((q : Nat) : Int)).toInt)) LP pr) H := hP
          have hD : va_D A (wsC ct ad S.1 g (db_gt S.2.1 ((re_blk S.1 f ((q : Nat) : Int)).toInt)) (db_gf S.2.1 S.2.2 ((re_blk S.1 f ((q : Nat) : Int)).toInt)) LP pr) := hD
          refine W.eq (g2 := F0 m 33 ls []) rfl ?_
          refine lv_aload_n hx hb d_Bo_giveBack_33 rfl (lv_at hl 1 rfl) ?_
          refine va_get (D := D) (ci := 0) (v := .ref (ad 2)) (C := R_Bo) (T := T_Bo) (N := 2) hx hb hts u_Bo hown hK hP 5 rfl rfl 1 (by decide) (hts _ w_94) (fun _ h9 => h9) rfl d_Bo_giveBack_34 ?_
          refine lv_iload_n hx hb d_Bo_giveBack_37 rfl (lv_at hl 2 rfl) ?_
          refine lv_iload_n hx hb d_Bo_giveBack_38 rfl (lv_at hl 4 rfl) ?_
          refine wrV ⟨hx, hb, hml, hown, hts⟩ hK hP hD hS hA (k_Re_removeBlock l (f := f) (x_f := x_f) (k := q) hx_f (by omega)) w_191 m_Re_removeBlock ⟨by decide, by decide⟩ 2 rfl rfl rfl hl.1 rfl (Nat.le_of_ble_eq_true rfl) d_Bo_giveBack_39 ⟨Nat.zero_le _, Nat.zero_le _⟩ (fun H locs hP hD hS => ?_)
          have hP : va_P D vwC (wsC ct ad (re_rem S.1 f q) g (db_gt S.2.1 ((re_blk S.1 f ((q : Nat) : Int)).toInt)) (db_gf S.2.1 S.2.2 ((re_blk S.1 f ((q : Nat) : Int)).toInt)) LP pr) H := hP
          have hD : va_D A (wsC ct ad (re_rem S.1 f q) g (db_gt S.2.1 ((re_blk S.1 f ((q : Nat) : Int)).toInt)) (db_gf S.2.1 S.2.2 ((re_blk S.1 f ((q : Nat) : Int)).toInt)) LP pr) := hD
          refine W.eq (g2 := F0 m 42 ls []) rfl ?_
          refine lv_iinc (v := nI (q + 1)) (lv' := [(3, .int (nI (q + 1))), (4, .int (re_blk S.1 f ((q : Nat) : Int))), (0, .ref (ad 5)), (1, .int x_f), (2, .int (nI k))]) hx hb d_Bo_giveBack_42 hl (k := 4) rfl (ln_inc (by decide)) (by decide) rfl (fun ls hl => ?_)
          refine lv_goto (tgt := 2) hx hb d_Bo_giveBack_45 (by decide) ?_
          exact ih (q + 1) ((re_rem S.1 f q), (db_gt S.2.1 ((re_blk S.1 f ((q : Nat) : Int)).toInt)), (db_gf S.2.1 S.2.2 ((re_blk S.1 f ((q : Nat) : Int)).toInt))) (by omega) (by omega) (by rw [h10, show 15 - q = 15 - (q + 1) + 1 by omega, gbS]; first | rw [if_pos (by assumption)] | rw [if_neg (by assumption)]) _ _ hP hD hS ls (lv_sub hl [2, 3, 4, 0] rfl)
  exact loop2 (15 - k + 1) k (B, tk, fr) (by omega) (by omega) rfl _ _ hP hD hS ls (lv_sub hl [1, 2, 3, 0] rfl)
theorem m_Bo_prepare : mV R_Bo y_Bo_prepare (Cond.code y_Bo_prepare c_Bo_prepare 5 none) 3 := ⟨⟨w_415, w_416, w_6, w_417⟩, by decide +kernel⟩
set_option maxHeartbeats 4000000 in
set_option maxRecDepth 100000 in
theorem k_Bo_prepare (l : Launch) {D : va_G} {ct : Nat → ClassId} {ad : Nat → Nat} {B : Nat → Int32} {tk : Nat → Int32} {fr : Int32} {X : Nat → Option (Nat → Int32)} {A : Nat → Prop} {f : Nat} {x_f : Int32} (hx_f : x_f.toNatClampNeg = f) {a : Nat} {n : Nat} (h0 : a + n ≤ 15360) (h1 : 1 ≤ n) (h2 : n ≤ 4000) : Met l y_Bo_prepare (Cond.code y_Bo_prepare c_Bo_prepare 5 none :: wA) (rmk 6 5 5120) (va_Pc [.ref (ad 5), .int x_f, .int (nI a), .int (nI n)] (cS A D ct ad B tk fr X)) (xQ none A D ct ad (pr_B (B, tk, fr, X) f a n) ((pr_S (B, tk, fr, X) f a n).2.1) ((pr_S (B, tk, fr, X) f a n).2.2.1) ((pr_S (B, tk, fr, X) f a n).2.2.2)) 5 5120 A := by
  refine Met.ofW (cc := c_Bo_prepare) (maxL := 5) (ret := none) (by decide +kernel) rfl ?_
  intro p e s m args below meth c s₁ B0 hml hv
  obtain ⟨rfl, hA, hE, hK, g, LP, pr, hrx, hP, hD⟩ := hv
  have hS : va_S A s.heap s.heap [] := va_S.rf
  have hx := B0.exec
  have hb := B0.bytes
  have hr := B0.returns
  have hts := fun w (h : w ∈ wA) => atoms_spec (ws := Cond.code y_Bo_prepare c_Bo_prepare 5 none :: wA) B0.pre w (List.mem_cons_of_mem _ h)
  have hown : s.vm.findClass R_Bo = some m.cls := findClass_of_methodNamed B0.named
  have hlocks := B0.notSynchronized
  have hl := lv_entry ([.ref (ad 5), .int x_f, .int (nI a), .int (nI n)]) (n := 5) (Nat.le_of_ble_eq_true rfl)
  rw [lg_entry_eq]
  generalize (lg_sl ([.ref (ad 5), .int x_f, .int (nI a), .int (nI n)]) ++ List.replicate (5 - (lg_sl ([.ref (ad 5), .int x_f, .int (nI a), .int (nI n)])).length) Slot.unset).toArray = ls at hl ⊢
  have hl : lv_has ls 5 [(0, .ref (ad 5)), (1, .int x_f), (2, .int (nI a)), (3, .int (nI n))] := hl
  have hf_f : x_f.toInt.toNat = f := hx_f
  have hg_f := z_lt x_f
  refine lv_iload_n hx hb d_Bo_prepare_0 rfl (lv_at hl 2 rfl) ?_
  refine lv_sipush (v := nI 1024) hx hb d_Bo_prepare_1 (by decide) ?_
  refine ln_idiv hx hb d_Bo_prepare_4 (by omega) (by omega) (by omega) ?_
  refine lv_istore (lv' := [(4, .int (nI (a / 1024))), (0, .ref (ad 5)), (1, .int x_f), (2, .int (nI a)), (3, .int (nI n))]) hx hb d_Bo_prepare_5 hl (by decide) rfl (fun ls hl => ?_)
  have loop7 : ∀ (n9 : Nat) (q : Nat) (S : cs) (cs9 : Nat) (sl9 : Nat), (a + n - 1) / 1024 + 1 - q < n9 → q ≤ (a + n - 1) / 1024 + 1 → cs9 + ((a + n - 1) / 1024 + 1 - q) ≤ 5 → sl9 + 1024 * ((a + n - 1) / 1024 + 1 - q) ≤ 5120 → pr_S (B, tk, fr, X) f a n = prS f ((a + n - 1) / 1024 + 1 - q) q S → ∀ (g : Nat → Option Nat) (LP : List Nat) (pr : Nat → Nat → Int32), rX g LP pr S.2.2.2 → ∀ (H : Heap) (locs : List Loc), va_P D vwC (wsC ct ad S.1 g S.2.1 S.2.2.1 LP pr) H → va_D A (wsC ct ad S.1 g S.2.1 S.2.2.1 LP pr) → va_S A s.heap H locs → ∀ ls : Array Slot, lv_has ls 5 [(0, .ref (ad 5)), (1, .int x_f), (2, .int (nI a)), (3, .int (nI n)), (4, .int (nI q))] → W p l e (headSpec (Cond.code y_Bo_prepare c_Bo_prepare 5 none :: wA) (rmk 6 5 5120)).room s m ([.ref (ad 5), .int x_f, .int (nI a), .int (nI n)] : List Value).toArray below meth c H locs cs9 sl9 (MQ below (xQ none A D ct ad (pr_B (B, tk, fr, X) f a n) ((pr_S (B, tk, fr, X) f a n).2.1) ((pr_S (B, tk, fr, X) f a n).2.2.1) ((pr_S (B, tk, fr, X) f a n).2.2.2)) ([.ref (ad 5), .int x_f, .int (nI a), .int (nI n)] : List Value).toArray s 5 5120 A) (F0 m 7 ls []) := by
    intro n9
    induction n9 with
    | zero => intro q S cs9 sl9 h8 h9 h11 h12 h10 g LP pr hrx H locs hP hD hS ls hl; exact absurd h8 (by omega)
    | succ n9 ih =>
      intro q S cs9 sl9 h8 h9 h11 h12 h10 g LP pr hrx H locs hP hD hS ls hl
      refine lv_iload hx hb d_Bo_prepare_7 (lv_at hl 4 rfl) ?_
      refine lv_iload_n hx hb d_Bo_prepare_9 rfl (lv_at hl 2 rfl) ?_
      refine lv_iload_n hx hb d_Bo_prepare_10 rfl (lv_at hl 3 rfl) ?_
      refine rdS ⟨hx, hb, hml, hown, hts⟩ hK hP (k_Bo_lastPiece l (a := a) (n := n) (by omega) (by omega)) w_410 m_Bo_lastPiece ⟨by decide, by decide⟩ rfl hl.1 rfl (Nat.le_of_ble_eq_true rfl) d_Bo_prepare_11 ⟨show cs9 ≤ 5 by omega, show sl9 ≤ 5120 by omega⟩ ?_
      refine ln_icmp_gt (tgt := 43) hx hb (by omega) (by omega) d_Bo_prepare_14 (by decide) (fun c_1 => ?_) (fun c_1 => ?_)
      · skip
        refine lv_aload_n hx hb d_Bo_prepare_43 rfl (lv_at hl 0 rfl) ?_
        refine va_get (D := D) (ci := 0) (v := .ref (ad 2)) (C := R_Bo) (T := T_Bo) (N := 2) hx hb hts u_Bo hown hK hP 5 rfl rfl 1 (by decide) (hts _ w_94) (fun _ h9 => h9) rfl d_Bo_prepare_44 ?_
        refine lv_iload_n hx hb d_Bo_prepare_47 rfl (lv_at hl 1 rfl) ?_
        refine lv_aload_n hx hb d_Bo_prepare_48 rfl (lv_at hl 0 rfl) ?_
        refine va_get (D := D) (ci := 0) (v := .ref (ad 2)) (C := R_Bo) (T := T_Bo) (N := 2) hx hb hts u_Bo hown hK hP 5 rfl rfl 1 (by decide) (hts _ w_94) (fun _ h9 => h9) rfl d_Bo_prepare_49 ?_
        refine lv_iload_n hx hb d_Bo_prepare_52 rfl (lv_at hl 1 rfl) ?_
        refine rdV ⟨hx, hb, hml, hown, hts⟩ hK hP (k_Re_sizeOf l (f := f) (x_f := x_f) hx_f ) w_418 m_Re_sizeOf ⟨by decide, by decide⟩ 2 rfl rfl rfl hl.1 rfl (Nat.le_of_ble_eq_true rfl) d_Bo_prepare_53 ⟨show cs9 ≤ 5 by omega, show sl9 ≤ 5120 by omega⟩ ?_
        refine lv_iload_n hx hb d_Bo_prepare_56 rfl (lv_at hl 2 rfl) ?_
        refine lv_iload_n hx hb d_Bo_prepare_57 rfl (lv_at hl 3 rfl) ?_
        refine ln_iadd hx hb d_Bo_prepare_58 ?_
        refine va_mmax hx hb (hml.trans hl.1.symm) hown (hts _ w_419) (hts _ w_366) (hts _ w_13) (hts _ w_367) (Nat.le_of_ble_eq_true rfl) (Nat.le_of_ble_eq_true rfl) (show cs9 ≤ 5 by omega) (show sl9 ≤ 5120 by omega) d_Bo_prepare_59 ?_
        refine wrV ⟨hx, hb, hml, hown, hts⟩ hK hP hD hS hA (k_Re_setSize l (f := f) (x_f := x_f) (v := (if re_f S.1 f 4 4 < nI (a + n) then nI (a + n) else re_f S.1 f 4 4)) hx_f ) w_420 m_Re_setSize ⟨by decide, by decide⟩ 2 rfl rfl rfl hl.1 rfl (Nat.le_of_ble_eq_true rfl) d_Bo_prepare_62 ⟨show cs9 + 0 ≤ 5 by omega, show sl9 + 0 ≤ 5120 by omega⟩ (fun H locs hP hD hS => ?_)
        have hP : va_P D vwC (wsC ct ad (re_set S.1 f 4 4 (if re_f S.1 f 4 4 < nI (a + n) then nI (a + n) else re_f S.1 f 4 4)) g S.2.1 S.2.2.1 LP pr) H := hP
        have hD : va_D A (wsC ct ad (re_set S.1 f 4 4 (if re_f S.1 f 4 4 < nI (a + n) then nI (a + n) else re_f S.1 f 4 4)) g S.2.1 S.2.2.1 LP pr) := hD
        refine W.eq (g2 := F0 m 65 ls []) rfl ?_
        have hC9 : cX A D ct ad (re_set S.1 f 4 4 (if re_f S.1 f 4 4 < nI (a + n) then nI (a + n) else re_f S.1 f 4 4)) S.2.1 S.2.2.1 S.2.2.2 H := ⟨g, LP, pr, hrx, hP, hD⟩
        have e9 : cX A D ct ad (re_set S.1 f 4 4 (if re_f S.1 f 4 4 < nI (a + n) then nI (a + n) else re_f S.1 f 4 4)) S.2.1 S.2.2.1 S.2.2.2 = cX A D ct ad (pr_B (B, tk, fr, X) f a n) ((pr_S (B, tk, fr, X) f a n).2.1) ((pr_S (B, tk, fr, X) f a n).2.2.1) ((pr_S (B, tk, fr, X) f a n).2.2.2) := (by unfold pr_B; rw [h10, show (a + n - 1) / 1024 + 1 - q = 0 by omega]; rfl)
        rw [e9] at hC9
        refine W.widen (k := 5) (n := 5120) (by omega) (by omega) ?_
        exact W.vret hx hb hr (fun t9 ht hW => ⟨rfl, by rw [ht]; exact hC9, hS.F ht⟩) hS.2.2 d_Bo_prepare_65
      · skip
        refine lv_aload_n hx hb d_Bo_prepare_17 rfl (lv_at hl 0 rfl) ?_
        refine va_get (D := D) (ci := 0) (v := .ref (ad 2)) (C := R_Bo) (T := T_Bo) (N := 2) hx hb hts u_Bo hown hK hP 5 rfl rfl 1 (by decide) (hts _ w_94) (fun _ h9 => h9) rfl d_Bo_prepare_18 ?_
        refine lv_iload_n hx hb d_Bo_prepare_21 rfl (lv_at hl 1 rfl) ?_
        refine lv_iload hx hb d_Bo_prepare_22 (lv_at hl 4 rfl) ?_
        refine rdV ⟨hx, hb, hml, hown, hts⟩ hK hP (k_Re_blockOf l (f := f) (x_f := x_f) (z := ((q : Nat) : Int)) (x_z := (nI q)) hx_f (nI_toInt (by omega)) ) w_182 m_Re_blockOf ⟨by decide, by decide⟩ 2 rfl rfl rfl hl.1 rfl (Nat.le_of_ble_eq_true rfl) d_Bo_prepare_24 ⟨show cs9 ≤ 5 by omega, show sl9 ≤ 5120 by omega⟩ ?_
        refine lv_if_ne (tgt := 37) hx hb d_Bo_prepare_27 (by decide) (fun c_2 => ?_) (fun c_2 => ?_)
        · skip
          refine lv_iinc (v := nI (q + 1)) (lv' := [(4, .int (nI (q + 1))), (0, .ref (ad 5)), (1, .int x_f), (2, .int (nI a)), (3, .int (nI n))]) hx hb d_Bo_prepare_37 hl (k := 4) rfl (ln_inc (by decide)) (by decide) rfl (fun ls hl => ?_)
          refine lv_goto (tgt := 7) hx hb d_Bo_prepare_40 (by decide) ?_
          exact ih (q + 1) (S.1, S.2.1, S.2.2.1, S.2.2.2) cs9 sl9 (by omega) (by omega) (by omega) (by omega) (by rw [h10, show (a + n - 1) / 1024 + 1 - q = (a + n - 1) / 1024 + 1 - (q + 1) + 1 by omega, prS]; first | rw [if_pos (by assumption)] | rw [if_neg (by assumption)]) _ _ _ hrx _ _ hP hD hS ls (lv_sub hl [1, 2, 3, 4, 0] rfl)
        · skip
          refine lv_aload_n hx hb d_Bo_prepare_30 rfl (lv_at hl 0 rfl) ?_
          refine lv_iload_n hx hb d_Bo_prepare_31 rfl (lv_at hl 1 rfl) ?_
          refine lv_iload hx hb d_Bo_prepare_32 (lv_at hl 4 rfl) ?_
          refine wrX ⟨hx, hb, hml, hown, hts⟩ hE hK hrx hP hD hS hA (k_Bo_takeBlock l (f := f) (x_f := x_f) (k := q) hx_f (by omega)) w_353 m_Bo_takeBlock ⟨by decide, by decide⟩ 5 rfl rfl rfl hl.1 rfl (Nat.le_of_ble_eq_true rfl) d_Bo_prepare_34 ⟨show cs9 + 1 ≤ 5 by omega, show sl9 + 1024 ≤ 5120 by omega⟩ (fun H locs g LP pr hrx hP hD hS => ?_)
          refine W.eq (g2 := F0 m 37 ls []) rfl ?_
          refine lv_iinc (v := nI (q + 1)) (lv' := [(4, .int (nI (q + 1))), (0, .ref (ad 5)), (1, .int x_f), (2, .int (nI a)), (3, .int (nI n))]) hx hb d_Bo_prepare_37 hl (k := 4) rfl (ln_inc (by decide)) (by decide) rfl (fun ls hl => ?_)
          refine lv_goto (tgt := 7) hx hb d_Bo_prepare_40 (by decide) ?_
          exact ih (q + 1) (((tbS (S.1, S.2.1, S.2.2.1, S.2.2.2) f q).1), ((tbS (S.1, S.2.1, S.2.2.1, S.2.2.2) f q).2.1), ((tbS (S.1, S.2.1, S.2.2.1, S.2.2.2) f q).2.2.1), ((tbS (S.1, S.2.1, S.2.2.1, S.2.2.2) f q).2.2.2)) (cs9 + 1) (sl9 + 1024) (by omega) (by omega) (by omega) (by omega) (by rw [h10, show (a + n - 1) / 1024 + 1 - q = (a + n - 1) / 1024 + 1 - (q + 1) + 1 by omega, prS]; first | rw [if_pos (by assumption)] | rw [if_neg (by assumption)]) _ _ _ hrx _ _ hP hD hS ls (lv_sub hl [1, 2, 3, 4, 0] rfl)
  exact loop7 ((a + n - 1) / 1024 + 2) (a / 1024) (B, tk, fr, X) 0 0 (by omega) (by omega) (by omega) (by omega) rfl _ _ _ hrx _ _ hP hD hS ls (lv_sub hl [1, 2, 3, 4, 0] rfl)
theorem m_Bo_setBytes : mV R_Bo y_Bo_setBytes (Cond.code y_Bo_setBytes c_Bo_setBytes 10 none) 4 := ⟨⟨w_422, w_423, w_6, w_424⟩, by decide +kernel⟩
set_option maxHeartbeats 4000000 in
set_option maxRecDepth 100000 in
theorem k_Bo_setBytes (l : Launch) {D : va_G} {ct : Nat → ClassId} {ad : Nat → Nat} {B : Nat → Int32} {tk : Nat → Int32} {fr : Int32} {X : Nat → Option (Nat → Int32)} {A : Nat → Prop} {f : Nat} {x_f : Int32} (hx_f : x_f.toNatClampNeg = f) {a : Nat} {r : Int64} {n : Nat} (h0 : a + n ≤ 15360) (h1 : 1 ≤ n) : Met l y_Bo_setBytes (Cond.code y_Bo_setBytes c_Bo_setBytes 10 none :: wA) (rmk 5 0 0) (va_Pc [.ref (ad 5), .int x_f, .int (nI a), .long r, .int (nI n)] (cS A D ct ad B tk fr X)) (xQ none A D ct ad B tk fr (sbX B f a n X r)) 0 0 A := by
  refine Met.ofW (cc := c_Bo_setBytes) (maxL := 10) (ret := none) (by decide +kernel) rfl ?_
  intro p e s m args below meth c s₁ B0 hml hv
  obtain ⟨rfl, hA, hE, hK, g, LP, pr, hrx, hP, hD⟩ := hv
  have hS : va_S A s.heap s.heap [] := va_S.rf
  have hx := B0.exec
  have hb := B0.bytes
  have hr := B0.returns
  have hts := fun w (h : w ∈ wA) => atoms_spec (ws := Cond.code y_Bo_setBytes c_Bo_setBytes 10 none :: wA) B0.pre w (List.mem_cons_of_mem _ h)
  have hown : s.vm.findClass R_Bo = some m.cls := findClass_of_methodNamed B0.named
  have hlocks := B0.notSynchronized
  have hl := lv_entry ([.ref (ad 5), .int x_f, .int (nI a), .long r, .int (nI n)]) (n := 10) (Nat.le_of_ble_eq_true rfl)
  rw [lg_entry_eq]
  generalize (lg_sl ([.ref (ad 5), .int x_f, .int (nI a), .long r, .int (nI n)]) ++ List.replicate (10 - (lg_sl ([.ref (ad 5), .int x_f, .int (nI a), .long r, .int (nI n)])).length) Slot.unset).toArray = ls at hl ⊢
  have hl : lv_has ls 10 [(0, .ref (ad 5)), (1, .int x_f), (2, .int (nI a)), (3, .long r), (5, .int (nI n))] := hl
  have hf_f : x_f.toInt.toNat = f := hx_f
  have hg_f := z_lt x_f
  refine lv_lload_n hx hb d_Bo_setBytes_0 rfl (lv_at hl 3 rfl) ?_
  refine lv_lstore (lv' := [(6, .long r), (0, .ref (ad 5)), (1, .int x_f), (2, .int (nI a)), (3, .long r), (5, .int (nI n))]) hx hb d_Bo_setBytes_1 hl (by decide) rfl (fun ls hl => ?_)
  refine lv_iload_n hx hb d_Bo_setBytes_3 rfl (lv_at hl 3 rfl) ?_
  refine lv_iload hx hb d_Bo_setBytes_4 (lv_at hl 5 rfl) ?_
  refine ln_iadd hx hb d_Bo_setBytes_6 ?_
  refine lv_iconst (v := nI 1) hx hb d_Bo_setBytes_7 (by decide) ?_
  refine lv_isub hx hb d_Bo_setBytes_8 ?_
  have z_1 : ((nI (a + n)) - (nI 1)).toInt = ((a + n : Nat) : Int) - ((1 : Nat) : Int) := z_sub (nI_toInt (by omega)) (nI_toInt (by omega)) (by omega) (by omega)
  refine lv_istore (lv' := [(8, .int ((nI (a + n)) - (nI 1))), (6, .long r), (0, .ref (ad 5)), (1, .int x_f), (2, .int (nI a)), (3, .long r), (5, .int (nI n))]) hx hb d_Bo_setBytes_9 hl (by decide) rfl (fun ls hl => ?_)
  have loop11 : ∀ (n9 : Nat) (j : Nat) (i : Int32) (r1 : Int64) (X1 : Nat → Option (Nat → Int32)), j < n9 → j ≤ n → i.toInt = ((a + j : Nat) : Int) - 1 → sbX B f a n X r = sbX B f a j X1 r1 → ∀ (g : Nat → Option Nat) (LP : List Nat) (pr : Nat → Nat → Int32), rX g LP pr X1 → ∀ (H : Heap) (locs : List Loc), va_P D vwC (wsC ct ad B g tk fr LP pr) H → va_D A (wsC ct ad B g tk fr LP pr) → va_S A s.heap H locs → ∀ ls : Array Slot, lv_has ls 10 [(0, .ref (ad 5)), (1, .int x_f), (2, .int (nI a)), (3, .long r), (5, .int (nI n)), (6, .long r1), (8, .int i)] → W p l e (headSpec (Cond.code y_Bo_setBytes c_Bo_setBytes 10 none :: wA) (rmk 5 0 0)).room s m ([.ref (ad 5), .int x_f, .int (nI a), .long r, .int (nI n)] : List Value).toArray below meth c H locs 0 0 (MQ below (xQ none A D ct ad B tk fr (sbX B f a n X r)) ([.ref (ad 5), .int x_f, .int (nI a), .long r, .int (nI n)] : List Value).toArray s 0 0 A) (F0 m 11 ls []) := by
    intro n9
    induction n9 with
    | zero => intro j i r1 X1 h8 h9 hi h10 g LP pr hrx H locs hP hD hS ls hl; exact absurd h8 (by omega)
    | succ n9 ih =>
      intro j i r1 X1 h8 h9 hi h10 g LP pr hrx H locs hP hD hS ls hl
      refine lv_iload hx hb d_Bo_setBytes_11 (lv_at hl 6 rfl) ?_
      refine lv_iload_n hx hb d_Bo_setBytes_13 rfl (lv_at hl 2 rfl) ?_
      refine lz_icmp_lt (tgt := 64) hx hb hi (nI_toInt (by omega)) d_Bo_setBytes_14 (by decide) (fun c_2 => ?_) (fun c_2 => ?_)
      · skip
        have hC9 : cX A D ct ad B tk fr X1 H := ⟨g, LP, pr, hrx, hP, hD⟩
        have e9 : cX A D ct ad B tk fr X1 = cX A D ct ad B tk fr (sbX B f a n X r) := (by rw [h10, show j = 0 by omega]; rfl)
        rw [e9] at hC9
        exact W.vret hx hb hr (fun t9 ht hW => ⟨rfl, by rw [ht]; exact hC9, hS.F ht⟩) hS.2.2 d_Bo_setBytes_64
      · skip
        have hj : ∃ j9, j = j9 + 1 := ⟨j - 1, by omega⟩
        obtain ⟨j9, rfl⟩ := hj
        obtain rfl : i = nI (a + j9) := z_i (by rw [hi]; omega) (by omega)
        refine lv_aload_n hx hb d_Bo_setBytes_17 rfl (lv_at hl 0 rfl) ?_
        refine va_get (D := D) (ci := 0) (v := .ref (ad 2)) (C := R_Bo) (T := T_Bo) (N := 2) hx hb hts u_Bo hown hK hP 5 rfl rfl 1 (by decide) (hts _ w_94) (fun _ h9 => h9) rfl d_Bo_setBytes_18 ?_
        refine lv_iload_n hx hb d_Bo_setBytes_21 rfl (lv_at hl 1 rfl) ?_
        refine lv_iload hx hb d_Bo_setBytes_22 (lv_at hl 6 rfl) ?_
        refine lv_sipush (v := nI 1024) hx hb d_Bo_setBytes_24 (by decide) ?_
        refine ln_idiv hx hb d_Bo_setBytes_27 (by omega) (by omega) (by omega) ?_
        refine rdV ⟨hx, hb, hml, hown, hts⟩ hK hP (k_Re_blockOf l (f := f) (x_f := x_f) (z := (((a + j9) / 1024 : Nat) : Int)) (x_z := (nI ((a + j9) / 1024))) hx_f (nI_toInt (by omega)) ) w_182 m_Re_blockOf ⟨by decide, by decide⟩ 2 rfl rfl rfl hl.1 rfl (Nat.le_of_ble_eq_true rfl) d_Bo_setBytes_28 ⟨Nat.zero_le _, Nat.zero_le _⟩ ?_
        refine lv_istore (lv' := [(9, .int (re_blk B f (((a + j9) / 1024 : Nat) : Int))), (0, .ref (ad 5)), (1, .int x_f), (2, .int (nI a)), (3, .long r), (5, .int (nI n)), (6, .long r1), (8, .int (nI (a + j9)))]) hx hb d_Bo_setBytes_31 hl (by decide) rfl (fun ls hl => ?_)
        refine lv_aload_n hx hb d_Bo_setBytes_33 rfl (lv_at hl 1 rfl) ?_
        refine va_get (D := D) (ci := 0) (v := .ref (ad 1)) (C := R_Bo) (T := T_Bo) (N := 2) hx hb hts u_Bo hown hK hP 5 rfl rfl 0 (by decide) (hts _ w_93) (fun _ h9 => h9) rfl d_Bo_setBytes_34 ?_
        refine lv_iload hx hb d_Bo_setBytes_37 (lv_at hl 0 rfl) ?_
        refine lv_iload hx hb d_Bo_setBytes_39 (lv_at hl 7 rfl) ?_
        refine lv_sipush (v := nI 1024) hx hb d_Bo_setBytes_41 (by decide) ?_
        refine ln_irem hx hb d_Bo_setBytes_44 (by omega) (by omega) (by omega) ?_
        refine lv_lload hx hb d_Bo_setBytes_45 (lv_at hl 6 rfl) ?_
        refine lv_l2i hx hb d_Bo_setBytes_47 rfl ?_
        refine wrX ⟨hx, hb, hml, hown, hts⟩ hE hK hrx hP hD hS hA (k_Db_setByte l (b := ((re_blk B f (((a + j9) / 1024 : Nat) : Int)).toInt)) (x_b := (re_blk B f (((a + j9) / 1024 : Nat) : Int))) (i := ((a + j9) % 1024)) (v := r1.toInt32) rfl (by omega)) w_375 m_Db_setByte ⟨by decide, by decide⟩ 1 rfl rfl rfl hl.1 rfl (Nat.le_of_ble_eq_true rfl) d_Bo_setBytes_48 ⟨Nat.zero_le _, Nat.zero_le _⟩ (fun H locs g LP pr hrx hP hD hS => ?_)
        refine W.eq (g2 := F0 m 51 ls []) rfl ?_
        refine lv_lload hx hb d_Bo_setBytes_51 (lv_at hl 6 rfl) ?_
        refine lv_bipush (v := nI 8) hx hb d_Bo_setBytes_53 (by decide) ?_
        refine lv_lushr hx hb d_Bo_setBytes_55 rfl ?_
        refine lv_lstore (lv' := [(6, .long ((r1.toUInt64 >>> ((nI 8).toInt64.toUInt64 &&& Int64.toUInt64 63)).toInt64)), (9, .int (re_blk B f (((a + j9) / 1024 : Nat) : Int))), (0, .ref (ad 5)), (1, .int x_f), (2, .int (nI a)), (3, .long r), (5, .int (nI n)), (8, .int (nI (a + j9)))]) hx hb d_Bo_setBytes_56 hl (by decide) rfl (fun ls hl => ?_)
        refine lv_iinc (v := (nI (a + j9)) + Int32.ofInt (-1)) (lv' := [(8, .int ((nI (a + j9)) + Int32.ofInt (-1))), (6, .long ((r1.toUInt64 >>> ((nI 8).toInt64.toUInt64 &&& Int64.toUInt64 63)).toInt64)), (9, .int (re_blk B f (((a + j9) / 1024 : Nat) : Int))), (0, .ref (ad 5)), (1, .int x_f), (2, .int (nI a)), (3, .long r), (5, .int (nI n))]) hx hb d_Bo_setBytes_58 hl (k := 7) rfl (rfl) (by decide) rfl (fun ls hl => ?_)
        refine lv_goto (tgt := 11) hx hb d_Bo_setBytes_61 (by decide) ?_
        exact ih j9 ((nI (a + j9)) + Int32.ofInt (-1)) ((r1.toUInt64 >>> ((nI 8).toInt64.toUInt64 &&& Int64.toUInt64 63)).toInt64) (dx_put X1 ((re_blk B f (((a + j9) / 1024 : Nat) : Int)).toInt) ((a + j9) % 1024) r1.toInt32) (by omega) (by omega) (i_dec (by omega)) (by rw [h10, sbX]) _ _ _ hrx _ _ hP hD hS ls (lv_sub hl [3, 4, 5, 6, 7, 1, 0] rfl)
  exact loop11 (n + 1) n (nI (a + n) - nI 1) r X (by omega) (by omega) (i_sub1 (by omega)) rfl _ _ _ hrx _ _ hP hD hS ls (lv_sub hl [2, 3, 4, 5, 6, 1, 0] rfl)
theorem m_Bo_setPattern : mV R_Bo y_Bo_setPattern (Cond.code y_Bo_setPattern c_Bo_setPattern 10 none) 4 := ⟨⟨w_434, w_435, w_6, w_436⟩, by decide +kernel⟩
set_option maxHeartbeats 4000000 in
set_option maxRecDepth 100000 in
theorem k_Bo_setPattern (l : Launch) {D : va_G} {ct : Nat → ClassId} {ad : Nat → Nat} {B : Nat → Int32} {tk : Nat → Int32} {fr : Int32} {X : Nat → Option (Nat → Int32)} {A : Nat → Prop} {f : Nat} {x_f : Int32} (hx_f : x_f.toNatClampNeg = f) {a : Nat} {n : Nat} {x : Int32} (h0 : a + n ≤ 15360) (h1 : 1 ≤ n) : Met l y_Bo_setPattern (Cond.code y_Bo_setPattern c_Bo_setPattern 10 none :: wA) (rmk 5 0 0) (va_Pc [.ref (ad 5), .int x_f, .int (nI a), .int (nI n), .int x] (cS A D ct ad B tk fr X)) (xQ none A D ct ad B tk fr (ptX B f a n x ((a + n - 1) / 1024 + 1 - a / 1024) (a / 1024) X)) 0 0 A := by
  refine Met.ofW (cc := c_Bo_setPattern) (maxL := 10) (ret := none) (by decide +kernel) rfl ?_
  intro p e s m args below meth c s₁ B0 hml hv
  obtain ⟨rfl, hA, hE, hK, g, LP, pr, hrx, hP, hD⟩ := hv
  have hS : va_S A s.heap s.heap [] := va_S.rf
  have hx := B0.exec
  have hb := B0.bytes
  have hr := B0.returns
  have hts := fun w (h : w ∈ wA) => atoms_spec (ws := Cond.code y_Bo_setPattern c_Bo_setPattern 10 none :: wA) B0.pre w (List.mem_cons_of_mem _ h)
  have hown : s.vm.findClass R_Bo = some m.cls := findClass_of_methodNamed B0.named
  have hlocks := B0.notSynchronized
  have hl := lv_entry ([.ref (ad 5), .int x_f, .int (nI a), .int (nI n), .int x]) (n := 10) (Nat.le_of_ble_eq_true rfl)
  rw [lg_entry_eq]
  generalize (lg_sl ([.ref (ad 5), .int x_f, .int (nI a), .int (nI n), .int x]) ++ List.replicate (10 - (lg_sl ([.ref (ad 5), .int x_f, .int (nI a), .int (nI n), .int x])).length) Slot.unset).toArray = ls at hl ⊢
  have hl : lv_has ls 10 [(0, .ref (ad 5)), (1, .int x_f), (2, .int (nI a)), (3, .int (nI n)), (4, .int x)] := hl
  have hf_f : x_f.toInt.toNat = f := hx_f
  have hg_f := z_lt x_f
  refine lv_iload_n hx hb d_Bo_setPattern_0 rfl (lv_at hl 2 rfl) ?_
  refine lv_sipush (v := nI 1024) hx hb d_Bo_setPattern_1 (by decide) ?_
  refine ln_idiv hx hb d_Bo_setPattern_4 (by omega) (by omega) (by omega) ?_
  refine lv_istore (lv' := [(5, .int (nI (a / 1024))), (0, .ref (ad 5)), (1, .int x_f), (2, .int (nI a)), (3, .int (nI n)), (4, .int x)]) hx hb d_Bo_setPattern_5 hl (by decide) rfl (fun ls hl => ?_)
  have loop7 : ∀ (n9 : Nat) (q : Nat) (X1 : Nat → Option (Nat → Int32)), (a + n - 1) / 1024 + 1 - q < n9 → q ≤ (a + n - 1) / 1024 + 1 → a / 1024 ≤ q → ptX B f a n x ((a + n - 1) / 1024 + 1 - a / 1024) (a / 1024) X = ptX B f a n x ((a + n - 1) / 1024 + 1 - q) q X1 → ∀ (g : Nat → Option Nat) (LP : List Nat) (pr : Nat → Nat → Int32), rX g LP pr X1 → ∀ (H : Heap) (locs : List Loc), va_P D vwC (wsC ct ad B g tk fr LP pr) H → va_D A (wsC ct ad B g tk fr LP pr) → va_S A s.heap H locs → ∀ ls : Array Slot, lv_has ls 10 [(0, .ref (ad 5)), (1, .int x_f), (2, .int (nI a)), (3, .int (nI n)), (4, .int x), (5, .int (nI q))] → W p l e (headSpec (Cond.code y_Bo_setPattern c_Bo_setPattern 10 none :: wA) (rmk 5 0 0)).room s m ([.ref (ad 5), .int x_f, .int (nI a), .int (nI n), .int x] : List Value).toArray below meth c H locs 0 0 (MQ below (xQ none A D ct ad B tk fr (ptX B f a n x ((a + n - 1) / 1024 + 1 - a / 1024) (a / 1024) X)) ([.ref (ad 5), .int x_f, .int (nI a), .int (nI n), .int x] : List Value).toArray s 0 0 A) (F0 m 7 ls []) := by
    intro n9
    induction n9 with
    | zero => intro q X1 h8 h9 h11 h10 g LP pr hrx H locs hP hD hS ls hl; exact absurd h8 (by omega)
    | succ n9 ih =>
      intro q X1 h8 h9 h11 h10 g LP pr hrx H locs hP hD hS ls hl
      refine lv_iload hx hb d_Bo_setPattern_7 (lv_at hl 5 rfl) ?_
      refine lv_iload_n hx hb d_Bo_setPattern_9 rfl (lv_at hl 2 rfl) ?_
      refine lv_iload_n hx hb d_Bo_setPattern_10 rfl (lv_at hl 3 rfl) ?_
      refine rdS ⟨hx, hb, hml, hown, hts⟩ hK hP (k_Bo_lastPiece l (a := a) (n := n) (by omega) (by omega)) w_410 m_Bo_lastPiece ⟨by decide, by decide⟩ rfl hl.1 rfl (Nat.le_of_ble_eq_true rfl) d_Bo_setPattern_11 ⟨Nat.zero_le _, Nat.zero_le _⟩ ?_
      refine ln_icmp_gt (tgt := 93) hx hb (by omega) (by omega) d_Bo_setPattern_14 (by decide) (fun c_1 => ?_) (fun c_1 => ?_)
      · skip
        have hC9 : cX A D ct ad B tk fr X1 H := ⟨g, LP, pr, hrx, hP, hD⟩
        have e9 : cX A D ct ad B tk fr X1 = cX A D ct ad B tk fr (ptX B f a n x ((a + n - 1) / 1024 + 1 - a / 1024) (a / 1024) X) := (by rw [h10, show (a + n - 1) / 1024 + 1 - q = 0 by omega]; rfl)
        rw [e9] at hC9
        exact W.vret hx hb hr (fun t9 ht hW => ⟨rfl, by rw [ht]; exact hC9, hS.F ht⟩) hS.2.2 d_Bo_setPattern_93
      · skip
        refine lv_iload hx hb d_Bo_setPattern_17 (lv_at hl 5 rfl) ?_
        refine lv_sipush (v := nI 1024) hx hb d_Bo_setPattern_19 (by decide) ?_
        refine ln_imul hx hb d_Bo_setPattern_22 ?_
        refine lv_istore (lv' := [(6, .int (nI (q * 1024))), (0, .ref (ad 5)), (1, .int x_f), (2, .int (nI a)), (3, .int (nI n)), (4, .int x), (5, .int (nI q))]) hx hb d_Bo_setPattern_23 hl (by decide) rfl (fun ls hl => ?_)
        refine lv_iload_n hx hb d_Bo_setPattern_25 rfl (lv_at hl 3 rfl) ?_
        refine lv_iload hx hb d_Bo_setPattern_26 (lv_at hl 0 rfl) ?_
        refine lv_isub hx hb d_Bo_setPattern_28 ?_
        have z_2 : ((nI a) - (nI (q * 1024))).toInt = ((a : Nat) : Int) - ((q * 1024 : Nat) : Int) := z_sub (nI_toInt (by omega)) (nI_toInt (by omega)) (by omega) (by omega)
        refine lv_iconst (v := nI 0) hx hb d_Bo_setPattern_29 (by decide) ?_
        refine va_mmax hx hb (hml.trans hl.1.symm) hown (hts _ w_419) (hts _ w_366) (hts _ w_13) (hts _ w_367) (Nat.le_of_ble_eq_true rfl) (Nat.le_of_ble_eq_true rfl) (Nat.zero_le _) (Nat.zero_le _) d_Bo_setPattern_30 ?_
        obtain ⟨u, hu⟩ : ∃ u : Nat, u = a - q * 1024 := ⟨_, rfl⟩
        refine W.eq (g2 := F0 m 33 ls [.int (nI u)]) (by rw [zmax z_2 (by omega), hu]; congr 4; omega) ?_
        refine lv_istore (lv' := [(7, .int (nI u)), (6, .int (nI (q * 1024))), (0, .ref (ad 5)), (1, .int x_f), (2, .int (nI a)), (3, .int (nI n)), (4, .int x), (5, .int (nI q))]) hx hb d_Bo_setPattern_33 hl (by decide) rfl (fun ls hl => ?_)
        refine lv_iload_n hx hb d_Bo_setPattern_35 rfl (lv_at hl 4 rfl) ?_
        refine lv_iload_n hx hb d_Bo_setPattern_36 rfl (lv_at hl 5 rfl) ?_
        refine ln_iadd hx hb d_Bo_setPattern_37 ?_
        refine lv_iload hx hb d_Bo_setPattern_38 (lv_at hl 1 rfl) ?_
        refine lv_isub hx hb d_Bo_setPattern_40 ?_
        have z_3 : ((nI (a + n)) - (nI (q * 1024))).toInt = ((a + n : Nat) : Int) - ((q * 1024 : Nat) : Int) := z_sub (nI_toInt (by omega)) (nI_toInt (by omega)) (by omega) (by omega)
        refine lv_sipush (v := nI 1024) hx hb d_Bo_setPattern_41 (by decide) ?_
        refine va_mmin hx hb (hml.trans hl.1.symm) hown (hts _ w_437) (hts _ w_438) (hts _ w_13) (hts _ w_439) (Nat.le_of_ble_eq_true rfl) (Nat.le_of_ble_eq_true rfl) (Nat.zero_le _) (Nat.zero_le _) d_Bo_setPattern_44 ?_
        obtain ⟨v, hv⟩ : ∃ v : Nat, v = min (a + n - q * 1024) 1024 := ⟨_, rfl⟩
        refine W.eq (g2 := F0 m 47 ls [.int (nI v)]) (by rw [zmin z_3 (by omega) (by omega), hv]; congr 4; omega) ?_
        refine lv_istore (lv' := [(8, .int (nI v)), (7, .int (nI u)), (6, .int (nI (q * 1024))), (0, .ref (ad 5)), (1, .int x_f), (2, .int (nI a)), (3, .int (nI n)), (4, .int x), (5, .int (nI q))]) hx hb d_Bo_setPattern_47 hl (by decide) rfl (fun ls hl => ?_)
        refine lv_iload hx hb d_Bo_setPattern_49 (lv_at hl 7 rfl) ?_
        refine lv_bipush (v := nI 7) hx hb d_Bo_setPattern_51 (by decide) ?_
        refine lv_iload hx hb d_Bo_setPattern_53 (lv_at hl 2 rfl) ?_
        refine lv_iload hx hb d_Bo_setPattern_55 (lv_at hl 1 rfl) ?_
        refine ln_iadd hx hb d_Bo_setPattern_57 ?_
        refine lv_iload_n hx hb d_Bo_setPattern_58 rfl (lv_at hl 5 rfl) ?_
        refine ln_isub hx hb d_Bo_setPattern_59 (by omega) ?_
        refine ln_imul hx hb d_Bo_setPattern_60 ?_
        refine lv_iadd hx hb d_Bo_setPattern_61 ?_
        refine lv_istore (lv' := [(9, .int (x + (nI (7 * (((q * 1024) + u) - a))))), (8, .int (nI v)), (7, .int (nI u)), (6, .int (nI (q * 1024))), (0, .ref (ad 5)), (1, .int x_f), (2, .int (nI a)), (3, .int (nI n)), (4, .int x), (5, .int (nI q))]) hx hb d_Bo_setPattern_62 hl (by decide) rfl (fun ls hl => ?_)
        refine lv_aload_n hx hb d_Bo_setPattern_64 rfl (lv_at hl 4 rfl) ?_
        refine va_get (D := D) (ci := 0) (v := .ref (ad 1)) (C := R_Bo) (T := T_Bo) (N := 2) hx hb hts u_Bo hown hK hP 5 rfl rfl 0 (by decide) (hts _ w_93) (fun _ h9 => h9) rfl d_Bo_setPattern_65 ?_
        refine lv_aload_n hx hb d_Bo_setPattern_68 rfl (lv_at hl 4 rfl) ?_
        refine va_get (D := D) (ci := 0) (v := .ref (ad 2)) (C := R_Bo) (T := T_Bo) (N := 2) hx hb hts u_Bo hown hK hP 5 rfl rfl 1 (by decide) (hts _ w_94) (fun _ h9 => h9) rfl d_Bo_setPattern_69 ?_
        refine lv_iload_n hx hb d_Bo_setPattern_72 rfl (lv_at hl 5 rfl) ?_
        refine lv_iload hx hb d_Bo_setPattern_73 (lv_at hl 9 rfl) ?_
        refine rdV ⟨hx, hb, hml, hown, hts⟩ hK hP (k_Re_blockOf l (f := f) (x_f := x_f) (z := ((q : Nat) : Int)) (x_z := (nI q)) hx_f (nI_toInt (by omega)) ) w_182 m_Re_blockOf ⟨by decide, by decide⟩ 2 rfl rfl rfl hl.1 rfl (Nat.le_of_ble_eq_true rfl) d_Bo_setPattern_75 ⟨Nat.zero_le _, Nat.zero_le _⟩ ?_
        refine lv_iload hx hb d_Bo_setPattern_78 (lv_at hl 2 rfl) ?_
        refine lv_iload hx hb d_Bo_setPattern_80 (lv_at hl 1 rfl) ?_
        refine lv_iload hx hb d_Bo_setPattern_82 (lv_at hl 0 rfl) ?_
        refine wrX ⟨hx, hb, hml, hown, hts⟩ hE hK hrx hP hD hS hA (k_Db_setPattern l (b := ((re_blk B f ((q : Nat) : Int)).toInt)) (x_b := (re_blk B f ((q : Nat) : Int))) (u := u) (v := v) (x := (x + (nI (7 * (((q * 1024) + u) - a))))) rfl (by omega) (by omega)) w_440 m_Db_setPattern ⟨by decide, by decide⟩ 1 rfl rfl rfl hl.1 rfl (Nat.le_of_ble_eq_true rfl) d_Bo_setPattern_84 ⟨Nat.zero_le _, Nat.zero_le _⟩ (fun H locs g LP pr hrx hP hD hS => ?_)
        refine W.eq (g2 := F0 m 87 ls []) rfl ?_
        refine lv_iinc (v := nI (q + 1)) (lv' := [(5, .int (nI (q + 1))), (9, .int (x + (nI (7 * (((q * 1024) + u) - a))))), (8, .int (nI v)), (7, .int (nI u)), (6, .int (nI (q * 1024))), (0, .ref (ad 5)), (1, .int x_f), (2, .int (nI a)), (3, .int (nI n)), (4, .int x)]) hx hb d_Bo_setPattern_87 hl (k := 9) rfl (ln_inc (by decide)) (by decide) rfl (fun ls hl => ?_)
        refine lv_goto (tgt := 7) hx hb d_Bo_setPattern_90 (by decide) ?_
        subst hu
        subst hv
        exact ih (q + 1) (dx_pat X1 ((re_blk B f ((q : Nat) : Int)).toInt) (a - q * 1024) (min (a + n - q * 1024) 1024) (x + (nI (7 * (((q * 1024) + (a - q * 1024)) - a))))) (by omega) (by omega) (by omega) (by rw [h10, show (a + n - 1) / 1024 + 1 - q = (a + n - 1) / 1024 + 1 - (q + 1) + 1 by omega, ptX]) _ _ _ hrx _ _ hP hD hS ls (lv_sub hl [5, 6, 7, 8, 9, 0] rfl)
  exact loop7 ((a + n - 1) / 1024 + 2) (a / 1024) X (by omega) (by omega) (by omega) rfl _ _ _ hrx _ _ hP hD hS ls (lv_sub hl [1, 2, 3, 4, 5, 0] rfl)
theorem m_Bo_resize : mV R_Bo y_Bo_resize (Cond.code y_Bo_resize c_Bo_resize 6 none) 2 := ⟨⟨w_494, w_495, w_6, w_496⟩, by decide +kernel⟩
set_option maxHeartbeats 4000000 in
set_option maxRecDepth 100000 in
theorem k_Bo_resize (l : Launch) {D : va_G} {ct : Nat → ClassId} {ad : Nat → Nat} {B : Nat → Int32} {tk : Nat → Int32} {fr : Int32} {X : Nat → Option (Nat → Int32)} {A : Nat → Prop} {f : Nat} {x_f : Int32} (hx_f : x_f.toNatClampNeg = f) {z : Nat} (h0 : z ≤ 15360) : Met l y_Bo_resize (Cond.code y_Bo_resize c_Bo_resize 6 none :: wA) (rmk 6 0 0) (va_Pc [.ref (ad 5), .int x_f, .int (nI z)] (cS A D ct ad B tk fr X)) (xQ none A D ct ad (re_set (rs_S (B, tk, fr, X) f z).1 f 4 4 (nI z)) ((rs_S (B, tk, fr, X) f z).2.1) ((rs_S (B, tk, fr, X) f z).2.2) (rs_X (B, tk, fr, X) f z)) 0 0 A := by
  refine Met.ofW (cc := c_Bo_resize) (maxL := 6) (ret := none) (by decide +kernel) rfl ?_
  intro p e s m args below meth c s₁ B0 hml hv
  obtain ⟨rfl, hA, hE, hK, g, LP, pr, hrx, hP, hD⟩ := hv
  have hS : va_S A s.heap s.heap [] := va_S.rf
  have hx := B0.exec
  have hb := B0.bytes
  have hr := B0.returns
  have hts := fun w (h : w ∈ wA) => atoms_spec (ws := Cond.code y_Bo_resize c_Bo_resize 6 none :: wA) B0.pre w (List.mem_cons_of_mem _ h)
  have hown : s.vm.findClass R_Bo = some m.cls := findClass_of_methodNamed B0.named
  have hlocks := B0.notSynchronized
  have hl := lv_entry ([.ref (ad 5), .int x_f, .int (nI z)]) (n := 6) (Nat.le_of_ble_eq_true rfl)
  rw [lg_entry_eq]
  generalize (lg_sl ([.ref (ad 5), .int x_f, .int (nI z)]) ++ List.replicate (6 - (lg_sl ([.ref (ad 5), .int x_f, .int (nI z)])).length) Slot.unset).toArray = ls at hl ⊢
  have hl : lv_has ls 6 [(0, .ref (ad 5)), (1, .int x_f), (2, .int (nI z))] := hl
  have hf_f : x_f.toInt.toNat = f := hx_f
  have hg_f := z_lt x_f
  refine lv_iload_n hx hb d_Bo_resize_0 rfl (lv_at hl 2 rfl) ?_
  refine lv_sipush (v := nI 1024) hx hb d_Bo_resize_1 (by decide) ?_
  refine ln_idiv hx hb d_Bo_resize_4 (by omega) (by omega) (by omega) ?_
  refine lv_istore_n (lv' := [(3, .int (nI (z / 1024))), (0, .ref (ad 5)), (1, .int x_f), (2, .int (nI z))]) hx hb d_Bo_resize_5 rfl hl (by decide) rfl (fun ls hl => ?_)
  refine lv_iload_n hx hb d_Bo_resize_6 rfl (lv_at hl 3 rfl) ?_
  refine lv_sipush (v := nI 1024) hx hb d_Bo_resize_7 (by decide) ?_
  refine ln_irem hx hb d_Bo_resize_10 (by omega) (by omega) (by omega) ?_
  refine lv_istore (lv' := [(4, .int (nI (z % 1024))), (3, .int (nI (z / 1024))), (0, .ref (ad 5)), (1, .int x_f), (2, .int (nI z))]) hx hb d_Bo_resize_11 hl (by decide) rfl (fun ls hl => ?_)
  refine lv_aload_n hx hb d_Bo_resize_13 rfl (lv_at hl 2 rfl) ?_
  refine lv_iload_n hx hb d_Bo_resize_14 rfl (lv_at hl 3 rfl) ?_
  refine lv_iload hx hb d_Bo_resize_15 (lv_at hl 0 rfl) ?_
  refine ln_if_ne (tgt := 24) hx hb (by omega) d_Bo_resize_17 (by decide) (fun c_1 => ?_) (fun c_1 => ?_)
  · skip
    refine lv_iload_n hx hb d_Bo_resize_24 rfl (lv_at hl 1 rfl) ?_
    refine lv_iconst (v := nI 1) hx hb d_Bo_resize_25 (by decide) ?_
    refine ln_iadd hx hb d_Bo_resize_26 ?_
    have hq9 : rs_q z ≤ 15 := by unfold rs_q; by_cases w : z % 1024 = 0; rw [if_pos w]; omega; rw [if_neg w]; omega
    refine W.eq (g2 := F0 m 27 ls [.int (nI (rs_q z)), .int x_f, .ref (ad 5)]) (by unfold rs_q; first | rw [if_pos (by omega)] | rw [if_neg (by omega)]) ?_
    refine wrV ⟨hx, hb, hml, hown, hts⟩ hK hP hD hS hA (k_Bo_giveBack l (f := f) (x_f := x_f) (k := (rs_q z)) hx_f (by omega)) w_497 m_Bo_giveBack ⟨by decide, by decide⟩ 5 rfl rfl rfl hl.1 rfl (Nat.le_of_ble_eq_true rfl) d_Bo_resize_27 ⟨Nat.zero_le _, Nat.zero_le _⟩ (fun H locs hP hD hS => ?_)
    have hP : va_P D vwC (wsC ct ad ((gbS f (15 - (rs_q z)) (rs_q z) (B, tk, fr)).1) g ((gbS f (15 - (rs_q z)) (rs_q z) (B, tk, fr)).2.1) ((gbS f (15 - (rs_q z)) (rs_q z) (B, tk, fr)).2.2) LP pr) H := hP
    have hD : va_D A (wsC ct ad ((gbS f (15 - (rs_q z)) (rs_q z) (B, tk, fr)).1) g ((gbS f (15 - (rs_q z)) (rs_q z) (B, tk, fr)).2.1) ((gbS f (15 - (rs_q z)) (rs_q z) (B, tk, fr)).2.2) LP pr) := hD
    refine W.eq (g2 := F0 m 30 ls []) rfl ?_
    refine lv_aload_n hx hb d_Bo_resize_30 rfl (lv_at hl 2 rfl) ?_
    refine va_get (D := D) (ci := 0) (v := .ref (ad 2)) (C := R_Bo) (T := T_Bo) (N := 2) hx hb hts u_Bo hown hK hP 5 rfl rfl 1 (by decide) (hts _ w_94) (fun _ h9 => h9) rfl d_Bo_resize_31 ?_
    refine lv_iload_n hx hb d_Bo_resize_34 rfl (lv_at hl 3 rfl) ?_
    refine lv_iload_n hx hb d_Bo_resize_35 rfl (lv_at hl 1 rfl) ?_
    refine rdV ⟨hx, hb, hml, hown, hts⟩ hK hP (k_Re_blockOf l (f := f) (x_f := x_f) (z := ((z / 1024 : Nat) : Int)) (x_z := (nI (z / 1024))) hx_f (nI_toInt (by omega)) ) w_182 m_Re_blockOf ⟨by decide, by decide⟩ 2 rfl rfl rfl hl.1 rfl (Nat.le_of_ble_eq_true rfl) d_Bo_resize_36 ⟨Nat.zero_le _, Nat.zero_le _⟩ ?_
    refine lv_istore (lv' := [(5, .int (re_blk ((gbS f (15 - (rs_q z)) (rs_q z) (B, tk, fr)).1) f ((z / 1024 : Nat) : Int))), (4, .int (nI (z % 1024))), (3, .int (nI (z / 1024))), (0, .ref (ad 5)), (1, .int x_f), (2, .int (nI z))]) hx hb d_Bo_resize_39 hl (by decide) rfl (fun ls hl => ?_)
    refine lv_iload hx hb d_Bo_resize_41 (lv_at hl 0 rfl) ?_
    refine lv_if_eq (tgt := 60) hx hb d_Bo_resize_43 (by decide) (fun c_2 => ?_) (fun c_2 => ?_)
    · skip
      refine lv_aload_n hx hb d_Bo_resize_60 rfl (lv_at hl 3 rfl) ?_
      refine va_get (D := D) (ci := 0) (v := .ref (ad 2)) (C := R_Bo) (T := T_Bo) (N := 2) hx hb hts u_Bo hown hK hP 5 rfl rfl 1 (by decide) (hts _ w_94) (fun _ h9 => h9) rfl d_Bo_resize_61 ?_
      refine lv_iload_n hx hb d_Bo_resize_64 rfl (lv_at hl 4 rfl) ?_
      refine lv_iload_n hx hb d_Bo_resize_65 rfl (lv_at hl 5 rfl) ?_
      refine wrV ⟨hx, hb, hml, hown, hts⟩ hK hP hD hS hA (k_Re_setSize l (f := f) (x_f := x_f) (v := (nI z)) hx_f ) w_420 m_Re_setSize ⟨by decide, by decide⟩ 2 rfl rfl rfl hl.1 rfl (Nat.le_of_ble_eq_true rfl) d_Bo_resize_66 ⟨Nat.zero_le _, Nat.zero_le _⟩ (fun H locs hP hD hS => ?_)
      have hP : va_P D vwC (wsC ct ad (re_set ((gbS f (15 - (rs_q z)) (rs_q z) (B, tk, fr)).1) f 4 4 (nI z)) g ((gbS f (15 - (rs_q z)) (rs_q z) (B, tk, fr)).2.1) ((gbS f (15 - (rs_q z)) (rs_q z) (B, tk, fr)).2.2) LP pr) H := hP
      have hD : va_D A (wsC ct ad (re_set ((gbS f (15 - (rs_q z)) (rs_q z) (B, tk, fr)).1) f 4 4 (nI z)) g ((gbS f (15 - (rs_q z)) (rs_q z) (B, tk, fr)).2.1) ((gbS f (15 - (rs_q z)) (rs_q z) (B, tk, fr)).2.2) LP pr) := hD
      refine W.eq (g2 := F0 m 69 ls []) rfl ?_
      have hC9 : cX A D ct ad (re_set ((gbS f (15 - (rs_q z)) (rs_q z) (B, tk, fr)).1) f 4 4 (nI z)) ((gbS f (15 - (rs_q z)) (rs_q z) (B, tk, fr)).2.1) ((gbS f (15 - (rs_q z)) (rs_q z) (B, tk, fr)).2.2) X H := ⟨g, LP, pr, hrx, hP, hD⟩
      have e9 : cX A D ct ad (re_set ((gbS f (15 - (rs_q z)) (rs_q z) (B, tk, fr)).1) f 4 4 (nI z)) ((gbS f (15 - (rs_q z)) (rs_q z) (B, tk, fr)).2.1) ((gbS f (15 - (rs_q z)) (rs_q z) (B, tk, fr)).2.2) X = cX A D ct ad (re_set (rs_S (B, tk, fr, X) f z).1 f 4 4 (nI z)) ((rs_S (B, tk, fr, X) f z).2.1) ((rs_S (B, tk, fr, X) f z).2.2) (rs_X (B, tk, fr, X) f z) := (by unfold rs_X; first | (rw [if_pos (by assumption)]; rfl) | (rw [if_neg (by assumption)]; rfl))
      rw [e9] at hC9
      exact W.vret hx hb hr (fun t9 ht hW => ⟨rfl, by rw [ht]; exact hC9, hS.F ht⟩) hS.2.2 d_Bo_resize_69
    · skip
      refine lv_aload_n hx hb d_Bo_resize_46 rfl (lv_at hl 3 rfl) ?_
      refine va_get (D := D) (ci := 0) (v := .ref (ad 1)) (C := R_Bo) (T := T_Bo) (N := 2) hx hb hts u_Bo hown hK hP 5 rfl rfl 0 (by decide) (hts _ w_93) (fun _ h9 => h9) rfl d_Bo_resize_47 ?_
      refine lv_iload hx hb d_Bo_resize_50 (lv_at hl 0 rfl) ?_
      refine lv_iload hx hb d_Bo_resize_52 (lv_at hl 1 rfl) ?_
      refine lv_sipush (v := nI 1024) hx hb d_Bo_resize_54 (by decide) ?_
      refine wrX ⟨hx, hb, hml, hown, hts⟩ hE hK hrx hP hD hS hA (k_Db_clear l (b := ((re_blk ((gbS f (15 - (rs_q z)) (rs_q z) (B, tk, fr)).1) f ((z / 1024 : Nat) : Int)).toInt)) (x_b := (re_blk ((gbS f (15 - (rs_q z)) (rs_q z) (B, tk, fr)).1) f ((z / 1024 : Nat) : Int))) (u := (z % 1024)) (v := 1024) rfl (by omega) (by omega)) w_498 m_Db_clear ⟨by decide, by decide⟩ 1 rfl rfl rfl hl.1 rfl (Nat.le_of_ble_eq_true rfl) d_Bo_resize_57 ⟨Nat.zero_le _, Nat.zero_le _⟩ (fun H locs g LP pr hrx hP hD hS => ?_)
      refine W.eq (g2 := F0 m 60 ls []) rfl ?_
      refine lv_aload_n hx hb d_Bo_resize_60 rfl (lv_at hl 3 rfl) ?_
      refine va_get (D := D) (ci := 0) (v := .ref (ad 2)) (C := R_Bo) (T := T_Bo) (N := 2) hx hb hts u_Bo hown hK hP 5 rfl rfl 1 (by decide) (hts _ w_94) (fun _ h9 => h9) rfl d_Bo_resize_61 ?_
      refine lv_iload_n hx hb d_Bo_resize_64 rfl (lv_at hl 4 rfl) ?_
      refine lv_iload_n hx hb d_Bo_resize_65 rfl (lv_at hl 5 rfl) ?_
      refine wrV ⟨hx, hb, hml, hown, hts⟩ hK hP hD hS hA (k_Re_setSize l (f := f) (x_f := x_f) (v := (nI z)) hx_f ) w_420 m_Re_setSize ⟨by decide, by decide⟩ 2 rfl rfl rfl hl.1 rfl (Nat.le_of_ble_eq_true rfl) d_Bo_resize_66 ⟨Nat.zero_le _, Nat.zero_le _⟩ (fun H locs hP hD hS => ?_)
      have hP : va_P D vwC (wsC ct ad (re_set ((gbS f (15 - (rs_q z)) (rs_q z) (B, tk, fr)).1) f 4 4 (nI z)) g ((gbS f (15 - (rs_q z)) (rs_q z) (B, tk, fr)).2.1) ((gbS f (15 - (rs_q z)) (rs_q z) (B, tk, fr)).2.2) LP pr) H := hP
      have hD : va_D A (wsC ct ad (re_set ((gbS f (15 - (rs_q z)) (rs_q z) (B, tk, fr)).1) f 4 4 (nI z)) g ((gbS f (15 - (rs_q z)) (rs_q z) (B, tk, fr)).2.1) ((gbS f (15 - (rs_q z)) (rs_q z) (B, tk, fr)).2.2) LP pr) := hD
      refine W.eq (g2 := F0 m 69 ls []) rfl ?_
      have hC9 : cX A D ct ad (re_set ((gbS f (15 - (rs_q z)) (rs_q z) (B, tk, fr)).1) f 4 4 (nI z)) ((gbS f (15 - (rs_q z)) (rs_q z) (B, tk, fr)).2.1) ((gbS f (15 - (rs_q z)) (rs_q z) (B, tk, fr)).2.2) (dx_clr X ((re_blk ((gbS f (15 - (rs_q z)) (rs_q z) (B, tk, fr)).1) f ((z / 1024 : Nat) : Int)).toInt) (z % 1024) 1024) H := ⟨g, LP, pr, hrx, hP, hD⟩
      have e9 : cX A D ct ad (re_set ((gbS f (15 - (rs_q z)) (rs_q z) (B, tk, fr)).1) f 4 4 (nI z)) ((gbS f (15 - (rs_q z)) (rs_q z) (B, tk, fr)).2.1) ((gbS f (15 - (rs_q z)) (rs_q z) (B, tk, fr)).2.2) (dx_clr X ((re_blk ((gbS f (15 - (rs_q z)) (rs_q z) (B, tk, fr)).1) f ((z / 1024 : Nat) : Int)).toInt) (z % 1024) 1024) = cX A D ct ad (re_set (rs_S (B, tk, fr, X) f z).1 f 4 4 (nI z)) ((rs_S (B, tk, fr, X) f z).2.1) ((rs_S (B, tk, fr, X) f z).2.2) (rs_X (B, tk, fr, X) f z) := (by unfold rs_X; first | (rw [if_pos (by assumption)]; rfl) | (rw [if_neg (by assumption)]; rfl))
      rw [e9] at hC9
      exact W.vret hx hb hr (fun t9 ht hW => ⟨rfl, by rw [ht]; exact hC9, hS.F ht⟩) hS.2.2 d_Bo_resize_69
  · skip
    refine lv_iload_n hx hb d_Bo_resize_20 rfl (lv_at hl 1 rfl) ?_
    refine lv_goto (tgt := 27) hx hb d_Bo_resize_21 (by decide) ?_
    have hq9 : rs_q z ≤ 15 := by unfold rs_q; by_cases w : z % 1024 = 0; rw [if_pos w]; omega; rw [if_neg w]; omega
    refine W.eq (g2 := F0 m 27 ls [.int (nI (rs_q z)), .int x_f, .ref (ad 5)]) (by unfold rs_q; first | rw [if_pos (by omega)] | rw [if_neg (by omega)]) ?_
    refine wrV ⟨hx, hb, hml, hown, hts⟩ hK hP hD hS hA (k_Bo_giveBack l (f := f) (x_f := x_f) (k := (rs_q z)) hx_f (by omega)) w_497 m_Bo_giveBack ⟨by decide, by decide⟩ 5 rfl rfl rfl hl.1 rfl (Nat.le_of_ble_eq_true rfl) d_Bo_resize_27 ⟨Nat.zero_le _, Nat.zero_le _⟩ (fun H locs hP hD hS => ?_)
    have hP : va_P D vwC (wsC ct ad ((gbS f (15 - (rs_q z)) (rs_q z) (B, tk, fr)).1) g ((gbS f (15 - (rs_q z)) (rs_q z) (B, tk, fr)).2.1) ((gbS f (15 - (rs_q z)) (rs_q z) (B, tk, fr)).2.2) LP pr) H := hP
    have hD : va_D A (wsC ct ad ((gbS f (15 - (rs_q z)) (rs_q z) (B, tk, fr)).1) g ((gbS f (15 - (rs_q z)) (rs_q z) (B, tk, fr)).2.1) ((gbS f (15 - (rs_q z)) (rs_q z) (B, tk, fr)).2.2) LP pr) := hD
    refine W.eq (g2 := F0 m 30 ls []) rfl ?_
    refine lv_aload_n hx hb d_Bo_resize_30 rfl (lv_at hl 2 rfl) ?_
    refine va_get (D := D) (ci := 0) (v := .ref (ad 2)) (C := R_Bo) (T := T_Bo) (N := 2) hx hb hts u_Bo hown hK hP 5 rfl rfl 1 (by decide) (hts _ w_94) (fun _ h9 => h9) rfl d_Bo_resize_31 ?_
    refine lv_iload_n hx hb d_Bo_resize_34 rfl (lv_at hl 3 rfl) ?_
    refine lv_iload_n hx hb d_Bo_resize_35 rfl (lv_at hl 1 rfl) ?_
    refine rdV ⟨hx, hb, hml, hown, hts⟩ hK hP (k_Re_blockOf l (f := f) (x_f := x_f) (z := ((z / 1024 : Nat) : Int)) (x_z := (nI (z / 1024))) hx_f (nI_toInt (by omega)) ) w_182 m_Re_blockOf ⟨by decide, by decide⟩ 2 rfl rfl rfl hl.1 rfl (Nat.le_of_ble_eq_true rfl) d_Bo_resize_36 ⟨Nat.zero_le _, Nat.zero_le _⟩ ?_
    refine lv_istore (lv' := [(5, .int (re_blk ((gbS f (15 - (rs_q z)) (rs_q z) (B, tk, fr)).1) f ((z / 1024 : Nat) : Int))), (4, .int (nI (z % 1024))), (3, .int (nI (z / 1024))), (0, .ref (ad 5)), (1, .int x_f), (2, .int (nI z))]) hx hb d_Bo_resize_39 hl (by decide) rfl (fun ls hl => ?_)
    refine lv_iload hx hb d_Bo_resize_41 (lv_at hl 0 rfl) ?_
    refine lv_if_eq (tgt := 60) hx hb d_Bo_resize_43 (by decide) (fun c_3 => ?_) (fun c_3 => ?_)
    · skip
      refine lv_aload_n hx hb d_Bo_resize_60 rfl (lv_at hl 3 rfl) ?_
      refine va_get (D := D) (ci := 0) (v := .ref (ad 2)) (C := R_Bo) (T := T_Bo) (N := 2) hx hb hts u_Bo hown hK hP 5 rfl rfl 1 (by decide) (hts _ w_94) (fun _ h9 => h9) rfl d_Bo_resize_61 ?_
      refine lv_iload_n hx hb d_Bo_resize_64 rfl (lv_at hl 4 rfl) ?_
      refine lv_iload_n hx hb d_Bo_resize_65 rfl (lv_at hl 5 rfl) ?_
      refine wrV ⟨hx, hb, hml, hown, hts⟩ hK hP hD hS hA (k_Re_setSize l (f := f) (x_f := x_f) (v := (nI z)) hx_f ) w_420 m_Re_setSize ⟨by decide, by decide⟩ 2 rfl rfl rfl hl.1 rfl (Nat.le_of_ble_eq_true rfl) d_Bo_resize_66 ⟨Nat.zero_le _, Nat.zero_le _⟩ (fun H locs hP hD hS => ?_)
      have hP : va_P D vwC (wsC ct ad (re_set ((gbS f (15 - (rs_q z)) (rs_q z) (B, tk, fr)).1) f 4 4 (nI z)) g ((gbS f (15 - (rs_q z)) (rs_q z) (B, tk, fr)).2.1) ((gbS f (15 - (rs_q z)) (rs_q z) (B, tk, fr)).2.2) LP pr) H := hP
      have hD : va_D A (wsC ct ad (re_set ((gbS f (15 - (rs_q z)) (rs_q z) (B, tk, fr)).1) f 4 4 (nI z)) g ((gbS f (15 - (rs_q z)) (rs_q z) (B, tk, fr)).2.1) ((gbS f (15 - (rs_q z)) (rs_q z) (B, tk, fr)).2.2) LP pr) := hD
      refine W.eq (g2 := F0 m 69 ls []) rfl ?_
      have hC9 : cX A D ct ad (re_set ((gbS f (15 - (rs_q z)) (rs_q z) (B, tk, fr)).1) f 4 4 (nI z)) ((gbS f (15 - (rs_q z)) (rs_q z) (B, tk, fr)).2.1) ((gbS f (15 - (rs_q z)) (rs_q z) (B, tk, fr)).2.2) X H := ⟨g, LP, pr, hrx, hP, hD⟩
      have e9 : cX A D ct ad (re_set ((gbS f (15 - (rs_q z)) (rs_q z) (B, tk, fr)).1) f 4 4 (nI z)) ((gbS f (15 - (rs_q z)) (rs_q z) (B, tk, fr)).2.1) ((gbS f (15 - (rs_q z)) (rs_q z) (B, tk, fr)).2.2) X = cX A D ct ad (re_set (rs_S (B, tk, fr, X) f z).1 f 4 4 (nI z)) ((rs_S (B, tk, fr, X) f z).2.1) ((rs_S (B, tk, fr, X) f z).2.2) (rs_X (B, tk, fr, X) f z) := (by unfold rs_X; first | (rw [if_pos (by assumption)]; rfl) | (rw [if_neg (by assumption)]; rfl))
      rw [e9] at hC9
      exact W.vret hx hb hr (fun t9 ht hW => ⟨rfl, by rw [ht]; exact hC9, hS.F ht⟩) hS.2.2 d_Bo_resize_69
    · skip
      refine lv_aload_n hx hb d_Bo_resize_46 rfl (lv_at hl 3 rfl) ?_
      refine va_get (D := D) (ci := 0) (v := .ref (ad 1)) (C := R_Bo) (T := T_Bo) (N := 2) hx hb hts u_Bo hown hK hP 5 rfl rfl 0 (by decide) (hts _ w_93) (fun _ h9 => h9) rfl d_Bo_resize_47 ?_
      refine lv_iload hx hb d_Bo_resize_50 (lv_at hl 0 rfl) ?_
      refine lv_iload hx hb d_Bo_resize_52 (lv_at hl 1 rfl) ?_
      refine lv_sipush (v := nI 1024) hx hb d_Bo_resize_54 (by decide) ?_
      refine wrX ⟨hx, hb, hml, hown, hts⟩ hE hK hrx hP hD hS hA (k_Db_clear l (b := ((re_blk ((gbS f (15 - (rs_q z)) (rs_q z) (B, tk, fr)).1) f ((z / 1024 : Nat) : Int)).toInt)) (x_b := (re_blk ((gbS f (15 - (rs_q z)) (rs_q z) (B, tk, fr)).1) f ((z / 1024 : Nat) : Int))) (u := (z % 1024)) (v := 1024) rfl (by omega) (by omega)) w_498 m_Db_clear ⟨by decide, by decide⟩ 1 rfl rfl rfl hl.1 rfl (Nat.le_of_ble_eq_true rfl) d_Bo_resize_57 ⟨Nat.zero_le _, Nat.zero_le _⟩ (fun H locs g LP pr hrx hP hD hS => ?_)
      refine W.eq (g2 := F0 m 60 ls []) rfl ?_
      refine lv_aload_n hx hb d_Bo_resize_60 rfl (lv_at hl 3 rfl) ?_
      refine va_get (D := D) (ci := 0) (v := .ref (ad 2)) (C := R_Bo) (T := T_Bo) (N := 2) hx hb hts u_Bo hown hK hP 5 rfl rfl 1 (by decide) (hts _ w_94) (fun _ h9 => h9) rfl d_Bo_resize_61 ?_
      refine lv_iload_n hx hb d_Bo_resize_64 rfl (lv_at hl 4 rfl) ?_
      refine lv_iload_n hx hb d_Bo_resize_65 rfl (lv_at hl 5 rfl) ?_
      refine wrV ⟨hx, hb, hml, hown, hts⟩ hK hP hD hS hA (k_Re_setSize l (f := f) (x_f := x_f) (v := (nI z)) hx_f ) w_420 m_Re_setSize ⟨by decide, by decide⟩ 2 rfl rfl rfl hl.1 rfl (Nat.le_of_ble_eq_true rfl) d_Bo_resize_66 ⟨Nat.zero_le _, Nat.zero_le _⟩ (fun H locs hP hD hS => ?_)
      have hP : va_P D vwC (wsC ct ad (re_set ((gbS f (15 - (rs_q z)) (rs_q z) (B, tk, fr)).1) f 4 4 (nI z)) g ((gbS f (15 - (rs_q z)) (rs_q z) (B, tk, fr)).2.1) ((gbS f (15 - (rs_q z)) (rs_q z) (B, tk, fr)).2.2) LP pr) H := hP
      have hD : va_D A (wsC ct ad (re_set ((gbS f (15 - (rs_q z)) (rs_q z) (B, tk, fr)).1) f 4 4 (nI z)) g ((gbS f (15 - (rs_q z)) (rs_q z) (B, tk, fr)).2.1) ((gbS f (15 - (rs_q z)) (rs_q z) (B, tk, fr)).2.2) LP pr) := hD
      refine W.eq (g2 := F0 m 69 ls []) rfl ?_
      have hC9 : cX A D ct ad (re_set ((gbS f (15 - (rs_q z)) (rs_q z) (B, tk, fr)).1) f 4 4 (nI z)) ((gbS f (15 - (rs_q z)) (rs_q z) (B, tk, fr)).2.1) ((gbS f (15 - (rs_q z)) (rs_q z) (B, tk, fr)).2.2) (dx_clr X ((re_blk ((gbS f (15 - (rs_q z)) (rs_q z) (B, tk, fr)).1) f ((z / 1024 : Nat) : Int)).toInt) (z % 1024) 1024) H := ⟨g, LP, pr, hrx, hP, hD⟩
      have e9 : cX A D ct ad (re_set ((gbS f (15 - (rs_q z)) (rs_q z) (B, tk, fr)).1) f 4 4 (nI z)) ((gbS f (15 - (rs_q z)) (rs_q z) (B, tk, fr)).2.1) ((gbS f (15 - (rs_q z)) (rs_q z) (B, tk, fr)).2.2) (dx_clr X ((re_blk ((gbS f (15 - (rs_q z)) (rs_q z) (B, tk, fr)).1) f ((z / 1024 : Nat) : Int)).toInt) (z % 1024) 1024) = cX A D ct ad (re_set (rs_S (B, tk, fr, X) f z).1 f 4 4 (nI z)) ((rs_S (B, tk, fr, X) f z).2.1) ((rs_S (B, tk, fr, X) f z).2.2) (rs_X (B, tk, fr, X) f z) := (by unfold rs_X; first | (rw [if_pos (by assumption)]; rfl) | (rw [if_neg (by assumption)]; rfl))
      rw [e9] at hC9
      exact W.vret hx hb hr (fun t9 ht hW => ⟨rfl, by rw [ht]; exact hC9, hS.F ht⟩) hS.2.2 d_Bo_resize_69
theorem m_Bo_setTarget : mV R_Bo y_Bo_setTarget (Cond.code y_Bo_setTarget c_Bo_setTarget 6 none) 3 := ⟨⟨w_332, w_333, w_6, w_334⟩, by decide +kernel⟩
set_option maxHeartbeats 4000000 in
set_option maxRecDepth 100000 in
theorem k_Bo_setTarget (l : Launch) {D : va_G} {ct : Nat → ClassId} {ad : Nat → Nat} {B : Nat → Int32} {tk : Nat → Int32} {fr : Int32} {X : Nat → Option (Nat → Int32)} {A : Nat → Prop} {f : Nat} {x_f : Int32} (hx_f : x_f.toNatClampNeg = f) {n : Nat} {x : Int32} (h0 : n ≤ 1000) (h1 : (re_kind B f = nI 3 ∧ ¬ nI 59 < re_f B f 4 4) → n < 60) : Met l y_Bo_setTarget (Cond.code y_Bo_setTarget c_Bo_setTarget 6 none :: wA) (rmk 6 1 1024) (va_Pc [.ref (ad 5), .int x_f, .int (nI n), .int x] (cS A D ct ad B tk fr X)) (xQ none A D ct ad ((tg_S (B, tk, fr, X) f n x).1) ((tg_S (B, tk, fr, X) f n x).2.1) ((tg_S (B, tk, fr, X) f n x).2.2.1) ((tg_S (B, tk, fr, X) f n x).2.2.2)) 1 1024 A := by
  refine Met.ofW (cc := c_Bo_setTarget) (maxL := 6) (ret := none) (by decide +kernel) rfl ?_
  intro p e s m args below meth c s₁ B0 hml hv
  obtain ⟨rfl, hA, hE, hK, g, LP, pr, hrx, hP, hD⟩ := hv
  have hS : va_S A s.heap s.heap [] := va_S.rf
  have hx := B0.exec
  have hb := B0.bytes
  have hr := B0.returns
  have hts := fun w (h : w ∈ wA) => atoms_spec (ws := Cond.code y_Bo_setTarget c_Bo_setTarget 6 none :: wA) B0.pre w (List.mem_cons_of_mem _ h)
  have hown : s.vm.findClass R_Bo = some m.cls := findClass_of_methodNamed B0.named
  have hlocks := B0.notSynchronized
  have hl := lv_entry ([.ref (ad 5), .int x_f, .int (nI n), .int x]) (n := 6) (Nat.le_of_ble_eq_true rfl)
  rw [lg_entry_eq]
  generalize (lg_sl ([.ref (ad 5), .int x_f, .int (nI n), .int x]) ++ List.replicate (6 - (lg_sl ([.ref (ad 5), .int x_f, .int (nI n), .int x])).length) Slot.unset).toArray = ls at hl ⊢
  have hl : lv_has ls 6 [(0, .ref (ad 5)), (1, .int x_f), (2, .int (nI n)), (3, .int x)] := hl
  have hf_f : x_f.toInt.toNat = f := hx_f
  have hg_f := z_lt x_f
  refine lv_aload_n hx hb d_Bo_setTarget_0 rfl (lv_at hl 0 rfl) ?_
  refine va_get (D := D) (ci := 0) (v := .ref (ad 2)) (C := R_Bo) (T := T_Bo) (N := 2) hx hb hts u_Bo hown hK hP 5 rfl rfl 1 (by decide) (hts _ w_94) (fun _ h9 => h9) rfl d_Bo_setTarget_1 ?_
  refine lv_iload_n hx hb d_Bo_setTarget_4 rfl (lv_at hl 1 rfl) ?_
  refine rdV ⟨hx, hb, hml, hown, hts⟩ hK hP (k_Re_hasTarget l (f := f) (x_f := x_f) hx_f ) w_335 m_Re_hasTarget ⟨by decide, by decide⟩ 2 rfl rfl rfl hl.1 rfl (Nat.le_of_ble_eq_true rfl) d_Bo_setTarget_5 ⟨show 0 ≤ 1 by omega, show 0 ≤ 1024 by omega⟩ ?_
  refine lb_if_eq (tgt := 43) hx hb d_Bo_setTarget_8 (by decide) (fun c_1 => ?_) (fun c_1 => ?_)
  · skip
    refine lv_aload_n hx hb d_Bo_setTarget_43 rfl (lv_at hl 0 rfl) ?_
    refine lv_iload_n hx hb d_Bo_setTarget_44 rfl (lv_at hl 1 rfl) ?_
    refine lv_iconst (v := nI 0) hx hb d_Bo_setTarget_45 (by decide) ?_
    refine wrX ⟨hx, hb, hml, hown, hts⟩ hE hK hrx hP hD hS hA (k_Bo_takeBlock l (f := f) (x_f := x_f) (k := 0) hx_f (by omega)) w_353 m_Bo_takeBlock ⟨by decide, by decide⟩ 5 rfl rfl rfl hl.1 rfl (Nat.le_of_ble_eq_true rfl) d_Bo_setTarget_46 ⟨show 0 + 1 ≤ 1 by omega, show 0 + 1024 ≤ 1024 by omega⟩ (fun H locs g LP pr hrx hP hD hS => ?_)
    refine W.eq (g2 := F0 m 49 ls []) rfl ?_
    refine lv_aload_n hx hb d_Bo_setTarget_49 rfl (lv_at hl 0 rfl) ?_
    refine va_get (D := D) (ci := 0) (v := .ref (ad 2)) (C := R_Bo) (T := T_Bo) (N := 2) hx hb hts u_Bo hown hK hP 5 rfl rfl 1 (by decide) (hts _ w_94) (fun _ h9 => h9) rfl d_Bo_setTarget_50 ?_
    refine lv_iload_n hx hb d_Bo_setTarget_53 rfl (lv_at hl 1 rfl) ?_
    refine lv_iconst (v := nI 0) hx hb d_Bo_setTarget_54 (by decide) ?_
    refine rdV ⟨hx, hb, hml, hown, hts⟩ hK hP (k_Re_blockOf l (f := f) (x_f := x_f) (z := ((0 : Nat) : Int)) (x_z := (nI 0)) hx_f (nI_toInt (by omega)) ) w_182 m_Re_blockOf ⟨by decide, by decide⟩ 2 rfl rfl rfl hl.1 rfl (Nat.le_of_ble_eq_true rfl) d_Bo_setTarget_55 ⟨show (0 + 1) ≤ 1 by omega, show (0 + 1024) ≤ 1024 by omega⟩ ?_
    refine lv_istore (lv' := [(4, .int (re_blk ((tbS (B, tk, fr, X) f 0).1) f ((0 : Nat) : Int))), (0, .ref (ad 5)), (1, .int x_f), (2, .int (nI n)), (3, .int x)]) hx hb d_Bo_setTarget_58 hl (by decide) rfl (fun ls hl => ?_)
    refine lv_iconst (v := nI 0) hx hb d_Bo_setTarget_60 (by decide) ?_
    refine lv_istore (lv' := [(5, .int (nI 0)), (4, .int (re_blk ((tbS (B, tk, fr, X) f 0).1) f ((0 : Nat) : Int))), (0, .ref (ad 5)), (1, .int x_f), (2, .int (nI n)), (3, .int x)]) hx hb d_Bo_setTarget_61 hl (by decide) rfl (fun ls hl => ?_)
    have loop63 : ∀ (n9 : Nat) (i : Nat) (X1 : Nat → Option (Nat → Int32)), n - i < n9 → i ≤ n → tgX (re_blk (tbS (B, tk, fr, X) f 0).1 f ((0 : Nat) : Int)).toInt x n 0 (tbS (B, tk, fr, X) f 0).2.2.2 = tgX (re_blk (tbS (B, tk, fr, X) f 0).1 f ((0 : Nat) : Int)).toInt x (n - i) i X1 → ∀ (g : Nat → Option Nat) (LP : List Nat) (pr : Nat → Nat → Int32), rX g LP pr X1 → ∀ (H : Heap) (locs : List Loc), va_P D vwC (wsC ct ad ((tbS (B, tk, fr, X) f 0).1) g ((tbS (B, tk, fr, X) f 0).2.1) ((tbS (B, tk, fr, X) f 0).2.2.1) LP pr) H → va_D A (wsC ct ad ((tbS (B, tk, fr, X) f 0).1) g ((tbS (B, tk, fr, X) f 0).2.1) ((tbS (B, tk, fr, X) f 0).2.2.1) LP pr) → va_S A s.heap H locs → ∀ ls : Array Slot, lv_has ls 6 [(0, .ref (ad 5)), (1, .int x_f), (2, .int (nI n)), (3, .int x), (4, .int (re_blk ((tbS (B, tk, fr, X) f 0).1) f ((0 : Nat) : Int))), (5, .int (nI i))] → W p l e (headSpec (Cond.code y_Bo_setTarget c_Bo_setTarget 6 none :: wA) (rmk 6 1 1024)).room s m ([.ref (ad 5), .int x_f, .int (nI n), .int x] : List Value).toArray below meth c H locs 1 1024 (MQ below (xQ none A D ct ad ((tg_S (B, tk, fr, X) f n x).1) ((tg_S (B, tk, fr, X) f n x).2.1) ((tg_S (B, tk, fr, X) f n x).2.2.1) ((tg_S (B, tk, fr, X) f n x).2.2.2)) ([.ref (ad 5), .int x_f, .int (nI n), .int x] : List Value).toArray s 1 1024 A) (F0 m 63 ls []) := by
      intro n9
      induction n9 with
      | zero => intro i X1 h8 h9 h10 g LP pr hrx H locs hP hD hS ls hl; exact absurd h8 (by omega)
      | succ n9 ih =>
        intro i X1 h8 h9 h10 g LP pr hrx H locs hP hD hS ls hl
        refine lv_iload hx hb d_Bo_setTarget_63 (lv_at hl 5 rfl) ?_
        refine lv_iload_n hx hb d_Bo_setTarget_65 rfl (lv_at hl 2 rfl) ?_
        refine ln_icmp_ge (tgt := 92) hx hb (by omega) (by omega) d_Bo_setTarget_66 (by decide) (fun c_2 => ?_) (fun c_2 => ?_)
        · skip
          have hC9 : cX A D ct ad ((tbS (B, tk, fr, X) f 0).1) ((tbS (B, tk, fr, X) f 0).2.1) ((tbS (B, tk, fr, X) f 0).2.2.1) X1 H := ⟨g, LP, pr, hrx, hP, hD⟩
          have e9 : cX A D ct ad ((tbS (B, tk, fr, X) f 0).1) ((tbS (B, tk, fr, X) f 0).2.1) ((tbS (B, tk, fr, X) f 0).2.2.1) X1 = cX A D ct ad ((tg_S (B, tk, fr, X) f n x).1) ((tg_S (B, tk, fr, X) f n x).2.1) ((tg_S (B, tk, fr, X) f n x).2.2.1) ((tg_S (B, tk, fr, X) f n x).2.2.2) := (by unfold tg_S; first | (rw [if_pos (by assumption), h10, show n - i = 0 by omega]; rfl) | (rw [if_neg (by assumption), h10, show n - i = 0 by omega]; rfl))
          rw [e9] at hC9
          refine W.widen (k := 1) (n := 1024) (by omega) (by omega) ?_
          exact W.vret hx hb hr (fun t9 ht hW => ⟨rfl, by rw [ht]; exact hC9, hS.F ht⟩) hS.2.2 d_Bo_setTarget_92
        · skip
          refine lv_aload_n hx hb d_Bo_setTarget_69 rfl (lv_at hl 0 rfl) ?_
          refine va_get (D := D) (ci := 0) (v := .ref (ad 1)) (C := R_Bo) (T := T_Bo) (N := 2) hx hb hts u_Bo hown hK hP 5 rfl rfl 0 (by decide) (hts _ w_93) (fun _ h9 => h9) rfl d_Bo_setTarget_70 ?_
          refine lv_iload hx hb d_Bo_setTarget_73 (lv_at hl 4 rfl) ?_
          refine lv_iload hx hb d_Bo_setTarget_75 (lv_at hl 5 rfl) ?_
          refine lv_iload_n hx hb d_Bo_setTarget_77 rfl (lv_at hl 3 rfl) ?_
          refine lv_iload hx hb d_Bo_setTarget_78 (lv_at hl 5 rfl) ?_
          refine rdS ⟨hx, hb, hml, hown, hts⟩ hK hP (k_Bo_targetByte l (x := x) (i := i) ) w_343 m_Bo_targetByte ⟨by decide, by decide⟩ rfl hl.1 rfl (Nat.le_of_ble_eq_true rfl) d_Bo_setTarget_80 ⟨show 1 ≤ 1 by omega, show 1024 ≤ 1024 by omega⟩ ?_
          refine wrX ⟨hx, hb, hml, hown, hts⟩ hE hK hrx hP hD hS hA (k_Db_setByte l (b := ((re_blk ((tbS (B, tk, fr, X) f 0).1) f ((0 : Nat) : Int)).toInt)) (x_b := (re_blk ((tbS (B, tk, fr, X) f 0).1) f ((0 : Nat) : Int))) (i := i) (v := (bo_tb x i)) rfl (by omega)) w_375 m_Db_setByte ⟨by decide, by decide⟩ 1 rfl rfl rfl hl.1 rfl (Nat.le_of_ble_eq_true rfl) d_Bo_setTarget_83 ⟨show 1 + 0 ≤ 1 by omega, show 1024 + 0 ≤ 1024 by omega⟩ (fun H locs g LP pr hrx hP hD hS => ?_)
          refine W.eq (g2 := F0 m 86 ls []) rfl ?_
          refine lv_iinc (v := nI (i + 1)) (lv' := [(5, .int (nI (i + 1))), (0, .ref (ad 5)), (1, .int x_f), (2, .int (nI n)), (3, .int x), (4, .int (re_blk ((tbS (B, tk, fr, X) f 0).1) f ((0 : Nat) : Int)))]) hx hb d_Bo_setTarget_86 hl (k := 5) rfl (ln_inc (by decide)) (by decide) rfl (fun ls hl => ?_)
          refine lv_goto (tgt := 63) hx hb d_Bo_setTarget_89 (by decide) ?_
          exact ih (i + 1) (dx_put X1 ((re_blk ((tbS (B, tk, fr, X) f 0).1) f ((0 : Nat) : Int)).toInt) i (bo_tb x i)) (by omega) (by omega) (by rw [h10, show n - i = n - (i + 1) + 1 by omega, tgX]) _ _ _ hrx _ _ hP hD hS ls (lv_sub hl [1, 2, 3, 4, 5, 0] rfl)
    exact loop63 (n + 1) 0 ((tbS (B, tk, fr, X) f 0).2.2.2) (by omega) (by omega) rfl _ _ _ hrx _ _ hP hD hS ls (lv_sub hl [2, 3, 4, 5, 1, 0] rfl)
  · skip
    have hn9 := h1 c_1
    refine lv_iconst (v := nI 0) hx hb d_Bo_setTarget_11 (by decide) ?_
    refine lv_istore (lv' := [(4, .int (nI 0)), (0, .ref (ad 5)), (1, .int x_f), (2, .int (nI n)), (3, .int x)]) hx hb d_Bo_setTarget_12 hl (by decide) rfl (fun ls hl => ?_)
    have loop14 : ∀ (n9 : Nat) (i : Nat) (b : Nat → Int32), n - i < n9 → i ≤ n → tgB f x n 0 B = tgB f x (n - i) i b → ∀ (H : Heap) (locs : List Loc), va_P D vwC (wsC ct ad b g tk fr LP pr) H → va_D A (wsC ct ad b g tk fr LP pr) → va_S A s.heap H locs → ∀ ls : Array Slot, lv_has ls 6 [(0, .ref (ad 5)), (1, .int x_f), (2, .int (nI n)), (3, .int x), (4, .int (nI i))] → W p l e (headSpec (Cond.code y_Bo_setTarget c_Bo_setTarget 6 none :: wA) (rmk 6 1 1024)).room s m ([.ref (ad 5), .int x_f, .int (nI n), .int x] : List Value).toArray below meth c H locs 0 0 (MQ below (xQ none A D ct ad ((tg_S (B, tk, fr, X) f n x).1) ((tg_S (B, tk, fr, X) f n x).2.1) ((tg_S (B, tk, fr, X) f n x).2.2.1) ((tg_S (B, tk, fr, X) f n x).2.2.2)) ([.ref (ad 5), .int x_f, .int (nI n), .int x] : List Value).toArray s 1 1024 A) (F0 m 14 ls []) := by
      intro n9
      induction n9 with
      | zero => intro i b h8 h9 h10 H locs hP hD hS ls hl; exact absurd h8 (by omega)
      | succ n9 ih =>
        intro i b h8 h9 h10 H locs hP hD hS ls hl
        refine lv_iload hx hb d_Bo_setTarget_14 (lv_at hl 4 rfl) ?_
        refine lv_iload_n hx hb d_Bo_setTarget_16 rfl (lv_at hl 2 rfl) ?_
        refine ln_icmp_ge (tgt := 42) hx hb (by omega) (by omega) d_Bo_setTarget_17 (by decide) (fun c_3 => ?_) (fun c_3 => ?_)
        · skip
          have hC9 : cX A D ct ad b tk fr X H := ⟨g, LP, pr, hrx, hP, hD⟩
          have e9 : cX A D ct ad b tk fr X = cX A D ct ad ((tg_S (B, tk, fr, X) f n x).1) ((tg_S (B, tk, fr, X) f n x).2.1) ((tg_S (B, tk, fr, X) f n x).2.2.1) ((tg_S (B, tk, fr, X) f n x).2.2.2) := (by unfold tg_S; first | (rw [if_pos (by assumption), h10, show n - i = 0 by omega]; rfl) | (rw [if_neg (by assumption), h10, show n - i = 0 by omega]; rfl))
          rw [e9] at hC9
          refine W.widen (k := 1) (n := 1024) (by omega) (by omega) ?_
          exact W.vret hx hb hr (fun t9 ht hW => ⟨rfl, by rw [ht]; exact hC9, hS.F ht⟩) hS.2.2 d_Bo_setTarget_42
        · skip
          refine lv_aload_n hx hb d_Bo_setTarget_20 rfl (lv_at hl 0 rfl) ?_
          refine va_get (D := D) (ci := 0) (v := .ref (ad 2)) (C := R_Bo) (T := T_Bo) (N := 2) hx hb hts u_Bo hown hK hP 5 rfl rfl 1 (by decide) (hts _ w_94) (fun _ h9 => h9) rfl d_Bo_setTarget_21 ?_
          refine lv_iload_n hx hb d_Bo_setTarget_24 rfl (lv_at hl 1 rfl) ?_
          refine lv_iload hx hb d_Bo_setTarget_25 (lv_at hl 4 rfl) ?_
          refine lv_iload_n hx hb d_Bo_setTarget_27 rfl (lv_at hl 3 rfl) ?_
          refine lv_iload hx hb d_Bo_setTarget_28 (lv_at hl 4 rfl) ?_
          refine rdS ⟨hx, hb, hml, hown, hts⟩ hK hP (k_Bo_targetByte l (x := x) (i := i) ) w_343 m_Bo_targetByte ⟨by decide, by decide⟩ rfl hl.1 rfl (Nat.le_of_ble_eq_true rfl) d_Bo_setTarget_30 ⟨show 0 ≤ 1 by omega, show 0 ≤ 1024 by omega⟩ ?_
          refine wrV ⟨hx, hb, hml, hown, hts⟩ hK hP hD hS hA (k_Re_setTargetByte l (f := f) (x_f := x_f) (i := i) (v := (bo_tb x i)) hx_f (by omega)) w_349 m_Re_setTargetByte ⟨by decide, by decide⟩ 2 rfl rfl rfl hl.1 rfl (Nat.le_of_ble_eq_true rfl) d_Bo_setTarget_33 ⟨show 0 + 0 ≤ 1 by omega, show 0 + 0 ≤ 1024 by omega⟩ (fun H locs hP hD hS => ?_)
          have hP : va_P D vwC (wsC ct ad (re_set b f (40 + i) 1 (bo_tb x i)) g tk fr LP pr) H := hP
          have hD : va_D A (wsC ct ad (re_set b f (40 + i) 1 (bo_tb x i)) g tk fr LP pr) := hD
          refine W.eq (g2 := F0 m 36 ls []) rfl ?_
          refine lv_iinc (v := nI (i + 1)) (lv' := [(4, .int (nI (i + 1))), (0, .ref (ad 5)), (1, .int x_f), (2, .int (nI n)), (3, .int x)]) hx hb d_Bo_setTarget_36 hl (k := 4) rfl (ln_inc (by decide)) (by decide) rfl (fun ls hl => ?_)
          refine lv_goto (tgt := 14) hx hb d_Bo_setTarget_39 (by decide) ?_
          exact ih (i + 1) (re_set b f (40 + i) 1 (bo_tb x i)) (by omega) (by omega) (by rw [h10, show n - i = n - (i + 1) + 1 by omega, tgB]) _ _ hP hD hS ls (lv_sub hl [1, 2, 3, 4, 0] rfl)
    exact loop14 (n + 1) 0 B (by omega) (by omega) rfl _ _ hP hD hS ls (lv_sub hl [1, 2, 3, 4, 0] rfl)
end
section
/-! throwing -/
def nIAE : String := "java/lang/IllegalArgumentException"
def nISE : String := "java/lang/IllegalStateException"
def nIOE : String := "java/lang/IndexOutOfBoundsException"
abbrev ups : List String := ["java/lang/RuntimeException", "java/lang/Exception"]
def kF (st t : State) : Prop := st.heap.size ≤ t.heap.size ∧ ∀ q : Nat, q < st.heap.size → t.heap[q]? = st.heap[q]?
/-- what a throw of the class E at the entries ik, ic needs of the words -/
def atOK (ik ic : Nat) (E : String) : Prop := (Cond.classLink R_Fb ik E ∈ wA ∧ Cond.initialized E ∈ wA ∧ Bundle.fit E = true) ∧ (vx_atS R_Fb ic E ups).all (fun w => decide (w ∈ lw_tbl) && (goodWord w || (w.onTables && w.keepsFace))) = true ∧ ∀ w ∈ Cond.classLink R_Fb ik E :: Cond.initialized E :: vx_atS R_Fb ic E ups, vx_ot w = true
theorem at_words {L : List Cond} {args : Array Value} {s : State} (h : L.all (fun w => decide (w ∈ lw_tbl) && (goodWord w || (w.onTables && w.keepsFace))) = true) (h1 : ∀ w ∈ wA, w.before args s = true) (h2 : ∀ w ∈ wF, w.before #[] s = true) : ∀ w ∈ L, w.before args s = true := by
  intro w hw
  have h3 := List.all_eq_true.mp h w hw
  simp only [Bool.and_eq_true, Bool.or_eq_true, decide_eq_true_eq] at h3
  rcases h3.2 with q | q
  · exact h1 w (List.mem_filter.mpr ⟨h3.1, q⟩)
  · exact va_any q.1 (h2 w (List.mem_filter.mpr ⟨h3.1, by simp only [Bool.and_eq_true]; exact q⟩))
def ckQ (P : Prop) : Array Value → State → Outcome → State → Prop := fun _ st o t => P ∧ o = .returned none ∧ t.heap = st.heap
def ckX (P : Prop) (E0 : String) : String → State → State → Prop := fun E st t => ¬ P ∧ E = E0 ∧ kF st t
section RWT
variable {p : Program} {l : Launch} {e : Env} {R : Room} {s : State} {m : MethodId} {args : Array Value} {below : List Frame} {meth : Method} {c : Code} {H : Heap} {locs : List Loc} {cells slots : Nat} {Q : State → Prop}
variable {cc : ByteArray} {pc : Nat} {ls : Array Slot} {rest st0 : List Value}
variable {D : va_G} {own C : String} {T : u_T} {N ci idx maxL nL n k mc ms : Nat} {y : MethodName} {bytes : ByteArray} {ret : Option FieldType} {r : Int32} {v : Option Value} {b : Nat} {As : List Value} {fs : List Value} {A : Nat → Prop}
variable {ct : Nat → ClassId} {ad : Nat → Nat} {B : Nat → Int32} {tk : Nat → Int32} {fr : Int32} {X : Nat → Option (Nat → Int32)} {g : Nat → Option Nat} {LP : List Nat} {pr : Nat → Nat → Int32}
variable {Qc : Array Value → State → Outcome → State → Prop} {XC : String → State → State → Prop}
theorem thFb (hx : p.tables.exec = Jvm.exec) (hb : c.code = cc) (hl9 : l.stackTraces = false) {E text : String} {ik is ic : Nat} (ha : atOK ik ic E) (htx : (is, text) ∈ strs) (hown : s.vm.findClass R_Fb = some m.cls) (hts : ∀ w ∈ wA, w.before args s = true) (hE : eC ct A s) (hS : va_S A s.heap H locs) (hH : H = s.heap) (hsize : ls.size = c.maxLocals)
    (d0 : decode cc pc = .ok (.new ik, 3)) (d3 : decode cc (pc + 3) = .ok (.dup, 1)) (d4 : decode cc (pc + 4) = .ok (.ldc is, 2)) (d6 : decode cc (pc + 6) = .ok (.invokespecial ic, 3)) (d9 : decode cc (pc + 9) = .ok (.athrow, 1))
    (ht : ∀ x ∈ c.exceptionTable.toList, False) (hRf : 6 ≤ R.frames) (hRl : (rest.map fun v => v.category).sum + 82 ≤ R.locals) (hRc : cells + 1 ≤ R.cells) (hRs : slots + 6 ≤ R.slots) (hlocks : meth.locks = false)
    (hx9 : ∀ t : State, kF s t → XC E s t) (hc : cells + 1 ≤ mc) (hs : slots + 6 ≤ ms) :
    W p l e R s m args below meth c H locs cells slots (vx_MQ below Qc XC args s mc ms A) (F0 m pc ls rest) := by
  obtain ⟨⟨h1, h2, h3⟩, h4, h5⟩ := ha
  obtain ⟨-, hF, hU, hN, hst⟩ := hE
  obtain ⟨sa, hsa⟩ := hst _ htx
  exact vx_throwS (names := ups) hx hb hl9 hown h3 (by decide +kernel) (hts _ h1) (hts _ h2) hsa (at_words h4 hts hF) h5 hU hN hS hsize d0 d3 d4 d6 d9 (fun x hx => (ht x hx).elim) hRf hRl hRc hRs hlocks (fun t hal hz hk => hx9 t ⟨by rw [← hH]; exact hz, fun q hq => by rw [← hH] at hq ⊢; exact hk q hq⟩) hS.2.2 hc hs
/-- a call that only looks, and throws where P doesn't hold -/
theorem ckV (S : CallFix p m c cc nL s args wA own) (hE : eC ct A s) (hK : va_K D vwC (tyC ct) s) (hr : rX g LP pr X) (hP : va_P D vwC (wsC ct ad B g tk fr LP pr) H) (hD : va_D A (wsC ct ad B g tk fr LP pr)) (hS : va_S A s.heap H locs) (hA : ∀ q : Nat, s.heap.size ≤ q → A q) (hH : H = s.heap)
    {P : Prop} {E0 : String} (hM : vx_Met l y (Cond.code y bytes maxL ret :: wA) (rmk k 1 6) (va_Pc (.ref b :: As) (cS A D ct ad B tk fr X)) (ckQ P) (ckX P E0) 1 6 A)
    (m1 : Cond.methodLink own idx y ∈ wA) (hm : mV C y (Cond.code y bytes maxL ret) n) (hR : 10 * k + 1 ≤ R.frames ∧ 8 + (maxL + 11) + 100 * k ≤ R.locals)
    (q0 : Nat) (he : (wsC ct ad B g tk fr LP pr)[q0]? = some (b, .inr (ci, fs))) (hc : vwC[ci]? = some (C, T, N)) (hn : As.length = n) (hsz : ls.size = nL) (hst : st0 = As.reverse ++ .ref b :: rest) (hW : (rest.map fun v => v.category).sum ≤ 8)
    (hdg : decode cc pc = .ok (.invokevirtual idx, 3)) (hf : cells + 1 ≤ R.cells ∧ slots + 6 ≤ R.slots) (ht : ∀ x ∈ c.exceptionTable.toList, False) (hlocks : meth.locks = false)
    (hthr : ¬ P → ∀ t : State, kF s t → XC E0 s t) (hmc : cells + 1 ≤ mc) (hms : slots + 6 ≤ ms)
    (kk : P → ∀ locs1 : List Loc, va_S A s.heap H locs1 → W p l e R s m args below meth c H locs1 (cells + 1) (slots + 6) (vx_MQ below Qc XC args s mc ms A) (F0 m (pc + 3) ls rest)) : W p l e R s m args below meth c H locs cells slots (vx_MQ below Qc XC args s mc ms A) (F0 m pc ls st0) := by
  obtain ⟨⟨m2, m3, m4, m5⟩, hd⟩ := hm
  have hrun := vx_runV (As := As) (rest := rest) (H := H) (locs := locs) (cells := cells) (slots := slots) (g := F0 m pc ls st0) (e := e) (below := below) (meth := meth) S hM (cwV n S.2.2.2.2 (gV m1 m2 m3 m4 m5) rfl rfl rfl hd hR) ⟨cS_blind, va_recv hK hP (ci := ci) (q0 := q0) hc he, fun U hU hW => ⟨rfl, fun q hq => hA q (by rw [hU] at hq; exact Nat.le_trans hS.1 hq), eC_moved hW (by rw [hU]; exact hS) hE, va_K.moved hW.alike hK, g, LP, pr, hr, by rw [hU]; exact hP, hD⟩⟩ rfl hn hsz hst (lv_room hW) hdg hf
  intro T hT X0
  rcases hrun T hT X0 with ⟨v1, st₀, t, T', L, h0, X', hL, e1, e2, ⟨hp, hv, hh⟩, st⟩ | ⟨q, st₀, t, T', L, E, ce, h0, X', hL, e1, e2, ⟨hnp, hEE, hkF⟩, hce, hcv, hcl, st⟩
  · cases hv
    obtain ⟨t2, a1, b1⟩ := kk hp (locs ++ L) ⟨hS.1, hS.2.1, fun q hq => by
      rcases List.mem_append.mp hq with h | h
      · exact hS.2.2 q h
      · exact hL q h⟩ T' (by rw [e1, hh, h0]) X'
    exact ⟨t2, st t2 a1, b1⟩
  · subst hEE
    have hw : vx_W p l e R s m args below meth c T'.heap (locs ++ L) (cells + 1) (slots + 6) (vx_MQ below Qc XC args s mc ms A) (F0 m pc ls rest) q := vx_out (fun x hx => (ht x hx).elim) hlocks (by rw [e1]; exact hce) hcv hcl (fun t9 h9 _ => hthr hnp t9 ⟨by rw [h9, e1, ← hH, ← h0]; exact hkF.1, fun z hz => by rw [h9, e1, hkF.2 z (by rw [h0, hH]; exact hz), h0, hH]⟩) (fun z hz => by
      rcases List.mem_append.mp hz with h | h
      · exact hS.2.2 z h
      · exact hL z h) hmc hms
    obtain ⟨t2, a1, b1⟩ := hw T' rfl X'
    exact ⟨t2, st.trans a1, b1⟩
end RWT
set_option maxRecDepth 100000 in
theorem at_IAE : atOK 50 54 nIAE := ⟨⟨wA_t 208 (by decide +kernel) (by decide +kernel), wA_t 11 (by decide +kernel) (by decide +kernel), by decide +kernel⟩, by decide +kernel, by decide +kernel⟩
set_option maxRecDepth 100000 in
theorem at_ISE : atOK 61 65 nISE := ⟨⟨wA_t 284 (by decide +kernel) (by decide +kernel), wA_t 12 (by decide +kernel) (by decide +kernel), by decide +kernel⟩, by decide +kernel, by decide +kernel⟩
set_option maxRecDepth 100000 in
theorem at_IOE : atOK 112 116 nIOE := ⟨⟨wA_t 457 (by decide +kernel) (by decide +kernel), wA_t 15 (by decide +kernel) (by decide +kernel), by decide +kernel⟩, by decide +kernel, by decide +kernel⟩
end
