/-! the reference's world; longs that are known -/
def wsM (ct : Nat → ClassId) (ad : Nat → Nat) (cd : Int32) (dk tk kd lc sz bh wt : Nat → Int32) (bl : Nat → Nat) (tg : Nat → Int32) (fs : Int32) : va_W :=
  [(ad 0, .inr (6, [.int cd, .ref (ad 1), .ref (ad 2), .ref (ad 3), .ref (ad 4), .ref (ad 5), .ref (ad 6), .ref (ad 7), .ref (ad 8), .ref (ad 9), .int fs])), (ad 1, .inl (ct 0, 131072, .inl dk)), (ad 2, .inl (ct 1, 128, .inl tk)), (ad 3, .inl (ct 3, 13, .inl kd)), (ad 4, .inl (ct 3, 13, .inl lc)), (ad 5, .inl (ct 3, 13, .inl sz)), (ad 6, .inl (ct 3, 13, .inl bh)), (ad 7, .inl (ct 1, 13, .inl wt)), (ad 8, .inl (ct 3, 195, .inl (fun i => nI (bl i)))), (ad 9, .inl (ct 0, 780, .inl tg))]
def tyM (ct : Nat → ClassId) : List (ClassId × FieldType) := [(ct 0, .byte), (ct 1, .boolean), (ct 3, .int)]
def un (f : Nat → Nat) (k v : Nat) : Nat → Nat := fun j => if j = k then v else f j
theorem upd_nI {f : Nat → Nat} {k v : Nat} : upd (fun i => nI (f i)) k (nI v) = fun i => nI (un f k v i) := by
  funext j
  by_cases e : j = k
  · rw [e, pk_us]; show nI v = nI (if k = k then v else f k); rw [if_pos rfl]
  · rw [pk_un e]; show nI (f j) = nI (if j = k then v else f j); rw [if_neg e]
def bOK (f : Nat → Nat) : Prop := ∀ i, f i < 128
theorem un_lt {f : Nat → Nat} {k v : Nat} (h : bOK f) (hv : v < 128) : bOK (un f k v) := by
  intro j
  show (if j = k then v else f j) < 128
  by_cases e : j = k
  · rw [if_pos e]; exact hv
  · rw [if_neg e]; exact h j
theorem zl_add {x y : Int64} {a b : Int} (hx : x.toInt = a) (hy : y.toInt = b) (h1 : -9223372036854775808 ≤ a + b) (h2 : a + b < 9223372036854775808) : (x + y).toInt = a + b := by
  rw [Int64.toInt_add, hx, hy]
  exact Int.bmod_eq_of_le (by omega) (by omega)
theorem lc_val {x y : Int64} {a b : Int} (hx : x.toInt = a) (hy : y.toInt = b) : lg_cmp x y = if b < a then 1 else if a = b then 0 else -1 := by
  unfold lg_cmp
  simp only [gt_iff_lt, Int64.lt_iff_toInt_lt, ← Int64.toInt_inj, hx, hy]
section RWL
variable {p : Program} {l : Launch} {e : Env} {R : Room} {s : State} {m : MethodId} {args : Array Value} {below : List Frame} {meth : Method} {c : Code} {H : Heap} {locs : List Loc} {cells slots : Nat} {Q : State → Prop}
variable {cc : ByteArray} {pc : Nat} {ls : Array Slot} {rest : List Value}
theorem lc_neg {a b : Int} : (if b < a then (1 : Int32) else if a = b then 0 else -1) < 0 ↔ a < b := by
  by_cases h : b < a
  · rw [if_pos h]; exact ⟨fun q => absurd q (by decide), fun q => absurd q (by omega)⟩
  · rw [if_neg h]
    by_cases h2 : a = b
    · rw [if_pos h2]; exact ⟨fun q => absurd q (by decide), fun q => absurd q (by omega)⟩
    · rw [if_neg h2]; exact ⟨fun _ => by omega, fun _ => by decide⟩
theorem lc_pos {a b : Int} : (0 : Int32) < (if b < a then (1 : Int32) else if a = b then 0 else -1) ↔ b < a := by
  by_cases h : b < a
  · rw [if_pos h]; exact ⟨fun _ => h, fun _ => by decide⟩
  · rw [if_neg h]
    by_cases h2 : a = b
    · rw [if_pos h2]; exact ⟨fun q => absurd q (by decide), fun q => absurd q (by omega)⟩
    · rw [if_neg h2]; exact ⟨fun q => absurd q (by decide), fun q => absurd q (by omega)⟩
theorem lc_zero {a b : Int} : (if b < a then (1 : Int32) else if a = b then 0 else -1) = 0 ↔ a = b := by
  by_cases h : b < a
  · rw [if_pos h]; exact ⟨fun q => absurd q (by decide), fun q => absurd q (by omega)⟩
  · rw [if_neg h]
    by_cases h2 : a = b
    · rw [if_pos h2]; exact ⟨fun _ => h2, fun _ => rfl⟩
    · rw [if_neg h2]; exact ⟨fun q => absurd q (by decide), fun q => absurd q h2⟩
theorem lc_if_lt (hx : p.tables.exec = Jvm.exec) (hb : c.code = cc) {x y : Int64} {a b : Int} (hx9 : x.toInt = a) (hy9 : y.toInt = b) {off : Int} {tgt : Nat} (hdg : decode cc pc = .ok (.ifCond .lt off, 3)) (ht : (pc : Int) + off = (tgt : Int)) (kt : a < b → W p l e R s m args below meth c H locs cells slots Q (F0 m tgt ls rest)) (kf : b ≤ a → W p l e R s m args below meth c H locs cells slots Q (F0 m (pc + 3) ls rest)) : W p l e R s m args below meth c H locs cells slots Q (F0 m pc ls (.int (lg_cmp x y) :: rest)) := lv_if_lt hx hb hdg ht (fun q => kt (by rw [lc_val hx9 hy9] at q; exact lc_neg.mp q)) (fun q => kf (by rw [lc_val hx9 hy9] at q; have := mt lc_neg.mpr q; omega))
theorem lc_if_gt (hx : p.tables.exec = Jvm.exec) (hb : c.code = cc) {x y : Int64} {a b : Int} (hx9 : x.toInt = a) (hy9 : y.toInt = b) {off : Int} {tgt : Nat} (hdg : decode cc pc = .ok (.ifCond .gt off, 3)) (ht : (pc : Int) + off = (tgt : Int)) (kt : b < a → W p l e R s m args below meth c H locs cells slots Q (F0 m tgt ls rest)) (kf : a ≤ b → W p l e R s m args below meth c H locs cells slots Q (F0 m (pc + 3) ls rest)) : W p l e R s m args below meth c H locs cells slots Q (F0 m pc ls (.int (lg_cmp x y) :: rest)) := lv_if_gt hx hb hdg ht (fun q => kt (by rw [lc_val hx9 hy9] at q; exact lc_pos.mp q)) (fun q => kf (by rw [lc_val hx9 hy9] at q; have := mt lc_pos.mpr q; omega))
theorem lc_if_eq (hx : p.tables.exec = Jvm.exec) (hb : c.code = cc) {x y : Int64} {a b : Int} (hx9 : x.toInt = a) (hy9 : y.toInt = b) {off : Int} {tgt : Nat} (hdg : decode cc pc = .ok (.ifCond .eq off, 3)) (ht : (pc : Int) + off = (tgt : Int)) (kt : a = b → W p l e R s m args below meth c H locs cells slots Q (F0 m tgt ls rest)) (kf : a ≠ b → W p l e R s m args below meth c H locs cells slots Q (F0 m (pc + 3) ls rest)) : W p l e R s m args below meth c H locs cells slots Q (F0 m pc ls (.int (lg_cmp x y) :: rest)) := lv_if_eq hx hb hdg ht (fun q => kt (by rw [lc_val hx9 hy9] at q; exact lc_zero.mp q)) (fun q => kf (by rw [lc_val hx9 hy9] at q; exact mt lc_zero.mpr q))
end RWL
