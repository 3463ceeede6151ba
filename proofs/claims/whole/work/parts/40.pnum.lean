/-! pure: what a field holds behind a write -/
theorem i32_nat (x : Int32) : ∃ v : Nat, v < 2 ^ 32 ∧ x = nI v := by
  refine ⟨x.toBitVec.toNat, x.toBitVec.isLt, ?_⟩
  apply Int32.toBitVec_inj.mp
  show x.toBitVec = BitVec.ofNat 32 x.toBitVec.toNat
  simp
theorem fr_num_w {B : Nat → Int32} {a : Nat} {x : Int32} : fr_num (fr_set B a 4 x) a 4 = x := by
  obtain ⟨v, hv, rfl⟩ := i32_nat x
  exact fr_num_set (by decide) hv (by simpa using hv)
theorem fr_num_o {B : Nat → Int32} {a n b k : Nat} {x : Int32} (h : b + k ≤ a ∨ a + n ≤ b) : fr_num (fr_set B a n x) b k = fr_num B b k := by
  refine fr_num_out k b _ _ (fun i h1 h2 => ?_)
  exact fr_set_out (v := 0) n a B x i (by omega)
theorem fr_num_1 {B : Nat → Int32} {a : Nat} : fr_num B a 1 = B a &&& nI 255 := by
  rw [fr_num, fr_num]
  apply Int32.toBitVec_inj.mp
  simp
theorem fr_num_w1 {B : Nat → Int32} {a : Nat} {x : Int32} : fr_num (fr_set B a 1 x) a 1 = x &&& nI 255 := by
  rw [fr_num_1, fr_set, fr_set, pk_us, b_255]
  exact (pk_and x (m := nI 255) 8 (by decide)).symm
section RSS
variable {B : Nat → Int32} {f g o n o' n' : Nat} {x : Int32}
theorem rs4 (h1 : 0 < f) (h2 : f ≤ 12) : re_f (re_set B f o 4 x) f o 4 = x := by
  rw [re_f_in (by omega) (by omega), re_set_in (by omega) (by omega)]; exact fr_num_w
theorem rs1 (h1 : 0 < f) (h2 : f ≤ 12) : re_f (re_set B f o 1 x) f o 1 = x &&& nI 255 := by
  rw [re_f_in (by omega) (by omega), re_set_in (by omega) (by omega)]; exact fr_num_w1
theorem rs2 {v : Nat} (h1 : 0 < f) (h2 : f ≤ 12) (hv : v < 65536) : re_f (re_set B f o 2 (nI v)) f o 2 = nI v := by
  rw [re_f_in (by omega) (by omega), re_set_in (by omega) (by omega)]; exact fr_num_set (by decide) (by omega) (by simpa using hv)
theorem rso (h : g ≠ f ∨ o' + n' ≤ o ∨ o + n ≤ o') (h1 : o + n ≤ 256) (h2 : o' + n' ≤ 256) : re_f (re_set B f o n x) g o' n' = re_f B g o' n' := by
  unfold re_f re_set
  by_cases hg : g = 0 ∨ 12 < g
  · rw [if_pos hg, if_pos hg]
  · rw [if_neg hg, if_neg hg]
    by_cases hf : f = 0 ∨ 12 < f
    · rw [if_pos hf]
    · rw [if_neg hf]
      exact fr_num_o (by omega)
theorem rsh {a k : Nat} (h : a + k ≤ 1024) : fr_num (re_set B f o n x) a k = fr_num B a k := by
  unfold re_set
  by_cases hf : f = 0 ∨ 12 < f
  · rw [if_pos hf]
  · rw [if_neg hf]; exact fr_num_o (by omega)
theorem hsr : re_f (fr_set B 232 4 x) g o n = re_f B g o n := by
  unfold re_f
  by_cases hg : g = 0 ∨ 12 < g
  · rw [if_pos hg, if_pos hg]
  · rw [if_neg hg, if_neg hg]; exact fr_num_o (by omega)
theorem fr_num_z {a k : Nat} (hk : k ≤ 4) (h : ∀ i, a ≤ i → i < a + k → B i &&& nI 255 = nI 0) : fr_num B a k = nI 0 := by
  rw [fr_num_le (c := fun _ => 0) k a hk (fun i h1 h2 => ⟨by decide, h i h1 h2⟩), le_byN k a 0 (fun _ => 0) (fun i h1 h2 => by unfold byN; simp), Nat.zero_mod]
theorem rs_z (h1 : 0 < f) (h2 : f ≤ 12) (hn : n ≤ 4) (h : o + n ≤ 256) : re_f (re_set B f 0 256 (nI 0)) f o n = nI 0 := by
  rw [re_f_in (by omega) (by omega), re_set_in (by omega) (by omega)]
  refine fr_num_z hn (fun i h3 h4 => ?_)
  rw [fr_set_num 256 _ 0 i B (by decide) (by omega) (by omega)]
  unfold byN; simp
theorem re_f_0 (h : f = 0 ∨ 12 < f) : re_f B f o n = nI 0 := if_pos h
end RSS
