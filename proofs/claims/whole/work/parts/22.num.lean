/-! numbers in bytes -/
def le (c : Nat → Nat) : Nat → Nat → Nat
  | _, 0 => 0
  | a, n + 1 => c a + 256 * le c (a + 1) n
theorem nI_or (a b : Nat) : nI a ||| nI b = nI (a ||| b) := by
  apply Int32.toBitVec_inj.mp
  show (BitVec.ofNat 32 a ||| BitVec.ofNat 32 b) = BitVec.ofNat 32 (a ||| b)
  apply BitVec.eq_of_toNat_eq
  simp [Nat.or_mod_two_pow]
theorem or_256 {x q : Nat} (h : q < 256) : x * 256 ||| q = x * 256 + q := by
  have e := Nat.two_pow_add_eq_or_of_lt (i := 8) (b := q) h x
  rw [show (2 : Nat) ^ 8 = 256 by decide] at e
  rw [Nat.mul_comm x 256, e]
theorem le_lt {c : Nat → Nat} : ∀ n a, (∀ i, a ≤ i → i < a + n → c i < 256) → le c a n < 256 ^ n
  | 0, _, _ => by rw [le]; decide
  | n + 1, a, h => by
    have h1 := le_lt n (a + 1) (fun i h1 h2 => h i (by omega) (by omega))
    have h2 := h a (Nat.le_refl _) (by omega)
    rw [le, Nat.pow_succ]
    omega
theorem fr_num_le {B : Nat → Int32} {c : Nat → Nat} : ∀ n a, n ≤ 4 → (∀ i, a ≤ i → i < a + n → c i < 256 ∧ B i &&& nI 255 = nI (c i)) → fr_num B a n = nI (le c a n)
  | 0, _, _, _ => rfl
  | n + 1, a, hn, h => by
    have h1 := fr_num_le (B := B) (c := c) n (a + 1) (by omega) (fun i h1 h2 => h i (by omega) (by omega))
    have h2 := le_lt (c := c) n (a + 1) (fun i h1 h2 => (h i (by omega) (by omega)).1)
    have h3 := h a (Nat.le_refl _) (by omega)
    have h4 : (256 : Nat) ^ n ≤ 256 ^ 3 := Nat.pow_le_pow_right (by decide) (by omega)
    rw [fr_num, h1, h3.2, pk_shlN (nI 8 &&& 31) 8 (by decide) (by rw [show (2 : Nat) ^ 8 = 256 by decide]; omega), show (2 : Nat) ^ 8 = 256 by decide, nI_or, or_256 h3.1, le]
    congr 1
    omega
/-- byte i of a number -/
def byN (v i : Nat) : Nat := v / 256 ^ i % 256
theorem bp_b (x : Int32) : x.toInt8.toInt32 &&& 255 = x &&& 255 := by
  apply Int32.toBitVec_inj.mp
  rw [Int32.toBitVec_and, Int32.toBitVec_and, Int8.toBitVec_toInt32, Int32.toBitVec_toInt8]
  apply BitVec.eq_of_getLsbD_eq
  intro i hi
  rw [BitVec.getLsbD_and, BitVec.getLsbD_and]
  have hm : ∀ i < 32, 8 ≤ i → (255 : Int32).toBitVec.getLsbD i = false := by decide
  rcases Nat.lt_or_ge i 8 with z | z
  · rw [BitVec.getLsbD_signExtend, BitVec.getLsbD_signExtend, if_pos z, if_pos hi]
    simp only [z, hi, decide_true, Bool.true_and]
  · rw [hm i hi z]; simp
/-! ===== the char cast and 65535 ===== -/
theorem b_255 (x : Int32) : (vp_nar .byte (x.toInt8.toInt32)) &&& nI 255 = nI (x.toBitVec.toNat % 256) := by
  rw [pk_vb]
  have e : x.toInt8.toInt32 &&& nI 255 = x &&& nI 255 := bp_b x
  rw [e, pk_and x 8 (by decide)]
theorem fr_set_out {v : Int32} : ∀ (n a : Nat) (B : Nat → Int32) (v : Int32) (i : Nat), (i < a ∨ a + n ≤ i) → fr_set B a n v i = B i
  | 0, _, _, _, _, _ => rfl
  | n + 1, a, B, v, i, h => by rw [fr_set, fr_set_out (v := v) n (a + 1) _ _ i (by omega), pk_un (by omega)]
theorem fr_set_num : ∀ (n a v i : Nat) (B : Nat → Int32), v < 2 ^ 32 → a ≤ i → i < a + n → fr_set B a n (nI v) i &&& nI 255 = nI (byN v (i - a))
  | 0, a, v, i, B, hv, h1, h2 => absurd h2 (by omega)
  | n + 1, a, v, i, B, hv, h1, h2 => by
    rw [fr_set, pk_ushrN hv (nI 8) 8 (by decide)]
    rcases Nat.eq_or_lt_of_le h1 with e | e
    · subst e
      rw [fr_set_out (v := 0) n (a + 1) _ _ a (by omega), pk_us, b_255, pk_tn hv, Nat.sub_self]
      show nI (v % 256) = nI (v / 1 % 256)
      rw [Nat.div_one]
    · rw [fr_set_num n (a + 1) (v / 2 ^ 8) i _ (Nat.lt_of_le_of_lt (Nat.div_le_self _ _) hv) (by omega) (by omega), show (2 : Nat) ^ 8 = 256 by decide]
      congr 1
      unfold byN
      rw [show i - a = i - (a + 1) + 1 by omega, Nat.pow_succ, Nat.div_div_eq_div_mul, Nat.mul_comm (256 ^ (i - (a + 1))) 256]
theorem byN_lt (v i : Nat) : byN v i < 256 := Nat.mod_lt _ (by decide)
theorem le_byN : ∀ (n a v : Nat) (c : Nat → Nat), (∀ i, a ≤ i → i < a + n → c i = byN v (i - a)) → le c a n = v % 256 ^ n
  | 0, a, v, c, h => by rw [le, Nat.pow_zero, Nat.mod_one]
  | n + 1, a, v, c, h => by
    rw [le, h a (Nat.le_refl _) (by omega), Nat.sub_self, le_byN n (a + 1) (v / 256) c (fun i h1 h2 => by
      rw [h i (by omega) (by omega)]
      unfold byN
      rw [show i - a = i - (a + 1) + 1 by omega, Nat.pow_succ, Nat.div_div_eq_div_mul, Nat.mul_comm (256 ^ (i - (a + 1))) 256])]
    show v / 1 % 256 + 256 * (v / 256 % 256 ^ n) = v % 256 ^ (n + 1)
    rw [Nat.div_one, Nat.pow_succ, Nat.mul_comm (256 ^ n) 256, Nat.mod_mul]
/-- what was written is read -/
theorem fr_num_set {B : Nat → Int32} {a n v : Nat} (hn : n ≤ 4) (hv : v < 2 ^ 32) (hv2 : v < 256 ^ n) : fr_num (fr_set B a n (nI v)) a n = nI v := by
  rw [fr_num_le (c := fun i => byN v (i - a)) n a hn (fun i h1 h2 => ⟨byN_lt _ _, fr_set_num n a v i B hv h1 h2⟩), le_byN n a v _ (fun _ _ _ => rfl), Nat.mod_eq_of_lt hv2]
/-- what lies elsewhere is not touched -/
theorem fr_num_out : ∀ (n a : Nat) (B C : Nat → Int32), (∀ i, a ≤ i → i < a + n → B i = C i) → fr_num B a n = fr_num C a n
  | 0, _, _, _, _ => rfl
  | n + 1, a, B, C, h => by rw [fr_num, fr_num, fr_num_out n (a + 1) B C (fun i h1 h2 => h i (by omega) (by omega)), h a (Nat.le_refl _) (by omega)]
