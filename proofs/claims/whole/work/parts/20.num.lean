/-! ===== numbers: sets of pupils and works as masks, comparisons of longs ===== -/
theorem i32_ext {x y : Int32} (h : ∀ i, i < 32 → x.toBitVec.getLsbD i = y.toBitVec.getLsbD i) : x = y := by
  apply Int32.toBitVec_inj.mp
  exact BitVec.eq_of_getLsbD_eq (fun i hi => h i hi)
theorem nI_bit (n i : Nat) (hi : i < 32) : (nI n).toBitVec.getLsbD i = n.testBit i := by
  show (BitVec.ofNat 32 n).getLsbD i = _
  rw [BitVec.getLsbD_ofNat]
  simp [hi]
theorem m1_bit (i : Nat) (hi : i < 32) : (-1 : Int32).toBitVec.getLsbD i = true := by
  show (-1#32 : BitVec 32).getLsbD i = true
  rw [show (-1#32 : BitVec 32) = BitVec.allOnes 32 from by decide]
  rw [BitVec.getLsbD_allOnes]
  simp [hi]
/-- the set a without b -/
def nd (a b : Nat) : Nat := a &&& (255 ^^^ (b % 256))
theorem lt256_bit {a i : Nat} (h : a < 256) (hi : 8 ≤ i) : a.testBit i = false := Nat.testBit_lt_two_pow (Nat.lt_of_lt_of_le h (show 2 ^ 8 ≤ 2 ^ i from Nat.pow_le_pow_right (by decide) hi))
theorem nd_bit {a : Nat} (b i : Nat) (h : a < 256) : (nd a b).testBit i = (a.testBit i && !b.testBit i) := by
  unfold nd
  rw [Nat.testBit_and, Nat.testBit_xor]
  by_cases hi : i < 8
  · rw [show (256 : Nat) = 2 ^ 8 from rfl, Nat.testBit_mod_two_pow]
    have : (255 : Nat).testBit i = true := by
      rw [show (255 : Nat) = 2 ^ 8 - 1 from rfl, Nat.testBit_two_pow_sub_one]
      simp [hi]
    rw [this]
    simp [hi]
  · rw [lt256_bit h (by omega)]
    simp
theorem nd_lt {a : Nat} (b : Nat) (h : a < 256) : nd a b < 256 := Nat.lt_of_le_of_lt Nat.and_le_left h
theorem nI_nd {a : Nat} (b : Nat) (h : a < 256) : nI a &&& (nI b ^^^ (-1)) = nI (nd a b) := by
  apply i32_ext
  intro i hi
  rw [Int32.toBitVec_and, Int32.toBitVec_xor, BitVec.getLsbD_and, BitVec.getLsbD_xor, nI_bit _ _ hi, nI_bit _ _ hi, nI_bit _ _ hi, m1_bit _ hi, nd_bit _ _ h]
  simp
theorem nI_or (a b : Nat) : nI a ||| nI b = nI (a ||| b) := by
  apply i32_ext
  intro i hi
  rw [Int32.toBitVec_or, BitVec.getLsbD_or, nI_bit _ _ hi, nI_bit _ _ hi, nI_bit _ _ hi, Nat.testBit_or]
theorem nI_and (a b : Nat) : nI a &&& nI b = nI (a &&& b) := by
  apply i32_ext
  intro i hi
  rw [Int32.toBitVec_and, BitVec.getLsbD_and, nI_bit _ _ hi, nI_bit _ _ hi, nI_bit _ _ hi, Nat.testBit_and]
theorem or_lt {a b : Nat} (ha : a < 256) (hb : b < 256) : a ||| b < 256 := Nat.or_lt_two_pow (n := 8) ha hb
theorem sh1 {k : Nat} (h : k ≤ 8) : (1 : Int32) <<< (nI k &&& 31) = nI (2 ^ k) := by
  match k, h with
  | 0, _ => rfl
  | 1, _ => rfl
  | 2, _ => rfl
  | 3, _ => rfl
  | 4, _ => rfl
  | 5, _ => rfl
  | 6, _ => rfl
  | 7, _ => rfl
  | 8, _ => rfl
theorem shr {m k : Nat} (hm : m < 2 ^ 31) (h : k < 8) : nI m >>> (nI k &&& 31) = nI (m / 2 ^ k) := by
  match k, h with
  | 0, _ => exact pk_shrN hm _ 0 (by decide)
  | 1, _ => exact pk_shrN hm _ 1 (by decide)
  | 2, _ => exact pk_shrN hm _ 2 (by decide)
  | 3, _ => exact pk_shrN hm _ 3 (by decide)
  | 4, _ => exact pk_shrN hm _ 4 (by decide)
  | 5, _ => exact pk_shrN hm _ 5 (by decide)
  | 6, _ => exact pk_shrN hm _ 6 (by decide)
  | 7, _ => exact pk_shrN hm _ 7 (by decide)
/-- bit k of a set, as the programs ask for it -/
theorem bit_v {m k : Nat} (hm : m < 2 ^ 31) (h : k < 8) : (nI m >>> (nI k &&& 31)) &&& 1 = nI (if m.testBit k then 1 else 0) := by
  rw [shr hm h, show (1 : Int32) = nI 1 from rfl, nI_and]
  congr 1
  rw [Nat.and_one_is_mod, Nat.testBit_eq_decide_div_mod_eq]
  by_cases e : m / 2 ^ k % 2 = 1
  · simp [e]
  · have : m / 2 ^ k % 2 = 0 := by omega
    simp [this]
theorem bit_0 {m k : Nat} (hm : m < 2 ^ 31) (h : k < 8) : ((nI m >>> (nI k &&& 31)) &&& 1 = 0) ↔ m.testBit k = false := by
  rw [bit_v hm h]
  cases m.testBit k <;> decide
theorem bit_1 {m k : Nat} (hm : m < 2 ^ 31) (h : k < 8) : ((nI m >>> (nI k &&& 31)) &&& 1 = 1) ↔ m.testBit k = true := by
  rw [bit_v hm h]
  cases m.testBit k <;> decide
theorem p2_bit (k i : Nat) : (2 ^ k).testBit i = decide (k = i) := Nat.testBit_two_pow
theorem p2_lt {k : Nat} (h : k < 8) : 2 ^ k < 256 := Nat.pow_lt_pow_right (by decide) h
/-- the set of those below k for which f holds -/
def msk (f : Nat → Bool) : Nat → Nat
  | 0 => 0
  | k + 1 => msk f k ||| (if f k then 2 ^ k else 0)
theorem msk_bit (f : Nat → Bool) : ∀ k i, (msk f k).testBit i = (decide (i < k) && f i)
  | 0, i => by simp [msk]
  | k + 1, i => by
    rw [msk, Nat.testBit_or, msk_bit f k i]
    by_cases h : i = k
    · subst h
      cases hf : f i <;> simp
    · have h2 : ¬ k = i := fun z => h z.symm
      have h3 : (i < k + 1) = (i < k) := by
        apply propext
        omega
      cases hf : f k <;> simp [h2, h3]
theorem msk_ltp (f : Nat → Bool) : ∀ k, msk f k < 2 ^ k
  | 0 => Nat.zero_lt_one
  | k + 1 => by
    have h := msk_ltp f k
    have h2 : 2 ^ k < 2 ^ (k + 1) := Nat.pow_lt_pow_right (by decide) (by omega)
    rw [msk]
    refine Nat.or_lt_two_pow (Nat.lt_trans h h2) ?_
    cases f k
    · exact Nat.pow_pos (by decide)
    · exact h2
theorem msk_lt (f : Nat → Bool) {k : Nat} (h : k ≤ 8) : msk f k < 256 := Nat.lt_of_lt_of_le (msk_ltp f k) (show 2 ^ k ≤ 2 ^ 8 from Nat.pow_le_pow_right (by decide) h)
theorem set_ext {a b : Nat} (ha : a < 256) (hb : b < 256) (h : ∀ i, i < 8 → a.testBit i = b.testBit i) : a = b := by
  apply Nat.eq_of_testBit_eq
  intro i
  by_cases hi : i < 8
  · exact h i hi
  · rw [lt256_bit ha (by omega), lt256_bit hb (by omega)]
theorem lg_lt {x y : Int64} : lg_cmp x y < 0 ↔ x.toInt < y.toInt := by
  unfold lg_cmp
  by_cases h1 : x > y
  · rw [if_pos h1]
    have h2 : y.toInt < x.toInt := Int64.lt_iff_toInt_lt.mp h1
    constructor
    · intro h; exact absurd h (by decide)
    · intro h; omega
  · rw [if_neg h1]
    by_cases h2 : x = y
    · rw [if_pos h2, h2]
      constructor
      · intro h; exact absurd h (by decide)
      · intro h; omega
    · rw [if_neg h2]
      have h3 : ¬ y.toInt < x.toInt := fun h => h1 (Int64.lt_iff_toInt_lt.mpr h)
      have h4 : ¬ x.toInt = y.toInt := fun h => h2 (Int64.toInt_inj.mp h)
      constructor
      · intro _; omega
      · intro _; decide
theorem lg_gt {x y : Int64} : 0 < lg_cmp x y ↔ y.toInt < x.toInt := by
  unfold lg_cmp
  by_cases h1 : x > y
  · rw [if_pos h1]
    have h2 : y.toInt < x.toInt := Int64.lt_iff_toInt_lt.mp h1
    exact ⟨fun _ => h2, fun _ => by decide⟩
  · rw [if_neg h1]
    have h3 : ¬ y.toInt < x.toInt := fun h => h1 (Int64.lt_iff_toInt_lt.mpr h)
    by_cases h2 : x = y
    · rw [if_pos h2]
      exact ⟨fun h => absurd h (by decide), fun h => absurd h h3⟩
    · rw [if_neg h2]
      exact ⟨fun h => absurd h (by decide), fun h => absurd h h3⟩
theorem lg_eq {x y : Int64} : lg_cmp x y = 0 ↔ x = y := by
  unfold lg_cmp
  by_cases h1 : x > y
  · rw [if_pos h1]
    exact ⟨fun h => absurd h (by decide), fun h => absurd (h ▸ h1) Int64.lt_irrefl⟩
  · rw [if_neg h1]
    by_cases h2 : x = y
    · rw [if_pos h2]
      exact ⟨fun _ => h2, fun _ => rfl⟩
    · rw [if_neg h2]
      exact ⟨fun h => absurd h (by decide), fun h => absurd h h2⟩
/-- a number below n, or none -/
theorem nI_cases (a : Int32) {n : Nat} (hn : n < 2 ^ 31) : (∃ k, k < n ∧ a = nI k) ∨ (a < 0 ∨ nI n ≤ a) := by
  rcases pk_ix a hn with h | h | h
  · exact Or.inr (Or.inl h)
  · exact Or.inr (Or.inr h)
  · exact Or.inl h
theorem fb_rng (x : Int32) : -2147483648 ≤ x.toInt ∧ x.toInt < 2147483648 := by
  have h1 := Int32.le_toInt x
  have h2 := Int32.toInt_lt x
  omega
theorem fb_bmod {z : Int} (h1 : -2147483648 ≤ z) (h2 : z < 2147483648) : z.bmod (2 ^ 32) = z := by
  rw [Int.bmod_eq_of_le (by omega) (by omega)]
theorem fb_addI {x y : Int32} (h1 : -2147483648 ≤ x.toInt + y.toInt) (h2 : x.toInt + y.toInt < 2147483648) : (x + y).toInt = x.toInt + y.toInt := by
  rw [Int32.toInt_add, fb_bmod h1 h2]
theorem fb_subI {x y : Int32} (h1 : -2147483648 ≤ x.toInt - y.toInt) (h2 : x.toInt - y.toInt < 2147483648) : (x - y).toInt = x.toInt - y.toInt := by
  rw [Int32.toInt_sub, fb_bmod h1 h2]
theorem fb_mulI {x y : Int32} (h1 : -2147483648 ≤ x.toInt * y.toInt) (h2 : x.toInt * y.toInt < 2147483648) : (x * y).toInt = x.toInt * y.toInt := by
  rw [Int32.toInt_mul, fb_bmod h1 h2]
theorem fb_negI {x : Int32} (h : x.toInt ≠ -2147483648) : (-x).toInt = -x.toInt := by
  have := fb_rng x
  rw [Int32.toInt_neg, fb_bmod (by omega) (by omega)]
theorem fb_ofI {z : Int} (h1 : -2147483648 ≤ z) (h2 : z < 2147483648) : (Int32.ofInt z).toInt = z := by
  rw [Int32.toInt_ofInt, fb_bmod h1 h2]
theorem fb_asI (x : Int32) : Int32.ofInt x.toInt = x := Int32.ofInt_toInt x
theorem fb_rngL (x : Int64) : -9223372036854775808 ≤ x.toInt ∧ x.toInt < 9223372036854775808 := by
  have h1 := Int64.le_toInt x
  have h2 := Int64.toInt_lt x
  omega
theorem fb_bmodL {z : Int} (h1 : -9223372036854775808 ≤ z) (h2 : z < 9223372036854775808) : z.bmod (2 ^ 64) = z := by
  rw [Int.bmod_eq_of_le (by omega) (by omega)]
theorem fb_addL {x y : Int64} (h1 : -9223372036854775808 ≤ x.toInt + y.toInt) (h2 : x.toInt + y.toInt < 9223372036854775808) : (x + y).toInt = x.toInt + y.toInt := by
  rw [Int64.toInt_add, fb_bmodL h1 h2]
theorem fb_subL {x y : Int64} (h1 : -9223372036854775808 ≤ x.toInt - y.toInt) (h2 : x.toInt - y.toInt < 9223372036854775808) : (x - y).toInt = x.toInt - y.toInt := by
  rw [Int64.toInt_sub, fb_bmodL h1 h2]
theorem fb_mulL {x y : Int64} (h1 : -9223372036854775808 ≤ x.toInt * y.toInt) (h2 : x.toInt * y.toInt < 9223372036854775808) : (x * y).toInt = x.toInt * y.toInt := by
  rw [Int64.toInt_mul, fb_bmodL h1 h2]
