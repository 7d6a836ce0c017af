/-! ===== longs ===== -/
def lI (z : Int) : Int64 := Int64.ofInt z
theorem lI_mul (a b : Int) : lI a * lI b = lI (a * b) := (Int64.ofInt_mul a b).symm
theorem lI_sub (a b : Int) : lI a - lI b = lI (a - b) := (Int64.ofInt_sub a b).symm
theorem lI_add (a b : Int) : lI a + lI b = lI (a + b) := (Int64.ofInt_add a b).symm
theorem lI_neg (a : Int) : -(lI a) = lI (-a) := (Int64.ofInt_neg a).symm
theorem lI_toInt {z : Int} (h1 : -9223372036854775808 ≤ z) (h2 : z < 9223372036854775808) : (lI z).toInt = z := by
  unfold lI
  rw [Int64.toInt_ofInt]
  exact fb_bmodL h1 h2
theorem lI_as (x : Int64) : lI x.toInt = x := Int64.ofInt_toInt x
theorem lI_inj {a b : Int} (ha1 : -9223372036854775808 ≤ a) (ha2 : a < 9223372036854775808) (hb1 : -9223372036854775808 ≤ b) (hb2 : b < 9223372036854775808) : lI a = lI b ↔ a = b := by
  refine ⟨fun e => ?_, fun e => by rw [e]⟩
  have := congrArg Int64.toInt e
  rw [lI_toInt ha1 ha2, lI_toInt hb1 hb2] at this
  exact this
theorem lI_div {d v : Int} (hd : 0 < d) (hd2 : d < 9223372036854775808) (h1 : -9223372036854775807 ≤ d * v) (h2 : d * v ≤ 9223372036854775807) (v1 : -9223372036854775807 ≤ v) (v2 : v ≤ 9223372036854775807) : lI (d * v) / lI d = lI v := by
  apply Int64.toInt_inj.mp
  rw [Int64.toInt_div, lI_toInt (by omega) (by omega), lI_toInt (by omega) (by omega), lI_toInt (by omega) (by omega), Int.mul_tdiv_cancel_left _ (by omega)]
  exact fb_bmodL (by omega) (by omega)
theorem i_toI64 (x : Int32) : x.toInt64 = lI x.toInt := by
  apply Int64.toInt_inj.mp
  have := fb_rng x
  rw [Int32.toInt_toInt64, lI_toInt (by omega) (by omega)]
