/-! ===== the system of a piece is small enough ===== -/
theorem slots_count {g : Sg} {r k : Nat} {nd : Nat → Nat} (hs : Slots g r k nd) (pr : Nat → Bool) : lsum (fun j => b2 (pr (nd j))) k ≤ lsum (fun z => b2 (pr z && tdB (whoS g) r z)) 16 := by
  have e : lsum (fun j => b2 (pr (nd j))) k = lsum (fun j => lsum (fun z => if j < k ∧ nd j = z then b2 (pr z) else 0) 16) k := lsum_congr (fun j hj => by
    have := lsum_mid (nd j) (b2 (pr (nd j))) 16
    rw [if_pos (hs.1 j hj).1] at this
    rw [← this]
    refine lsum_congr (fun z _ => ?_)
    by_cases c : z = nd j
    · rw [if_pos c, if_pos ⟨hj, c.symm⟩, c]
    · rw [if_neg c, if_neg (fun q => c q.2.symm)])
  rw [e, lsum_comm (fun j z => if j < k ∧ nd j = z then b2 (pr z) else 0) 16 k]
  refine lsum_mono (fun z _ => ?_)
  rcases Classical.em (∃ j, j < k ∧ nd j = z) with ⟨j, hj, ej⟩ | no
  · have := lsum_one1 (f := fun j => if j < k ∧ nd j = z then b2 (pr z) else 0) (i := j) (fun i hne => if_neg (fun q => hne (hs.2 i j q.1 hj (q.2.trans ej.symm)))) k
    have t : lsum (fun j => if j < k ∧ nd j = z then b2 (pr z) else 0) k ≤ (if j < k ∧ nd j = z then b2 (pr z) else 0) := this
    rw [if_pos ⟨hj, ej⟩] at t
    have tz : tdB (whoS g) r z = true := by rw [← ej]; exact tdB_t.mpr (hs.1 j hj).2
    rw [tz, Bool.and_true]
    exact t
  · rw [lsum_zero (fun j hj => if_neg (fun q => no ⟨j, hj, q.2⟩))]
    exact Nat.zero_le _
theorem slots_w {g : Sg} {r k : Nat} {nd : Nat → Nat} (hs : Slots g r k nd) : lsum (fun j => b2 (decide (nd j < 8))) k ≤ nWk g r := by
  refine Nat.le_trans (slots_count hs (fun z => decide (z < 8))) ?_
  rw [show (16 : Nat) = 8 + 8 from rfl, lsum_split, lsum_zero (f := fun i => b2 (decide (8 + i < 8) && tdB (whoS g) r (8 + i))) (fun i _ => by rw [decide_eq_false (by omega)]; rfl)]
  refine lsum_mono (fun w hw => b2_le (fun z => ?_))
  rw [Bool.and_eq_true] at z
  exact z.2
theorem slots_p {g : Sg} {r k : Nat} {nd : Nat → Nat} (hs : Slots g r k nd) : lsum (fun j => b2 (decide (8 ≤ nd j))) k ≤ nPu g r := by
  refine Nat.le_trans (slots_count hs (fun z => decide (8 ≤ z))) ?_
  rw [show (16 : Nat) = 8 + 8 from rfl, lsum_split, lsum_zero (f := fun i => b2 (decide (8 ≤ i) && tdB (whoS g) r i)) (fun i hi => by rw [decide_eq_false (by omega)]; rfl), Nat.zero_add]
  refine lsum_mono (fun w hw => b2_le (fun z => ?_))
  rw [Bool.and_eq_true] at z
  exact z.2
theorem slots_k {g : Sg} {r k : Nat} {nd : Nat → Nat} (hs : Slots g r k nd) : k ≤ nWk g r + nPu g r := by
  have a := slots_w hs
  have b := slots_p hs
  have c : lsum (fun j => b2 (decide (nd j < 8)) + b2 (decide (8 ≤ nd j))) k = k := by
    rw [lsum_congr (f2 := fun _ => 1) (fun j _ => by
      by_cases z : nd j < 8
      · rw [decide_eq_true z, decide_eq_false (by omega)]; rfl
      · rw [decide_eq_false z, decide_eq_true (by omega)]; rfl), lsum_one]
  rw [lsum_add] at c
  omega
theorem gA_slot {g : Sg} {r k : Nat} {sm : Bool} {nd : Nat → Nat} (hs : Slots g r k nd) {j : Nat} (hj : j < k) : gA 65 (sC g r sm k nd) j j ≤ if nd j < 8 then (nPu g r : Int) else nWk g r + 1 := by
  have e : gA 65 (sC g r sm k nd) j j = isum (fun e => cN g r sm e (nd j) * cN g r sm e (nd j)) 65 := isum_congr (fun e _ => by
    unfold sC
    rw [if_pos hj])
  rw [e]
  by_cases c : nd j < 8
  · rw [if_pos c]; exact deg_w c
  · rw [if_neg c]
    have := deg_p (g := g) (r := r) (sm := sm) (q := nd j - 8) (by have := (hs.1 j hj).1; omega)
    rw [show 8 + (nd j - 8) = nd j by omega] at this
    exact this
theorem rhs_B {g : Sg} (hg : Wf g) (r : Nat) {w p : Nat} (hp : p < 8) (h : eg g r w p = true) : -100 ≤ (g.2.2.2.1 p w).toInt - stf g w ∧ (g.2.2.2.1 p w).toInt - stf g w ≤ 100 := by
  unfold eg at h
  rw [Bool.and_eq_true] at h
  have a := mk_pos (hg.2.2.2.2.1 p w) (whoS_bit.mp h.1).2
  have b : 0 ≤ stf g w ∧ stf g w ≤ 100 := by
    unfold stf
    by_cases c : g.2.2.2.2 w = -1
    · rw [if_pos c]; decide
    · rw [if_neg c]; exact mk_pos (hg.2.2.2.2.2.2.1 w) c
  omega
theorem sq_100 {x : Int} (h1 : -100 ≤ x) (h2 : x ≤ 100) : x * x ≤ 10000 := by
  rcases Int.le_total 0 x with p | p
  · exact Int.mul_le_mul h2 h2 p (by decide)
  · have := Int.mul_le_mul (a := -x) (b := -x) (c := 100) (d := 100) (by omega) (by omega) (by omega) (by decide)
    rw [Int.neg_mul_neg] at this
    exact this
theorem gA_rhs {g : Sg} (hg : Wf g) {r k : Nat} {sm : Bool} {nd : Nat → Nat} : gA 65 (sC g r sm k nd) k k ≤ 10000 * (nWk g r * nPu g r : Nat) := by
  have e : gA 65 (sC g r sm k nd) k k = isum (fun e => rhs g r e * rhs g r e) 65 := isum_congr (fun e _ => by
    unfold sC
    rw [if_neg (by omega), if_pos rfl])
  rw [e]
  show isum (fun e => rhs g r e * rhs g r e) 64 + rhs g r 64 * rhs g r 64 ≤ _
  have e64 : rhs g r 64 = 0 := if_neg (by decide)
  rw [e64, Int.mul_zero, Int.add_zero, show (64 : Nat) = 8 * 8 from rfl, isum_64]
  have each : ∀ w, w < 8 → isum (fun p => rhs g r (8 * w + p) * rhs g r (8 * w + p)) 8 ≤ (b2 (tdB (whoS g) r w) : Int) * (10000 * (nPu g r : Int)) := fun w hw => by
    by_cases t : tdB (whoS g) r w = true
    · rw [t, show ((b2 true : Nat) : Int) = 1 from rfl, Int.one_mul]
      unfold nPu
      rw [← isum_nat, ← isum_mul]
      refine isum_mono (fun p hp => ?_)
      unfold rhs
      rw [if_pos (show 8 * w + p < 64 by omega), show (8 * w + p) / 8 = w by omega, show (8 * w + p) % 8 = p by omega]
      by_cases c : eg g r w p = true
      · rw [if_pos c, (eg_P hw hp c).2, show ((b2 true : Nat) : Int) = 1 from rfl, Int.mul_one]
        have q := rhs_B hg r hp c
        exact sq_100 q.1 q.2
      · rw [if_neg c, Int.mul_zero]
        exact Int.mul_nonneg (by decide) (Int.natCast_nonneg _)
    · have tf : tdB (whoS g) r w = false := by cases z : tdB (whoS g) r w with | false => rfl | true => exact absurd z t
      rw [tf, show ((b2 false : Nat) : Int) = 0 from rfl, Int.zero_mul, isum_zero]
      · exact Int.le_refl _
      · intro p hp
        unfold rhs
        rw [if_pos (show 8 * w + p < 64 by omega), show (8 * w + p) / 8 = w by omega, show (8 * w + p) % 8 = p by omega, if_neg (fun c => t (eg_P hw hp c).1), Int.mul_zero]
  refine Int.le_trans (isum_mono each) ?_
  rw [isum_congr (f2 := fun w => (10000 * (nPu g r : Int)) * (b2 (tdB (whoS g) r w) : Nat)) (fun w _ => Int.mul_comm _ _), isum_mul, isum_nat]
  show 10000 * (nPu g r : Int) * (nWk g r : Nat) ≤ _
  rw [Int.natCast_mul, Int.mul_assoc, Int.mul_comm (nPu g r : Int)]
  exact Int.le_refl _
theorem prod_B : ∀ a, a < 11 → ∀ b, b < 11 → a + b ≤ 10 → b ^ a * (a + 1) ^ b ≤ 24300000 := by decide +kernel
theorem area_B : ∀ a, a < 11 → ∀ b, b < 11 → a + b ≤ 10 → a * b ≤ 25 := by decide +kernel
theorem gP_slots {g : Sg} {r k : Nat} {sm : Bool} {nd : Nat → Nat} (hs : Slots g r k nd) : ∀ j, j ≤ k → gP 65 (sC g r sm k nd) j ≤ ((nPu g r ^ lsum (fun j => b2 (decide (nd j < 8))) j * (nWk g r + 1) ^ lsum (fun j => b2 (decide (8 ≤ nd j))) j : Nat) : Int)
  | 0, _ => by
    show (1 : Int) ≤ ((nPu g r ^ 0 * (nWk g r + 1) ^ 0 : Nat) : Int)
    rw [Nat.pow_zero, Nat.pow_zero]
    decide
  | j + 1, hj => by
    have ih := gP_slots hs (sm := sm) j (by omega)
    have d := gA_slot (sm := sm) hs (show j < k by omega)
    have dn := gA_nn 65 (sC g r sm k nd) j
    show gP 65 (sC g r sm k nd) j * gA 65 (sC g r sm k nd) j j ≤ ((nPu g r ^ (lsum (fun j => b2 (decide (nd j < 8))) j + b2 (decide (nd j < 8))) * (nWk g r + 1) ^ (lsum (fun j => b2 (decide (8 ≤ nd j))) j + b2 (decide (8 ≤ nd j))) : Nat) : Int)
    generalize lsum (fun j => b2 (decide (nd j < 8))) j = x at *
    generalize lsum (fun j => b2 (decide (8 ≤ nd j))) j = y at *
    have m := Int.mul_le_mul_of_nonneg_right ih dn
    refine Int.le_trans m ?_
    by_cases c : nd j < 8
    · rw [if_pos c] at d
      rw [decide_eq_true c, decide_eq_false (show ¬ 8 ≤ nd j by omega)]
      have m2 := Int.mul_le_mul_of_nonneg_left d (Int.natCast_nonneg (nPu g r ^ x * (nWk g r + 1) ^ y))
      refine Int.le_trans m2 ?_
      rw [← Int.natCast_mul]
      refine Int.ofNat_le.mpr (Nat.le_of_eq ?_)
      show nPu g r ^ x * (nWk g r + 1) ^ y * nPu g r = nPu g r ^ (x + 1) * (nWk g r + 1) ^ y
      rw [Nat.pow_succ, Nat.mul_right_comm]
    · rw [if_neg c] at d
      rw [decide_eq_false c, decide_eq_true (show 8 ≤ nd j by omega)]
      have m2 := Int.mul_le_mul_of_nonneg_left d (Int.natCast_nonneg (nPu g r ^ x * (nWk g r + 1) ^ y))
      refine Int.le_trans m2 ?_
      have ec : (nWk g r : Int) + 1 = ((nWk g r + 1 : Nat) : Int) := by omega
      rw [ec, ← Int.natCast_mul]
      refine Int.ofNat_le.mpr (Nat.le_of_eq ?_)
      show nPu g r ^ x * (nWk g r + 1) ^ y * (nWk g r + 1) = nPu g r ^ x * (nWk g r + 1) ^ (y + 1)
      rw [Nat.pow_succ, Nat.mul_assoc]
theorem sys_ok {g : Sg} (hg : Wf g) {r k : Nat} {sm : Bool} {nd : Nat → Nat} (hr : r < 16) (hs : Slots g r k nd) (hc : nWk g r + nPu g r ≤ 10) (hb : 1 ≤ nPu g r) (hz : (∃ z0, Tied (whoS g) r z0 ∧ ∀ j, j < k → nd j ≠ z0) ∨ (sm = true ∧ ∃ p0, p0 < 8 ∧ Tied (whoS g) r (8 + p0))) : Sys k 65 (sC g r sm k nd) := by
  have hk := slots_k hs
  refine ⟨by omega, sys_held hr hs (by rw [nWP]; exact hc) hz, fun i hi => ?_, ?_, ?_⟩
  · have := gA_slot (sm := sm) hs hi
    split at this <;> omega
  · refine Int.le_trans (gA_rhs hg) ?_
    have := area_B (nWk g r) (by omega) (nPu g r) (by omega) hc
    omega
  · refine Int.le_trans (gP_slots hs k (Nat.le_refl _)) ?_
    have p1 : nPu g r ^ lsum (fun j => b2 (decide (nd j < 8))) k ≤ nPu g r ^ nWk g r := Nat.pow_le_pow_right hb (slots_w hs)
    have p2 : (nWk g r + 1) ^ lsum (fun j => b2 (decide (8 ≤ nd j))) k ≤ (nWk g r + 1) ^ nPu g r := Nat.pow_le_pow_right (by omega) (slots_p hs)
    have p3 := Nat.mul_le_mul p1 p2
    have p4 := prod_B (nWk g r) (by omega) (nPu g r) (by omega) hc
    exact Int.ofNat_le.mpr (Nat.le_trans p3 p4)
