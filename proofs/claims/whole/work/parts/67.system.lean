/-! ===== the system of a piece ===== -/
/-- with the square of the sum of the leans -/
theorem held_S {m : Nat → Nat} {r p0 : Nat} {X : Nat → Int} {E : Nat} {f : Nat → Int} (h0 : Tied m r (8 + p0)) (hp0 : p0 < 8) (hr : r < 16) (hE : ∀ w p, w < 8 → p < 8 → (m w).testBit p = true → Tied m r w → ∃ e, e < E ∧ f e = X w + X (8 + p)) (hS : ∃ e, e < E ∧ f e = isum (fun p => if tdB m r (8 + p) = true then X (8 + p) else 0) 8) (hc : lsum (fun z => b2 (tdB m r z)) 16 ≤ 10) {z : Nat} (ht : Tied m r z) : X z * X z ≤ 900 * isum (fun e => f e * f e) E := by
  obtain ⟨M, a, b, c⟩ := root_ex f E
  let Y : Nat → Int := fun z => if z < 8 then X z + X (8 + p0) else X z - X (8 + p0)
  have k := hold_all (X := Y) a h0 hr (by show (if 8 + p0 < 8 then _ else _) = (0 : Int); rw [if_neg (by omega)]; omega) (fun w p h1 h2 h3 h4 => by
    obtain ⟨e, he, ee⟩ := hE w p h1 h2 h3 h4
    have q := c e he
    show -M ≤ (if w < 8 then X w + X (8 + p0) else X w - X (8 + p0)) + (if 8 + p < 8 then X (8 + p) + X (8 + p0) else X (8 + p) - X (8 + p0)) ∧ (if w < 8 then X w + X (8 + p0) else X w - X (8 + p0)) + (if 8 + p < 8 then X (8 + p) + X (8 + p0) else X (8 + p) - X (8 + p0)) ≤ M
    rw [if_pos h1, if_neg (show ¬ 8 + p < 8 by omega)]
    omega) hc
  -- the sum of the leans
  have sum : ∀ j, j ≤ 8 → ∃ q : Int, 0 ≤ q ∧ (p0 < j → 1 ≤ q) ∧ isum (fun p => if tdB m r (8 + p) = true then X (8 + p) else 0) j ≤ q * X (8 + p0) + q * (9 * M) ∧ q * X (8 + p0) - q * (9 * M) ≤ isum (fun p => if tdB m r (8 + p) = true then X (8 + p) else 0) j := by
    intro j
    induction j with
    | zero => intro _; exact ⟨0, Int.le_refl _, fun z => by omega, by rw [Int.zero_mul, Int.zero_mul]; exact Int.le_refl _, by rw [Int.zero_mul, Int.zero_mul]; exact Int.le_refl _⟩
    | succ j ih =>
      intro hj
      obtain ⟨q, q0, q1, q2, q3⟩ := ih (by omega)
      by_cases t : tdB m r (8 + j) = true
      · have kj := k (8 + j) (tdB_t.mp t)
        have kj2 : -(9 * M) ≤ X (8 + j) - X (8 + p0) ∧ X (8 + j) - X (8 + p0) ≤ 9 * M := by
          have e : Y (8 + j) = X (8 + j) - X (8 + p0) := if_neg (by omega)
          rw [e] at kj
          exact kj
        refine ⟨q + 1, by omega, fun _ => by omega, ?_, ?_⟩
        · show isum (fun p => if tdB m r (8 + p) = true then X (8 + p) else 0) j + (if tdB m r (8 + j) = true then X (8 + j) else 0) ≤ _
          rw [if_pos t, Int.add_mul, Int.add_mul]
          omega
        · show _ ≤ isum (fun p => if tdB m r (8 + p) = true then X (8 + p) else 0) j + (if tdB m r (8 + j) = true then X (8 + j) else 0)
          rw [if_pos t, Int.add_mul, Int.add_mul]
          omega
      · refine ⟨q, q0, fun hp => q1 (by
          by_cases e : p0 = j
          · subst e; exact absurd (tdB_t.mpr h0) t
          · omega), ?_, ?_⟩
        · show isum (fun p => if tdB m r (8 + p) = true then X (8 + p) else 0) j + (if tdB m r (8 + j) = true then X (8 + j) else 0) ≤ _
          rw [if_neg t]
          omega
        · show _ ≤ isum (fun p => if tdB m r (8 + p) = true then X (8 + p) else 0) j + (if tdB m r (8 + j) = true then X (8 + j) else 0)
          rw [if_neg t]
          omega
  obtain ⟨q, q0, q1, q2, q3⟩ := sum 8 (Nat.le_refl _)
  have q1' := q1 hp0
  obtain ⟨e, he, ee⟩ := hS
  have se := c e he
  rw [ee] at se
  have cb : -(10 * M) ≤ X (8 + p0) ∧ X (8 + p0) ≤ 10 * M := by
    have qm := Int.mul_le_mul_of_nonneg_right q1' a
    have e9 : q * (9 * M) = 9 * (q * M) := Int.mul_left_comm _ _ _
    constructor
    · rcases Int.lt_or_le (X (8 + p0)) (-(10 * M)) with y | y
      · have := Int.mul_lt_mul_of_pos_left y (show 0 < q by omega)
        rw [Int.mul_neg, Int.mul_left_comm] at this
        omega
      · exact y
    · rcases Int.lt_or_le (10 * M) (X (8 + p0)) with y | y
      · have := Int.mul_lt_mul_of_pos_left y (show 0 < q by omega)
        rw [Int.mul_left_comm] at this
        omega
      · exact y
  have kz := k z ht
  have xb : -(19 * M) ≤ X z ∧ X z ≤ 19 * M := by
    by_cases y : z < 8
    · have e : Y z = X z + X (8 + p0) := if_pos y
      rw [e] at kz
      omega
    · have e : Y z = X z - X (8 + p0) := if_neg y
      rw [e] at kz
      omega
  have s : X z * X z ≤ (19 * M) * (19 * M) := by
    rcases Int.le_total 0 (X z) with p | p
    · exact Int.mul_le_mul xb.2 xb.2 p (by omega)
    · have := Int.mul_le_mul (a := -(X z)) (b := -(X z)) (c := 19 * M) (d := 19 * M) (by omega) (by omega) (by omega) (by omega)
      rw [Int.neg_mul_neg] at this
      exact this
  have e2 : (19 * M) * (19 * M) = 361 * (M * M) := by rw [Int.mul_assoc, Int.mul_left_comm M, ← Int.mul_assoc]; rfl
  have nn := sq_nn M
  omega
