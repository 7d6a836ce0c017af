/-! ===== a piece holds its numbers together ===== -/
def inB (X : Nat → Int) (c : Int) (z : Nat) : Bool := decide (-c ≤ X z ∧ X z ≤ c)
theorem inB_t {X : Nat → Int} {c : Int} {z : Nat} : inB X c z = true ↔ -c ≤ X z ∧ X z ≤ c := decide_eq_true_iff
theorem hold_all {m : Nat → Nat} {r z0 : Nat} {X : Nat → Int} {M : Int} (hM : 0 ≤ M) (h0 : Tied m r z0) (hr : r < 16) (hz : X z0 = 0) (hE : ∀ w p, w < 8 → p < 8 → (m w).testBit p = true → Tied m r w → -M ≤ X w + X (8 + p) ∧ X w + X (8 + p) ≤ M) (hc : lsum (fun z => b2 (tdB m r z)) 16 ≤ 10) : ∀ z, Tied m r z → -(9 * M) ≤ X z ∧ X z ≤ 9 * M := by
  have key : ∀ d : Nat, (∀ z, Tied m r z → inB X (d * M) z = true) ∨ d + 1 ≤ lsum (fun z => b2 (tdB m r z && inB X (d * M) z)) 16 := by
    intro d
    induction d with
    | zero =>
      refine Or.inr ?_
      have := lsum_ge (f := fun z => b2 (tdB m r z && inB X (((0 : Nat) : Int) * M) z)) (i := z0) (n := 16) (h0.lt hr)
      have e : b2 (tdB m r z0 && inB X (((0 : Nat) : Int) * M) z0) = 1 := by
        rw [tdB_t.mpr h0, inB_t.mpr (by rw [hz]; simp)]
        rfl
      have t : b2 (tdB m r z0 && inB X (((0 : Nat) : Int) * M) z0) ≤ _ := this
      omega
    | succ d ih =>
      have grow : ∀ z, inB X (d * M) z = true → inB X ((d + 1 : Nat) * M) z = true := fun z hz => by
        have := inB_t.mp hz
        refine inB_t.mpr ?_
        rw [Int.natCast_add, Int.add_mul]
        omega
      rcases ih with ih | ih
      · exact Or.inl (fun z hz => grow z (ih z hz))
      · rcases Classical.em (∃ z, Tied m r z ∧ inB X (d * M) z = false ∧ inB X ((d + 1 : Nat) * M) z = true) with ⟨z, h1, h2, h3⟩ | no
        · refine Or.inr ?_
          have := lsum_less (f := fun z => b2 (tdB m r z && inB X (d * M) z)) (f2 := fun z => b2 (tdB m r z && inB X ((d + 1 : Nat) * M) z)) (j := z) (n := 16) (fun i _ => b2_le (fun q => by
            rw [Bool.and_eq_true] at q ⊢
            exact ⟨q.1, grow i q.2⟩)) (h1.lt hr) (by
            show b2 (tdB m r z && inB X (d * M) z) < b2 (tdB m r z && inB X ((d + 1 : Nat) * M) z)
            rw [h2, h3, tdB_t.mpr h1]
            decide)
          omega
        · -- the set is closed
          refine Or.inl (fun z hz' => grow z ?_)
          have st : ∀ z, Tied m r z → inB X ((d + 1 : Nat) * M) z = true → inB X (d * M) z = true := fun z a b => by
            cases e : inB X (d * M) z with
            | true => rfl
            | false => exact absurd ⟨z, a, e, b⟩ no
          have cl := (h0.sy.tr hz') (fun y => Tied m r y → inB X (d * M) y = true) (fun a b e => by
            obtain ⟨e1, e2, e3, e4⟩ := e
            have eb : b = 8 + (b - 8) := by omega
            have tab : Tied m a b := Tied.ed ⟨e1, e2, e3, e4⟩
            refine ⟨fun q tb => ?_, fun q ta => ?_⟩
            · have ta := tb.tr tab.sy
              have qa := inB_t.mp (q ta)
              have ee := hE a (b - 8) e1 (by omega) e4 ta
              rw [← eb] at ee
              refine st b tb (inB_t.mpr ?_)
              rw [Int.natCast_add, Int.add_mul]
              omega
            · have tb := ta.tr tab
              have qb := inB_t.mp (q tb)
              have ee := hE a (b - 8) e1 (by omega) e4 ta
              rw [← eb] at ee
              refine st a ta (inB_t.mpr ?_)
              rw [Int.natCast_add, Int.add_mul]
              omega)
          refine cl.mp (fun _ => inB_t.mpr ?_) hz'
          rw [hz]
          have : 0 ≤ (d : Int) * M := Int.mul_nonneg (by omega) hM
          omega
  intro z hz'
  rcases key 9 with q | q
  · exact inB_t.mp (q z hz')
  · rcases Classical.em (inB X ((9 : Nat) * M) z = true) with y | y
    · exact inB_t.mp y
    · exfalso
      have := lsum_less (f := fun z => b2 (tdB m r z && inB X ((9 : Nat) * M) z)) (f2 := fun z => b2 (tdB m r z)) (j := z) (n := 16) (fun i _ => b2_le (fun q => by rw [Bool.and_eq_true] at q; exact q.1)) (hz'.lt hr) (by
        show b2 (tdB m r z && inB X ((9 : Nat) * M) z) < b2 (tdB m r z)
        have : inB X ((9 : Nat) * M) z = false := by cases e : inB X ((9 : Nat) * M) z with | false => rfl | true => exact absurd e y
        rw [this, tdB_t.mpr hz']
        decide)
      omega
/-- the greatest of some numbers, by its square under their sum of squares -/
theorem root_ex (f : Nat → Int) : ∀ E, ∃ M : Int, 0 ≤ M ∧ M * M ≤ isum (fun e => f e * f e) E ∧ ∀ e, e < E → -M ≤ f e ∧ f e ≤ M
  | 0 => ⟨0, Int.le_refl _, Int.le_refl _, fun e he => by omega⟩
  | E + 1 => by
    obtain ⟨M, a, b, c⟩ := root_ex f E
    have s := sq_nn (f E)
    have nn : 0 ≤ isum (fun e => f e * f e) E := isum_nn (fun _ _ => sq_nn _)
    by_cases z : -M ≤ f E ∧ f E ≤ M
    · refine ⟨M, a, ?_, fun e he => ?_⟩
      · show M * M ≤ isum (fun e => f e * f e) E + f E * f E
        omega
      · by_cases y : e = E
        · rw [y]; exact z
        · exact c e (by omega)
    · rcases Int.le_total 0 (f E) with p | p
      · refine ⟨f E, p, ?_, fun e he => ?_⟩
        · show f E * f E ≤ isum (fun e => f e * f e) E + f E * f E
          omega
        · by_cases y : e = E
          · rw [y]; omega
          · have := c e (by omega)
            omega
      · refine ⟨-(f E), by omega, ?_, fun e he => ?_⟩
        · show -(f E) * -(f E) ≤ isum (fun e => f e * f e) E + f E * f E
          rw [Int.neg_mul_neg]
          omega
        · by_cases y : e = E
          · rw [y]; omega
          · have := c e (by omega)
            omega
/-- with one number 0 -/
theorem held_0 {m : Nat → Nat} {r z0 : Nat} {X : Nat → Int} {E : Nat} {f : Nat → Int} (h0 : Tied m r z0) (hr : r < 16) (hz : X z0 = 0) (hE : ∀ w p, w < 8 → p < 8 → (m w).testBit p = true → Tied m r w → ∃ e, e < E ∧ f e = X w + X (8 + p)) (hc : lsum (fun z => b2 (tdB m r z)) 16 ≤ 10) {z : Nat} (ht : Tied m r z) : X z * X z ≤ 900 * isum (fun e => f e * f e) E := by
  obtain ⟨M, a, b, c⟩ := root_ex f E
  have k := hold_all a h0 hr hz (fun w p h1 h2 h3 h4 => by
    obtain ⟨e, he, ee⟩ := hE w p h1 h2 h3 h4
    rw [← ee]
    exact c e he) hc z ht
  have s : X z * X z ≤ (9 * M) * (9 * M) := by
    rcases Int.le_total 0 (X z) with p | p
    · exact Int.mul_le_mul k.2 k.2 p (by omega)
    · have := Int.mul_le_mul (a := -(X z)) (b := -(X z)) (c := 9 * M) (d := 9 * M) (by omega) (by omega) (by omega) (by omega)
      rw [Int.neg_mul_neg] at this
      exact this
  have e : (9 * M) * (9 * M) = 81 * (M * M) := by rw [Int.mul_assoc, Int.mul_left_comm M, ← Int.mul_assoc]; rfl
  have nn := sq_nn M
  omega
