/-! ===== one answer ===== -/
/-- what is left of a mark, times d -/
def rsd (g : Sg) (d : Int) (N : Nat → Int) (w p : Nat) : Int := (g.2.2.2.1 p w).toInt * d - N w - N (8 + p)
noncomputable def ind (b : Bool) (x : Int) : Int := if b = true then x else 0
/-- numbers over d that are the worths and leans of a piece -/
def NSol (g : Sg) (r : Nat) (d : Int) (N : Nat → Int) : Prop := 0 < d ∧ (∀ w, w < 8 → tdB (whoS g) r w = true → g.2.2.2.2 w ≠ -1 → N w = stf g w * d) ∧ (∀ w, w < 8 → tdB (whoS g) r w = true → g.2.2.2.2 w = -1 → isum (fun p => ind (eg g r w p) (rsd g d N w p)) 8 = 0) ∧ (∀ p, p < 8 → isum (fun w => ind (eg g r w p) (rsd g d N w p)) 8 = 0) ∧ ((∀ w, w < 8 → tdB (whoS g) r w = true → g.2.2.2.2 w = -1) → isum (fun p => ind (tdB (whoS g) r (8 + p)) (N (8 + p))) 8 = 0)
theorem ind_mul (c : Int) (b : Bool) (x : Int) : ind b (c * x) = c * ind b x := by
  unfold ind
  split
  · rfl
  · exact (Int.mul_zero c).symm
theorem ind_sub (b : Bool) (x y : Int) : ind b (x - y) = ind b x - ind b y := by
  unfold ind
  split <;> rfl
theorem isum_sub (f f2 : Nat → Int) (n : Nat) : isum (fun i => f i - f2 i) n = isum f n - isum f2 n := by
  have := isum_add f (fun i => (-1) * f2 i) n
  rw [isum_mul] at this
  rw [isum_congr (f2 := fun i => f i + (-1) * f2 i) (fun i _ => by omega), this]
  omega
theorem nsol_u {g : Sg} {r : Nat} (hr : r < 16) (hc : nWk g r + nPu g r ≤ 10) {p0 : Nat} (hp0 : p0 < 8) (ht0 : Tied (whoS g) r (8 + p0)) {d d2 : Int} {N N2 : Nat → Int} (h : NSol g r d N) (h2 : NSol g r d2 N2) {z : Nat} (hz : Tied (whoS g) r z) : N z * d2 = N2 z * d := by
  obtain ⟨a1, a2, a3, a4, a5⟩ := h
  obtain ⟨b1, b2', b3, b4, b5⟩ := h2
  let D : Nat → Int := fun z => d2 * N z - d * N2 z
  have dif : ∀ w p, D w + D (8 + p) = d * rsd g d2 N2 w p - d2 * rsd g d N w p := fun w p => by
    show (d2 * N w - d * N2 w) + (d2 * N (8 + p) - d * N2 (8 + p)) = d * ((g.2.2.2.1 p w).toInt * d2 - N2 w - N2 (8 + p)) - d2 * ((g.2.2.2.1 p w).toInt * d - N w - N (8 + p))
    rw [Int.mul_sub, Int.mul_sub, Int.mul_sub, Int.mul_sub, Int.mul_left_comm d, Int.mul_left_comm d2, Int.mul_comm d2 d]
    omega
  have row : ∀ w, w < 8 → D w * isum (fun p => ind (eg g r w p) (D w + D (8 + p))) 8 = 0 := fun w hw => by
    by_cases t : tdB (whoS g) r w = true
    · by_cases s : g.2.2.2.2 w = -1
      · have e : isum (fun p => ind (eg g r w p) (D w + D (8 + p))) 8 = d * isum (fun p => ind (eg g r w p) (rsd g d2 N2 w p)) 8 - d2 * isum (fun p => ind (eg g r w p) (rsd g d N w p)) 8 := by
          rw [← isum_mul, ← isum_mul, ← isum_sub]
          exact isum_congr (fun p _ => by rw [dif, ind_sub, ind_mul, ind_mul])
        rw [e, a3 w hw t s, b3 w hw t s]
        simp
      · have e : D w = 0 := by
          show d2 * N w - d * N2 w = 0
          rw [a2 w hw t s, b2' w hw t s, Int.mul_left_comm, Int.mul_left_comm d, Int.mul_comm d2 d]
          omega
        rw [e, Int.zero_mul]
    · have e : isum (fun p => ind (eg g r w p) (D w + D (8 + p))) 8 = 0 := isum_zero (fun p hp => by
        unfold ind
        rw [if_neg (fun c => t (eg_P hw hp c).1)])
      rw [e, Int.mul_zero]
  have col : ∀ p, p < 8 → D (8 + p) * isum (fun w => ind (eg g r w p) (D w + D (8 + p))) 8 = 0 := fun p hp => by
    have e : isum (fun w => ind (eg g r w p) (D w + D (8 + p))) 8 = d * isum (fun w => ind (eg g r w p) (rsd g d2 N2 w p)) 8 - d2 * isum (fun w => ind (eg g r w p) (rsd g d N w p)) 8 := by
      rw [← isum_mul, ← isum_mul, ← isum_sub]
      exact isum_congr (fun w _ => by rw [dif, ind_sub, ind_mul, ind_mul])
    rw [e, a4 p hp, b4 p hp]
    simp
  -- the squares of the edges
  have sq0 : isum (fun w => isum (fun p => ind (eg g r w p) (D w + D (8 + p)) * ind (eg g r w p) (D w + D (8 + p))) 8) 8 = 0 := by
    have e : ∀ w p, ind (eg g r w p) (D w + D (8 + p)) * ind (eg g r w p) (D w + D (8 + p)) = D w * ind (eg g r w p) (D w + D (8 + p)) + D (8 + p) * ind (eg g r w p) (D w + D (8 + p)) := fun w p => by
      unfold ind
      by_cases c : eg g r w p = true
      · rw [if_pos c, Int.add_mul]
      · rw [if_neg c]; simp
    have e1 : isum (fun w => isum (fun p => ind (eg g r w p) (D w + D (8 + p)) * ind (eg g r w p) (D w + D (8 + p))) 8) 8 = isum (fun w => isum (fun p => D w * ind (eg g r w p) (D w + D (8 + p))) 8) 8 + isum (fun w => isum (fun p => D (8 + p) * ind (eg g r w p) (D w + D (8 + p))) 8) 8 := by
      rw [← isum_add]
      refine isum_congr (fun w _ => ?_)
      rw [← isum_add]
      exact isum_congr (fun p _ => e w p)
    rw [e1, isum_comm (fun w p => D (8 + p) * ind (eg g r w p) (D w + D (8 + p))) 8 8]
    rw [isum_zero (fun w hw => by rw [isum_mul]; exact row w hw), isum_zero (fun p hp => by rw [isum_mul]; exact col p hp)]
    rfl
  let f : Nat → Int := fun e => if e < 64 then ind (eg g r (e / 8) (e % 8)) (D (e / 8) + D (8 + e % 8)) else isum (fun p => if tdB (whoS g) r (8 + p) = true then D (8 + p) else 0) 8
  have f64 : isum (fun e => f e * f e) 64 = 0 := by
    rw [show (64 : Nat) = 8 * 8 from rfl, isum_64, ← sq0]
    refine isum_congr (fun w hw => isum_congr (fun p hp => ?_))
    show (if 8 * w + p < 64 then _ else _) * (if 8 * w + p < 64 then _ else _) = _
    rw [if_pos (show 8 * w + p < 64 by omega), show (8 * w + p) / 8 = w by omega, show (8 * w + p) % 8 = p by omega]
  have edges : ∀ E, 64 ≤ E → ∀ w p, w < 8 → p < 8 → (whoS g w).testBit p = true → Tied (whoS g) r w → ∃ e, e < E ∧ f e = D w + D (8 + p) := fun E hE w p hw hp q1 q2 => by
    refine ⟨8 * w + p, by omega, ?_⟩
    show (if 8 * w + p < 64 then _ else _) = _
    rw [if_pos (show 8 * w + p < 64 by omega), show (8 * w + p) / 8 = w by omega, show (8 * w + p) % 8 = p by omega]
    unfold ind eg
    rw [q1, tdB_t.mpr q2]
    rfl
  have cnt : lsum (fun z => b2 (tdB (whoS g) r z)) 16 ≤ 10 := by rw [nWP]; exact hc
  have fin : D z * D z ≤ 0 := by
    rcases Classical.em (∃ w, w < 8 ∧ tdB (whoS g) r w = true ∧ g.2.2.2.2 w ≠ -1) with ⟨w, hw, t, s⟩ | no
    · have e : D w = 0 := by
        show d2 * N w - d * N2 w = 0
        rw [a2 w hw t s, b2' w hw t s, Int.mul_left_comm, Int.mul_left_comm d, Int.mul_comm d2 d]
        omega
      have := held_0 (X := D) (f := f) (E := 64) (tdB_t.mp t) hr e (edges 64 (Nat.le_refl _)) cnt hz
      rw [f64] at this
      omega
    · have nos : ∀ w, w < 8 → tdB (whoS g) r w = true → g.2.2.2.2 w = -1 := fun w hw t => Classical.byContradiction (fun s => no ⟨w, hw, t, s⟩)
      have s1 := a5 nos
      have s2 := b5 nos
      have fs : f 64 = 0 := by
        show (if 64 < 64 then _ else isum (fun p => if tdB (whoS g) r (8 + p) = true then D (8 + p) else 0) 8) = (0 : Int)
        rw [if_neg (by decide)]
        have e : isum (fun p => if tdB (whoS g) r (8 + p) = true then D (8 + p) else 0) 8 = d2 * isum (fun p => ind (tdB (whoS g) r (8 + p)) (N (8 + p))) 8 - d * isum (fun p => ind (tdB (whoS g) r (8 + p)) (N2 (8 + p))) 8 := by
          rw [← isum_mul, ← isum_mul, ← isum_sub]
          exact isum_congr (fun p _ => by rw [← ind_mul, ← ind_mul, ← ind_sub]; rfl)
        rw [e, s1, s2]
        simp
      have := held_S (X := D) (f := f) (E := 65) ht0 hp0 hr (edges 65 (by decide)) ⟨64, by decide, by
        show (if 64 < 64 then _ else _) = _
        rw [if_neg (by decide)]⟩ cnt hz
      have e65 : isum (fun e => f e * f e) 65 = 0 := by
        show isum (fun e => f e * f e) 64 + f 64 * f 64 = 0
        rw [f64, fs]
        rfl
      rw [e65] at this
      omega
  have dz : D z = 0 := by
    have := sq_le (x := D z) (c := 0) (by omega) (Int.le_refl _)
    omega
  have e : d2 * N z - d * N2 z = 0 := dz
  rw [Int.mul_comm (N z), Int.mul_comm (N2 z)]
  omega
