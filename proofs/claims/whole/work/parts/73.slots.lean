/-! ===== slots in the order in which they are given ===== -/
def rkc (pr : Nat → Bool) : Nat → Nat
  | 0 => 0
  | i + 1 => rkc pr i + if pr i then 1 else 0
theorem rkc_mono {pr : Nat → Bool} {i : Nat} : ∀ {j : Nat}, i ≤ j → rkc pr i ≤ rkc pr j
  | 0, h => by
    have e : i = 0 := by omega
    subst e
    exact Nat.le_refl _
  | j + 1, h => by
    by_cases e : i = j + 1
    · subst e; exact Nat.le_refl _
    · have := rkc_mono (pr := pr) (i := i) (j := j) (by omega)
      show rkc pr i ≤ rkc pr j + _
      omega
theorem rkc_le (pr : Nat → Bool) : ∀ i, rkc pr i ≤ i
  | 0 => Nat.le_refl _
  | i + 1 => by
    have := rkc_le pr i
    unfold rkc
    split <;> omega
theorem rkc_lt {pr : Nat → Bool} {r j : Nat} (h : pr r = true) (hj : r < j) : rkc pr r < rkc pr j := by
  have := rkc_mono (pr := pr) (i := r + 1) (j := j) hj
  have e : rkc pr (r + 1) = rkc pr r + 1 := by
    show rkc pr r + _ = _
    rw [if_pos h]
  omega
theorem rkc_inj {pr : Nat → Bool} {r s : Nat} (hr : pr r = true) (hs : pr s = true) (e : rkc pr r = rkc pr s) : r = s := by
  rcases Nat.lt_or_ge r s with z | z
  · have := rkc_lt hr z; omega
  · rcases Nat.lt_or_ge s r with y | y
    · have := rkc_lt hs y; omega
    · omega
theorem rkc_at {pr : Nat → Bool} {k : Nat} : ∀ {i : Nat}, k < rkc pr i → ∃ r, r < i ∧ pr r = true ∧ rkc pr r = k
  | 0, h => by exact absurd h (Nat.not_lt_zero _)
  | i + 1, h => by
    by_cases c : k < rkc pr i
    · obtain ⟨r, a, b, d⟩ := rkc_at c
      exact ⟨r, by omega, b, d⟩
    · have h2 : k < rkc pr i + if pr i then 1 else 0 := h
      by_cases e : pr i = true
      · rw [if_pos e] at h2
        exact ⟨i, by omega, e, by omega⟩
      · rw [if_neg e] at h2
        omega
/-- at which time a slot is given -/
def tmS (pr : Nat → Bool) (j : Nat) : Nat := fstW (fun t => pr t && decide (rkc pr t = j)) 16
theorem tmS_spec {pr : Nat → Bool} {j : Nat} (h : j < rkc pr 16) : tmS pr j < 16 ∧ pr (tmS pr j) = true ∧ rkc pr (tmS pr j) = j := by
  obtain ⟨r, a, b, c⟩ := rkc_at h
  obtain ⟨f1, f2, _⟩ := fstW_spec (pr := fun t => pr t && decide (rkc pr t = j)) (k := 16) ⟨r, a, by rw [b, c]; simp⟩
  have f2' : (pr (tmS pr j) && decide (rkc pr (tmS pr j) = j)) = true := f2
  rw [Bool.and_eq_true, decide_eq_true_iff] at f2'
  exact ⟨f1, f2'⟩
theorem tmS_at {pr : Nat → Bool} {t : Nat} (ht : t < 16) (h : pr t = true) : tmS pr (rkc pr t) = t := by
  have := tmS_spec (pr := pr) (j := rkc pr t) (rkc_lt h ht)
  exact rkc_inj this.2.1 h this.2.2
/-- the class's order: work 0, pupil 0, work 1, ..; the reference's: works, then pupils -/
def knX (t : Nat) : Nat := if t % 2 = 0 then t / 2 else 8 + t / 2
def tkX (z : Nat) : Nat := if z < 8 then 2 * z else 2 * (z - 8) + 1
theorem knX_tk {z : Nat} (h : z < 16) : knX (tkX z) = z ∧ tkX z < 16 := by
  unfold tkX knX
  split
  · rw [if_pos (by omega)]; omega
  · rw [if_neg (by omega)]; omega
theorem tkX_kn {t : Nat} (h : t < 16) : tkX (knX t) = t ∧ knX t < 16 := by
  unfold knX
  split
  · unfold tkX
    rw [if_pos (by omega)]; omega
  · unfold tkX
    rw [if_neg (by omega)]; omega
/-- which nodes are unknowns; sk is a pupil's node that is left out, or 16 -/
noncomputable def uB (g : Sg) (r sk z : Nat) : Bool := tdB (whoS g) r z && (!decide (z = sk) && (decide (8 ≤ z) || decide (g.2.2.2.2 z = -1)))
theorem uB_t {g : Sg} {r sk z : Nat} : uB g r sk z = true ↔ Tied (whoS g) r z ∧ z ≠ sk ∧ (8 ≤ z ∨ g.2.2.2.2 z = -1) := by
  unfold uB
  rw [Bool.and_eq_true, Bool.and_eq_true, Bool.or_eq_true, tdB_t, Bool.not_eq_true', decide_eq_false_iff_not, decide_eq_true_iff, decide_eq_true_iff]
noncomputable def ndX (g : Sg) (r : Nat) (j : Nat) : Nat := knX (tmS (fun t => uB g r 16 (knX t)) j)
noncomputable def kX (g : Sg) (r : Nat) : Nat := rkc (fun t => uB g r 16 (knX t)) 16
noncomputable def slX (g : Sg) (r z : Nat) : Nat := rkc (fun t => uB g r 16 (knX t)) (tkX z)
noncomputable def ndM (g : Sg) (r sk : Nat) (j : Nat) : Nat := tmS (fun t => uB g r sk t) j
noncomputable def kM (g : Sg) (r sk : Nat) : Nat := rkc (fun t => uB g r sk t) 16
noncomputable def slM (g : Sg) (r sk z : Nat) : Nat := rkc (fun t => uB g r sk t) z
theorem slotsX (g : Sg) (r : Nat) : Slots g r (kX g r) (ndX g r) ∧ Cover g r (kX g r) (ndX g r) 16 := by
  have sp : ∀ j, j < kX g r → _ := fun j hj => tmS_spec (pr := fun t => uB g r 16 (knX t)) hj
  refine ⟨⟨fun j hj => ?_, fun i j hi hj e => ?_⟩, fun z hz t hne hu => ?_, fun j hj => ?_⟩
  · obtain ⟨a, b, c⟩ := sp j hj
    exact ⟨(tkX_kn a).2, (uB_t.mp b).1⟩
  · obtain ⟨a, b, c⟩ := sp i hi
    obtain ⟨a2, b2, c2⟩ := sp j hj
    have e2 : tmS (fun t => uB g r 16 (knX t)) i = tmS (fun t => uB g r 16 (knX t)) j := by
      rw [← (tkX_kn a).1, ← (tkX_kn a2).1]
      exact congrArg tkX e
    rw [← c, ← c2, e2]
  · have q := knX_tk hz
    have u : (fun t => uB g r 16 (knX t)) (tkX z) = true := by
      show uB g r 16 (knX (tkX z)) = true
      rw [q.1]
      exact uB_t.mpr ⟨t, hne, hu⟩
    refine ⟨slX g r z, rkc_lt u q.2, ?_⟩
    unfold ndX slX
    rw [tmS_at q.2 u, q.1]
  · obtain ⟨a, b, c⟩ := sp j hj
    have := uB_t.mp b
    refine ⟨this.2.1, fun h8 => ?_⟩
    rcases this.2.2 with z | z
    · exact absurd h8 (by show ¬ knX (tmS (fun t => uB g r 16 (knX t)) j) < 8; omega)
    · exact z
theorem slotsM (g : Sg) (r sk : Nat) : Slots g r (kM g r sk) (ndM g r sk) ∧ Cover g r (kM g r sk) (ndM g r sk) sk := by
  have sp : ∀ j, j < kM g r sk → _ := fun j hj => tmS_spec (pr := fun t => uB g r sk t) hj
  refine ⟨⟨fun j hj => ?_, fun i j hi hj e => ?_⟩, fun z hz t hne hu => ?_, fun j hj => ?_⟩
  · obtain ⟨a, b, c⟩ := sp j hj
    exact ⟨a, (uB_t.mp b).1⟩
  · obtain ⟨a, b, c⟩ := sp i hi
    obtain ⟨a2, b2, c2⟩ := sp j hj
    have e2 : tmS (fun t => uB g r sk t) i = tmS (fun t => uB g r sk t) j := e
    rw [← c, ← c2, e2]
  · have u : (fun t => uB g r sk t) z = true := uB_t.mpr ⟨t, hne, hu⟩
    exact ⟨slM g r sk z, rkc_lt u hz, tmS_at hz u⟩
  · obtain ⟨a, b, c⟩ := sp j hj
    have := uB_t.mp b
    refine ⟨this.2.1, fun h8 => ?_⟩
    rcases this.2.2 with z | z
    · exact absurd h8 (by show ¬ tmS (fun t => uB g r sk t) j < 8; omega)
    · exact z
