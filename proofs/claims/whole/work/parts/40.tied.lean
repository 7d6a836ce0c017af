/-! ===== what hangs together: works 0..7, pupils 8..15 ===== -/
def ed (m : Nat → Nat) (x y : Nat) : Prop := x < 8 ∧ 8 ≤ y ∧ y < 16 ∧ (m x).testBit (y - 8) = true
def Tied (m : Nat → Nat) (x y : Nat) : Prop := ∀ C : Nat → Prop, (∀ a b, ed m a b → (C a ↔ C b)) → (C x ↔ C y)
theorem Tied.rf (m : Nat → Nat) (x : Nat) : Tied m x x := fun _ _ => Iff.rfl
theorem Tied.sy {m : Nat → Nat} {x y : Nat} (h : Tied m x y) : Tied m y x := fun C hC => (h C hC).symm
theorem Tied.tr {m : Nat → Nat} {x y z : Nat} (h : Tied m x y) (h2 : Tied m y z) : Tied m x z := fun C hC => (h C hC).trans (h2 C hC)
theorem Tied.ed {m : Nat → Nat} {x y : Nat} (h : ed m x y) : Tied m x y := fun _ hC => hC x y h
theorem Tied.wp {m : Nat → Nat} {w p : Nat} (hw : w < 8) (hp : p < 8) (h : (m w).testBit p = true) : Tied m w (8 + p) := Tied.ed ⟨hw, by omega, by omega, by rw [show 8 + p - 8 = p by omega]; exact h⟩
theorem Tied.lt {m : Nat → Nat} {x y : Nat} (hx : x < 16) (h : Tied m x y) : y < 16 := (h (fun z => z < 16) (fun a b e => ⟨fun _ => e.2.2.1, fun _ => by have := e.1; omega⟩)).mp hx
/-- a work with no marker stands alone -/
theorem Tied.lone {m : Nat → Nat} {x y : Nat} (hx : m x = 0) (h8 : x < 8) (h : Tied m x y) : y = x := (h (fun z => z = x) (fun a b e => ⟨fun z => by
    subst z
    obtain ⟨_, _, _, e4⟩ := e
    rw [hx] at e4
    simp at e4, fun z => by
    obtain ⟨_, e2, _, _⟩ := e
    omega⟩)).mp rfl
theorem Tied.loneP {m : Nat → Nat} {p y : Nat} (hp : p < 8) (hx : ∀ w, w < 8 → (m w).testBit p = false) (h : Tied m (8 + p) y) : y = 8 + p := (h (fun z => z = 8 + p) (fun a b e => ⟨fun z => by
    obtain ⟨e1, e2, _, e4⟩ := e
    omega, fun z => by
    obtain ⟨e1, e2, _, e4⟩ := e
    subst z
    rw [show 8 + p - 8 = p by omega, hx a e1] at e4
    exact absurd e4 (by decide)⟩)).mp rfl
noncomputable def tdB (m : Nat → Nat) (x y : Nat) : Bool := @decide (Tied m x y) (Classical.propDecidable _)
theorem tdB_t {m : Nat → Nat} {x y : Nat} : tdB m x y = true ↔ Tied m x y := @decide_eq_true_iff _ (Classical.propDecidable _)
noncomputable def labS (m : Nat → Nat) (x : Nat) : Nat := fstW (fun y => tdB m x y) 16
theorem labS_spec {m : Nat → Nat} {x : Nat} (hx : x < 16) : labS m x ≤ x ∧ Tied m x (labS m x) ∧ ∀ y, Tied m x y → labS m x ≤ y := by
  obtain ⟨a, b, c⟩ := fstW_spec (pr := fun y => tdB m x y) (k := 16) ⟨x, hx, tdB_t.mpr (Tied.rf m x)⟩
  have c2 : ∀ y, Tied m x y → labS m x ≤ y := fun y hy => by
    rcases Nat.lt_or_ge y (labS m x) with z | z
    · have := c y z
      rw [tdB_t.mpr hy] at this
      exact absurd this (by decide)
    · exact z
  exact ⟨c2 x (Tied.rf m x), tdB_t.mp b, c2⟩
theorem labS_iff {m : Nat → Nat} {x y : Nat} (hx : x < 16) (hy : y < 16) : labS m x = labS m y ↔ Tied m x y := by
  obtain ⟨_, x2, x3⟩ := labS_spec (m := m) hx
  obtain ⟨_, y2, y3⟩ := labS_spec (m := m) hy
  refine ⟨fun e => x2.tr (by rw [e]; exact y2.sy), fun h => ?_⟩
  have := x3 _ (h.tr y2)
  have := y3 _ (h.sy.tr x2)
  omega
theorem labS_lab {m : Nat → Nat} {x : Nat} (hx : x < 16) : labS m (labS m x) = labS m x := by
  obtain ⟨x1, x2, x3⟩ := labS_spec (m := m) hx
  exact (labS_iff (by omega) hx).mpr x2.sy
/-- labels that are sound, and keep every tie, are the least ones -/
def LabOk (m : Nat → Nat) (lab : Nat → Nat) : Prop := (∀ x, x < 16 → lab x ≤ x) ∧ (∀ x, x < 16 → lab (lab x) = lab x) ∧ (∀ x y, x < 16 → y < 16 → lab x = lab y → Tied m x y)
theorem lab_is {m : Nat → Nat} {lab : Nat → Nat} (h : LabOk m lab) (he : ∀ a b, ed m a b → lab a = lab b) {x : Nat} (hx : x < 16) : lab x = labS m x := by
  obtain ⟨h1, h2, h3⟩ := h
  obtain ⟨x1, x2, x3⟩ := labS_spec (m := m) hx
  have l1 := h1 x hx
  have t := h3 x (lab x) hx (by omega) (h2 x hx).symm
  have a := x3 _ t
  have e := (x2 (fun z => z < 16 → lab z = lab x) (fun a b e => ⟨fun q _ => by rw [← he a b e]; exact q (by have := e.1; omega), fun q _ => by rw [he a b e]; exact q e.2.2.1⟩)).mp (fun _ => rfl) (by omega)
  have := h1 (labS m x) (by omega)
  omega
theorem lab_join {m : Nat → Nat} {lab : Nat → Nat} (h : LabOk m lab) {x y hi lo : Nat} (hx : x < 16) (hy : y < 16) (t : Tied m x y) (hc : (hi = lab x ∧ lo = lab y) ∨ (hi = lab y ∧ lo = lab x)) (hle : lo ≤ hi) : LabOk m (fun z => if lab z = hi then lo else lab z) ∧ (fun z => if lab z = hi then lo else lab z) x = (fun z => if lab z = hi then lo else lab z) y := by
  obtain ⟨h1, h2, h3⟩ := h
  have lx := h1 x hx
  have ly := h1 y hy
  have hlo : lab lo = lo ∧ lo < 16 := by rcases hc with ⟨a, b⟩ | ⟨a, b⟩ <;> subst b <;> exact ⟨h2 _ (by assumption), by omega⟩
  have hhi : hi < 16 := by rcases hc with ⟨a, b⟩ | ⟨a, b⟩ <;> subst a <;> omega
  -- what bears either label is tied to x
  have q : ∀ z, z < 16 → (lab z = hi ∨ lab z = lo) → Tied m x z := fun z hz c => by
    rcases hc with ⟨a, b⟩ | ⟨a, b⟩ <;> subst a <;> subst b <;> rcases c with c | c
    · exact h3 x z hx hz c.symm
    · exact t.tr (h3 y z hy hz c.symm)
    · exact t.tr (h3 y z hy hz c.symm)
    · exact h3 x z hx hz c.symm
  refine ⟨⟨fun z hz => ?_, fun z hz => ?_, fun u v hu hv => ?_⟩, ?_⟩
  · have := h1 z hz
    show (if lab z = hi then lo else lab z) ≤ z
    split <;> omega
  · show (if lab (if lab z = hi then lo else lab z) = hi then lo else lab (if lab z = hi then lo else lab z)) = if lab z = hi then lo else lab z
    by_cases c : lab z = hi
    · rw [if_pos c, hlo.1]
      split <;> rfl
    · rw [if_neg c, h2 z hz, if_neg c]
  · show (if lab u = hi then lo else lab u) = (if lab v = hi then lo else lab v) → _
    by_cases cu : lab u = hi <;> by_cases cv : lab v = hi
    · intro _; exact (q u hu (Or.inl cu)).sy.tr (q v hv (Or.inl cv))
    · rw [if_pos cu, if_neg cv]
      intro e; exact (q u hu (Or.inl cu)).sy.tr (q v hv (Or.inr e.symm))
    · rw [if_neg cu, if_pos cv]
      intro e; exact (q u hu (Or.inr e)).sy.tr (q v hv (Or.inl cv))
    · rw [if_neg cu, if_neg cv]
      exact h3 u v hu hv
  · show (if lab x = hi then lo else lab x) = if lab y = hi then lo else lab y
    rcases hc with ⟨a, b⟩ | ⟨a, b⟩
    · rw [if_pos a.symm]
      split <;> omega
    · rw [if_pos a.symm]
      split <;> omega
/-! the sets of one piece -/
def mOk (m : Nat → Nat) (n : Nat) : Prop := n ≤ 8 ∧ (∀ w, n ≤ w → m w = 0) ∧ (∀ w p, (m w).testBit p = true → p < n) ∧ ∀ w, m w < 256
noncomputable def cW (m : Nat → Nat) (n r : Nat) : Nat := msk (fun v => tdB m r v) n
noncomputable def cM (m : Nat → Nat) (n r : Nat) : Nat := msk (fun p => tdB m r (8 + p)) n
theorem cW_bit {m : Nat → Nat} {n r v : Nat} : (cW m n r).testBit v = true ↔ v < n ∧ Tied m r v := by
  unfold cW
  rw [msk_bit, Bool.and_eq_true, decide_eq_true_iff, tdB_t]
theorem cM_bit {m : Nat → Nat} {n r p : Nat} : (cM m n r).testBit p = true ↔ p < n ∧ Tied m r (8 + p) := by
  unfold cM
  rw [msk_bit, Bool.and_eq_true, decide_eq_true_iff, tdB_t]
theorem cW_lt {m : Nat → Nat} {n r : Nat} (h : n ≤ 8) : cW m n r < 256 := msk_lt _ h
theorem cM_lt {m : Nat → Nat} {n r : Nat} (h : n ≤ 8) : cM m n r < 256 := msk_lt _ h
def orM (m : Nat → Nat) (X : Nat) : Nat → Nat
  | 0 => 0
  | i + 1 => orM m X i ||| if X.testBit i then m i else 0
theorem orM_bit {m : Nat → Nat} {X p : Nat} : ∀ {i : Nat}, (orM m X i).testBit p = true ↔ ∃ v, v < i ∧ X.testBit v = true ∧ (m v).testBit p = true
  | 0 => by
    refine ⟨fun h => ?_, fun ⟨v, hv, _⟩ => by omega⟩
    simp [orM] at h
  | i + 1 => by
    unfold orM
    rw [Nat.testBit_or, Bool.or_eq_true, orM_bit]
    refine ⟨fun h => ?_, fun ⟨v, hv, a, b⟩ => ?_⟩
    · rcases h with ⟨v, hv, a, b⟩ | h
      · exact ⟨v, by omega, a, b⟩
      · by_cases c : X.testBit i = true
        · rw [if_pos c] at h
          exact ⟨i, by omega, c, h⟩
        · rw [if_neg c] at h
          simp at h
    · by_cases e : v = i
      · subst e
        exact Or.inr (by rw [if_pos a]; exact b)
      · exact Or.inl ⟨v, by omega, a, b⟩
theorem orM_lt {m : Nat → Nat} {X : Nat} (hm : ∀ w, m w < 256) : ∀ i, orM m X i < 256
  | 0 => by unfold orM; decide
  | i + 1 => by
    unfold orM
    refine or_lt (orM_lt hm i) ?_
    split
    · exact hm i
    · decide
def wkO (m : Nat → Nat) (n Y : Nat) : Nat := msk (fun w => !decide (m w &&& Y = 0)) n
theorem wkO_bit {m : Nat → Nat} {n Y w : Nat} : (wkO m n Y).testBit w = true ↔ w < n ∧ ∃ p, (m w).testBit p = true ∧ Y.testBit p = true := by
  unfold wkO
  rw [msk_bit, Bool.and_eq_true, decide_eq_true_iff, Bool.not_eq_true', decide_eq_false_iff_not]
  refine and_congr_right (fun _ => ⟨fun h => ?_, fun ⟨p, a, b⟩ e => ?_⟩)
  · obtain ⟨p, hp⟩ := Nat.exists_testBit_of_ne_zero h
    rw [Nat.testBit_and, Bool.and_eq_true] at hp
    exact ⟨p, hp⟩
  · have : (m w &&& Y).testBit p = true := by rw [Nat.testBit_and, a, b]; rfl
    rw [e] at this
    simp at this
theorem wider_in {m : Nat → Nat} {n X r : Nat} (ho : mOk m n) (h : ∀ v, X.testBit v = true → v < n ∧ Tied m r v) : ∀ v, (wkO m n (orM m X n) ||| X).testBit v = true → v < n ∧ Tied m r v := by
  intro v hv
  rw [Nat.testBit_or, Bool.or_eq_true] at hv
  rcases hv with hv | hv
  · obtain ⟨a, p, b, c⟩ := wkO_bit.mp hv
    obtain ⟨u, hu, d, e⟩ := orM_bit.mp c
    have hp := ho.2.2.1 v p b
    have h8 := ho.1
    exact ⟨a, ((h u d).2.tr (Tied.wp (by omega) (by omega) e)).tr (Tied.wp (by omega) (by omega) b).sy⟩
  · exact h v hv
theorem wider_fix {m : Nat → Nat} {n X r : Nat} (ho : mOk m n) (hX : X < 256) (h : ∀ v, X.testBit v = true → v < n ∧ Tied m r v) (hr : X.testBit r = true) (hf : wkO m n (orM m X n) ||| X = X) : X = cW m n r := by
  refine set_ext hX (cW_lt ho.1) (fun v hv => ?_)
  have key : Tied m r v → X.testBit v = true := fun t => (t (fun z => (z < 8 → X.testBit z = true) ∧ (8 ≤ z → z < 16 → (orM m X n).testBit (z - 8) = true)) (fun a b e => by
    obtain ⟨e1, e2, e3, e4⟩ := e
    refine ⟨fun q => ⟨fun z => by omega, fun _ _ => ?_⟩, fun q => ⟨fun _ => ?_, fun z => by omega⟩⟩
    · have qa := q.1 e1
      exact orM_bit.mpr ⟨a, (h a qa).1, qa, e4⟩
    · have qb := q.2 e2 e3
      have han : a < n := by
        rcases Nat.lt_or_ge a n with z | z
        · exact z
        · rw [ho.2.1 a z] at e4
          simp at e4
      have : (wkO m n (orM m X n)).testBit a = true := wkO_bit.mpr ⟨han, b - 8, e4, qb⟩
      have h2 : (wkO m n (orM m X n) ||| X).testBit a = true := by rw [Nat.testBit_or, this]; rfl
      rw [hf] at h2
      exact h2)).mp ⟨fun _ => hr, fun z => by have := (h r hr).1; have := ho.1; omega⟩ |>.1 hv
  cases e : (cW m n r).testBit v with
  | true => exact key (cW_bit.mp e).2
  | false =>
    cases e2 : X.testBit v with
    | false => rfl
    | true =>
      rw [cW_bit.mpr (h v e2)] at e
      exact absurd e (by decide)
theorem cM_or {m : Nat → Nat} {n r : Nat} (ho : mOk m n) (hr : r < n) : orM m (cW m n r) n = cM m n r := by
  refine set_ext (orM_lt ho.2.2.2 n) (cM_lt ho.1) (fun p hp => ?_)
  have h8 := ho.1
  rw [Bool.eq_iff_iff, orM_bit, cM_bit]
  refine ⟨fun ⟨v, hv, a, b⟩ => ⟨ho.2.2.1 v p b, (cW_bit.mp a).2.tr (Tied.wp (by omega) (by omega) b)⟩, fun ⟨a, t⟩ => ?_⟩
  by_cases c : ∃ v, v < 8 ∧ (m v).testBit p = true
  · obtain ⟨v, hv, b⟩ := c
    have hvn : v < n := by
      rcases Nat.lt_or_ge v n with z | z
      · exact z
      · rw [ho.2.1 v z] at b
        simp at b
    exact ⟨v, hvn, cW_bit.mpr ⟨hvn, t.tr (Tied.wp (by omega) (by omega) b).sy⟩, b⟩
  · have := Tied.loneP hp (fun w hw => by
      cases e : (m w).testBit p with
      | false => rfl
      | true => exact absurd ⟨w, hw, e⟩ c) t.sy
    omega
/-! counting members -/
theorem csum_mono {X Y : Nat} (h : ∀ v, X.testBit v = true → Y.testBit v = true) : ∀ i, csum (fun _ => 1) X i ≤ csum (fun _ => 1) Y i
  | 0 => Nat.le_refl _
  | i + 1 => by
    have := csum_mono h i
    show csum (fun _ => 1) X i + (if X.testBit i then 1 else 0) ≤ csum (fun _ => 1) Y i + (if Y.testBit i then 1 else 0)
    by_cases c : X.testBit i = true
    · rw [if_pos c, if_pos (h i c)]; omega
    · rw [if_neg c]; omega
theorem csum_more {X Y w : Nat} (h : ∀ v, X.testBit v = true → Y.testBit v = true) (hx : X.testBit w = false) (hy : Y.testBit w = true) : ∀ i, w < i → csum (fun _ => 1) X i < csum (fun _ => 1) Y i
  | 0, hi => by omega
  | i + 1, hi => by
    show csum (fun _ => 1) X i + (if X.testBit i then 1 else 0) < csum (fun _ => 1) Y i + (if Y.testBit i then 1 else 0)
    by_cases e : w = i
    · subst e
      have := csum_mono h w
      rw [hx, hy]
      simp
      omega
    · have := csum_more h hx hy i (by omega)
      by_cases c : X.testBit i = true
      · rw [if_pos c, if_pos (h i c)]; omega
      · rw [if_neg c]; omega
theorem csum_1 {X w : Nat} (h : X.testBit w = true) : ∀ i, w < i → 1 ≤ csum (fun _ => 1) X i := fun i hi => by
  have := csum_more (X := 0) (Y := X) (w := w) (fun v hv => by simp at hv) (by simp) h i hi
  omega
theorem csum_le1 (X : Nat) (i : Nat) : csum (fun _ => 1) X i ≤ i := by
  have := csum_le (f := fun _ => 1) (c := 1) (fun _ => Nat.le_refl _) X i
  omega
theorem ne_bit {X Y : Nat} (hX : X < 256) (hY : Y < 256) (h : ∀ v, X.testBit v = true → Y.testBit v = true) (hne : Y ≠ X) : ∃ w, w < 8 ∧ X.testBit w = false ∧ Y.testBit w = true := by
  refine Classical.byContradiction (fun c => hne (set_ext hY hX (fun i hi => ?_)))
  cases e : X.testBit i with
  | true => exact h i e
  | false =>
    cases e2 : Y.testBit i with
    | false => rfl
    | true => exact absurd ⟨i, hi, e, e2⟩ c
/-! roots -/
noncomputable def rtB (m : Nat → Nat) (w : Nat) : Bool := decide (labS m w = w) && !decide (m w = 0)
noncomputable def rtc (m : Nat → Nat) : Nat → Nat
  | 0 => 0
  | i + 1 => rtc m i + if rtB m i then 1 else 0
theorem rtc_le (m : Nat → Nat) : ∀ i, rtc m i ≤ i
  | 0 => Nat.le_refl _
  | i + 1 => by
    have := rtc_le m i
    unfold rtc
    split <;> omega
theorem rtc_mono {m : Nat → Nat} {i : Nat} : ∀ {j : Nat}, i ≤ j → rtc m i ≤ rtc m j
  | 0, h => by
    have e : i = 0 := by omega
    subst e
    exact Nat.le_refl _
  | j + 1, h => by
    by_cases e : i = j + 1
    · subst e; exact Nat.le_refl _
    · have := rtc_mono (m := m) (i := i) (j := j) (by omega)
      show rtc m i ≤ rtc m j + _
      omega
theorem rtc_lt {m : Nat → Nat} {r j : Nat} (h : rtB m r = true) (hj : r < j) : rtc m r < rtc m j := by
  have := rtc_mono (m := m) (i := r + 1) (j := j) hj
  have e : rtc m (r + 1) = rtc m r + 1 := by
    show rtc m r + _ = _
    rw [if_pos h]
  omega
theorem rtc_inj {m : Nat → Nat} {r s : Nat} (hr : rtB m r = true) (hs : rtB m s = true) (e : rtc m r = rtc m s) : r = s := by
  rcases Nat.lt_or_ge r s with z | z
  · have := rtc_lt hr z; omega
  · rcases Nat.lt_or_ge s r with y | y
    · have := rtc_lt hs y; omega
    · omega
theorem rtc_at {m : Nat → Nat} {k : Nat} : ∀ {i : Nat}, k < rtc m i → ∃ r, r < i ∧ rtB m r = true ∧ rtc m r = k
  | 0, h => by exact absurd h (Nat.not_lt_zero _)
  | i + 1, h => by
    by_cases c : k < rtc m i
    · obtain ⟨r, a, b, d⟩ := rtc_at c
      exact ⟨r, by omega, b, d⟩
    · have h2 : k < rtc m i + if rtB m i then 1 else 0 := h
      by_cases e : rtB m i = true
      · rw [if_pos e] at h2
        exact ⟨i, by omega, e, by omega⟩
      · rw [if_neg e] at h2
        omega
theorem rtB_t {m : Nat → Nat} {w : Nat} : rtB m w = true ↔ labS m w = w ∧ m w ≠ 0 := by
  unfold rtB
  rw [Bool.and_eq_true, decide_eq_true_iff, Bool.not_eq_true', decide_eq_false_iff_not]
/-- the root of a work that was marked, or of a pupil who marked -/
theorem root_of {m : Nat → Nat} {n x y : Nat} (ho : mOk m n) (hx : x < 16) (t : Tied m x y) (hne : x ≠ y) : labS m x < n ∧ rtB m (labS m x) = true := by
  obtain ⟨a, b, c⟩ := labS_spec (m := m) hx
  have h8 := ho.1
  -- an edge at x
  have hy := t.lt hx
  have l8 : labS m x < 8 := by
    rcases Nat.lt_or_ge (labS m x) 8 with z | z
    · exact z
    · exfalso
      -- x is a pupil; someone's work
      have hp : ∃ w, w < 8 ∧ (m w).testBit (x - 8) = true := Classical.byContradiction (fun q => by
        have := Tied.loneP (m := m) (p := x - 8) (y := y) (by omega) (fun w hw => by
          cases e : (m w).testBit (x - 8) with
          | false => rfl
          | true => exact absurd ⟨w, hw, e⟩ q) (by rw [show 8 + (x - 8) = x by omega]; exact t)
        omega)
      obtain ⟨w, hw, e⟩ := hp
      have := c w (by
        have := (Tied.wp (m := m) hw (show x - 8 < 8 by omega) e).sy
        rw [show 8 + (x - 8) = x by omega] at this
        exact this)
      omega
  have hm : m (labS m x) ≠ 0 := fun e => by
    have h1 := Tied.lone e l8 b.sy
    have h2 := Tied.lone e l8 (b.sy.tr t)
    omega
  refine ⟨?_, rtB_t.mpr ⟨labS_lab hx, hm⟩⟩
  rcases Nat.lt_or_ge (labS m x) n with z | z
  · exact z
  · exact absurd (ho.2.1 _ z) hm
theorem some_marker {m : Nat → Nat} {n w : Nat} (ho : mOk m n) (h : m w ≠ 0) : ∃ p, p < n ∧ (m w).testBit p = true := by
  obtain ⟨p, hp⟩ := Nat.exists_testBit_of_ne_zero h
  exact ⟨p, ho.2.2.1 w p hp, hp⟩
theorem root_w {m : Nat → Nat} {n w : Nat} (ho : mOk m n) (hw : w < n) (h : m w ≠ 0) : labS m w < n ∧ rtB m (labS m w) = true := by
  obtain ⟨p, hp, e⟩ := some_marker ho h
  have h8 := ho.1
  exact root_of ho (by omega) (Tied.wp (by omega) (show p < 8 by omega) e) (by omega)
theorem root_p {m : Nat → Nat} {n w p : Nat} (ho : mOk m n) (hw : w < n) (h : (m w).testBit p = true) : labS m (8 + p) < n ∧ rtB m (labS m (8 + p)) = true := by
  have h8 := ho.1
  have hp := ho.2.2.1 w p h
  exact root_of ho (by omega) (Tied.wp (by omega) (show p < 8 by omega) h).sy (by omega)
/-- how many nodes bear a label -/
noncomputable def szS (m : Nat → Nat) (r : Nat) : Nat := lsum (fun z => if labS m z = r then 1 else 0) 16
theorem lsum_split (f : Nat → Nat) (a : Nat) : ∀ b, lsum f (a + b) = lsum f a + lsum (fun i => f (a + i)) b
  | 0 => rfl
  | b + 1 => by
    show lsum f (a + b) + f (a + b) = lsum f a + (lsum (fun i => f (a + i)) b + f (a + b))
    rw [lsum_split f a b]
    omega
theorem csum_lsum (X : Nat) : ∀ i, csum (fun _ => 1) X i = lsum (fun v => if X.testBit v then 1 else 0) i
  | 0 => rfl
  | i + 1 => by
    show csum (fun _ => 1) X i + _ = lsum _ i + _
    rw [csum_lsum X i]
theorem szS_eq {m : Nat → Nat} {n r : Nat} (ho : mOk m n) (hr : r < n) (hl : labS m r = r) (hm : m r ≠ 0) : szS m r = csum (fun _ => 1) (cW m n r) 8 + csum (fun _ => 1) (cM m n r) 8 := by
  have h8 := ho.1
  unfold szS
  rw [show (16 : Nat) = 8 + 8 from rfl, lsum_split, csum_lsum, csum_lsum]
  have lone : ∀ z, n ≤ z → z < 8 → ¬ Tied m r z := fun z hz hz8 t => by
    have := Tied.lone (ho.2.1 z hz) hz8 t.sy
    omega
  have loneP : ∀ p, n ≤ p → p < 8 → ¬ Tied m r (8 + p) := fun p hp hp8 t => by
    have := Tied.loneP hp8 (fun w hw => by
      cases e : (m w).testBit p with
      | false => rfl
      | true => have := ho.2.2.1 w p e; omega) t.sy
    omega
  congr 1
  · refine lsum_congr (fun v hv => ?_)
    by_cases t : Tied m r v
    · rw [if_pos (by rw [← hl]; exact ((labS_iff (by omega) (by omega)).mpr t).symm), if_pos (cW_bit.mpr ⟨?_, t⟩)]
      rcases Nat.lt_or_ge v n with z | z
      · exact z
      · exact absurd t (lone v z hv)
    · rw [if_neg (fun e => t ((labS_iff (by omega) (by omega)).mp (by rw [hl, e]))), if_neg (fun e => t (cW_bit.mp e).2)]
  · refine lsum_congr (fun p hp => ?_)
    show (if labS m (8 + p) = r then 1 else 0) = _
    by_cases t : Tied m r (8 + p)
    · rw [if_pos (by rw [← hl]; exact ((labS_iff (by omega) (by omega)).mpr t).symm), if_pos (cM_bit.mpr ⟨?_, t⟩)]
      rcases Nat.lt_or_ge p n with z | z
      · exact z
      · exact absurd t (loneP p z hp)
    · rw [if_neg (fun e => t ((labS_iff (by omega) (by omega)).mp (by rw [hl, e]))), if_neg (fun e => t (cM_bit.mp e).2)]
theorem lsum_le1 {f : Nat → Nat} (h : ∀ i, f i ≤ 1) : ∀ n, lsum f n ≤ n
  | 0 => Nat.le_refl _
  | n + 1 => by
    have := lsum_le1 h n
    have := h n
    show lsum f n + f n ≤ n + 1
    omega
theorem lsum_ge {f : Nat → Nat} {i : Nat} : ∀ {n : Nat}, i < n → f i ≤ lsum f n
  | 0, h => by omega
  | n + 1, h => by
    show f i ≤ lsum f n + f n
    by_cases e : i = n
    · subst e; omega
    · have := lsum_ge (f := f) (i := i) (n := n) (by omega)
      omega
theorem lsum_ge2 {f : Nat → Nat} {i j : Nat} (hij : i < j) : ∀ {n : Nat}, j < n → f i + f j ≤ lsum f n
  | 0, h => by omega
  | n + 1, h => by
    show f i + f j ≤ lsum f n + f n
    by_cases e : j = n
    · subst e
      have := lsum_ge (f := f) (i := i) (n := j) (by omega)
      omega
    · have := lsum_ge2 (f := f) hij (n := n) (by omega)
      omega
theorem lsum_one1 {f : Nat → Nat} {i : Nat} (h : ∀ j, j ≠ i → f j = 0) : ∀ n, lsum f n ≤ f i
  | 0 => Nat.zero_le _
  | n + 1 => by
    show lsum f n + f n ≤ f i
    by_cases e : n = i
    · subst e
      have : ∀ k, k ≤ n → lsum f k = 0 := fun k => by
        induction k with
        | zero => intro _; rfl
        | succ k ih => intro hk; show lsum f k + f k = 0; rw [ih (by omega), h k (by omega)]
      rw [this n (Nat.le_refl _)]
      omega
    · have := lsum_one1 h n
      rw [h n e]
      omega
/-- more than one node bears the label of a node exactly if the node is tied to another -/
theorem szS_root {m : Nat → Nat} {n r : Nat} (ho : mOk m n) (hr : r < 16) (hl : labS m r = r) : (szS m r ≤ 1) ↔ ¬ (r < n ∧ m r ≠ 0) := by
  have h8 := ho.1
  refine ⟨fun h ⟨a, b⟩ => ?_, fun h => ?_⟩
  · obtain ⟨p, hp, e⟩ := some_marker ho b
    have t : labS m (8 + p) = r := by rw [← hl]; exact ((labS_iff (by omega) (by omega)).mpr (Tied.wp (by omega) (show p < 8 by omega) e)).symm
    have := lsum_ge2 (f := fun z => if labS m z = r then 1 else 0) (i := r) (j := 8 + p) (by omega) (n := 16) (by omega)
    unfold szS at h
    simp only [hl, t, if_true] at this
    omega
  · have alone : ∀ z, z < 16 → z ≠ r → labS m z ≠ r := fun z hz hne e => by
      have t := (labS_iff hr hz).mp (by rw [hl, e])
      have := root_of ho hr t (fun q => hne q.symm)
      rw [hl] at this
      exact h ⟨this.1, (rtB_t.mp this.2).2⟩
    have : szS m r = lsum (fun z => if z = r then 1 else 0) 16 := lsum_congr (fun z hz => by
      by_cases e : z = r
      · subst e; rw [if_pos hl, if_pos rfl]
      · rw [if_neg (alone z hz e), if_neg e])
    rw [this]
    have := lsum_one1 (f := fun z => if z = r then 1 else 0) (i := r) (fun j hj => if_neg hj) 16
    simp only [if_true] at this
    exact this
theorem wbc_256 : ∀ x, x < 256 → wbc (nI x) = nI (csum (fun _ => 1) x 8) := by decide +kernel
