/-! ===== plans, pure ===== -/
def b2 (b : Bool) : Nat := if b then 1 else 0
theorem b2_le {a b : Bool} (h : a = true → b = true) : b2 a ≤ b2 b := by
  cases a with
  | false => exact Nat.zero_le _
  | true => rw [h rfl]; exact Nat.le_refl _
theorem b2_1 (a : Bool) : b2 a ≤ 1 := by cases a <;> decide
def rowN (M : Nat → Nat → Bool) (w : Nat) : Nat := lsum (fun p => b2 (M w p)) 8
def colN (M : Nat → Nat → Bool) (p : Nat) : Nat := lsum (fun w => b2 (M w p)) 8
theorem rowN_le (M : Nat → Nat → Bool) (w : Nat) : rowN M w ≤ 8 := lsum_le1 (fun _ => b2_1 _) 8
theorem colN_le (M : Nat → Nat → Bool) (p : Nat) : colN M p ≤ 8 := lsum_le1 (fun _ => b2_1 _) 8
theorem lsum_mono {f f2 : Nat → Nat} : ∀ {n : Nat}, (∀ i, i < n → f i ≤ f2 i) → lsum f n ≤ lsum f2 n
  | 0, _ => Nat.le_refl _
  | n + 1, h => by
    have := lsum_mono (f := f) (f2 := f2) (n := n) (fun i hi => h i (by omega))
    have := h n (by omega)
    show lsum f n + f n ≤ lsum f2 n + f2 n
    omega
theorem lsum_less {f f2 : Nat → Nat} {j : Nat} : ∀ {n : Nat}, (∀ i, i < n → f i ≤ f2 i) → j < n → f j < f2 j → lsum f n < lsum f2 n
  | 0, _, h, _ => by omega
  | n + 1, h, hj, hl => by
    have a := h n (by omega)
    show lsum f n + f n < lsum f2 n + f2 n
    by_cases e : j = n
    · subst e
      have := lsum_mono (f := f) (f2 := f2) (n := j) (fun i hi => h i (by omega))
      omega
    · have := lsum_less (f := f) (f2 := f2) (n := n) (fun i hi => h i (by omega)) (by omega) hl
      omega
theorem lsum_comm (f : Nat → Nat → Nat) (n : Nat) : ∀ m, lsum (fun i => lsum (fun j => f i j) n) m = lsum (fun j => lsum (fun i => f i j) m) n
  | 0 => (lsum_zero (fun _ _ => rfl)).symm
  | m + 1 => by
    show lsum (fun i => lsum (fun j => f i j) n) m + lsum (fun j => f m j) n = lsum (fun j => lsum (fun i => f i j) m + f m j) n
    rw [lsum_add, lsum_comm f n m]
/-- a sum, where one summand changed -/
theorem lsum_at {f f2 : Nat → Nat} {j : Nat} : ∀ {n : Nat}, (∀ i, i ≠ j → f i = f2 i) → j < n → lsum f n + f2 j = lsum f2 n + f j
  | 0, _, h => by omega
  | n + 1, h, hj => by
    show lsum f n + f n + f2 j = lsum f2 n + f2 n + f j
    by_cases e : j = n
    · subst e
      have := lsum_congr (f := f) (f2 := f2) (n := j) (fun i hi => h i (by omega))
      omega
    · have := lsum_at (f := f) (f2 := f2) (n := n) h (by omega)
      have := h n (fun z => e z.symm)
      omega
def setM (M : Nat → Nat → Bool) (w p : Nat) (b : Bool) : Nat → Nat → Bool := fun v x => if v = w ∧ x = p then b else M v x
theorem setM_eq (M : Nat → Nat → Bool) (w p : Nat) (b : Bool) : setM M w p b w p = b := if_pos ⟨rfl, rfl⟩
theorem setM_ne {M : Nat → Nat → Bool} {w p v x : Nat} {b : Bool} (h : ¬ (v = w ∧ x = p)) : setM M w p b v x = M v x := if_neg h
theorem rowN_ne {M : Nat → Nat → Bool} {w p v : Nat} {b : Bool} (h : v ≠ w) : rowN (setM M w p b) v = rowN M v := lsum_congr (fun x _ => by rw [setM_ne (fun z => h z.1)])
theorem colN_ne {M : Nat → Nat → Bool} {w p x : Nat} {b : Bool} (h : x ≠ p) : colN (setM M w p b) x = colN M x := lsum_congr (fun v _ => by rw [setM_ne (fun z => h z.2)])
theorem rowN_set {M : Nat → Nat → Bool} {w p : Nat} {b : Bool} (hp : p < 8) : rowN (setM M w p b) w + b2 (M w p) = rowN M w + b2 b := by
  have := lsum_at (f := fun x => b2 (setM M w p b w x)) (f2 := fun x => b2 (M w x)) (j := p) (n := 8) (fun i hi => by show b2 (setM M w p b w i) = _; rw [setM_ne (fun z => hi z.2)]) hp
  simp only [setM_eq] at this
  exact this
theorem colN_set {M : Nat → Nat → Bool} {w p : Nat} {b : Bool} (hw : w < 8) : colN (setM M w p b) p + b2 (M w p) = colN M p + b2 b := by
  have := lsum_at (f := fun v => b2 (setM M w p b v p)) (f2 := fun v => b2 (M v p)) (j := w) (n := 8) (fun i hi => by show b2 (setM M w p b i p) = _; rw [setM_ne (fun z => hi z.1)]) hw
  simp only [setM_eq] at this
  exact this
/-- one work goes over from p to q -/
def flipM (M : Nat → Nat → Bool) (v p q : Nat) : Nat → Nat → Bool := setM (setM M v p false) v q true
theorem flip_facts {M : Nat → Nat → Bool} {v p q : Nat} (hv : v < 8) (hp : p < 8) (hq : q < 8) (h1 : M v p = true) (h2 : M v q = false) : (∀ u, rowN (flipM M v p q) u = rowN M u) ∧ (∀ x, colN (flipM M v p q) x + (if x = p then 1 else 0) = colN M x + if x = q then 1 else 0) := by
  have hpq : p ≠ q := fun z => by rw [z, h2] at h1; exact absurd h1 (by decide)
  have e1 : setM M v p false v q = false := by rw [setM_ne (fun z => hpq z.2.symm)]; exact h2
  refine ⟨fun u => ?_, fun x => ?_⟩
  · unfold flipM
    by_cases e : u = v
    · subst e
      have a := rowN_set (M := M) (w := u) (b := false) hp
      have b := rowN_set (M := setM M u p false) (w := u) (b := true) hq
      rw [h1] at a
      rw [e1] at b
      simp only [b2, if_true, Bool.false_eq_true, if_false] at a b
      omega
    · rw [rowN_ne e, rowN_ne e]
  · unfold flipM
    have a := colN_set (M := M) (p := p) (b := false) hv
    have b := colN_set (M := setM M v p false) (p := q) (b := true) hv
    rw [h1] at a
    rw [e1] at b
    simp only [b2, if_true, Bool.false_eq_true, if_false] at a b
    by_cases ep : x = p
    · subst ep
      rw [if_pos rfl, if_neg hpq, colN_ne hpq]
      omega
    · by_cases eq : x = q
      · subst eq
        rw [if_neg ep, if_pos rfl]
        rw [colN_ne ep] at b
        omega
      · rw [if_neg ep, if_neg eq, colN_ne eq, colN_ne ep]
/-- a plan of the works from w0 on, where pupil p has room for r p works -/
def PlanF (n k : Nat) (r : Nat → Nat) (can : Nat → Nat → Bool) (w0 : Nat) (M : Nat → Nat → Bool) : Prop := (∀ w p, M w p = true → can w p = true ∧ w0 ≤ w) ∧ (∀ w, w0 ≤ w → w < n → rowN M w = k) ∧ ∀ p, p < 8 → colN M p ≤ r p
def Rm (r : Nat → Nat) (can : Nat → Nat → Bool) (T : Nat → Bool) : Nat := lsum (fun p => min (r p) (lsum (fun w => b2 (T w && can w p)) 8)) 8
def szT (T : Nat → Bool) : Nat := lsum (fun w => b2 (T w)) 8
theorem row_T (M : Nat → Nat → Bool) (T : Nat → Bool) : lsum (fun w => if T w then rowN M w else 0) 8 = lsum (fun p => lsum (fun w => b2 (T w && M w p)) 8) 8 := by
  rw [← lsum_comm (fun w p => b2 (T w && M w p)) 8 8]
  refine lsum_congr (fun w _ => ?_)
  cases e : T w with
  | true => simp only [if_true, Bool.true_and]; rfl
  | false => simp only [Bool.false_eq_true, if_false, Bool.false_and]; exact (lsum_zero (fun _ _ => rfl)).symm
theorem lsum_mul (k : Nat) (T : Nat → Bool) : ∀ n, lsum (fun w => if T w then k else 0) n = k * lsum (fun w => b2 (T w)) n
  | 0 => rfl
  | n + 1 => by
    show lsum (fun w => if T w then k else 0) n + (if T n then k else 0) = k * (lsum (fun w => b2 (T w)) n + b2 (T n))
    rw [lsum_mul k T n, Nat.mul_add]
    congr 1
    unfold b2
    split <;> simp
/-- where a plan is, no set of works lacks room -/
theorem hall_nec {n k w0 : Nat} {r : Nat → Nat} {can M : Nat → Nat → Bool} (h : PlanF n k r can w0 M) {T : Nat → Bool} (hT : ∀ w, T w = true → w0 ≤ w ∧ w < n) : k * szT T ≤ Rm r can T := by
  have e : lsum (fun w => if T w then k else 0) 8 = lsum (fun w => if T w then rowN M w else 0) 8 := lsum_congr (fun w _ => by
    by_cases c : T w = true
    · rw [if_pos c, if_pos c, h.2.1 w (hT w c).1 (hT w c).2]
    · rw [if_neg c, if_neg c])
  unfold szT Rm
  rw [← lsum_mul k T 8, e, row_T]
  refine lsum_mono (fun p hp => ?_)
  refine Nat.le_min.mpr ⟨Nat.le_trans (lsum_mono (fun w _ => ?_)) (h.2.2 p hp), lsum_mono (fun w _ => ?_)⟩
  · exact b2_le (fun z => by rw [Bool.and_eq_true] at z; exact z.2)
  · exact b2_le (fun z => by rw [Bool.and_eq_true] at z ⊢; exact ⟨z.1, (h.1 w p z.2).1⟩)
/-- where a work lacks a marker and no chain helps, a set of works lacks room -/
theorem hall_bad {n k w0 w1 : Nat} {r : Nat → Nat} {can M : Nat → Nat → Bool} {R : Nat → Prop} (hin : ∀ w p, can w p = true → w < n ∧ p < n) (h8 : n ≤ 8) (hM : ∀ w p, M w p = true → can w p = true ∧ w0 ≤ w) (hk : ∀ w, rowN M w ≤ k) (h1 : w0 ≤ w1 ∧ w1 < n) (hlt : rowN M w1 < k) (ha : ∀ p, can w1 p = true → M w1 p = false → R p) (hb : ∀ x v q, R x → M v x = true → can v q = true → M v q = false → R q) (hc : ∀ p, p < 8 → R p → r p ≤ colN M p) : ∃ T : Nat → Bool, (∀ w, T w = true → w0 ≤ w ∧ w < n) ∧ Rm r can T < k * szT T := by
  let T : Nat → Bool := fun w => @decide (w = w1 ∨ ∃ p, R p ∧ M w p = true) (Classical.propDecidable _)
  have hT : ∀ w, T w = true ↔ (w = w1 ∨ ∃ p, R p ∧ M w p = true) := fun w => @decide_eq_true_iff _ (Classical.propDecidable _)
  refine ⟨T, fun w hw => ?_, ?_⟩
  · rcases (hT w).mp hw with e | ⟨p, _, hp⟩
    · rw [e]; exact h1
    · exact ⟨(hM w p hp).2, (hin w p (hM w p hp).1).1⟩
  · have le1 : Rm r can T ≤ lsum (fun p => lsum (fun w => b2 (T w && M w p)) 8) 8 := by
      unfold Rm
      refine lsum_mono (fun p hp => ?_)
      rcases Classical.em (R p) with c | c
      · refine Nat.le_trans (Nat.min_le_left _ _) (Nat.le_trans (hc p hp c) (lsum_mono (fun w _ => b2_le (fun z => ?_))))
        rw [Bool.and_eq_true]
        exact ⟨(hT w).mpr (Or.inr ⟨p, c, z⟩), z⟩
      · refine Nat.le_trans (Nat.min_le_right _ _) (lsum_mono (fun w _ => b2_le (fun z => ?_)))
        rw [Bool.and_eq_true] at z ⊢
        refine ⟨z.1, ?_⟩
        cases e : M w p with
        | true => rfl
        | false =>
          exfalso
          apply c
          rcases (hT w).mp z.1 with e1 | ⟨x, hx, hm⟩
          · rw [e1] at z e
            exact ha p z.2 e
          · exact hb x w p hx hm z.2 e
    have lt2 : lsum (fun p => lsum (fun w => b2 (T w && M w p)) 8) 8 < k * szT T := by
      unfold szT
      rw [← row_T, ← lsum_mul k T 8]
      have t1 : T w1 = true := (hT w1).mpr (Or.inl rfl)
      refine lsum_less (j := w1) (fun w _ => ?_) (by omega) ?_
      · cases T w with
        | true => exact hk w
        | false => exact Nat.le_refl _
      · show (if T w1 then rowN M w1 else 0) < if T w1 then k else 0
        rw [t1]
        exact hlt
    omega
/-! chains, pure: who is reached from a work in so many steps -/
def Rd (can M : Nat → Nat → Bool) (w1 : Nat) : Nat → Nat → Prop
  | 0, p => can w1 p = true ∧ M w1 p = false
  | d + 1, p => Rd can M w1 d p ∨ ∃ v x, Rd can M w1 d x ∧ M v x = true ∧ can v p = true ∧ M v p = false
theorem Rd_up {can M : Nat → Nat → Bool} {w1 d p : Nat} (h : Rd can M w1 d p) : ∀ e, d ≤ e → Rd can M w1 e p := by
  intro e he
  induction e with
  | zero =>
    have : d = 0 := by omega
    subst this
    exact h
  | succ e ih =>
    by_cases c : d = e + 1
    · subst c; exact h
    · exact Or.inl (ih (by omega))
theorem chain_ex {n : Nat} {can M : Nat → Nat → Bool} {w1 : Nat} (hin : ∀ w p, can w p = true → w < n ∧ p < n) (h8 : n ≤ 8) (hM : ∀ w p, M w p = true → can w p = true) : ∀ d q, Rd can M w1 d q → (∀ e, e < d → ¬ Rd can M w1 e q) → ∃ M2 : Nat → Nat → Bool, (∀ w p, M2 w p = true → can w p = true ∧ (w = w1 ∨ ∃ x, M w x = true)) ∧ (∀ v, rowN M2 v = rowN M v + if v = w1 then 1 else 0) ∧ (∀ x, colN M2 x = colN M x + if x = q then 1 else 0) ∧ (∀ v x, ¬ Rd can M w1 d x → M2 v x = M v x) ∧ ∀ v, M v q = true → M2 v q = true := by
  intro d
  induction d with
  | zero =>
    intro q hq _
    obtain ⟨c1, c2⟩ := hq
    obtain ⟨i1, i2⟩ := hin w1 q c1
    refine ⟨setM M w1 q true, fun w p h => ?_, fun v => ?_, fun x => ?_, fun v x hx => ?_, fun v hv => ?_⟩
    · by_cases e : w = w1 ∧ p = q
      · rw [e.1, e.2]; exact ⟨c1, Or.inl rfl⟩
      · rw [setM_ne e] at h
        exact ⟨hM w p h, Or.inr ⟨p, h⟩⟩
    · by_cases e : v = w1
      · subst e
        have := rowN_set (M := M) (w := v) (p := q) (b := true) (by omega)
        rw [c2] at this
        rw [if_pos rfl]
        exact this
      · rw [rowN_ne e, if_neg e]; rfl
    · by_cases e : x = q
      · subst e
        have := colN_set (M := M) (w := w1) (p := x) (b := true) (by omega)
        rw [c2] at this
        rw [if_pos rfl]
        exact this
      · rw [colN_ne e, if_neg e]; rfl
    · refine setM_ne (fun z => hx ?_)
      rw [z.2]
      exact ⟨c1, c2⟩
    · by_cases e : v = w1
      · subst e; exact setM_eq _ _ _ _
      · rw [setM_ne (fun z => e z.1)]; exact hv
  | succ d ih =>
    intro q hq hmin
    rcases hq with hq | ⟨v, x, hx, m1, c1, m2⟩
    · exact absurd hq (hmin d (by omega))
    · -- x is new at d
      have hxd : ∀ e, e < d → ¬ Rd can M w1 e x := fun e he hr => hmin (e + 1) (by omega) (Or.inr ⟨v, x, hr, m1, c1, m2⟩)
      obtain ⟨M1, a1, a2, a3, a4, a5⟩ := ih x hx hxd
      have hqd : ¬ Rd can M w1 d q := hmin d (by omega)
      have b1 := a5 v m1
      have b2' : M1 v q = false := by rw [a4 v q hqd]; exact m2
      obtain ⟨i1, i2⟩ := hin v q c1
      have i3 := (hin v x (hM v x m1)).2
      obtain ⟨f1, f2⟩ := flip_facts (show v < 8 by omega) (show x < 8 by omega) (show q < 8 by omega) b1 b2'
      have hxq : x ≠ q := fun z => hqd (z ▸ hx)
      refine ⟨flipM M1 v x q, fun w p h => ?_, fun u => ?_, fun y => ?_, fun u y hy => ?_, fun u hu => ?_⟩
      · unfold flipM at h
        by_cases e : w = v ∧ p = q
        · rw [e.1, e.2]; exact ⟨c1, Or.inr ⟨x, m1⟩⟩
        · rw [setM_ne e] at h
          by_cases e2 : w = v ∧ p = x
          · rw [e2.1, e2.2, setM_eq] at h
            exact absurd h (by decide)
          · rw [setM_ne e2] at h
            exact a1 w p h
      · rw [f1, a2]
      · have g1 := f2 y
        have g2 := a3 y
        by_cases e : y = x
        · subst e
          rw [if_pos rfl, if_neg hxq] at g1
          rw [if_pos rfl] at g2
          rw [if_neg hxq]
          omega
        · rw [if_neg e] at g1 g2
          omega
      · have hyd : ¬ Rd can M w1 d y := fun z => hy (Or.inl z)
        have hyq : y ≠ q := fun z => hy (by rw [z]; exact Or.inr ⟨v, x, hx, m1, c1, m2⟩)
        have hyx : y ≠ x := fun z => hyd (by rw [z]; exact hx)
        unfold flipM
        rw [setM_ne (fun z => hyq z.2), setM_ne (fun z => hyx z.2)]
        exact a4 u y hyd
      · unfold flipM
        by_cases e : u = v
        · subst e; exact setM_eq _ _ _ _
        · rw [setM_ne (fun z => e z.1), setM_ne (fun z => e z.1), a4 u q hqd]
          exact hu
theorem least_d {Q : Nat → Prop} : ∀ d, Q d → ∃ e, e ≤ d ∧ Q e ∧ ∀ f, f < e → ¬ Q f := by
  intro d
  induction d using Nat.strongRecOn with
  | _ d ih =>
    intro hd
    rcases Classical.em (∃ f, f < d ∧ Q f) with ⟨f, hf, hq⟩ | c
    · obtain ⟨e, a, b, c⟩ := ih f hf hq
      exact ⟨e, by omega, b, c⟩
    · exact ⟨d, Nat.le_refl _, hd, fun f hf hq => c ⟨f, hf, hq⟩⟩
/-- where no set of works lacks room, there is a plan -/
theorem hall_suf {n k w0 : Nat} {r : Nat → Nat} {can : Nat → Nat → Bool} (hin : ∀ w p, can w p = true → w < n ∧ p < n) (h8 : n ≤ 8) (hT : ∀ T : Nat → Bool, (∀ w, T w = true → w0 ≤ w ∧ w < n) → k * szT T ≤ Rm r can T) : ∃ M, PlanF n k r can w0 M := by
  have key : ∀ d, ∀ M : Nat → Nat → Bool, (∀ w p, M w p = true → can w p = true ∧ w0 ≤ w) → (∀ w, rowN M w ≤ k) → (∀ p, p < 8 → colN M p ≤ r p) → lsum (fun w => if w0 ≤ w ∧ w < n then k - rowN M w else 0) 8 ≤ d → ∃ M, PlanF n k r can w0 M := by
    intro d
    induction d with
    | zero =>
      intro M h1 h2 h3 hd
      refine ⟨M, h1, fun w hw hn => ?_, h3⟩
      have a := lsum_ge (f := fun w => if w0 ≤ w ∧ w < n then k - rowN M w else 0) (i := w) (n := 8) (by omega)
      have b := h2 w
      have c : (if w0 ≤ w ∧ w < n then k - rowN M w else 0) ≤ _ := a
      rw [if_pos ⟨hw, hn⟩] at c
      omega
    | succ d ih =>
      intro M h1 h2 h3 hd
      rcases Classical.em (∃ w1, w0 ≤ w1 ∧ w1 < n ∧ rowN M w1 < k) with ⟨w1, a, b, c⟩ | c
      · -- someone with room is reached, else a set lacks room
        rcases Classical.em (∃ q e, q < 8 ∧ Rd can M w1 e q ∧ colN M q < r q) with ⟨q, e, hq, hr, hroom⟩ | no
        · obtain ⟨e2, _, hr2, hmin⟩ := least_d (Q := fun e => Rd can M w1 e q) e hr
          obtain ⟨M2, g1, g2, g3, _, _⟩ := chain_ex hin h8 (fun w p h => (h1 w p h).1) e2 q hr2 hmin
          refine ih M2 (fun w p h => ?_) (fun w => ?_) (fun p hp => ?_) ?_
          · obtain ⟨x1, x2⟩ := g1 w p h
            refine ⟨x1, ?_⟩
            rcases x2 with z | ⟨y, hy⟩
            · omega
            · exact (h1 w y hy).2
          · have := h2 w
            rw [g2 w]
            by_cases z : w = w1
            · rw [if_pos z, z]; omega
            · rw [if_neg z]; omega
          · have := h3 p hp
            rw [g3 p]
            by_cases z : p = q
            · rw [if_pos z, z]; omega
            · rw [if_neg z]; omega
          · have := lsum_less (f := fun w => if w0 ≤ w ∧ w < n then k - rowN M2 w else 0) (f2 := fun w => if w0 ≤ w ∧ w < n then k - rowN M w else 0) (j := w1) (n := 8) (fun w _ => by
              show (if w0 ≤ w ∧ w < n then k - rowN M2 w else 0) ≤ if w0 ≤ w ∧ w < n then k - rowN M w else 0
              rw [g2 w]
              split
              · split <;> omega
              · exact Nat.le_refl _) (by omega) (by
              show (if w0 ≤ w1 ∧ w1 < n then k - rowN M2 w1 else 0) < if w0 ≤ w1 ∧ w1 < n then k - rowN M w1 else 0
              rw [g2 w1, if_pos rfl, if_pos ⟨a, b⟩, if_pos ⟨a, b⟩]
              omega)
            omega
        · exfalso
          obtain ⟨T, t1, t2⟩ := hall_bad (r := r) (R := fun p => ∃ e, Rd can M w1 e p) hin h8 h1 h2 ⟨a, b⟩ c (fun p c1 c2 => ⟨0, c1, c2⟩) (fun x v q hx m1 c1 c2 => by
            obtain ⟨e, he⟩ := hx
            exact ⟨e + 1, Or.inr ⟨v, x, he, m1, c1, c2⟩⟩) (fun p hp hx => by
            obtain ⟨e, he⟩ := hx
            rcases Nat.lt_or_ge (colN M p) (r p) with z | z
            · exact absurd ⟨p, e, hp, he, z⟩ no
            · exact z)
          have := hT T t1
          omega
      · refine ⟨M, h1, fun w hw hn => ?_, h3⟩
        have b := h2 w
        rcases Nat.lt_or_ge (rowN M w) k with z | z
        · exact absurd ⟨w, hw, hn, z⟩ c
        · omega
  refine key _ (fun _ _ => false) (fun w p h => absurd h (by decide)) (fun w => ?_) (fun p _ => ?_) (Nat.le_refl _)
  · have : rowN (fun _ _ => false) w = 0 := lsum_zero (fun _ _ => rfl)
    omega
  · have : colN (fun _ _ => false) p = 0 := lsum_zero (fun _ _ => rfl)
    omega
/-! the first plan -/
def before (w p v q : Nat) : Prop := w < v ∨ (w = v ∧ p < q)
/-- M keeps a pair wherever a plan that is as M before the pair has it -/
def gfAt (n k : Nat) (r : Nat → Nat) (can : Nat → Nat → Bool) (M : Nat → Nat → Bool) (w p : Nat) : Prop := ∀ N, PlanF n k r can 0 N → (∀ v q, before v q w p → N v q = M v q) → N w p = true → M w p = true
theorem gf_same {n k : Nat} {r : Nat → Nat} {can M M2 : Nat → Nat → Bool} {w p : Nat} (h : gfAt n k r can M w p) (e : ∀ v q, before v q w p → M2 v q = M v q) (e2 : M2 w p = M w p) : gfAt n k r can M2 w p := fun N hN hb hw => by
  rw [e2]
  exact h N hN (fun v q hvq => by rw [hb v q hvq, e v q hvq]) hw
theorem gf_unique {n k : Nat} {r : Nat → Nat} {can M M2 : Nat → Nat → Bool} (h1 : PlanF n k r can 0 M) (h2 : PlanF n k r can 0 M2) (g1 : ∀ w p, gfAt n k r can M w p) (g2 : ∀ w p, gfAt n k r can M2 w p) : ∀ w p, M w p = M2 w p := by
  intro w
  induction w using Nat.strongRecOn with
  | _ w ihw =>
    intro p
    induction p using Nat.strongRecOn with
    | _ p ihp =>
      have e : ∀ v q, before v q w p → M v q = M2 v q := fun v q hb => by
        rcases hb with z | ⟨z1, z2⟩
        · exact ihw v z q
        · rw [z1]; exact ihp q z2
      cases e1 : M w p with
      | true => exact (g2 w p M h1 e e1).symm
      | false =>
        cases e3 : M2 w p with
        | false => rfl
        | true =>
          have := g1 w p M2 h2 (fun v q hb => (e v q hb).symm) e3
          rw [e1] at this
          exact absurd this (by decide)
/-- a pair that no exchange brings in is in no plan that is as M before it -/
theorem bring_fail {n k w p : Nat} {L : Nat} {can M : Nat → Nat → Bool} {R : Nat → Prop} (hin : ∀ w p, can w p = true → w < n ∧ p < n) (h8 : n ≤ 8) (hM : PlanF n k (fun _ => L) can 0 M) (hc : can w p = true) (hm : M w p = false) (hp : R p) (hcl : ∀ x v q, w < v → R x → M v x = true → can v q = true → M v q = false → R q) (hl : ∀ x, p < x → M w x = true → ¬ R x) (hs : ∀ x, x < 8 → R x → L ≤ colN M x) : gfAt n k (fun _ => L) can M w p := by
  intro N hN hb hNp
  exfalso
  obtain ⟨hw, hpn⟩ := hin w p hc
  let B : Nat → Bool := fun x => @decide (R x) (Classical.propDecidable _)
  have hB : ∀ x, B x = true ↔ R x := fun x => @decide_eq_true_iff _ (Classical.propDecidable _)
  -- members of R in a row
  have swap : ∀ Z : Nat → Nat → Bool, lsum (fun x => if B x then colN Z x else 0) 8 = lsum (fun v => lsum (fun x => b2 (B x && Z v x)) 8) 8 := fun Z => by
    rw [lsum_comm (fun v x => b2 (B x && Z v x)) 8 8]
    refine lsum_congr (fun x _ => ?_)
    cases B x with
    | true => simp only [if_true, Bool.true_and]; rfl
    | false => simp only [Bool.false_eq_true, if_false, Bool.false_and]; exact (lsum_zero (fun _ _ => rfl)).symm
  have split : ∀ (Z : Nat → Nat → Bool) v, rowN Z v = lsum (fun x => b2 (B x && Z v x)) 8 + lsum (fun x => b2 (!B x && Z v x)) 8 := fun Z v => by
    rw [← lsum_add]
    refine lsum_congr (fun x _ => ?_)
    cases B x <;> cases Z v x <;> rfl
  have le : lsum (fun x => if B x then colN N x else 0) 8 ≤ lsum (fun x => if B x then colN M x else 0) 8 := lsum_mono (fun x hx => by
    cases e : B x with
    | false => exact Nat.le_refl _
    | true =>
      have a := hN.2.2 x hx
      have b := hs x hx ((hB x).mp e)
      show (if true = true then colN N x else 0) ≤ if true = true then colN M x else 0
      rw [if_pos rfl, if_pos rfl]
      exact Nat.le_trans a b)
  have gt : lsum (fun x => if B x then colN M x else 0) 8 < lsum (fun x => if B x then colN N x else 0) 8 := by
    rw [swap M, swap N]
    refine lsum_less (j := w) (fun v hv => ?_) (by omega) ?_
    · rcases Nat.lt_trichotomy v w with z | z | z
      · exact Nat.le_of_eq (lsum_congr (fun x _ => by rw [hb v x (Or.inl z)]))
      · refine lsum_mono (fun x _ => b2_le (fun y => ?_))
        rw [Bool.and_eq_true] at y ⊢
        refine ⟨y.1, ?_⟩
        rw [z] at y ⊢
        rcases Nat.lt_trichotomy x p with q | q | q
        · rw [hb w x (Or.inr ⟨rfl, q⟩)]; exact y.2
        · rw [q]; exact hNp
        · exact absurd ((hB x).mp y.1) (hl x q y.2)
      · rcases Nat.lt_or_ge v n with hvn | hvn
        · rcases Classical.em (∃ x, R x ∧ M v x = true) with ⟨x, hx, hmx⟩ | no
          · have s1 := split M v
            have s2 := split N v
            rw [hM.2.1 v (Nat.zero_le _) hvn] at s1
            rw [hN.2.1 v (Nat.zero_le _) hvn] at s2
            have : lsum (fun x => b2 (!B x && N v x)) 8 ≤ lsum (fun x => b2 (!B x && M v x)) 8 := lsum_mono (fun y _ => b2_le (fun q => by
              rw [Bool.and_eq_true] at q ⊢
              refine ⟨q.1, ?_⟩
              cases e : M v y with
              | true => rfl
              | false =>
                have := (hB y).mpr (hcl x v y z hx hmx (hN.1 v y q.2).1 e)
                rw [this] at q
                exact absurd q.1 (by decide)))
            omega
          · have : lsum (fun x => b2 (B x && M v x)) 8 = 0 := lsum_zero (fun x _ => by
              cases e : (B x && M v x) with
              | false => rfl
              | true =>
                rw [Bool.and_eq_true] at e
                exact absurd ⟨x, (hB x).mp e.1, e.2⟩ no)
            rw [this]
            exact Nat.zero_le _
        · have : lsum (fun x => b2 (B x && M v x)) 8 = 0 := lsum_zero (fun x _ => by
            cases e : (B x && M v x) with
            | false => rfl
            | true =>
              rw [Bool.and_eq_true] at e
              have := (hin v x (hM.1 v x e.2).1).1
              omega)
          rw [this]
          exact Nat.zero_le _
    · refine lsum_less (j := p) (fun x _ => b2_le (fun y => ?_)) (by omega) ?_
      · rw [Bool.and_eq_true] at y ⊢
        refine ⟨y.1, ?_⟩
        rcases Nat.lt_trichotomy x p with q | q | q
        · rw [hb w x (Or.inr ⟨rfl, q⟩)]; exact y.2
        · rw [q]; exact hNp
        · exact absurd ((hB x).mp y.1) (hl x q y.2)
      · show b2 (B p && M w p) < b2 (B p && N w p)
        rw [hm, hNp, (hB p).mpr hp]
        decide
  omega
/-- with no later pupil in its place, a pair is in no plan that is as M before it -/
theorem bring_none {n k w p : Nat} {r : Nat → Nat} {can M : Nat → Nat → Bool} (hM : PlanF n k r can 0 M) (hw : w < n) (hp : p < 8) (hm : M w p = false) (hl : ∀ x, p < x → M w x = false) : gfAt n k r can M w p := by
  intro N hN hb hNp
  exfalso
  have : rowN M w < rowN N w := lsum_less (j := p) (fun x _ => b2_le (fun y => by
    rcases Nat.lt_trichotomy x p with q | q | q
    · rw [hb w x (Or.inr ⟨rfl, q⟩)]; exact y
    · rw [q]; exact hNp
    · rw [hl x q] at y
      exact absurd y (by decide))) hp (by rw [hm, hNp]; decide)
  rw [hM.2.1 w (Nat.zero_le _) hw, hN.2.1 w (Nat.zero_le _) hw] at this
  omega
