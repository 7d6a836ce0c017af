/-! ===== the elimination, both programs ===== -/
def FrB (L : List Nat) (S S1 : St) : Prop := S1.1 = S.1 ∧ S1.2.1 = S.2.1 ∧ S1.2.2.1 = S.2.2.1 ∧ ∀ k, k ∉ L → S1.2.2.2 k = S.2.2.2 k
theorem FrB.rf (L : List Nat) (S : St) : FrB L S S := ⟨rfl, rfl, rfl, fun _ _ => rfl⟩
theorem FrB.tr {L : List Nat} {S S1 S2 : St} (h : FrB L S S1) (h2 : FrB L S1 S2) : FrB L S S2 := ⟨h2.1.trans h.1, h2.2.1.trans h.2.1, h2.2.2.1.trans h.2.2.1, fun k hk => (h2.2.2.2 k hk).trans (h.2.2.2 k hk)⟩
theorem FrB.mono {L L2 : List Nat} {S S1 : St} (h : FrB L S S1) (hl : ∀ k, k ∈ L → k ∈ L2) : FrB L2 S S1 := ⟨h.1, h.2.1, h.2.2.1, fun k hk => h.2.2.2 k (fun z => hk (hl k z))⟩
theorem FrB.B {L : List Nat} {S : St} {k : Nat} {f : Nat → Int64} (h : k ∈ L) : FrB L S (sB S k f) := ⟨rfl, rfl, rfl, fun j hj => up_ne (fun z => hj (z ▸ h))⟩
abbrev eqB : List Nat := [3, 4, 5, 6, 7, 8, 9, 10, 11, 12]
theorem eqB_in {i : Nat} (h : i < 10) : 3 + i ∈ eqB := by
  have : i = 0 ∨ i = 1 ∨ i = 2 ∨ i = 3 ∨ i = 4 ∨ i = 5 ∨ i = 6 ∨ i = 7 ∨ i = 8 ∨ i = 9 := by omega
  rcases this with h | h | h | h | h | h | h | h | h | h <;> subst h <;> decide
theorem gV_64 {n E : Nat} {C : Nat → Nat → Int} (h : Sys n E C) {k i j : Nat} (hk : k ≤ n) (hi : i < n) (hj : k ≤ j) (hjn : j ≤ n) : -400000000000 ≤ gV n E C k i j ∧ gV n E C k i j ≤ 400000000000 := by
  have a := gV_B h hk hi hj hjn
  have b := gd_B h hk
  omega
theorem step_lI {n E : Nat} {C : Nat → Nat → Int} (h : Sys n E C) {k i j : Nat} (hk : k < n) (hi : i < n) (hne : i ≠ k) (hj : k < j) (hjn : j ≤ n) : (lI (gV n E C k i j) * lI (gV n E C k k k) - lI (gV n E C k i k) * lI (gV n E C k k j)) / lI (gd n E C k) = lI (gV n E C (k + 1) i j) := by
  have st := gV_step h hk hjn hne
  have d := sys_d h (show k ≤ n by omega)
  have db := gd_B h (show k ≤ n by omega)
  have f := gV_fit h hk hi hj hjn
  have v := gV_64 h (show k + 1 ≤ n by omega) hi hj hjn
  rw [lI_mul, lI_mul, lI_sub, Int.mul_comm (gV n E C k i j), ← st]
  exact lI_div d (by omega) f.1 f.2 (by omega) (by omega)
theorem gd_ne {n E : Nat} {C : Nat → Nat → Int} (h : Sys n E C) {k : Nat} (hk : k ≤ n) : lI (gd n E C k) ≠ 0 := fun e => by
  have d := sys_d h hk
  have db := gd_B h hk
  have := (lI_inj (by omega) (by omega) (by decide) (by decide)).mp (show lI (gd n E C k) = lI 0 from e)
  omega
theorem clearX {P : St → Prop} {S : St} {n E : Nat} {C : Nat → Nat → Int} (h : Sys n E C) (h5 : S.1 5 = nI n) {i k : Nat} (hk : k < n) (hi : i < n) (hne : i ≠ k) (hr : ∀ j, k ≤ j → j ≤ n → S.2.2.2 (3 + i) j = lI (gV n E C k i j)) (hw : ∀ j, k ≤ j → j ≤ n → S.2.2.2 (3 + k) j = lI (gV n E C k k j)) (hP : ∀ S1, FrB [3 + i] S S1 → (∀ j, k < j → j ≤ n → S1.2.2.2 (3 + i) j = lI (gV n E C (k + 1) i j)) → P S1) : tX0_clearFactor (nI i) (nI k) (lI (gd n E C k)) S P := by
  have n10 := h.1
  have dne := gd_ne h (show k ≤ n by omega)
  refine bX0_clearFactor_0 _ _ _ ⟨fun _ => ⟨vp_in_nI (by omega) (by decide), vp_in_nI (by omega) (by decide), vp_in_nI (by omega) (by decide), ?_⟩, fun c => absurd (lg_eq.mp c) dne⟩
  have cl : ∀ {a : Nat}, a < 16 → (nI a).toNatClampNeg = a := fun ha => nI_clamp (by omega)
  have e1 : S.2.2.2 (3 + (nI k).toNatClampNeg) (nI k).toNatClampNeg = lI (gV n E C k k k) := by rw [cl (by omega)]; exact hw k (Nat.le_refl _) (by omega)
  have e2 : S.2.2.2 (3 + (nI i).toNatClampNeg) (nI k).toNatClampNeg = lI (gV n E C k i k) := by rw [cl (show i < 16 by omega), cl (show k < 16 by omega)]; exact hr k (Nat.le_refl _) (by omega)
  rw [e1, e2]
  have key : ∀ m j, j + m = n + 1 → k ≤ j → ∀ F : Nat → Int64, (∀ y, k < y → y < j → F y = lI (gV n E C (k + 1) i y)) → (∀ y, j ≤ y → y ≤ n → F y = lI (gV n E C k i y)) → wX0_clearFactor P 38 [.ref 21, .int (nI i), .int (nI k), .long (lI (gd n E C k)), .retAddr 0, .ref (23 + (nI i).toNatClampNeg), .ref (23 + (nI k).toNatClampNeg), .long (lI (gV n E C k k k)), .retAddr 0, .long (lI (gV n E C k i k)), .retAddr 0, .int (nI j)] [] (sB S (3 + i) F) := by
    intro m
    induction m with
    | zero =>
      intro j hj hkj F f1 f2
      have e : j = n + 1 := by omega
      subst e
      refine bX0_clearFactor_38 _ _ _ _ _ _ _ _ ⟨fun _ => hP _ (FrB.B (List.mem_singleton.mpr rfl)) (fun y hy hyn => ?_), fun c => absurd ?_ c⟩
      · show va_up S.2.2.2 (3 + i) F (3 + i) y = _
        rw [up_eq]
        exact f1 y hy (by omega)
      · show S.1 5 < _
        rw [h5]
        exact (nI_ltI (by omega) (by omega)).mpr (by omega)
    | succ m ih =>
      intro j hj hkj F f1 f2
      refine bX0_clearFactor_38 _ _ _ _ _ _ _ _ ⟨fun c => absurd c ?_, fun _ => ⟨vp_in_nI (by omega) (by decide), vp_in_nI (by omega) (by decide), vp_in_nI (by omega) (by decide), dne, ?_⟩⟩
      · intro c
        have c2 : nI n < nI j := by rw [← h5]; exact c
        have := (nI_ltI (by omega) (by omega)).mp c2
        omega
      · rw [cl (show i < 16 by omega), cl (show k < 16 by omega), cl (show j < 16 by omega), nI_1]
        have eF : (sB S (3 + i) F).2.2.2 (3 + i) = F := up_eq (f := S.2.2.2) (k := 3 + i)
        have eW : (sB S (3 + i) F).2.2.2 (3 + k) = S.2.2.2 (3 + k) := up_ne (f := S.2.2.2) (show 3 + k ≠ 3 + i by omega)
        rw [eF, eW, sB_same, f2 j (Nat.le_refl _) (by omega), hw j hkj (by omega)]
        have ih2 := ih (j + 1) (by omega) (by omega)
        rw [cl (show i < 16 by omega), cl (show k < 16 by omega)] at ih2
        refine ih2 _ (fun y hy hyj => ?_) (fun y hy hyn => ?_)
        · by_cases z : y = j
          · subst z
            rw [updL_eq]
            exact step_lI h hk hi hne hy (by omega)
          · rw [updL_ne z]; exact f1 y hy (by omega)
        · rw [updL_ne (by omega)]; exact f2 y (by omega) hyn
  have h0 := key (n + 1 - k) k (by omega) (Nat.le_refl _) (S.2.2.2 (3 + i)) (fun y hy hyj => by omega) (fun y hy hyn => hr y hy hyn)
  rw [sB_self] at h0
  exact h0
theorem solveX {P : Int64 → St → Prop} {S : St} {n E : Nat} {C : Nat → Nat → Int} (h : Sys n E C) (h5 : S.1 5 = nI n) (h0 : ∀ i j, i < n → j ≤ n → S.2.2.2 (3 + i) j = lI (gA E C i j)) (hP : ∀ S1, FrB eqB S S1 → (∀ i, i < n → S1.2.2.2 (3 + i) n = lI (gV n E C n i n)) → P (lI (gd n E C n)) S1) : tX0_solve S P := by
  have n10 := h.1
  refine bX0_solve_0 ?_
  have cl : ∀ {a : Nat}, a < 16 → (nI a).toNatClampNeg = a := fun ha => nI_clamp (by omega)
  have key : ∀ m k, k + m = n → ∀ S1, FrB eqB S S1 → (∀ i j, i < n → k ≤ j → j ≤ n → S1.2.2.2 (3 + i) j = lI (gV n E C k i j)) → wX0_solve P 4 [.ref 21, .long (lI (gd n E C k)), .retAddr 0, .int (nI k), .retAddr 0, .retAddr 0, .retAddr 0] [] S1 := by
    intro m
    induction m with
    | zero =>
      intro k hk S1 fr inv
      have e : k = n := by omega
      subst e
      exact bX0_solve_4 _ _ ⟨fun _ => hP S1 fr (fun i hi => inv i k hi (Nat.le_refl _) (Nat.le_refl _)), fun c => absurd (by rw [fr.1, h5]; exact nI_le (Nat.le_refl _) (by omega)) c⟩
    | succ m ih =>
      intro k hk S1 fr inv
      have hkn : k < n := by omega
      have ep : S1.2.2.2 (3 + (nI k).toNatClampNeg) (nI k).toNatClampNeg = lI (gd n E C (k + 1)) := by rw [cl (by omega), inv k k hkn (Nat.le_refl _) (by omega), gV_piv]
      refine bX0_solve_4 _ _ ⟨fun c => absurd (show nI n ≤ nI k by rw [← h5, ← fr.1]; exact c) (nI_ge hkn (by omega)), fun _ => ⟨vp_in_nI (by omega) (by decide), vp_in_nI (by omega) (by decide), ?_⟩⟩
      rw [ep]
      refine ⟨fun _ => ?_, fun c => absurd (lg_eq.mp c) (gd_ne h (show k + 1 ≤ n by omega))⟩
      have rows : ∀ a i, i + a = n → ∀ S2, FrB eqB S S2 → (∀ i2 j, i2 < n → i2 < i → k < j → j ≤ n → S2.2.2.2 (3 + i2) j = lI (gV n E C (k + 1) i2 j)) → (∀ i2 j, i2 < n → (i ≤ i2 ∨ i2 = k) → k ≤ j → j ≤ n → S2.2.2.2 (3 + i2) j = lI (gV n E C k i2 j)) → wX0_solve P 34 [.ref 21, .long (lI (gd n E C k)), .retAddr 0, .int (nI k), .long (lI (gd n E C (k + 1))), .retAddr 0, .int (nI i)] [] S2 := by
        intro a
        induction a with
        | zero =>
          intro i hi S2 fr2 i1 i2
          have e : i = n := by omega
          subst e
          refine bX0_solve_34 _ _ _ _ ⟨fun _ => ?_, fun c => absurd (by rw [fr2.1, h5]; exact nI_le (Nat.le_refl _) (by omega)) c⟩
          rw [nI_1]
          exact ih (k + 1) (by omega) S2 fr2 (fun i2 j h1 h2 h3 => i1 i2 j h1 h1 (by omega) h3)
        | succ a iha =>
          intro i hi S2 fr2 i1 i2
          have hin : i < n := by omega
          refine bX0_solve_34 _ _ _ _ ⟨fun c => absurd (show nI n ≤ nI i by rw [← h5, ← fr2.1]; exact c) (nI_ge hin (by omega)), fun _ => ?_⟩
          rw [nI_1, nI_eq (by omega) (by omega)]
          refine ⟨fun c => ?_, fun c => ?_⟩
          · subst c
            refine iha (i + 1) (by omega) S2 fr2 (fun y j h1 h2 h3 h4 => ?_) (fun y j h1 h2 h3 h4 => i2 y j h1 (by omega) h3 h4)
            by_cases z : y = i
            · subst z
              rw [i2 y j h1 (Or.inr rfl) (by omega) h4, gV_own h hin h3 h4]
            · exact i1 y j h1 (by omega) h3 h4
          · refine clearX h (by rw [fr2.1]; exact h5) hkn hin c (fun j h1 h2 => i2 i j hin (Or.inl (Nat.le_refl _)) h1 h2) (fun j h1 h2 => i2 k j hkn (Or.inr rfl) h1 h2) (fun S3 fr3 r3 => ?_)
            refine iha (i + 1) (by omega) S3 (fr2.tr (fr3.mono (fun y hy => by rw [List.mem_singleton.mp hy]; exact eqB_in (by omega)))) (fun y j h1 h2 h3 h4 => ?_) (fun y j h1 h2 h3 h4 => ?_)
            · by_cases z : y = i
              · subst z; exact r3 j h3 h4
              · rw [fr3.2.2.2 (3 + y) (fun q => by have := List.mem_singleton.mp q; omega)]
                exact i1 y j h1 (by omega) h3 h4
            · have z : y ≠ i := by omega
              rw [fr3.2.2.2 (3 + y) (fun q => by have := List.mem_singleton.mp q; omega)]
              exact i2 y j h1 (by omega) h3 h4
      exact rows n 0 (by omega) S1 fr (fun y j h1 h2 => by omega) (fun y j h1 _ h3 h4 => inv y j h1 h3 h4)
  exact key n 0 (by omega) S (FrB.rf _ S) (fun i j h1 _ h3 => by rw [h0 i j h1 h3, gV_0 h3])
/-! the reference: one row of 110 longs, what is to be made stands in column 10 -/
def cl' (n j : Nat) : Nat := if j = n then 10 else j
def MC (n : Nat) (V : Nat → Nat → Int) (k : Nat) (S : St) : Prop := ∀ i j, i < n → k ≤ j → j ≤ n → S.2.2.2 14 (11 * i + cl' n j) = lI (V i j)
theorem cl_lt {n j : Nat} (h10 : n ≤ 10) (hj : j ≤ n) : cl' n j ≤ 10 := by
  unfold cl'
  split <;> omega
theorem cl_lo {n j : Nat} (hj : j < n) : cl' n j = j := if_neg (by omega)
theorem cl_inj {n i j : Nat} (h10 : n ≤ 10) (hi : i ≤ n) (hj : j ≤ n) (e : cl' n i = cl' n j) : i = j := by
  unfold cl' at e
  split at e <;> split at e <;> omega
theorem ix11 {p q : Nat} : (11 : Int32) * nI p + nI q = nI (11 * p + q) := by
  rw [show (11 : Int32) = nI 11 from rfl, pk_mul, nI_add]
theorem solveCellsM {P : St → Prop} {S : St} {n E : Nat} {C : Nat → Nat → Int} (h : Sys n E C) (h9 : S.1 9 = nI n) (h0 : MC n (gA E C) 0 S) (hP : ∀ F : Nat → Int64, (∀ i, i < n → F (11 * i + 10) = lI (gV n E C n i n)) → P (sJ (sB S 14 F) 0 (lI (gd n E C n)))) : tX7_solveCells S P := by
  have n10 := h.1
  refine bX7_solveCells_0 ?_
  have key : ∀ m k, k + m = n → ∀ F : Nat → Int64, (∀ i j, i < n → k ≤ j → j ≤ n → F (11 * i + cl' n j) = lI (gV n E C k i j)) → wX7_solveCells P 4 [.ref 47, .long (lI (gd n E C k)), .retAddr 0, .int (nI k), .retAddr 0, .retAddr 0, .retAddr 0, .retAddr 0, .retAddr 0, .retAddr 0] [] (sB S 14 F) := by
    intro m
    induction m with
    | zero =>
      intro k hk F inv
      have e : k = n := by omega
      subst e
      refine bX7_solveCells_4 _ _ ⟨fun _ => hP F (fun i hi => ?_), fun c => absurd (by show S.1 9 ≤ _; rw [h9]; exact nI_le (Nat.le_refl _) (by omega)) c⟩
      have := inv i k hi (Nat.le_refl _) (Nat.le_refl _)
      rw [show cl' k k = 10 from if_pos rfl] at this
      exact this
    | succ m ih =>
      intro k hk F inv
      have hkn : k < n := by omega
      refine bX7_solveCells_4 _ _ ⟨fun c => absurd (show nI n ≤ nI k by rw [← h9]; exact c) (nI_ge hkn (by omega)), fun _ => ?_⟩
      rw [show (12 : Int32) * nI k = nI (12 * k) from by rw [show (12 : Int32) = nI 12 from rfl, pk_mul], nI_clamp (by omega)]
      refine ⟨vp_in_nI (by omega) (by decide), ?_⟩
      have ep : (sB S 14 F).2.2.2 14 (12 * k) = lI (gV n E C k k k) := by
        have := inv k k hkn (Nat.le_refl _) (by omega)
        rw [cl_lo hkn, show 11 * k + k = 12 * k by omega] at this
        exact this
      rw [ep]
      have rows : ∀ a i, i + a = n → ∀ F : Nat → Int64, (∀ i2 j, i2 < n → i2 < i → k < j → j ≤ n → F (11 * i2 + cl' n j) = lI (gV n E C (k + 1) i2 j)) → (∀ i2 j, i2 < n → (i ≤ i2 ∨ i2 = k) → k ≤ j → j ≤ n → F (11 * i2 + cl' n j) = lI (gV n E C k i2 j)) → wX7_solveCells P 26 [.ref 47, .long (lI (gd n E C k)), .retAddr 0, .int (nI k), .long (lI (gV n E C k k k)), .retAddr 0, .int (nI i), .retAddr 0, .retAddr 0, .retAddr 0] [] (sB S 14 F) := by
        intro a
        induction a with
        | zero =>
          intro i hi F i1 i2
          have e : i = n := by omega
          subst e
          refine bX7_solveCells_26 _ _ _ _ ⟨fun _ => ?_, fun c => absurd (by show S.1 9 ≤ _; rw [h9]; exact nI_le (Nat.le_refl _) (by omega)) c⟩
          rw [nI_1, gV_piv]
          exact ih (k + 1) (by omega) F (fun i2 j h1 h2 h3 => i1 i2 j h1 h1 (by omega) h3)
        | succ a iha =>
          intro i hi F i1 i2
          have hin : i < n := by omega
          refine bX7_solveCells_26 _ _ _ _ ⟨fun c => absurd (show nI n ≤ nI i by rw [← h9]; exact c) (nI_ge hin (by omega)), fun _ => ?_⟩
          rw [ix11, nI_clamp (by omega)]
          refine ⟨vp_in_nI (by omega) (by decide), ?_⟩
          have ef : (sB S 14 F).2.2.2 14 (11 * i + k) = lI (gV n E C k i k) := by
            have := i2 i k hin (Or.inl (Nat.le_refl _)) (Nat.le_refl _) (by omega)
            rw [cl_lo hkn] at this
            exact this
          rw [ef]
          by_cases c : i = k
          · -- the pivot's own row stays
            refine bX7_solveCells_52 _ _ _ _ _ _ ⟨fun z => absurd z (by decide), fun _ => ⟨fun _ => ?_, fun z => absurd (by rw [c]) z⟩⟩
            rw [nI_1]
            subst c
            refine iha (i + 1) (by omega) F (fun y j h1 h2 h3 h4 => ?_) (fun y j h1 h2 h3 h4 => i2 y j h1 (by omega) h3 h4)
            by_cases z : y = i
            · subst z
              rw [i2 y j h1 (Or.inr rfl) (by omega) h4, gV_own h hin h3 h4]
            · exact i1 y j h1 (by omega) h3 h4
          · have cols : ∀ b x, x + b = 11 → ∀ G : Nat → Int64, (∀ y, (y < 11 * i ∨ 11 * i + 11 ≤ y) → G y = F y) → (∀ j, k < j → j ≤ n → cl' n j < x → G (11 * i + cl' n j) = lI (gV n E C (k + 1) i j)) → (∀ j, k ≤ j → j ≤ n → x ≤ cl' n j → G (11 * i + cl' n j) = F (11 * i + cl' n j)) → wX7_solveCells P 52 [.ref 47, .long (lI (gd n E C k)), .retAddr 0, .int (nI k), .long (lI (gV n E C k k k)), .retAddr 0, .int (nI i), .long (lI (gV n E C k i k)), .retAddr 0, .int (nI x)] [] (sB S 14 G) := by
              intro b
              induction b with
              | zero =>
                intro x hx G g1 g2 g3
                have e : x = 11 := by omega
                subst e
                refine bX7_solveCells_52 _ _ _ _ _ _ ⟨fun _ => ?_, fun z => absurd (by decide) z⟩
                rw [nI_1]
                refine iha (i + 1) (by omega) G (fun y j h1 h2 h3 h4 => ?_) (fun y j h1 h2 h3 h4 => ?_)
                · have cj := cl_lt n10 h4
                  by_cases z : y = i
                  · subst z; exact g2 j h3 h4 (by omega)
                  · rw [g1 _ (by omega)]; exact i1 y j h1 (by omega) h3 h4
                · have cj := cl_lt n10 h4
                  have z : y ≠ i := by omega
                  rw [g1 _ (by omega)]
                  exact i2 y j h1 (by omega) h3 h4
              | succ b ihb =>
                intro x hx G g1 g2 g3
                have hx11 : x < 11 := by omega
                refine bX7_solveCells_52 _ _ _ _ _ _ ⟨fun z => absurd z (nI_ge (a := x) (b := 11) hx11 (by decide)), fun _ => ⟨fun z => absurd ((nI_eq (by omega) (by omega)).mp z) c, fun _ => ?_⟩⟩
                rw [ix11, ix11, nI_clamp (by omega), nI_clamp (by omega), nI_1]
                refine ⟨vp_in_nI (by omega) (by decide), vp_in_nI (by omega) (by decide), gd_ne h (show k ≤ n by omega), ?_⟩
                rw [sB_same]
                refine ihb (x + 1) (by omega) _ (fun y hy => ?_) (fun j h1 h2 h3 => ?_) (fun j h1 h2 h3 => ?_)
                · rw [updL_ne (by omega)]; exact g1 y hy
                · by_cases z : cl' n j = x
                  · rw [z, updL_eq]
                    have ea : (sB S 14 G).2.2.2 14 (11 * i + x) = lI (gV n E C k i j) := by
                      rw [← z]
                      show G (11 * i + cl' n j) = _
                      rw [g3 j (by omega) h2 (by omega)]
                      exact i2 i j hin (Or.inl (Nat.le_refl _)) (by omega) h2
                    have eb : (sB S 14 G).2.2.2 14 (11 * k + x) = lI (gV n E C k k j) := by
                      rw [← z]
                      show G (11 * k + cl' n j) = _
                      rw [g1 _ (by omega)]
                      exact i2 k j hkn (Or.inr rfl) (by omega) h2
                    rw [ea, eb, Int64.mul_comm (lI (gV n E C k k k))]
                    exact step_lI h hkn hin c h1 h2
                  · rw [updL_ne (by omega)]; exact g2 j h1 h2 (by omega)
                · rw [updL_ne (by omega)]; exact g3 j h1 h2 (by omega)
            exact cols 11 0 (by omega) F (fun _ _ => rfl) (fun j _ _ hz => by omega) (fun _ _ _ _ => rfl)
      exact rows n 0 (by omega) F (fun y j h1 h2 => by omega) (fun y j h1 _ h3 h4 => inv y j h1 h3 h4)
  have hz := key n 0 (by omega) (S.2.2.2 14) (fun i j h1 _ h3 => by rw [h0 i j h1 (Nat.zero_le _) h3, gV_0 h3])
  rw [sB_self] at hz
  exact hz
