/-! ===== the class clears its rows ===== -/
theorem startE {P : St → Prop} {S : St} {k : Nat} (hk : k ≤ 10) (h : ∀ S1, FrB eqB (sI S 5 (nI k)) S1 → ER k (fun _ _ => 0) S1 → P S1) : tX0_start (nI k) S P := by
  refine bX0_start_0 _ ?_
  have e : (if (0 : Int32) < (if (10 : Int32) < nI k then (10 : Int32) else nI k) then (if (10 : Int32) < nI k then (10 : Int32) else nI k) else (0 : Int32)) = nI k := by
    have n10 : ¬ (10 : Int32) < nI k := fun z => by
      have := (nI_ltI (a := 10) (b := k) (by decide) (by omega)).mp z
      omega
    rw [if_neg n10]
    by_cases c : 0 < k
    · exact if_pos (show (0 : Int32) < nI k from (nI_ltI (a := 0) (b := k) (by decide) (by omega)).mpr c)
    · have e : k = 0 := by omega
      subst e
      rfl
  rw [e]
  have key : ∀ m i, i + m = k → ∀ S1, FrB eqB (sI S 5 (nI k)) S1 → (∀ a j, a < i → j ≤ k → S1.2.2.2 (3 + a) j = 0) → wX0_start P 16 [.ref 21, .int (nI k), .int (nI i)] [] S1 := by
    intro m
    induction m with
    | zero =>
      intro i hi S1 fr inv
      have e : i = k := by omega
      subst e
      have e5 : S1.1 5 = nI i := by rw [fr.1]; exact up_eq (f := S.1) (k := 5)
      exact bX0_start_16 _ _ ⟨fun _ => h S1 fr ⟨e5, fun a j ha hj => inv a j ha hj⟩, fun c => absurd (by rw [e5]; exact nI_le (Nat.le_refl _) (by omega)) c⟩
    | succ m ih =>
      intro i hi S1 fr inv
      have hik : i < k := by omega
      have e5 : S1.1 5 = nI k := by rw [fr.1]; exact up_eq (f := S.1) (k := 5)
      refine bX0_start_16 _ _ ⟨fun c => absurd (e5 ▸ c) (nI_ge hik (by omega)), fun _ => ⟨vp_in_nI (by omega) (by decide), ?_⟩⟩
      rw [nI_1, nI_clamp (by omega)]
      refine ih (i + 1) (by omega) _ (fr.tr (FrB.B (eqB_in (by omega)))) (fun a j ha hj => ?_)
      by_cases z : a = i
      · subst z
        show va_up S1.2.2.2 (3 + a) _ (3 + a) j = 0
        rw [up_eq, wfill, if_pos (by omega)]
      · show va_up S1.2.2.2 (3 + i) _ (3 + a) j = 0
        rw [up_ne (by omega)]
        exact inv a j (by omega) hj
  exact key k 0 (by omega) _ (FrB.rf _ _) (fun a j ha => by omega)
