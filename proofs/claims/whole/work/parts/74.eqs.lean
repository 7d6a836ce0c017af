/-! ===== the class's rows of equations ===== -/
def ER (k : Nat) (V : Nat → Nat → Int) (S : St) : Prop := S.1 5 = nI k ∧ ∀ i j, i < k → j ≤ k → S.2.2.2 (3 + i) j = lI (V i j)
theorem holdsE {P : Int32 → St → Prop} {S : St} {k i : Nat} (h5 : S.1 5 = nI k) (hi : i < k) (hk : k ≤ 10) (h : P 1 S) : tX0_holds (nI i) S P := by
  refine bX0_holds_0 _ ⟨fun c => absurd c (fun z => ?_), fun _ => ⟨fun c => absurd (h5 ▸ c) (nI_ge hi (by omega)), fun _ => h⟩⟩
  have := Int32.lt_iff_toInt_lt.mp z
  rw [nI_toInt (by omega), show (0 : Int32).toInt = 0 from rfl] at this
  omega
theorem addSqE {P : St → Prop} {S : St} {k i : Nat} {V : Nat → Nat → Int} {v : Int32} (he : ER k V S) (hi : i < k) (hk : k ≤ 10) (h : ∀ S1, FrB eqB S S1 → ER k (fun a b => V a b + (if a = i ∧ b = i then 1 else 0) + (if a = i ∧ b = k then v.toInt else 0)) S1 → P S1) : tX0_addSquare (nI i) v S P := by
  obtain ⟨h5, hv⟩ := he
  refine bX0_addSquare_0 _ _ (holdsE h5 hi hk ⟨fun z => absurd z (by decide), fun _ => ⟨vp_in_nI (by omega) (by decide), vp_in_nI (by omega) (by decide), by rw [h5]; exact vp_in_nI (by omega) (by decide), ?_⟩⟩)
  rw [nI_clamp (by omega), h5, nI_clamp (by omega), sB_same]
  have eF : (sB S (3 + i) (vp_updL (S.2.2.2 (3 + i)) i (S.2.2.2 (3 + i) i + 1))).2.2.2 (3 + i) = vp_updL (S.2.2.2 (3 + i)) i (S.2.2.2 (3 + i) i + 1) := up_eq (f := S.2.2.2) (k := 3 + i)
  rw [eF]
  refine h _ (FrB.B (eqB_in (by omega))) ⟨h5, fun a b ha hb => ?_⟩
  show _ = lI (V a b + (if a = i ∧ b = i then 1 else 0) + (if a = i ∧ b = k then v.toInt else 0))
  by_cases e : a = i
  · subst e
    show va_up S.2.2.2 (3 + a) _ (3 + a) b = _
    rw [up_eq]
    by_cases eb : b = k
    · subst eb
      rw [updL_eq, updL_ne (show b ≠ a by omega), hv a b ha (Nat.le_refl _), i_toI64, lI_add, if_neg (show ¬ (a = a ∧ b = a) from fun z => by omega), if_pos ⟨rfl, rfl⟩, Int.add_zero]
    · rw [updL_ne eb]
      by_cases ei : b = a
      · subst ei
        rw [updL_eq, hv b b ha hb, show (1 : Int64) = lI 1 from rfl, lI_add, if_pos ⟨rfl, rfl⟩, if_neg (fun z => eb z.2), Int.add_zero]
      · rw [updL_ne ei, hv a b ha hb, if_neg (fun z => ei z.2), if_neg (fun z => eb z.2), Int.add_zero, Int.add_zero]
  · show va_up S.2.2.2 (3 + i) _ (3 + a) b = _
    rw [up_ne (by omega), hv a b ha hb, if_neg (fun z => e z.1), if_neg (fun z => e z.1), Int.add_zero, Int.add_zero]
theorem addFaE {P : St → Prop} {S : St} {k i j : Nat} {V : Nat → Nat → Int} (he : ER k V S) (hi : i < k) (hj : j < k) (hk : k ≤ 10) (h : ∀ S1, FrB eqB S S1 → ER k (fun a b => V a b + (if a = i ∧ b = j then 1 else 0)) S1 → P S1) : tX0_addFactor (nI i) (nI j) S P := by
  obtain ⟨h5, hv⟩ := he
  refine bX0_addFactor_0 _ _ (holdsE h5 hi hk ⟨fun z => absurd z (by decide), fun _ => holdsE h5 hj hk ⟨fun z => absurd z (by decide), fun _ => ⟨vp_in_nI (by omega) (by decide), vp_in_nI (by omega) (by decide), ?_⟩⟩⟩)
  rw [nI_clamp (by omega), nI_clamp (by omega)]
  refine h _ (FrB.B (eqB_in (by omega))) ⟨h5, fun a b ha hb => ?_⟩
  show _ = lI (V a b + (if a = i ∧ b = j then 1 else 0))
  by_cases e : a = i
  · subst e
    show va_up S.2.2.2 (3 + a) _ (3 + a) b = _
    rw [up_eq]
    by_cases ej : b = j
    · subst ej
      rw [updL_eq, hv a b ha hb, show (1 : Int64) = lI 1 from rfl, lI_add, if_pos ⟨rfl, rfl⟩]
    · rw [updL_ne ej, hv a b ha hb, if_neg (fun z => ej z.2), Int.add_zero]
  · show va_up S.2.2.2 (3 + i) _ (3 + a) b = _
    rw [up_ne (by omega), hv a b ha hb, if_neg (fun z => e z.1), Int.add_zero]
theorem addSumE {P : St → Prop} {S : St} {k i j : Nat} {V : Nat → Nat → Int} {v : Int32} (he : ER k V S) (hi : i < k) (hj : j < k) (hk : k ≤ 10) (h : ∀ S1, FrB eqB S S1 → ER k (fun a b => V a b + (if a = i ∧ b = i then 1 else 0) + (if a = i ∧ b = k then v.toInt else 0) + (if a = j ∧ b = j then 1 else 0) + (if a = j ∧ b = k then v.toInt else 0) + (if a = i ∧ b = j then 1 else 0) + (if a = j ∧ b = i then 1 else 0)) S1 → P S1) : tX0_addSquareOfSum (nI i) (nI j) v S P := by
  refine bX0_addSquareOfSum_0 _ _ _ (addSqE he hi hk (fun S1 f1 e1 => addSqE e1 hj hk (fun S2 f2 e2 => addFaE e2 hi hj hk (fun S3 f3 e3 => addFaE e3 hj hi hk (fun S4 f4 e4 => ?_)))))
  exact h S4 (((f1.tr f2).tr f3).tr f4) e4
