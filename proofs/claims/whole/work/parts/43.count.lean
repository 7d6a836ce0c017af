/-! ===== the call count ===== -/
theorem lsum_add (f f2 : Nat → Nat) : ∀ n, lsum (fun i => f i + f2 i) n = lsum f n + lsum f2 n
  | 0 => rfl
  | n + 1 => by
    show lsum (fun i => f i + f2 i) n + (f n + f2 n) = lsum f n + f n + (lsum f2 n + f2 n)
    rw [lsum_add f f2 n]
    omega
theorem lsum_zero {f : Nat → Nat} : ∀ {n : Nat}, (∀ i, i < n → f i = 0) → lsum f n = 0
  | 0, _ => rfl
  | n + 1, h => by
    show lsum f n + f n = 0
    rw [lsum_zero (fun i hi => h i (by omega)), h n (by omega)]
theorem lsum_ext {f : Nat → Nat} {n m : Nat} (hnm : n ≤ m) (h : ∀ i, n ≤ i → i < m → f i = 0) : lsum f m = lsum f n := by
  have e := lsum_split f n (m - n)
  rw [show n + (m - n) = m by omega] at e
  rw [e, lsum_zero (fun i hi => h (n + i) (by omega) (by omega))]
  rfl
theorem lsum_64 (f : Nat → Nat) : ∀ a, lsum f (8 * a) = lsum (fun p => lsum (fun w => f (8 * p + w)) 8) a
  | 0 => rfl
  | a + 1 => by
    rw [show 8 * (a + 1) = 8 * a + 8 by omega, lsum_split, lsum_64 f a]
    rfl
theorem tri_sum {f : Nat → Nat → Nat} (hs : ∀ p q, f p q = f q p) (hd : ∀ p, f p p = 0) : ∀ k, lsum (fun p => lsum (fun q => f p q) k) k = 2 * lsum (fun p => lsum (fun q => if p < q then f p q else 0) k) k
  | 0 => rfl
  | k + 1 => by
    have e1 : lsum (fun p => lsum (fun q => f p q) (k + 1)) (k + 1) = lsum (fun p => lsum (fun q => f p q) k) k + lsum (fun p => f p k) k + (lsum (fun q => f k q) k + f k k) := by
      show lsum (fun p => lsum (fun q => f p q) k + f p k) k + (lsum (fun q => f k q) k + f k k) = _
      rw [lsum_add]
    have e2 : lsum (fun p => lsum (fun q => if p < q then f p q else 0) (k + 1)) (k + 1) = lsum (fun p => lsum (fun q => if p < q then f p q else 0) k) k + lsum (fun p => f p k) k := by
      show lsum (fun p => lsum (fun q => if p < q then f p q else 0) k + if p < k then f p k else 0) k + lsum (fun q => if k < q then f k q else 0) (k + 1) = _
      rw [lsum_add, lsum_zero (f := fun q => if k < q then f k q else 0) (fun i hi => if_neg (by omega)), lsum_congr (f := fun p => if p < k then f p k else 0) (f2 := fun p => f p k) (fun i hi => if_pos hi)]
      rfl
    rw [e1, e2, tri_sum hs hd k, hd k, lsum_congr (f := fun q => f k q) (f2 := fun p => f p k) (fun i _ => hs k i)]
    omega
/-! what the five simple numbers are -/
def c1S (g : Sg) : Nat := lsum (fun p => cntP g.2.2.2.1 p g.1) g.1
def c2S (g : Sg) : Nat := lsum (fun w => if g.2.2.2.2 w = -1 then 0 else 1) g.1
def c5S (g : Sg) : Nat := lsum (fun w => if sprS g w ≤ nI (g.2.2.1 2) then 0 else 1) g.1
def c6S (g : Sg) : Nat := lsum (fun p => lsum (fun q => if p < q then (if g.2.1 p q then 1 else 0) else 0) 8) 8
theorem cntP_lsum (mk : Nat → Nat → Int32) (p : Nat) : ∀ i, cntP mk p i = lsum (fun w => if mk p w = -1 then 0 else 1) i
  | 0 => rfl
  | i + 1 => by
    unfold cntP
    rw [cntP_lsum mk p i]
    show _ = lsum _ i + _
    split <;> simp_all
theorem c1_64 {g : Sg} (hg : Wf g) : c1S g = lsum (fun x => if g.2.2.2.1 (x / 8) (x % 8) = -1 then 0 else 1) 64 := by
  have h8 := hg.1.2
  rw [show (64 : Nat) = 8 * 8 from rfl, lsum_64, lsum_ext (n := g.1) (m := 8) h8]
  · unfold c1S
    refine lsum_congr (fun p hp => ?_)
    rw [cntP_lsum]
    show _ = lsum (fun w => if g.2.2.2.1 ((8 * p + w) / 8) ((8 * p + w) % 8) = -1 then 0 else 1) 8
    rw [lsum_ext (n := g.1) (m := 8) h8]
    · refine lsum_congr (fun w hw => ?_)
      rw [show (8 * p + w) / 8 = p by omega, show (8 * p + w) % 8 = w by omega]
    · intro w hw hw8
      rw [show (8 * p + w) / 8 = p by omega, show (8 * p + w) % 8 = w by omega]
      exact if_pos (hg.2.2.2.2.2.1 p w (fun z => by omega))
  · intro p hp hp8
    refine lsum_zero (fun w hw => ?_)
    rw [show (8 * p + w) / 8 = p by omega, show (8 * p + w) % 8 = w by omega]
    exact if_pos (hg.2.2.2.2.2.1 p w (fun z => by omega))
theorem c6_64 (g : Sg) : c6S g = lsum (fun x => if x / 8 < x % 8 then (if g.2.1 (x / 8) (x % 8) then 1 else 0) else 0) 64 := by
  rw [show (64 : Nat) = 8 * 8 from rfl, lsum_64]
  unfold c6S
  refine lsum_congr (fun p hp => lsum_congr (fun w hw => ?_))
  rw [show (8 * p + w) / 8 = p by omega, show (8 * p + w) % 8 = w by omega]
theorem howManyMarksX {P : Int32 → St → Prop} {S : St} {g : Sg} (hg : Wf g) (hx : XB g S) (h : P (nI (c1S g)) S) : tX2_howManyMarks S P := by
  have h8 := hg.1.2
  refine bX2_howManyMarks_0 ?_
  refine loop_dn (fun i => wX2_howManyMarks P 4 [.ref 4, .int (nI (lsum (fun p => cntP g.2.2.2.1 p g.1) i)), .int (nI i)] [] S) g.1 (fun i hi ih => ?_) ?_
  · refine bX2_howManyMarks_4 _ _ ⟨fun c => absurd (hx.1 ▸ c) (cnt_step hi h8), fun _ => marksByX hg hx hi ?_⟩
    rw [nI_1, nI_add]
    exact ih
  · exact bX2_howManyMarks_4 _ _ ⟨fun _ => h, fun c => absurd (by rw [hx.1]; exact nI_le (Nat.le_refl _) (by omega)) c⟩
theorem howManyByStaffX {P : Int32 → St → Prop} {S : St} {g : Sg} (hg : Wf g) (hx : XB g S) (h : P (nI (c2S g)) S) : tX2_howManyByStaff S P := by
  have h8 := hg.1.2
  refine bX2_howManyByStaff_0 ?_
  refine loop_dn (fun i => wX2_howManyByStaff P 4 [.ref 4, .int (nI (lsum (fun w => if g.2.2.2.2 w = -1 then 0 else 1) i)), .int (nI i)] [] S) g.1 (fun i hi ih => ?_) ?_
  · refine bX2_howManyByStaff_4 _ _ ⟨fun c => absurd (hx.1 ▸ c) (cnt_step hi h8), fun _ => ⟨ii hi h8, ?_⟩⟩
    rw [nI_1, nI_1, nI_clamp (by omega), hx.2.2.2.2 i (by omega)]
    have ih2 : wX2_howManyByStaff P 4 [.ref 4, .int (nI (lsum (fun w => if g.2.2.2.2 w = -1 then 0 else 1) i + if g.2.2.2.2 i = -1 then 0 else 1)), .int (nI (i + 1))] [] S := ih
    refine ⟨fun c => ?_, fun c => ?_⟩
    · rw [if_pos c] at ih2; exact ih2
    · rw [if_neg c] at ih2; exact ih2
  · exact bX2_howManyByStaff_4 _ _ ⟨fun _ => h, fun c => absurd (by rw [hx.1]; exact nI_le (Nat.le_refl _) (by omega)) c⟩
theorem howManyAppealedX {P : Int32 → St → Prop} {S : St} {g : Sg} (hg : Wf g) (hx : XB g S) (h : P (nI (c5S g)) S) : tX2_howManyAppealed S P := by
  have h8 := hg.1.2
  refine bX2_howManyAppealed_0 ?_
  refine loop_dn (fun i => wX2_howManyAppealed P 4 [.ref 4, .int (nI (lsum (fun w => if sprS g w ≤ nI (g.2.2.1 2) then 0 else 1) i)), .int (nI i)] [] S) g.1 (fun i hi ih => ?_) ?_
  · refine bX2_howManyAppealed_4 _ _ ⟨fun c => absurd (hx.1 ▸ c) (cnt_step hi h8), fun _ => spreadOfX hg hx hi ?_⟩
    rw [nI_1, nI_1, hx.2.2.1 2 (by decide)]
    have ih2 : wX2_howManyAppealed P 4 [.ref 4, .int (nI (lsum (fun w => if sprS g w ≤ nI (g.2.2.1 2) then 0 else 1) i + if sprS g i ≤ nI (g.2.2.1 2) then 0 else 1)), .int (nI (i + 1))] [] S := ih
    refine ⟨fun c => ?_, fun c => ?_⟩
    · rw [if_pos c] at ih2; exact ih2
    · rw [if_neg c] at ih2; exact ih2
  · exact bX2_howManyAppealed_4 _ _ ⟨fun _ => h, fun c => absurd (by rw [hx.1]; exact nI_le (Nat.le_refl _) (by omega)) c⟩
theorem fr_cs (g : Sg) (p : Nat) : csum (fun _ => 1) (msk (g.2.1 p) 8) 8 = lsum (fun q => if g.2.1 p q then 1 else 0) 8 := by
  rw [csum_lsum]
  refine lsum_congr (fun q hq => ?_)
  rw [msk_bit]
  simp [hq]
theorem pairsX {P : Int32 → St → Prop} {S : St} {g : Sg} (hg : Wf g) (hx : XB g S) (h : P (nI (c6S g)) S) : tX1_pairsOfFriends S P := by
  have h8 := hg.1.2
  refine bX1_pairsOfFriends_0 ?_
  have tot : lsum (fun p => lsum (fun q => if g.2.1 p q then 1 else 0) 8) g.1 = 2 * c6S g := by
    rw [← lsum_ext (n := g.1) (m := 8) h8]
    · exact tri_sum (f := fun p q => if g.2.1 p q then 1 else 0) (fun p q => by rw [hg.2.1 p q]) (fun p => if_neg (fun z => (hg.2.2.1 p p z).2.2 rfl)) 8
    · intro p hp hp8
      exact lsum_zero (fun q hq => if_neg (fun z => by have := (hg.2.2.1 p q z).1; omega))
  have c6le : c6S g < 2 ^ 20 := by
    have h1 : ∀ p, lsum (fun q => if p < q then (if g.2.1 p q then 1 else 0) else 0) 8 ≤ 8 := fun p => lsum_le1 (fun i => by split <;> (try split) <;> omega) 8
    unfold c6S
    simp only [lsum]
    have a0 := h1 0; have a1 := h1 1; have a2 := h1 2; have a3 := h1 3; have a4 := h1 4; have a5 := h1 5; have a6 := h1 6; have a7 := h1 7
    simp only [lsum] at a0 a1 a2 a3 a4 a5 a6 a7
    omega
  refine loop_dn (fun i => wX1_pairsOfFriends P 4 [.ref 1, .int (nI (lsum (fun p => lsum (fun q => if g.2.1 p q then 1 else 0) 8) i)), .int (nI i)] [] S) g.1 (fun i hi ih => ?_) ?_
  · refine bX1_pairsOfFriends_4 _ _ ⟨fun c => absurd (hx.1 ▸ c) (cnt_step hi h8), fun _ => ⟨ii hi h8, ?_⟩⟩
    rw [nI_1, nI_clamp (by omega), hx.2.1 i (by omega), wbc_256 _ (msk_lt _ (Nat.le_refl _)), nI_add, fr_cs]
    exact ih
  · refine bX1_pairsOfFriends_4 _ _ ⟨fun _ => ?_, fun c => absurd (by rw [hx.1]; exact nI_le (Nat.le_refl _) (by omega)) c⟩
    rw [tot, show nI (2 * c6S g) / 2 = nI (2 * c6S g / 2) from pk_div (d := 2) (by omega) (by decide) (by decide), show 2 * c6S g / 2 = c6S g by omega]
    exact h
noncomputable def cntS (g : Sg) (k : Nat) : Nat := if k = 0 then g.1 else if k = 1 then c1S g else if k = 2 then c2S g else if k = 3 then rtc (whoS g) g.1 else if k = 4 then lgc g g.1 else if k = 5 then c5S g else c6S g
theorem countX {P : Int32 → St → Prop} {S : St} {g : Sg} {Sol : Sg → Nat → St → Prop} (hg : Wf g) (hx : XB g S) (hp : XP Sol g S) {a : Int32} (h : ∀ k S1, k < 7 → a = nI k → SameP S S1 → XP Sol g S1 → P (nI (cntS g k)) S1) (ho : (a.toInt < 0 ∨ 6 < a.toInt) → P (-1002) S) : tX6_count a S P := by
  have ak : ∀ k : Nat, k < 7 → a.toInt = (k : Int) → a = nI k := fun k hk e => by
    apply Int32.toInt_inj.mp
    rw [e, nI_toInt (by omega)]
  refine bX6_count_0 _ ⟨ho, fun e => ?_, fun e => ?_, fun e => ?_, fun e => ?_, fun e => ?_, fun e => ?_, fun e => ?_⟩
  · rw [hx.1]; exact h 0 S (by decide) (ak 0 (by decide) e) (SameP.rf S) hp
  · exact howManyMarksX hg hx (h 1 S (by decide) (ak 1 (by decide) e) (SameP.rf S) hp)
  · exact howManyByStaffX hg hx (h 2 S (by decide) (ak 2 (by decide) e) (SameP.rf S) hp)
  · exact howManyX hg hx hp (fun S1 hs hf => h 3 S1 (by decide) (ak 3 (by decide) e) hs (Or.inr hf))
  · exact howManyLargeX hg hx hp (fun S1 hs hf => h 4 S1 (by decide) (ak 4 (by decide) e) hs (Or.inr hf))
  · exact howManyAppealedX hg hx (h 5 S (by decide) (ak 5 (by decide) e) (SameP.rf S) hp)
  · exact pairsX hg hx (h 6 S (by decide) (ak 6 (by decide) e) (SameP.rf S) hp)
/-! the reference -/
def f64 (g : Sg) (a : Int32) (x : Nat) : Nat := if a = 1 then (if g.2.2.2.1 (x / 8) (x % 8) = -1 then 0 else 1) else if a = 6 then (if x / 8 < x % 8 then (if g.2.1 (x / 8) (x % 8) then 1 else 0) else 0) else 0
def f8 (g : Sg) (a : Int32) (w : Nat) : Nat := if a = 2 then (if g.2.2.2.2 w = -1 then 0 else 1) else if a = 5 then (if sprS g w ≤ nI (g.2.2.1 2) then 0 else 1) else 0
theorem mk_nn {v : Int32} (h : mkok v) : 0 ≤ v ↔ v ≠ -1 := by
  refine ⟨fun c e => ?_, fun c => ?_⟩
  · subst e
    exact absurd c (by decide)
  · rw [Int32.le_iff_toInt_le]
    exact (mk_pos h c).1
theorem f64_1 (g : Sg) : lsum (f64 g 1) 64 = c1S g ∨ ¬ Wf g := by
  by_cases hg : Wf g
  · refine Or.inl ?_
    rw [c1_64 hg]
    exact lsum_congr (fun i _ => by unfold f64; rw [if_pos rfl])
  · exact Or.inr hg
theorem f64_6 (g : Sg) : lsum (f64 g 6) 64 = c6S g := by
  rw [c6_64]
  exact lsum_congr (fun i _ => by unfold f64; rw [if_neg (by decide), if_pos rfl])
theorem f64_0 {g : Sg} {a : Int32} (h1 : a ≠ 1) (h6 : a ≠ 6) (n : Nat) : lsum (f64 g a) n = 0 := lsum_zero (fun i _ => by unfold f64; rw [if_neg h1, if_neg h6])
theorem f8_0 {g : Sg} {a : Int32} (h1 : a ≠ 2) (h6 : a ≠ 5) (n : Nat) : lsum (f8 g a) n = 0 := lsum_zero (fun i _ => by unfold f8; rw [if_neg h1, if_neg h6])
theorem f8_2 (g : Sg) : lsum (f8 g 2) g.1 = c2S g := lsum_congr (fun i _ => by unfold f8; rw [if_pos rfl])
theorem f8_5 (g : Sg) : lsum (f8 g 5) g.1 = c5S g := lsum_congr (fun i _ => by unfold f8; rw [if_neg (by decide), if_pos rfl])
theorem countM {P : Int32 → St → Prop} {S : St} {g : Sg} (hg : Wf g) (hx0 : MB g S) {a : Int32} (h : ∀ k S1, k < 7 → a = nI k → SR S S1 → P (nI (cntS g k)) S1) (ho : (a.toInt < 0 ∨ 6 < a.toInt) → ∀ S1, SR S S1 → P (-1002) S1) : tX7_count a S P := by
  have h8 := hg.1.2
  refine bX7_count_0 _ (findPartsM hg hx0 (fun F hF => ?_))
  have hs : SR S (sA S 30 F) := SR.A (by decide)
  have hx := hx0.sr hs
  have hF2 : ∀ x, x < 16 → (sA S 30 F).2.2.1 30 x = nI (labS (whoS g) x) := hF
  have hk := fun k h1 h2 => h k _ h1 h2 hs
  have ho := fun z => ho z _ hs
  generalize (sA S 30 F) = S1 at hx hF2 hk ho
  have ak : ∀ k : Nat, k < 7 → a.toInt = (k : Int) → a = nI k := fun k hk e => by
    apply Int32.toInt_inj.mp
    rw [e, nI_toInt (by omega)]
  have az : ∀ v, nI v + 0 = nI v := fun a => Int32.add_zero _
  -- the works
  have works : wX7_count P 70 [.ref 47, .int a, .int (nI (lsum (f64 g a) 64)), .int 0] [] S1 := by
    refine loop_dn (fun w => wX7_count P 70 [.ref 47, .int a, .int (nI (lsum (f64 g a) 64 + lsum (f8 g a) w)), .int (nI w)] [] S1) g.1 (fun w hw ih => ?_) ?_
    · refine bX7_count_70 _ _ _ ⟨fun c => absurd (hx.1 ▸ c) (cnt_step hw h8), fun _ => ?_⟩
      have ih2 : wX7_count P 70 [.ref 47, .int a, .int (nI (lsum (f64 g a) 64 + (lsum (f8 g a) w + f8 g a w))), .int (nI (w + 1))] [] S1 := ih
      rw [← Nat.add_assoc] at ih2
      unfold f8 at ih2
      rw [nI_1, nI_1, az, nI_clamp (by omega), hx.2.2.2.2 w (by omega)]
      refine ⟨fun c2 => ?_, fun c2 => ?_⟩
      · rw [if_neg c2] at ih2
        refine ⟨fun c5 => ?_, fun c5 => spreadOfM hg hx hw ?_⟩
        · rw [if_neg c5] at ih2; exact ih2
        · rw [if_pos c5] at ih2
          rw [hx.2.2.1 2 (by decide)]
          refine ⟨fun c => ?_, fun c => ?_⟩
          · rw [if_pos c] at ih2; exact ih2
          · rw [if_neg c] at ih2; exact ih2
      · rw [if_pos c2] at ih2
        have n5 : ¬ a = 5 := by rw [c2]; decide
        refine ⟨vp_in_nI (by omega) (by decide), ?_⟩
        rw [mk_nn (hg.2.2.2.2.2.2.1 w)]
        refine ⟨fun c => ?_, fun c => ⟨fun _ => ?_, fun z => absurd z n5⟩⟩
        · rw [if_neg c] at ih2; exact ih2
        · rw [if_pos (Classical.byContradiction c)] at ih2; exact ih2
    · refine bX7_count_70 _ _ _ ⟨fun _ => ?_, fun c => absurd (by rw [hx.1]; exact nI_le (Nat.le_refl _) (by omega)) c⟩
      refine ⟨ho, fun e => ?_, fun e => ?_, fun e => ?_, fun e => ?_, fun e => ?_, fun e => ?_, fun e => ?_⟩
      · rw [hx.1]; exact hk 0 (by decide) (ak 0 (by decide) e)
      · have e2 : a = 1 := ak 1 (by decide) e
        subst e2
        have := hk 1 (by decide) rfl
        rw [show cntS g 1 = c1S g from rfl] at this
        rw [f8_0 (by decide) (by decide), Nat.add_zero, (f64_1 g).resolve_right (fun z => z hg)]
        exact this
      · have e2 : a = 2 := ak 2 (by decide) e
        subst e2
        have := hk 2 (by decide) rfl
        rw [show cntS g 2 = c2S g from rfl] at this
        rw [f64_0 (by decide) (by decide), Nat.zero_add, f8_2]
        exact this
      · exact piecesM hg hx hF2 (k := 1) (by decide) (by rw [pgc_1 (whoS_ok hg) g.1 (Nat.le_refl _)]; exact hk 3 (by decide) (ak 3 (by decide) e))
      · exact piecesM hg hx hF2 (k := 10) (by decide) (by rw [pgc_10 hg g.1 (Nat.le_refl _)]; exact hk 4 (by decide) (ak 4 (by decide) e))
      · have e2 : a = 5 := ak 5 (by decide) e
        subst e2
        have := hk 5 (by decide) rfl
        rw [show cntS g 5 = c5S g from rfl] at this
        rw [f64_0 (by decide) (by decide), Nat.zero_add, f8_5]
        exact this
      · have e2 : a = 6 := ak 6 (by decide) e
        subst e2
        have := hk 6 (by decide) rfl
        rw [show cntS g 6 = c6S g from rfl] at this
        rw [f8_0 (by decide) (by decide), Nat.add_zero, f64_6]
        exact this
  refine loop_dn (fun x => wX7_count P 8 [.ref 47, .int a, .int (nI (lsum (f64 g a) x)), .int (nI x)] [] S1) 64 (fun x hx64 ih => ?_) ?_
  · refine bX7_count_8 _ _ _ ⟨fun c => absurd c (nI_ge (a := x) (b := 64) hx64 (by decide)), fun _ => ?_⟩
    have ih2 : wX7_count P 8 [.ref 47, .int a, .int (nI (lsum (f64 g a) x + f64 g a x)), .int (nI (x + 1))] [] S1 := ih
    unfold f64 at ih2
    have hm : S1.2.2.1 26 x = g.2.2.2.1 (x / 8) (x % 8) := by
      have := hx.2.2.2.1 (x / 8) (x % 8) (by omega) (by omega)
      rw [show 8 * (x / 8) + x % 8 = x by omega] at this
      exact this
    have hf : S1.2.2.1 24 x = if g.2.1 (x / 8) (x % 8) then 1 else 0 := by
      have := hx.2.1 (x / 8) (x % 8) (by omega) (by omega)
      rw [show 8 * (x / 8) + x % 8 = x by omega] at this
      exact this
    rw [nI_rem8 hx64, nI_div8 hx64, nI_leI (by omega) (by omega), nI_1, nI_1, az, nI_clamp (by omega), hm, hf, mk_nn (hg.2.2.2.2.1 _ _)]
    refine ⟨fun c1 => ?_, fun c1 => ?_⟩
    · rw [if_neg c1] at ih2
      refine ⟨fun c6 => ?_, fun c6 => ?_⟩
      · rw [if_neg c6] at ih2; exact ih2
      · rw [if_pos c6] at ih2
        refine ⟨fun c => ?_, fun c => ⟨vp_in_nI hx64 (by decide), ?_⟩⟩
        · rw [if_neg (by omega)] at ih2; exact ih2
        · rw [if_pos (by omega)] at ih2
          cases e : g.2.1 (x / 8) (x % 8) with
          | true => rw [e] at ih2; exact ⟨fun z => absurd z (by decide), fun _ => ih2⟩
          | false => rw [e] at ih2; exact ⟨fun _ => ih2, fun z => absurd rfl z⟩
    · rw [if_pos c1] at ih2
      have n6 : ¬ a = 6 := by rw [c1]; decide
      refine ⟨vp_in_nI hx64 (by decide), fun c => ?_, fun c => ⟨fun _ => ?_, fun z => absurd z n6⟩⟩
      · rw [if_neg c] at ih2; exact ih2
      · rw [if_pos (Classical.byContradiction c)] at ih2; exact ih2
  · exact bX7_count_8 _ _ _ ⟨fun _ => works, fun c => absurd (by decide) c⟩
