/-! ===== what the system holds: pupils, friends, rules, marks, staff's marks; the class's cells and the reference's ===== -/
abbrev Sg : Type := Nat × (Nat → Nat → Bool) × (Nat → Nat) × (Nat → Nat → Int32) × (Nat → Int32)
def mkok (v : Int32) : Prop := -1 ≤ v.toInt ∧ v.toInt ≤ 100
def Wf (g : Sg) : Prop := (2 ≤ g.1 ∧ g.1 ≤ 8) ∧ (∀ p q, g.2.1 p q = g.2.1 q p) ∧ (∀ p q, g.2.1 p q = true → p < g.1 ∧ q < g.1 ∧ p ≠ q) ∧ (1 ≤ g.2.2.1 0 ∧ g.2.2.1 0 ≤ 4 ∧ 1 ≤ g.2.2.1 1 ∧ g.2.2.1 1 ≤ 8 ∧ g.2.2.1 2 ≤ 100) ∧ (∀ p w, mkok (g.2.2.2.1 p w)) ∧ (∀ p w, ¬ (p < g.1 ∧ w < g.1 ∧ p ≠ w) → g.2.2.2.1 p w = -1) ∧ (∀ w, mkok (g.2.2.2.2 w)) ∧ (∀ w, g.1 ≤ w → g.2.2.2.2 w = -1)
/-- the class's own cells -/
def XB (g : Sg) (S : St) : Prop := S.1 0 = nI g.1 ∧ (∀ p, p < 8 → S.2.2.1 0 p = nI (msk (g.2.1 p) 8)) ∧ (∀ k, k < 3 → S.2.2.1 1 k = nI (g.2.2.1 k)) ∧ (∀ p w, p < 8 → w < 8 → S.2.2.1 (2 + p) w = g.2.2.2.1 p w) ∧ (∀ w, w < 8 → S.2.2.1 10 w = g.2.2.2.2 w)
/-- the reference's own cells -/
def MB (g : Sg) (S : St) : Prop := S.1 8 = nI g.1 ∧ (∀ p q, p < 8 → q < 8 → S.2.2.1 24 (8 * p + q) = if g.2.1 p q then 1 else 0) ∧ (∀ k, k < 3 → S.2.2.1 25 k = nI (g.2.2.1 k)) ∧ (∀ p w, p < 8 → w < 8 → S.2.2.1 26 (8 * p + w) = g.2.2.2.1 p w) ∧ (∀ w, w < 8 → S.2.2.1 27 w = g.2.2.2.2 w)
/-- only the class's cells may differ -/
def SameM (S S1 : St) : Prop := (∀ k, 8 ≤ k → S1.1 k = S.1 k) ∧ S1.2.1 = S.2.1 ∧ (∀ k, 24 ≤ k → S1.2.2.1 k = S.2.2.1 k) ∧ (∀ k, 14 ≤ k → S1.2.2.2 k = S.2.2.2 k)
/-- only the reference's cells may differ -/
def SameX (S S1 : St) : Prop := (∀ k, k < 8 → S1.1 k = S.1 k) ∧ (∀ k, k < 24 → S1.2.2.1 k = S.2.2.1 k) ∧ (∀ k, k < 14 → S1.2.2.2 k = S.2.2.2 k)
theorem SameM.rf (S : St) : SameM S S := ⟨fun _ _ => rfl, rfl, fun _ _ => rfl, fun _ _ => rfl⟩
theorem SameX.rf (S : St) : SameX S S := ⟨fun _ _ => rfl, fun _ _ => rfl, fun _ _ => rfl⟩
theorem SameM.tr {S S1 S2 : St} (h : SameM S S1) (h2 : SameM S1 S2) : SameM S S2 := ⟨fun k hk => (h2.1 k hk).trans (h.1 k hk), h2.2.1.trans h.2.1, fun k hk => (h2.2.2.1 k hk).trans (h.2.2.1 k hk), fun k hk => (h2.2.2.2 k hk).trans (h.2.2.2 k hk)⟩
theorem SameX.tr {S S1 S2 : St} (h : SameX S S1) (h2 : SameX S1 S2) : SameX S S2 := ⟨fun k hk => (h2.1 k hk).trans (h.1 k hk), fun k hk => (h2.2.1 k hk).trans (h.2.1 k hk), fun k hk => (h2.2.2 k hk).trans (h.2.2 k hk)⟩
theorem up_ne {α : Type} {f : Nat → α} {k j : Nat} {v : α} (h : j ≠ k) : va_up f k v j = f j := if_neg h
theorem up_eq {α : Type} {f : Nat → α} {k : Nat} {v : α} : va_up f k v k = v := if_pos rfl
theorem SameM.I {S : St} {k : Nat} {v : Int32} (h : k < 8) : SameM S (sI S k v) := ⟨fun j hj => up_ne (by omega), rfl, fun _ _ => rfl, fun _ _ => rfl⟩
theorem SameM.A {S : St} {k : Nat} {f : Nat → Int32} (h : k < 24) : SameM S (sA S k f) := ⟨fun _ _ => rfl, rfl, fun j hj => up_ne (by omega), fun _ _ => rfl⟩
theorem SameM.B {S : St} {k : Nat} {f : Nat → Int64} (h : k < 14) : SameM S (sB S k f) := ⟨fun _ _ => rfl, rfl, fun _ _ => rfl, fun j hj => up_ne (by omega)⟩
theorem SameX.I {S : St} {k : Nat} {v : Int32} (h : 8 ≤ k) : SameX S (sI S k v) := ⟨fun j hj => up_ne (by omega), fun _ _ => rfl, fun _ _ => rfl⟩
theorem SameX.J {S : St} {k : Nat} {v : Int64} : SameX S (sJ S k v) := ⟨fun _ _ => rfl, fun _ _ => rfl, fun _ _ => rfl⟩
theorem SameX.A {S : St} {k : Nat} {f : Nat → Int32} (h : 24 ≤ k) : SameX S (sA S k f) := ⟨fun _ _ => rfl, fun j hj => up_ne (by omega), fun _ _ => rfl⟩
theorem SameX.B {S : St} {k : Nat} {f : Nat → Int64} (h : 14 ≤ k) : SameX S (sB S k f) := ⟨fun _ _ => rfl, fun _ _ => rfl, fun j hj => up_ne (by omega)⟩
theorem MB.same {g : Sg} {S S1 : St} (h : MB g S) (hs : SameM S S1) : MB g S1 := by
  obtain ⟨h1, h2, h3, h4, h5⟩ := h
  obtain ⟨s1, s2, s3, s4⟩ := hs
  refine ⟨by rw [s1 8 (by decide)]; exact h1, ?_, ?_, ?_, ?_⟩
  · rw [s3 24 (by decide)]; exact h2
  · rw [s3 25 (by decide)]; exact h3
  · rw [s3 26 (by decide)]; exact h4
  · rw [s3 27 (by decide)]; exact h5
theorem XB.same {g : Sg} {S S1 : St} (h : XB g S) (hs : SameX S S1) : XB g S1 := by
  obtain ⟨h1, h2, h3, h4, h5⟩ := h
  obtain ⟨s1, s2, s3⟩ := hs
  refine ⟨by rw [s1 0 (by decide)]; exact h1, ?_, ?_, ?_, ?_⟩
  · rw [s2 0 (by decide)]; exact h2
  · rw [s2 1 (by decide)]; exact h3
  · intro p w hp hw
    rw [s2 (2 + p) (by omega)]; exact h4 p w hp hw
  · rw [s2 10 (by decide)]; exact h5
/-! leaves -/
theorem nI_8 {n : Nat} (h : n ≤ 8) : n < 2 ^ 31 := Nat.lt_of_le_of_lt h (by decide)
theorem holds_ok {P : Int32 → St → Prop} {S : St} {n : Nat} (hn : S.1 0 = nI n) (h8 : n ≤ 8) {a : Int32} (h1 : ∀ k, k < n → a = nI k → P 1 S) (h0 : (a < 0 ∨ nI n ≤ a) → P 0 S) : tX1_holds a S P := by
  refine bX1_holds_0 _ ⟨fun c => h0 (Or.inl c), fun c => ⟨fun c2 => h0 (Or.inr (hn ▸ c2)), fun c2 => ?_⟩⟩
  rcases nI_cases a (nI_8 h8) with ⟨k, hk, e⟩ | h | h
  · exact h1 k hk e
  · exact absurd h c
  · exact absurd (hn ▸ h) c2
theorem in_ok {P : Int32 → St → Prop} {S : St} {a lo hi : Int64} (h1 : lo.toInt ≤ a.toInt → a.toInt ≤ hi.toInt → P 1 S) (h0 : (a.toInt < lo.toInt ∨ hi.toInt < a.toInt) → P 0 S) : tX7_in a lo hi S P := by
  refine bX7_in_0 _ _ _ ⟨fun c => h0 (Or.inl (lg_lt.mp c)), fun c => ⟨fun c2 => h0 (Or.inr (lg_gt.mp c2)), fun c2 => h1 ?_ ?_⟩⟩
  · have := mt lg_lt.mpr c; omega
  · have := mt lg_gt.mpr c2; omega
theorem is_ok {P : Int32 → St → Prop} {S : St} {n : Nat} (hn : S.1 8 = nI n) (h0n : 0 < n) (h8 : n ≤ 8) {a : Int32} (h1 : ∀ k, k < n → a = nI k → P 1 S) (h0 : (a < 0 ∨ nI n ≤ a) → P 0 S) : tX7_is a S P := by
  refine bX7_is_0 _ ?_
  have e : ((S.1 8 - 1).toInt64).toInt = (n : Int) - 1 := by
    rw [hn, Int32.toInt_toInt64, show (1 : Int32) = nI 1 from rfl, pk_sub_toInt (by omega) (by decide)]
    rfl
  rcases nI_cases a (nI_8 h8) with ⟨k, hk, ek⟩ | hb
  · refine in_ok (fun _ _ => ⟨Or.inr rfl, h1 k hk ek⟩) (fun h => ?_)
    rw [e, Int32.toInt_toInt64, ek, nI_toInt (by omega), show (0 : Int64).toInt = 0 from rfl] at h
    omega
  · refine in_ok (fun c1 c2 => ?_) (fun _ => ⟨Or.inl rfl, h0 hb⟩)
    rw [e, Int32.toInt_toInt64] at c2
    rw [Int32.toInt_toInt64, show (0 : Int64).toInt = 0 from rfl] at c1
    rcases hb with hb | hb
    · have := Int32.lt_iff_toInt_lt.mp hb
      rw [show (0 : Int32).toInt = 0 from rfl] at this
      omega
    · have := Int32.le_iff_toInt_le.mp hb
      rw [nI_toInt (nI_8 h8)] at this
      omega
theorem has_ok {P : Int32 → St → Prop} {S : St} {m k : Nat} (hm : m < 256) (hk : k < 8) (h1 : m.testBit k = true → P 1 S) (h0 : m.testBit k = false → P 0 S) : tX6_has (nI m) (nI k) S P := by
  refine bX6_has_0 _ _ ⟨fun c => h0 ((bit_0 (by omega) hk).mp c), fun c => h1 ?_⟩
  cases e : m.testBit k with
  | true => rfl
  | false => exact absurd ((bit_0 (by omega) hk).mpr e) c
/-- whom a pupil may mark -/
def mayS (g : Sg) (p : Nat) : Nat := msk (fun w => decide (w ≠ p) && !g.2.1 p w) g.1
theorem mayS_bit (g : Sg) (p w : Nat) : (mayS g p).testBit w = (decide (w < g.1) && (decide (w ≠ p) && !g.2.1 p w)) := msk_bit _ _ _
theorem mayS_lt {g : Sg} (h : Wf g) (p : Nat) : mayS g p < 256 := msk_lt _ h.1.2
theorem full_bit {n : Nat} (w : Nat) : (2 ^ n - 1).testBit w = decide (w < n) := Nat.testBit_two_pow_sub_one n w
theorem full_lt {n : Nat} (h : n ≤ 8) : 2 ^ n - 1 < 256 := by
  have : 2 ^ n ≤ 2 ^ 8 := Nat.pow_le_pow_right (by decide) h
  omega
theorem p2_pos (n : Nat) : 0 < 2 ^ n := Nat.pow_pos (by decide)
theorem sub1 {a : Nat} (h : 1 ≤ a) : nI a - 1 = nI (a - 1) := by rw [show (1 : Int32) = nI 1 from rfl, pk_sub h]
theorem mayMark_ok {P : Int32 → St → Prop} {S : St} {g : Sg} (hg : Wf g) (hx : XB g S) {p : Nat} (hp : p < 8) (h : P (nI (mayS g p)) S) : tX1_mayMark (nI p) S P := by
  refine bX1_mayMark_0 _ ⟨vp_in_nI hp (by decide), ?_⟩
  rw [nI_clamp (by omega), hx.2.1 p hp, hx.1, sh1 hg.1.2, sh1 (by omega), sub1 (show 1 ≤ 2 ^ g.1 from p2_pos _), nI_nd _ (full_lt hg.1.2), nI_nd _ (nd_lt _ (full_lt hg.1.2))]
  have e : nd (nd (2 ^ g.1 - 1) (2 ^ p)) (msk (g.2.1 p) 8) = mayS g p := by
    refine set_ext (nd_lt _ (nd_lt _ (full_lt hg.1.2))) (mayS_lt hg p) (fun i hi => ?_)
    rw [nd_bit _ _ (nd_lt _ (full_lt hg.1.2)), nd_bit _ _ (full_lt hg.1.2), full_bit, p2_bit, msk_bit, mayS_bit]
    have e2 : decide (p = i) = !decide (i ≠ p) := by
      by_cases z : p = i
      · subst z; simp
      · have z2 : ¬ i = p := fun q => z q.symm
        simp [z, z2]
    rw [e2]
    simp [hi, Bool.and_assoc]
  rw [e]
  exact h
theorem ix64 {p q : Nat} (hp : p < 8) (hq : q < 8) : (8 : Int32) * nI p + nI q = nI (8 * p + q) := by
  rw [show (8 : Int32) = nI 8 from rfl, pk_mul, nI_add]
theorem can_ok {P : Int32 → St → Prop} {S : St} {g : Sg} (hx : MB g S) {p w : Nat} (hp : p < 8) (hw : w < 8) (h1 : w ≠ p → g.2.1 p w = false → P 1 S) (h0 : (w = p ∨ g.2.1 p w = true) → P 0 S) : tX7_canMark (nI p) (nI w) S P := by
  refine bX7_canMark_0 _ _ ⟨fun c => h0 (Or.inl ((nI_eq (by omega) (by omega)).mp c).symm), fun c => ?_⟩
  have hne : w ≠ p := fun z => c (by rw [z])
  rw [ix64 hp hw, nI_clamp (by omega)]
  refine ⟨vp_in_nI (by omega) (by decide), ?_⟩
  rw [hx.2.1 p w hp hw]
  cases e : g.2.1 p w with
  | true => exact ⟨fun _ => h0 (Or.inr e), fun z => absurd z (by decide)⟩
  | false => exact ⟨fun z => absurd rfl z, fun _ => h1 hne e⟩
