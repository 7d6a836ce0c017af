/-! ===== calls that change the base: pupils, friends, rule, mark, staff ===== -/
def gPup (g : Sg) (k : Nat) : Sg := (k, fun _ _ => false, g.2.2.1, fun _ _ => -1, fun _ => -1)
def gFri (g : Sg) (p q : Nat) (on : Bool) : Sg := (g.1, fun a b => if (a = p ∧ b = q) ∨ (a = q ∧ b = p) then on else g.2.1 a b, g.2.2.1, g.2.2.2.1, g.2.2.2.2)
def gRul (g : Sg) (k v : Nat) : Sg := (g.1, g.2.1, fun j => if j = k then v else g.2.2.1 j, g.2.2.2.1, g.2.2.2.2)
def gMrk (g : Sg) (p w : Nat) (v : Int32) : Sg := (g.1, g.2.1, g.2.2.1, fun a b => if a = p ∧ b = w then v else g.2.2.2.1 a b, g.2.2.2.2)
def gSta (g : Sg) (w : Nat) (v : Int32) : Sg := (g.1, g.2.1, g.2.2.1, g.2.2.2.1, fun b => if b = w then v else g.2.2.2.2 b)
theorem mkok_m1 : mkok (-1) := by unfold mkok; decide
theorem Wf_pup {g : Sg} (h : Wf g) {k : Nat} (h2 : 2 ≤ k) (h8 : k ≤ 8) : Wf (gPup g k) := ⟨⟨h2, h8⟩, fun _ _ => rfl, fun _ _ z => (by cases z), h.2.2.2.1, fun _ _ => mkok_m1, fun _ _ _ => rfl, fun _ => mkok_m1, fun _ _ => rfl⟩
theorem Wf_fri {g : Sg} (h : Wf g) {p q : Nat} (hp : p < g.1) (hq : q < g.1) (hne : p ≠ q) (on : Bool) : Wf (gFri g p q on) := by
  refine ⟨h.1, fun a b => ?_, fun a b => ?_, h.2.2.2.1, h.2.2.2.2.1, h.2.2.2.2.2.1, h.2.2.2.2.2.2⟩
  · show (if (a = p ∧ b = q) ∨ (a = q ∧ b = p) then on else g.2.1 a b) = (if (b = p ∧ a = q) ∨ (b = q ∧ a = p) then on else g.2.1 b a)
    have e : ((a = p ∧ b = q) ∨ (a = q ∧ b = p)) = ((b = p ∧ a = q) ∨ (b = q ∧ a = p)) := by
      apply propext
      constructor <;> (intro z; rcases z with ⟨z1, z2⟩ | ⟨z1, z2⟩; exact Or.inr ⟨z2, z1⟩; exact Or.inl ⟨z2, z1⟩)
    simp only [e, h.2.1 a b]
  · show (if (a = p ∧ b = q) ∨ (a = q ∧ b = p) then on else g.2.1 a b) = true → a < g.1 ∧ b < g.1 ∧ a ≠ b
    by_cases z : (a = p ∧ b = q) ∨ (a = q ∧ b = p)
    · intro _
      rcases z with ⟨rfl, rfl⟩ | ⟨rfl, rfl⟩
      · exact ⟨hp, hq, hne⟩
      · exact ⟨hq, hp, fun z => hne z.symm⟩
    · rw [if_neg z]
      exact h.2.2.1 a b
theorem Wf_rul {g : Sg} (h : Wf g) {k v : Nat} (hv : (k = 0 → 1 ≤ v ∧ v ≤ 4) ∧ (k = 1 → 1 ≤ v ∧ v ≤ 8) ∧ (k = 2 → v ≤ 100)) : Wf (gRul g k v) := by
  refine ⟨h.1, h.2.1, h.2.2.1, ?_, h.2.2.2.2⟩
  obtain ⟨a1, a2, a3, a4, a5⟩ := h.2.2.2.1
  obtain ⟨v0, v1, v2⟩ := hv
  show 1 ≤ (if 0 = k then v else g.2.2.1 0) ∧ (if 0 = k then v else g.2.2.1 0) ≤ 4 ∧ 1 ≤ (if 1 = k then v else g.2.2.1 1) ∧ (if 1 = k then v else g.2.2.1 1) ≤ 8 ∧ (if 2 = k then v else g.2.2.1 2) ≤ 100
  refine ⟨?_, ?_, ?_, ?_, ?_⟩
  · by_cases z : 0 = k
    · rw [if_pos z]; exact (v0 z.symm).1
    · rw [if_neg z]; exact a1
  · by_cases z : 0 = k
    · rw [if_pos z]; exact (v0 z.symm).2
    · rw [if_neg z]; exact a2
  · by_cases z : 1 = k
    · rw [if_pos z]; exact (v1 z.symm).1
    · rw [if_neg z]; exact a3
  · by_cases z : 1 = k
    · rw [if_pos z]; exact (v1 z.symm).2
    · rw [if_neg z]; exact a4
  · by_cases z : 2 = k
    · rw [if_pos z]; exact v2 z.symm
    · rw [if_neg z]; exact a5
theorem Wf_mrk {g : Sg} (h : Wf g) {p w : Nat} (hp : p < g.1) (hw : w < g.1) (hne : p ≠ w) {v : Int32} (hv : mkok v) : Wf (gMrk g p w v) := by
  refine ⟨h.1, h.2.1, h.2.2.1, h.2.2.2.1, fun a b => ?_, fun a b hab => ?_, h.2.2.2.2.2.2⟩
  · show mkok (if a = p ∧ b = w then v else g.2.2.2.1 a b)
    by_cases z : a = p ∧ b = w
    · rw [if_pos z]; exact hv
    · rw [if_neg z]; exact h.2.2.2.2.1 a b
  · show (if a = p ∧ b = w then v else g.2.2.2.1 a b) = -1
    rw [if_neg (fun z => hab (by rw [z.1, z.2]; exact ⟨hp, hw, hne⟩))]
    exact h.2.2.2.2.2.1 a b hab
theorem Wf_sta {g : Sg} (h : Wf g) {w : Nat} (hw : w < g.1) {v : Int32} (hv : mkok v) : Wf (gSta g w v) := by
  refine ⟨h.1, h.2.1, h.2.2.1, h.2.2.2.1, h.2.2.2.2.1, h.2.2.2.2.2.1, fun b => ?_, fun b hb => ?_⟩
  · show mkok (if b = w then v else g.2.2.2.2 b)
    by_cases z : b = w
    · rw [if_pos z]; exact hv
    · rw [if_neg z]; exact h.2.2.2.2.2.2.1 b
  · show (if b = w then v else g.2.2.2.2 b) = -1
    have hb : g.1 ≤ b := hb
    rw [if_neg (by omega)]
    exact h.2.2.2.2.2.2.2 b hb
/-! pupils -/
def pupX (S : St) (k : Nat) : St := sI (sI (sI (wipeS (sA (sI S 0 (nI k)) 0 (wfill (S.2.2.1 0) 8 0))) 1 0) 4 0) 7 0
def pupM (S : St) (k : Nat) : St := clearS (sI S 8 (nI k))
theorem wipeS_SameM (S : St) : SameM S (wipeS S) := by
  refine ⟨fun _ _ => rfl, rfl, fun k hk => ?_, fun _ _ => rfl⟩
  show va_up (wipeR S 8).2.2.1 10 _ k = _
  rw [up_ne (by omega)]
  show (if 2 ≤ k ∧ k < 2 + 8 then _ else _) = _
  rw [if_neg (by omega)]
theorem pupX_SameM (S : St) (k : Nat) : SameM S (pupX S k) := (((((SameM.I (by decide)).tr (SameM.A (by decide))).tr (wipeS_SameM _)).tr (SameM.I (by decide))).tr (SameM.I (by decide))).tr (SameM.I (by decide))
theorem XB_pup {g : Sg} {S : St} (h : XB g S) {k : Nat} : XB (gPup g k) (pupX S k) := by
  refine ⟨rfl, fun p hp => ?_, fun j hj => ?_, fun p w hp hw => ?_, fun w hw => ?_⟩
  · show wfill (S.2.2.1 0) 8 0 p = nI (msk (fun _ => false) 8)
    rw [wfill, if_pos hp]
    rfl
  · exact h.2.2.1 j hj
  · show (wipeS (sA (sI S 0 (nI k)) 0 (wfill (S.2.2.1 0) 8 0))).2.2.1 (2 + p) w = -1
    show va_up (wipeR (sA (sI S 0 (nI k)) 0 (wfill (S.2.2.1 0) 8 0)) 8).2.2.1 10 _ (2 + p) w = -1
    rw [up_ne (by omega)]
    show (if 2 ≤ 2 + p ∧ 2 + p < 2 + 8 then wfill _ 8 (-1) else _ : Nat → Int32) w = -1
    rw [if_pos (by omega), wfill, if_pos hw]
  · show wfill _ 8 (-1) w = -1
    rw [wfill, if_pos hw]
theorem pupilsX {P : Int32 → St → Prop} {S : St} {a : Int32} (h1 : ∀ k, 2 ≤ k → k ≤ 8 → a = nI k → P (S.1 0) (pupX S k)) (h0 : (a.toInt < 2 ∨ 8 < a.toInt) → P (-1002) S) : tX6_pupils a S P := by
  refine bX6_pupils_0 _ ⟨fun c => h0 (Or.inl (Int32.lt_iff_toInt_lt.mp c)), fun c => ⟨fun c2 => ?_, fun c2 => h0 (Or.inr ?_)⟩⟩
  · have q1 := mt Int32.lt_iff_toInt_lt.mpr c
    have q2 := Int32.le_iff_toInt_le.mp c2
    rw [show (2 : Int32).toInt = 2 from rfl] at q1
    rw [show (8 : Int32).toInt = 8 from rfl] at q2
    have hneg : ¬ a < 0 := fun z => by
      have := Int32.lt_iff_toInt_lt.mp z
      rw [show (0 : Int32).toInt = 0 from rfl] at this
      omega
    obtain ⟨j, hj, e⟩ := nI_of hneg
    rw [e, nI_toInt hj] at q1 q2
    subst e
    refine bX1_settle_0 _ (wipe_ok (bX5_forget_0 (bX4_forget_0 (bX3_forget_0 ?_))))
    exact h1 j (by omega) (by omega) rfl
  · have q2 := mt Int32.le_iff_toInt_le.mpr c2
    rw [show (8 : Int32).toInt = 8 from rfl] at q2
    omega
theorem clearS_SameX (S : St) : SameX S (clearS S) := ((SameX.A (by decide)).tr (SameX.A (by decide))).tr (SameX.A (by decide))
theorem pupM_SameX (S : St) (k : Nat) : SameX S (pupM S k) := (SameX.I (by decide)).tr (clearS_SameX _)
theorem MB_pup {g : Sg} {S : St} (h : MB g S) {k : Nat} : MB (gPup g k) (pupM S k) := by
  refine ⟨rfl, fun p q hp hq => ?_, fun j hj => h.2.2.1 j hj, fun p w hp hw => ?_, fun w hw => ?_⟩
  · show wfill _ 64 0 (8 * p + q) = 0
    rw [wfill, if_pos (by omega)]
  · show wfill _ 64 (-1) (8 * p + w) = -1
    rw [wfill, if_pos (by omega)]
  · show wfill _ 8 (-1) w = -1
    rw [wfill, if_pos hw]
theorem pupilsM {P : Int32 → St → Prop} {S : St} {a : Int32} (h1 : ∀ k, 2 ≤ k → k ≤ 8 → a = nI k → P (S.1 8) (pupM S k)) (h0 : (a.toInt < 2 ∨ 8 < a.toInt) → P (-1002) S) : tX7_pupils a S P := by
  refine bX7_pupils_0 _ (in_ok (fun q1 q2 => ⟨fun _ => clear_ok ?_, fun z => absurd z (by decide)⟩) (fun q => ⟨fun z => absurd rfl z, fun _ => h0 ?_⟩))
  · rw [Int32.toInt_toInt64, show (2 : Int64).toInt = 2 from rfl] at q1
    rw [Int32.toInt_toInt64, show (8 : Int64).toInt = 8 from rfl] at q2
    have hneg : ¬ a < 0 := fun z => by
      have := Int32.lt_iff_toInt_lt.mp z
      rw [show (0 : Int32).toInt = 0 from rfl] at this
      omega
    obtain ⟨j, hj, e⟩ := nI_of hneg
    rw [e, nI_toInt hj] at q1 q2
    subst e
    exact h1 j (by omega) (by omega) rfl
  · rw [Int32.toInt_toInt64, show (2 : Int64).toInt = 2 from rfl, show (8 : Int64).toInt = 8 from rfl] at q
    exact q
