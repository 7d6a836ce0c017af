/-! ===== orders of the class ===== -/
def SameO (S S1 : St) : Prop := (∀ k, k ≠ 6 → k ≠ 7 → S1.1 k = S.1 k) ∧ S1.2.1 = S.2.1 ∧ (∀ k, (k < 20 ∨ 23 < k) → S1.2.2.1 k = S.2.2.1 k) ∧ (∀ k, k ≠ 13 → S1.2.2.2 k = S.2.2.2 k)
theorem SameO.rf (S : St) : SameO S S := ⟨fun _ _ _ => rfl, rfl, fun _ _ => rfl, fun _ _ => rfl⟩
theorem SameO.tr {S S1 S2 : St} (h : SameO S S1) (h2 : SameO S1 S2) : SameO S S2 := ⟨fun k a b => (h2.1 k a b).trans (h.1 k a b), h2.2.1.trans h.2.1, fun k a => (h2.2.2.1 k a).trans (h.2.2.1 k a), fun k a => (h2.2.2.2 k a).trans (h.2.2.2 k a)⟩
theorem SameO.I {S : St} {k : Nat} {v : Int32} (h : k = 6 ∨ k = 7) : SameO S (sI S k v) := ⟨fun j h1 h2 => up_ne (by omega), rfl, fun _ _ => rfl, fun _ _ => rfl⟩
theorem SameO.A {S : St} {k : Nat} {f : Nat → Int32} (h : 20 ≤ k ∧ k ≤ 23) : SameO S (sA S k f) := ⟨fun _ _ _ => rfl, rfl, fun j hj => up_ne (by omega), fun _ _ => rfl⟩
theorem SameO.B {S : St} {f : Nat → Int64} : SameO S (sB S 13 f) := ⟨fun _ _ _ => rfl, rfl, fun _ _ => rfl, fun j hj => up_ne hj⟩
theorem SameO.M {S S1 : St} (h : SameO S S1) : SameM S S1 := ⟨fun k hk => h.1 k (by omega) (by omega), h.2.1, fun k hk => h.2.2.1 k (by omega), fun k hk => h.2.2.2 k (by omega)⟩
theorem XB.sameO {g : Sg} {S S1 : St} (h : XB g S) (hs : SameO S S1) : XB g S1 := by
  obtain ⟨h1, h2, h3, h4, h5⟩ := h
  obtain ⟨s1, -, s3, -⟩ := hs
  refine ⟨by rw [s1 0 (by decide) (by decide)]; exact h1, ?_, ?_, ?_, ?_⟩
  · rw [s3 0 (by decide)]; exact h2
  · rw [s3 1 (by decide)]; exact h3
  · intro p w hp hw
    rw [s3 (2 + p) (by omega)]; exact h4 p w hp hw
  · rw [s3 10 (by decide)]; exact h5
theorem turnsX {P : Int32 → St → Prop} {S : St} {g : Sg} (hx : XB g S) {p a b : Nat} (hp : p < 8) (ha : a < 8) (hb : b < 8) (h : P (if turnB g.2.2.2.1 p a b then 1 else 0) S) : tX3_turnsTwo (nI p) (nI a) (nI b) S P := by
  refine bX3_turnsTwo_0 _ _ _ ⟨vp_in_nI hp (by decide), vp_in_nI ha (by decide), ?_⟩
  rw [nI_clamp (by omega), nI_clamp (by omega), nI_clamp (by omega), hx.2.2.2.1 p a hp ha, hx.2.2.2.1 p b hp hb]
  unfold turnB at h
  refine ⟨fun c => ?_, fun c => ⟨vp_in_nI hb (by decide), fun c2 => ?_, fun c2 => ?_⟩⟩
  · rw [c] at h
    simpa using h
  · have : ¬ g.2.2.2.1 p a < g.2.2.2.1 p b := fun z => by
      have z1 := Int32.lt_iff_toInt_lt.mp z
      have z2 := Int32.le_iff_toInt_le.mp c2
      omega
    simp only [this, decide_false, Bool.and_false, Bool.false_eq_true, if_false] at h
    exact h
  · have : g.2.2.2.1 p a < g.2.2.2.1 p b := Int32.lt_iff_toInt_lt.mpr (by
      have z2 := mt Int32.le_iff_toInt_le.mpr c2
      omega)
    simp only [this, c, decide_true, decide_false, Bool.not_false, Bool.and_true, if_true] at h
    exact h
/-- a number of digits of a byte each -/
def val (D : Nat → Nat) : Nat → Nat
  | 0 => 0
  | a + 1 => val D a + D a * 256 ^ a
theorem val_congr {D E : Nat → Nat} : ∀ {n : Nat}, (∀ a, a < n → D a = E a) → val D n = val E n
  | 0, _ => rfl
  | n + 1, h => by
    unfold val
    rw [val_congr (fun a ha => h a (by omega)), h n (by omega)]
theorem val_add (D E : Nat → Nat) : ∀ n, val (fun a => D a + E a) n = val D n + val E n
  | 0 => rfl
  | n + 1 => by
    unfold val
    rw [val_add D E n, Nat.add_mul]
    omega
theorem val_0 : ∀ n, val (fun _ => 0) n = 0
  | 0 => rfl
  | n + 1 => by unfold val; rw [val_0 n]; simp
theorem val_lt {D : Nat → Nat} {c : Nat} (hc : c ≤ 256) (hD : ∀ a, D a < c) (h1 : 1 ≤ c) : ∀ n, val D (n + 1) < c * 256 ^ n
  | 0 => by
    unfold val val
    have := hD 0
    simp
    omega
  | n + 1 => by
    have ih := val_lt hc hD h1 n
    have h2 := hD (n + 1)
    unfold val
    have h3 : c * 256 ^ n ≤ 256 ^ (n + 1) := by
      rw [Nat.pow_succ, Nat.mul_comm]
      exact Nat.mul_le_mul_left _ hc
    have h4 : D (n + 1) * 256 ^ (n + 1) + 256 ^ (n + 1) ≤ c * 256 ^ (n + 1) := by
      rw [← Nat.succ_mul]
      exact Nat.mul_le_mul_right _ h2
    omega
theorem val_mod {D : Nat → Nat} (hD : ∀ a, D a < 256) : ∀ n, val D n < 256 ^ n
  | 0 => by unfold val; decide
  | n + 1 => by
    have := val_lt (c := 256) (Nat.le_refl _) hD (by decide) n
    rw [Nat.pow_succ, Nat.mul_comm]
    exact this
theorem val_digit {D : Nat → Nat} (hD : ∀ a, D a < 256) : ∀ n a, a < n → val D n / 256 ^ a % 256 = D a
  | 0, a, h => absurd h (by omega)
  | n + 1, a, h => by
    unfold val
    have hp : 0 < 256 ^ a := Nat.pow_pos (by decide)
    by_cases e : a = n
    · subst e
      have h1 := val_mod hD a
      rw [Nat.add_mul_div_right _ _ hp, Nat.div_eq_of_lt h1, Nat.zero_add]
      exact Nat.mod_eq_of_lt (hD a)
    · have ih := val_digit hD n a (by omega)
      obtain ⟨k, rfl⟩ : ∃ k, n = a + 1 + k := ⟨n - a - 1, by omega⟩
      have e2 : D (a + 1 + k) * 256 ^ (a + 1 + k) = (D (a + 1 + k) * 256 ^ k * 256) * 256 ^ a := by
        rw [show a + 1 + k = a + k + 1 by omega, Nat.pow_succ, Nat.pow_add]
        ac_rfl
      rw [e2, Nat.add_mul_div_right _ _ hp, Nat.add_mul_mod_self_right]
      exact ih
theorem val_inc {D : Nat → Nat} {j : Nat} : ∀ {n : Nat}, j < n → val (fun a => if a = j then D a + 1 else D a) n = val D n + 256 ^ j
  | 0, h => absurd h (by omega)
  | n + 1, h => by
    unfold val
    by_cases e : n = j
    · subst e
      rw [if_pos rfl, val_congr (E := D) (fun a ha => if_neg (by omega)), Nat.add_mul]
      omega
    · rw [if_neg e, val_inc (show j < n by omega)]
      omega
theorem oI_eq {wo : Option Nat} (hw : ∀ k, wo = some k → k < 8) {i : Nat} (hi : i < 8) : nI i = oI wo ↔ wo = some i := by
  cases wo with
  | none =>
    constructor
    · intro z
      exact absurd z (by match i, hi with | 0, _ => decide | 1, _ => decide | 2, _ => decide | 3, _ => decide | 4, _ => decide | 5, _ => decide | 6, _ => decide | 7, _ => decide)
    · intro z; cases z
  | some k =>
    have := hw k rfl
    show nI i = nI k ↔ _
    rw [nI_eq (by omega) (by omega)]
    constructor
    · intro z; rw [z]
    · intro z; cases z; rfl
theorem tollsWithX {P : Int64 → St → Prop} {S : St} {g : Sg} (hg : Wf g) (hx : XB g S) {b : Nat} (hb : b < g.1) {wo : Option Nat} (hw : ∀ k, wo = some k → k < 8) (h : P (lN (val (fun a => qcn g.2.2.2.1 wo a b g.1) g.1)) S) : tX3_tollsWith (nI b) (oI wo) S P := by
  have h8 := hg.1.2
  refine bX3_tollsWith_0 _ _ ?_
  have e0 : (0 : Int64) = lN (val (fun a => qcn g.2.2.2.1 wo a b 0) g.1) := by
    show _ = lN (val (fun _ => 0) g.1)
    rw [val_0]
    rfl
  rw [e0]
  refine loop_dn (fun p => wX3_tollsWith P 5 [.ref 41, .int (nI b), .int (oI wo), .long (lN (val (fun a => qcn g.2.2.2.1 wo a b p) g.1)), .retAddr 0, .int (nI p), .retAddr 0] [] S) g.1 (fun p hp ih => ?_) ?_
  · refine bX3_tollsWith_5 _ _ _ _ ⟨fun c => absurd (hx.1 ▸ c) (cnt_step hp h8), fun _ => ⟨fun c => ?_, fun c => ?_⟩⟩
    · rw [nI_1]
      have c2 := (oI_eq hw (by omega)).mp c
      have e : val (fun a => qcn g.2.2.2.1 wo a b (p + 1)) g.1 = val (fun a => qcn g.2.2.2.1 wo a b p) g.1 := val_congr (fun a _ => by
        show qcn _ _ _ _ p + _ = _
        rw [if_neg (by simp [c2])]
        rfl)
      rw [e] at ih
      exact ih
    · have c2 : ¬ wo = some p := fun z => c ((oI_eq hw (by omega)).mpr z)
      have e1 : val (fun a => qcn g.2.2.2.1 wo a b p) g.1 = val (fun a => if a < 0 then qcn g.2.2.2.1 wo a b (p + 1) else qcn g.2.2.2.1 wo a b p) g.1 := val_congr (fun a _ => by rw [if_neg (by omega)])
      rw [e1]
      refine loop_dn (fun j => wX3_tollsWith P 26 [.ref 41, .int (nI b), .int (oI wo), .long (lN (val (fun a => if a < j then qcn g.2.2.2.1 wo a b (p + 1) else qcn g.2.2.2.1 wo a b p) g.1)), .retAddr 0, .int (nI p), .int (nI j)] [] S) g.1 (fun j hj ih2 => ?_) ?_
      · refine bX3_tollsWith_26 _ _ _ _ _ ⟨fun c => absurd (hx.1 ▸ c) (cnt_step hj h8), fun _ => turnsX hx (by omega) (by omega) (by omega) ?_⟩
        rw [nI_1]
        cases et : turnB g.2.2.2.1 p j b with
        | false =>
          refine ⟨fun _ => ?_, fun z => absurd rfl z⟩
          have e : val (fun a => if a < j + 1 then qcn g.2.2.2.1 wo a b (p + 1) else qcn g.2.2.2.1 wo a b p) g.1 = val (fun a => if a < j then qcn g.2.2.2.1 wo a b (p + 1) else qcn g.2.2.2.1 wo a b p) g.1 := val_congr (fun a _ => by
            by_cases z : a = j
            · subst z
              rw [if_pos (by omega), if_neg (by omega)]
              show qcn _ _ _ _ p + _ = _
              rw [if_neg (by simp [et])]
              rfl
            · by_cases z2 : a < j
              · rw [if_pos (by omega), if_pos z2]
              · rw [if_neg (by omega), if_neg z2])
          rw [e] at ih2
          exact ih2
        | true =>
          refine ⟨fun z => absurd z (by decide), fun _ => ?_⟩
          have e : val (fun a => if a < j + 1 then qcn g.2.2.2.1 wo a b (p + 1) else qcn g.2.2.2.1 wo a b p) g.1 = val (fun a => if a < j then qcn g.2.2.2.1 wo a b (p + 1) else qcn g.2.2.2.1 wo a b p) g.1 + 256 ^ j := by
            rw [← val_inc hj]
            exact val_congr (fun a _ => by
              by_cases z : a = j
              · subst z
                rw [if_pos (by omega), if_pos rfl, if_neg (by omega)]
                show qcn _ _ _ _ p + _ = _
                rw [if_pos (by simp [et, c2])]
              · rw [if_neg z]
                by_cases z2 : a < j
                · rw [if_pos (by omega), if_pos z2]
                · rw [if_neg (by omega), if_neg z2])
          rw [e] at ih2
          rw [show (8 : Int32) = nI 8 from rfl, pk_mul, show (1 : Int64) = lN 1 from rfl, wb_shl 1 (show 8 * j < 64 by omega), lN_add, Nat.one_mul, Nat.pow_mul]
          exact ih2
      · refine bX3_tollsWith_26 _ _ _ _ _ ⟨fun _ => ?_, fun c => absurd (by rw [hx.1]; exact nI_le (Nat.le_refl _) (by omega)) c⟩
        rw [nI_1]
        have e : val (fun a => if a < g.1 then qcn g.2.2.2.1 wo a b (p + 1) else qcn g.2.2.2.1 wo a b p) g.1 = val (fun a => qcn g.2.2.2.1 wo a b (p + 1)) g.1 := val_congr (fun a ha => if_pos ha)
        rw [e]
        exact ih
  · exact bX3_tollsWith_5 _ _ _ _ ⟨fun _ => h, fun c => absurd (by rw [hx.1]; exact nI_le (Nat.le_refl _) (by omega)) c⟩
/-- what the tolls are to hold -/
def tollS (g : Sg) (wo : Option Nat) (s : Nat) : Nat := val (fun a => csum (fun v => qcn g.2.2.2.1 wo a v g.1) s g.1) g.1
theorem csum_or {f : Nat → Nat} {w l n : Nat} (hl : l < 2 ^ w) (hw : w < n) : csum f (2 ^ w + l) n = csum f l n + f w := by
  have hb : ∀ v, (2 ^ w + l).testBit v = (decide (v = w) || l.testBit v) := by
    intro v
    have e0 := Nat.two_pow_add_eq_or_of_lt (i := w) hl 1
    rw [Nat.mul_one] at e0
    rw [e0, Nat.testBit_or, p2_bit]
    by_cases e : v = w
    · subst e; simp
    · have e2 : ¬ w = v := fun z => e z.symm
      simp [e, e2]
  have hz : ∀ v, w ≤ v → l.testBit v = false := fun v hv => Nat.testBit_lt_two_pow (Nat.lt_of_lt_of_le hl (Nat.pow_le_pow_right (by decide) hv))
  have key : ∀ i, csum f (2 ^ w + l) i = csum f l i + if w < i then f w else 0 := by
    intro i
    induction i with
    | zero => rfl
    | succ i ih =>
      unfold csum
      rw [ih, hb]
      by_cases e : i = w
      · subst e
        rw [hz i (Nat.le_refl i)]
        simp
      · have e2 : (if w < i + 1 then f w else 0) = (if w < i then f w else 0) := by
          by_cases h : w < i
          · rw [if_pos h, if_pos (by omega)]
          · rw [if_neg h, if_neg (by omega)]
        have e3 : (decide (i = w) || l.testBit i) = l.testBit i := by simp [e]
        rw [e2, e3]
        omega
  rw [key n, if_pos hw]
theorem tollS_or {g : Sg} {wo : Option Nat} {w l : Nat} (hl : l < 2 ^ w) (hw : w < g.1) : tollS g wo (2 ^ w + l) = tollS g wo l + val (fun a => qcn g.2.2.2.1 wo a w g.1) g.1 := by
  unfold tollS
  rw [← val_add]
  exact val_congr (fun a _ => csum_or hl hw)
theorem tollS_0 (g : Sg) (wo : Option Nat) : tollS g wo 0 = 0 := by
  unfold tollS
  rw [val_congr (E := fun _ => 0) (fun a _ => csum_0 _ _), val_0]
theorem updL_eq {f : Nat → Int64} {k : Nat} {x : Int64} : vp_updL f k x k = x := if_pos rfl
theorem updL_ne {f : Nat → Int64} {k j : Nat} {x : Int64} (h : j ≠ k) : vp_updL f k x j = f j := if_neg h
theorem countTollsX {P : St → Prop} {S : St} {g : Sg} (hg : Wf g) (hx : XB g S) {wo : Option Nat} (hw : ∀ k, wo = some k → k < 8) (h : ∀ T : Nat → Int64, (∀ s, s < 2 ^ g.1 → T s = lN (tollS g wo s)) → P (sB S 13 T)) : tX3_countTolls (oI wo) S P := by
  have h8 := hg.1.2
  refine bX3_countTolls_0 _ ?_
  have key : ∀ k w, w + k = g.1 → ∀ T : Nat → Int64, (∀ s, s < 2 ^ w → T s = lN (tollS g wo s)) → wX3_countTolls P 9 [.ref 41, .int (oI wo), .int (nI w), .retAddr 0, .retAddr 0, .retAddr 0, .retAddr 0] [] (sB S 13 T) := by
    intro k
    induction k with
    | zero =>
      intro w hw2 T hT
      have : w = g.1 := by omega
      subst this
      exact bX3_countTolls_9 _ _ ⟨fun _ => h T hT, fun c => absurd (by show S.1 0 ≤ _; rw [hx.1]; exact nI_le (Nat.le_refl _) (by omega)) c⟩
    | succ k ih =>
      intro w hw2 T hT
      have hwn : w < g.1 := by omega
      have hx2 : XB g (sB S 13 T) := hx.sameO SameO.B
      refine bX3_countTolls_9 _ _ ⟨fun c => absurd (hx2.1 ▸ c) (cnt_step hwn h8), fun _ => tollsWithX hg hx2 hwn hw ?_⟩
      rw [sh1 (by omega)]
      have hp : 2 ^ w < 256 := p2_lt (by omega)
      have hp2 : 2 ^ w * 2 ≤ 256 := by
        rw [← Nat.pow_succ]
        exact pow8 (show w + 1 ≤ 8 by omega)
      have inner : ∀ m l, l + m = 2 ^ w → ∀ T : Nat → Int64, (∀ s, s < 2 ^ w + l → T s = lN (tollS g wo s)) → wX3_countTolls P 35 [.ref 41, .int (oI wo), .int (nI w), .int (nI (2 ^ w)), .long (lN (val (fun a => qcn g.2.2.2.1 wo a w g.1) g.1)), .retAddr 0, .int (nI l)] [] (sB S 13 T) := by
        intro m
        induction m with
        | zero =>
          intro l hl T hT
          have e : l = 2 ^ w := by omega
          subst e
          refine bX3_countTolls_35 _ _ _ _ _ ⟨fun _ => ?_, fun c => absurd (nI_le (Nat.le_refl _) (by omega)) c⟩
          rw [nI_1]
          exact ih (w + 1) (by omega) T (fun s hs => hT s (by rw [Nat.pow_succ] at hs; omega))
        | succ m ihm =>
          intro l hl T hT
          have hl2 : l < 2 ^ w := by omega
          have e1 : nI (2 ^ w) ||| nI l = nI (2 ^ w + l) := by
            rw [nI_or]
            congr 1
            have := Nat.two_pow_add_eq_or_of_lt (i := w) hl2 1
            rw [Nat.mul_one] at this
            exact this.symm
          refine bX3_countTolls_35 _ _ _ _ _ ⟨fun c => absurd c (nI_ge hl2 (by omega)), fun _ => ⟨vp_in_nI (by omega) (by decide), ?_⟩⟩
          rw [e1]
          refine ⟨vp_in_nI (by omega) (by decide), ?_⟩
          rw [nI_1, nI_clamp (by omega), nI_clamp (by omega)]
          show wX3_countTolls P 35 _ _ (sB (sB S 13 T) 13 (vp_updL T (2 ^ w + l) (T l + _)))
          rw [sB_same]
          refine ihm (l + 1) (by omega) _ (fun s hs => ?_)
          by_cases e : s = 2 ^ w + l
          · subst e
            rw [updL_eq, hT l (by omega), lN_add, tollS_or hl2 hwn]
          · rw [updL_ne e]
            exact hT s (by omega)
      exact inner (2 ^ w) 0 (by omega) T (fun s hs => hT s (by omega))
  refine key g.1 0 (by omega) _ (fun s hs => ?_)
  have e : s = 0 := by
    rw [Nat.pow_zero] at hs
    omega
  subst e
  rw [updL_eq, tollS_0]
  rfl
/-- quarrels of two works, all pupils but wo -/
def qz (g : Sg) (wo : Option Nat) (a b : Nat) : Nat := qcn g.2.2.2.1 wo a b g.1
theorem qz_le {g : Sg} (hg : Wf g) (wo : Option Nat) (a b : Nat) : qz g wo a b ≤ 8 := Nat.le_trans (qcn_le _ _ _ _ _) hg.1.2
theorem turnB_self {g : Sg} (hg : Wf g) {a b p : Nat} (h : p = a ∨ g.1 ≤ a ∨ g.1 ≤ p) : turnB g.2.2.2.1 p a b = false := by
  unfold turnB
  rw [hg.2.2.2.2.2.1 p a (fun z => by omega)]
  simp
theorem qz_le7 {g : Sg} (hg : Wf g) (wo : Option Nat) (a b : Nat) : qz g wo a b ≤ 7 := by
  have h8 := hg.1.2
  have h2 := hg.1.1
  by_cases ha : a < g.1
  · have key : ∀ i, a < i → qcn g.2.2.2.1 wo a b i ≤ i - 1 := by
      intro i
      induction i with
      | zero => intro h; omega
      | succ i ih =>
        intro h
        unfold qcn
        by_cases e : a = i
        · subst e
          rw [turnB_self hg (Or.inl rfl)]
          have := qcn_le g.2.2.2.1 wo a b a
          simp
          omega
        · have := ih (by omega)
          split <;> omega
    have := key g.1 ha
    unfold qz
    omega
  · have key : ∀ i, qcn g.2.2.2.1 wo a b i = 0 := by
      intro i
      induction i with
      | zero => rfl
      | succ i ih =>
        unfold qcn
        rw [ih, turnB_self hg (Or.inr (Or.inl (by omega)))]
        simp
    unfold qz
    rw [key]
    omega
theorem toll_dig {g : Sg} (hg : Wf g) (wo : Option Nat) (s a : Nat) : csum (fun v => qcn g.2.2.2.1 wo a v g.1) s g.1 < 57 := by
  have h1 : csum (fun v => qcn g.2.2.2.1 wo a v g.1) s g.1 ≤ 7 * g.1 := csum_le (fun v => qz_le7 hg wo a v) _ _
  have := hg.1.2
  omega
theorem tollS_lt {g : Sg} (hg : Wf g) (wo : Option Nat) (s : Nat) : tollS g wo s < 2 ^ 62 := by
  have h8 := hg.1.2
  have h2 := hg.1.1
  obtain ⟨k, hk⟩ : ∃ k, g.1 = k + 1 := ⟨g.1 - 1, by omega⟩
  have h1 := val_lt (c := 57) (by decide) (toll_dig hg wo s) (by decide) k
  rw [← hk] at h1
  have h3 : 57 * 256 ^ k ≤ 57 * 256 ^ 7 := Nat.mul_le_mul_left _ (Nat.pow_le_pow_right (by decide) (by omega))
  have h4 : 57 * 256 ^ 7 < 2 ^ 62 := by decide
  unfold tollS
  omega
theorem toll_byte {g : Sg} (hg : Wf g) {wo : Option Nat} {s a : Nat} (ha : a < g.1) : ((lN (tollS g wo s) >>> (((8 : Int32) * nI a).toInt64 &&& 63)) &&& 255).toInt32 = nI (csum (qz g wo a) s g.1) := by
  have h8 := hg.1.2
  rw [show (8 : Int32) = nI 8 from rfl, pk_mul, wb_c (8 * a) (by omega), pf_shr (d := 8 * a) ?_ (tollS_lt hg wo s), show (255 : Int64) = lN (2 ^ 8 - 1) from rfl, fb_maskL, lN_i]
  · congr 1
    have := val_digit (D := fun a => csum (fun v => qcn g.2.2.2.1 wo a v g.1) s g.1) (fun a => Nat.lt_trans (toll_dig hg wo s a) (by decide)) g.1 a ha
    rw [Nat.pow_mul]
    exact this
  · match a, (show a < 8 by omega) with
    | 0, _ => rfl
    | 1, _ => rfl
    | 2, _ => rfl
    | 3, _ => rfl
    | 4, _ => rfl
    | 5, _ => rfl
    | 6, _ => rfl
    | 7, _ => rfl
/-- the arrays that quarrelIfAhead reads -/
def QR (g : Sg) (wo : Option Nat) (S : St) (m : Nat) : Prop := (∀ s, s < 2 ^ g.1 → S.2.2.2 13 s = lN (tollS g wo s)) ∧ ∀ r, r < m → S.2.2.1 20 r = nI (ls (qz g wo) g.1 r)
theorem quarrelX {P : Int32 → St → Prop} {S : St} {g : Sg} (hg : Wf g) {wo : Option Nat} {w s m : Nat} (hw : w < g.1) (hs : s < 2 ^ g.1) (hb : s.testBit w = true) (hm : nd s (2 ^ w) < m) (hq : QR g wo S m) (h : P (nI (cost (qz g wo) g.1 (ls (qz g wo) g.1) w (nd s (2 ^ w)))) S) : tX3_quarrelIfAhead (nI w) (nI s) S P := by
  have h8 := hg.1.2
  have h256 : s < 256 := Nat.lt_of_lt_of_le hs (pow8 h8)
  have hlt := nd_lt_self h256 hb
  refine bX3_quarrelIfAhead_0 _ _ ?_
  rw [sh1 (by omega), nI_nd _ h256]
  refine ⟨vp_in_nI (by omega) (by decide), ?_⟩
  rw [nI_clamp (by omega), hq.1 _ (by omega), hq.2 _ hm, toll_byte hg hw, nI_add]
  unfold cost at h
  rw [Nat.add_comm] at h
  exact h
theorem bestX_t {q : Nat → Nat → Nat} {n : Nat} {L : Nat → Nat} {init s w : Nat} (hb : s.testBit w = true) : bestX q n L init s (w + 1) = if cost q n L w (nd s (2 ^ w)) < bestX q n L init s w then cost q n L w (nd s (2 ^ w)) else bestX q n L init s w := by
  show (if s.testBit w = true then _ else _) = _
  rw [if_pos hb]
theorem bestX_f {q : Nat → Nat → Nat} {n : Nat} {L : Nat → Nat} {init s w : Nat} (hb : s.testBit w = false) : bestX q n L init s (w + 1) = bestX q n L init s w := by
  show (if s.testBit w = true then _ else _) = _
  rw [if_neg (by rw [hb]; decide)]
theorem findLeastX {P : St → Prop} {S : St} {g : Sg} (hg : Wf g) (hx : XB g S) {wo : Option Nat} (hT : ∀ s, s < 2 ^ g.1 → S.2.2.2 13 s = lN (tollS g wo s)) (h : ∀ L : Nat → Int32, (∀ r, r < 2 ^ g.1 → L r = nI (ls (qz g wo) g.1 r)) → P (sA S 20 L)) : tX3_findLeast S P := by
  have h8 := hg.1.2
  have hp8 := pow8 h8
  have hq8 := qz_le hg wo
  refine bX3_findLeast_0 ?_
  rw [hx.1, sh1 h8]
  have key : ∀ k s, s + k = 2 ^ g.1 → 0 < s → ∀ L : Nat → Int32, (∀ r, r < s → L r = nI (ls (qz g wo) g.1 r)) → wX3_findLeast P 19 [.ref 41, .int (nI (2 ^ g.1)), .int (nI s), .retAddr 0] [] (sA S 20 L) := by
    intro k
    induction k with
    | zero =>
      intro s hs h0 L hL
      have e : s = 2 ^ g.1 := by omega
      subst e
      exact bX3_findLeast_19 _ _ ⟨fun _ => h L hL, fun c => absurd (nI_le (Nat.le_refl _) (by omega)) c⟩
    | succ k ih =>
      intro s hs h0 L hL
      have hs2 : s < 2 ^ g.1 := by omega
      have h256 : s < 256 := by omega
      refine bX3_findLeast_19 _ _ ⟨fun c => absurd c (nI_ge hs2 (by omega)), fun _ => ⟨vp_in_nI h256 (by decide), ?_⟩⟩
      rw [nI_clamp (by omega)]
      show wX3_findLeast P 34 _ _ (sA (sA S 20 L) 20 (upd L s 2147483647))
      rw [sA_same]
      have inner : ∀ m w, w + m = g.1 → ∀ L : Nat → Int32, (∀ r, r < s → L r = nI (ls (qz g wo) g.1 r)) → L s = nI (bestX (qz g wo) g.1 (ls (qz g wo) g.1) 2147483647 s w) → wX3_findLeast P 34 [.ref 41, .int (nI (2 ^ g.1)), .int (nI s), .int (nI w)] [] (sA S 20 L) := by
        intro m
        induction m with
        | zero =>
          intro w hw L hL hLs
          have e : w = g.1 := by omega
          subst e
          have hx2 : XB g (sA S 20 L) := hx.sameO (SameO.A (by decide))
          refine bX3_findLeast_34 _ _ _ ⟨fun _ => ?_, fun c => absurd (by rw [hx2.1]; exact nI_le (Nat.le_refl _) (by omega)) c⟩
          rw [nI_1]
          refine ih (s + 1) (by omega) (by omega) L (fun r hr => ?_)
          by_cases e : r = s
          · subst e
            rw [hLs, ls_s _ _ h0 h256]
            obtain ⟨v, hv, hb⟩ := some_bit h0 hs2
            have hc := cost_bound hq8 h8 (w := v) (r := nd r (2 ^ v)) (Nat.lt_trans (nd_lt_self h256 hb) hs2)
            rw [bestX_init (a := 2147483647) (b := 1000000) hv hb (by omega) (by omega)]
          · exact hL r (by omega)
        | succ m ihm =>
          intro w hw L hL hLs
          have hwn : w < g.1 := by omega
          have hx2 : XB g (sA S 20 L) := hx.sameO (SameO.A (by decide))
          refine bX3_findLeast_34 _ _ _ ⟨fun c => absurd (hx2.1 ▸ c) (cnt_step hwn h8), fun _ => ?_⟩
          rw [nI_1]
          refine has_ok h256 (by omega) (fun hb => ⟨fun z => absurd z (by decide), fun _ => ⟨vp_in_nI h256 (by decide), ?_⟩⟩) (fun hb => ⟨fun _ => ?_, fun z => absurd rfl z⟩)
          · have hlt := nd_lt_self h256 hb
            refine quarrelX hg hwn hs2 hb hlt ⟨hT, hL⟩ ?_
            rw [nI_clamp (by omega)]
            show wX3_findLeast P 34 _ _ (sA (sA S 20 L) 20 (upd L s (if nI _ < L s then nI _ else L s)))
            rw [sA_same]
            refine ihm (w + 1) (by omega) _ (fun r hr => ?_) ?_
            · rw [upd_ne (by omega)]; exact hL r hr
            · rw [upd_eq, hLs, bestX_t hb]
              have hc := cost_bound hq8 h8 (w := w) (r := nd s (2 ^ w)) (Nat.lt_trans hlt hs2)
              have hbb : bestX (qz g wo) g.1 (ls (qz g wo) g.1) 2147483647 s w < 2 ^ 31 := by
                have := (bestX_min (q := qz g wo) (n := g.1) (L := ls (qz g wo) g.1) (init := 2147483647) (s := s) w).2.1
                omega
              by_cases c : cost (qz g wo) g.1 (ls (qz g wo) g.1) w (nd s (2 ^ w)) < bestX (qz g wo) g.1 (ls (qz g wo) g.1) 2147483647 s w
              · rw [if_pos c, if_pos ((nI_ltI (by omega) hbb).mpr c)]
              · rw [if_neg c, if_neg (fun z => c ((nI_ltI (by omega) hbb).mp z))]
          · refine ihm (w + 1) (by omega) L hL ?_
            rw [hLs, bestX_f hb]
      refine inner g.1 0 (by omega) _ (fun r hr => ?_) ?_
      · rw [upd_ne (by omega)]; exact hL r hr
      · rw [upd_eq]; rfl
  have h1 : 0 < 2 ^ g.1 := p2_pos _
  refine key (2 ^ g.1 - 1) 1 (by omega) (by decide) _ (fun r hr => ?_)
  have e : r = 0 := by omega
  subst e
  rw [upd_eq]
  rfl
theorem bestAheadX {P : Int32 → St → Prop} {S : St} {g : Sg} (hg : Wf g) (hx : XB g S) {wo : Option Nat} {s : Nat} (h0 : 0 < s) (hs : s < 2 ^ g.1) (hq : QR g wo S (2 ^ g.1)) (h : P (nI (bw (qz g wo) g.1 s)) S) : tX3_bestAhead (nI s) S P := by
  have h8 := hg.1.2
  have hp8 := pow8 h8
  have h256 : s < 256 := by omega
  obtain ⟨b1, b2, b3, b4⟩ := bw_spec (qz_le hg wo) h8 h0 hs
  refine bX3_bestAhead_0 _ ?_
  have hlsb := ls_bound (qz_le hg wo) h8 s hs
  refine loop_dn (fun w => wX3_bestAhead P 2 [.ref 41, .int (nI s), .int (nI w)] [] S) (bw (qz g wo) g.1 s) (fun w hw ih => ?_) ?_
  · have hwn : w < g.1 := by omega
    have ha := b4 w hw
    refine bX3_bestAhead_2 _ _ ⟨fun c => absurd (hx.1 ▸ c) (cnt_step hwn h8), fun _ => ?_⟩
    rw [nI_1]
    refine has_ok h256 (by omega) (fun hb => ⟨fun z => absurd z (by decide), fun _ => ?_⟩) (fun hb => ⟨fun _ => ih, fun z => absurd rfl z⟩)
    have hlt := nd_lt_self h256 hb
    refine quarrelX hg hwn hs hb (by omega) hq ⟨vp_in_nI h256 (by decide), fun _ => ih, fun c => ?_⟩
    rw [nI_clamp (by omega), hq.2 s hs, nI_eq ?_ (by omega)] at c
    · unfold ahB at ha
      rw [hb, c] at ha
      simp at ha
    · have := cost_bound (qz_le hg wo) h8 (w := w) (r := nd s (2 ^ w)) (Nat.lt_trans hlt hs)
      omega
  · refine bX3_bestAhead_2 _ _ ⟨fun c => absurd (hx.1 ▸ c) (cnt_step b1 h8), fun _ => ?_⟩
    refine has_ok h256 (by omega) (fun hb => ⟨fun z => absurd z (by decide), fun _ => ?_⟩) (fun hb => absurd (b2.symm.trans hb) (by decide))
    have hlt := nd_lt_self h256 hb
    refine quarrelX hg b1 hs hb (by omega) hq ⟨vp_in_nI h256 (by decide), fun c => absurd ?_ c, fun _ => h⟩
    rw [nI_clamp (by omega), hq.2 s hs, b3]
