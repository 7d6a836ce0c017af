/-! ===== fractions in least terms ===== -/
theorem lI_rem {a b : Nat} (ha : a < 9223372036854775808) (hb : 0 < b) (hb2 : b < 9223372036854775808) : lI a - lI a / lI b * lI b = lI ((a % b : Nat) : Int) := by
  have e : lI (a : Int) / lI (b : Int) = lI ((a / b : Nat) : Int) := by
    have q : a / b ≤ a := Nat.div_le_self _ _
    have q1 : (0 : Int) ≤ ((a / b : Nat) : Int) := Int.natCast_nonneg _
    have q2 : ((a / b : Nat) : Int) ≤ (a : Int) := Int.ofNat_le.mpr q
    apply Int64.toInt_inj.mp
    rw [Int64.toInt_div, lI_toInt (z := (a : Int)) (by omega) (by omega), lI_toInt (z := (b : Int)) (by omega) (by omega), Int.tdiv_eq_ediv_of_nonneg (by omega), ← Int.natCast_ediv]
    generalize ((a / b : Nat) : Int) = c at q1 q2
    rw [lI_toInt (by omega) (by omega)]
    exact fb_bmodL (by omega) (by omega)
  rw [e, lI_mul, lI_sub]
  congr 1
  have := Nat.div_add_mod a b
  have h2 : ((a : Nat) : Int) = ((b * (a / b) + a % b : Nat) : Int) := by rw [this]
  rw [Int.natCast_add, Int.natCast_mul, Int.mul_comm] at h2
  omega
theorem lI_n0 {b : Nat} (hb : b < 9223372036854775808) : lI (b : Int) = 0 ↔ b = 0 := by
  rw [show (0 : Int64) = lI 0 from rfl, lI_inj (by omega) (by omega) (by decide) (by decide)]
  omega
theorem mod_half {a b : Nat} (h : b ≤ a) (hb : 0 < b) : 2 * (a % b) ≤ a := by
  have h1 := Nat.mod_lt a hb
  have h2 := Nat.div_add_mod a b
  have h3 : 1 ≤ a / b := (Nat.le_div_iff_mul_le hb).mpr (by omega)
  have h4 := Nat.mul_le_mul_left b h3
  omega
theorem commonX {P : Int64 → St → Prop} {S : St} {a b : Nat} (ha : a < 9223372036854775808) (hb : b < 9223372036854775808) (h : P (lI (Nat.gcd a b : Nat)) S) : tX6_commonDivisor (lI a) (lI b) S P := by
  refine bX6_commonDivisor_0 _ _ ?_
  have one : ∀ (a b t : Nat), a < 9223372036854775808 → b < 9223372036854775808 → t < 128 → P (lI (Nat.gcd a b : Nat)) S → (0 < b → wX6_commonDivisor P 3 [.long (lI b), .retAddr 0, .long (lI ((a % b : Nat) : Int)), .retAddr 0, .int (nI (t + 1)), .retAddr 0, .retAddr 0] [] S) → wX6_commonDivisor P 3 [.long (lI a), .retAddr 0, .long (lI b), .retAddr 0, .int (nI t), .retAddr 0, .retAddr 0] [] S := fun a b t ha hb ht h0 h1 => by
    refine bX6_commonDivisor_3 _ _ _ ⟨fun c => absurd c (nI_ge (a := t) (b := 128) ht (by decide)), fun _ => ⟨fun c => ?_, fun c => ?_⟩⟩
    · have z := (lI_n0 hb).mp (lg_eq.mp c)
      subst z
      rw [Nat.gcd_zero_right] at h0
      exact h0
    · have z : b ≠ 0 := fun z => c (lg_eq.mpr ((lI_n0 hb).mpr z))
      refine ⟨fun q => z ((lI_n0 hb).mp q), ?_⟩
      rw [lI_rem ha (by omega) hb, nI_1]
      exact h1 (by omega)
  have key : ∀ s a b t, a < 2 ^ s → a < 9223372036854775808 → b ≤ a → t + 2 * s ≤ 127 → P (lI (Nat.gcd a b : Nat)) S → wX6_commonDivisor P 3 [.long (lI a), .retAddr 0, .long (lI b), .retAddr 0, .int (nI t), .retAddr 0, .retAddr 0] [] S := by
    intro s
    induction s with
    | zero =>
      intro a b t ha ha2 hb ht h0
      exact one a b t ha2 (by omega) (by omega) h0 (fun z => by omega)
    | succ s ih =>
      intro a b t ha ha2 hb ht h0
      refine one a b t ha2 (by omega) (by omega) h0 (fun z => ?_)
      have m1 := Nat.mod_lt a z
      have m2 := mod_half hb z
      have g1 : Nat.gcd b (a % b) = Nat.gcd a b := by rw [Nat.gcd_comm b, ← Nat.gcd_rec, Nat.gcd_comm]
      refine one b (a % b) (t + 1) (by omega) (by omega) (by omega) (by rw [g1]; exact h0) (fun y => ?_)
      have m3 := Nat.mod_lt b y
      have g2 : Nat.gcd (a % b) (b % (a % b)) = Nat.gcd b (a % b) := by rw [Nat.gcd_comm (a % b), ← Nat.gcd_rec, Nat.gcd_comm]
      refine ih (a % b) (b % (a % b)) (t + 1 + 1) ?_ (by omega) (by omega) (by omega) (by rw [g2, g1]; exact h0)
      have p : 2 ^ (s + 1) = 2 * 2 ^ s := by rw [Nat.pow_succ, Nat.mul_comm]
      omega
  refine one a b 0 ha hb (by decide) h (fun z => ?_)
  have m1 := Nat.mod_lt a z
  have g1 : Nat.gcd b (a % b) = Nat.gcd a b := by rw [Nat.gcd_comm b, ← Nat.gcd_rec, Nat.gcd_comm]
  exact key 63 b (a % b) 1 hb hb (by omega) (by decide) (by rw [g1]; exact h)
theorem commonM_w {P : Int64 → St → Prop} {S : St} {x y : Int64} : ∀ b a : Nat, a < 9223372036854775808 → b < 9223372036854775808 → P (lI (Nat.gcd a b : Nat)) S → wX7_common P 17 [.long x, .retAddr 0, .long y, .retAddr 0, .long (lI a), .retAddr 0, .long (lI b), .retAddr 0, .retAddr 0, .retAddr 0] [] S := by
  intro b
  induction b using Nat.strongRecOn with
  | _ b ih =>
    intro a ha hb h0
    refine bX7_common_17 _ _ _ _ ⟨fun c => ?_, fun c => ?_⟩
    · have z := (lI_n0 hb).mp (lg_eq.mp c)
      subst z
      rw [Nat.gcd_zero_right] at h0
      exact h0
    · have z : b ≠ 0 := fun z => c (lg_eq.mpr ((lI_n0 hb).mpr z))
      refine ⟨fun q => z ((lI_n0 hb).mp q), ?_⟩
      rw [lI_rem ha (by omega) hb]
      have m1 := Nat.mod_lt a (show 0 < b by omega)
      exact ih (a % b) m1 b hb (by omega) (by rw [Nat.gcd_comm b, ← Nat.gcd_rec, Nat.gcd_comm]; exact h0)
/-- the answer for a fraction: top or lower number in least terms -/
def lt0 (T d : Int) (what : Int32) : Int := if what = 0 then T / (Nat.gcd T.natAbs d.natAbs : Nat) else d / (Nat.gcd T.natAbs d.natAbs : Nat)
theorem gcd_pos {T d : Int} (hd : 0 < d) : 0 < Nat.gcd T.natAbs d.natAbs := Nat.gcd_pos_of_pos_right _ (by omega)
theorem gcd_dT (T d : Int) : T = (Nat.gcd T.natAbs d.natAbs : Nat) * (T / (Nat.gcd T.natAbs d.natAbs : Nat)) := (Int.mul_ediv_cancel' (Int.ofNat_dvd_left.mpr (Nat.gcd_dvd_left _ _))).symm
theorem gcd_dd (T d : Int) : d = (Nat.gcd T.natAbs d.natAbs : Nat) * (d / (Nat.gcd T.natAbs d.natAbs : Nat)) := (Int.mul_ediv_cancel' (Int.ofNat_dvd_left.mpr (Nat.gcd_dvd_right _ _))).symm
theorem quo_B {g v x : Int} (hg : 0 < g) (e : x = g * v) (h1 : -9223372036854775807 ≤ x) (h2 : x ≤ 9223372036854775807) : -9223372036854775807 ≤ v ∧ v ≤ 9223372036854775807 := by
  rcases Int.le_total 0 v with z | z
  · have := Int.mul_le_mul_of_nonneg_right (show 1 ≤ g by omega) z
    omega
  · have := Int.mul_le_mul_of_nonpos_right (show 1 ≤ g by omega) z
    omega
theorem lI_quo {T d : Int} (hd : 0 < d) {x : Int} (hx : x = (Nat.gcd T.natAbs d.natAbs : Nat) * (x / (Nat.gcd T.natAbs d.natAbs : Nat))) (h1 : -9223372036854775807 ≤ x) (h2 : x ≤ 9223372036854775807) (d2 : d ≤ 9223372036854775807) : lI x / lI (Nat.gcd T.natAbs d.natAbs : Nat) = lI (x / (Nat.gcd T.natAbs d.natAbs : Nat)) := by
  have gp := gcd_pos (T := T) hd
  have gl : Nat.gcd T.natAbs d.natAbs ≤ d.natAbs := Nat.le_of_dvd (by omega) (Nat.gcd_dvd_right _ _)
  generalize hv : x / ((Nat.gcd T.natAbs d.natAbs : Nat) : Int) = v at hx
  have vb := quo_B (show (0 : Int) < (Nat.gcd T.natAbs d.natAbs : Nat) by omega) hx h1 h2
  rw [hx]
  exact lI_div (by omega) (by omega) (by rw [← hx]; exact h1) (by rw [← hx]; exact h2) vb.1 vb.2
theorem leastX {P : Int64 → St → Prop} {S : St} {T d : Int} {what : Int32} (hd : 0 < d) (d2 : d ≤ 9223372036854775807) (h1 : -9223372036854775807 ≤ T) (h2 : T ≤ 9223372036854775807) (h : P (lI (lt0 T d what)) S) : tX6_inLeastTerms (lI T) (lI d) what S P := by
  refine bX6_inLeastTerms_0 _ _ _ ?_
  have ea : (if 0 < lI T then lI T else -(lI T)) = lI (T.natAbs : Nat) := by
    by_cases c : 0 < T
    · rw [if_pos (Int64.lt_iff_toInt_lt.mpr (by rw [lI_toInt (by omega) (by omega)]; exact c))]
      congr 1
      omega
    · rw [if_neg (fun z => by
        have := Int64.lt_iff_toInt_lt.mp z
        rw [lI_toInt (by omega) (by omega)] at this
        exact c this), lI_neg]
      congr 1
      omega
  have ed : lI d = lI (d.natAbs : Nat) := by congr 1; omega
  rw [ea]
  have gp := gcd_pos (T := T) hd
  have gl : Nat.gcd T.natAbs d.natAbs ≤ d.natAbs := Nat.le_of_dvd (by omega) (Nat.gcd_dvd_right _ _)
  have gne : lI (Nat.gcd T.natAbs d.natAbs : Nat) ≠ 0 := fun z => by
    have := (lI_n0 (by omega)).mp z
    omega
  have cm : tX6_commonDivisor (lI (T.natAbs : Nat)) (lI (d.natAbs : Nat)) S (fun r2 S1 => ((¬ (lg_cmp r2 0) = 0 → ((¬ what = 0 → ¬ r2 = 0 ∧ P (lI d / r2) S1) ∧ (what = 0 → ¬ r2 = 0 ∧ P (lI T / r2) S1))) ∧ ((lg_cmp r2 0) = 0 → P (-1003) S1))) := by
    refine commonX (by omega) (by omega) ⟨fun _ => ⟨fun c => ⟨gne, ?_⟩, fun c => ⟨gne, ?_⟩⟩, fun c => absurd (lg_eq.mp c) gne⟩
    · rw [lI_quo hd (gcd_dd T d) (by omega) (by omega) d2]
      unfold lt0 at h
      rw [if_neg c] at h
      exact h
    · rw [lI_quo hd (gcd_dT T d) h1 h2 d2]
      unfold lt0 at h
      rw [if_pos c] at h
      exact h
  rw [← ed] at cm
  exact cm
theorem toldM {P : Int64 → St → Prop} {S : St} {T d : Int} {what : Int32} (h0 : S.2.1 0 = lI d) (hd : 0 < d) (d2 : d ≤ 9223372036854775807) (h1 : -9223372036854775807 ≤ T) (h2 : T ≤ 9223372036854775807) (h : P (lI (lt0 T d what)) S) : tX7_told (lI T) what S P := by
  refine bX7_told_0 _ _ ?_
  rw [h0]
  have ed : lI d = lI (d.natAbs : Nat) := by congr 1; omega
  have gp := gcd_pos (T := T) hd
  have gl : Nat.gcd T.natAbs d.natAbs ≤ d.natAbs := Nat.le_of_dvd (by omega) (Nat.gcd_dvd_right _ _)
  have gne : lI (Nat.gcd T.natAbs d.natAbs : Nat) ≠ 0 := fun z => by
    have := (lI_n0 (by omega)).mp z
    omega
  have fin : ((¬ what = 0 → ¬ lI (Nat.gcd T.natAbs d.natAbs : Nat) = 0 ∧ P (S.2.1 0 / lI (Nat.gcd T.natAbs d.natAbs : Nat)) S) ∧ (what = 0 → ¬ lI (Nat.gcd T.natAbs d.natAbs : Nat) = 0 ∧ P (lI T / lI (Nat.gcd T.natAbs d.natAbs : Nat)) S)) := by
    refine ⟨fun c => ⟨gne, ?_⟩, fun c => ⟨gne, ?_⟩⟩
    · rw [h0, lI_quo hd (gcd_dd T d) (by omega) (by omega) d2]
      unfold lt0 at h
      rw [if_neg c] at h
      exact h
    · rw [lI_quo hd (gcd_dT T d) h1 h2 d2]
      unfold lt0 at h
      rw [if_pos c] at h
      exact h
  have cmp : (0 ≤ lg_cmp (lI T) 0) ↔ 0 ≤ T := by
    have q := lg_lt (x := lI T) (y := 0)
    rw [lI_toInt (by omega) (by omega), show (0 : Int64).toInt = 0 from rfl] at q
    rw [Int32.le_iff_toInt_le]
    rw [Int32.lt_iff_toInt_lt] at q
    omega
  refine bX7_common_0 _ _ ⟨fun c => ?_, fun c => ?_⟩
  · have t : lI T = lI (T.natAbs : Nat) := by congr 1; have := cmp.mp c; omega
    have w := commonM_w (P := fun r2 S1 => ((¬ what = 0 → ¬ r2 = 0 ∧ P (S1.2.1 0 / r2) S1) ∧ (what = 0 → ¬ r2 = 0 ∧ P (lI T / r2) S1))) (S := S) (x := lI T) (y := lI d) d.natAbs T.natAbs (by omega) (by omega) fin
    rw [← ed, ← t] at w
    exact w
  · have t : -(lI T) = lI (T.natAbs : Nat) := by rw [lI_neg]; congr 1; have := mt cmp.mpr c; omega
    rw [t]
    have w := commonM_w (P := fun r2 S1 => ((¬ what = 0 → ¬ r2 = 0 ∧ P (S1.2.1 0 / r2) S1) ∧ (what = 0 → ¬ r2 = 0 ∧ P (lI T / r2) S1))) (S := S) (x := lI T) (y := lI d) d.natAbs T.natAbs (by omega) (by omega) fin
    rw [← ed] at w
    exact w
/-- equal fractions are told alike -/
theorem lt0_eq {T d T2 d2 : Int} (hd : 0 < d) (hd2 : 0 < d2) (e : T * d2 = T2 * d) (what : Int32) : lt0 T d what = lt0 T2 d2 what := by
  have a1 := gcd_dT T d
  have a2 := gcd_dd T d
  have b1 := gcd_dT T2 d2
  have b2 := gcd_dd T2 d2
  have ga := gcd_pos (T := T) hd
  have gb := gcd_pos (T := T2) hd2
  have ca : Nat.Coprime (T / (Nat.gcd T.natAbs d.natAbs : Nat)).natAbs (d / (Nat.gcd T.natAbs d.natAbs : Nat)).natAbs := by
    rw [Int.natAbs_ediv_of_dvd (Int.ofNat_dvd_left.mpr (Nat.gcd_dvd_left _ _)), Int.natAbs_ediv_of_dvd (Int.ofNat_dvd_left.mpr (Nat.gcd_dvd_right _ _)), Int.natAbs_natCast]
    exact Nat.coprime_div_gcd_div_gcd ga
  have cb : Nat.Coprime (T2 / (Nat.gcd T2.natAbs d2.natAbs : Nat)).natAbs (d2 / (Nat.gcd T2.natAbs d2.natAbs : Nat)).natAbs := by
    rw [Int.natAbs_ediv_of_dvd (Int.ofNat_dvd_left.mpr (Nat.gcd_dvd_left _ _)), Int.natAbs_ediv_of_dvd (Int.ofNat_dvd_left.mpr (Nat.gcd_dvd_right _ _)), Int.natAbs_natCast]
    exact Nat.coprime_div_gcd_div_gcd gb
  unfold lt0
  generalize (Nat.gcd T.natAbs d.natAbs) = u at *
  generalize (Nat.gcd T2.natAbs d2.natAbs) = v at *
  generalize T / (u : Int) = t at *
  generalize d / (u : Int) = f at *
  generalize T2 / (v : Int) = t2 at *
  generalize d2 / (v : Int) = f2 at *
  have fp : 0 < f := by
    rcases Int.lt_or_le 0 f with z | z
    · exact z
    · have := Int.mul_nonneg (show (0 : Int) ≤ u by omega) (show 0 ≤ -f by omega)
      rw [Int.mul_neg] at this
      omega
  have fp2 : 0 < f2 := by
    rcases Int.lt_or_le 0 f2 with z | z
    · exact z
    · have := Int.mul_nonneg (show (0 : Int) ≤ v by omega) (show 0 ≤ -f2 by omega)
      rw [Int.mul_neg] at this
      omega
  have cross : t * f2 = t2 * f := by
    rw [a1, b1, b2, a2] at e
    have q : ((u : Int) * v) * (t * f2) = ((u : Int) * v) * (t2 * f) := by
      have l : (u : Int) * t * (v * f2) = (u * v) * (t * f2) := by simp only [Int.mul_assoc, Int.mul_left_comm, Int.mul_comm]
      have r : (v : Int) * t2 * (u * f) = (u * v) * (t2 * f) := by simp only [Int.mul_assoc, Int.mul_left_comm, Int.mul_comm]
      rw [← l, ← r]
      exact e
    have nz : (u : Int) * v ≠ 0 := by
      have := Int.mul_pos (show (0 : Int) < u by omega) (show (0 : Int) < v by omega)
      omega
    exact Int.eq_of_mul_eq_mul_left nz q
  have cn : t.natAbs * f2.natAbs = t2.natAbs * f.natAbs := by rw [← Int.natAbs_mul, ← Int.natAbs_mul, cross]
  have d1 : f.natAbs ∣ f2.natAbs := (Nat.Coprime.symm ca).dvd_of_dvd_mul_left (by rw [cn]; exact Nat.dvd_mul_left _ _)
  have d3 : f2.natAbs ∣ f.natAbs := (Nat.Coprime.symm cb).dvd_of_dvd_mul_left (by rw [← cn]; exact Nat.dvd_mul_left _ _)
  have fe : f = f2 := by
    have := Nat.dvd_antisymm d1 d3
    omega
  subst fe
  have te : t = t2 := Int.eq_of_mul_eq_mul_right (by omega) cross
  rw [te]
