/-! ===== the class writes the marks of a work ===== -/
theorem ER.eq {k : Nat} {V V2 : Nat → Nat → Int} {S : St} (h : ER k V S) (e : ∀ i j, i < k → j ≤ k → V i j = V2 i j) : ER k V2 S := ⟨h.1, fun i j hi hj => by rw [h.2 i j hi hj, e i j hi hj]⟩
theorem sC_e {g : Sg} {r k : Nat} {sm : Bool} {nd : Nat → Nat} {w p : Nat} (hw : w < 8) (hp : p < 8) (he : eg g r w p = true) {a : Nat} (ha : a < k) : sC g r sm k nd (8 * w + p) a = (if nd a = w then 1 else 0) + (if nd a = 8 + p then 1 else 0) := by
  unfold sC cN
  rw [if_pos ha, if_pos (show 8 * w + p < 64 by omega), show (8 * w + p) / 8 = w by omega, show (8 * w + p) % 8 = p by omega, if_pos he]
theorem sC_k {g : Sg} {r k : Nat} {sm : Bool} {nd : Nat → Nat} {w p : Nat} (hw : w < 8) (hp : p < 8) (he : eg g r w p = true) : sC g r sm k nd (8 * w + p) k = (g.2.2.2.1 p w).toInt - stf g w := by
  unfold sC rhs
  rw [if_neg (by omega), if_pos rfl, if_pos (show 8 * w + p < 64 by omega), show (8 * w + p) / 8 = w by omega, show (8 * w + p) % 8 = p by omega, if_pos he]
theorem sC_no {g : Sg} {r k : Nat} {sm : Bool} {nd : Nat → Nat} {w p : Nat} (hw : w < 8) (hp : p < 8) (he : ¬ eg g r w p = true) (a : Nat) : sC g r sm k nd (8 * w + p) a = 0 := by
  unfold sC cN rhs
  rw [if_pos (show 8 * w + p < 64 by omega), if_pos (show 8 * w + p < 64 by omega), show (8 * w + p) / 8 = w by omega, show (8 * w + p) % 8 = p by omega, if_neg he, if_neg he]
  split
  · rfl
  · split <;> rfl
theorem gA_skip {C : Nat → Nat → Int} {e0 : Nat} {a b : Nat} : ∀ {m : Nat}, (∀ e, e0 ≤ e → e < e0 + m → C e a = 0) → gA (e0 + m) C a b = gA e0 C a b
  | 0, _ => rfl
  | m + 1, h => by
    show gA (e0 + m) C a b + C (e0 + m) a * C (e0 + m) b = _
    rw [gA_skip (fun e h1 h2 => h e h1 (by omega)), h (e0 + m) (by omega) (by omega), Int.zero_mul, Int.add_zero]
theorem sq_two {k s t a b : Nat} (hs : s < k) (ht : t < k) (hne : s ≠ t) (hb : b ≤ k) (v x : Int) : x + (if a = s ∧ b = s then 1 else 0) + (if a = s ∧ b = k then v else 0) + (if a = t ∧ b = t then 1 else 0) + (if a = t ∧ b = k then v else 0) + (if a = s ∧ b = t then 1 else 0) + (if a = t ∧ b = s then 1 else 0) = x + ((if a = s then 1 else 0) + (if a = t then 1 else 0)) * (if b < k then ((if b = s then 1 else 0) + (if b = t then 1 else 0)) else v) := by
  by_cases h5 : b = k
  · subst h5
    have e1 : ¬ b = s := by omega
    have e2 : ¬ b = t := by omega
    have e3 : ¬ t = s := fun z => hne z.symm
    by_cases h1 : a = s
    · subst h1
      simp [e1, e2, hne]
    · by_cases h2 : a = t
      · subst h2
        simp [e1, e2, h1]
      · simp [e1, e2, h1, h2]
  · have e4 : b < k := by omega
    have e3 : ¬ t = s := fun z => hne z.symm
    by_cases h1 : a = s
    · have e6 : ¬ a = t := fun z => hne (h1.symm.trans z)
      subst h1
      by_cases h3 : b = a
      · subst h3; simp [e6, e4, h5]
      · by_cases h4 : b = t
        · subst h4; simp [e6, h5, h3, e4]
        · simp [e6, h5, h3, h4, e4]
    · by_cases h2 : a = t
      · subst h2
        by_cases h3 : b = s
        · subst h3; simp [h1, hne, h5, e4]
        · by_cases h4 : b = a
          · subst h4; simp [h1, h5, e4]
          · simp [h1, h5, h3, h4, e4]
      · simp [h1, h2, h5, e4]
theorem sq_one {k t a b : Nat} (ht : t < k) (hb : b ≤ k) (v x : Int) : x + (if a = t ∧ b = t then 1 else 0) + (if a = t ∧ b = k then v else 0) = x + (if a = t then 1 else 0) * (if b < k then (if b = t then 1 else 0) else v) := by
  by_cases h5 : b = k
  · subst h5
    rw [if_neg (show ¬ (a = t ∧ b = t) from fun z => by omega), if_neg (Nat.lt_irrefl b)]
    by_cases h2 : a = t
    · rw [if_pos ⟨h2, rfl⟩, if_pos h2]; omega
    · rw [if_neg (fun z => h2 z.1), if_neg h2]; omega
  · rw [if_neg (show ¬ (a = t ∧ b = k) from fun z => h5 z.2), if_pos (show b < k by omega)]
    by_cases h2 : a = t <;> by_cases h4 : b = t <;> simp [h2, h4]
noncomputable abbrev CX (g : Sg) (r : Nat) (sm : Bool) : Nat → Nat → Int := sC g r sm (kX g r) (ndX g r)
theorem XB.frB {g : Sg} {L : List Nat} {S S1 : St} (h : XB g S) (f : FrB L S S1) : XB g S1 := by
  unfold XB at h ⊢
  rw [f.1, f.2.2.1]
  exact h
theorem markE {P : St → Prop} {S : St} {g : Sg} {r : Nat} {sm : Bool} (hg : Wf g) (hx : XB g S) (h18 : ∀ i, i < g.1 → S.2.2.1 18 i = wSl g r i) (h19 : ∀ i, i < g.1 → S.2.2.1 19 i = lSl g r i) (hk : kX g r ≤ 10) {w p : Nat} (hw : w < g.1) (hp : p < g.1) (ht : Tied (whoS g) r w) (hb : (whoS g w).testBit p = true) (he : ER (kX g r) (gA (8 * w + p) (CX g r sm)) S) (h : ∀ S1, FrB eqB S S1 → ER (kX g r) (gA (8 * w + (p + 1)) (CX g r sm)) S1 → P S1) : ((¬ (S.2.2.1 18 w) = (-1 : Int32) → vp_in (nI p) 8 ∧ tX0_addSquareOfSum (S.2.2.1 18 w) (S.2.2.1 19 p) (S.2.2.1 (2 + p) w) S P) ∧ ((S.2.2.1 18 w) = (-1 : Int32) → vp_in (nI p) 8 ∧ tX0_addSquare (S.2.2.1 19 p) (S.2.2.1 (2 + p) w - S.2.2.1 10 w) S P)) := by
  have n8 := hg.1.2
  have he' : eg g r w p = true := by
    unfold eg
    rw [hb, tdB_t.mpr ht]
    rfl
  have up : uB g r 16 (8 + p) = true := uB_t.mpr ⟨ht.tr (Tied.wp (by omega) (by omega) hb), by omega, Or.inl (by omega)⟩
  have sp := ndX_sl (g := g) (r := r) (z := 8 + p) (by omega) up
  have e19 : S.2.2.1 19 p = nI (slX g r (8 + p)) := by rw [h19 p hp, lSl_sl, if_pos up]
  have e18 := h18 w hw
  rw [wSl_sl (by omega)] at e18
  have e2 : S.2.2.1 (2 + p) w = g.2.2.2.1 p w := hx.2.2.2.1 p w (by omega) (by omega)
  have e10 : S.2.2.1 10 w = g.2.2.2.2 w := hx.2.2.2.2 w (by omega)
  have ek := sC_k (g := g) (r := r) (k := kX g r) (sm := sm) (nd := ndX g r) (w := w) (p := p) (by omega) (by omega) he'
  have ea := fun {a : Nat} (ha : a < kX g r) => sC_e (g := g) (r := r) (k := kX g r) (sm := sm) (nd := ndX g r) (w := w) (p := p) (by omega) (by omega) he' ha
  have stp : ∀ a b, gA (8 * w + (p + 1)) (CX g r sm) a b = gA (8 * w + p) (CX g r sm) a b + CX g r sm (8 * w + p) a * CX g r sm (8 * w + p) b := fun a b => rfl
  have ifP : ∀ a, a < kX g r → (if ndX g r a = 8 + p then (1 : Int) else 0) = if a = slX g r (8 + p) then 1 else 0 := fun a ha => by
    by_cases c : a = slX g r (8 + p)
    · rw [if_pos c, if_pos ((ndX_iff (by omega) up ha).mpr c)]
    · rw [if_neg c, if_neg (fun z => c ((ndX_iff (by omega) up ha).mp z))]
  refine ⟨fun c => ?_, fun c => ?_⟩
  · have uw : uB g r 16 w = true := by
      by_cases z : uB g r 16 w = true
      · exact z
      · rw [if_neg z] at e18; exact absurd e18 c
    rw [if_pos uw] at e18
    have sw := ndX_sl (g := g) (r := r) (z := w) (by omega) uw
    have st : g.2.2.2.2 w = -1 := by
      rcases (uB_t.mp uw).2.2 with z | z
      · omega
      · exact z
    have s0 : stf g w = 0 := if_pos st
    have hne : slX g r w ≠ slX g r (8 + p) := fun z => by
      have := sw.2
      rw [z, sp.2] at this
      omega
    refine ⟨ii hp n8, ?_⟩
    rw [e18, e19, e2]
    refine addSumE he sw.1 sp.1 hk (fun S1 f1 e1 => h S1 f1 (e1.eq (fun a b ha hb' => ?_)))
    have ifW : ∀ a, a < kX g r → (if ndX g r a = w then (1 : Int) else 0) = if a = slX g r w then 1 else 0 := fun a ha => by
      by_cases c : a = slX g r w
      · rw [if_pos c, if_pos ((ndX_iff (by omega) uw ha).mpr c)]
      · rw [if_neg c, if_neg (fun z => c ((ndX_iff (by omega) uw ha).mp z))]
    rw [stp, sq_two sw.1 sp.1 hne hb']
    show _ = _ + sC g r sm (kX g r) (ndX g r) (8 * w + p) a * sC g r sm (kX g r) (ndX g r) (8 * w + p) b
    rw [ea ha, ifW a ha, ifP a ha]
    by_cases c2 : b < kX g r
    · rw [if_pos c2, ea c2, ifW b c2, ifP b c2]
    · have : b = kX g r := by omega
      rw [if_neg c2, this, ek, s0, Int.sub_zero]
  · have uw : ¬ uB g r 16 w = true := fun z => by
      rw [if_pos z] at e18
      have := congrArg Int32.toInt (e18.symm.trans c)
      rw [nI_toInt (by have := (ndX_sl (g := g) (r := r) (z := w) (by omega) z).1; omega), show (-1 : Int32).toInt = -1 from rfl] at this
      omega
    have st : ¬ g.2.2.2.2 w = -1 := fun z => uw (uB_t.mpr ⟨ht, by omega, Or.inr z⟩)
    have s0 : stf g w = (g.2.2.2.2 w).toInt := if_neg st
    refine ⟨ii hp n8, ?_⟩
    rw [e19, e2, e10]
    refine addSqE he sp.1 hk (fun S1 f1 e1 => h S1 f1 (e1.eq (fun a b ha hb' => ?_)))
    have m1 := hg.2.2.2.2.1 p w
    have m2 := hg.2.2.2.2.2.2.1 w
    unfold mkok at m1 m2
    rw [stp, sq_one sp.1 hb', fb_subI (by omega) (by omega)]
    show _ = _ + sC g r sm (kX g r) (ndX g r) (8 * w + p) a * sC g r sm (kX g r) (ndX g r) (8 * w + p) b
    rw [ea ha, if_neg (ndX_no uw ha), ifP a ha, Int.zero_add]
    by_cases c2 : b < kX g r
    · rw [if_pos c2, ea c2, if_neg (ndX_no uw c2), ifP b c2, Int.zero_add]
    · have : b = kX g r := by omega
      rw [if_neg c2, this, ek, s0]
theorem writeMarksE {P : St → Prop} {S : St} {g : Sg} {r : Nat} {sm : Bool} (hg : Wf g) (hx : XB g S) (h15 : ∀ w, w < g.1 → S.2.2.1 15 w = nI (whoS g w)) (h18 : ∀ i, i < g.1 → S.2.2.1 18 i = wSl g r i) (h19 : ∀ i, i < g.1 → S.2.2.1 19 i = lSl g r i) (hk : kX g r ≤ 10) {w : Nat} (hw : w < g.1) (ht : Tied (whoS g) r w) (he : ER (kX g r) (gA (8 * w) (CX g r sm)) S) (h : ∀ S1, FrB eqB S S1 → ER (kX g r) (gA (8 * (w + 1)) (CX g r sm)) S1 → P S1) : tX4_writeMarksOf (nI w) S P := by
  have n8 := hg.1.2
  refine bX4_writeMarksOf_0 _ ?_
  have key : ∀ m p, p + m = g.1 → ∀ S1, FrB eqB S S1 → ER (kX g r) (gA (8 * w + p) (CX g r sm)) S1 → wX4_writeMarksOf P 2 [.ref 20, .int (nI w), .int (nI p)] [] S1 := by
    intro m
    induction m with
    | zero =>
      intro p hp S1 f1 e1
      have e : p = g.1 := by omega
      subst e
      have hx1 := hx.frB f1
      refine bX4_writeMarksOf_2 _ _ ⟨fun _ => h S1 f1 (e1.eq (fun a b ha hb => ?_)), fun c => absurd (by rw [hx1.1]; exact nI_le (Nat.le_refl _) (by omega)) c⟩
      rw [show 8 * (w + 1) = 8 * w + g.1 + (8 - g.1) by omega]
      refine (gA_skip (fun e h1 h2 => ?_)).symm
      rw [show e = 8 * w + (e - 8 * w) by omega]
      refine sC_no (by omega) (by omega) (fun z => ?_) a
      unfold eg at z
      have := (whoS_bit.mp (Bool.and_eq_true _ _ ▸ z).1).1
      omega
    | succ m ih =>
      intro p hp S1 f1 e1
      have hpn : p < g.1 := by omega
      have hx1 := hx.frB f1
      refine bX4_writeMarksOf_2 _ _ ⟨fun c => absurd (hx1.1 ▸ c) (cnt_step hpn n8), fun _ => ⟨ii hw n8, ?_⟩⟩
      rw [nI_clamp (by omega), nI_clamp (by omega), nI_1]
      have e15 : S1.2.2.1 15 w = nI (whoS g w) := by rw [f1.2.2.1]; exact h15 w hw
      rw [e15]
      refine has_ok (whoS_lt hg w) (by omega) (fun e => ⟨fun z => absurd z (by decide), fun _ => ?_⟩) (fun e => ⟨fun _ => ?_, fun z => absurd rfl z⟩)
      · exact markE hg hx1 (fun i hi => by rw [f1.2.2.1]; exact h18 i hi) (fun i hi => by rw [f1.2.2.1]; exact h19 i hi) hk hw hpn ht e e1 (fun S2 f2 e2 => ih (p + 1) (by omega) S2 (f1.tr f2) e2)
      · refine ih (p + 1) (by omega) S1 f1 (e1.eq (fun a b ha hb => ?_))
        refine (gA_skip (m := 1) (fun e' h1 h2 => ?_)).symm
        have : e' = 8 * w + p := by omega
        subst this
        refine sC_no (by omega) (by omega) (fun z => ?_) a
        unfold eg at z
        rw [e, Bool.false_and] at z
        exact absurd z (by decide)
  exact key g.1 0 (by omega) S (FrB.rf _ _) he
