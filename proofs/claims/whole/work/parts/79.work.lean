/-! ===== the class writes that leans are nothing in all ===== -/
abbrev wlC (g : Sg) (r p q a b : Nat) : Prop := b < kX g r ∧ 8 ≤ ndX g r a ∧ 8 ≤ ndX g r b ∧ (ndX g r a < 8 + p ∨ (ndX g r a = 8 + p ∧ ndX g r b < 8 + q))
theorem ndX_lt {g : Sg} (hg : Wf g) {r a : Nat} (hr : r < g.1) (ha : a < kX g r) : ndX g r a < 8 + g.1 := by
  have t := (uB_t.mp (ndX_u ha)).1
  have l := Tied.lt (by have := hg.1.2; omega) t
  by_cases c : ndX g r a < 8 + g.1
  · exact c
  · have := out_p hg hr (p := ndX g r a - 8) (by omega) (by omega)
    rw [show 8 + (ndX g r a - 8) = ndX g r a by omega] at this
    exact absurd t this
theorem C64 {g : Sg} {r a : Nat} (ha : a < kX g r) : CX g r true 64 a = if 8 ≤ ndX g r a then 1 else 0 := by
  show sC g r true (kX g r) (ndX g r) 64 a = _
  unfold sC cN
  rw [if_pos ha, if_neg (by decide)]
  have t := tdB_t.mpr (uB_t.mp (ndX_u ha)).1
  by_cases c : 8 ≤ ndX g r a
  · rw [if_pos ⟨rfl, c, t⟩, if_pos c]
  · rw [if_neg (fun z => c z.2.1), if_neg c]
theorem C64k {g : Sg} {r : Nat} {sm : Bool} : CX g r sm 64 (kX g r) = 0 := by
  show sC g r sm (kX g r) (ndX g r) 64 (kX g r) = _
  unfold sC rhs
  rw [if_neg (Nat.lt_irrefl _), if_pos rfl, if_neg (by decide)]
theorem C64f {g : Sg} {r a : Nat} (ha : a ≤ kX g r) : CX g r false 64 a = 0 := by
  by_cases c : a < kX g r
  · show sC g r false (kX g r) (ndX g r) 64 a = _
    unfold sC cN
    rw [if_pos c, if_neg (by decide), if_neg (fun z => absurd z.1 (by decide))]
  · have : a = kX g r := by omega
    rw [this]
    exact C64k
theorem writeLeansE {P : St → Prop} {S : St} {g : Sg} {r : Nat} (hg : Wf g) (hx : XB g S) (hr : r < g.1) (h17 : S.2.2.1 17 (rtc (whoS g) r) = nI (cM (whoS g) g.1 r)) (h19 : ∀ i, i < g.1 → S.2.2.1 19 i = lSl g r i) (hk : kX g r ≤ 10) (he : ER (kX g r) (gA 64 (CX g r true)) S) (h : ∀ S1, FrB eqB S S1 → ER (kX g r) (gA 65 (CX g r true)) S1 → P S1) : tX4_writeLeansAreNothingInAll (nI (rtc (whoS g) r)) S P := by
  have n8 := hg.1.2
  have rl := rtc_le (whoS g) r
  refine bX4_writeLeansAreNothingInAll_0 _ ?_
  have bM : ∀ i, i < g.1 → ((cM (whoS g) g.1 r).testBit i = true ↔ uB g r 16 (8 + i) = true) := fun i hin => cM_bit.trans (by
    rw [uB_t]
    exact ⟨fun z => ⟨z.2, by omega, Or.inl (by omega)⟩, fun z => ⟨hin, z.1⟩⟩)
  have skip : ∀ {V : Nat → Nat → Int} {S1 : St} {c c2 : Nat → Nat → Prop} {_ : ∀ a b, Decidable (c a b)} {_ : ∀ a b, Decidable (c2 a b)}, ER (kX g r) (fun a b => V a b + if c a b then 1 else 0) S1 → (∀ a b, a < kX g r → b ≤ kX g r → (c a b ↔ c2 a b)) → ER (kX g r) (fun a b => V a b + if c2 a b then 1 else 0) S1 := fun {V S1 c c2 _ _} e hc => e.eq (fun a b ha hb => by
    show _ + _ = _ + _
    congr 1
    by_cases z : c a b
    · rw [if_pos z, if_pos ((hc a b ha hb).mp z)]
    · rw [if_neg z, if_neg (fun y => z ((hc a b ha hb).mpr y))])
  have inner : ∀ p, p < g.1 → (∀ S1, FrB eqB S S1 → ER (kX g r) (fun a b => gA 64 (CX g r true) a b + if wlC g r (p + 1) 0 a b then 1 else 0) S1 → wX4_writeLeansAreNothingInAll P 2 [.ref 20, .int (nI (rtc (whoS g) r)), .int (nI (p + 1)), .retAddr 0] [] S1) → ∀ m q, q + m = g.1 → ∀ S1, FrB eqB S S1 → ER (kX g r) (fun a b => gA 64 (CX g r true) a b + if wlC g r p q a b then 1 else 0) S1 → wX4_writeLeansAreNothingInAll P 15 [.ref 20, .int (nI (rtc (whoS g) r)), .int (nI p), .int (nI q)] [] S1 := by
    intro p hp out m
    induction m with
    | zero =>
      intro q hq S1 f1 e1
      have e : q = g.1 := by omega
      subst e
      have hx1 := hx.frB f1
      refine bX4_writeLeansAreNothingInAll_15 _ _ _ ⟨fun _ => ?_, fun c => absurd (by rw [hx1.1]; exact nI_le (Nat.le_refl _) (by omega)) c⟩
      rw [nI_1]
      refine out S1 f1 (skip e1 (fun a b ha hb => ⟨fun z => ⟨z.1, z.2.1, z.2.2.1, ?_⟩, fun z => ⟨z.1, z.2.1, z.2.2.1, ?_⟩⟩))
      · rcases z.2.2.2 with y | y
        · exact Or.inl (by omega)
        · exact Or.inl (by omega)
      · have := ndX_lt hg hr z.1
        rcases z.2.2.2 with y | y
        · by_cases c : ndX g r a < 8 + p
          · exact Or.inl c
          · exact Or.inr ⟨by omega, this⟩
        · omega
    | succ m ih =>
      intro q hq S1 f1 e1
      have hqn : q < g.1 := by omega
      have hx1 := hx.frB f1
      have e17 : S1.2.2.1 17 (rtc (whoS g) r) = nI (cM (whoS g) g.1 r) := by rw [f1.2.2.1]; exact h17
      have e19 : ∀ i, i < g.1 → S1.2.2.1 19 i = lSl g r i := fun i hi => by rw [f1.2.2.1]; exact h19 i hi
      have no : ¬ (uB g r 16 (8 + p) = true ∧ uB g r 16 (8 + q) = true) → wX4_writeLeansAreNothingInAll P 15 [.ref 20, .int (nI (rtc (whoS g) r)), .int (nI p), .int (nI (q + 1))] [] S1 := fun nn => by
        refine ih (q + 1) (by omega) S1 f1 (skip e1 (fun a b ha hb => ⟨fun z => ⟨z.1, z.2.1, z.2.2.1, ?_⟩, fun z => ⟨z.1, z.2.1, z.2.2.1, ?_⟩⟩))
        · rcases z.2.2.2 with y | y
          · exact Or.inl y
          · exact Or.inr ⟨y.1, by omega⟩
        · rcases z.2.2.2 with y | y
          · exact Or.inl y
          · by_cases c : ndX g r b = 8 + q
            · exact absurd ⟨y.1 ▸ ndX_u ha, c ▸ ndX_u z.1⟩ nn
            · exact Or.inr ⟨y.1, by omega⟩
      refine bX4_writeLeansAreNothingInAll_15 _ _ _ ⟨fun c => absurd (hx1.1 ▸ c) (cnt_step hqn n8), fun _ => ⟨vp_in_nI (by omega) (by decide), ?_⟩⟩
      rw [nI_clamp (by omega), nI_1, e17]
      refine has_ok (cM_lt n8) (by omega) (fun e => ⟨fun z => absurd z (by decide), fun _ => ?_⟩) (fun e => ⟨fun _ => ?_, fun z => absurd rfl z⟩)
      · have up := (bM p hp).mp e
        rw [e17]
        refine has_ok (cM_lt n8) (by omega) (fun e => ⟨fun z => absurd z (by decide), fun _ => ?_⟩) (fun e => ⟨fun _ => ?_, fun z => absurd rfl z⟩)
        · have uq := (bM q hqn).mp e
          refine ⟨ii hp n8, ii hqn n8, ?_⟩
          have sp := ndX_sl (g := g) (r := r) (z := 8 + p) (by omega) up
          have sq := ndX_sl (g := g) (r := r) (z := 8 + q) (by omega) uq
          rw [nI_clamp (by omega), nI_clamp (by omega), e19 p hp, e19 q hqn, lSl_sl, lSl_sl, if_pos up, if_pos uq]
          refine addFaE e1 sp.1 sq.1 hk (fun S2 f2 e2 => ih (q + 1) (by omega) S2 (f1.tr f2) (e2.eq (fun a b ha hb => ?_)))
          show _ + _ + _ = _ + _
          by_cases c : a = slX g r (8 + p) ∧ b = slX g r (8 + q)
          · have n1 : ndX g r a = 8 + p := by rw [c.1]; exact sp.2
            have n2 : ndX g r b = 8 + q := by rw [c.2]; exact sq.2
            have hb2 : b < kX g r := by rw [c.2]; exact sq.1
            rw [if_pos c, if_neg (fun z => by rcases z.2.2.2 with y | y <;> omega), if_pos (show wlC g r p (q + 1) a b from ⟨hb2, by omega, by omega, Or.inr ⟨n1, by omega⟩⟩)]
            omega
          · rw [if_neg c, Int.add_zero]
            congr 1
            by_cases z : wlC g r p q a b
            · have z2 : wlC g r p (q + 1) a b := ⟨z.1, z.2.1, z.2.2.1, by
                rcases z.2.2.2 with y | y
                · exact Or.inl y
                · exact Or.inr ⟨y.1, by omega⟩⟩
              rw [if_pos z, if_pos z2]
            · have z2 : ¬ wlC g r p (q + 1) a b := fun y => z ⟨y.1, y.2.1, y.2.2.1, by
                rcases y.2.2.2 with x | x
                · exact Or.inl x
                · by_cases c2 : ndX g r b = 8 + q
                  · exact absurd ⟨(ndX_iff (by omega) up ha).mp x.1, (ndX_iff (by omega) uq y.1).mp c2⟩ c
                  · exact Or.inr ⟨x.1, by omega⟩⟩
              rw [if_neg z, if_neg z2]
        · exact no (fun z => by rw [(bM q hqn).mpr z.2] at e; exact absurd e (by decide))
      · exact no (fun z => by rw [(bM p hp).mpr z.1] at e; exact absurd e (by decide))
  have outer : ∀ m p, p + m = g.1 → ∀ S1, FrB eqB S S1 → ER (kX g r) (fun a b => gA 64 (CX g r true) a b + if wlC g r p 0 a b then 1 else 0) S1 → wX4_writeLeansAreNothingInAll P 2 [.ref 20, .int (nI (rtc (whoS g) r)), .int (nI p), .retAddr 0] [] S1 := by
    intro m
    induction m with
    | zero =>
      intro p hp S1 f1 e1
      have e : p = g.1 := by omega
      subst e
      have hx1 := hx.frB f1
      refine bX4_writeLeansAreNothingInAll_2 _ _ ⟨fun _ => h S1 f1 (e1.eq (fun a b ha hb => ?_)), fun c => absurd (by rw [hx1.1]; exact nI_le (Nat.le_refl _) (by omega)) c⟩
      show _ = gA 64 (CX g r true) a b + CX g r true 64 a * CX g r true 64 b
      congr 1
      rw [C64 ha]
      by_cases cb : b < kX g r
      · rw [C64 cb]
        have la := ndX_lt hg hr ha
        by_cases c1 : 8 ≤ ndX g r a
        · by_cases c2 : 8 ≤ ndX g r b
          · rw [if_pos ⟨cb, c1, c2, Or.inl la⟩, if_pos c1, if_pos c2]; rfl
          · rw [if_neg (fun z => c2 z.2.2.1), if_pos c1, if_neg c2]; rfl
        · rw [if_neg (fun z => c1 z.2.1), if_neg c1, Int.zero_mul]
      · have : b = kX g r := by omega
        rw [this, C64k, Int.mul_zero, if_neg (fun z => Nat.lt_irrefl _ z.1)]
    | succ m ih =>
      intro p hp S1 f1 e1
      have hpn : p < g.1 := by omega
      have hx1 := hx.frB f1
      exact bX4_writeLeansAreNothingInAll_2 _ _ ⟨fun c => absurd (hx1.1 ▸ c) (cnt_step hpn n8), fun _ => inner p hpn (ih (p + 1) (by omega)) g.1 0 (by omega) S1 f1 e1⟩
  refine outer g.1 0 (by omega) S (FrB.rf _ _) (he.eq (fun a b ha hb => ?_))
  rw [if_neg (fun z => ?_), Int.add_zero]
  rcases z.2.2.2 with y | y <;> omega
/-! ===== has staff marked a work of the piece ===== -/
noncomputable def smB (g : Sg) (r : Nat) : Bool := @decide (∀ w, w < 8 → tdB (whoS g) r w = true → g.2.2.2.2 w = -1) (Classical.propDecidable _)
theorem smB_t {g : Sg} {r : Nat} : smB g r = true ↔ ∀ w, w < 8 → tdB (whoS g) r w = true → g.2.2.2.2 w = -1 := @decide_eq_true_iff _ (Classical.propDecidable _)
theorem hasStaffE {P : Int32 → St → Prop} {S : St} {g : Sg} {r : Nat} (hg : Wf g) (hx : XB g S) (hr : r < g.1) (h16 : S.2.2.1 16 (rtc (whoS g) r) = nI (cW (whoS g) g.1 r)) (h1 : smB g r = false → P 1 S) (h0 : smB g r = true → P 0 S) : tX4_hasStaffMark (nI (rtc (whoS g) r)) S P := by
  have n8 := hg.1.2
  have rl := rtc_le (whoS g) r
  refine bX4_hasStaffMark_0 _ ?_
  have key : ∀ m i, i + m = g.1 → (∀ w, w < i → tdB (whoS g) r w = true → g.2.2.2.2 w = -1) → wX4_hasStaffMark P 2 [.ref 20, .int (nI (rtc (whoS g) r)), .int (nI i)] [] S := by
    intro m
    induction m with
    | zero =>
      intro i hi inv
      have e : i = g.1 := by omega
      subst e
      refine bX4_hasStaffMark_2 _ _ ⟨fun _ => h0 (smB_t.mpr (fun w hw t => ?_)), fun c => absurd (by rw [hx.1]; exact nI_le (Nat.le_refl _) (by omega)) c⟩
      by_cases c : w < g.1
      · exact inv w c t
      · exact absurd (tdB_t.mp t) (out_w hg hr (by omega) hw)
    | succ m ih =>
      intro i hi inv
      have hin : i < g.1 := by omega
      refine bX4_hasStaffMark_2 _ _ ⟨fun c => absurd (hx.1 ▸ c) (cnt_step hin n8), fun _ => ⟨vp_in_nI (by omega) (by decide), ?_⟩⟩
      rw [nI_clamp (by omega), nI_clamp (by omega), nI_1, h16]
      have nx : (tdB (whoS g) r i = true → g.2.2.2.2 i = -1) → wX4_hasStaffMark P 2 [.ref 20, .int (nI (rtc (whoS g) r)), .int (nI (i + 1))] [] S := fun hh => ih (i + 1) (by omega) (fun w hw t => by
        by_cases c : w = i
        · subst c; exact hh t
        · exact inv w (by omega) t)
      refine has_ok (cW_lt n8) (by omega) (fun e => ⟨fun z => absurd z (by decide), fun _ => ⟨ii hin n8, ?_⟩⟩) (fun e => ⟨fun _ => ?_, fun z => absurd rfl z⟩)
      · rw [hx.2.2.2.2 i (by omega)]
        refine ⟨fun c => nx (fun _ => c), fun c => h1 ?_⟩
        cases z : smB g r with
        | false => rfl
        | true => exact absurd (smB_t.mp z i (by omega) (tdB_t.mpr (cW_bit.mp e).2)) c
      · exact nx (fun t => by
          rw [cW_bit.mpr ⟨hin, tdB_t.mp t⟩] at e
          exact absurd e (by decide))
  exact key g.1 0 (by omega) (fun w hw => by omega)
