/-! ===== the calls plan, shared, lack, parts ===== -/
theorem first_u {g : Sg} {M M2 : Nat → Nat → Bool} (h : FirstG g M) (h2 : FirstG g M2) : M = M2 := by
  funext w p
  exact gf_unique h.1 h2.1 h.2 h2.2 w p
theorem roomForX {P : Int32 → St → Prop} {S : St} {g : Sg} (hg : Wf g) (hx : XB g S) {t : Nat} (ht : t < 256) (h : P (nI (rmN g (fun _ => g.2.2.1 1) t g.1)) S) : tX5_roomFor (nI t) S P := by
  have h8 := hg.1.2
  have k4 := hg.2.2.2.1
  refine bX5_roomFor_0 _ ?_
  refine loop_dn (fun p => wX5_roomFor P 4 [.ref 15, .int (nI t), .int (nI (rmN g (fun _ => g.2.2.1 1) t p)), .int (nI p)] [] S) g.1 (fun p hp ih => ?_) ?_
  · refine bX5_roomFor_4 _ _ _ ⟨fun c => absurd (hx.1 ▸ c) (cnt_step hp h8), fun _ => mayMark_ok hg hx (by omega) ?_⟩
    have c8 := csum_le1 (t &&& mayS g p) 8
    rw [nI_and, Nat.and_comm, wbc_256 _ (and_lt ht), hx.2.2.1 1 (by decide), nI_1]
    have ih3 : wX5_roomFor P 4 [.ref 15, .int (nI t), .int (nI (rmN g (fun _ => g.2.2.1 1) t p + min (g.2.2.1 1) (csum (fun _ => 1) (t &&& mayS g p) 8))), .int (nI (p + 1))] [] S := ih
    by_cases c : csum (fun _ => 1) (t &&& mayS g p) 8 < g.2.2.1 1
    · rw [if_pos ((nI_ltI (by omega) (by omega)).mpr c), nI_add]
      rw [Nat.min_eq_right (by omega)] at ih3
      exact ih3
    · rw [if_neg (fun z => c ((nI_ltI (by omega) (by omega)).mp z)), nI_add]
      rw [Nat.min_eq_left (by omega)] at ih3
      exact ih3
  · exact bX5_roomFor_4 _ _ _ ⟨fun _ => h, fun c => absurd (by rw [hx.1]; exact nI_le (Nat.le_refl _) (by omega)) c⟩
theorem leastLackX {P : Int32 → St → Prop} {S : St} {g : Sg} (hg : Wf g) (hx : XB g S) (h : ∀ T, LackIs g (fun _ => g.2.2.1 1) 0 T → P (nI T) S) : tX5_leastLack S P := by
  have h8 := hg.1.2
  have hp8 := pow8 h8
  have hpp := p2_pos g.1
  have k4 := hg.2.2.2.1
  refine bX5_leastLack_0 ?_
  rw [hx.1, sh1 h8]
  have key : ∀ k t, t + k = 2 ^ g.1 → 0 < t → (∀ u, 0 < u → u < t → ¬ lk g (fun _ => g.2.2.1 1) 0 u) → wX5_leastLack P 12 [.ref 15, .int (nI (2 ^ g.1)), .int (nI t)] [] S := by
    intro k
    induction k with
    | zero =>
      intro t ht h0 inv
      have e : t = 2 ^ g.1 := by omega
      subst e
      exact bX5_leastLack_12 _ _ ⟨fun _ => h 0 (Or.inl ⟨rfl, inv⟩), fun c => absurd (nI_le (Nat.le_refl _) (by omega)) c⟩
    | succ k ih =>
      intro t ht h0 inv
      have t256 : t < 256 := by omega
      refine bX5_leastLack_12 _ _ ⟨fun c => absurd c (nI_ge (show t < 2 ^ g.1 by omega) (by omega)), fun _ => roomForX hg hx t256 ?_⟩
      have c8 := csum_le1 t 8
      have rl := rmN_le (g := g) (r := fun _ => g.2.2.1 1) (t := t) g.1
      have pm : g.2.2.1 0 * csum (fun _ => 1) t 8 ≤ 4 * 8 := Nat.mul_le_mul k4.2.1 c8
      rw [hx.2.2.1 0 (by decide), wbc_256 _ t256, pk_mul, nI_leI (by omega) (by omega), nI_1]
      refine ⟨fun c => ih (t + 1) (by omega) (by omega) (fun u hu hut => ?_), fun c => h t (Or.inr ⟨h0, by omega, ⟨by rw [show 2 ^ 0 - 1 = 0 from rfl, Nat.and_zero], by omega⟩, inv⟩)⟩
      by_cases z : u = t
      · subst z; exact fun q => by have := q.2; omega
      · exact inv u hu (by omega)
  exact key (2 ^ g.1 - 1) 1 (by omega) (by decide) (fun u hu hut => by omega)
theorem plan_nolack {g : Sg} (hg : Wf g) {N : Nat → Nat → Bool} (hN : PlanG g N) : LackIs g (fun _ => g.2.2.1 1) 0 0 := by
  refine Or.inl ⟨rfl, fun t h0 ht ⟨l1, l2⟩ => ?_⟩
  have := hall_nec hN (T := fun w => t.testBit w) (fun w hw => ⟨Nat.zero_le _, by
    rcases Nat.lt_or_ge w g.1 with z | z
    · exact z
    · have hw2 : t.testBit w = true := hw
      rw [Nat.testBit_lt_two_pow (Nat.lt_of_lt_of_le ht (Nat.pow_le_pow_right (by decide) z))] at hw2
      exact absurd hw2 (by decide)⟩)
  rw [rmN_Rm hg, show csum (fun _ => 1) t 8 = szT (fun w => t.testBit w) from csum_lsum t 8] at l2
  omega
theorem lackX {P : Int32 → St → Prop} {S : St} {g : Sg} (hg : Wf g) (hx : XB g S) (hsh : XSh g S) (h : ∀ T S1, SameS S S1 → XSf g S1 → LackIs g (fun _ => g.2.2.1 1) 0 T → P (nI T) S1) : tX6_lack S P := by
  refine bX6_lack_0 (isPossibleX hg hx hsh (fun M S1 hs hf xm fg => ⟨fun z => absurd z (by decide), fun _ => h 0 S1 hs hf (plan_nolack hg fg.1)⟩) (fun S1 hs hf np => ⟨fun _ => leastLackX hg (hx.sameS hs) (fun T hT => h T S1 hs hf hT), fun z => absurd rfl z⟩))
theorem lackM {P : Int32 → St → Prop} {S : St} {g : Sg} (hg : Wf g) (hx : MB g S) (h : ∀ T S1, SR S S1 → LackIs g (fun _ => g.2.2.1 1) 0 T → P (nI T) S1) : tX7_lack S P := by
  have h8 := hg.1.2
  have k4 := hg.2.2.2.1
  refine bX7_lack_0 ?_
  have rooms : ∀ k i, i + k = g.1 → ∀ F : Nat → Int32, (∀ p, p < i → F p = nI (g.2.2.1 1)) → wX7_lack P 2 [.ref 47, .int (nI i)] [] (sA S 28 F) := by
    intro k
    induction k with
    | zero =>
      intro i hi F hF
      have e : i = g.1 := by omega
      subst e
      have sr : SR S (sA S 28 F) := SR.A (by decide)
      have hx1 := hx.sr sr
      refine bX7_lack_2 _ ⟨fun _ => ?_, fun c => absurd (by rw [hx1.1]; exact nI_le (Nat.le_refl _) (by omega)) c⟩
      exact lackFromM (r := fun _ => g.2.2.1 1) (w0 := 0) hg hx1 hF (fun _ => by omega) (by decide) (fun T hT => h T _ sr hT)
    | succ k ih =>
      intro i hi F hF
      have hin : i < g.1 := by omega
      refine bX7_lack_2 _ ⟨fun c => absurd (show nI g.1 ≤ nI i from hx.1 ▸ c) (cnt_step hin h8), fun _ => ⟨ii hin h8, ?_⟩⟩
      have e1 : (sA S 28 F).2.2.1 25 1 = nI (g.2.2.1 1) := hx.2.2.1 1 (by decide)
      rw [nI_1, nI_clamp (by omega), e1]
      show wX7_lack P 2 _ _ (sA (sA S 28 F) 28 (upd F i (nI (g.2.2.1 1))))
      rw [sA_same]
      refine ih (i + 1) (by omega) _ (fun p hp => ?_)
      by_cases z : p = i
      · subst z; rw [upd_eq]
      · rw [upd_ne z]; exact hF p (by omega)
  have hz := rooms g.1 0 (by omega) (S.2.2.1 28) (fun p hp => by omega)
  rw [sA_self] at hz
  exact hz
theorem planX {P : Int32 → St → Prop} {S : St} {g : Sg} (hg : Wf g) (hx : XB g S) (hsh : XSh g S) {a : Int32} (h1 : ∀ M w S1, w < g.1 → a = nI w → SameS S S1 → XSf g S1 → FirstG g M → P (nI (msk (M w) 8)) S1) (hn : ∀ S1, ¬ unk1 g.1 a → SameS S S1 → XSf g S1 → NoPlan g → P (-1003) S1) (hu : unk1 g.1 a → P (-1001) S) : tX6_plan a S P := by
  have h8 := hg.1.2
  refine bX6_plan_0 _ (holds_ok hx.1 h8 (fun i hi ea => ⟨fun _ => ?_, fun z => absurd z (by decide)⟩) (fun c => ⟨fun z => absurd rfl z, fun _ => hu (fun p hp e => nI_out h8 c hp e)⟩))
  have nu : ¬ unk1 g.1 a := fun z => z i hi ea
  subst ea
  refine isPossibleX hg hx hsh (fun M S1 hs hf xm fg => ⟨fun z => absurd z (by decide), fun _ => ⟨ii hi h8, ?_⟩⟩) (fun S1 hs hf np => ⟨fun _ => hn S1 nu hs hf np, fun z => absurd rfl z⟩)
  rw [nI_clamp (by omega), xm.1 i (by omega)]
  exact h1 M i S1 hi rfl hs hf fg
theorem planM {P : Int32 → St → Prop} {S : St} {g : Sg} (hg : Wf g) (hx : MB g S) {a : Int32} (h1 : ∀ M w S1, w < g.1 → a = nI w → SR S S1 → FirstG g M → P (nI (msk (M w) 8)) S1) (hn : ∀ S1, ¬ unk1 g.1 a → SR S S1 → NoPlan g → P (-1003) S1) (hu : unk1 g.1 a → P (-1001) S) : tX7_plan a S P := by
  have h8 := hg.1.2
  have h2 := hg.1.1
  refine bX7_plan_0 _ (is_ok hx.1 (by omega) h8 (fun i hi ea => ⟨fun _ => ?_, fun z => absurd z (by decide)⟩) (fun c => ⟨fun z => absurd rfl z, fun _ => hu (fun p hp e => nI_out h8 c hp e)⟩))
  have nu : ¬ unk1 g.1 a := fun z => z i hi ea
  subst ea
  refine findPlanM hg hx (fun M S1 sr hx1 fg h28 h29 => ⟨fun z => absurd z (by decide), fun _ => ⟨ii hi h8, ?_⟩⟩) (fun S1 sr np => ⟨fun _ => hn S1 nu sr np, fun z => absurd rfl z⟩)
  rw [nI_clamp (by omega), h29 i hi]
  exact h1 M i S1 hi rfl sr fg
theorem sharedX {P : Int32 → St → Prop} {S : St} {g : Sg} (hg : Wf g) (hx : XB g S) (hsh : XSh g S) {a : Int32} (h1 : ∀ M w S1, w < g.1 → a = nI w → SameS S S1 → XSf g S1 → FirstG g M → P (nI (colN M w)) S1) (hn : ∀ S1, ¬ unk1 g.1 a → SameS S S1 → XSf g S1 → NoPlan g → P (-1003) S1) (hu : unk1 g.1 a → P (-1001) S) : tX6_shared a S P := by
  have h8 := hg.1.2
  refine bX6_shared_0 _ (holds_ok hx.1 h8 (fun i hi ea => ⟨fun _ => ?_, fun z => absurd z (by decide)⟩) (fun c => ⟨fun z => absurd rfl z, fun _ => hu (fun p hp e => nI_out h8 c hp e)⟩))
  have nu : ¬ unk1 g.1 a := fun z => z i hi ea
  subst ea
  refine isPossibleX hg hx hsh (fun M S1 hs hf xm fg => ⟨fun z => absurd z (by decide), fun _ => ⟨ii hi h8, ?_⟩⟩) (fun S1 hs hf np => ⟨fun _ => hn S1 nu hs hf np, fun z => absurd rfl z⟩)
  rw [nI_clamp (by omega), xm.2 i (by omega)]
  exact h1 M i S1 hi rfl hs hf fg
theorem sharedM {P : Int32 → St → Prop} {S : St} {g : Sg} (hg : Wf g) (hx : MB g S) {a : Int32} (h1 : ∀ M w S1, w < g.1 → a = nI w → SR S S1 → FirstG g M → P (nI (colN M w)) S1) (hn : ∀ S1, ¬ unk1 g.1 a → SR S S1 → NoPlan g → P (-1003) S1) (hu : unk1 g.1 a → P (-1001) S) : tX7_shared a S P := by
  have h8 := hg.1.2
  have h2 := hg.1.1
  refine bX7_shared_0 _ (is_ok hx.1 (by omega) h8 (fun i hi ea => ⟨fun _ => ?_, fun z => absurd z (by decide)⟩) (fun c => ⟨fun z => absurd rfl z, fun _ => hu (fun p hp e => nI_out h8 c hp e)⟩))
  have nu : ¬ unk1 g.1 a := fun z => z i hi ea
  subst ea
  refine findPlanM hg hx (fun M S1 sr hx1 fg h28 h29 => ⟨fun z => absurd z (by decide), fun _ => ⟨ii hi h8, ?_⟩⟩) (fun S1 sr np => ⟨fun _ => hn S1 nu sr np, fun z => absurd rfl z⟩)
  have hc : colN M i ≤ g.2.2.1 1 := fg.1.2.2 i (by omega)
  rw [nI_clamp (by omega), h28 i hi, hx1.2.2.1 1 (by decide), pk_sub (by omega), show g.2.2.1 1 - (g.2.2.1 1 - colN M i) = colN M i by omega]
  exact h1 M i S1 hi rfl sr fg
/-! parts of a plan -/
noncomputable def prt (m : Nat → Nat) : Nat → Nat
  | 0 => 0
  | i + 1 => prt m i + if labS m i = i then 1 else 0
theorem mOk_plan {g : Sg} (hg : Wf g) {M : Nat → Nat → Bool} (hM : ∀ w p, M w p = true → canS g w p = true) : mOk (fun w => msk (M w) 8) g.1 := by
  refine ⟨hg.1.2, fun w hw => ?_, fun w p h => ?_, fun w => msk_lt _ (Nat.le_refl _)⟩
  · refine set_ext (msk_lt _ (Nat.le_refl _)) (by decide) (fun i hi => ?_)
    rw [m8_bit M hi]
    cases e : M w i with
    | false => simp
    | true => have := (canS_in w i (hM w i e)).1; omega
  · rw [msk_bit, Bool.and_eq_true] at h
    exact (canS_in w p (hM w p h.2)).2
noncomputable def seenP (m : Nat → Nat) (n i : Nat) : Nat := msk (fun v => decide (labS m v < i)) n
theorem countPartsX {P : Int32 → St → Prop} {S : St} {g : Sg} {m : Nat → Nat} (hg : Wf g) (hx : XB g S) (ho : mOk m g.1) (hm : ∀ w, w < g.1 → S.2.2.1 11 w = nI (m w)) (h : P (nI (prt m g.1)) S) : tX5_countParts S P := by
  have h8 := hg.1.2
  refine bX5_countParts_0 ?_
  have e0 : seenP m g.1 0 = 0 := by
    refine set_ext (msk_lt _ h8) (by decide) (fun v hv => ?_)
    unfold seenP
    rw [msk_bit]
    simp
  have key : ∀ k i, i + k = g.1 → wX5_countParts P 6 [.ref 15, .int (nI (prt m i)), .int (nI (seenP m g.1 i)), .int (nI i)] [] S := by
    intro k
    induction k with
    | zero =>
      intro i hi
      have e : i = g.1 := by omega
      subst e
      exact bX5_countParts_6 _ _ _ ⟨fun _ => h, fun c => absurd (by rw [hx.1]; exact nI_le (Nat.le_refl _) (by omega)) c⟩
    | succ k ih =>
      intro i hi
      have hin : i < g.1 := by omega
      have ih1 := ih (i + 1) (by omega)
      obtain ⟨l1, l2, l3⟩ := labS_spec (m := m) (show i < 16 by omega)
      refine bX5_countParts_6 _ _ _ ⟨fun c => absurd (hx.1 ▸ c) (cnt_step hin h8), fun _ => ?_⟩
      have sb : (seenP m g.1 i).testBit i = true ↔ labS m i < i := by
        unfold seenP
        rw [msk_bit, Bool.and_eq_true, decide_eq_true_iff, decide_eq_true_iff]
        exact ⟨fun z => z.2, fun z => ⟨hin, z⟩⟩
      rw [nI_1]
      refine has_ok (msk_lt _ h8) (by omega) (fun e => ⟨fun _ => ?_, fun z => absurd z (by decide)⟩) (fun e => ⟨fun z => absurd rfl z, fun _ => ?_⟩)
      · have lt := sb.mp e
        have e2 : seenP m g.1 (i + 1) = seenP m g.1 i := by
          refine set_ext (msk_lt _ h8) (msk_lt _ h8) (fun v hv => ?_)
          unfold seenP
          rw [msk_bit, msk_bit]
          by_cases y : labS m v = i
          · have := labS_lab (m := m) (show v < 16 by omega)
            rw [y] at this
            omega
          · have : (labS m v < i + 1) ↔ (labS m v < i) := by omega
            simp only [this]
        unfold prt at ih1
        rw [if_neg (by omega), e2] at ih1
        exact ih1
      · have hl : labS m i = i := by
          rcases Nat.lt_or_ge (labS m i) i with z | z
          · rw [sb.mpr z] at e
            exact absurd e (by decide)
          · omega
        rw [hx.1]
        refine tiedWorks_16 ho hm hin ?_
        rw [nI_1, nI_or]
        have e5 : seenP m g.1 i ||| cW m g.1 i = seenP m g.1 (i + 1) := by
          refine set_ext (or_lt (msk_lt _ h8) (cW_lt h8)) (msk_lt _ h8) (fun v hv => ?_)
          rw [Nat.testBit_or, Bool.eq_iff_iff, Bool.or_eq_true, cW_bit]
          unfold seenP
          rw [msk_bit, msk_bit]
          simp only [Bool.and_eq_true, decide_eq_true_iff]
          have ht : Tied m i v ↔ labS m v = i := by rw [← labS_iff (by omega) (by omega), hl]; exact eq_comm
          rw [ht]
          omega
        rw [e5]
        unfold prt at ih1
        rw [if_pos hl] at ih1
        exact ih1
  have hz := key g.1 0 (by omega)
  rw [e0] at hz
  exact hz
theorem partsX {P : Int32 → St → Prop} {S : St} {g : Sg} (hg : Wf g) (hx : XB g S) (hsh : XSh g S) (h1 : ∀ M S1, SameS S S1 → XSf g S1 → FirstG g M → P (nI (prt (fun w => msk (M w) 8) g.1)) S1) (hn : ∀ S1, SameS S S1 → XSf g S1 → NoPlan g → P (-1003) S1) : tX6_parts S P := by
  have h8 := hg.1.2
  refine bX6_parts_0 (isPossibleX hg hx hsh (fun M S1 hs hf xm fg => ⟨fun z => absurd z (by decide), fun _ => ?_⟩) (fun S1 hs hf np => ⟨fun _ => hn S1 hs hf np, fun z => absurd rfl z⟩))
  exact countPartsX (m := fun w => msk (M w) 8) hg (hx.sameS hs) (mOk_plan hg (fun w p h => (fg.1.1 w p h).1)) (fun w hw => xm.1 w (by omega)) (h1 M S1 hs hf fg)
theorem partsM {P : Int32 → St → Prop} {S : St} {g : Sg} (hg : Wf g) (hx : MB g S) (h1 : ∀ M S1, SR S S1 → FirstG g M → P (nI (prt (fun w => msk (M w) 8) g.1)) S1) (hn : ∀ S1, SR S S1 → NoPlan g → P (-1003) S1) : tX7_parts S P := by
  have h8 := hg.1.2
  refine bX7_parts_0 (findPlanM hg hx (fun M S1 sr hx1 fg h28 h29 => ⟨fun _ => ?_, fun z => absurd z (by decide)⟩) (fun S1 sr np => ⟨fun z => absurd rfl z, fun _ => hn S1 sr np⟩))
  refine parts_w hg hx1 (mOk_plan hg (fun w p h => (fg.1.1 w p h).1)) h29 (fun F hF => ?_)
  have sr2 : SR S (sA S1 30 F) := sr.tr (SR.A (by decide))
  have hx2 := hx.sr sr2
  have fin := h1 M _ sr2 fg
  have hF2 : ∀ x, x < 16 → (sA S1 30 F).2.2.1 30 x = nI (labS (fun w => msk (M w) 8) x) := hF
  generalize (sA S1 30 F) = S2 at hx2 fin hF2
  refine loop_dn (fun i => wX7_parts P 88 [.ref 47, .int (nI (prt (fun w => msk (M w) 8) i)), .int (nI i)] [] S2) g.1 (fun i hi ih => ?_) ?_
  · refine bX7_parts_88 _ _ ⟨fun c => absurd (hx2.1 ▸ c) (cnt_step hi h8), fun _ => ⟨vp_in_nI (by omega) (by decide), ?_⟩⟩
    have l := labS_lt (m := fun w => msk (M w) 8) (show i < 16 by omega)
    rw [nI_1, nI_1, nI_clamp (by omega), hF2 i (by omega), nI_eq (by omega) (by omega), show ∀ a, nI a + 0 = nI a from fun a => Int32.add_zero _]
    unfold prt at ih
    refine ⟨fun c => ?_, fun c => ?_⟩
    · rw [if_neg c] at ih; exact ih
    · rw [if_pos c] at ih; exact ih
  · exact bX7_parts_88 _ _ ⟨fun _ => fin, fun c => absurd (by rw [hx2.1]; exact nI_le (Nat.le_refl _) (by omega)) c⟩
