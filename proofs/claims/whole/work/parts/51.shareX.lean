/-! ===== sharing, the class's programs ===== -/
/-- only some rows of ints may differ -/
def FrA (L : List Nat) (S S1 : St) : Prop := S1.1 = S.1 ∧ S1.2.1 = S.2.1 ∧ (∀ k, k ∉ L → S1.2.2.1 k = S.2.2.1 k) ∧ S1.2.2.2 = S.2.2.2
theorem FrA.rf (L : List Nat) (S : St) : FrA L S S := ⟨rfl, rfl, fun _ _ => rfl, rfl⟩
theorem FrA.tr {L : List Nat} {S S1 S2 : St} (h : FrA L S S1) (h2 : FrA L S1 S2) : FrA L S S2 := ⟨h2.1.trans h.1, h2.2.1.trans h.2.1, fun k hk => (h2.2.2.1 k hk).trans (h.2.2.1 k hk), h2.2.2.2.trans h.2.2.2⟩
theorem FrA.mono {L L2 : List Nat} {S S1 : St} (h : FrA L S S1) (hl : ∀ k, k ∈ L → k ∈ L2) : FrA L2 S S1 := ⟨h.1, h.2.1, fun k hk => h.2.2.1 k (fun z => hk (hl k z)), h.2.2.2⟩
theorem FrA.A {L : List Nat} {S : St} {k : Nat} {f : Nat → Int32} (h : k ∈ L) : FrA L S (sA S k f) := ⟨rfl, rfl, fun j hj => up_ne (fun z => hj (z ▸ h)), rfl⟩
theorem XB.frA {g : Sg} {S S1 : St} {L : List Nat} (h : XB g S) (hs : FrA L S S1) (hL : ∀ k, k ∈ L → 11 ≤ k) : XB g S1 := by
  obtain ⟨h1, h2, h3, h4, h5⟩ := h
  obtain ⟨s1, s2, s3, s4⟩ := hs
  have q : ∀ k, k < 11 → S1.2.2.1 k = S.2.2.1 k := fun k hk => s3 k (fun z => by have := hL k z; omega)
  refine ⟨by rw [s1]; exact h1, ?_, ?_, ?_, ?_⟩
  · rw [q 0 (by decide)]; exact h2
  · rw [q 1 (by decide)]; exact h3
  · intro p w hp hw
    rw [q (2 + p) (by omega)]; exact h4 p w hp hw
  · rw [q 10 (by decide)]; exact h5
def XM (M : Nat → Nat → Bool) (S : St) : Prop := (∀ w, w < 8 → S.2.2.1 11 w = nI (msk (M w) 8)) ∧ ∀ p, p < 8 → S.2.2.1 12 p = nI (colN M p)
def canS (g : Sg) (w p : Nat) : Bool := decide (w < g.1) && (mayS g w).testBit p
theorem canS_t {g : Sg} {w p : Nat} : canS g w p = true ↔ w < g.1 ∧ p < g.1 ∧ p ≠ w ∧ g.2.1 w p = false := by
  unfold canS
  rw [Bool.and_eq_true, mayS_bit, Bool.and_eq_true, Bool.and_eq_true, decide_eq_true_iff, decide_eq_true_iff, decide_eq_true_iff, Bool.not_eq_true']
theorem canS_in {g : Sg} (w p : Nat) (h : canS g w p = true) : w < g.1 ∧ p < g.1 := ⟨(canS_t.mp h).1, (canS_t.mp h).2.1⟩
theorem m8_bit (M : Nat → Nat → Bool) {w x : Nat} (hx : x < 8) : (msk (M w) 8).testBit x = M w x := by
  rw [msk_bit]; simp [hx]
theorem takeX {P : St → Prop} {S : St} {M : Nat → Nat → Bool} (hm : XM M S) {w p : Nat} (hw : w < 8) (hp : p < 8) (h0 : M w p = false) (h : ∀ S1, FrA [11, 12] S S1 → XM (setM M w p true) S1 → P S1) : tX5_take (nI w) (nI p) S P := by
  refine bX5_take_0 _ _ ⟨vp_in_nI hw (by decide), vp_in_nI hp (by decide), ?_⟩
  rw [nI_clamp (by omega), nI_clamp (by omega), hm.1 w hw, hm.2 p hp, sh1 (by omega), nI_or, nI_1]
  refine h _ ((FrA.A (by decide)).tr (FrA.A (by decide))) ⟨fun v hv => ?_, fun x hx => ?_⟩
  · show upd (S.2.2.1 11) w (nI (msk (M w) 8 ||| 2 ^ p)) v = _
    by_cases e : v = w
    · subst e
      rw [upd_eq]
      congr 1
      refine set_ext (or_lt (msk_lt _ (Nat.le_refl _)) (p2_lt hp)) (msk_lt _ (Nat.le_refl _)) (fun i hi => ?_)
      rw [Nat.testBit_or, m8_bit M hi, m8_bit _ hi, p2_bit]
      by_cases z : i = p
      · subst z; rw [setM_eq]; simp
      · rw [setM_ne (fun y => z y.2), decide_eq_false (fun y => z y.symm), Bool.or_false]
    · rw [upd_ne e, hm.1 v hv]
      congr 1
      refine set_ext (msk_lt _ (Nat.le_refl _)) (msk_lt _ (Nat.le_refl _)) (fun i hi => ?_)
      rw [m8_bit M hi, m8_bit _ hi, setM_ne (fun y => e y.1)]
  · show upd (S.2.2.1 12) p (nI (colN M p + 1)) x = _
    by_cases e : x = p
    · subst e
      have := colN_set (M := M) (p := x) (b := true) hw
      rw [h0] at this
      rw [upd_eq]
      congr 1
      exact this.symm
    · rw [upd_ne e, hm.2 x hx, colN_ne e]
theorem dropX {P : St → Prop} {S : St} {M : Nat → Nat → Bool} (hm : XM M S) {w p : Nat} (hw : w < 8) (hp : p < 8) (h0 : M w p = true) (h : ∀ S1, FrA [11, 12] S S1 → XM (setM M w p false) S1 → P S1) : tX5_drop (nI w) (nI p) S P := by
  refine bX5_drop_0 _ _ ⟨vp_in_nI hw (by decide), vp_in_nI hp (by decide), ?_⟩
  have cs := colN_set (M := M) (p := p) (b := false) hw
  rw [h0] at cs
  have cs2 : colN (setM M w p false) p + 1 = colN M p := cs
  rw [nI_clamp (by omega), nI_clamp (by omega), hm.1 w hw, hm.2 p hp, sh1 (by omega), nI_nd _ (msk_lt _ (Nat.le_refl _)), sub1 (by omega)]
  refine h _ ((FrA.A (by decide)).tr (FrA.A (by decide))) ⟨fun v hv => ?_, fun x hx => ?_⟩
  · show upd (S.2.2.1 11) w (nI (nd (msk (M w) 8) (2 ^ p))) v = _
    by_cases e : v = w
    · subst e
      rw [upd_eq]
      congr 1
      refine set_ext (nd_lt _ (msk_lt _ (Nat.le_refl _))) (msk_lt _ (Nat.le_refl _)) (fun i hi => ?_)
      rw [nd_bit _ _ (msk_lt _ (Nat.le_refl _)), m8_bit M hi, m8_bit _ hi, p2_bit]
      by_cases z : i = p
      · subst z; rw [setM_eq]; simp
      · rw [setM_ne (fun y => z y.2), decide_eq_false (fun y => z y.symm), Bool.not_false, Bool.and_true]
    · rw [upd_ne e, hm.1 v hv]
      congr 1
      refine set_ext (msk_lt _ (Nat.le_refl _)) (msk_lt _ (Nat.le_refl _)) (fun i hi => ?_)
      rw [m8_bit M hi, m8_bit _ hi, setM_ne (fun y => e y.1)]
  · show upd (S.2.2.1 12) p (nI (colN M p - 1)) x = _
    by_cases e : x = p
    · subst e
      rw [upd_eq]
      congr 1
      omega
    · rw [upd_ne e, hm.2 x hx, colN_ne e]
theorem leastOfX {P : Int32 → St → Prop} {S : St} {g : Sg} (hg : Wf g) (hx : XB g S) {X : Nat} (hX : X < 256) (hin : ∃ p, p < g.1 ∧ X.testBit p = true) (h : ∀ p, p < g.1 → X.testBit p = true → P (nI p) S) : tX5_leastOf (nI X) S P := by
  have h8 := hg.1.2
  refine bX5_leastOf_0 _ ?_
  have key : ∀ k i, i + k = g.1 → (∃ p, i ≤ p ∧ p < g.1 ∧ X.testBit p = true) → wX5_leastOf P 2 [.ref 15, .int (nI X), .int (nI i)] [] S := by
    intro k
    induction k with
    | zero =>
      intro i hi ⟨p, a, b, _⟩
      omega
    | succ k ih =>
      intro i hi ⟨p, a, b, c⟩
      have hin : i < g.1 := by omega
      refine bX5_leastOf_2 _ _ ⟨fun c => absurd (hx.1 ▸ c) (cnt_step hin h8), fun _ => ?_⟩
      rw [nI_1]
      refine has_ok hX (by omega) (fun e => ⟨fun z => absurd z (by decide), fun _ => h i hin e⟩) (fun e => ⟨fun _ => ih (i + 1) (by omega) ⟨p, ?_, b, c⟩, fun z => absurd rfl z⟩)
      by_cases z : i = p
      · subst z
        rw [c] at e
        exact absurd e (by decide)
      · omega
  obtain ⟨p, a, b⟩ := hin
  exact key g.1 0 (by omega) ⟨p, Nat.zero_le _, a, b⟩
theorem withRoomX {P : Int32 → St → Prop} {S : St} {g : Sg} (hg : Wf g) (hx : XB g S) {M : Nat → Nat → Bool} (hm : XM M S) {X : Nat} (hX : X < 256) (h1 : ∀ p, p < g.1 → X.testBit p = true → colN M p < g.2.2.1 1 → P (nI p) S) (h0 : (∀ p, p < g.1 → X.testBit p = true → g.2.2.1 1 ≤ colN M p) → P (-1) S) : tX5_withRoom (nI X) S P := by
  have h8 := hg.1.2
  refine bX5_withRoom_0 _ ?_
  have key : ∀ k i, i + k = g.1 → (∀ p, p < i → X.testBit p = true → g.2.2.1 1 ≤ colN M p) → wX5_withRoom P 2 [.ref 15, .int (nI X), .int (nI i)] [] S := by
    intro k
    induction k with
    | zero =>
      intro i hi ha
      have e : i = g.1 := by omega
      subst e
      exact bX5_withRoom_2 _ _ ⟨fun _ => h0 ha, fun c => absurd (by rw [hx.1]; exact nI_le (Nat.le_refl _) (by omega)) c⟩
    | succ k ih =>
      intro i hi ha
      have hin : i < g.1 := by omega
      refine bX5_withRoom_2 _ _ ⟨fun c => absurd (hx.1 ▸ c) (cnt_step hin h8), fun _ => ?_⟩
      have c8 := colN_le M i
      have L8 := hg.2.2.2.1
      rw [nI_1]
      refine has_ok hX (by omega) (fun e => ⟨fun z => absurd z (by decide), fun _ => ⟨ii hin h8, ?_⟩⟩) (fun e => ⟨fun _ => ih (i + 1) (by omega) (fun p hp hb => ?_), fun z => absurd rfl z⟩)
      · rw [nI_clamp (by omega), hx.2.2.1 1 (by decide), hm.2 i (by omega), nI_leI (by omega) (by omega)]
        refine ⟨fun c => ih (i + 1) (by omega) (fun p hp hb => ?_), fun c => h1 i hin e (by omega)⟩
        by_cases z : p = i
        · subst z; exact c
        · exact ha p (by omega) hb
      · by_cases z : p = i
        · subst z
          rw [hb] at e
          exact absurd e (by decide)
        · exact ha p (by omega) hb
  exact key g.1 0 (by omega) (fun p hp => by omega)
def Hop (can M : Nat → Nat → Bool) (first p q v : Nat) : Prop := first ≤ v ∧ M v p = true ∧ can v q = true ∧ M v q = false
theorem reachX {P : Int32 → St → Prop} {S : St} {g : Sg} (hg : Wf g) (hx : XB g S) {M : Nat → Nat → Bool} (hm : XM M S) {p first seen : Nat} (hp : p < 8) (hf : first ≤ g.1) (hs : seen < 256) (h : ∀ (X : Nat) (G F : Nat → Int32), X < 256 → (∀ q, q < 8 → (X.testBit q = true ↔ seen.testBit q = false ∧ ∃ v, Hop (canS g) M first p q v)) → (∀ q, q < 8 → X.testBit q = true → G q = nI p ∧ ∃ v, Hop (canS g) M first p q v ∧ F q = nI v) → (∀ q, q < 8 → X.testBit q = false → G q = S.2.2.1 13 q ∧ F q = S.2.2.1 14 q) → P (nI X) (sA (sA S 13 G) 14 F)) : tX5_reach (nI p) (nI first) (nI seen) S P := by
  have h8 := hg.1.2
  refine bX5_reach_0 _ _ _ ?_
  have key : ∀ k v, v + k = g.1 → first ≤ v → ∀ (X : Nat) (G F : Nat → Int32), X < 256 → (∀ q, q < 8 → (X.testBit q = true ↔ seen.testBit q = false ∧ ∃ u, u < v ∧ Hop (canS g) M first p q u)) → (∀ q, q < 8 → X.testBit q = true → G q = nI p ∧ ∃ v, Hop (canS g) M first p q v ∧ F q = nI v) → (∀ q, q < 8 → X.testBit q = false → G q = S.2.2.1 13 q ∧ F q = S.2.2.1 14 q) → wX5_reach P 6 [.ref 15, .int (nI p), .int (nI first), .int (nI seen), .int (nI X), .int (nI v), .retAddr 0, .retAddr 0] [] (sA (sA S 13 G) 14 F) := by
    intro k
    induction k with
    | zero =>
      intro v hv hfv X G F hX i1 i2 i3
      have e : v = g.1 := by omega
      subst e
      refine bX5_reach_6 _ _ _ _ _ ⟨fun _ => h X G F hX (fun q hq => (i1 q hq).trans ?_) i2 i3, fun c => absurd (by show S.1 0 ≤ _; rw [hx.1]; exact nI_le (Nat.le_refl _) (by omega)) c⟩
      exact and_congr_right (fun _ => ⟨fun ⟨u, _, b⟩ => ⟨u, b⟩, fun ⟨u, b⟩ => ⟨u, (canS_in u q b.2.2.1).1, b⟩⟩)
    | succ k ih =>
      intro v hv hfv X G F hX i1 i2 i3
      have hvn : v < g.1 := by omega
      have hx2 : XB g (sA (sA S 13 G) 14 F) := hx.frA (L := [13, 14]) ((FrA.A (by decide)).tr (FrA.A (by decide))) (by decide)
      refine bX5_reach_6 _ _ _ _ _ ⟨fun c => absurd (show nI g.1 ≤ nI v from hx.1 ▸ c) (cnt_step hvn h8), fun _ => ⟨ii hvn h8, ?_⟩⟩
      have e11 : (sA (sA S 13 G) 14 F).2.2.1 11 v = nI (msk (M v) 8) := hm.1 v (by omega)
      rw [nI_1, nI_clamp (by omega), e11]
      refine has_ok (msk_lt _ (Nat.le_refl _)) hp (fun e => ⟨fun z => absurd z (by decide), fun _ => ?_⟩) (fun e => ⟨fun _ => ?_, fun z => absurd rfl z⟩)
      · rw [m8_bit M hp] at e
        refine mayMark_ok hg hx2 (by omega) ?_
        rw [e11, nI_nd _ (mayS_lt hg v), nI_nd _ (nd_lt _ (mayS_lt hg v)), nI_nd _ (nd_lt _ (nd_lt _ (mayS_lt hg v)))]
        have hH : nd (nd (nd (mayS g v) (msk (M v) 8)) seen) X < 256 := nd_lt _ (nd_lt _ (nd_lt _ (mayS_lt hg v)))
        have bH : ∀ q, q < 8 → ((nd (nd (nd (mayS g v) (msk (M v) 8)) seen) X).testBit q = true ↔ (canS g v q = true ∧ M v q = false) ∧ seen.testBit q = false ∧ X.testBit q = false) := fun q hq => by
          rw [nd_bit _ _ (nd_lt _ (nd_lt _ (mayS_lt hg v))), nd_bit _ _ (nd_lt _ (mayS_lt hg v)), nd_bit _ _ (mayS_lt hg v), m8_bit M hq]
          unfold canS
          simp only [Bool.and_eq_true, Bool.not_eq_true', decide_eq_true_iff]
          exact ⟨fun ⟨⟨⟨a, b⟩, c⟩, d⟩ => ⟨⟨⟨hvn, a⟩, b⟩, c, d⟩, fun ⟨⟨⟨_, a⟩, b⟩, c, d⟩ => ⟨⟨⟨a, b⟩, c⟩, d⟩⟩
        generalize nd (nd (nd (mayS g v) (msk (M v) 8)) seen) X = H at hH bH
        have inner : ∀ j q, q + j = g.1 → ∀ (G2 F2 : Nat → Int32), (∀ y, y < 8 → y < q → H.testBit y = true → G2 y = nI p ∧ F2 y = nI v) → (∀ y, y < 8 → (q ≤ y ∨ H.testBit y = false) → G2 y = G y ∧ F2 y = F y) → wX5_reach P 65 [.ref 15, .int (nI p), .int (nI first), .int (nI seen), .int (nI X), .int (nI v), .int (nI H), .int (nI q)] [] (sA (sA S 13 G2) 14 F2) := by
          intro j
          induction j with
          | zero =>
            intro q hq G2 F2 k1 k2
            have e : q = g.1 := by omega
            subst e
            refine bX5_reach_65 _ _ _ _ _ _ _ ⟨fun _ => ?_, fun c => absurd (by show S.1 0 ≤ _; rw [hx.1]; exact nI_le (Nat.le_refl _) (by omega)) c⟩
            rw [nI_1, nI_or]
            refine ih (v + 1) (by omega) (by omega) _ _ _ (or_lt hX hH) (fun y hy => ?_) (fun y hy hb => ?_) (fun y hy hb => ?_)
            · rw [Nat.testBit_or, Bool.or_eq_true, i1 y hy, bH y hy]
              refine ⟨fun z => ?_, fun ⟨a, u, b, c⟩ => ?_⟩
              · rcases z with ⟨a, u, b, c⟩ | ⟨⟨a, b⟩, c, d⟩
                · exact ⟨a, u, by omega, c⟩
                · exact ⟨c, v, by omega, hfv, e, a, b⟩
              · by_cases z : X.testBit y = true
                · exact Or.inl ((i1 y hy).mp z)
                · refine Or.inr ?_
                  have z2 : X.testBit y = false := by cases q : X.testBit y with | false => rfl | true => exact absurd q z
                  have huv : u = v := by
                    rcases Nat.lt_or_ge u v with y2 | y2
                    · exact absurd ((i1 y hy).mpr ⟨a, u, y2, c⟩) z
                    · omega
                  subst huv
                  exact ⟨⟨c.2.2.1, c.2.2.2⟩, a, z2⟩
            · by_cases z : H.testBit y = true
              · have hb2 := (bH y hy).mp z
                have := k1 y hy (canS_in v y hb2.1.1).2 z
                exact ⟨this.1, v, ⟨hfv, e, hb2.1.1, hb2.1.2⟩, this.2⟩
              · have z2 : H.testBit y = false := by cases q : H.testBit y with | false => rfl | true => exact absurd q z
                rw [Nat.testBit_or, z2, Bool.or_false] at hb
                obtain ⟨a, u, b, c⟩ := i2 y hy hb
                have := k2 y hy (Or.inr z2)
                exact ⟨by rw [this.1, a], u, b, by rw [this.2, c]⟩
            · rw [Nat.testBit_or, Bool.or_eq_false_iff] at hb
              have := k2 y hy (Or.inr hb.2)
              have := i3 y hy hb.1
              constructor <;> simp_all
          | succ j ihj =>
            intro q hq G2 F2 k1 k2
            have hqn : q < g.1 := by omega
            refine bX5_reach_65 _ _ _ _ _ _ _ ⟨fun c => absurd (show nI g.1 ≤ nI q from hx.1 ▸ c) (cnt_step hqn h8), fun _ => ?_⟩
            rw [nI_1]
            refine has_ok hH (by omega) (fun e2 => ⟨fun z => absurd z (by decide), fun _ => ⟨ii hqn h8, ?_⟩⟩) (fun e2 => ⟨fun _ => ?_, fun z => absurd rfl z⟩)
            · rw [nI_clamp (by omega)]
              have eS : sA (sA (sA (sA S 13 G2) 14 F2) 13 (upd G2 q (nI p))) 14 (upd F2 q (nI v)) = sA (sA S 13 (upd G2 q (nI p))) 14 (upd F2 q (nI v)) := by
                rw [sA_comm (S := sA S 13 G2) (by decide), sA_same, sA_same]
              show wX5_reach P 65 _ _ (sA (sA (sA (sA S 13 G2) 14 F2) 13 (upd G2 q (nI p))) 14 (upd F2 q (nI v)))
              rw [eS]
              refine ihj (q + 1) (by omega) _ _ (fun y hy hyq hb => ?_) (fun y hy hb => ?_)
              · by_cases z : y = q
                · subst z; rw [upd_eq, upd_eq]; exact ⟨rfl, rfl⟩
                · rw [upd_ne z, upd_ne z]; exact k1 y hy (by omega) hb
              · have z : y ≠ q := fun z => by
                  subst z
                  rcases hb with hb | hb
                  · omega
                  · rw [hb] at e2; exact absurd e2 (by decide)
                rw [upd_ne z, upd_ne z]
                refine k2 y hy ?_
                rcases hb with hb | hb
                · exact Or.inl (by omega)
                · exact Or.inr hb
            · refine ihj (q + 1) (by omega) _ _ (fun y hy hyq hb => k1 y hy ?_ hb) (fun y hy hb => k2 y hy ?_)
              · by_cases z : y = q
                · subst z; rw [hb] at e2; exact absurd e2 (by decide)
                · omega
              · rcases hb with hb | hb
                · exact Or.inl (by omega)
                · exact Or.inr hb
        exact inner g.1 0 (by omega) G F (fun y _ hy => by omega) (fun y _ _ => ⟨rfl, rfl⟩)
      · rw [m8_bit M hp] at e
        refine ih (v + 1) (by omega) (by omega) X G F hX (fun q hq => (i1 q hq).trans ?_) i2 i3
        refine and_congr_right (fun _ => ⟨fun ⟨u, a, b⟩ => ⟨u, by omega, b⟩, fun ⟨u, a, b⟩ => ⟨u, ?_, b⟩⟩)
        by_cases z : u = v
        · subst z
          have := b.2.1
          rw [e] at this
          exact absurd this (by decide)
        · omega
  have h0 := key (g.1 - first) first (by omega) (Nat.le_refl _) 0 (S.2.2.1 13) ((sA S 13 (S.2.2.1 13)).2.2.1 14) (by decide) (fun q _ => by
    refine ⟨fun z => ?_, fun ⟨_, u, a, b⟩ => ?_⟩
    · simp at z
    · have := b.1
      omega) (fun q _ z => by simp at z) (fun q _ _ => ⟨rfl, rfl⟩)
  rw [sA_self, sA_self] at h0
  exact h0
