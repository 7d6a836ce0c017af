/-! ===== pieces, the class's programs ===== -/
/-- only the cells of pieces and equations may differ -/
def SameP (S S1 : St) : Prop := (∀ k, (k < 3 ∨ 5 < k) → S1.1 k = S.1 k) ∧ S1.2.1 = S.2.1 ∧ (∀ k, (k < 15 ∨ 19 < k) → S1.2.2.1 k = S.2.2.1 k) ∧ (∀ k, 13 ≤ k → S1.2.2.2 k = S.2.2.2 k)
theorem SameP.rf (S : St) : SameP S S := ⟨fun _ _ => rfl, rfl, fun _ _ => rfl, fun _ _ => rfl⟩
theorem SameP.tr {S S1 S2 : St} (h : SameP S S1) (h2 : SameP S1 S2) : SameP S S2 := ⟨fun k a => (h2.1 k a).trans (h.1 k a), h2.2.1.trans h.2.1, fun k a => (h2.2.2.1 k a).trans (h.2.2.1 k a), fun k a => (h2.2.2.2 k a).trans (h.2.2.2 k a)⟩
theorem SameP.I {S : St} {k : Nat} {v : Int32} (h : 3 ≤ k ∧ k ≤ 5) : SameP S (sI S k v) := ⟨fun j h1 => up_ne (by omega), rfl, fun _ _ => rfl, fun _ _ => rfl⟩
theorem SameP.A {S : St} {k : Nat} {f : Nat → Int32} (h : 15 ≤ k ∧ k ≤ 19) : SameP S (sA S k f) := ⟨fun _ _ => rfl, rfl, fun j hj => up_ne (by omega), fun _ _ => rfl⟩
theorem SameP.B {S : St} {k : Nat} {f : Nat → Int64} (h : k < 13) : SameP S (sB S k f) := ⟨fun _ _ => rfl, rfl, fun _ _ => rfl, fun j hj => up_ne (by omega)⟩
theorem SameP.M {S S1 : St} (h : SameP S S1) : SameM S S1 := ⟨fun k hk => h.1 k (by omega), h.2.1, fun k hk => h.2.2.1 k (by omega), fun k hk => h.2.2.2 k (by omega)⟩
theorem XB.sameP {g : Sg} {S S1 : St} (h : XB g S) (hs : SameP S S1) : XB g S1 := by
  obtain ⟨h1, h2, h3, h4, h5⟩ := h
  obtain ⟨s1, s2, s3, s4⟩ := hs
  refine ⟨by rw [s1 0 (by decide)]; exact h1, ?_, ?_, ?_, ?_⟩
  · rw [s3 0 (by decide)]; exact h2
  · rw [s3 1 (by decide)]; exact h3
  · intro p w hp hw
    rw [s3 (2 + p) (by omega)]; exact h4 p w hp hw
  · rw [s3 10 (by decide)]; exact h5
theorem nI_z {a : Nat} (h : a < 2 ^ 31) : nI a = 0 ↔ a = 0 := nI_eq (b := 0) h (by decide)
theorem markersOf_16 {P : Int32 → St → Prop} {S : St} {m : Nat → Nat} {n X : Nat} (ho : mOk m n) (hm : ∀ w, w < n → S.2.2.1 11 w = nI (m w)) (hX : X < 256) (h : P (nI (orM m X n)) S) : tX6_markersOf_16 (nI n) (nI X) S P := by
  have h8 := ho.1
  refine bX6_markersOf_16_0 _ _ ?_
  refine loop_dn (fun v => wX6_markersOf_16 P 5 [.ref 16, .int (nI n), .int (nI X), .int (nI (orM m X v)), .int (nI v)] [] S) n (fun v hv ih => ?_) ?_
  · refine bX6_markersOf_16_5 _ _ _ _ ⟨fun c => absurd c (cnt_step hv h8), fun _ => ?_⟩
    unfold orM at ih
    rw [nI_1]
    refine has_ok hX (by omega) (fun e => ⟨fun z => absurd z (by decide), fun _ => ⟨ii hv h8, ?_⟩⟩) (fun e => ⟨fun _ => ?_, fun z => absurd rfl z⟩)
    · rw [if_pos e] at ih
      rw [nI_clamp (by omega), hm v hv, nI_or]
      exact ih
    · rw [if_neg (by rw [e]; decide), Nat.or_zero] at ih
      exact ih
  · exact bX6_markersOf_16_5 _ _ _ _ ⟨fun _ => h, fun c => absurd (nI_le (Nat.le_refl _) (by omega)) c⟩
theorem worksOf_16 {P : Int32 → St → Prop} {S : St} {m : Nat → Nat} {n Y : Nat} (ho : mOk m n) (hm : ∀ w, w < n → S.2.2.1 11 w = nI (m w)) (h : P (nI (wkO m n Y)) S) : tX6_worksOf_16 (nI n) (nI Y) S P := by
  have h8 := ho.1
  refine bX6_worksOf_16_0 _ _ ?_
  refine loop_dn (fun v => wX6_worksOf_16 P 5 [.ref 16, .int (nI n), .int (nI Y), .int (nI (msk (fun w => !decide (m w &&& Y = 0)) v)), .int (nI v)] [] S) n (fun v hv ih => ?_) ?_
  · refine bX6_worksOf_16_5 _ _ _ _ ⟨fun c => absurd c (cnt_step hv h8), fun _ => ⟨ii hv h8, ?_⟩⟩
    unfold msk at ih
    have hlt : m v &&& Y < 2 ^ 31 := Nat.lt_of_le_of_lt Nat.and_le_left (Nat.lt_of_lt_of_le (ho.2.2.2 v) (by decide))
    rw [nI_1, nI_clamp (by omega), hm v hv, nI_and, nI_z hlt, sh1 (by omega), nI_or]
    refine ⟨fun c => ?_, fun c => ?_⟩
    · rw [if_neg (by simp [c]), Nat.or_zero] at ih
      exact ih
    · rw [if_pos (by simp [c])] at ih
      exact ih
  · exact bX6_worksOf_16_5 _ _ _ _ ⟨fun _ => h, fun c => absurd (nI_le (Nat.le_refl _) (by omega)) c⟩
theorem tiedWorks_16 {P : Int32 → St → Prop} {S : St} {m : Nat → Nat} {n r : Nat} (ho : mOk m n) (hm : ∀ w, w < n → S.2.2.1 11 w = nI (m w)) (hr : r < n) (h : P (nI (cW m n r)) S) : tX6_tiedWorks_16 (nI n) (nI r) S P := by
  have h8 := ho.1
  refine bX6_tiedWorks_16_0 _ _ ?_
  rw [sh1 (by omega)]
  have key : ∀ k t, t + k = n → ∀ X, X < 256 → X.testBit r = true → (∀ v, X.testBit v = true → v < n ∧ Tied m r v) → t + 1 ≤ csum (fun _ => 1) X n → wX6_tiedWorks_16 P 7 [.ref 16, .int (nI n), .int (nI r), .int (nI X), .int (nI t), .retAddr 0] [] S := by
    intro k
    induction k with
    | zero =>
      intro t ht X hX hrX hin hc
      have := csum_le1 X n
      omega
    | succ k ih =>
      intro t ht X hX hrX hin hc
      refine bX6_tiedWorks_16_7 _ _ _ _ ⟨fun c => absurd c (cnt_step (show t < n by omega) h8), fun _ => ?_⟩
      refine markersOf_16 ho hm hX (worksOf_16 ho hm ?_)
      have hY : wkO m n (orM m X n) ||| X < 256 := or_lt (msk_lt _ h8) hX
      rw [nI_or, nI_1, nI_eq (by omega) (by omega)]
      refine ⟨fun c => ?_, fun c => ?_⟩
      · have hsub : ∀ v, X.testBit v = true → (wkO m n (orM m X n) ||| X).testBit v = true := fun v hv => by rw [Nat.testBit_or, hv]; simp
        have hin2 := wider_in ho hin
        obtain ⟨w, hw, a, b⟩ := ne_bit hX hY hsub c
        have := csum_more hsub a b n (hin2 w b).1
        exact ih (t + 1) (by omega) _ hY (hsub r hrX) hin2 (by omega)
      · rw [wider_fix ho hX hin hrX c]
        exact h
  exact key n 0 (by omega) _ (p2_lt (by omega)) (by rw [p2_bit]; simp) (fun v hv => by
    rw [p2_bit, decide_eq_true_iff] at hv
    subst hv
    exact ⟨hr, Tied.rf m r⟩) (csum_1 (by rw [p2_bit]; simp) n hr)
theorem markersOf_33 {P : Int32 → St → Prop} {S : St} {m : Nat → Nat} {n X : Nat} (ho : mOk m n) (hm : ∀ w, w < n → S.2.2.1 15 w = nI (m w)) (hX : X < 256) (h : P (nI (orM m X n)) S) : tX6_markersOf_33 (nI n) (nI X) S P := by
  have h8 := ho.1
  refine bX6_markersOf_33_0 _ _ ?_
  refine loop_dn (fun v => wX6_markersOf_33 P 5 [.ref 33, .int (nI n), .int (nI X), .int (nI (orM m X v)), .int (nI v)] [] S) n (fun v hv ih => ?_) ?_
  · refine bX6_markersOf_33_5 _ _ _ _ ⟨fun c => absurd c (cnt_step hv h8), fun _ => ?_⟩
    unfold orM at ih
    rw [nI_1]
    refine has_ok hX (by omega) (fun e => ⟨fun z => absurd z (by decide), fun _ => ⟨ii hv h8, ?_⟩⟩) (fun e => ⟨fun _ => ?_, fun z => absurd rfl z⟩)
    · rw [if_pos e] at ih
      rw [nI_clamp (by omega), hm v hv, nI_or]
      exact ih
    · rw [if_neg (by rw [e]; decide), Nat.or_zero] at ih
      exact ih
  · exact bX6_markersOf_33_5 _ _ _ _ ⟨fun _ => h, fun c => absurd (nI_le (Nat.le_refl _) (by omega)) c⟩
theorem worksOf_33 {P : Int32 → St → Prop} {S : St} {m : Nat → Nat} {n Y : Nat} (ho : mOk m n) (hm : ∀ w, w < n → S.2.2.1 15 w = nI (m w)) (h : P (nI (wkO m n Y)) S) : tX6_worksOf_33 (nI n) (nI Y) S P := by
  have h8 := ho.1
  refine bX6_worksOf_33_0 _ _ ?_
  refine loop_dn (fun v => wX6_worksOf_33 P 5 [.ref 33, .int (nI n), .int (nI Y), .int (nI (msk (fun w => !decide (m w &&& Y = 0)) v)), .int (nI v)] [] S) n (fun v hv ih => ?_) ?_
  · refine bX6_worksOf_33_5 _ _ _ _ ⟨fun c => absurd c (cnt_step hv h8), fun _ => ⟨ii hv h8, ?_⟩⟩
    unfold msk at ih
    have hlt : m v &&& Y < 2 ^ 31 := Nat.lt_of_le_of_lt Nat.and_le_left (Nat.lt_of_lt_of_le (ho.2.2.2 v) (by decide))
    rw [nI_1, nI_clamp (by omega), hm v hv, nI_and, nI_z hlt, sh1 (by omega), nI_or]
    refine ⟨fun c => ?_, fun c => ?_⟩
    · rw [if_neg (by simp [c]), Nat.or_zero] at ih
      exact ih
    · rw [if_pos (by simp [c])] at ih
      exact ih
  · exact bX6_worksOf_33_5 _ _ _ _ ⟨fun _ => h, fun c => absurd (nI_le (Nat.le_refl _) (by omega)) c⟩
theorem tiedWorks_33 {P : Int32 → St → Prop} {S : St} {m : Nat → Nat} {n r : Nat} (ho : mOk m n) (hm : ∀ w, w < n → S.2.2.1 15 w = nI (m w)) (hr : r < n) (h : P (nI (cW m n r)) S) : tX6_tiedWorks_33 (nI n) (nI r) S P := by
  have h8 := ho.1
  refine bX6_tiedWorks_33_0 _ _ ?_
  rw [sh1 (by omega)]
  have key : ∀ k t, t + k = n → ∀ X, X < 256 → X.testBit r = true → (∀ v, X.testBit v = true → v < n ∧ Tied m r v) → t + 1 ≤ csum (fun _ => 1) X n → wX6_tiedWorks_33 P 7 [.ref 33, .int (nI n), .int (nI r), .int (nI X), .int (nI t), .retAddr 0] [] S := by
    intro k
    induction k with
    | zero =>
      intro t ht X hX hrX hin hc
      have := csum_le1 X n
      omega
    | succ k ih =>
      intro t ht X hX hrX hin hc
      refine bX6_tiedWorks_33_7 _ _ _ _ ⟨fun c => absurd c (cnt_step (show t < n by omega) h8), fun _ => ?_⟩
      refine markersOf_33 ho hm hX (worksOf_33 ho hm ?_)
      have hY : wkO m n (orM m X n) ||| X < 256 := or_lt (msk_lt _ h8) hX
      rw [nI_or, nI_1, nI_eq (by omega) (by omega)]
      refine ⟨fun c => ?_, fun c => ?_⟩
      · have hsub : ∀ v, X.testBit v = true → (wkO m n (orM m X n) ||| X).testBit v = true := fun v hv => by rw [Nat.testBit_or, hv]; simp
        have hin2 := wider_in ho hin
        obtain ⟨w, hw, a, b⟩ := ne_bit hX hY hsub c
        have := csum_more hsub a b n (hin2 w b).1
        exact ih (t + 1) (by omega) _ hY (hsub r hrX) hin2 (by omega)
      · rw [wider_fix ho hX hin hrX c]
        exact h
  exact key n 0 (by omega) _ (p2_lt (by omega)) (by rw [p2_bit]; simp) (fun v hv => by
    rw [p2_bit, decide_eq_true_iff] at hv
    subst hv
    exact ⟨hr, Tied.rf m r⟩) (csum_1 (by rw [p2_bit]; simp) n hr)
theorem whoS_ok {g : Sg} (hg : Wf g) : mOk (whoS g) g.1 := by
  refine ⟨hg.1.2, fun w hw => ?_, fun w p h => ?_, fun w => whoS_lt hg w⟩
  · refine set_ext (whoS_lt hg w) (by decide) (fun i hi => ?_)
    unfold whoS
    rw [msk_bit, hg.2.2.2.2.2.1 i w (fun z => by omega)]
    simp
  · unfold whoS at h
    rw [msk_bit, Bool.and_eq_true, decide_eq_true_iff] at h
    exact h.1
theorem whoS_bit {g : Sg} {w p : Nat} : (whoS g w).testBit p = true ↔ p < g.1 ∧ g.2.2.2.1 p w ≠ -1 := by
  unfold whoS
  rw [msk_bit, Bool.and_eq_true, decide_eq_true_iff, Bool.not_eq_true', decide_eq_false_iff_not]
/-- the rows of pieces are fresh; Sol tells of a piece that is worked out -/
def XPf (Sol : Sg → Nat → St → Prop) (g : Sg) (S : St) : Prop := S.1 4 = 1 ∧ S.1 3 = nI (rtc (whoS g) g.1) ∧ (∀ w, w < g.1 → S.2.2.1 15 w = nI (whoS g w)) ∧ ∀ r, r < g.1 → rtB (whoS g) r = true → S.2.2.1 16 (rtc (whoS g) r) = nI (cW (whoS g) g.1 r) ∧ S.2.2.1 17 (rtc (whoS g) r) = nI (cM (whoS g) g.1 r) ∧ (S.2.2.2 0 (rtc (whoS g) r) = 0 ∨ Sol g r S)
def XP (Sol : Sg → Nat → St → Prop) (g : Sg) (S : St) : Prop := S.1 4 = 0 ∨ XPf Sol g S
/-- what the rows hold when the works before i are done -/
def XPi (g : Sg) (i : Nat) (S : St) : Prop := S.1 4 = 1 ∧ S.1 3 = nI (rtc (whoS g) i) ∧ (∀ w, w < g.1 → S.2.2.1 15 w = nI (whoS g w)) ∧ ∀ r, r < i → rtB (whoS g) r = true → S.2.2.1 16 (rtc (whoS g) r) = nI (cW (whoS g) g.1 r) ∧ S.2.2.1 17 (rtc (whoS g) r) = nI (cM (whoS g) g.1 r) ∧ S.2.2.2 0 (rtc (whoS g) r) = 0
noncomputable def seenS (g : Sg) (i : Nat) : Nat := msk (fun v => !decide (whoS g v = 0) && decide (labS (whoS g) v < i)) g.1
theorem refreshP {P : St → Prop} {S : St} {g : Sg} {Sol : Sg → Nat → St → Prop} (hg : Wf g) (hx : XB g S) (hp : XP Sol g S) (h : ∀ S1, SameP S S1 → XPf Sol g S1 → P S1) : tX4_refresh S P := by
  have h8 := hg.1.2
  have ho := whoS_ok hg
  refine bX4_refresh_0 ⟨fun c => ?_, fun c => ?_⟩
  · -- pieces
    have pcs : ∀ k i, i + k = g.1 → ∀ S1, SameP S S1 → XPi g i S1 → wX4_refresh P 55 [.ref 20, .int (nI (seenS g i)), .int (nI i)] [] S1 := by
      intro k
      induction k with
      | zero =>
        intro i hi S1 hs hf
        have e : i = g.1 := by omega
        subst e
        refine bX4_refresh_55 _ _ ⟨fun _ => h S1 hs ?_, fun c2 => absurd (by rw [(hx.sameP hs).1]; exact nI_le (Nat.le_refl _) (by omega)) c2⟩
        exact ⟨hf.1, hf.2.1, hf.2.2.1, fun r hr hb => ⟨(hf.2.2.2 r hr hb).1, (hf.2.2.2 r hr hb).2.1, Or.inl (hf.2.2.2 r hr hb).2.2⟩⟩
      | succ k ih =>
        intro i hi S1 hs hf
        have hin : i < g.1 := by omega
        have hx1 := hx.sameP hs
        obtain ⟨f1, f2, f3, f4⟩ := hf
        refine bX4_refresh_55 _ _ ⟨fun c2 => absurd (hx1.1 ▸ c2) (cnt_step hin h8), fun _ => ⟨ii hin h8, ?_⟩⟩
        obtain ⟨l1, l2, l3⟩ := labS_spec (m := whoS g) (show i < 16 by omega)
        have wl : whoS g i < 2 ^ 31 := Nat.lt_of_lt_of_le (whoS_lt hg i) (by decide)
        have sl : seenS g i < 256 := msk_lt _ h8
        have sb : (seenS g i).testBit i = true ↔ whoS g i ≠ 0 ∧ labS (whoS g) i < i := by
          unfold seenS
          rw [msk_bit, Bool.and_eq_true, Bool.and_eq_true, decide_eq_true_iff, decide_eq_true_iff, Bool.not_eq_true', decide_eq_false_iff_not]
          exact ⟨fun z => z.2, fun z => ⟨hin, z⟩⟩
        rw [nI_1, nI_clamp (by omega), f3 i hin, nI_z wl]
        -- no root
        have stay : ¬ rtB (whoS g) i = true → wX4_refresh P 55 [.ref 20, .int (nI (seenS g i)), .int (nI (i + 1))] [] S1 := fun nr => by
          have e1 : rtc (whoS g) (i + 1) = rtc (whoS g) i := by
            show rtc (whoS g) i + _ = _
            rw [if_neg nr]
            rfl
          have e2 : seenS g (i + 1) = seenS g i := by
            refine set_ext (msk_lt _ h8) (msk_lt _ h8) (fun v hv => ?_)
            unfold seenS
            rw [msk_bit, msk_bit]
            by_cases z : whoS g v = 0
            · simp [z]
            · by_cases y : labS (whoS g) v = i
              · exfalso
                by_cases hvn : v < g.1
                · have := root_w ho hvn z
                  rw [y] at this
                  exact nr this.2
                · exact z (ho.2.1 v (by omega))
              · have : (labS (whoS g) v < i + 1) ↔ (labS (whoS g) v < i) := by omega
                simp only [this]
          have := ih (i + 1) (by omega) S1 hs ⟨f1, by rw [f2, e1], f3, fun r hr hb => f4 r (by
            rcases Nat.lt_or_ge r i with z | z
            · exact z
            · have e : r = i := by omega
              subst e
              exact absurd hb nr) hb⟩
          rw [e2] at this
          exact this
        refine ⟨fun c2 => stay (fun z => (rtB_t.mp z).2 c2), fun c2 => ?_⟩
        refine has_ok sl (by omega) (fun e => ⟨fun _ => stay (fun z => ?_), fun z => absurd z (by decide)⟩) (fun e => ⟨fun z => absurd rfl z, fun _ => ?_⟩)
        · have := (sb.mp e).2
          have := (rtB_t.mp z).1
          omega
        · have hl : labS (whoS g) i = i := by
            rcases Nat.lt_or_ge (labS (whoS g) i) i with z | z
            · rw [sb.mpr ⟨c2, z⟩] at e
              exact absurd e (by decide)
            · omega
          have hb : rtB (whoS g) i = true := rtB_t.mpr ⟨hl, c2⟩
          have hk := rtc_le (whoS g) i
          rw [hx1.1]
          refine tiedWorks_33 ho f3 hin ?_
          rw [f2, nI_clamp (by omega), hx1.1, upd_eq]
          refine ⟨vp_in_nI (by omega) (by decide), vp_in_nI (by omega) (by decide), ?_⟩
          refine markersOf_33 ho (by intro w hw; exact f3 w hw) (cW_lt h8) ?_
          rw [cM_or ho hin]
          have e3 : (sA S1 16 (upd (S1.2.2.1 16) (rtc (whoS g) i) (nI (cW (whoS g) g.1 i)))).1 3 = nI (rtc (whoS g) i) := f2
          rw [e3, nI_clamp (by omega)]
          refine ⟨vp_in_nI (by omega) (by decide), ?_⟩
          have e4 : (sA S1 16 (upd (S1.2.2.1 16) (rtc (whoS g) i) (nI (cW (whoS g) g.1 i)))).2.2.1 16 (rtc (whoS g) i) = nI (cW (whoS g) g.1 i) := upd_eq
          rw [e4, nI_or, nI_1]
          have e5 : seenS g i ||| cW (whoS g) g.1 i = seenS g (i + 1) := by
            refine set_ext (or_lt sl (cW_lt h8)) (msk_lt _ h8) (fun v hv => ?_)
            rw [Nat.testBit_or, Bool.eq_iff_iff, Bool.or_eq_true, cW_bit]
            unfold seenS
            rw [msk_bit, msk_bit]
            simp only [Bool.and_eq_true, decide_eq_true_iff, Bool.not_eq_true', decide_eq_false_iff_not]
            have ht : Tied (whoS g) i v ↔ labS (whoS g) v = i := by rw [← labS_iff (by omega) (by omega), hl]; exact eq_comm
            rw [ht]
            refine ⟨fun z => ?_, fun z => ?_⟩
            · rcases z with z | z
              · exact ⟨z.1, z.2.1, by omega⟩
              · refine ⟨z.1, fun w0 => ?_, by omega⟩
                have := Tied.lone w0 hv (ht.mpr z.2).sy
                rw [this] at c2
                exact c2 w0
            · by_cases y : labS (whoS g) v = i
              · exact Or.inr ⟨z.1, y⟩
              · exact Or.inl ⟨z.1, z.2.1, by omega⟩
          rw [e5]
          have e6 : rtc (whoS g) (i + 1) = rtc (whoS g) i + 1 := by
            show rtc (whoS g) i + _ = _
            rw [if_pos hb]
          refine ih (i + 1) (by omega) _ ((((hs.tr (SameP.A (by decide))).tr (SameP.A (by decide))).tr (SameP.B (by decide))).tr (SameP.I (by decide))) ⟨f1, ?_, f3, fun r hr hbr => ?_⟩
          · rw [e6]; exact (up_eq (f := S1.1) (k := 3))
          · show upd (S1.2.2.1 16) (rtc (whoS g) i) (nI (cW (whoS g) g.1 i)) (rtc (whoS g) r) = _ ∧ upd (S1.2.2.1 17) (rtc (whoS g) i) (nI (cM (whoS g) g.1 i)) (rtc (whoS g) r) = _ ∧ vp_updL (S1.2.2.2 0) (rtc (whoS g) i) 0 (rtc (whoS g) r) = 0
            by_cases er : r = i
            · subst er
              rw [upd_eq, upd_eq, updL_eq]
              exact ⟨rfl, rfl, rfl⟩
            · have ne : rtc (whoS g) r ≠ rtc (whoS g) i := fun z => er (rtc_inj hbr hb z)
              rw [upd_ne ne, upd_ne ne, updL_ne ne]
              exact f4 r (by omega) hbr
    have who : ∀ k i, i + k = g.1 → ∀ F : Nat → Int32, (∀ w, w < i → F w = nI (whoS g w)) → wX4_refresh P 15 [.ref 20, .int (nI i), .retAddr 0] [] (sA (sI S 4 1) 15 F) := by
      intro k
      induction k with
      | zero =>
        intro i hi F hF
        have e : i = g.1 := by omega
        subst e
        have hs : SameP S (sA (sI S 4 1) 15 F) := (SameP.I (by decide)).tr (SameP.A (by decide))
        refine bX4_refresh_15 _ ⟨fun _ => ?_, fun c2 => absurd (by rw [(hx.sameP hs).1]; exact nI_le (Nat.le_refl _) (by omega)) c2⟩
        have e0 : seenS g 0 = 0 := by
          refine set_ext (msk_lt _ h8) (by decide) (fun v hv => ?_)
          unfold seenS
          rw [msk_bit]
          simp
        have := pcs g.1 0 (by omega) (sI (sA (sI S 4 1) 15 F) 3 0) (hs.tr (SameP.I (by decide))) ⟨rfl, rfl, hF, fun r hr => by omega⟩
        rw [e0] at this
        exact this
      | succ k ih =>
        intro i hi F hF
        have hin : i < g.1 := by omega
        have hs : SameP S (sA (sI S 4 1) 15 F) := (SameP.I (by decide)).tr (SameP.A (by decide))
        have hx1 := hx.sameP hs
        refine bX4_refresh_15 _ ⟨fun c2 => absurd (hx1.1 ▸ c2) (cnt_step hin h8), fun _ => ?_⟩
        refine whoMarkedX hg hx1 hin ⟨ii hin h8, ?_⟩
        rw [nI_1, nI_clamp (by omega)]
        show wX4_refresh P 15 _ _ (sA (sA (sI S 4 1) 15 F) 15 (upd F i (nI (whoS g i))))
        rw [sA_same]
        refine ih (i + 1) (by omega) _ (fun w hw => ?_)
        by_cases e : w = i
        · subst e; rw [upd_eq]
        · rw [upd_ne e]; exact hF w (by omega)
    have h0 := who g.1 0 (by omega) ((sI S 4 1).2.2.1 15) (fun w hw => by omega)
    rw [sA_self] at h0
    exact h0
  · rcases hp with hp | hp
    · exact absurd hp c
    · exact h S (SameP.rf S) hp
/-- the piece of a work, and of a pupil -/
noncomputable def pcW (g : Sg) (w : Nat) : Option Nat := if whoS g w = 0 then none else some (rtc (whoS g) (labS (whoS g) w))
noncomputable def pcP (g : Sg) (p : Nat) : Option Nat := if rtB (whoS g) (labS (whoS g) (8 + p)) then some (rtc (whoS g) (labS (whoS g) (8 + p))) else none
theorem whichHas_34 {P : Int32 → St → Prop} {S : St} {g : Sg} {Sol : Sg → Nat → St → Prop} (hg : Wf g) (hf : XPf Sol g S) {w : Nat} (hw : w < g.1) (h : P (oI (pcW g w)) S) : tX4_whichHas_34 (nI w) S P := by
  have h8 := hg.1.2
  have ho := whoS_ok hg
  obtain ⟨f1, f2, f3, f4⟩ := hf
  refine bX4_whichHas_34_0 _ ?_
  have hrl := rtc_le (whoS g) g.1
  have lb := (labS_spec (m := whoS g) (show w < 16 by omega))
  -- the set of the k-th piece
  have bit : ∀ r, r < g.1 → rtB (whoS g) r = true → ((cW (whoS g) g.1 r).testBit w = true ↔ pcW g w = some (rtc (whoS g) r)) := fun r hr hb => by
    have hl := (rtB_t.mp hb).1
    rw [cW_bit]
    have ht : Tied (whoS g) r (w) ↔ labS (whoS g) (w) = r := by rw [← labS_iff (by omega) (by omega), hl]; exact eq_comm
    rw [ht]
    unfold pcW
    by_cases z : whoS g w = 0
    · rw [if_pos z]
      refine ⟨fun q => ?_, fun q => by cases q⟩
      have := Tied.lone z (by omega) (ht.mpr q.2).sy
      rw [this] at hb
      exact absurd z (rtB_t.mp hb).2
    · rw [if_neg z]
      have rw' := root_w ho hw z
      refine ⟨fun q => by rw [q.2], fun q => ⟨hw, rtc_inj rw'.2 hb (by injection q)⟩⟩
  have key : ∀ k i, i + k = rtc (whoS g) g.1 → (∀ j, j < i → pcW g w ≠ some j) → wX4_whichHas_34 P 2 [.ref 20, .ref 34, .int (nI w), .int (nI i)] [] S := by
    intro k
    induction k with
    | zero =>
      intro i hi hno
      have e : i = rtc (whoS g) g.1 := by omega
      subst e
      refine bX4_whichHas_34_2 _ _ ⟨fun _ => ?_, fun c => absurd (by rw [f2]; exact nI_le (Nat.le_refl _) (by omega)) c⟩
      have : pcW g w = none := by
        cases e : pcW g w with
        | none => rfl
        | some j =>
          exfalso
          refine hno j ?_ e
          unfold pcW at e
          by_cases z : whoS g w = 0
          · rw [if_pos z] at e; cases e
          · rw [if_neg z] at e
            injection e with e
            have rw' := root_w ho hw z
            rw [← e]
            exact rtc_lt rw'.2 rw'.1
      rw [this] at h
      exact h
    | succ k ih =>
      intro i hi hno
      have hik : i < rtc (whoS g) g.1 := by omega
      obtain ⟨r, hr, hb, er⟩ := rtc_at hik
      have ft := f4 r hr hb
      refine bX4_whichHas_34_2 _ _ ⟨fun c => absurd (f2 ▸ c) (cnt_step hik (by omega)), fun _ => ⟨vp_in_nI (by omega) (by decide), ?_⟩⟩
      rw [nI_clamp (by omega), ← er, ft.1, er, nI_1]
      refine has_ok (cW_lt h8) (by omega) (fun e => ⟨fun z => absurd z (by decide), fun _ => ?_⟩) (fun e => ⟨fun _ => ?_, fun z => absurd rfl z⟩)
      · rw [(bit r hr hb).mp e, er] at h
        exact h
      · refine ih (i + 1) (by omega) (fun j hj ej => ?_)
        by_cases z : j = i
        · subst z
          rw [← er] at ej
          rw [(bit r hr hb).mpr ej] at e
          exact absurd e (by decide)
        · exact hno j (by omega) ej
  exact key (rtc (whoS g) g.1) 0 (by omega) (fun j hj => by omega)
theorem whichHas_35 {P : Int32 → St → Prop} {S : St} {g : Sg} {Sol : Sg → Nat → St → Prop} (hg : Wf g) (hf : XPf Sol g S) {p : Nat} (hw : p < g.1) (h : P (oI (pcP g p)) S) : tX4_whichHas_35 (nI p) S P := by
  have h8 := hg.1.2
  have ho := whoS_ok hg
  obtain ⟨f1, f2, f3, f4⟩ := hf
  refine bX4_whichHas_35_0 _ ?_
  have hrl := rtc_le (whoS g) g.1
  have lb := (labS_spec (m := whoS g) (show 8 + p < 16 by omega))
  -- the set of the k-th piece
  have bit : ∀ r, r < g.1 → rtB (whoS g) r = true → ((cM (whoS g) g.1 r).testBit p = true ↔ pcP g p = some (rtc (whoS g) r)) := fun r hr hb => by
    have hl := (rtB_t.mp hb).1
    rw [cM_bit]
    have ht : Tied (whoS g) r (8 + p) ↔ labS (whoS g) (8 + p) = r := by rw [← labS_iff (by omega) (by omega), hl]; exact eq_comm
    rw [ht]
    unfold pcP
    by_cases z : rtB (whoS g) (labS (whoS g) (8 + p)) = true
    · rw [if_pos z]
      refine ⟨fun q => by rw [q.2], fun q => ⟨hw, rtc_inj z hb (by injection q)⟩⟩
    · rw [if_neg z]
      refine ⟨fun q => ?_, fun q => by cases q⟩
      rw [q.2] at z
      exact absurd hb z
  have key : ∀ k i, i + k = rtc (whoS g) g.1 → (∀ j, j < i → pcP g p ≠ some j) → wX4_whichHas_35 P 2 [.ref 20, .ref 35, .int (nI p), .int (nI i)] [] S := by
    intro k
    induction k with
    | zero =>
      intro i hi hno
      have e : i = rtc (whoS g) g.1 := by omega
      subst e
      refine bX4_whichHas_35_2 _ _ ⟨fun _ => ?_, fun c => absurd (by rw [f2]; exact nI_le (Nat.le_refl _) (by omega)) c⟩
      have : pcP g p = none := by
        cases e : pcP g p with
        | none => rfl
        | some j =>
          exfalso
          refine hno j ?_ e
          unfold pcP at e
          by_cases z : rtB (whoS g) (labS (whoS g) (8 + p)) = true
          · rw [if_pos z] at e
            injection e with e
            rw [← e]
            refine rtc_lt z ?_
            rcases Nat.lt_or_ge (labS (whoS g) (8 + p)) g.1 with y | y
            · exact y
            · exact absurd (ho.2.1 _ y) (rtB_t.mp z).2
          · rw [if_neg z] at e; cases e
      rw [this] at h
      exact h
    | succ k ih =>
      intro i hi hno
      have hik : i < rtc (whoS g) g.1 := by omega
      obtain ⟨r, hr, hb, er⟩ := rtc_at hik
      have ft := f4 r hr hb
      refine bX4_whichHas_35_2 _ _ ⟨fun c => absurd (f2 ▸ c) (cnt_step hik (by omega)), fun _ => ⟨vp_in_nI (by omega) (by decide), ?_⟩⟩
      rw [nI_clamp (by omega), ← er, ft.2.1, er, nI_1]
      refine has_ok (cM_lt h8) (by omega) (fun e => ⟨fun z => absurd z (by decide), fun _ => ?_⟩) (fun e => ⟨fun _ => ?_, fun z => absurd rfl z⟩)
      · rw [(bit r hr hb).mp e, er] at h
        exact h
      · refine ih (i + 1) (by omega) (fun j hj ej => ?_)
        by_cases z : j = i
        · subst z
          rw [← er] at ej
          rw [(bit r hr hb).mpr ej] at e
          exact absurd e (by decide)
        · exact hno j (by omega) ej
  exact key (rtc (whoS g) g.1) 0 (by omega) (fun j hj => by omega)
/-- whether a piece is large, by its root -/
noncomputable def lgB (g : Sg) (r : Nat) : Bool := decide (10 < szS (whoS g) r)
theorem isLargeX {P : Int32 → St → Prop} {S : St} {g : Sg} {Sol : Sg → Nat → St → Prop} (hg : Wf g) (hf : XPf Sol g S) {r : Nat} (hr : r < g.1) (hb : rtB (whoS g) r = true) (h : P (if lgB g r then 1 else 0) S) : tX4_isLarge (nI (rtc (whoS g) r)) S P := by
  have h8 := hg.1.2
  have ho := whoS_ok hg
  have hrl := rtc_le (whoS g) r
  obtain ⟨a, b, _⟩ := hf.2.2.2 r hr hb
  refine bX4_isLarge_0 _ ⟨vp_in_nI (by omega) (by decide), ?_⟩
  have c1 := csum_le1 (cW (whoS g) g.1 r) 8
  have c2 := csum_le1 (cM (whoS g) g.1 r) 8
  rw [nI_clamp (by omega), a, b, wbc_256 _ (cW_lt h8), wbc_256 _ (cM_lt h8), nI_add, ← szS_eq ho hr (rtB_t.mp hb).1 (rtB_t.mp hb).2, show (10 : Int32) = nI 10 from rfl, nI_leI (by rw [szS_eq ho hr (rtB_t.mp hb).1 (rtB_t.mp hb).2]; omega) (by decide)]
  unfold lgB at h
  refine ⟨fun c => ?_, fun c => ?_⟩
  · rw [decide_eq_false (by omega)] at h; exact h
  · rw [decide_eq_true (by omega)] at h; exact h
noncomputable def lgc (g : Sg) : Nat → Nat
  | 0 => 0
  | i + 1 => lgc g i + if rtB (whoS g) i && lgB g i then 1 else 0
theorem lgc_le (g : Sg) : ∀ i, lgc g i ≤ i
  | 0 => Nat.le_refl _
  | i + 1 => by
    have := lgc_le g i
    unfold lgc
    split <;> omega
theorem howManyX {P : Int32 → St → Prop} {S : St} {g : Sg} {Sol : Sg → Nat → St → Prop} (hg : Wf g) (hx : XB g S) (hp : XP Sol g S) (h : ∀ S1, SameP S S1 → XPf Sol g S1 → P (nI (rtc (whoS g) g.1)) S1) : tX4_howMany S P := by
  refine bX4_howMany_0 (refreshP hg hx hp (fun S1 hs hf => ?_))
  rw [hf.2.1]
  exact h S1 hs hf
theorem howManyLargeX {P : Int32 → St → Prop} {S : St} {g : Sg} {Sol : Sg → Nat → St → Prop} (hg : Wf g) (hx : XB g S) (hp : XP Sol g S) (h : ∀ S1, SameP S S1 → XPf Sol g S1 → P (nI (lgc g g.1)) S1) : tX4_howManyLarge S P := by
  have h8 := hg.1.2
  refine bX4_howManyLarge_0 (refreshP hg hx hp (fun S1 hs hf => ?_))
  have hrl := rtc_le (whoS g) g.1
  have fin := h S1 hs hf
  have key : ∀ k i, i + k = g.1 → wX4_howManyLarge P 8 [.ref 20, .int (nI (lgc g i)), .int (nI (rtc (whoS g) i))] [] S1 := by
    intro k
    induction k with
    | zero =>
      intro i hi
      have e : i = g.1 := by omega
      subst e
      exact bX4_howManyLarge_8 _ _ ⟨fun _ => fin, fun c => absurd (by rw [hf.2.1]; exact nI_le (Nat.le_refl _) (by omega)) c⟩
    | succ k ih =>
      intro i hi
      have ih1 := ih (i + 1) (by omega)
      unfold lgc rtc at ih1
      by_cases hb : rtB (whoS g) i = true
      · rw [if_pos hb] at ih1
        have hlt := rtc_lt hb (show i < g.1 by omega)
        refine bX4_howManyLarge_8 _ _ ⟨fun c => absurd (hf.2.1 ▸ c) (cnt_step hlt (by omega)), fun _ => ?_⟩
        rw [nI_1, nI_1]
        refine isLargeX hg hf (by omega) hb ?_
        rw [hb] at ih1
        cases e : lgB g i with
        | true =>
          rw [e] at ih1
          exact ⟨fun z => absurd z (by decide), fun _ => ih1⟩
        | false =>
          rw [e] at ih1
          exact ⟨fun _ => ih1, fun z => absurd rfl z⟩
      · rw [if_neg hb, if_neg (fun z => hb (by rw [Bool.and_eq_true] at z; exact z.1))] at ih1
        exact ih1
  exact key g.1 0 (by omega)
