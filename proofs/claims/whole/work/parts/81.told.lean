/-! ===== a piece worked out ===== -/
def Sol (g : Sg) (r : Nat) (S : St) : Prop := ∃ (d : Int) (N : Nat → Int), NSol g r d N ∧ d ≤ 24300000 ∧ (∀ z, z < 16 → tdB (whoS g) r z = true → -400000000000 ≤ N z ∧ N z ≤ 400000000000) ∧ S.2.2.2 0 (rtc (whoS g) r) = lI d ∧ (∀ w, w < 8 → tdB (whoS g) r w = true → S.2.2.2 1 w = lI (N w)) ∧ (∀ p, p < 8 → tdB (whoS g) r (8 + p) = true → S.2.2.2 2 p = lI (N (8 + p)))
theorem size_eq {g : Sg} {r : Nat} (hr : r < 16) (hl : labS (whoS g) r = r) : szS (whoS g) r = nWk g r + nPu g r := by
  rw [← nWP]
  unfold szS
  have : ∀ n, n ≤ 16 → lsum (fun z => if labS (whoS g) z = r then 1 else 0) n = lsum (fun z => b2 (tdB (whoS g) r z)) n := by
    intro n
    induction n with
    | zero => intro _; rfl
    | succ n ih =>
      intro hn
      show lsum _ n + _ = lsum _ n + _
      rw [ih (by omega)]
      congr 1
      by_cases c : labS (whoS g) n = r
      · have t : tdB (whoS g) r n = true := tdB_t.mpr ((labS_iff (by omega) hr).mp (c.trans hl.symm)).sy
        show (if labS (whoS g) n = r then 1 else 0) = b2 (tdB (whoS g) r n)
        rw [if_pos c, t]
        rfl
      · cases t : tdB (whoS g) r n with
        | false =>
          show (if labS (whoS g) n = r then 1 else 0) = b2 (tdB (whoS g) r n)
          rw [if_neg c, t]; rfl
        | true => exact absurd (((labS_iff (by omega) hr).mpr (tdB_t.mp t).sy).trans hl) c
  exact this 16 (Nat.le_refl _)
theorem pu_some {g : Sg} (hg : Wf g) {r : Nat} (hr : r < g.1) (hb : rtB (whoS g) r = true) : ∃ p, p < 8 ∧ p < g.1 ∧ (whoS g r).testBit p = true ∧ Tied (whoS g) r (8 + p) := by
  obtain ⟨p, hp, t⟩ := some_marker (whoS_ok hg) (rtB_t.mp hb).2
  have n8 := hg.1.2
  exact ⟨p, by omega, hp, t, Tied.wp (by omega) (by omega) t⟩
theorem pu_1 {g : Sg} (hg : Wf g) {r : Nat} (hr : r < g.1) (hb : rtB (whoS g) r = true) : 1 ≤ nPu g r := by
  obtain ⟨p, hp, _, _, t⟩ := pu_some hg hr hb
  have := lsum_ge (f := fun p => b2 (tdB (whoS g) r (8 + p))) hp
  rw [tdB_t.mpr t] at this
  exact this
theorem sm_f {g : Sg} {r : Nat} (h : smB g r = false) : ∃ w, w < 8 ∧ tdB (whoS g) r w = true ∧ g.2.2.2.2 w ≠ -1 := by
  refine Classical.byContradiction (fun n => ?_)
  have : smB g r = true := smB_t.mpr (fun w hw t => Classical.byContradiction (fun s => n ⟨w, hw, t, s⟩))
  rw [h] at this
  exact absurd this (by decide)
theorem sysX {g : Sg} (hg : Wf g) {r : Nat} (hr : r < g.1) (hb : rtB (whoS g) r = true) (hc : nWk g r + nPu g r ≤ 10) : Sys (kX g r) 65 (CX g r (smB g r)) := by
  have n8 := hg.1.2
  refine sys_ok hg (by omega) (slotsX g r).1 hc (pu_1 hg hr hb) ?_
  cases e : smB g r with
  | true =>
    obtain ⟨p, hp, _, _, t⟩ := pu_some hg hr hb
    exact Or.inr ⟨rfl, p, hp, t⟩
  | false =>
    obtain ⟨w, hw, t, s⟩ := sm_f e
    exact Or.inl ⟨w, tdB_t.mp t, fun j hj z => s (z ▸ ((slotsX g r).2.2 j hj).2 (z ▸ hw))⟩
theorem solX {g : Sg} (hg : Wf g) {r : Nat} (hr : r < g.1) (hb : rtB (whoS g) r = true) (hc : nWk g r + nPu g r ≤ 10) : NSol g r (dX g r) (NX g r) ∧ dX g r ≤ 24300000 ∧ ∀ z, z < 16 → tdB (whoS g) r z = true → -400000000000 ≤ NX g r z ∧ NX g r z ≤ 400000000000 := by
  have h := sysX hg hr hb hc
  have hd := gd_B h (Nat.le_refl _)
  have hp := sys_d h (Nat.le_refl _)
  refine ⟨nsol_all h (slotsX g r).1 (slotsX g r).2 (pu_1 hg hr hb) smB_t, hd, fun z hz t => ?_⟩
  by_cases u : uB g r 16 z = true
  · rw [NX_slot hz u]
    exact gV_64 h (Nat.le_refl _) (ndX_sl hz u).1 (Nat.le_refl _) (Nat.le_refl _)
  · have c : z < 8 ∧ g.2.2.2.2 z ≠ -1 := by
      by_cases a : z < 8
      · exact ⟨a, fun s => u (uB_t.mpr ⟨tdB_t.mp t, by omega, Or.inr s⟩)⟩
      · exact absurd (uB_t.mpr ⟨tdB_t.mp t, by omega, Or.inl (by omega)⟩) u
    rw [NX_staff c.1 c.2]
    have m := hg.2.2.2.2.2.2.1 z
    unfold mkok at m
    show -400000000000 ≤ (g.2.2.2.2 z).toInt * gd (kX g r) 65 (CX g r (smB g r)) (kX g r) ∧ (g.2.2.2.2 z).toInt * gd (kX g r) 65 (CX g r (smB g r)) (kX g r) ≤ 400000000000
    have b1 := Int.mul_le_mul_of_nonneg_right m.1 (Int.le_of_lt hp)
    have b2 := Int.mul_le_mul_of_nonneg_right m.2 (Int.le_of_lt hp)
    omega
theorem FrB.sameP {S S1 : St} (h : FrB eqB S S1) : SameP S S1 := ⟨fun k _ => by rw [h.1], h.2.1, fun k _ => by rw [h.2.2.1], fun k hk => h.2.2.2 k (fun z => by
  simp only [eqB, List.mem_cons, List.mem_nil_iff, or_false] at z
  omega)⟩
theorem roots_far {g : Sg} {r r2 z : Nat} (hr : r < 16) (hr2 : r2 < 16) (h : rtB (whoS g) r = true) (h2 : rtB (whoS g) r2 = true) (hne : r2 ≠ r) (t : tdB (whoS g) r2 z = true) : ¬ tdB (whoS g) r z = true := fun t2 => by
  have := (labS_iff hr2 hr).mpr ((tdB_t.mp t).tr (tdB_t.mp t2).sy)
  rw [(rtB_t.mp h).1, (rtB_t.mp h2).1] at this
  exact hne this
theorem workOutX {P : St → Prop} {S : St} {g : Sg} (hg : Wf g) (hx : XB g S) (hf : XPf Sol g S) {r : Nat} (hr : r < g.1) (hb : rtB (whoS g) r = true) (hc : nWk g r + nPu g r ≤ 10) (h : ∀ S1, SameP S S1 → XPf Sol g S1 → Sol g r S1 → P S1) : tX4_workOut (nI (rtc (whoS g) r)) S P := by
  have n8 := hg.1.2
  have rl := rtc_le (whoS g) r
  have hk : kX g r ≤ 10 := Nat.le_trans (slots_k (slotsX g r).1) hc
  have hS := sysX hg hr hb hc
  obtain ⟨p16, p17, _⟩ := hf.2.2.2 r hr hb
  refine bX4_workOut_0 _ (giveSlotsX hg hx hf hr hb (fun F G hF hG => startE hk (fun S1 f1 e1 => ?_)))
  have sb : SameP S (sI (sA (sA S 18 F) 19 G) 5 (nI (kX g r))) := ((SameP.A (by decide)).tr (SameP.A (by decide))).tr (SameP.I (by decide))
  -- what holds in every state of the work
  have xb : ∀ S2, FrB eqB (sI (sA (sA S 18 F) 19 G) 5 (nI (kX g r))) S2 → XB g S2 := fun S2 f => (hx.sameP sb).frB f
  have a15 : ∀ S2, FrB eqB (sI (sA (sA S 18 F) 19 G) 5 (nI (kX g r))) S2 → ∀ w, w < g.1 → S2.2.2.1 15 w = nI (whoS g w) := fun S2 f w hw => by rw [f.2.2.1]; exact hf.2.2.1 w hw
  have a16 : ∀ S2, FrB eqB (sI (sA (sA S 18 F) 19 G) 5 (nI (kX g r))) S2 → S2.2.2.1 16 (rtc (whoS g) r) = nI (cW (whoS g) g.1 r) := fun S2 f => by rw [f.2.2.1]; exact p16
  have a17 : ∀ S2, FrB eqB (sI (sA (sA S 18 F) 19 G) 5 (nI (kX g r))) S2 → S2.2.2.1 17 (rtc (whoS g) r) = nI (cM (whoS g) g.1 r) := fun S2 f => by rw [f.2.2.1]; exact p17
  have a18 : ∀ S2, FrB eqB (sI (sA (sA S 18 F) 19 G) 5 (nI (kX g r))) S2 → ∀ i, i < g.1 → S2.2.2.1 18 i = wSl g r i := fun S2 f i hi => by rw [f.2.2.1]; exact hF i hi
  have a19 : ∀ S2, FrB eqB (sI (sA (sA S 18 F) 19 G) 5 (nI (kX g r))) S2 → ∀ i, i < g.1 → S2.2.2.1 19 i = lSl g r i := fun S2 f i hi => by rw [f.2.2.1]; exact hG i hi
  -- the end: solved, read
  have fin : ∀ S2, FrB eqB (sI (sA (sA S 18 F) 19 G) 5 (nI (kX g r))) S2 → ER (kX g r) (gA 65 (CX g r (smB g r))) S2 → tX0_solve S2 (fun r4 S3 => vp_in (nI (rtc (whoS g) r)) 8 ∧ tX4_readTops (nI (rtc (whoS g) r)) (sB S3 0 (vp_updL (S3.2.2.2 0) (nI (rtc (whoS g) r)).toNatClampNeg r4)) (fun S6 => P S6)) := fun S2 f2 e2 => by
    refine solveX hS e2.1 e2.2 (fun S3 f3 t3 => ⟨vp_in_nI (by omega) (by decide), ?_⟩)
    have f := f2.tr f3
    rw [nI_clamp (by omega)]
    have s3 : SameP S S3 := sb.tr f.sameP
    have s4 : SameP S3 (sB S3 0 (vp_updL (S3.2.2.2 0) (rtc (whoS g) r) (lI (dX g r)))) := SameP.B (by decide)
    refine readTopsE hg ((xb S3 f).sameP s4) hr (a16 S3 f) (a17 S3 f) (a18 S3 f) (a19 S3 f) hk ?_ ?_ ?_ (fun U V hU hV => ?_)
    · show S3.1 5 = _
      rw [f.1]
      exact up_eq (f := (sA (sA S 18 F) 19 G).1) (k := 5)
    · intro i hi
      show va_up S3.2.2.2 0 _ (3 + i) (kX g r) = _
      rw [up_ne (by omega)]
      exact t3 i hi
    · show vp_updL (S3.2.2.2 0) (rtc (whoS g) r) _ (rtc (whoS g) r) = _
      rw [updL_eq]
      rfl
    · have n0 : ∀ y, y < 3 → S3.2.2.2 y = S.2.2.2 y := fun y hy => f.2.2.2 y (fun z => by
        simp only [eqB, List.mem_cons, List.mem_nil_iff, or_false] at z
        omega)
      have sE : SameP S (sB (sB (sB S3 0 (vp_updL (S3.2.2.2 0) (rtc (whoS g) r) (lI (dX g r)))) 1 U) 2 V) := (s3.tr s4).tr ((SameP.B (by decide)).tr (SameP.B (by decide)))
      obtain ⟨q1, q2, q3⟩ := solX hg hr hb hc
      have sol : Sol g r (sB (sB (sB S3 0 (vp_updL (S3.2.2.2 0) (rtc (whoS g) r) (lI (dX g r)))) 1 U) 2 V) := by
        refine ⟨dX g r, NX g r, q1, q2, q3, ?_, fun w hw t => ?_, fun p hp t => ?_⟩
        · show vp_updL (S3.2.2.2 0) (rtc (whoS g) r) _ (rtc (whoS g) r) = _
          rw [updL_eq]
        · show U w = _
          rw [hU w hw, if_pos t]
        · show V p = _
          rw [hV p hp, if_pos t]
      refine h _ sE ⟨?_, ?_, ?_, fun r2 hr2 hb2 => ?_⟩ sol
      · show S3.1 4 = 1
        rw [f.1]; exact hf.1
      · show S3.1 3 = _
        rw [f.1]; exact hf.2.1
      · exact a15 S3 f
      · obtain ⟨c16, c17, c0⟩ := hf.2.2.2 r2 hr2 hb2
        refine ⟨by show S3.2.2.1 16 _ = _; rw [f.2.2.1]; exact c16, by show S3.2.2.1 17 _ = _; rw [f.2.2.1]; exact c17, ?_⟩
        by_cases er : r2 = r
        · subst er; exact Or.inr sol
        · have ne : rtc (whoS g) r2 ≠ rtc (whoS g) r := fun z => er (rtc_inj hb2 hb z)
          have e0 : (sB (sB (sB S3 0 (vp_updL (S3.2.2.2 0) (rtc (whoS g) r) (lI (dX g r)))) 1 U) 2 V).2.2.2 0 (rtc (whoS g) r2) = S.2.2.2 0 (rtc (whoS g) r2) := by
            show vp_updL (S3.2.2.2 0) (rtc (whoS g) r) _ (rtc (whoS g) r2) = _
            rw [updL_ne ne, n0 0 (by decide)]
          rcases c0 with c0 | c0
          · exact Or.inl (e0.trans c0)
          · obtain ⟨d, N, w1, w2, w3, w4, w5, w6⟩ := c0
            refine Or.inr ⟨d, N, w1, w2, w3, e0.trans w4, fun w hw t => ?_, fun p hp t => ?_⟩
            · show U w = _
              rw [hU w hw, if_neg (roots_far (by omega) (by omega) hb hb2 er t)]
              show S3.2.2.2 1 w = _
              rw [n0 1 (by decide)]
              exact w5 w hw t
            · show V p = _
              rw [hV p hp, if_neg (roots_far (by omega) (by omega) hb hb2 er t)]
              show S3.2.2.2 2 p = _
              rw [n0 2 (by decide)]
              exact w6 p hp t
  have key : ∀ m w, w + m = g.1 → ∀ S2, FrB eqB (sI (sA (sA S 18 F) 19 G) 5 (nI (kX g r))) S2 → ER (kX g r) (gA (8 * w) (CX g r (smB g r))) S2 → wX4_workOut P 14 [.ref 20, .int (nI (rtc (whoS g) r)), .int (nI w)] [] S2 := by
    intro m
    induction m with
    | zero =>
      intro w hw S2 f2 e2
      have e : w = g.1 := by omega
      subst e
      refine bX4_workOut_14 _ _ ⟨fun _ => ?_, fun c => absurd (by rw [(xb S2 f2).1]; exact nI_le (Nat.le_refl _) (by omega)) c⟩
      have e64 : ER (kX g r) (gA 64 (CX g r (smB g r))) S2 := e2.eq (fun a b ha hb' => by
        rw [show 64 = 8 * g.1 + (64 - 8 * g.1) by omega]
        refine (gA_skip (fun e h1 h2 => ?_)).symm
        rw [show e = 8 * (e / 8) + e % 8 by omega]
        refine sC_no (by omega) (by omega) (fun z => ?_) a
        unfold eg at z
        have z1 := (Bool.and_eq_true _ _ ▸ z).1
        rw [(whoS_ok hg).2.1 (e / 8) (by omega), Nat.zero_testBit] at z1
        exact absurd z1 (by decide))
      refine hasStaffE hg (xb S2 f2) hr (a16 S2 f2) (fun e => ⟨fun _ => ?_, fun z => absurd z (by decide)⟩) (fun e => ⟨fun z => absurd rfl z, fun _ => ?_⟩)
      · refine fin S2 f2 (e64.eq (fun a b ha hb' => ?_))
        rw [e]
        exact (gA_skip (m := 1) (fun e' h1 h2 => by
          have : e' = 64 := by omega
          rw [this]
          exact C64f (by omega))).symm
      · rw [e] at e64
        refine writeLeansE hg (xb S2 f2) hr (a17 S2 f2) (a19 S2 f2) hk e64 (fun S3 f3 e3 => ?_)
        rw [← e] at e3
        exact fin S3 (f2.tr f3) e3
    | succ m ih =>
      intro w hw S2 f2 e2
      have hwn : w < g.1 := by omega
      refine bX4_workOut_14 _ _ ⟨fun c => absurd ((xb S2 f2).1 ▸ c) (cnt_step hwn n8), fun _ => ⟨vp_in_nI (by omega) (by decide), ?_⟩⟩
      rw [nI_clamp (by omega), nI_1, a16 S2 f2]
      refine has_ok (cW_lt n8) (by omega) (fun e => ⟨fun z => absurd z (by decide), fun _ => ?_⟩) (fun e => ⟨fun _ => ?_, fun z => absurd rfl z⟩)
      · exact writeMarksE hg (xb S2 f2) (a15 S2 f2) (a18 S2 f2) (a19 S2 f2) hk hwn (cW_bit.mp e).2 e2 (fun S3 f3 e3 => ih (w + 1) (by omega) S3 (f2.tr f3) e3)
      · refine ih (w + 1) (by omega) S2 f2 (e2.eq (fun a b ha hb' => ?_))
        rw [show 8 * (w + 1) = 8 * w + 8 by omega]
        refine (gA_skip (fun e' h1 h2 => ?_)).symm
        rw [show e' = 8 * w + (e' - 8 * w) by omega]
        refine sC_no (by omega) (by omega) (fun z => ?_) a
        unfold eg at z
        have z2 := (Bool.and_eq_true _ _ ▸ z).2
        rw [cW_bit.mpr ⟨hwn, tdB_t.mp z2⟩] at e
        exact absurd e (by decide)
  exact key g.1 0 (by omega) S1 f1 (e1.eq (fun a b ha hb' => rfl))
theorem isToldX {P : Int32 → St → Prop} {S : St} {g : Sg} (hg : Wf g) (hx : XB g S) (hf : XPf Sol g S) {r : Nat} (hr : r < g.1) (hb : rtB (whoS g) r = true) (h0 : 10 < nWk g r + nPu g r → P 0 S) (h1 : ∀ S1, nWk g r + nPu g r ≤ 10 → SameP S S1 → XPf Sol g S1 → Sol g r S1 → P 1 S1) : tX4_isTold (nI (rtc (whoS g) r)) S P := by
  have n8 := hg.1.2
  have rl := rtc_le (whoS g) r
  have sz := size_eq (g := g) (r := r) (by omega) (rtB_t.mp hb).1
  have nz : ∀ S1, Sol g r S1 → ¬ S1.2.2.2 0 (rtc (whoS g) r) = 0 := fun S1 s z => by
    obtain ⟨d, N, w1, w2, w3, w4, _⟩ := s
    rw [w4, show (0 : Int64) = lI 0 from rfl, lI_inj (by have := w1.1; omega) (by omega) (by decide) (by decide)] at z
    have := w1.1
    omega
  refine bX4_isTold_0 _ (isLargeX hg hf hr hb ?_)
  cases e : lgB g r with
  | true =>
    refine ⟨fun z => absurd z (by decide), fun _ => h0 ?_⟩
    unfold lgB at e
    rw [sz] at e
    exact of_decide_eq_true e
  | false =>
    have sm : nWk g r + nPu g r ≤ 10 := by
      unfold lgB at e
      rw [sz] at e
      have := of_decide_eq_false e
      omega
    refine ⟨fun _ => ⟨vp_in_nI (by omega) (by decide), ?_⟩, fun z => absurd rfl z⟩
    rw [nI_clamp (by omega)]
    refine ⟨fun c => ⟨fun z => absurd z c, fun _ => ?_⟩, fun c => ?_⟩
    · obtain ⟨_, _, c0⟩ := hf.2.2.2 r hr hb
      rcases c0 with c0 | c0
      · exact absurd (lg_eq.mpr c0) c
      · exact h1 S sm (SameP.rf _) hf c0
    · refine workOutX hg hx hf hr hb sm (fun S1 s1 f1 o1 => ⟨fun z => absurd (lg_eq.mp z) (nz S1 o1), fun _ => h1 S1 sm s1 f1 o1⟩)
