/-! ===== the class reads the tops ===== -/
theorem topOfE {P : Int64 → St → Prop} {S : St} {k i : Nat} (h5 : S.1 5 = nI k) (hi : i < k) (hk : k ≤ 10) (h : P (S.2.2.2 (3 + i) k) S) : tX0_topOf (nI i) S P := by
  refine bX0_topOf_0 _ (holdsE h5 hi hk ⟨fun z => absurd z (by decide), fun _ => ⟨vp_in_nI (by omega) (by decide), by rw [h5]; exact vp_in_nI (by omega) (by decide), ?_⟩⟩)
  rw [nI_clamp (by omega), h5, nI_clamp (by omega)]
  exact h
noncomputable abbrev dX (g : Sg) (r : Nat) : Int := sD g r (smB g r) (kX g r) (ndX g r)
noncomputable abbrev NX (g : Sg) (r : Nat) : Nat → Int := sN g r (smB g r) (kX g r) (ndX g r)
theorem NX_slot {g : Sg} {r z : Nat} (hz : z < 16) (hu : uB g r 16 z = true) : NX g r z = gV (kX g r) 65 (CX g r (smB g r)) (kX g r) (slX g r z) (kX g r) := by
  have s := ndX_sl hz hu
  show sN g r (smB g r) (kX g r) (ndX g r) z = _
  unfold sN
  have e : nX (kX g r) (ndX g r) (sT g r (smB g r) (kX g r) (ndX g r)) z = sT g r (smB g r) (kX g r) (ndX g r) (slX g r z) := by
    have := nX_at (x := sT g r (smB g r) (kX g r) (ndX g r)) (slotsX g r).1.2 s.1
    rw [s.2] at this
    exact this
  rw [e]
  unfold sT
  rw [if_pos s.1]
  by_cases c : z < 8
  · have st : stf g z = 0 := by
      rcases (uB_t.mp hu).2.2 with y | y
      · omega
      · exact if_pos y
    rw [if_pos c, st, Int.zero_mul, Int.add_zero]
  · rw [if_neg c, Int.add_zero]
theorem NX_staff {g : Sg} {r z : Nat} (hz : z < 8) (hs : g.2.2.2.2 z ≠ -1) : NX g r z = (g.2.2.2.2 z).toInt * dX g r := by
  show sN g r (smB g r) (kX g r) (ndX g r) z = _
  unfold sN
  rw [nX_out (fun j hj e => hs (e ▸ (slotsX g r).2.2 j hj |>.2 (e ▸ hz))), if_pos hz, Int.zero_add]
  unfold stf
  rw [if_neg hs]
theorem sB_12 (S : St) (F G F2 : Nat → Int64) : sB (sB (sB S 1 F) 2 G) 1 F2 = sB (sB S 1 F2) 2 G := by
  refine Prod.ext rfl (Prod.ext rfl (Prod.ext rfl (funext (fun j => ?_))))
  show va_up (va_up (va_up S.2.2.2 1 F) 2 G) 1 F2 j = va_up (va_up S.2.2.2 1 F2) 2 G j
  by_cases a : j = 1
  · subst a
    rw [up_eq, up_ne (by decide), up_eq]
  · rw [up_ne a]
    by_cases b : j = 2
    · subst b; rw [up_eq, up_eq]
    · rw [up_ne b, up_ne b, up_ne a, up_ne a]
theorem readTopsE {P : St → Prop} {S : St} {g : Sg} {r : Nat} (hg : Wf g) (hx : XB g S) (hr : r < g.1) (h16 : S.2.2.1 16 (rtc (whoS g) r) = nI (cW (whoS g) g.1 r)) (h17 : S.2.2.1 17 (rtc (whoS g) r) = nI (cM (whoS g) g.1 r)) (h18 : ∀ i, i < g.1 → S.2.2.1 18 i = wSl g r i) (h19 : ∀ i, i < g.1 → S.2.2.1 19 i = lSl g r i) (hk : kX g r ≤ 10) (h5 : S.1 5 = nI (kX g r)) (hT : ∀ i, i < kX g r → S.2.2.2 (3 + i) (kX g r) = lI (gV (kX g r) 65 (CX g r (smB g r)) (kX g r) i (kX g r))) (hD : S.2.2.2 0 (rtc (whoS g) r) = lI (dX g r)) (h : ∀ F G : Nat → Int64, (∀ i, i < 8 → F i = if tdB (whoS g) r i = true then lI (NX g r i) else S.2.2.2 1 i) → (∀ i, i < 8 → G i = if tdB (whoS g) r (8 + i) = true then lI (NX g r (8 + i)) else S.2.2.2 2 i) → P (sB (sB S 1 F) 2 G)) : tX4_readTops (nI (rtc (whoS g) r)) S P := by
  have n8 := hg.1.2
  have rl := rtc_le (whoS g) r
  refine bX4_readTops_0 _ ?_
  have key : ∀ m i, i + m = g.1 → ∀ F G : Nat → Int64, (∀ y, y < 8 → F y = if y < i ∧ tdB (whoS g) r y = true then lI (NX g r y) else S.2.2.2 1 y) → (∀ y, y < 8 → G y = if y < i ∧ tdB (whoS g) r (8 + y) = true then lI (NX g r (8 + y)) else S.2.2.2 2 y) → wX4_readTops P 2 [.ref 20, .int (nI (rtc (whoS g) r)), .int (nI i), .retAddr 0] [] (sB (sB S 1 F) 2 G) := by
    intro m
    induction m with
    | zero =>
      intro i hi F G f1 g1
      have e : i = g.1 := by omega
      subst e
      refine bX4_readTops_2 _ _ ⟨fun _ => h F G (fun y hy => ?_) (fun y hy => ?_), fun c => absurd (by show S.1 0 ≤ _; rw [hx.1]; exact nI_le (Nat.le_refl _) (by omega)) c⟩
      · rw [f1 y hy]
        by_cases t : tdB (whoS g) r y = true
        · have yc : y < g.1 := by
            by_cases c : y < g.1
            · exact c
            · exact absurd (tdB_t.mp t) (out_w hg hr (by omega) hy)
          rw [if_pos t, if_pos ⟨yc, t⟩]
        · rw [if_neg t, if_neg (fun z => t z.2)]
      · rw [g1 y hy]
        by_cases t : tdB (whoS g) r (8 + y) = true
        · have yc : y < g.1 := by
            by_cases c : y < g.1
            · exact c
            · exact absurd (tdB_t.mp t) (out_p hg hr (by omega) hy)
          rw [if_pos t, if_pos ⟨yc, t⟩]
        · rw [if_neg t, if_neg (fun z => t z.2)]
    | succ m ih =>
      intro i hi F G f1 g1
      have hin : i < g.1 := by omega
      -- what stands after a turn
      have fin : ∀ F2 G2 : Nat → Int64, (∀ y, y ≠ i → F2 y = F y) → (∀ y, y ≠ i → G2 y = G y) → F2 i = (if tdB (whoS g) r i = true then lI (NX g r i) else S.2.2.2 1 i) → G2 i = (if tdB (whoS g) r (8 + i) = true then lI (NX g r (8 + i)) else S.2.2.2 2 i) → wX4_readTops P 2 [.ref 20, .int (nI (rtc (whoS g) r)), .int (nI (i + 1)), .retAddr 0] [] (sB (sB S 1 F2) 2 G2) := fun F2 G2 a1 a2 b1 b2 => by
        refine ih (i + 1) (by omega) F2 G2 (fun y hy => ?_) (fun y hy => ?_)
        · by_cases z : y = i
          · subst z
            rw [b1]
            by_cases t : tdB (whoS g) r y = true
            · rw [if_pos t, if_pos ⟨by omega, t⟩]
            · rw [if_neg t, if_neg (fun z => t z.2)]
          · rw [a1 y z, f1 y hy]
            by_cases t : y < i ∧ tdB (whoS g) r y = true
            · rw [if_pos t, if_pos ⟨by omega, t.2⟩]
            · rw [if_neg t, if_neg (fun x => t ⟨by omega, x.2⟩)]
        · by_cases z : y = i
          · subst z
            rw [b2]
            by_cases t : tdB (whoS g) r (8 + y) = true
            · rw [if_pos t, if_pos ⟨by omega, t⟩]
            · rw [if_neg t, if_neg (fun z => t z.2)]
          · rw [a2 y z, g1 y hy]
            by_cases t : y < i ∧ tdB (whoS g) r (8 + y) = true
            · rw [if_pos t, if_pos ⟨by omega, t.2⟩]
            · rw [if_neg t, if_neg (fun x => t ⟨by omega, x.2⟩)]
      have hB : ∀ (F2 : Nat → Int64) x y, (sB (sB S 1 F2) 2 G).2.2.2 (3 + x) y = S.2.2.2 (3 + x) y := fun F2 x y => by
        show va_up (va_up S.2.2.2 1 F2) 2 G (3 + x) y = _
        rw [up_ne (by omega), up_ne (by omega)]
      have fi : F i = S.2.2.2 1 i := by rw [f1 i (by omega), if_neg (fun z => by omega)]
      have gi : G i = S.2.2.2 2 i := by rw [g1 i (by omega), if_neg (fun z => by omega)]
      have tW : (cW (whoS g) g.1 r).testBit i = true ↔ tdB (whoS g) r i = true := cW_bit.trans ⟨fun z => tdB_t.mpr z.2, fun z => ⟨hin, tdB_t.mp z⟩⟩
      have tM : (cM (whoS g) g.1 r).testBit i = true ↔ tdB (whoS g) r (8 + i) = true := cM_bit.trans ⟨fun z => tdB_t.mpr z.2, fun z => ⟨hin, tdB_t.mp z⟩⟩
      -- the lean of pupil i
      have lean : ∀ F2 : Nat → Int64, (∀ y, y ≠ i → F2 y = F y) → F2 i = (if tdB (whoS g) r i = true then lI (NX g r i) else S.2.2.2 1 i) → tdB (whoS g) r (8 + i) = true → tX0_topOf (S.2.2.1 19 i) (sB (sB S 1 F2) 2 G) (fun r8 S7 => wX4_readTops P 2 [.ref 20, .int (nI (rtc (whoS g) r)), .int (nI (i + 1)), .retAddr 0] [] (sB S7 2 (vp_updL (S7.2.2.2 2) i r8))) := fun F2 a1 b1 t => by
        have u : uB g r 16 (8 + i) = true := uB_t.mpr ⟨tdB_t.mp t, by omega, Or.inl (by omega)⟩
        have s := ndX_sl (g := g) (r := r) (z := 8 + i) (by omega) u
        rw [h19 i hin, lSl_sl, if_pos u]
        refine topOfE (k := kX g r) h5 s.1 hk ?_
        rw [sB_same]
        refine fin F2 _ a1 (fun y hy => ?_) b1 ?_
        · show vp_updL G i _ y = _
          rw [updL_ne hy]
        · rw [updL_eq, hB, hT _ s.1, if_pos t, NX_slot (by omega) u]
      have noL : ∀ F2 : Nat → Int64, (∀ y, y ≠ i → F2 y = F y) → F2 i = (if tdB (whoS g) r i = true then lI (NX g r i) else S.2.2.2 1 i) → ¬ tdB (whoS g) r (8 + i) = true → wX4_readTops P 2 [.ref 20, .int (nI (rtc (whoS g) r)), .int (nI (i + 1)), .retAddr 0] [] (sB (sB S 1 F2) 2 G) := fun F2 a1 b1 t => fin F2 G a1 (fun _ _ => rfl) b1 (by rw [gi, if_neg t])
      have fls : ∀ {x : Bool}, x = false → ¬ x = true := fun e z => by rw [e] at z; exact absurd z (by decide)
      refine bX4_readTops_2 _ _ ⟨fun c => absurd (show nI g.1 ≤ nI i from hx.1 ▸ c) (cnt_step hin n8), fun _ => ⟨vp_in_nI (by omega) (by decide), ?_⟩⟩
      rw [nI_clamp (by omega), nI_clamp (by omega), nI_1]
      rw [show (sB (sB S 1 F) 2 G).2.2.1 16 (rtc (whoS g) r) = nI (cW (whoS g) g.1 r) from h16]
      refine has_ok (cW_lt n8) (by omega) (fun e => ⟨fun z => absurd z (by decide), fun _ => ⟨ii hin n8, ?_⟩⟩) (fun e => ⟨fun _ => ?_, fun z => absurd rfl z⟩)
      · have t := tW.mp e
        have e18 : (sB (sB S 1 F) 2 G).2.2.1 18 i = wSl g r i := h18 i hin
        rw [wSl_sl (by omega)] at e18
        refine ⟨fun c => ?_, fun c => ?_⟩
        · have uw : uB g r 16 i = true := by
            by_cases z : uB g r 16 i = true
            · exact z
            · rw [if_neg z] at e18; exact absurd e18 c
          rw [if_pos uw] at e18
          have s := ndX_sl (g := g) (r := r) (z := i) (by omega) uw
          rw [e18]
          refine topOfE (k := kX g r) h5 s.1 hk ?_
          rw [show (sB (sB S 1 F) 2 G).2.2.1 17 (rtc (whoS g) r) = nI (cM (whoS g) g.1 r) from h17, sB_12]
          have a1 : ∀ y, y ≠ i → vp_updL ((sB (sB S 1 F) 2 G).2.2.2 1) i ((sB (sB S 1 F) 2 G).2.2.2 (3 + slX g r i) (kX g r)) y = F y := fun y hy => by
            rw [updL_ne hy]
            rfl
          have b1 : vp_updL ((sB (sB S 1 F) 2 G).2.2.2 1) i ((sB (sB S 1 F) 2 G).2.2.2 (3 + slX g r i) (kX g r)) i = (if tdB (whoS g) r i = true then lI (NX g r i) else S.2.2.2 1 i) := by
            rw [updL_eq, if_pos t, NX_slot (by omega) uw]
            rw [hB]
            exact hT _ s.1
          refine has_ok (cM_lt n8) (by omega) (fun e2 => ⟨fun z => absurd z (by decide), fun _ => ?_⟩) (fun e2 => ⟨fun _ => ?_, fun z => absurd rfl z⟩)
          · exact lean _ a1 b1 (tM.mp e2)
          · exact noL _ a1 b1 (fun z => fls e2 (tM.mpr z))
        · have uw : ¬ uB g r 16 i = true := fun z => by
            rw [if_pos z] at e18
            have := congrArg Int32.toInt (e18.symm.trans c)
            rw [nI_toInt (by have := (ndX_sl (g := g) (r := r) (z := i) (by omega) z).1; omega), show (-1 : Int32).toInt = -1 from rfl] at this
            omega
          have st : g.2.2.2.2 i ≠ -1 := fun z => uw (uB_t.mpr ⟨tdB_t.mp t, by omega, Or.inr z⟩)
          rw [show (sB (sB S 1 F) 2 G).2.2.1 17 (rtc (whoS g) r) = nI (cM (whoS g) g.1 r) from h17, sB_12]
          have a1 : ∀ y, y ≠ i → vp_updL ((sB (sB S 1 F) 2 G).2.2.2 1) i (((sB (sB S 1 F) 2 G).2.2.1 10 i).toInt64 * (sB (sB S 1 F) 2 G).2.2.2 0 (rtc (whoS g) r)) y = F y := fun y hy => by
            rw [updL_ne hy]
            rfl
          have b1 : vp_updL ((sB (sB S 1 F) 2 G).2.2.2 1) i (((sB (sB S 1 F) 2 G).2.2.1 10 i).toInt64 * (sB (sB S 1 F) 2 G).2.2.2 0 (rtc (whoS g) r)) i = (if tdB (whoS g) r i = true then lI (NX g r i) else S.2.2.2 1 i) := by
            rw [updL_eq, if_pos t, NX_staff (by omega) st]
            show (S.2.2.1 10 i).toInt64 * S.2.2.2 0 (rtc (whoS g) r) = _
            rw [hx.2.2.2.2 i (by omega), hD, i_toI64, lI_mul]
          refine has_ok (cM_lt n8) (by omega) (fun e2 => ⟨fun z => absurd z (by decide), fun _ => ?_⟩) (fun e2 => ⟨fun _ => ?_, fun z => absurd rfl z⟩)
          · exact lean _ a1 b1 (tM.mp e2)
          · exact noL _ a1 b1 (fun z => fls e2 (tM.mpr z))
      · have b1 : F i = (if tdB (whoS g) r i = true then lI (NX g r i) else S.2.2.2 1 i) := by
          rw [fi, if_neg (fun z => fls e (tW.mpr z))]
        rw [show (sB (sB S 1 F) 2 G).2.2.1 17 (rtc (whoS g) r) = nI (cM (whoS g) g.1 r) from h17]
        refine has_ok (cM_lt n8) (by omega) (fun e2 => ⟨fun z => absurd z (by decide), fun _ => ⟨ii hin n8, ?_⟩⟩) (fun e2 => ⟨fun _ => ?_, fun z => absurd rfl z⟩)
        · exact lean F (fun _ _ => rfl) b1 (tM.mp e2)
        · exact noL F (fun _ _ => rfl) b1 (fun z => fls e2 (tM.mpr z))
  have h0 := key g.1 0 (by omega) (S.2.2.2 1) ((sB S 1 (S.2.2.2 1)).2.2.2 2) (fun y hy => by rw [if_neg (fun z => by omega)]) (fun y hy => by rw [if_neg (fun z => by omega)]; rfl)
  rw [sB_self, sB_self] at h0
  exact h0
