/-! ===== the class gives slots ===== -/
noncomputable abbrev prX (g : Sg) (r : Nat) : Nat → Bool := fun t => uB g r 16 (knX t)
theorem prX_w (g : Sg) (r i : Nat) : prX g r (2 * i) = uB g r 16 i := by
  show uB g r 16 (knX (2 * i)) = _
  unfold knX
  rw [if_pos (by omega), show 2 * i / 2 = i by omega]
theorem prX_p (g : Sg) (r i : Nat) : prX g r (2 * i + 1) = uB g r 16 (8 + i) := by
  show uB g r 16 (knX (2 * i + 1)) = _
  unfold knX
  rw [if_neg (by omega), show (2 * i + 1) / 2 = i by omega]
noncomputable def wSl (g : Sg) (r i : Nat) : Int32 := if uB g r 16 i = true then nI (rkc (prX g r) (2 * i)) else -1
noncomputable def lSl (g : Sg) (r i : Nat) : Int32 := if uB g r 16 (8 + i) = true then nI (rkc (prX g r) (2 * i + 1)) else -1
theorem out_w {g : Sg} (hg : Wf g) {r z : Nat} (hr : r < g.1) (hz : g.1 ≤ z) (h8 : z < 8) : ¬ Tied (whoS g) r z := fun t => by
  have := Tied.lone ((whoS_ok hg).2.1 z hz) h8 t.sy
  omega
theorem out_p {g : Sg} (hg : Wf g) {r p : Nat} (hr : r < g.1) (hz : g.1 ≤ p) (h8 : p < 8) : ¬ Tied (whoS g) r (8 + p) := fun t => by
  have n8 := hg.1.2
  have := Tied.loneP h8 (fun w _ => by
    cases e : (whoS g w).testBit p with
    | false => rfl
    | true => have := (whoS_ok hg).2.2.1 w p e; omega) t.sy
  omega
theorem kX_n {g : Sg} (hg : Wf g) {r : Nat} (hr : r < g.1) : rkc (prX g r) (2 * g.1) = kX g r := by
  have key : ∀ d, 2 * g.1 + d ≤ 16 → rkc (prX g r) (2 * g.1 + d) = rkc (prX g r) (2 * g.1) := by
    intro d
    induction d with
    | zero => intro _; rfl
    | succ d ih =>
      intro hd
      show rkc (prX g r) (2 * g.1 + d) + (if prX g r (2 * g.1 + d) then 1 else 0) = _
      rw [ih (by omega), if_neg (fun c => ?_)]
      · rfl
      · have t := (uB_t.mp c).1
        unfold knX at t
        split at t
        · exact out_w hg hr (by omega) (by omega) t
        · exact out_p hg hr (by omega) (by omega) t
  have := key (16 - 2 * g.1) (by have := hg.1.2; omega)
  rw [show 2 * g.1 + (16 - 2 * g.1) = 16 by have := hg.1.2; omega] at this
  exact this.symm
theorem giveSlotsX {P : Int32 → St → Prop} {S : St} {g : Sg} {Sol : Sg → Nat → St → Prop} (hg : Wf g) (hx : XB g S) (hf : XPf Sol g S) {r : Nat} (hr : r < g.1) (hb : rtB (whoS g) r = true) (h : ∀ F G : Nat → Int32, (∀ i, i < g.1 → F i = wSl g r i) → (∀ i, i < g.1 → G i = lSl g r i) → P (nI (kX g r)) (sA (sA S 18 F) 19 G)) : tX4_giveSlots (nI (rtc (whoS g) r)) S P := by
  have h8 := hg.1.2
  have rl := rtc_le (whoS g) r
  obtain ⟨p16, p17, _⟩ := hf.2.2.2 r hr hb
  refine bX4_giveSlots_0 _ ?_
  have key : ∀ k i, i + k = g.1 → ∀ F G : Nat → Int32, (∀ y, y < i → F y = wSl g r y) → (∀ y, y < i → G y = lSl g r y) → wX4_giveSlots P 4 [.ref 20, .int (nI (rtc (whoS g) r)), .int (nI (rkc (prX g r) (2 * i))), .int (nI i)] [] (sA (sA S 18 F) 19 G) := by
    intro k
    induction k with
    | zero =>
      intro i hi F G f1 g1
      have e : i = g.1 := by omega
      subst e
      refine bX4_giveSlots_4 _ _ _ ⟨fun _ => ?_, fun c => absurd (by show S.1 0 ≤ _; rw [hx.1]; exact nI_le (Nat.le_refl _) (by omega)) c⟩
      rw [kX_n hg hr]
      exact h F G f1 g1
    | succ k ih =>
      intro i hi F G f1 g1
      have hin : i < g.1 := by omega
      refine bX4_giveSlots_4 _ _ _ ⟨fun c => absurd (show nI g.1 ≤ nI i from hx.1 ▸ c) (cnt_step hin h8), fun _ => ⟨ii hin h8, vp_in_nI (by omega) (by decide), ?_⟩⟩
      rw [nI_clamp (by omega), nI_clamp (by omega)]
      have e16 : (sA (sA S 18 F) 19 G).2.2.1 16 (rtc (whoS g) r) = nI (cW (whoS g) g.1 r) := p16
      rw [e16]
      -- the end of a turn
      have fin : ∀ (a b : Int32) (x : Nat), a = wSl g r i → b = lSl g r i → x = rkc (prX g r) (2 * (i + 1)) → ∀ S2 : St, S2 = sA (sA S 18 (upd F i a)) 19 (upd G i b) → wX4_giveSlots P 4 [.ref 20, .int (nI (rtc (whoS g) r)), .int (nI x), .int (nI (i + 1))] [] S2 := fun a b x ha hb' hx' S2 e2 => by
        subst e2
        subst hx'
        refine ih (i + 1) (by omega) _ _ (fun y hy => ?_) (fun y hy => ?_)
        · by_cases z : y = i
          · subst z; rw [upd_eq, ha]
          · rw [upd_ne z]; exact f1 y (by omega)
        · by_cases z : y = i
          · subst z; rw [upd_eq, hb']
          · rw [upd_ne z]; exact g1 y (by omega)
      have s2 : rkc (prX g r) (2 * (i + 1)) = rkc (prX g r) (2 * i) + (if uB g r 16 i = true then 1 else 0) + (if uB g r 16 (8 + i) = true then 1 else 0) := by
        rw [show 2 * (i + 1) = 2 * i + 1 + 1 by omega]
        show rkc (prX g r) (2 * i) + (if prX g r (2 * i) = true then 1 else 0) + (if prX g r (2 * i + 1) = true then 1 else 0) = _
        rw [prX_w, prX_p]
      have s1 : rkc (prX g r) (2 * i + 1) = rkc (prX g r) (2 * i) + (if uB g r 16 i = true then 1 else 0) := by
        show rkc (prX g r) (2 * i) + (if prX g r (2 * i) = true then 1 else 0) = _
        rw [prX_w]
      have bW : (cW (whoS g) g.1 r).testBit i = true ↔ Tied (whoS g) r i := cW_bit.trans ⟨fun z => z.2, fun z => ⟨hin, z⟩⟩
      have bM : (cM (whoS g) g.1 r).testBit i = true ↔ uB g r 16 (8 + i) = true := cM_bit.trans (by
        rw [uB_t]
        exact ⟨fun z => ⟨z.2, by omega, Or.inl (by omega)⟩, fun z => ⟨hin, z.1⟩⟩)
      have base : sA (sA (sA (sA S 18 F) 19 G) 18 (upd ((sA (sA S 18 F) 19 G).2.2.1 18) i (-1))) 19 (upd ((sA (sA S 18 F) 19 G).2.2.1 19) i (-1)) = sA (sA S 18 (upd F i (-1))) 19 (upd G i (-1)) := by
        show sA (sA (sA (sA S 18 F) 19 G) 18 (upd F i (-1))) 19 (upd G i (-1)) = _
        rw [sA_comm (sA S 18 F) (by decide), sA_same, sA_same]
      have up2 : ∀ (f : Nat → Int32) (a b : Int32), upd (upd f i a) i b = upd f i b := fun f a b => by
        funext y
        by_cases z : y = i
        · subst z; rw [upd_eq, upd_eq]
        · rw [upd_ne z, upd_ne z, upd_ne z]
      rw [base]
      have e17 : ∀ F G : Nat → Int32, (sA (sA S 18 F) 19 G).2.2.1 17 (rtc (whoS g) r) = nI (cM (whoS g) g.1 r) := fun _ _ => p17
      have e10 : ∀ F G : Nat → Int32, (sA (sA S 18 F) 19 G).2.2.1 10 i = g.2.2.2.2 i := fun _ _ => hx.2.2.2.2 i (by omega)
      -- no slot for the work
      have noW : ¬ uB g r 16 i = true → tX6_has (nI (cM (whoS g) g.1 r)) (nI i) (sA (sA S 18 (upd F i (-1))) 19 (upd G i (-1))) (fun r6 S5 => ((r6 = 0 → wX4_giveSlots P 4 [.ref 20, .int (nI (rtc (whoS g) r)), .int (nI (rkc (prX g r) (2 * i))), .int (nI (i + 1))] [] S5) ∧ (¬ r6 = 0 → wX4_giveSlots P 4 [.ref 20, .int (nI (rtc (whoS g) r)), .int (nI (rkc (prX g r) (2 * i) + 1)), .int (nI (i + 1))] [] (sA S5 19 (upd (S5.2.2.1 19) i (nI (rkc (prX g r) (2 * i)))))))) := fun nw => by
        rw [if_neg nw] at s1 s2
        refine has_ok (cM_lt h8) (by omega) (fun e => ⟨fun z => absurd z (by decide), fun _ => ?_⟩) (fun e => ⟨fun _ => ?_, fun z => absurd rfl z⟩)
        · have u := bM.mp e
          rw [if_pos u] at s2
          refine fin (-1) (nI (rkc (prX g r) (2 * i))) _ (if_neg nw).symm ?_ (by omega) _ ?_
          · unfold lSl
            rw [if_pos u, s1]
            rfl
          · show sA (sA (sA S 18 (upd F i (-1))) 19 (upd G i (-1))) 19 (upd (upd G i (-1)) i _) = _
            rw [sA_same, up2]
        · have u : ¬ uB g r 16 (8 + i) = true := fun z => by rw [bM.mpr z] at e; exact absurd e (by decide)
          rw [if_neg u] at s2
          exact fin (-1) (-1) _ (if_neg nw).symm (if_neg u).symm (by omega) _ rfl
      rw [nI_1, nI_1, nI_1]
      refine has_ok (cW_lt h8) (by omega) (fun e => ⟨fun z => absurd z (by decide), fun _ => ?_⟩) (fun e => ⟨fun _ => ?_, fun z => absurd rfl z⟩)
      · have t := bW.mp e
        rw [e10, e17]
        refine ⟨fun c => noW (fun z => ?_), fun c => ?_⟩
        · rcases (uB_t.mp z).2.2 with y | y
          · omega
          · exact c y
        · have uw : uB g r 16 i = true := uB_t.mpr ⟨t, by omega, Or.inr c⟩
          rw [if_pos uw] at s1 s2
          have e17b : (sA (sA (sA S 18 (upd F i (-1))) 19 (upd G i (-1))) 18 (upd ((sA (sA S 18 (upd F i (-1))) 19 (upd G i (-1))).2.2.1 18) i (nI (rkc (prX g r) (2 * i))))) = sA (sA S 18 (upd F i (nI (rkc (prX g r) (2 * i))))) 19 (upd G i (-1)) := by
            show sA (sA (sA S 18 (upd F i (-1))) 19 (upd G i (-1))) 18 (upd (upd F i (-1)) i _) = _
            rw [up2, sA_comm (sA S 18 (upd F i (-1))) (by decide), sA_same]
          rw [e17b]
          refine has_ok (cM_lt h8) (by omega) (fun e2 => ⟨fun z => absurd z (by decide), fun _ => ?_⟩) (fun e2 => ⟨fun _ => ?_, fun z => absurd rfl z⟩)
          · have u := bM.mp e2
            rw [if_pos u] at s2
            refine fin (nI (rkc (prX g r) (2 * i))) (nI (rkc (prX g r) (2 * i) + 1)) _ (if_pos uw).symm ?_ (by omega) _ ?_
            · unfold lSl
              rw [if_pos u, s1]
            · show sA (sA (sA S 18 _) 19 (upd G i (-1))) 19 (upd (upd G i (-1)) i _) = _
              rw [sA_same, up2]
          · have u : ¬ uB g r 16 (8 + i) = true := fun z => by rw [bM.mpr z] at e2; exact absurd e2 (by decide)
            rw [if_neg u] at s2
            exact fin _ (-1) _ (if_pos uw).symm (if_neg u).symm (by omega) _ rfl
      · rw [e17]
        exact noW (fun z => by rw [bW.mpr (uB_t.mp z).1] at e; exact absurd e (by decide))
  have h0 := key g.1 0 (by omega) (S.2.2.1 18) ((sA S 18 (S.2.2.1 18)).2.2.1 19) (fun y hy => by omega) (fun y hy => by omega)
  rw [sA_self, sA_self] at h0
  exact h0
