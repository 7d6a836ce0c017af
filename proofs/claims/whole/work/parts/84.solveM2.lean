/-! ===== the reference solves a piece ===== -/
noncomputable abbrev dM (g : Sg) (r sk : Nat) : Int := sD g r false (kM g r sk) (ndM g r sk)
noncomputable abbrev NM (g : Sg) (r sk : Nat) : Nat → Int := sN g r false (kM g r sk) (ndM g r sk)
theorem NM_slot {g : Sg} {r sk z : Nat} (hz : z < 16) (hu : uB g r sk z = true) : NM g r sk z = gV (kM g r sk) 65 (CM g r sk) (kM g r sk) (slM g r sk z) (kM g r sk) := by
  have s := ndM_sl hz hu
  show sN g r false (kM g r sk) (ndM g r sk) z = _
  unfold sN
  have e : nX (kM g r sk) (ndM g r sk) (sT g r false (kM g r sk) (ndM g r sk)) z = sT g r false (kM g r sk) (ndM g r sk) (slM g r sk z) := by
    have := nX_at (x := sT g r false (kM g r sk) (ndM g r sk)) (slotsM g r sk).1.2 s.1
    rw [s.2] at this
    exact this
  rw [e]
  unfold sT
  rw [if_pos s.1]
  by_cases c : z < 8
  · have st : stf g z = 0 := by
      rcases (uB_t.mp hu).2.2 with y | y
      · omega
      · exact if_pos y
    rw [if_pos c, st, Int.zero_mul, Int.add_zero]
  · rw [if_neg c, Int.add_zero]
theorem NM_no {g : Sg} {r sk z : Nat} (hu : ¬ uB g r sk z = true) : NM g r sk z = if z < 8 then stf g z * dM g r sk else 0 := by
  show sN g r false (kM g r sk) (ndM g r sk) z = _
  unfold sN
  rw [nX_out (fun j hj e => ndM_no hu hj e), Int.zero_add]
noncomputable abbrev lsM (g : Sg) (r sk k : Nat) : Int := isum (fun p => ind (tdB (whoS g) r (8 + p)) (NM g r sk (8 + p))) (k - 8)
theorem lsM_lo {g : Sg} {r sk k : Nat} (h : k < 8) : lsM g r sk (k + 1) = lsM g r sk k := by
  show isum _ (k + 1 - 8) = isum _ (k - 8)
  rw [show k + 1 - 8 = k - 8 by omega]
theorem lsM_hi {g : Sg} {r sk k : Nat} (h : 8 ≤ k) : lsM g r sk (k + 1) = lsM g r sk k + ind (tdB (whoS g) r k) (NM g r sk k) := by
  show isum _ (k + 1 - 8) = isum _ (k - 8) + _
  rw [show k + 1 - 8 = k - 8 + 1 by omega]
  show isum _ (k - 8) + ind (tdB (whoS g) r (8 + (k - 8))) (NM g r sk (8 + (k - 8))) = _
  rw [show 8 + (k - 8) = k by omega]
theorem l0 (a : Int64) : a + 0 = a := Int64.add_zero a
theorem solve234 {P : Int32 → St → Prop} {S : St} {g : Sg} {r sk : Nat} {x2 x3 x4 : Int32} (hg : Wf g) (hx : MB g S) (hl : L30 g S) (h31 : A31 g r sk S) (hr : r < g.1) (hb : rtB (whoS g) r = true) (hk : kM g r sk ≤ 10) (hJ : S.2.1 0 = lI (dM g r sk)) (hC : ∀ i, i < kM g r sk → S.2.2.2 14 (11 * i + 10) = lI (gV (kM g r sk) 65 (CM g r sk) (kM g r sk) i (kM g r sk))) (h : ∀ U : Nat → Int64, (∀ z, z < 16 → U z = lI (NM g r sk z)) → ((¬ x2 = 0 → P 1 (sB S 15 U)) ∧ (x2 = 0 → wX7_solve P 360 [.ref 47, .int (nI r), .int x2, .int x3, .int x4, .long (lI (lsM g r sk 16)), .retAddr 0, .int 0] [] (sB S 15 U)))) : wX7_solve P 234 [.ref 47, .int (nI r), .int x2, .int x3, .int x4, .long 0, .retAddr 0, .int 0] [] S := by
  have n8 := hg.1.2
  have hrl := (rtB_t.mp hb).1
  have key : ∀ m k, k + m = 16 → ∀ U : Nat → Int64, (∀ z, z < k → U z = lI (NM g r sk z)) → wX7_solve P 234 [.ref 47, .int (nI r), .int x2, .int x3, .int x4, .long (lI (lsM g r sk k)), .retAddr 0, .int (nI k)] [] (sB S 15 U) := by
    intro m
    induction m with
    | zero =>
      intro k hk U hU
      have e : k = 16 := by omega
      subst e
      exact bX7_solve_234 _ _ _ _ _ _ ⟨fun _ => h U hU, fun c => absurd (show (16 : Int32) ≤ nI 16 by decide) c⟩
    | succ m ih =>
      intro k hk' U hU
      have hk16 : k < 16 := by omega
      have hl2 : L30 g (sB S 15 U) := fun x hx => hl x hx
      have td := lab_td hl2 (by omega) hk16 hrl
      have nx : ∀ (v x : Int64), v = lI (NM g r sk k) → x = lI (lsM g r sk (k + 1)) → wX7_solve P 234 [.ref 47, .int (nI r), .int x2, .int x3, .int x4, .long x, .retAddr 0, .int (nI (k + 1))] [] (sB S 15 (vp_updL U k v)) := fun v x hv hx' => by
        rw [hx']
        refine ih (k + 1) (by omega) _ (fun z hz => ?_)
        by_cases c : z = k
        · subst c; rw [updL_eq, hv]
        · rw [updL_ne c]; exact hU z (by omega)
      have sm : ∀ v, sB (sB S 15 U) 15 (vp_updL ((sB S 15 U).2.2.2 15) k v) = sB S 15 (vp_updL U k v) := fun v => sB_same S 15 U _
      have e31 : (sB S 15 U).2.2.1 31 k = if uB g r sk k = true then nI (slM g r sk k) else -1 := h31 k hk16
      refine bX7_solve_234 _ _ _ _ _ _ ⟨fun c => absurd c (nI_ge (a := k) (b := 16) hk16 (by decide)), fun _ => ⟨vp_in_nI hk16 (by decide), ?_⟩⟩
      rw [nI_clamp (by omega), nI_1, e31, l0]
      simp only [sm]
      by_cases c8 : k < 8
      · have d8 : ¬ 8 ≤ k := by omega
        have e5 := (congrArg lI (lsM_lo (g := g) (r := r) (sk := sk) c8)).symm
        by_cases u : uB g r sk k = true
        · have s := ndM_sl (g := g) (r := r) (sk := sk) hk16 u
          rw [if_pos u]
          simp only [lt_8 hk16, le_8 hk16, c8, d8, lt0_nI (show slM g r sk k < 2 ^ 31 by omega), not_true, not_false_eq_true, true_implies, false_implies, and_true, true_and]
          rw [show (10 : Int32) = nI 10 from rfl, ix11, nI_clamp (by omega)]
          refine ⟨vp_in_nI (by omega) (by decide), nx _ _ ?_ e5⟩
          rw [NM_slot hk16 u]
          exact hC _ s.1
        · rw [if_neg u]
          simp only [lt_8 hk16, le_8 hk16, c8, d8, lt0_m1, not_true, not_false_eq_true, true_implies, false_implies, and_true, true_and]
          have e27 : va_up S.2.2.1 27 (S.2.2.1 27) 27 k = g.2.2.2.2 k := hx.2.2.2.2 k c8
          have nm := NM_no (g := g) (r := r) (sk := sk) u
          rw [if_pos c8] at nm
          have ms := hg.2.2.2.2.2.2.1 k
          refine ⟨vp_in_nI c8 (by decide), fun s => nx _ _ ?_ e5, fun s => nx _ _ ?_ e5⟩
          · have st : g.2.2.2.2 k = -1 := (mk_neg ms).mp ((hx.2.2.2.2 k c8) ▸ s)
            rw [nm, show stf g k = 0 from if_pos st, Int.zero_mul]
            rfl
          · have st : ¬ g.2.2.2.2 k = -1 := fun z => s (by
              show S.2.2.1 27 k < 0
              rw [hx.2.2.2.2 k c8]
              exact (mk_neg ms).mpr z)
            rw [nm, show stf g k = (g.2.2.2.2 k).toInt from if_neg st]
            show (S.2.2.1 27 k).toInt64 * S.2.1 0 = _
            rw [hx.2.2.2.2 k c8, hJ, i_toI64, lI_mul]
      · have d8 : 8 ≤ k := by omega
        have e5 := lsM_hi (g := g) (r := r) (sk := sk) d8
        have e5n : ¬ tdB (whoS g) r k = true → lI (lsM g r sk k) = lI (lsM g r sk (k + 1)) := fun t => by
          rw [e5, show ind (tdB (whoS g) r k) (NM g r sk k) = 0 from if_neg t, Int.add_zero]
        have e5y : ∀ v, v = lI (NM g r sk k) → tdB (whoS g) r k = true → lI (lsM g r sk k) + vp_updL U k v k = lI (lsM g r sk (k + 1)) := fun v hv t => by
          rw [updL_eq, e5, show ind (tdB (whoS g) r k) (NM g r sk k) = NM g r sk k from if_pos t, hv, lI_add]
        by_cases u : uB g r sk k = true
        · have s := ndM_sl (g := g) (r := r) (sk := sk) hk16 u
          rw [if_pos u]
          simp only [lt_8 hk16, le_8 hk16, c8, d8, lt0_nI (show slM g r sk k < 2 ^ 31 by omega), not_true, not_false_eq_true, true_implies, false_implies, and_true, true_and]
          rw [show (10 : Int32) = nI 10 from rfl, ix11, nI_clamp (by omega)]
          have ev : S.2.2.2 14 (11 * slM g r sk k + 10) = lI (NM g r sk k) := by
            rw [NM_slot hk16 u]
            exact hC _ s.1
          exact ⟨vp_in_nI (by omega) (by decide), fun t => nx _ _ ev (e5n (fun z => t (td.mpr z))), fun t => nx _ _ ev (e5y _ ev (td.mp t))⟩
        · rw [if_neg u]
          simp only [lt_8 hk16, le_8 hk16, c8, d8, lt0_m1, not_true, not_false_eq_true, true_implies, false_implies, and_true, true_and]
          have nm := NM_no (g := g) (r := r) (sk := sk) u
          rw [if_neg c8] at nm
          have ev : (0 : Int64) = lI (NM g r sk k) := by
            rw [nm]
            rfl
          exact ⟨fun t => nx _ _ ev (e5n (fun z => t (td.mpr z))), fun t => nx _ _ ev (e5y _ ev (td.mp t))⟩
  have h0 := key 16 0 (by omega) (S.2.2.2 15) (fun z hz => by omega)
  rw [sB_self] at h0
  exact h0
theorem solve360 {P : Int32 → St → Prop} {S : St} {g : Sg} {r : Nat} {x2 x4 : Int32} {N : Nat → Int} {s : Int} {c : Nat} {U : Nat → Int64} (hl : L30 g S) (hr : r < 16) (hb : rtB (whoS g) r = true) (hc : c < 2 ^ 31) (hU : ∀ z, z < 16 → U z = lI (N z)) (h : ∀ V : Nat → Int64, (∀ z, z < 16 → tdB (whoS g) r z = true → V z = lI (N z * c + if z < 8 then s else -s)) → P 1 (sJ (sB S 15 V) 0 (S.2.1 0 * lI c))) : wX7_solve P 360 [.ref 47, .int (nI r), .int x2, .int (nI c), .int x4, .long (lI s), .retAddr 0, .int 0] [] (sB S 15 U) := by
  have hrl := (rtB_t.mp hb).1
  have e3 : (nI c).toInt64 = lI c := by rw [i_toI64, nI_toInt hc]
  have key : ∀ m k, k + m = 16 → ∀ V : Nat → Int64, (∀ z, z < k → tdB (whoS g) r z = true → V z = lI (N z * c + if z < 8 then s else -s)) → (∀ z, k ≤ z → z < 16 → V z = lI (N z)) → wX7_solve P 360 [.ref 47, .int (nI r), .int x2, .int (nI c), .int x4, .long (lI s), .retAddr 0, .int (nI k)] [] (sB S 15 V) := by
    intro m
    induction m with
    | zero =>
      intro k hk V h1 h2
      have e : k = 16 := by omega
      subst e
      refine bX7_solve_360 _ _ _ _ _ _ ⟨fun _ => ?_, fun c => absurd (show (16 : Int32) ≤ nI 16 by decide) c⟩
      rw [e3]
      exact h V h1
    | succ m ih =>
      intro k hk' V h1 h2
      have hk16 : k < 16 := by omega
      have hl2 : L30 g (sB S 15 V) := fun x hx => hl x hx
      have td := lab_td hl2 hr hk16 hrl
      have sm : ∀ v, sB (sB S 15 V) 15 (vp_updL ((sB S 15 V).2.2.2 15) k v) = sB S 15 (vp_updL V k v) := fun v => sB_same S 15 V _
      have nx : ∀ (v : Int64), v = lI (N k * c + if k < 8 then s else -s) → wX7_solve P 360 [.ref 47, .int (nI r), .int x2, .int (nI c), .int x4, .long (lI s), .retAddr 0, .int (nI (k + 1))] [] (sB S 15 (vp_updL V k v)) := fun v hv => by
        refine ih (k + 1) (by omega) _ (fun z hz t => ?_) (fun z h3 h4 => ?_)
        · by_cases c : z = k
          · subst c; rw [updL_eq, hv]
          · rw [updL_ne c]; exact h1 z (by omega) t
        · rw [updL_ne (by omega)]; exact h2 z (by omega) h4
      have eV : (sB S 15 V).2.2.2 15 k = lI (N k) := h2 k (Nat.le_refl _) hk16
      refine bX7_solve_360 _ _ _ _ _ _ ⟨fun c => absurd c (nI_ge (a := k) (b := 16) hk16 (by decide)), fun _ => ⟨vp_in_nI hk16 (by decide), ?_⟩⟩
      rw [nI_clamp (by omega), nI_1, e3, eV, sm, sm]
      refine ⟨fun t => ih (k + 1) (by omega) V (fun z hz tt => ?_) (fun z h3 h4 => h2 z (by omega) h4), fun t => ⟨fun c8 => nx _ ?_, fun c8 => nx _ ?_⟩⟩
      · by_cases e : z = k
        · subst e; exact absurd (td.mpr tt) t
        · exact h1 z (by omega) tt
      · rw [if_neg (by have := (le_8 hk16).mp c8; omega), lI_mul, lI_neg, lI_add]
      · have : k < 8 := by
          by_cases z : 8 ≤ k
          · exact absurd ((le_8 hk16).mpr z) c8
          · omega
        rw [if_pos this, lI_mul, lI_add]
  exact key 16 0 (by omega) U (fun z hz => by omega) (fun z _ hz => hU z hz)
theorem isum_B {f : Nat → Int} : ∀ {n : Nat}, (∀ i, i < n → -400000000000 ≤ f i ∧ f i ≤ 400000000000) → -(400000000000 * (n : Int)) ≤ isum f n ∧ isum f n ≤ 400000000000 * (n : Int)
  | 0, _ => by
    show -(400000000000 * ((0 : Nat) : Int)) ≤ 0 ∧ (0 : Int) ≤ 400000000000 * ((0 : Nat) : Int)
    omega
  | n + 1, h => by
    have a := isum_B (fun i hi => h i (Nat.lt_succ_of_lt hi)) (n := n)
    have b := h n (Nat.lt_succ_self n)
    show _ ≤ isum f n + f n ∧ isum f n + f n ≤ _
    omega
theorem mul_8 {x : Int} {c : Nat} (h1 : -400000000000 ≤ x) (h2 : x ≤ 400000000000) (hc : c ≤ 8) : -3200000000000 ≤ x * c ∧ x * c ≤ 3200000000000 := by
  have : c = 0 ∨ c = 1 ∨ c = 2 ∨ c = 3 ∨ c = 4 ∨ c = 5 ∨ c = 6 ∨ c = 7 ∨ c = 8 := by omega
  rcases this with e | e | e | e | e | e | e | e | e <;> subst e <;> omega
theorem pu_8 (g : Sg) (r : Nat) : nPu g r ≤ 8 := lsum_le1 (fun i => b2_1 _) 8
theorem skM_8 (g : Sg) (r last : Nat) : 8 ≤ skM g r last := by
  unfold skM
  split <;> omega
theorem sysM {g : Sg} (hg : Wf g) {r last : Nat} (hr : r < g.1) (hb : rtB (whoS g) r = true) (hc : nWk g r + nPu g r ≤ 10) (t : tdB (whoS g) r (8 + last) = true) : Sys (kM g r (skM g r last)) 65 (CM g r (skM g r last)) := by
  have n8 := hg.1.2
  refine sys_ok hg (by omega) (slotsM g r _).1 hc (pu_1 hg hr hb) (Or.inl ?_)
  cases e : smB g r with
  | true =>
    have e2 : skM g r last = 8 + last := if_pos e
    refine ⟨8 + last, tdB_t.mp t, fun j hj z => ((slotsM g r (skM g r last)).2.2 j hj).1 ?_⟩
    rw [e2] at z ⊢
    exact z
  | false =>
    obtain ⟨w, hw, t, s⟩ := sm_f e
    exact ⟨w, tdB_t.mp t, fun j hj z => s (z ▸ ((slotsM g r _).2.2 j hj).2 (z ▸ hw))⟩
theorem NM_B {g : Sg} (hg : Wf g) {r last : Nat} (hr : r < g.1) (hb : rtB (whoS g) r = true) (hc : nWk g r + nPu g r ≤ 10) (t : tdB (whoS g) r (8 + last) = true) {z : Nat} (hz : z < 16) : -400000000000 ≤ NM g r (skM g r last) z ∧ NM g r (skM g r last) z ≤ 400000000000 := by
  have h := sysM hg hr hb hc t
  have hd := gd_B h (Nat.le_refl _)
  have hp := sys_d h (Nat.le_refl _)
  by_cases u : uB g r (skM g r last) z = true
  · rw [NM_slot hz u]
    exact gV_64 h (Nat.le_refl _) (ndM_sl hz u).1 (Nat.le_refl _) (Nat.le_refl _)
  · rw [NM_no u]
    by_cases c : z < 8
    · rw [if_pos c]
      have m := hg.2.2.2.2.2.2.1 z
      unfold mkok at m
      have sb : -1 ≤ stf g z ∧ stf g z ≤ 100 := by
        unfold stf
        split
        · omega
        · exact m
      show -400000000000 ≤ stf g z * gd (kM g r (skM g r last)) 65 (CM g r (skM g r last)) (kM g r (skM g r last)) ∧ stf g z * gd (kM g r (skM g r last)) 65 (CM g r (skM g r last)) (kM g r (skM g r last)) ≤ 400000000000
      have b1 := Int.mul_le_mul_of_nonneg_right sb.1 (Int.le_of_lt hp)
      have b2 := Int.mul_le_mul_of_nonneg_right sb.2 (Int.le_of_lt hp)
      omega
    · rw [if_neg c]
      omega
theorem solveM {P : Int32 → St → Prop} {S : St} {g : Sg} {r : Nat} (hg : Wf g) (hx : MB g S) (hr : r < g.1) (hb : rtB (whoS g) r = true) (h0 : ∀ S1, 10 < nWk g r + nPu g r → SR S S1 → P 0 S1) (h1 : ∀ S1 (d : Int) (N : Nat → Int), nWk g r + nPu g r ≤ 10 → SR S S1 → NSol g r d N → d ≤ 200000000 → (∀ z, z < 16 → tdB (whoS g) r z = true → -10000000000000 ≤ N z ∧ N z ≤ 10000000000000) → S1.2.1 0 = lI d → (∀ z, z < 16 → tdB (whoS g) r z = true → S1.2.2.2 15 z = lI (N z)) → P 1 S1) : tX7_solve (nI r) S P := by
  have n8 := hg.1.2
  have hrl := (rtB_t.mp hb).1
  have sz := size_eq (g := g) (r := r) (by omega) hrl
  refine bX7_solve_0 _ (findPartsM hg hx (fun L hL => sizeOfM (S := sA S 30 L) hL (by omega) ?_))
  have szl := szS_le (whoS g) r
  rw [show (10 : Int32) = nI 10 from rfl, nI_leI (by omega) (by decide), sz]
  have sL : SR S (sA S 30 L) := SR.A (by decide)
  have l30 : L30 g (sA S 30 L) := hL
  refine ⟨fun hc => ?_, fun hc => h0 _ (by omega) sL⟩
  have s9 : SR S (sI (sA S 30 L) 9 0) := sL.tr (SR.I (by decide))
  refine solve31 hg (hx.sr s9) l30 hr hb (fun F last hF hlast t => ?_)
  show wX7_solve P 146 _ [] (sI (sA (sA S 30 L) 31 F) 9 0)
  refine solve146 hg (hx.sr sL) l30 hr hb hlast hF (fun F2 hF2 => ?_)
  have hS := sysM hg hr hb hc t
  have hk : kM g r (skM g r last) ≤ 10 := hS.1
  have s3 : SR S (sI (sA (sA S 30 L) 31 F2) 9 (nI (kM g r (skM g r last)))) := (sL.tr (SR.A (by decide))).tr (SR.I (by decide))
  refine setUpM (sk := skM g r last) hg (hx.sr s3) (fun x hx => hL x hx) (fun z hz => hF2 z hz) (skM_8 g r last) hr hb hk (fun S4 f4 m4 => ?_)
  have e9 : S4.1 9 = nI (kM g r (skM g r last)) := by
    rw [f4.1]
    exact up_eq (f := (sA (sA S 30 L) 31 F2).1) (k := 9)
  refine solveCellsM hS e9 m4 (fun G hG => ?_)
  have f4x : SR S S4 := s3.tr ⟨fun k _ => by rw [f4.1], fun k _ => by rw [f4.2.2.1], fun k hk => f4.2.2.2 k (fun z => by
    have := List.mem_singleton.mp z
    omega)⟩
  have s5 : SR S (sJ (sB S4 14 G) 0 (lI (gd (kM g r (skM g r last)) 65 (CM g r (skM g r last)) (kM g r (skM g r last))))) := (f4x.tr (SR.B (by decide))).tr SR.J
  have a4 : S4.2.2.1 = (sI (sA (sA S 30 L) 31 F2) 9 (nI (kM g r (skM g r last)))).2.2.1 := f4.2.2.1
  have l5 : L30 g (sJ (sB S4 14 G) 0 (lI (gd (kM g r (skM g r last)) 65 (CM g r (skM g r last)) (kM g r (skM g r last))))) := fun x hx => by
    show S4.2.2.1 30 x = _
    rw [a4]
    exact hL x hx
  have j5 : (sJ (sB S4 14 G) 0 (lI (gd (kM g r (skM g r last)) 65 (CM g r (skM g r last)) (kM g r (skM g r last))))).2.1 0 = lI (dM g r (skM g r last)) := up_eq (f := S4.2.1) (k := 0)
  have dB : dM g r (skM g r last) ≤ 24300000 := gd_B hS (Nat.le_refl _)
  have dP : 0 < dM g r (skM g r last) := sys_d hS (Nat.le_refl _)
  refine solve234 (sk := skM g r last) hg (hx.sr s5) l5 (fun z hz => ?_) hr hb hk j5 (fun i hi => hG i hi) (fun U hU => ⟨fun c => ?_, fun c => ?_⟩)
  · show S4.2.2.1 31 z = _
    rw [a4]
    exact hF2 z hz
  · have sf : ¬ smB g r = true := fun z => by rw [if_pos z] at c; exact c rfl
    have ek : skM g r last = 16 := if_neg sf
    have cov := (slotsM g r (skM g r last)).2
    have ns : NSol g r (dM g r (skM g r last)) (NM g r (skM g r last)) := by
      refine nsol_all hS (slotsM g r _).1 ?_ (pu_1 hg hr hb) ⟨fun z => absurd z (by decide), fun z => absurd (smB_t.mpr z) sf⟩
      rw [ek] at cov ⊢
      exact cov
    refine h1 _ (dM g r (skM g r last)) (NM g r (skM g r last)) hc (s5.tr (SR.B (by decide))) ns (by omega) (fun z hz _ => ?_) j5 (fun z hz _ => hU z hz)
    have := NM_B hg hr hb hc t hz
    omega
  · have sf : smB g r = true := by
      by_cases z : smB g r = true
      · exact z
      · rw [if_neg z] at c; exact absurd c (by decide)
    have ek : skM g r last = 8 + last := if_pos sf
    have cov := (slotsM g r (skM g r last)).2
    have p8 := pu_8 g r
    have sB8 := isum_B (f := fun p => ind (tdB (whoS g) r (8 + p)) (NM g r (skM g r last) (8 + p))) (n := 8) (fun p hp => by
      have := NM_B hg hr hb hc t (z := 8 + p) (by omega)
      show -400000000000 ≤ ind _ _ ∧ ind _ _ ≤ 400000000000
      unfold ind
      split <;> omega)
    refine solve360 (N := NM g r (skM g r last)) (s := lsM g r (skM g r last) 16) (c := nPu g r) l5 (by omega) hb (by omega) hU (fun V hV => ?_)
    have ns : NSol g r (dM g r (skM g r last) * nPu g r) (fun z => NM g r (skM g r last) z * nPu g r + if z < 8 then lsM g r (skM g r last) 16 else -(lsM g r (skM g r last) 16)) := by
      refine nsol_shift hS (slotsM g r _).1 hlast ?_ (pu_1 hg hr hb) (smB_t.mp sf) rfl
      rw [ek] at cov ⊢
      exact cov
    refine h1 _ _ _ hc ((s5.tr (SR.B (by decide))).tr SR.J) ns ?_ (fun z hz _ => ?_) ?_ (fun z hz tz => hV z hz tz)
    · have := mul_8 (x := dM g r (skM g r last)) (by omega) (by omega) p8
      have b : dM g r (skM g r last) * nPu g r ≤ 24300000 * nPu g r := Int.mul_le_mul_of_nonneg_right dB (by omega)
      omega
    · have a := NM_B hg hr hb hc t hz
      have b := mul_8 a.1 a.2 p8
      have e : lsM g r (skM g r last) 16 = isum (fun p => ind (tdB (whoS g) r (8 + p)) (NM g r (skM g r last) (8 + p))) 8 := rfl
      show _ ≤ NM g r (skM g r last) z * nPu g r + _ ∧ NM g r (skM g r last) z * nPu g r + _ ≤ _
      rw [e]
      split <;> omega
    · show _ * _ = _
      rw [show (sB (sJ (sB S4 14 G) 0 (lI (gd (kM g r (skM g r last)) 65 (CM g r (skM g r last)) (kM g r (skM g r last))))) 15 U).2.1 0 = lI (dM g r (skM g r last)) from j5, lI_mul]
