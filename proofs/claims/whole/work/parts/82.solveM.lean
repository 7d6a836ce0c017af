/-! ===== the reference: which nodes are unknown ===== -/
def L30 (g : Sg) (S : St) : Prop := ∀ x, x < 16 → S.2.2.1 30 x = nI (labS (whoS g) x)
theorem lab_td {g : Sg} {S : St} (hl : L30 g S) {r z : Nat} (hr : r < 16) (hz : z < 16) (hrl : labS (whoS g) r = r) : S.2.2.1 30 z = nI r ↔ tdB (whoS g) r z = true := by
  have l := labS_lt (m := whoS g) hz
  rw [hl z hz, nI_eq (by omega) (by omega), tdB_t]
  refine ⟨fun e => ((labS_iff hz hr).mp (e.trans hrl.symm)).sy, fun t => ((labS_iff hz hr).mpr t.sy).trans hrl⟩
theorem lt_8 {k : Nat} (h : k < 16) : nI k < (8 : Int32) ↔ k < 8 := nI_ltI (b := 8) (by omega) (by decide)
theorem le_8 {k : Nat} (h : k < 16) : (8 : Int32) ≤ nI k ↔ 8 ≤ k := nI_leI (a := 8) (by decide) (by omega)
noncomputable abbrev puC (g : Sg) (r k : Nat) : Nat := lsum (fun p => b2 (tdB (whoS g) r (8 + p))) (k - 8)
theorem puC_lo {g : Sg} {r k : Nat} (h : k < 8) : puC g r (k + 1) = puC g r k := by
  show lsum _ (k + 1 - 8) = lsum _ (k - 8)
  rw [show k + 1 - 8 = k - 8 by omega]
theorem puC_hi {g : Sg} {r k : Nat} (h : 8 ≤ k) : puC g r (k + 1) = puC g r k + b2 (tdB (whoS g) r k) := by
  show lsum _ (k + 1 - 8) = lsum _ (k - 8) + _
  rw [show k + 1 - 8 = k - 8 + 1 by omega]
  show lsum _ (k - 8) + b2 (tdB (whoS g) r (8 + (k - 8))) = _
  rw [show 8 + (k - 8) = k by omega]
def knI (g : Sg) (r k : Nat) (x2 : Int32) : Prop := (x2 = 0 ∧ ∀ w, w < k → w < 8 → tdB (whoS g) r w = true → g.2.2.2.2 w = -1) ∨ (x2 = 1 ∧ ∃ w, w < 8 ∧ tdB (whoS g) r w = true ∧ g.2.2.2.2 w ≠ -1)
def lsI (g : Sg) (r k : Nat) (x4 : Int32) : Prop := (∀ p, 8 + p < k → ¬ tdB (whoS g) r (8 + p) = true) ∨ (∃ p, p < 8 ∧ tdB (whoS g) r (8 + p) = true ∧ x4 = nI (8 + p))
theorem i0 (a : Int32) : a + 0 = a := Int32.add_zero a
theorem solve31 {P : Int32 → St → Prop} {S : St} {g : Sg} {r : Nat} (hg : Wf g) (hx : MB g S) (hl : L30 g S) (hr : r < g.1) (hb : rtB (whoS g) r = true) (h : ∀ (F : Nat → Int32) (last : Nat), (∀ z, z < 16 → F z = -1) → last < 8 → tdB (whoS g) r (8 + last) = true → wX7_solve P 146 [.ref 47, .int (nI r), .int (if smB g r = true then 0 else 1), .int (nI (nPu g r)), .int (nI (8 + last)), .int 0, .retAddr 0, .retAddr 0] [] (sA S 31 F)) : wX7_solve P 31 [.ref 47, .int (nI r), .int 0, .int 0, .int (-1), .int 0, .retAddr 0, .retAddr 0] [] S := by
  have n8 := hg.1.2
  have hrl := (rtB_t.mp hb).1
  have key : ∀ m k, k + m = 16 → ∀ (F : Nat → Int32) (x2 x4 : Int32), (∀ z, z < k → F z = -1) → knI g r k x2 → lsI g r k x4 → wX7_solve P 31 [.ref 47, .int (nI r), .int x2, .int (nI (puC g r k)), .int x4, .int (nI k), .retAddr 0, .retAddr 0] [] (sA S 31 F) := by
    intro m
    induction m with
    | zero =>
      intro k hk F x2 x4 hF k2 k4
      have e : k = 16 := by omega
      subst e
      refine bX7_solve_31 _ _ _ _ _ ⟨fun _ => ?_, fun c => absurd (show (16 : Int32) ≤ nI 16 by decide) c⟩
      have e2 : x2 = if smB g r = true then 0 else 1 := by
        rcases k2 with k2 | k2
        · rw [if_pos (smB_t.mpr (fun w hw t => k2.2 w (by omega) hw t))]; exact k2.1
        · obtain ⟨e, w, hw, t, s⟩ := k2
          rw [if_neg (fun z => s (smB_t.mp z w hw t))]; exact e
      rcases k4 with k4 | ⟨p, hp, t, e4⟩
      · obtain ⟨p, hp, _, _, t⟩ := pu_some hg hr hb
        exact absurd (tdB_t.mpr t) (k4 p (by omega))
      · rw [e2, e4]
        exact h F p hF hp t
    | succ m ih =>
      intro k hk F x2 x4 hF k2 k4
      have hk16 : k < 16 := by omega
      have hl2 : L30 g (sA S 31 F) := fun x hx => hl x hx
      have td := lab_td hl2 (by omega) hk16 hrl
      have s2 : sA (sA S 31 F) 31 (upd ((sA S 31 F).2.2.1 31) k (-1)) = sA S 31 (upd F k (-1)) := sA_same S 31 F _
      have f2 : ∀ z, z < k + 1 → upd F k (-1) z = -1 := fun z hz => by
        by_cases c : z = k
        · subst c; exact upd_eq
        · rw [upd_ne c]; exact hF z (by omega)
      have nx : ∀ (y2 y4 : Int32) (y3 : Nat), knI g r (k + 1) y2 → y3 = puC g r (k + 1) → lsI g r (k + 1) y4 → wX7_solve P 31 [.ref 47, .int (nI r), .int y2, .int (nI y3), .int y4, .int (nI (k + 1)), .retAddr 0, .retAddr 0] [] (sA S 31 (upd F k (-1))) := fun y2 y4 y3 a b c => by
        rw [b]
        exact ih (k + 1) (by omega) _ y2 y4 f2 a c
      have n1 : ∀ {y2 : Int32}, ¬ y2 = 0 → knI g r k y2 → knI g r (k + 1) 1 := fun c z => by
        rcases z with z | z
        · exact absurd z.1 c
        · exact Or.inr ⟨rfl, z.2⟩
      have n0 : x2 = 0 → (k < 8 → tdB (whoS g) r k = true → g.2.2.2.2 k = -1) → knI g r (k + 1) 0 := fun c hh => by
        rcases k2 with z | z
        · refine Or.inl ⟨rfl, fun w hw h8 t => ?_⟩
          by_cases e : w = k
          · subst e; exact hh h8 t
          · exact z.2 w (by omega) h8 t
        · rw [z.1] at c; exact absurd c (by decide)
      have l0 : (8 ≤ k → ¬ tdB (whoS g) r k = true) → lsI g r (k + 1) x4 := fun hh => by
        rcases k4 with z | z
        · refine Or.inl (fun p hp => ?_)
          by_cases e : 8 + p = k
          · rw [e]; exact hh (by omega)
          · exact z p (by omega)
        · exact Or.inr z
      refine bX7_solve_31 _ _ _ _ _ ⟨fun c => absurd c (nI_ge (a := k) (b := 16) hk16 (by decide)), fun _ => ⟨vp_in_nI hk16 (by decide), ?_⟩⟩
      rw [nI_clamp (by omega), nI_1, nI_1, i0, s2]
      by_cases c8 : k < 8
      · have d8 : ¬ 8 ≤ k := by omega
        have e3 := (puC_lo (g := g) (r := r) c8).symm
        have ol : (8 ≤ k → ¬ tdB (whoS g) r k = true) := fun z => absurd z d8
        simp only [lt_8 hk16, le_8 hk16, c8, d8, not_true, not_false_eq_true, true_implies, false_implies, and_true, true_and]
        refine ⟨fun t => ⟨fun c => nx _ _ _ (n1 c k2) e3 (l0 ol), fun c => nx _ _ _ (n0 c (fun _ z => absurd (td.mpr z) t)) e3 (l0 ol)⟩, fun t => ⟨fun c => nx _ _ _ (n1 c k2) e3 (l0 ol), fun c => ⟨vp_in_nI c8 (by decide), ?_⟩⟩⟩
        have e27 : va_up S.2.2.1 31 F 27 k = g.2.2.2.2 k := hx.2.2.2.2 k c8
        rw [e27, mk_neg (hg.2.2.2.2.2.2.1 k)]
        exact ⟨fun s => nx _ _ _ (n0 c (fun _ _ => s)) e3 (l0 ol), fun s => nx _ _ _ (Or.inr ⟨rfl, k, c8, td.mp t, s⟩) e3 (l0 ol)⟩
      · have d8 : 8 ≤ k := by omega
        have e3 := puC_hi (g := g) (r := r) d8
        simp only [lt_8 hk16, le_8 hk16, c8, d8, not_true, not_false_eq_true, true_implies, false_implies, and_true, true_and]
        have o0 : k < 8 → tdB (whoS g) r k = true → g.2.2.2.2 k = -1 := fun z => absurd z c8
        refine ⟨fun t => ?_, fun t => ?_⟩
        · have nt : ¬ tdB (whoS g) r k = true := fun z => t (td.mpr z)
          have e3' : puC g r k = puC g r (k + 1) := by
            rw [e3]
            cases z : tdB (whoS g) r k with
            | false => rfl
            | true => exact absurd z nt
          exact ⟨fun c => nx _ _ _ (n1 c k2) e3' (l0 (fun _ => nt)), fun c => nx _ _ _ (n0 c o0) e3' (l0 (fun _ => nt))⟩
        · have tt := td.mp t
          have e3' : puC g r k + 1 = puC g r (k + 1) := by
            rw [e3, tt]
            rfl
          have l1 : lsI g r (k + 1) (nI k) := Or.inr ⟨k - 8, by omega, by rw [show 8 + (k - 8) = k by omega]; exact tt, by rw [show 8 + (k - 8) = k by omega]⟩
          exact ⟨fun c => nx _ _ _ (n1 c k2) e3' l1, fun c => nx _ _ _ (n0 c o0) e3' l1⟩
  have h0 := key 16 0 (by omega) (S.2.2.1 31) 0 (-1) (fun z hz => by omega) (Or.inl ⟨rfl, fun w hw => by omega⟩) (Or.inl (fun p hp => by omega))
  rw [sA_self] at h0
  exact h0
noncomputable def skM (g : Sg) (r last : Nat) : Nat := if smB g r = true then 8 + last else 16
theorem placeM {P : St → Prop} {S : St} {k c : Nat} {F : Nat → Int32} (hk : k < 16) (h : P (sI (sA S 31 (upd F k (nI c))) 9 (nI (c + 1)))) : tX7_place (nI k) (sI (sA S 31 F) 9 (nI c)) P := by
  refine bX7_place_0 _ ⟨vp_in_nI hk (by decide), ?_⟩
  rw [nI_clamp (by omega)]
  have e9 : (sI (sA S 31 F) 9 (nI c)).1 9 = nI c := up_eq (f := (sA S 31 F).1) (k := 9)
  rw [e9, nI_1]
  have e : sI (sA (sI (sA S 31 F) 9 (nI c)) 31 (upd ((sI (sA S 31 F) 9 (nI c)).2.2.1 31) k (nI c))) 9 (nI (c + 1)) = sI (sA S 31 (upd F k (nI c))) 9 (nI (c + 1)) := by
    show sI (sA (sI (sA S 31 F) 9 (nI c)) 31 (upd F k (nI c))) 9 (nI (c + 1)) = _
    refine Prod.ext (funext (fun j => ?_)) (Prod.ext rfl (Prod.ext (funext (fun j => ?_)) rfl))
    · show va_up (va_up S.1 9 (nI c)) 9 (nI (c + 1)) j = va_up S.1 9 (nI (c + 1)) j
      by_cases z : j = 9
      · subst z; rw [up_eq, up_eq]
      · rw [up_ne z, up_ne z, up_ne z]
    · show va_up (va_up S.2.2.1 31 F) 31 (upd F k (nI c)) j = va_up S.2.2.1 31 (upd F k (nI c)) j
      by_cases z : j = 31
      · subst z; rw [up_eq, up_eq]
      · rw [up_ne z, up_ne z, up_ne z]
  rw [e]
  exact h
theorem solve146 {P : Int32 → St → Prop} {S : St} {g : Sg} {r last : Nat} {x3 : Int32} {F0 : Nat → Int32} (hg : Wf g) (hx : MB g S) (hl : L30 g S) (hr : r < g.1) (hb : rtB (whoS g) r = true) (hlast : last < 8) (hF0 : ∀ z, z < 16 → F0 z = -1) (h : ∀ F : Nat → Int32, (∀ z, z < 16 → F z = if uB g r (skM g r last) z = true then nI (slM g r (skM g r last) z) else -1) → tX7_setUp (nI r) (sI (sA S 31 F) 9 (nI (kM g r (skM g r last)))) (fun S1 => tX7_solveCells S1 (fun S2 => wX7_solve P 234 [.ref 47, .int (nI r), .int (if smB g r = true then 0 else 1), .int x3, .int (nI (8 + last)), .long 0, .retAddr 0, .int 0] [] S2))) : wX7_solve P 146 [.ref 47, .int (nI r), .int (if smB g r = true then 0 else 1), .int x3, .int (nI (8 + last)), .int 0, .retAddr 0, .retAddr 0] [] (sI (sA S 31 F0) 9 0) := by
  have n8 := hg.1.2
  have hrl := (rtB_t.mp hb).1
  have key : ∀ m k, k + m = 16 → ∀ F : Nat → Int32, (∀ z, z < 16 → F z = if z < k ∧ uB g r (skM g r last) z = true then nI (slM g r (skM g r last) z) else -1) → wX7_solve P 146 [.ref 47, .int (nI r), .int (if smB g r = true then 0 else 1), .int x3, .int (nI (8 + last)), .int (nI k), .retAddr 0, .retAddr 0] [] (sI (sA S 31 F) 9 (nI (rkc (fun t => uB g r (skM g r last) t) k))) := by
    intro m
    induction m with
    | zero =>
      intro k hk F hF
      have e : k = 16 := by omega
      subst e
      refine bX7_solve_146 _ _ _ _ _ ⟨fun _ => h F (fun z hz => ?_), fun c => absurd (show (16 : Int32) ≤ nI 16 by decide) c⟩
      rw [hF z hz]
      by_cases c : uB g r (skM g r last) z = true
      · rw [if_pos c, if_pos ⟨hz, c⟩]
      · rw [if_neg c, if_neg (fun y => c y.2)]
    | succ m ih =>
      intro k hk F hF
      have hk16 : k < 16 := by omega
      have hl2 : L30 g (sI (sA S 31 F) 9 (nI (rkc (fun t => uB g r (skM g r last) t) k))) := fun x hx => hl x hx
      have td := lab_td hl2 (by omega) hk16 hrl
      have rs : rkc (fun t => uB g r (skM g r last) t) (k + 1) = rkc (fun t => uB g r (skM g r last) t) k + if uB g r (skM g r last) k = true then 1 else 0 := rfl
      have no : ¬ uB g r (skM g r last) k = true → wX7_solve P 146 [.ref 47, .int (nI r), .int (if smB g r = true then 0 else 1), .int x3, .int (nI (8 + last)), .int (nI (k + 1)), .retAddr 0, .retAddr 0] [] (sI (sA S 31 F) 9 (nI (rkc (fun t => uB g r (skM g r last) t) k))) := fun u => by
        rw [if_neg u] at rs
        have := ih (k + 1) (by omega) F (fun z hz => by
          rw [hF z hz]
          by_cases c : z < k ∧ uB g r (skM g r last) z = true
          · rw [if_pos c, if_pos ⟨by omega, c.2⟩]
          · rw [if_neg c, if_neg (fun y => c ⟨?_, y.2⟩)]
            have e : z ≠ k := fun e => u (e ▸ y.2)
            omega)
        rw [rs] at this
        exact this
      have yes : uB g r (skM g r last) k = true → tX7_place (nI k) (sI (sA S 31 F) 9 (nI (rkc (fun t => uB g r (skM g r last) t) k))) (fun S4 => wX7_solve P 146 [.ref 47, .int (nI r), .int (if smB g r = true then 0 else 1), .int x3, .int (nI (8 + last)), .int (nI (k + 1)), .retAddr 0, .retAddr 0] [] S4) := fun u => by
        rw [if_pos u] at rs
        refine placeM hk16 ?_
        rw [← rs]
        refine ih (k + 1) (by omega) _ (fun z hz => ?_)
        by_cases e : z = k
        · subst e
          rw [upd_eq, if_pos ⟨by omega, u⟩]
          rfl
        · rw [upd_ne e, hF z hz]
          by_cases c : z < k ∧ uB g r (skM g r last) z = true
          · rw [if_pos c, if_pos ⟨by omega, c.2⟩]
          · rw [if_neg c, if_neg (fun y => c ⟨by omega, y.2⟩)]
      refine bX7_solve_146 _ _ _ _ _ ⟨fun c => absurd c (nI_ge (a := k) (b := 16) hk16 (by decide)), fun _ => ⟨vp_in_nI hk16 (by decide), ?_⟩⟩
      rw [nI_clamp (by omega), nI_1]
      refine ⟨fun t => no (fun u => t (td.mpr (tdB_t.mpr (uB_t.mp u).1))), fun t => ⟨fun c => ⟨fun s => ?_, fun s => ⟨fun e => ?_, fun e => ?_⟩⟩, fun c => ?_⟩⟩
      · have c8 := (le_8 hk16).mp c
        have sf : ¬ smB g r = true := fun z => by rw [if_pos z] at s; exact s rfl
        refine yes (uB_t.mpr ⟨tdB_t.mp (td.mp t), ?_, Or.inl c8⟩)
        unfold skM
        rw [if_neg sf]
        omega
      · have sf : smB g r = true := by
          by_cases z : smB g r = true
          · exact z
          · rw [if_neg z] at s; exact absurd s (by decide)
        have e' := (nI_eq (by omega) (by omega)).mp e
        refine no (fun u => (uB_t.mp u).2.1 ?_)
        unfold skM
        rw [if_pos sf]
        exact e'
      · have sf : smB g r = true := by
          by_cases z : smB g r = true
          · exact z
          · rw [if_neg z] at s; exact absurd s (by decide)
        have c8 := (le_8 hk16).mp c
        refine yes (uB_t.mpr ⟨tdB_t.mp (td.mp t), ?_, Or.inl c8⟩)
        unfold skM
        rw [if_pos sf]
        exact fun z => e (by rw [z])
      · have c8 : k < 8 := by
          by_cases z : 8 ≤ k
          · exact absurd ((le_8 hk16).mpr z) c
          · omega
        refine ⟨vp_in_nI c8 (by decide), ?_⟩
        have e27 : (sI (sA S 31 F) 9 (nI (rkc (fun t => uB g r (skM g r last) t) k))).2.2.1 27 k = g.2.2.2.2 k := hx.2.2.2.2 k c8
        rw [e27]
        have mk := hg.2.2.2.2.2.2.1 k
        refine ⟨fun s => no (fun u => ?_), fun s => yes (uB_t.mpr ⟨tdB_t.mp (td.mp t), ?_, Or.inr ?_⟩)⟩
        · rcases (uB_t.mp u).2.2 with z | z
          · omega
          · rw [z] at s; exact absurd s (by decide)
        · unfold skM
          split <;> omega
        · exact (mk_neg mk).mp (Int32.not_le.mp s)
  have h0 := key 16 0 (by omega) F0 (fun z hz => by rw [if_neg (fun y => by omega)]; exact hF0 z hz)
  exact h0
