/-! ===== pieces, the reference's programs ===== -/
theorem spreadLab {P : St → Prop} {S : St} {lab : Nat → Nat} {hi lo : Nat} (hl : ∀ x, x < 16 → S.2.2.1 30 x = nI (lab x)) (h16 : ∀ x, x < 16 → lab x < 16) (hhi : hi < 16) (h : ∀ F : Nat → Int32, (∀ x, x < 16 → F x = nI (if lab x = hi then lo else lab x)) → P (sA S 30 F)) : tX7_spread (nI hi) (nI lo) S P := by
  refine bX7_spread_0 _ _ ?_
  have key : ∀ k i, i + k = 16 → ∀ F : Nat → Int32, (∀ x, x < i → F x = nI (if lab x = hi then lo else lab x)) → (∀ x, i ≤ x → x < 16 → F x = nI (lab x)) → wX7_spread P 2 [.ref 47, .int (nI hi), .int (nI lo), .int (nI i)] [] (sA S 30 F) := by
    intro k
    induction k with
    | zero =>
      intro i hi2 F h1 h2
      have e : i = 16 := by omega
      subst e
      exact bX7_spread_2 _ _ _ ⟨fun _ => h F h1, fun c => absurd (by decide) c⟩
    | succ k ih =>
      intro i hi2 F h1 h2
      have hi16 : i < 16 := by omega
      refine bX7_spread_2 _ _ _ ⟨fun c => absurd c (nI_ge (a := i) (b := 16) hi16 (by decide)), fun _ => ⟨vp_in_nI hi16 (by decide), ?_⟩⟩
      have e0 : (sA S 30 F).2.2.1 30 i = nI (lab i) := h2 i (Nat.le_refl _) hi16
      have l16 := h16 i hi16
      rw [nI_1, nI_clamp (by omega), e0, nI_eq (by omega) (by omega)]
      have go : ∀ v, v = nI (if lab i = hi then lo else lab i) → wX7_spread P 2 [.ref 47, .int (nI hi), .int (nI lo), .int (nI (i + 1))] [] (sA (sA S 30 F) 30 (upd F i v)) := fun v hv => by
        rw [sA_same]
        refine ih (i + 1) (by omega) _ (fun x hx => ?_) (fun x hx hx2 => ?_)
        · by_cases e : x = i
          · subst e; rw [upd_eq, hv]
          · rw [upd_ne e]; exact h1 x (by omega)
        · rw [upd_ne (by omega)]; exact h2 x (by omega) hx2
      refine ⟨fun c => go _ ?_, fun c => go _ ?_⟩
      · rw [if_neg c]
      · rw [if_pos c]
  have h0 := key 16 0 (by omega) (S.2.2.1 30) (fun x hx => by omega) (fun x _ hx => hl x hx)
  rw [sA_self] at h0
  exact h0
theorem joinM {P : St → Prop} {S : St} {m : Nat → Nat} {lab : Nat → Nat} (ok : LabOk m lab) (hl : ∀ x, x < 16 → S.2.2.1 30 x = nI (lab x)) {w p : Nat} (hw : w < 8) (hp : p < 8) (hm : (m w).testBit p = true) (h : ∀ (F : Nat → Int32) (lab2 : Nat → Nat), LabOk m lab2 → (∀ x, x < 16 → F x = nI (lab2 x)) → lab2 w = lab2 (8 + p) → (∀ x y, lab x = lab y → lab2 x = lab2 y) → P (sA S 30 F)) : tX7_join (nI p) (nI w) S P := by
  refine bX7_join_0 _ _ ?_
  have t := Tied.wp hw hp hm
  have b1 := ok.1 w (by omega)
  have b2 := ok.1 (8 + p) (by omega)
  have h16 : ∀ x, x < 16 → lab x < 16 := fun x hx => by have := ok.1 x hx; omega
  rw [show (8 : Int32) + nI p = nI (8 + p) from by rw [show (8 : Int32) = nI 8 from rfl, nI_add], nI_clamp (by omega), nI_clamp (by omega), hl w (by omega), hl (8 + p) (by omega), nI_leI (by omega) (by omega)]
  refine ⟨vp_in_nI (by omega) (by decide), vp_in_nI (by omega) (by decide), fun c => ⟨fun _ => ?_, fun c2 => absurd c c2⟩, fun c => ⟨fun c2 => absurd c2 c, fun _ => ?_⟩⟩
  · refine spreadLab hl h16 (by omega) (fun F hF => ?_)
    have j := lab_join ok (show w < 16 by omega) (show 8 + p < 16 by omega) t (hi := lab (8 + p)) (lo := lab w) (Or.inr ⟨rfl, rfl⟩) c
    exact h F _ j.1 hF j.2 (fun x y e => by show (if lab x = _ then _ else lab x) = (if lab y = _ then _ else lab y); rw [e])
  · refine spreadLab hl h16 (by omega) (fun F hF => ?_)
    have j := lab_join ok (show w < 16 by omega) (show 8 + p < 16 by omega) t (hi := lab w) (lo := lab (8 + p)) (Or.inl ⟨rfl, rfl⟩) (by omega)
    exact h F _ j.1 hF j.2 (fun x y e => by show (if lab x = _ then _ else lab x) = (if lab y = _ then _ else lab y); rw [e])
theorem findParts_w {P : St → Prop} {S : St} {g : Sg} {m : Nat → Nat} (hg : Wf g) (hx : MB g S) (ho : mOk m g.1) (hm : m = whoS g) (h : ∀ F : Nat → Int32, (∀ x, x < 16 → F x = nI (labS m x)) → P (sA S 30 F)) : wX7_findParts P 2 [.ref 47, .int 0, .retAddr 0] [] S := by
  have h8 := hg.1.2
  have outer : ∀ k w, w + k = g.1 → ∀ (F : Nat → Int32) (lab : Nat → Nat), LabOk m lab → (∀ x, x < 16 → F x = nI (lab x)) → (∀ a b, ed m a b → a < w → lab a = lab b) → wX7_findParts P 23 [.ref 47, .int (nI w), .retAddr 0] [] (sA S 30 F) := by
    intro k
    induction k with
    | zero =>
      intro w hw F lab ok hF hd
      have e : w = g.1 := by omega
      subst e
      refine bX7_findParts_23 _ ⟨fun _ => h F (fun x hx => ?_), fun c => absurd (by show S.1 8 ≤ _; rw [hx.1]; exact nI_le (Nat.le_refl _) (by omega)) c⟩
      rw [hF x hx, lab_is ok (fun a b e => hd a b e ?_) hx]
      rcases Nat.lt_or_ge a g.1 with z | z
      · exact z
      · obtain ⟨_, _, _, e4⟩ := e
        rw [ho.2.1 a z] at e4
        simp at e4
    | succ k ih =>
      intro w hw F lab ok hF hd
      have hwn : w < g.1 := by omega
      refine bX7_findParts_23 _ ⟨fun c => absurd (show nI g.1 ≤ nI w from hx.1 ▸ c) (cnt_step hwn h8), fun _ => ?_⟩
      have inner : ∀ j p, p + j = g.1 → ∀ (F : Nat → Int32) (lab : Nat → Nat), LabOk m lab → (∀ x, x < 16 → F x = nI (lab x)) → (∀ a b, ed m a b → (a < w ∨ (a = w ∧ b < 8 + p)) → lab a = lab b) → wX7_findParts P 33 [.ref 47, .int (nI w), .int (nI p)] [] (sA S 30 F) := by
        intro j
        induction j with
        | zero =>
          intro p hp F lab ok hF hd
          have e : p = g.1 := by omega
          subst e
          refine bX7_findParts_33 _ _ ⟨fun _ => ?_, fun c => absurd (by show S.1 8 ≤ _; rw [hx.1]; exact nI_le (Nat.le_refl _) (by omega)) c⟩
          rw [nI_1]
          refine ih (w + 1) (by omega) F lab ok hF (fun a b e hab => hd a b e ?_)
          by_cases z : a < w
          · exact Or.inl z
          · have hb := ho.2.2.1 a (b - 8) e.2.2.2
            exact Or.inr ⟨by omega, by omega⟩
        | succ j ihj =>
          intro p hp F lab ok hF hd
          have hpn : p < g.1 := by omega
          have hx2 : MB g (sA S 30 F) := hx.sr (SR.A (by decide))
          refine bX7_findParts_33 _ _ ⟨fun c => absurd (show nI g.1 ≤ nI p from hx.1 ▸ c) (cnt_step hpn h8), fun _ => ?_⟩
          rw [nI_1]
          have skip : (m w).testBit p = false → wX7_findParts P 33 [.ref 47, .int (nI w), .int (nI (p + 1))] [] (sA S 30 F) := fun nb => ihj (p + 1) (by omega) F lab ok hF (fun a b e hab => hd a b e (by
            by_cases z : a < w
            · exact Or.inl z
            · rcases hab with y | y
              · exact absurd y z
              · refine Or.inr ⟨y.1, ?_⟩
                by_cases q : b = 8 + p
                · exfalso
                  have e4 := e.2.2.2
                  rw [y.1, q, show 8 + p - 8 = p by omega, nb] at e4
                  exact absurd e4 (by decide)
                · omega))
          have take : (m w).testBit p = true → tX7_join (nI p) (nI w) (sA S 30 F) (fun S2 => wX7_findParts P 33 [.ref 47, .int (nI w), .int (nI (p + 1))] [] S2) := fun tb => by
            refine joinM ok (by intro x hx16; exact hF x hx16) (by omega) (by omega) tb (fun F2 lab2 ok2 hF2 e2 keep => ?_)
            rw [sA_same]
            refine ihj (p + 1) (by omega) F2 lab2 ok2 hF2 (fun a b e hab => ?_)
            by_cases q : a = w ∧ b = 8 + p
            · rw [q.1, q.2]; exact e2
            · exact keep a b (hd a b e (by omega))
          have ok2 := hg.2.2.2.2.1 p w
          rw [ix64 (by omega) (by omega), nI_clamp (by omega), hx2.2.2.2.1 p w (by omega) (by omega), mk_neg ok2]
          refine ⟨vp_in_nI (by omega) (by decide), fun c => skip ?_, fun c => take ?_⟩
          · cases e : (m w).testBit p with
            | false => rfl
            | true =>
              rw [hm] at e
              exact absurd c (whoS_bit.mp e).2
          · rw [hm]
            exact whoS_bit.mpr ⟨hpn, c⟩
      exact inner g.1 0 (by omega) F lab ok hF (fun a b e hab => by
        rcases hab with z | z
        · exact hd a b e z
        · have := e.2.1
          omega)
  have zer : ∀ k i, i + k = 16 → ∀ F : Nat → Int32, (∀ x, x < i → F x = nI x) → wX7_findParts P 2 [.ref 47, .int (nI i), .retAddr 0] [] (sA S 30 F) := by
    intro k
    induction k with
    | zero =>
      intro i hi F hF
      have e : i = 16 := by omega
      subst e
      refine bX7_findParts_2 _ ⟨fun _ => ?_, fun c => absurd (by decide) c⟩
      exact outer g.1 0 (by omega) F (fun x => x) ⟨fun x _ => Nat.le_refl _, fun x _ => rfl, fun x y _ _ e => by have e2 : x = y := e; subst e2; exact Tied.rf m x⟩ hF (fun a b _ z => by omega)
    | succ k ih =>
      intro i hi F hF
      have hi16 : i < 16 := by omega
      refine bX7_findParts_2 _ ⟨fun c => absurd c (nI_ge (a := i) (b := 16) hi16 (by decide)), fun _ => ⟨vp_in_nI hi16 (by decide), ?_⟩⟩
      rw [nI_1, nI_clamp (by omega), sA_same]
      refine ih (i + 1) (by omega) _ (fun x hx => ?_)
      show upd F i (nI i) x = nI x
      by_cases e : x = i
      · subst e; rw [upd_eq]
      · rw [upd_ne e]; exact hF x (by omega)
  have h0 := zer 16 0 (by omega) (S.2.2.1 30) (fun x hx => by omega)
  rw [sA_self] at h0
  exact h0
theorem parts_w {P : Int32 → St → Prop} {S : St} {g : Sg} {m : Nat → Nat} (hg : Wf g) (hx : MB g S) (ho : mOk m g.1) (hm : ∀ w, w < g.1 → S.2.2.1 29 w = nI (m w)) (h : ∀ F : Nat → Int32, (∀ x, x < 16 → F x = nI (labS m x)) → wX7_parts P 88 [.ref 47, .int 0, .int 0] [] (sA S 30 F)) : wX7_parts P 13 [.ref 47, .int 0, .retAddr 0] [] S := by
  have h8 := hg.1.2
  have outer : ∀ k w, w + k = g.1 → ∀ (F : Nat → Int32) (lab : Nat → Nat), LabOk m lab → (∀ x, x < 16 → F x = nI (lab x)) → (∀ a b, ed m a b → a < w → lab a = lab b) → wX7_parts P 34 [.ref 47, .int (nI w), .retAddr 0] [] (sA S 30 F) := by
    intro k
    induction k with
    | zero =>
      intro w hw F lab ok hF hd
      have e : w = g.1 := by omega
      subst e
      refine bX7_parts_34 _ ⟨fun _ => h F (fun x hx => ?_), fun c => absurd (by show S.1 8 ≤ _; rw [hx.1]; exact nI_le (Nat.le_refl _) (by omega)) c⟩
      rw [hF x hx, lab_is ok (fun a b e => hd a b e ?_) hx]
      rcases Nat.lt_or_ge a g.1 with z | z
      · exact z
      · obtain ⟨_, _, _, e4⟩ := e
        rw [ho.2.1 a z] at e4
        simp at e4
    | succ k ih =>
      intro w hw F lab ok hF hd
      have hwn : w < g.1 := by omega
      refine bX7_parts_34 _ ⟨fun c => absurd (show nI g.1 ≤ nI w from hx.1 ▸ c) (cnt_step hwn h8), fun _ => ?_⟩
      have inner : ∀ j p, p + j = g.1 → ∀ (F : Nat → Int32) (lab : Nat → Nat), LabOk m lab → (∀ x, x < 16 → F x = nI (lab x)) → (∀ a b, ed m a b → (a < w ∨ (a = w ∧ b < 8 + p)) → lab a = lab b) → wX7_parts P 44 [.ref 47, .int (nI w), .int (nI p)] [] (sA S 30 F) := by
        intro j
        induction j with
        | zero =>
          intro p hp F lab ok hF hd
          have e : p = g.1 := by omega
          subst e
          refine bX7_parts_44 _ _ ⟨fun _ => ?_, fun c => absurd (by show S.1 8 ≤ _; rw [hx.1]; exact nI_le (Nat.le_refl _) (by omega)) c⟩
          rw [nI_1]
          refine ih (w + 1) (by omega) F lab ok hF (fun a b e hab => hd a b e ?_)
          by_cases z : a < w
          · exact Or.inl z
          · have hb := ho.2.2.1 a (b - 8) e.2.2.2
            exact Or.inr ⟨by omega, by omega⟩
        | succ j ihj =>
          intro p hp F lab ok hF hd
          have hpn : p < g.1 := by omega
          have hx2 : MB g (sA S 30 F) := hx.sr (SR.A (by decide))
          refine bX7_parts_44 _ _ ⟨fun c => absurd (show nI g.1 ≤ nI p from hx.1 ▸ c) (cnt_step hpn h8), fun _ => ?_⟩
          rw [nI_1]
          have skip : (m w).testBit p = false → wX7_parts P 44 [.ref 47, .int (nI w), .int (nI (p + 1))] [] (sA S 30 F) := fun nb => ihj (p + 1) (by omega) F lab ok hF (fun a b e hab => hd a b e (by
            by_cases z : a < w
            · exact Or.inl z
            · rcases hab with y | y
              · exact absurd y z
              · refine Or.inr ⟨y.1, ?_⟩
                by_cases q : b = 8 + p
                · exfalso
                  have e4 := e.2.2.2
                  rw [y.1, q, show 8 + p - 8 = p by omega, nb] at e4
                  exact absurd e4 (by decide)
                · omega))
          have take : (m w).testBit p = true → tX7_join (nI p) (nI w) (sA S 30 F) (fun S2 => wX7_parts P 44 [.ref 47, .int (nI w), .int (nI (p + 1))] [] S2) := fun tb => by
            refine joinM ok (by intro x hx16; exact hF x hx16) (by omega) (by omega) tb (fun F2 lab2 ok2 hF2 e2 keep => ?_)
            rw [sA_same]
            refine ihj (p + 1) (by omega) F2 lab2 ok2 hF2 (fun a b e hab => ?_)
            by_cases q : a = w ∧ b = 8 + p
            · rw [q.1, q.2]; exact e2
            · exact keep a b (hd a b e (by omega))
          refine ⟨ii hwn h8, ?_⟩
          have e29 : (sA S 30 F).2.2.1 29 w = nI (m w) := hm w hwn
          have l2 := ho.2.2.2 w
          rw [nI_clamp (by omega), e29, bit_1 (by omega) (by omega)]
          refine ⟨fun c => skip ?_, fun c => take c⟩
          cases e : (m w).testBit p with
          | false => rfl
          | true => exact absurd e c
      exact inner g.1 0 (by omega) F lab ok hF (fun a b e hab => by
        rcases hab with z | z
        · exact hd a b e z
        · have := e.2.1
          omega)
  have zer : ∀ k i, i + k = 16 → ∀ F : Nat → Int32, (∀ x, x < i → F x = nI x) → wX7_parts P 13 [.ref 47, .int (nI i), .retAddr 0] [] (sA S 30 F) := by
    intro k
    induction k with
    | zero =>
      intro i hi F hF
      have e : i = 16 := by omega
      subst e
      refine bX7_parts_13 _ ⟨fun _ => ?_, fun c => absurd (by decide) c⟩
      exact outer g.1 0 (by omega) F (fun x => x) ⟨fun x _ => Nat.le_refl _, fun x _ => rfl, fun x y _ _ e => by have e2 : x = y := e; subst e2; exact Tied.rf m x⟩ hF (fun a b _ z => by omega)
    | succ k ih =>
      intro i hi F hF
      have hi16 : i < 16 := by omega
      refine bX7_parts_13 _ ⟨fun c => absurd c (nI_ge (a := i) (b := 16) hi16 (by decide)), fun _ => ⟨vp_in_nI hi16 (by decide), ?_⟩⟩
      rw [nI_1, nI_clamp (by omega), sA_same]
      refine ih (i + 1) (by omega) _ (fun x hx => ?_)
      show upd F i (nI i) x = nI x
      by_cases e : x = i
      · subst e; rw [upd_eq]
      · rw [upd_ne e]; exact hF x (by omega)
  have h0 := zer 16 0 (by omega) (S.2.2.1 30) (fun x hx => by omega)
  rw [sA_self] at h0
  exact h0
theorem findPartsM {P : St → Prop} {S : St} {g : Sg} (hg : Wf g) (hx : MB g S) (h : ∀ F : Nat → Int32, (∀ x, x < 16 → F x = nI (labS (whoS g) x)) → P (sA S 30 F)) : tX7_findParts S P := bX7_findParts_0 (findParts_w hg hx (whoS_ok hg) rfl h)
theorem labS_lt {m : Nat → Nat} {x : Nat} (hx : x < 16) : labS m x < 16 := by have := (labS_spec (m := m) hx).1; omega
theorem sizeOfM {P : Int32 → St → Prop} {S : St} {m : Nat → Nat} (hl : ∀ x, x < 16 → S.2.2.1 30 x = nI (labS m x)) {r : Nat} (hr : r < 16) (h : P (nI (szS m r)) S) : tX7_sizeOf (nI r) S P := by
  refine bX7_sizeOf_0 _ ?_
  refine loop_dn (fun i => wX7_sizeOf P 4 [.ref 47, .int (nI r), .int (nI (lsum (fun z => if labS m z = r then 1 else 0) i)), .int (nI i)] [] S) 16 (fun i hi ih => ?_) ?_
  · refine bX7_sizeOf_4 _ _ _ ⟨fun c => absurd c (nI_ge (a := i) (b := 16) hi (by decide)), fun _ => ⟨vp_in_nI hi (by decide), ?_⟩⟩
    have l := labS_lt (m := m) hi
    rw [nI_1, nI_1, nI_clamp (by omega), hl i hi, nI_eq (by omega) (by omega), show ∀ a, nI a + 0 = nI a from fun a => Int32.add_zero _]
    have ih2 : wX7_sizeOf P 4 [.ref 47, .int (nI r), .int (nI (lsum (fun z => if labS m z = r then 1 else 0) i + if labS m i = r then 1 else 0)), .int (nI (i + 1))] [] S := ih
    refine ⟨fun c => ?_, fun c => ?_⟩
    · rw [if_neg c] at ih2; exact ih2
    · rw [if_pos c] at ih2; exact ih2
  · exact bX7_sizeOf_4 _ _ _ ⟨fun _ => h, fun c => absurd (by decide) c⟩
theorem szS_le (m : Nat → Nat) (r : Nat) : szS m r ≤ 16 := lsum_le1 (fun i => by split <;> omega) 16
theorem numberOfM {P : Int32 → St → Prop} {S : St} {m : Nat → Nat} {n : Nat} (ho : mOk m n) (hl : ∀ x, x < 16 → S.2.2.1 30 x = nI (labS m x)) {r : Nat} (hr : r < 16) (hrl : labS m r = r) (h : P (oI (if rtB m r then some (rtc m r) else none)) S) : tX7_numberOf (nI r) S P := by
  refine bX7_numberOf_0 _ ?_
  have hrt : ∀ x, x < 16 → labS m x = x → (szS m x ≤ 1 ↔ ¬ rtB m x = true) := fun x hx e => by
    rw [szS_root ho hx e, rtB_t]
    refine not_congr ⟨fun z => ⟨e, z.2⟩, fun z => ⟨?_, z.2⟩⟩
    rcases Nat.lt_or_ge x n with y | y
    · exact y
    · exact absurd (ho.2.1 x y) z.2
  refine loop_dn (fun i => wX7_numberOf P 4 [.ref 47, .int (nI r), .int (nI (rtc m i)), .int (nI i)] [] S) r (fun i hi ih => ?_) ?_
  · refine bX7_numberOf_4 _ _ _ ⟨fun c => absurd c (nI_ge hi (by omega)), fun _ => ⟨vp_in_nI (by omega) (by decide), ?_⟩⟩
    have l := labS_lt (m := m) (show i < 16 by omega)
    rw [nI_1, nI_1, nI_clamp (by omega), hl i (by omega), nI_eq (by omega) (by omega), show ∀ a, nI a + 0 = nI a from fun a => Int32.add_zero _]
    unfold rtc at ih
    refine ⟨fun c => ?_, fun c => sizeOfM hl (by omega) ?_⟩
    · rw [if_neg (fun z => c (rtB_t.mp z).1)] at ih; exact ih
    · have := szS_le m i
      rw [show (1 : Int32) = nI 1 from rfl, nI_leI (by omega) (by decide), hrt i (by omega) c]
      refine ⟨fun c2 => ?_, fun c2 => ?_⟩
      · rw [if_neg c2] at ih; exact ih
      · rw [if_pos (Classical.byContradiction c2)] at ih; exact ih
  · refine bX7_numberOf_4 _ _ _ ⟨fun _ => sizeOfM hl hr ?_, fun c => absurd (nI_le (Nat.le_refl _) (by omega)) c⟩
    have := szS_le m r
    rw [show (1 : Int32) = nI 1 from rfl, nI_leI (by omega) (by decide), hrt r hr hrl]
    refine ⟨fun c2 => ?_, fun c2 => ?_⟩
    · rw [if_neg c2] at h; exact h
    · rw [if_pos (Classical.byContradiction c2)] at h; exact h
/-- pieces with more nodes than a number -/
noncomputable def pgc (m : Nat → Nat) (k : Nat) : Nat → Nat
  | 0 => 0
  | i + 1 => pgc m k i + if labS m i = i ∧ k < szS m i then 1 else 0
theorem piecesM {P : Int32 → St → Prop} {S : St} {g : Sg} {m : Nat → Nat} (hg : Wf g) (hx : MB g S) (hl : ∀ x, x < 16 → S.2.2.1 30 x = nI (labS m x)) {k : Nat} (hk : k < 16) (h : P (nI (pgc m k g.1)) S) : tX7_pieces (nI k) S P := by
  have h8 := hg.1.2
  refine bX7_pieces_0 _ ?_
  refine loop_dn (fun i => wX7_pieces P 4 [.ref 47, .int (nI k), .int (nI (pgc m k i)), .int (nI i)] [] S) g.1 (fun i hi ih => ?_) ?_
  · refine bX7_pieces_4 _ _ _ ⟨fun c => absurd (hx.1 ▸ c) (cnt_step hi h8), fun _ => ⟨vp_in_nI (by omega) (by decide), ?_⟩⟩
    have l := labS_lt (m := m) (show i < 16 by omega)
    rw [nI_1, nI_1, nI_clamp (by omega), hl i (by omega), nI_eq (by omega) (by omega), show ∀ a, nI a + 0 = nI a from fun a => Int32.add_zero _]
    unfold pgc at ih
    refine ⟨fun c => ?_, fun c => sizeOfM hl (by omega) ?_⟩
    · rw [if_neg (fun z => c z.1)] at ih; exact ih
    · have := szS_le m i
      rw [nI_leI (by omega) (by omega)]
      refine ⟨fun c2 => ?_, fun c2 => ?_⟩
      · rw [if_neg (fun z => by omega)] at ih; exact ih
      · rw [if_pos ⟨c, by omega⟩] at ih; exact ih
  · exact bX7_pieces_4 _ _ _ ⟨fun _ => h, fun c => absurd (by rw [hx.1]; exact nI_le (Nat.le_refl _) (by omega)) c⟩
theorem pgc_1 {m : Nat → Nat} {n : Nat} (ho : mOk m n) : ∀ i, i ≤ n → pgc m 1 i = rtc m i
  | 0, _ => rfl
  | i + 1, hi => by
    have h8 := ho.1
    unfold pgc rtc
    rw [pgc_1 ho i (by omega)]
    congr 1
    by_cases e : labS m i = i
    · have := szS_root ho (show i < 16 by omega) e
      by_cases z : m i = 0
      · rw [if_neg (fun y => by have := this.mpr (fun q => q.2 z); omega), if_neg (fun y => (rtB_t.mp y).2 z)]
      · rw [if_pos ⟨e, by
          rcases Nat.lt_or_ge 1 (szS m i) with y | y
          · exact y
          · exact absurd ⟨hi, z⟩ (this.mp y)⟩, if_pos (rtB_t.mpr ⟨e, z⟩)]
    · rw [if_neg (fun z => e z.1), if_neg (fun z => e (rtB_t.mp z).1)]
theorem pgc_10 {g : Sg} (hg : Wf g) : ∀ i, i ≤ g.1 → pgc (whoS g) 10 i = lgc g i
  | 0, _ => rfl
  | i + 1, hi => by
    have h8 := hg.1.2
    have ho := whoS_ok hg
    unfold pgc lgc
    rw [pgc_10 hg i (by omega)]
    congr 1
    by_cases e : labS (whoS g) i = i
    · have := szS_root ho (show i < 16 by omega) e
      by_cases z : whoS g i = 0
      · rw [if_neg (fun y => by have := this.mpr (fun q => q.2 z); omega), if_neg (fun y => by rw [Bool.and_eq_true] at y; exact (rtB_t.mp y.1).2 z)]
      · unfold lgB
        by_cases y : 10 < szS (whoS g) i
        · rw [if_pos ⟨e, y⟩, if_pos (by rw [Bool.and_eq_true, decide_eq_true_iff]; exact ⟨rtB_t.mpr ⟨e, z⟩, y⟩)]
        · rw [if_neg (fun q => y q.2), if_neg (fun q => by rw [Bool.and_eq_true, decide_eq_true_iff] at q; exact y q.2)]
    · rw [if_neg (fun z => e z.1), if_neg (fun z => by rw [Bool.and_eq_true] at z; exact e (rtB_t.mp z.1).1)]
/-! the calls piece and count -/
theorem pieceX {P : Int32 → St → Prop} {S : St} {g : Sg} {Sol : Sg → Nat → St → Prop} (hg : Wf g) (hx : XB g S) (hp : XP Sol g S) {a b : Int32} (h0 : ∀ w S1, w < g.1 → a = nI w → b = 0 → SameP S S1 → XPf Sol g S1 → P (oI (pcW g w)) S1) (h1 : ∀ p S1, p < g.1 → a = nI p → b = 1 → SameP S S1 → XPf Sol g S1 → P (oI (pcP g p)) S1) (hu : unk1 g.1 a → P (-1001) S) (ho : ¬ unk1 g.1 a → b ≠ 0 → b ≠ 1 → P (-1002) S) : tX6_piece a b S P := by
  have h8 := hg.1.2
  refine bX6_piece_0 _ _ (holds_ok hx.1 h8 (fun i hi ea => ⟨fun _ => ?_, fun z => absurd z (by decide)⟩) (fun c => ⟨fun z => absurd rfl z, fun _ => hu (fun p hp e => nI_out h8 c hp e)⟩))
  have nu : ¬ unk1 g.1 a := fun z => z i hi ea
  subst ea
  have dw : b = 0 → tX4_ofWork (nI i) S (fun r4 S3 => P r4 S3) := fun e => bX4_ofWork_0 _ (refreshP hg hx hp (fun S1 hs hf => whichHas_34 hg hf hi (h0 i S1 hi rfl e hs hf)))
  have dm : b = 1 → tX4_ofMarker (nI i) S (fun r4 S3 => P r4 S3) := fun e => bX4_ofMarker_0 _ (refreshP hg hx hp (fun S1 hs hf => whichHas_35 hg hf hi (h1 i S1 hi rfl e hs hf)))
  refine ⟨fun e => ⟨fun z => absurd e z, fun _ => dw e⟩, fun e => ⟨fun e1 => ⟨fun _ => dm e1, fun z => absurd z e⟩, fun e1 => ho nu e e1⟩⟩
theorem pieceM {P : Int32 → St → Prop} {S : St} {g : Sg} (hg : Wf g) (hx : MB g S) {a b : Int32} (h0 : ∀ w S1, w < g.1 → a = nI w → b = 0 → SR S S1 → P (oI (pcW g w)) S1) (h1 : ∀ p S1, p < g.1 → a = nI p → b = 1 → SR S S1 → P (oI (pcP g p)) S1) (hu : unk1 g.1 a → P (-1001) S) (ho : ¬ unk1 g.1 a → b ≠ 0 → b ≠ 1 → P (-1002) S) : tX7_piece a b S P := by
  have h8 := hg.1.2
  have h2 := hg.1.1
  have hok := whoS_ok hg
  refine bX7_piece_0 _ _ (is_ok hx.1 (by omega) h8 (fun i hi ea => ⟨fun _ => ?_, fun z => absurd z (by decide)⟩) (fun c => ⟨fun z => absurd rfl z, fun _ => hu (fun p hp e => nI_out h8 c hp e)⟩))
  have nu : ¬ unk1 g.1 a := fun z => z i hi ea
  subst ea
  refine in_ok (fun c1 c2 => ⟨fun _ => ?_, fun z => absurd z (by decide)⟩) (fun c => ⟨fun z => absurd rfl z, fun _ => ho nu (fun z => ?_) (fun z => ?_)⟩)
  · rw [Int32.toInt_toInt64] at c1 c2
    have hb : b = 0 ∨ b = 1 := by
      have d1 : (0 : Int) ≤ b.toInt := c1
      have d2 : b.toInt ≤ 1 := c2
      rcases (show b.toInt = 0 ∨ b.toInt = 1 by omega) with z | z
      · exact Or.inl (Int32.toInt_inj.mp z)
      · exact Or.inr (Int32.toInt_inj.mp z)
    refine findPartsM hg hx (fun F hF => ?_)
    have hs : SR S (sA S 30 F) := SR.A (by decide)
    have go : ∀ x, x < 16 → (∀ S1, S1 = sA S 30 F → P (oI (if rtB (whoS g) (labS (whoS g) x) then some (rtc (whoS g) (labS (whoS g) x)) else none)) S1) → tX7_numberOf ((sA S 30 F).2.2.1 30 x) (sA S 30 F) (fun r8 S7 => P r8 S7) := fun x hx16 hh => by
      rw [show (sA S 30 F).2.2.1 30 x = nI (labS (whoS g) x) from hF x hx16]
      exact numberOfM hok hF (labS_lt hx16) (labS_lab hx16) (hh _ rfl)
    rcases hb with e | e
    · subst e
      rw [show (8 : Int32) * 0 + nI i = nI i from by rw [show (8 : Int32) * 0 = 0 from rfl, Int32.zero_add], nI_clamp (by omega)]
      refine ⟨vp_in_nI (by omega) (by decide), go i (by omega) (fun S1 e1 => ?_)⟩
      subst e1
      have := h0 i _ hi rfl rfl hs
      unfold pcW at this
      by_cases z : whoS g i = 0
      · rw [if_pos z] at this
        rw [if_neg (fun y => ?_)]
        · exact this
        · have t := (labS_spec (m := whoS g) (show i < 16 by omega)).2.1
          have := Tied.lone z (by omega) t
          rw [this] at y
          exact (rtB_t.mp y).2 z
      · rw [if_neg z] at this
        rw [if_pos (root_w hok hi z).2]
        exact this
    · subst e
      rw [show (8 : Int32) * 1 + nI i = nI (8 + i) from by rw [show (8 : Int32) * 1 = nI 8 from rfl, nI_add], nI_clamp (by omega)]
      refine ⟨vp_in_nI (by omega) (by decide), go (8 + i) (by omega) (fun S1 e1 => ?_)⟩
      subst e1
      have := h1 i _ hi rfl rfl hs
      unfold pcP at this
      exact this
  · subst z
    rcases c with c | c
    · exact absurd c (by decide)
    · exact absurd c (by decide)
  · subst z
    rcases c with c | c
    · exact absurd c (by decide)
    · exact absurd c (by decide)
