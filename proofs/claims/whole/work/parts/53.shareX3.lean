/-! ===== sharing, the class's programs: a plan, the first plan ===== -/
abbrev PlanG (g : Sg) (M : Nat → Nat → Bool) : Prop := PlanF g.1 (g.2.2.1 0) (fun _ => g.2.2.1 1) (canS g) 0 M
def NoPlan (g : Sg) : Prop := ∀ N, ¬ PlanG g N
theorem bad_noplan {g : Sg} (h : ∃ T : Nat → Bool, (∀ w, T w = true → 0 ≤ w ∧ w < g.1) ∧ Rm (fun _ => g.2.2.1 1) (canS g) T < g.2.2.1 0 * szT T) : NoPlan g := fun N hN => by
  obtain ⟨T, a, b⟩ := h
  have := hall_nec hN a
  omega
theorem setM_back {M : Nat → Nat → Bool} {w p : Nat} (h : M w p = false) : setM (setM M w p true) w p false = M := by
  funext v x
  by_cases e : v = w ∧ x = p
  · rw [e.1, e.2, setM_eq, h]
  · rw [setM_ne e, setM_ne e]
theorem flip_back {M : Nat → Nat → Bool} {w p q : Nat} (hp : M w p = true) (hq : M w q = false) : setM (setM (flipM M w p q) w q false) w p true = M := by
  have hpq : p ≠ q := fun z => by rw [z, hq] at hp; exact absurd hp (by decide)
  funext v x
  unfold flipM
  by_cases e : v = w ∧ x = p
  · rw [e.1, e.2, setM_eq, hp]
  · rw [setM_ne e]
    by_cases e2 : v = w ∧ x = q
    · rw [e2.1, e2.2, setM_eq, hq]
    · rw [setM_ne e2, setM_ne e2, setM_ne e]
theorem free_bit {g : Sg} (hg : Wf g) (M : Nat → Nat → Bool) {w p : Nat} (hw : w < g.1) (hp : p < 8) : (nd (mayS g w) (msk (M w) 8)).testBit p = true ↔ canS g w p = true ∧ M w p = false := by
  rw [nd_bit _ _ (mayS_lt hg w), m8_bit M hp]
  unfold canS
  simp only [Bool.and_eq_true, Bool.not_eq_true', decide_eq_true_iff]
  exact ⟨fun ⟨a, b⟩ => ⟨⟨hw, a⟩, b⟩, fun ⟨⟨_, a⟩, b⟩ => ⟨a, b⟩⟩
theorem findMarkerX {P : Int32 → St → Prop} {S : St} {g : Sg} (hg : Wf g) (hx : XB g S) {M : Nat → Nat → Bool} (hm : XM M S) (hMc : ∀ w p, M w p = true → canS g w p = true) (hcol : ∀ p, p < 8 → colN M p ≤ g.2.2.1 1) (hrow : ∀ v, rowN M v ≤ g.2.2.1 0) {w : Nat} (hw : w < g.1) (hlt : rowN M w < g.2.2.1 0)
    (h1 : ∀ (M2 : Nat → Nat → Bool) S1, FrA [11, 12, 13, 14] S S1 → XM M2 S1 → (∀ w p, M2 w p = true → canS g w p = true) → (∀ p, p < 8 → colN M2 p ≤ g.2.2.1 1) → (∀ v, rowN M2 v = rowN M v + if v = w then 1 else 0) → P 1 S1)
    (h0 : ∀ S1, FrA [11, 12, 13, 14] S S1 → NoPlan g → P 0 S1) : tX5_findMarker (nI w) S P := by
  have h8 := hg.1.2
  have L8 := hg.2.2.2.1
  refine bX5_findMarker_0 _ (mayMark_ok hg hx (by omega) ⟨ii hw h8, ?_⟩)
  rw [nI_clamp (by omega), hm.1 w (by omega), nI_nd _ (mayS_lt hg w)]
  have key : ∀ k p, p + k = g.1 → ∀ S1, FrA [11, 12, 13, 14] S S1 → XM M S1 → ((∀ q, q < p → canS g w q = true → M w q = true) ∨ NoPlan g) → wX5_findMarker P 20 [.ref 15, .int (nI w), .int (nI (nd (mayS g w) (msk (M w) 8))), .int (nI p)] [] S1 := by
    intro k
    induction k with
    | zero =>
      intro p hp S1 fr xm inv
      have e : p = g.1 := by omega
      subst e
      have hx1 := hx.frA fr (by decide)
      refine bX5_findMarker_20 _ _ _ ⟨fun _ => h0 S1 fr ?_, fun c => absurd (by rw [hx1.1]; exact nI_le (Nat.le_refl _) (by omega)) c⟩
      rcases inv with inv | inv
      · refine bad_noplan (hall_bad (M := M) (w1 := w) (R := fun _ => False) canS_in h8 (fun w p h => ⟨hMc w p h, Nat.zero_le _⟩) hrow ⟨Nat.zero_le _, hw⟩ hlt (fun q c m => ?_) (fun x v q z => z.elim) (fun q _ z => z.elim))
        rw [inv q (canS_in w q c).2 c] at m
        exact absurd m (by decide)
      · exact inv
    | succ k ih =>
      intro p hp S1 fr xm inv
      have hpn : p < g.1 := by omega
      have hx1 := hx.frA fr (by decide)
      refine bX5_findMarker_20 _ _ _ ⟨fun c => absurd (hx1.1 ▸ c) (cnt_step hpn h8), fun _ => ?_⟩
      rw [nI_1]
      refine has_ok (nd_lt _ (mayS_lt hg w)) (by omega) (fun e => ⟨fun z => absurd z (by decide), fun _ => ?_⟩) (fun e => ⟨fun _ => ih (p + 1) (by omega) S1 fr xm ?_, fun z => absurd rfl z⟩)
      · obtain ⟨hc, hf⟩ := (free_bit hg M hw (by omega)).mp e
        refine takeX xm (by omega) (by omega) hf (fun S2 fr2 xm2 => ⟨ii hpn h8, ?_⟩)
        have fr2' : FrA [11, 12, 13, 14] S1 S2 := fr2.mono (by decide)
        have hx2 := hx1.frA fr2' (by decide)
        have mc2 : ∀ v x, setM M w p true v x = true → canS g v x = true := fun v x hv => by
          by_cases z : v = w ∧ x = p
          · rw [z.1, z.2]; exact hc
          · rw [setM_ne z] at hv; exact hMc v x hv
        have rows : ∀ v, rowN (setM M w p true) v = rowN M v + if v = w then 1 else 0 := fun v => by
          by_cases z : v = w
          · subst z
            have := rowN_set (M := M) (w := v) (p := p) (b := true) (by omega)
            rw [hf] at this
            rw [if_pos rfl]
            exact this
          · rw [rowN_ne z, if_neg z]; rfl
        have cp : colN (setM M w p true) p = colN M p + 1 := by
          have := colN_set (M := M) (w := w) (p := p) (b := true) (by omega)
          rw [hf] at this
          exact this
        have c8 := colN_le (setM M w p true) p
        rw [nI_clamp (by omega), xm2.2 p (by omega), hx2.2.2.1 1 (by decide), nI_leI (by omega) (by omega)]
        refine ⟨fun c => h1 _ S2 (fr.tr fr2') xm2 mc2 (fun x hx8 => ?_) rows, fun c => ?_⟩
        · by_cases z : x = p
          · rw [z]; exact c
          · rw [colN_ne z]; exact hcol x hx8
        · refine passOnX hg hx2 xm2 mc2 (first := 0) hpn (Nat.zero_le _) (fun M2 S3 fin fr3 xm3 mc3 r3 c3 f3 nf f8 room => ⟨fun z => absurd z (by decide), fun _ => h1 M2 S3 ((fr.tr fr2').tr fr3) xm3 mc3 (fun x hx8 => ?_) (fun v => by rw [r3, rows])⟩) (fun S3 C fr3 cs ccl csat => ⟨fun _ => ?_, fun z => absurd rfl z⟩)
          · have q := c3 x
            by_cases z : x = p
            · subst z
              rw [if_pos rfl, if_neg (fun z => nf z.symm)] at q
              have := hcol x hx8
              omega
            · rw [if_neg z] at q
              by_cases y : x = fin
              · subst y
                rw [if_pos rfl] at q
                omega
              · rw [if_neg y, colN_ne z] at q
                have := hcol x hx8
                omega
          · have xm3 : XM (setM M w p true) S3 := xm2.fr fr3 (by decide) (by decide)
            have fr3' : FrA [11, 12, 13, 14] S2 S3 := fr3.mono (by decide)
            refine dropX xm3 (by omega) (by omega) (setM_eq _ _ _ _) (fun S4 fr4 xm4 => ?_)
            rw [setM_back hf] at xm4
            refine ih (p + 1) (by omega) S4 (((fr.tr fr2').tr fr3').tr (fr4.mono (by decide))) xm4 (Or.inr ?_)
            refine bad_noplan (hall_bad (M := M) (w1 := w) (R := C) canS_in h8 (fun w p h => ⟨hMc w p h, Nat.zero_le _⟩) hrow ⟨Nat.zero_le _, hw⟩ hlt (fun q c1 m => ?_) (fun x v q hcx m c1 m2 => ?_) (fun q hq8 hcq => ?_))
            · by_cases z : q = p
              · rw [z]; exact cs
              · exact ccl p w q (Nat.zero_le _) cs (setM_eq _ _ _ _) c1 (by rw [setM_ne (fun y => z y.2)]; exact m)
            · by_cases z : v = w ∧ q = p
              · rw [z.2]; exact cs
              · refine ccl x v q (Nat.zero_le _) hcx ?_ c1 (by rw [setM_ne z]; exact m2)
                by_cases y : v = w ∧ x = p
                · rw [y.1, y.2]; exact setM_eq _ _ _ _
                · rw [setM_ne y]; exact m
            · by_cases z : q = p
              · subst z
                omega
              · have := csat q hq8 hcq z
                rw [colN_ne z] at this
                exact this
      · rcases inv with inv | inv
        · refine Or.inl (fun q hq hc => ?_)
          by_cases z : q = p
          · subst z
            cases m : M w q with
            | true => rfl
            | false => rw [(free_bit hg M hw (by omega)).mpr ⟨hc, m⟩] at e; exact absurd e (by decide)
          · exact inv q (by omega) hc
        · exact Or.inr inv
  exact key g.1 0 (by omega) S (FrA.rf _ S) hm (Or.inl (fun q hq => by omega))
theorem findAnyPlanX {P : Int32 → St → Prop} {S : St} {g : Sg} (hg : Wf g) (hx : XB g S) (h1 : ∀ M S1, FrA [11, 12, 13, 14] S S1 → XM M S1 → PlanG g M → P 1 S1) (h0 : ∀ S1, FrA [11, 12, 13, 14] S S1 → NoPlan g → P 0 S1) : tX5_findAnyPlan S P := by
  have h8 := hg.1.2
  have L8 := hg.2.2.2.1
  refine bX5_findAnyPlan_0 ?_
  have fr0 : FrA [11, 12, 13, 14] S (sA (sA S 11 (wfill (S.2.2.1 11) 8 0)) 12 (wfill (S.2.2.1 12) 8 0)) := (FrA.A (by decide)).tr (FrA.A (by decide))
  have xm0 : XM (fun _ _ => false) (sA (sA S 11 (wfill (S.2.2.1 11) 8 0)) 12 (wfill (S.2.2.1 12) 8 0)) := by
    refine ⟨fun w hw => ?_, fun p hp => ?_⟩
    · show wfill (S.2.2.1 11) 8 0 w = _
      rw [wfill, if_pos hw]
      exact (by decide : (0 : Int32) = nI (msk (fun _ => false) 8))
    · show wfill (S.2.2.1 12) 8 0 p = _
      rw [wfill, if_pos hp, show colN (fun _ _ => false) p = 0 from lsum_zero (fun _ _ => rfl)]
      rfl
  have key : ∀ k w, w + k = g.1 → ∀ (M : Nat → Nat → Bool) S1, FrA [11, 12, 13, 14] S S1 → XM M S1 → (∀ w p, M w p = true → canS g w p = true) → (∀ p, p < 8 → colN M p ≤ g.2.2.1 1) → (∀ v, rowN M v = if v < w then g.2.2.1 0 else 0) → wX5_findAnyPlan P 18 [.ref 15, .int (nI w), .retAddr 0] [] S1 := by
    intro k
    induction k with
    | zero =>
      intro w hw M S1 fr xm mc col row
      have e : w = g.1 := by omega
      subst e
      have hx1 := hx.frA fr (by decide)
      refine bX5_findAnyPlan_18 _ ⟨fun _ => h1 M S1 fr xm ⟨fun w p h => ⟨mc w p h, Nat.zero_le _⟩, fun w _ hw => ?_, col⟩, fun c => absurd (by rw [hx1.1]; exact nI_le (Nat.le_refl _) (by omega)) c⟩
      rw [row w, if_pos hw]
    | succ k ih =>
      intro w hw M S1 fr xm mc col row
      have hwn : w < g.1 := by omega
      have hx1 := hx.frA fr (by decide)
      refine bX5_findAnyPlan_18 _ ⟨fun c => absurd (hx1.1 ▸ c) (cnt_step hwn h8), fun _ => ?_⟩
      have inner : ∀ j t, t + j = g.2.2.1 0 → ∀ (M : Nat → Nat → Bool) S1, FrA [11, 12, 13, 14] S S1 → XM M S1 → (∀ w p, M w p = true → canS g w p = true) → (∀ p, p < 8 → colN M p ≤ g.2.2.1 1) → (∀ v, rowN M v = if v < w then g.2.2.1 0 else if v = w then t else 0) → wX5_findAnyPlan P 31 [.ref 15, .int (nI w), .int (nI t)] [] S1 := by
        intro j
        induction j with
        | zero =>
          intro t ht M S1 fr xm mc col row
          have e : t = g.2.2.1 0 := by omega
          subst e
          have hx1 := hx.frA fr (by decide)
          refine bX5_findAnyPlan_31 _ _ ⟨fun _ => ?_, fun c => absurd (by rw [hx1.2.2.1 0 (by decide)]; exact nI_le (Nat.le_refl _) (by omega)) c⟩
          rw [nI_1]
          refine ih (w + 1) (by omega) M S1 fr xm mc col (fun v => ?_)
          rw [row v]
          rcases Nat.lt_trichotomy v w with z | z | z
          · rw [if_pos z, if_pos (by omega)]
          · rw [if_neg (by omega), if_pos z, if_pos (by omega)]
          · rw [if_neg (by omega), if_neg (by omega), if_neg (by omega)]
        | succ j ihj =>
          intro t ht M S1 fr xm mc col row
          have hx1 := hx.frA fr (by decide)
          refine bX5_findAnyPlan_31 _ _ ⟨fun c => absurd (hx1.2.2.1 0 (by decide) ▸ c) (nI_ge (by omega) (by omega)), fun _ => ?_⟩
          refine findMarkerX hg hx1 xm mc col (fun v => ?_) hwn ?_ (fun M2 S2 fr2 xm2 mc2 col2 row2 => ⟨fun _ => ?_, fun z => absurd z (by decide)⟩) (fun S2 fr2 np => ⟨fun z => absurd rfl z, fun _ => h0 S2 (fr.tr fr2) np⟩)
          · rw [row v]; split
            · exact Nat.le_refl _
            · split <;> omega
          · rw [row w, if_neg (by omega), if_pos rfl]; omega
          · rw [nI_1]
            refine ihj (t + 1) (by omega) M2 S2 (fr.tr fr2) xm2 mc2 col2 (fun v => ?_)
            rw [row2 v, row v]
            rcases Nat.lt_trichotomy v w with z | z | z
            · rw [if_pos z, if_neg (by omega), if_pos z]; rfl
            · rw [if_neg (by omega), if_pos z, if_pos z, if_neg (by omega), if_pos z]
            · rw [if_neg (by omega), if_neg (by omega), if_neg (by omega), if_neg (by omega), if_neg (by omega)]
      refine inner (g.2.2.1 0) 0 (by omega) M S1 fr xm mc col (fun v => ?_)
      rw [row v]
      split
      · rfl
      · split <;> rfl
  refine key g.1 0 (by omega) _ _ fr0 xm0 (fun w p h => absurd h (by decide)) (fun p _ => ?_) (fun v => ?_)
  · rw [show colN (fun _ _ => false) p = 0 from lsum_zero (fun _ _ => rfl)]; exact Nat.zero_le _
  · rw [show rowN (fun _ _ => false) v = 0 from lsum_zero (fun _ _ => rfl), if_neg (by omega)]
abbrev gfG (g : Sg) (M : Nat → Nat → Bool) (w p : Nat) : Prop := gfAt g.1 (g.2.2.1 0) (fun _ => g.2.2.1 1) (canS g) M w p
theorem bringInX {P : St → Prop} {S : St} {g : Sg} (hg : Wf g) (hx : XB g S) {M : Nat → Nat → Bool} (hm : XM M S) (hpl : PlanG g M) {w p : Nat} (hc : canS g w p = true) (hf : M w p = false) (h : ∀ (M2 : Nat → Nat → Bool) S1, FrA [11, 12, 13, 14] S S1 → XM M2 S1 → PlanG g M2 → (∀ v x, before v x w p → M2 v x = M v x) → gfG g M2 w p → P S1) : tX5_bringIn (nI w) (nI p) S P := by
  have h8 := hg.1.2
  have L8 := hg.2.2.2.1
  obtain ⟨hw, hp⟩ := canS_in w p hc
  obtain ⟨pl1, pl2, pl3⟩ := hpl
  have hMc : ∀ w p, M w p = true → canS g w p = true := fun v x h => (pl1 v x h).1
  refine bX5_bringIn_0 _ _ ?_
  rw [nI_1]
  have key : ∀ k l, l + k = g.1 → p < l → ∀ S1, FrA [11, 12, 13, 14] S S1 → XM M S1 → (∀ y, p < y → y < l → M w y = true → ∃ C : Nat → Prop, C p ∧ (∀ x v q, w < v → C x → M v x = true → canS g v q = true → M v q = false → C q) ∧ ¬ C y ∧ ∀ x, x < 8 → C x → g.2.2.1 1 ≤ colN M x) → wX5_bringIn P 4 [.ref 15, .int (nI w), .int (nI p), .int (nI l)] [] S1 := by
    intro k
    induction k with
    | zero =>
      intro l hl hpl2 S1 fr xm inv
      have e : l = g.1 := by omega
      subst e
      have hx1 := hx.frA fr (by decide)
      refine bX5_bringIn_4 _ _ _ ⟨fun _ => h M S1 fr xm ⟨pl1, pl2, pl3⟩ (fun _ _ _ => rfl) ?_, fun c => absurd (by rw [hx1.1]; exact nI_le (Nat.le_refl _) (by omega)) c⟩
      rcases Classical.em (∃ y, p < y ∧ M w y = true) with ⟨y, hy, my⟩ | no
      · have yn := (canS_in w y (hMc w y my)).2
        refine bring_fail (R := fun x => ∀ C : Nat → Prop, C p → (∀ x v q, w < v → C x → M v x = true → canS g v q = true → M v q = false → C q) → C x) canS_in h8 ⟨pl1, pl2, pl3⟩ hc hf (fun C a _ => a) (fun x v q hv hR m1 c1 m2 C a b => b x v q hv (hR C a b) m1 c1 m2) (fun x hpx mx hR => ?_) (fun x hx8 hR => ?_)
        · obtain ⟨C, a, b, c, d⟩ := inv x hpx (canS_in w x (hMc w x mx)).2 mx
          exact c (hR C a b)
        · obtain ⟨C, a, b, c, d⟩ := inv y hy yn my
          exact d x hx8 (hR C a b)
      · refine bring_none ⟨pl1, pl2, pl3⟩ hw (by omega) hf (fun x hpx => ?_)
        cases e : M w x with
        | false => rfl
        | true => exact absurd ⟨x, hpx, e⟩ no
    | succ k ih =>
      intro l hl hpl2 S1 fr xm inv
      have hln : l < g.1 := by omega
      have hx1 := hx.frA fr (by decide)
      refine bX5_bringIn_4 _ _ _ ⟨fun c => absurd (hx1.1 ▸ c) (cnt_step hln h8), fun _ => ⟨ii hw h8, ?_⟩⟩
      rw [nI_1, nI_1, nI_clamp (by omega), xm.1 w (by omega)]
      refine has_ok (msk_lt _ (Nat.le_refl _)) (by omega) (fun e => ⟨fun z => absurd z (by decide), fun _ => ?_⟩) (fun e => ⟨fun _ => ih (l + 1) (by omega) (by omega) S1 fr xm (fun y hy hyl my => inv y hy ?_ my), fun z => absurd rfl z⟩)
      · rw [m8_bit M (by omega)] at e
        refine dropX xm (by omega) (by omega) e (fun S2 fr2 xm2 => takeX xm2 (by omega) (by omega) (by rw [setM_ne (fun z => by omega)]; exact hf) (fun S3 fr3 xm3 => ⟨ii hp h8, ?_⟩))
        have fr3' : FrA [11, 12, 13, 14] S1 S3 := (fr2.mono (by decide)).tr (fr3.mono (by decide))
        have hx3 := hx1.frA fr3' (by decide)
        have xm3' : XM (flipM M w l p) S3 := xm3
        obtain ⟨r1, c1⟩ := flip_facts (show w < 8 by omega) (show l < 8 by omega) (show p < 8 by omega) e hf
        have mc1 : ∀ v x, flipM M w l p v x = true → canS g v x = true := fun v x hv => by
          unfold flipM at hv
          by_cases z : v = w ∧ x = p
          · rw [z.1, z.2]; exact hc
          · rw [setM_ne z] at hv
            by_cases y : v = w ∧ x = l
            · rw [y.1, y.2, setM_eq] at hv; exact absurd hv (by decide)
            · rw [setM_ne y] at hv; exact hMc v x hv
        have bef : ∀ v x, before v x w p → flipM M w l p v x = M v x := fun v x hb => by
          unfold flipM
          have n1 : ¬ (v = w ∧ x = p) := fun z => by rcases hb with q | q <;> omega
          have n2 : ¬ (v = w ∧ x = l) := fun z => by rcases hb with q | q <;> omega
          rw [setM_ne n1, setM_ne n2]
        have mwp : flipM M w l p w p = true := setM_eq _ _ _ _
        have cp := c1 p
        rw [if_neg (by omega), if_pos rfl] at cp
        have cl := c1 l
        rw [if_pos rfl, if_neg (by omega)] at cl
        have c8 := colN_le (flipM M w l p) p
        have gf1 : ∀ M2 : Nat → Nat → Bool, M2 w p = true → gfG g M2 w p := fun M2 hm2 N _ _ _ => hm2
        rw [nI_clamp (by omega), xm3'.2 p (by omega), hx3.2.2.1 1 (by decide), nI_leI (by omega) (by omega)]
        refine ⟨fun c => h _ S3 (fr.tr fr3') xm3' ⟨fun v x hv => ⟨mc1 v x hv, Nat.zero_le _⟩, fun v h0 hv => by rw [r1, pl2 v h0 hv], fun x hx8 => ?_⟩ bef (gf1 _ mwp), fun c => ?_⟩
        · have q := c1 x
          have q3 : colN M x ≤ g.2.2.1 1 := pl3 x hx8
          by_cases z : x = p
          · rw [z]; exact c
          · rw [if_neg z] at q
            show colN (flipM M w l p) x ≤ g.2.2.1 1
            omega
        · refine passOnX hg hx3 xm3' mc1 (first := w + 1) hp (by omega) (fun M2 S4 fin fr4 xm4 mc4 r4 c4 f4 nf f8 room => ⟨fun z => absurd z (by decide), fun _ => h M2 S4 ((fr.tr fr3').tr fr4) xm4 ⟨fun v x hv => ⟨mc4 v x hv, Nat.zero_le _⟩, fun v h0 hv => by rw [r4, r1, pl2 v h0 hv], fun x hx8 => ?_⟩ (fun v x hb => ?_) (gf1 _ ?_)⟩) (fun S4 C fr4 cs ccl csat => ⟨fun _ => ?_, fun z => absurd rfl z⟩)
          · have q := c4 x
            have q1 := c1 x
            have q3 : colN M x ≤ g.2.2.1 1 := pl3 x hx8
            by_cases z : x = p
            · subst z
              rw [if_pos rfl, if_neg (fun z => nf z.symm)] at q
              show colN M2 x ≤ g.2.2.1 1
              omega
            · rw [if_neg z] at q q1
              show colN M2 x ≤ g.2.2.1 1
              by_cases y : x = fin
              · subst y
                rw [if_pos rfl] at q
                omega
              · rw [if_neg y] at q
                omega
          · have hv : v < w + 1 := by rcases hb with q | q <;> omega
            rw [f4 v x hv, bef v x hb]
          · rw [f4 w p (by omega)]; exact mwp
          · have xm4 : XM (flipM M w l p) S4 := xm3'.fr fr4 (by decide) (by decide)
            have fr4' : FrA [11, 12, 13, 14] S3 S4 := fr4.mono (by decide)
            refine dropX xm4 (by omega) (by omega) mwp (fun S5 fr5 xm5 => takeX xm5 (by omega) (by omega) ?_ (fun S6 fr6 xm6 => ?_))
            · rw [setM_ne (fun z => by omega)]
              unfold flipM
              rw [setM_ne (fun z => by omega), setM_eq]
            · rw [flip_back e hf] at xm6
              have same : ∀ v x, w < v → flipM M w l p v x = M v x := fun v x hv => by
                unfold flipM
                rw [setM_ne (fun z => by omega), setM_ne (fun z => by omega)]
              refine ih (l + 1) (by omega) (by omega) S6 ((((fr.tr fr3').tr fr4').tr (fr5.mono (by decide))).tr (fr6.mono (by decide))) xm6 (fun y hy hyl my => ?_)
              by_cases z : y = l
              · subst z
                refine ⟨C, cs, fun x v q hv hcx m1 cc m2 => ccl x v q (by omega) hcx (by rw [same v x hv]; exact m1) cc (by rw [same v q hv]; exact m2), fun hcl => ?_, fun x hx8 hcx => ?_⟩
                · have := csat y (by omega) hcl (by omega)
                  have q3 : colN M y ≤ g.2.2.1 1 := pl3 y (by omega)
                  omega
                · by_cases z1 : x = p
                  · subst z1
                    omega
                  · have q := csat x hx8 hcx z1
                    have q1 := c1 x
                    rw [if_neg z1] at q1
                    omega
              · exact inv y hy (by omega) my
      · by_cases z : y = l
        · subst z
          rw [m8_bit M (by omega), my] at e
          exact absurd e (by decide)
        · omega
  exact key (g.1 - (p + 1)) (p + 1) (by omega) (by omega) S (FrA.rf _ S) hm (fun y hy hyl => by omega)
theorem before_tr {a b c d e f : Nat} (h : before a b c d) (h2 : before c d e f) : before a b e f := by
  unfold before at *
  omega
theorem makeFirstX {P : St → Prop} {S : St} {g : Sg} (hg : Wf g) (hx : XB g S) {M : Nat → Nat → Bool} (hm : XM M S) (hpl : PlanG g M) (h : ∀ (M2 : Nat → Nat → Bool) S1, FrA [11, 12, 13, 14] S S1 → XM M2 S1 → PlanG g M2 → (∀ w p, gfG g M2 w p) → P S1) : tX5_makeFirst S P := by
  have h8 := hg.1.2
  refine bX5_makeFirst_0 ?_
  have out : ∀ (M : Nat → Nat → Bool) v x, ¬ canS g v x = true → gfG g M v x := fun M v x hc N hN _ hv => absurd (hN.1 v x hv).1 hc
  have key : ∀ k w, w + k = g.1 → ∀ (M : Nat → Nat → Bool) S1, FrA [11, 12, 13, 14] S S1 → XM M S1 → PlanG g M → (∀ v x, v < w → gfG g M v x) → wX5_makeFirst P 2 [.ref 15, .int (nI w), .retAddr 0] [] S1 := by
    intro k
    induction k with
    | zero =>
      intro w hw M S1 fr xm pl gf
      have e : w = g.1 := by omega
      subst e
      have hx1 := hx.frA fr (by decide)
      refine bX5_makeFirst_2 _ ⟨fun _ => h M S1 fr xm pl (fun v x => ?_), fun c => absurd (by rw [hx1.1]; exact nI_le (Nat.le_refl _) (by omega)) c⟩
      rcases Nat.lt_or_ge v g.1 with z | z
      · exact gf v x z
      · exact out M v x (fun c => by have := (canS_in v x c).1; omega)
    | succ k ih =>
      intro w hw M S1 fr xm pl gf
      have hwn : w < g.1 := by omega
      have hx1 := hx.frA fr (by decide)
      refine bX5_makeFirst_2 _ ⟨fun c => absurd (hx1.1 ▸ c) (cnt_step hwn h8), fun _ => ?_⟩
      have inner : ∀ j p, p + j = g.1 → ∀ (M : Nat → Nat → Bool) S1, FrA [11, 12, 13, 14] S S1 → XM M S1 → PlanG g M → (∀ v x, before v x w p → gfG g M v x) → wX5_makeFirst P 15 [.ref 15, .int (nI w), .int (nI p)] [] S1 := by
        intro j
        induction j with
        | zero =>
          intro p hp M S1 fr xm pl gf
          have e : p = g.1 := by omega
          subst e
          have hx1 := hx.frA fr (by decide)
          refine bX5_makeFirst_15 _ _ ⟨fun _ => ?_, fun c => absurd (by rw [hx1.1]; exact nI_le (Nat.le_refl _) (by omega)) c⟩
          rw [nI_1]
          refine ih (w + 1) (by omega) M S1 fr xm pl (fun v x hv => ?_)
          rcases Nat.lt_or_ge x g.1 with z | z
          · exact gf v x (by unfold before; omega)
          · exact out M v x (fun c => by have := (canS_in v x c).2; omega)
        | succ j ihj =>
          intro p hp M S1 fr xm pl gf
          have hpn : p < g.1 := by omega
          have hx1 := hx.frA fr (by decide)
          refine bX5_makeFirst_15 _ _ ⟨fun c => absurd (hx1.1 ▸ c) (cnt_step hpn h8), fun _ => mayMark_ok hg hx1 (by omega) ⟨ii hwn h8, ?_⟩⟩
          rw [nI_1, nI_clamp (by omega), xm.1 w (by omega), nI_nd _ (mayS_lt hg w)]
          refine has_ok (nd_lt _ (mayS_lt hg w)) (by omega) (fun e => ⟨fun z => absurd z (by decide), fun _ => ?_⟩) (fun e => ⟨fun _ => ihj (p + 1) (by omega) M S1 fr xm pl (fun v x hb => ?_), fun z => absurd rfl z⟩)
          · obtain ⟨hc, hf⟩ := (free_bit hg M hwn (by omega)).mp e
            refine bringInX hg hx1 xm pl hc hf (fun M2 S2 fr2 xm2 pl2 same gf2 => ihj (p + 1) (by omega) M2 S2 (fr.tr fr2) xm2 pl2 (fun v x hb => ?_))
            by_cases z : v = w ∧ x = p
            · rw [z.1, z.2]; exact gf2
            · have hb2 : before v x w p := by unfold before at *; omega
              exact gf_same (gf v x hb2) (fun v2 x2 hb3 => same v2 x2 (before_tr hb3 hb2)) (same v x hb2)
          · by_cases z : v = w ∧ x = p
            · rw [z.1, z.2]
              by_cases hc : canS g w p = true
              · cases m : M w p with
                | true => exact fun N _ _ _ => m
                | false => rw [(free_bit hg M hwn (by omega)).mpr ⟨hc, m⟩] at e; exact absurd e (by decide)
              · exact out M w p hc
            · exact gf v x (by unfold before at *; omega)
      exact inner g.1 0 (by omega) M S1 fr xm pl (fun v x hb => gf v x (by unfold before at hb; omega))
  exact key g.1 0 (by omega) M S (FrA.rf _ S) hm hpl (fun v x hv => by omega)
/-! the memory of sharing -/
def FirstG (g : Sg) (M : Nat → Nat → Bool) : Prop := PlanG g M ∧ ∀ w p, gfG g M w p
def XSf (g : Sg) (S : St) : Prop := S.1 1 = 1 ∧ ((S.1 2 = 1 ∧ ∃ M, XM M S ∧ FirstG g M) ∨ (S.1 2 = 0 ∧ NoPlan g))
def XSh (g : Sg) (S : St) : Prop := S.1 1 = 0 ∨ XSf g S
/-- only the cells of sharing may differ -/
def SameS (S S1 : St) : Prop := (∀ k, k ≠ 1 → k ≠ 2 → S1.1 k = S.1 k) ∧ S1.2.1 = S.2.1 ∧ (∀ k, (k < 11 ∨ 14 < k) → S1.2.2.1 k = S.2.2.1 k) ∧ S1.2.2.2 = S.2.2.2
theorem SameS.rf (S : St) : SameS S S := ⟨fun _ _ _ => rfl, rfl, fun _ _ => rfl, rfl⟩
theorem SameS.tr {S S1 S2 : St} (h : SameS S S1) (h2 : SameS S1 S2) : SameS S S2 := ⟨fun k a b => (h2.1 k a b).trans (h.1 k a b), h2.2.1.trans h.2.1, fun k a => (h2.2.2.1 k a).trans (h.2.2.1 k a), h2.2.2.2.trans h.2.2.2⟩
theorem SameS.I {S : St} {k : Nat} {v : Int32} (h : k = 1 ∨ k = 2) : SameS S (sI S k v) := ⟨fun j h1 h2 => up_ne (by omega), rfl, fun _ _ => rfl, rfl⟩
theorem SameS.F {S S1 : St} (h : FrA [11, 12, 13, 14] S S1) : SameS S S1 := ⟨fun k _ _ => by rw [h.1], h.2.1, fun k hk => h.2.2.1 k (fun z => by simp at z; omega), h.2.2.2⟩
theorem SameS.M {S S1 : St} (h : SameS S S1) : SameM S S1 := ⟨fun k hk => h.1 k (by omega) (by omega), h.2.1, fun k hk => h.2.2.1 k (by omega), fun k _ => by rw [h.2.2.2]⟩
theorem XB.sameS {g : Sg} {S S1 : St} (h : XB g S) (hs : SameS S S1) : XB g S1 := by
  obtain ⟨h1, h2, h3, h4, h5⟩ := h
  obtain ⟨s1, s2, s3, s4⟩ := hs
  refine ⟨by rw [s1 0 (by decide) (by decide)]; exact h1, ?_, ?_, ?_, ?_⟩
  · rw [s3 0 (by decide)]; exact h2
  · rw [s3 1 (by decide)]; exact h3
  · intro p w hp hw
    rw [s3 (2 + p) (by omega)]; exact h4 p w hp hw
  · rw [s3 10 (by decide)]; exact h5
theorem isPossibleX {P : Int32 → St → Prop} {S : St} {g : Sg} (hg : Wf g) (hx : XB g S) (hsh : XSh g S) (h1 : ∀ M S1, SameS S S1 → XSf g S1 → XM M S1 → FirstG g M → P 1 S1) (h0 : ∀ S1, SameS S S1 → XSf g S1 → NoPlan g → P 0 S1) : tX5_isPossible S P := by
  refine bX5_isPossible_0 ⟨fun c => ?_, fun c => ?_⟩
  · rcases hsh with z | z
    · exact absurd z c
    · have z0 := z
      obtain ⟨_, ⟨a, M, b, d⟩ | ⟨a, b⟩⟩ := z
      · rw [a]; exact ⟨Or.inr rfl, h1 M S (SameS.rf S) z0 b d⟩
      · rw [a]; exact ⟨Or.inl rfl, h0 S (SameS.rf S) z0 b⟩
  · have hs1 : SameS S (sI S 1 1) := SameS.I (by decide)
    have hx1 := hx.sameS hs1
    refine findAnyPlanX hg hx1 (fun M S2 fr xm pl => ⟨Or.inr rfl, fun z => absurd z (by decide), fun _ => ?_⟩) (fun S2 fr np => ⟨Or.inl rfl, fun _ => ⟨Or.inl rfl, ?_⟩, fun z => absurd rfl z⟩)
    · have hs3 : SameS S (sI S2 2 1) := (hs1.tr (SameS.F fr)).tr (SameS.I (by decide))
      have hx3 := hx.sameS hs3
      refine makeFirstX hg hx3 (show XM M (sI S2 2 1) from xm) pl (fun M2 S3 fr3 xm3 pl3 gf3 => ?_)
      have e2 : S3.1 2 = 1 := by rw [fr3.1]; rfl
      have e1 : S3.1 1 = 1 := by rw [fr3.1]; show S2.1 1 = 1; rw [fr.1]; rfl
      rw [e2]
      exact ⟨Or.inr rfl, h1 M2 S3 (hs3.tr (SameS.F fr3)) ⟨e1, Or.inl ⟨e2, M2, xm3, pl3, gf3⟩⟩ xm3 ⟨pl3, gf3⟩⟩
    · refine h0 _ ((hs1.tr (SameS.F fr)).tr (SameS.I (by decide))) ⟨?_, Or.inr ⟨rfl, np⟩⟩ np
      show S2.1 1 = 1
      rw [fr.1]
      rfl
