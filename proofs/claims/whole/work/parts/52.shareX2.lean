/-! ===== sharing, the class's programs: chains and plans ===== -/
/-- the forest of those seen: by whom, and which work -/
def FO (can M : Nat → Nat → Bool) (first start seen : Nat) (rk : Nat → Nat) (S : St) : Prop := ∀ x, x < 8 → seen.testBit x = true → x ≠ start → ∃ p v, p < 8 ∧ S.2.2.1 13 x = nI p ∧ S.2.2.1 14 x = nI v ∧ seen.testBit p = true ∧ rk p < rk x ∧ Hop can M first p x v
theorem XM.fr {M : Nat → Nat → Bool} {S S1 : St} {L : List Nat} (h : XM M S) (hs : FrA L S S1) (h11 : 11 ∉ L) (h12 : 12 ∉ L) : XM M S1 := ⟨by rw [hs.2.2.1 11 h11]; exact h.1, by rw [hs.2.2.1 12 h12]; exact h.2⟩
theorem handDownX {P : St → Prop} {S : St} {g : Sg} (hg : Wf g) (hx : XB g S) {M : Nat → Nat → Bool} (hm : XM M S) (hMc : ∀ w p, M w p = true → canS g w p = true) {first start seen fin : Nat} {rk : Nat → Nat} (hfo : FO (canS g) M first start seen rk S) (hst : start < 8) (hfin : fin < 8) (hsf : seen.testBit fin = true) (hrk : rk fin ≤ g.1) (h : ∀ (M2 : Nat → Nat → Bool) S1, FrA [11, 12] S S1 → XM M2 S1 → (∀ w p, M2 w p = true → canS g w p = true) → (∀ v, rowN M2 v = rowN M v) → (∀ x, colN M2 x + (if x = start then 1 else 0) = colN M x + if x = fin then 1 else 0) → (∀ v x, v < first → M2 v x = M v x) → P S1) : tX5_handDown (nI start) (nI fin) S P := by
  have h8 := hg.1.2
  refine bX5_handDown_0 _ _ ?_
  have key : ∀ k t, t + k = g.1 → ∀ (hd : Nat) (M2 : Nat → Nat → Bool) (S1 : St), hd < 8 → seen.testBit hd = true → rk hd ≤ k → FrA [11, 12] S S1 → XM M2 S1 → (∀ w p, M2 w p = true → canS g w p = true) → (∀ v, rowN M2 v = rowN M v) → (∀ x, colN M2 x + (if x = hd then 1 else 0) = colN M x + if x = fin then 1 else 0) → (∀ v x, v < first → M2 v x = M v x) → (∀ v x, rk x < rk hd → seen.testBit x = true → M2 v x = M v x) → (∀ v, M2 v hd = true → M v hd = true) → wX5_handDown P 5 [.ref 15, .int (nI start), .int (nI fin), .int (nI hd), .int (nI t), .retAddr 0, .retAddr 0] [] S1 := by
    intro k
    induction k with
    | zero =>
      intro t ht hd M2 S1 hh hsh hr fr xm mc r1 c1 f1 e1 e2
      have e : t = g.1 := by omega
      subst e
      have hx1 := hx.frA fr (by decide)
      have es : hd = start := Classical.byContradiction (fun ne => by
        obtain ⟨p, v, _, _, _, _, q, _⟩ := hfo hd hh hsh ne
        omega)
      subst es
      exact bX5_handDown_5 _ _ _ _ ⟨fun _ => h M2 S1 fr xm mc r1 c1 f1, fun c => absurd (by rw [hx1.1]; exact nI_le (Nat.le_refl _) (by omega)) c⟩
    | succ k ih =>
      intro t ht hd M2 S1 hh hsh hr fr xm mc r1 c1 f1 e1 e2
      have hx1 := hx.frA fr (by decide)
      have htn : t < g.1 := by omega
      refine bX5_handDown_5 _ _ _ _ ⟨fun c => absurd (hx1.1 ▸ c) (cnt_step htn h8), fun _ => ⟨fun es => ?_, fun es => ⟨vp_in_nI hh (by decide), ?_⟩⟩⟩
      · have es2 : hd = start := (nI_eq (by omega) (by omega)).mp es
        subst es2
        exact h M2 S1 fr xm mc r1 c1 f1
      · have ne : hd ≠ start := fun z => es (by rw [z])
        obtain ⟨p, v, hp, a13, a14, sp, rp, hop⟩ := hfo hd hh hsh ne
        obtain ⟨o1, o2, o3, o4⟩ := hop
        have hv := (canS_in v hd o3).1
        have b13 : S1.2.2.1 13 hd = nI p := by rw [fr.2.2.1 13 (by decide)]; exact a13
        have b14 : S1.2.2.1 14 hd = nI v := by rw [fr.2.2.1 14 (by decide)]; exact a14
        rw [nI_clamp (by omega), b13, b14, nI_1]
        have m1 : M2 v p = true := by rw [e1 v p rp sp]; exact o2
        have m2 : M2 v hd = false := by
          cases e : M2 v hd with
          | false => rfl
          | true => rw [e2 v e] at o4; exact absurd o4 (by decide)
        have phd : p ≠ hd := fun z => by rw [z] at rp; omega
        obtain ⟨g1, g2⟩ := flip_facts (show v < 8 by omega) hp hh m1 m2
        refine dropX xm (by omega) hp m1 (fun S2 fr2 xm2 => takeX xm2 (by omega) hh ?_ (fun S3 fr3 xm3 => ?_))
        · rw [setM_ne (fun z => phd z.2.symm)]; exact m2
        · refine ih (t + 1) (by omega) p (flipM M2 v p hd) S3 hp sp (by omega) ((fr.tr fr2).tr fr3) xm3 (fun w x hw => ?_) (fun u => by rw [g1, r1]) (fun x => ?_) (fun u x hu => ?_) (fun u x hu hsx => ?_) (fun u hu => ?_)
          · unfold flipM at hw
            by_cases e : w = v ∧ x = hd
            · rw [e.1, e.2]; exact o3
            · rw [setM_ne e] at hw
              by_cases e3 : w = v ∧ x = p
              · rw [e3.1, e3.2, setM_eq] at hw
                exact absurd hw (by decide)
              · rw [setM_ne e3] at hw
                exact mc w x hw
          · have q1 := g2 x
            have q2 := c1 x
            by_cases z1 : x = p
            · subst z1
              rw [if_pos rfl, if_neg phd] at q1
              rw [if_neg phd] at q2
              rw [if_pos rfl]
              omega
            · rw [if_neg z1] at q1
              rw [if_neg z1]
              by_cases z2 : x = hd
              · subst z2
                rw [if_pos rfl] at q1 q2
                omega
              · rw [if_neg z2] at q1 q2
                omega
          · unfold flipM
            rw [setM_ne (fun z => by omega), setM_ne (fun z => by omega)]
            exact f1 u x hu
          · unfold flipM
            rw [setM_ne (fun z => by rw [z.2] at hu; omega), setM_ne (fun z => by rw [z.2] at hu; omega)]
            exact e1 u x (by omega) hsx
          · unfold flipM at hu
            rw [setM_ne (fun z => phd z.2)] at hu
            by_cases e3 : u = v
            · rw [e3]; exact o2
            · rw [setM_ne (fun z => e3 z.1)] at hu
              rw [← e1 u p rp sp]
              exact hu
  exact key g.1 0 (by omega) fin M S hfin hsf hrk (FrA.rf _ S) hm hMc (fun _ => rfl) (fun _ => rfl) (fun _ _ _ => rfl) (fun _ _ _ _ => rfl) (fun _ z => z)
theorem passOnX {P : Int32 → St → Prop} {S : St} {g : Sg} (hg : Wf g) (hx : XB g S) {M : Nat → Nat → Bool} (hm : XM M S) (hMc : ∀ w p, M w p = true → canS g w p = true) {first start : Nat} (hst : start < g.1) (hf : first ≤ g.1)
    (h1 : ∀ (M2 : Nat → Nat → Bool) S1 fin, FrA [11, 12, 13, 14] S S1 → XM M2 S1 → (∀ w p, M2 w p = true → canS g w p = true) → (∀ v, rowN M2 v = rowN M v) → (∀ x, colN M2 x + (if x = start then 1 else 0) = colN M x + if x = fin then 1 else 0) → (∀ v x, v < first → M2 v x = M v x) → fin ≠ start → fin < 8 → colN M fin < g.2.2.1 1 → P 1 S1)
    (h0 : ∀ S1 (C : Nat → Prop), FrA [13, 14] S S1 → C start → (∀ x v q, first ≤ v → C x → M v x = true → canS g v q = true → M v q = false → C q) → (∀ x, x < 8 → C x → x ≠ start → g.2.2.1 1 ≤ colN M x) → P 0 S1) : tX5_passOn (nI start) (nI first) S P := by
  have h8 := hg.1.2
  refine bX5_passOn_0 _ _ ?_
  rw [sh1 (by omega)]
  have key : ∀ k t, t + k = g.1 → ∀ (seen opn : Nat) (rk : Nat → Nat) (S1 : St), seen < 256 → opn < 256 → FrA [13, 14] S S1 → (∀ x, seen.testBit x = true → x < g.1) → (∀ x, opn.testBit x = true → seen.testBit x = true) → seen.testBit start = true → (∀ x, x < 8 → seen.testBit x = true → rk x ≤ t) → FO (canS g) M first start seen rk S1 → (∀ x, x < 8 → seen.testBit x = true → x ≠ start → g.2.2.1 1 ≤ colN M x) → (∀ x v q, seen.testBit x = true → opn.testBit x = false → Hop (canS g) M first x q v → seen.testBit q = true) → csum (fun _ => 1) (nd seen opn) 8 = t → wX5_passOn P 10 [.ref 15, .int (nI start), .int (nI first), .int (nI seen), .int (nI opn), .int (nI t), .retAddr 0, .retAddr 0, .retAddr 0] [] S1 := by
    intro k
    induction k with
    | zero =>
      intro t ht seen opn rk S1 hs ho fr sn os ss hrk fo hsat cl hc
      have e : t = g.1 := by omega
      subst e
      have hx1 := hx.frA fr (by decide)
      refine bX5_passOn_10 _ _ _ _ _ ⟨fun _ => h0 S1 (fun x => seen.testBit x = true) fr ss (fun x v q hv hx' m1 c1 m2 => ?_) hsat, fun c => absurd (by rw [hx1.1]; exact nI_le (Nat.le_refl _) (by omega)) c⟩
      -- nobody is left
      have all : ∀ y, y < g.1 → opn.testBit y = false := fun y hy => by
        cases e : opn.testBit y with
        | false => rfl
        | true =>
          exfalso
          have hsub : ∀ v, (nd seen opn).testBit v = true → (2 ^ g.1 - 1).testBit v = true := fun v hv => by
            rw [nd_bit _ _ hs, Bool.and_eq_true] at hv
            rw [full_bit, decide_eq_true_iff]
            exact sn v hv.1
          have := csum_more (w := y) hsub (by rw [nd_bit _ _ hs, e]; simp) (by rw [full_bit, decide_eq_true_iff]; exact hy) 8 (by omega)
          have e2 : csum (fun _ => 1) (2 ^ g.1 - 1) 8 = g.1 := by
            rw [csum_lsum, lsum_ext (n := g.1) (m := 8) h8 (fun i hi _ => if_neg (by rw [full_bit]; simp; omega))]
            rw [lsum_congr (f2 := fun _ => 1) (fun i hi => if_pos (by rw [full_bit]; simp; exact hi)), lsum_one]
          omega
      exact cl x v q hx' (all x (sn x hx')) ⟨hv, m1, c1, m2⟩
    | succ k ih =>
      intro t ht seen opn rk S1 hs ho fr sn os ss hrk fo hsat cl hc
      have hx1 := hx.frA fr (by decide)
      have htn : t < g.1 := by omega
      refine bX5_passOn_10 _ _ _ _ _ ⟨fun c => absurd (hx1.1 ▸ c) (cnt_step htn h8), fun _ => ⟨fun c => ?_, fun c => ?_⟩⟩
      · have c0 : opn = 0 := (nI_z (by omega)).mp c
        exact h0 S1 (fun x => seen.testBit x = true) fr ss (fun x v q hv hx' m1 c1 m2 => cl x v q hx' (by rw [c0]; simp) ⟨hv, m1, c1, m2⟩) hsat
      · have c0 : opn ≠ 0 := fun z => c (by rw [z]; rfl)
        obtain ⟨y0, hy0⟩ := Nat.exists_testBit_of_ne_zero c0
        refine leastOfX hg hx1 ho ⟨y0, sn y0 (os y0 hy0), hy0⟩ (fun p hp hpo => ?_)
        have xm1 : XM M S1 := hm.fr fr (by decide) (by decide)
        refine reachX hg hx1 xm1 (by omega) hf hs (fun X G F hX x1 x2 x3 => ?_)
        have fr2 : FrA [13, 14] S1 (sA (sA S1 13 G) 14 F) := (FrA.A (by decide)).tr (FrA.A (by decide))
        have hx2 := hx1.frA fr2 (by decide)
        have xm2 : XM M (sA (sA S1 13 G) 14 F) := xm1.fr fr2 (by decide) (by decide)
        have sX : seen ||| X < 256 := or_lt hs hX
        have hsp := os p hpo
        -- the forest with those reached
        let rk2 : Nat → Nat := fun x => if seen.testBit x then rk x else t + 1
        have fo2 : FO (canS g) M first start (seen ||| X) rk2 (sA (sA S1 13 G) 14 F) := fun x hx8 hsx ne => by
          rw [Nat.testBit_or] at hsx
          by_cases z : seen.testBit x = true
          · obtain ⟨p2, v2, a, b, c, d, e, f⟩ := fo x hx8 z ne
            have nX : X.testBit x = false := by
              cases q : X.testBit x with
              | false => rfl
              | true => rw [((x1 x hx8).mp q).1] at z; exact absurd z (by decide)
            have := x3 x hx8 nX
            refine ⟨p2, v2, a, ?_, ?_, by rw [Nat.testBit_or, d]; rfl, ?_, f⟩
            · show G x = nI p2
              rw [this.1]; exact b
            · show F x = nI v2
              rw [this.2]; exact c
            · show (if seen.testBit p2 then rk p2 else t + 1) < if seen.testBit x then rk x else t + 1
              rw [if_pos d, if_pos z]; exact e
          · have zX : X.testBit x = true := by
              rw [Bool.or_eq_true] at hsx
              rcases hsx with q | q
              · exact absurd q z
              · exact q
            obtain ⟨a, v2, b, c⟩ := x2 x hx8 zX
            refine ⟨p, v2, by omega, a, c, by rw [Nat.testBit_or, hsp]; rfl, ?_, b⟩
            show (if seen.testBit p then rk p else t + 1) < if seen.testBit x then rk x else t + 1
            rw [if_pos hsp, if_neg z]
            have := hrk p (by omega) hsp
            omega
        refine withRoomX hg hx2 xm2 hX (fun fin hfin hfX hroom => ⟨fun z => ?_, fun _ => ?_⟩) (fun full => ⟨fun _ => ?_, fun z => absurd rfl z⟩)
        · exfalso
          have := congrArg Int32.toInt z
          rw [nI_toInt (by omega)] at this
          have e : ((-1 : Int32)).toInt = -1 := rfl
          rw [e] at this
          omega
        · have nf : seen.testBit fin = false := ((x1 fin (by omega)).mp hfX).1
          have nst : fin ≠ start := fun z => by rw [z, ss] at nf; exact absurd nf (by decide)
          refine handDownX hg hx2 xm2 hMc fo2 (by omega) (show fin < 8 by omega) (by rw [Nat.testBit_or, hfX]; simp) (by
            show (if seen.testBit fin then rk fin else t + 1) ≤ g.1
            rw [nf]
            simp
            omega) (fun M2 S3 fr3 xm3 mc r1 c1 f1 => ?_)
          exact h1 M2 S3 fin (((fr.mono (by decide)).tr (fr2.mono (by decide))).tr (fr3.mono (by decide))) xm3 mc r1 c1 f1 nst (by omega) hroom
        · rw [sh1 (by omega), nI_nd _ ho, nI_or, nI_or, nI_1]
          have bN : ∀ x, (nd opn (2 ^ p) ||| X).testBit x = true ↔ (opn.testBit x = true ∧ x ≠ p) ∨ X.testBit x = true := fun x => by
            rw [Nat.testBit_or, Bool.or_eq_true, nd_bit _ _ ho, Bool.and_eq_true, p2_bit, Bool.not_eq_true', decide_eq_false_iff_not]
            exact or_congr_left (and_congr_right (fun _ => ⟨fun z y => z y.symm, fun z y => z y.symm⟩))
          have x8 : ∀ x, X.testBit x = true → x < 8 := fun x hb => by
            rcases Nat.lt_or_ge x 8 with z | z
            · exact z
            · rw [lt256_bit hX z] at hb; exact absurd hb (by decide)
          refine ih (t + 1) (by omega) (seen ||| X) (nd opn (2 ^ p) ||| X) rk2 (sA (sA S1 13 G) 14 F) sX (or_lt (nd_lt _ ho) hX) (fr.tr fr2) (fun x hb => ?_) (fun x hb => ?_) (by rw [Nat.testBit_or, ss]; rfl) (fun x hx8 hb => ?_) fo2 (fun x hx8 hb ne => ?_) (fun x v q hb hno hop => ?_) ?_
          · rw [Nat.testBit_or, Bool.or_eq_true] at hb
            rcases hb with hb | hb
            · exact sn x hb
            · obtain ⟨_, v, hop⟩ := (x1 x (x8 x hb)).mp hb
              exact (canS_in v x hop.2.2.1).2
          · rw [Nat.testBit_or, Bool.or_eq_true]
            rcases (bN x).mp hb with z | z
            · exact Or.inl (os x z.1)
            · exact Or.inr z
          · show (if seen.testBit x then rk x else t + 1) ≤ t + 1
            by_cases z : seen.testBit x = true
            · rw [if_pos z]
              have := hrk x hx8 z
              omega
            · rw [if_neg z]; exact Nat.le_refl _
          · rw [Nat.testBit_or, Bool.or_eq_true] at hb
            rcases hb with hb | hb
            · exact hsat x hx8 hb ne
            · obtain ⟨_, v, hop⟩ := (x1 x hx8).mp hb
              exact full x (canS_in v x hop.2.2.1).2 hb
          · rw [Nat.testBit_or, Bool.or_eq_true]
            rw [Nat.testBit_or, Bool.or_eq_true] at hb
            have q8 : q < 8 := by have := (canS_in v q hop.2.2.1).2; omega
            have nX : X.testBit x ≠ true := fun z => by rw [(bN x).mpr (Or.inr z)] at hno; exact absurd hno (by decide)
            have sx : seen.testBit x = true := by
              rcases hb with z | z
              · exact z
              · exact absurd z nX
            by_cases z : x = p
            · subst z
              by_cases y : seen.testBit q = true
              · exact Or.inl y
              · refine Or.inr ((x1 q q8).mpr ⟨?_, v, hop⟩)
                cases e : seen.testBit q with
                | false => rfl
                | true => exact absurd e y
            · refine Or.inl (cl x v q sx ?_ hop)
              cases e : opn.testBit x with
              | false => rfl
              | true => rw [(bN x).mpr (Or.inl ⟨e, z⟩)] at hno; exact absurd hno (by decide)
          · -- one more is closed
            have e1 : ∀ i, csum (fun _ => 1) (nd (seen ||| X) (nd opn (2 ^ p) ||| X)) i = csum (fun _ => 1) (nd seen opn) i + if p < i then 1 else 0 := by
              intro i
              induction i with
              | zero => rfl
              | succ i ihi =>
                show csum (fun _ => 1) (nd (seen ||| X) (nd opn (2 ^ p) ||| X)) i + (if (nd (seen ||| X) (nd opn (2 ^ p) ||| X)).testBit i then 1 else 0) = csum (fun _ => 1) (nd seen opn) i + (if (nd seen opn).testBit i then 1 else 0) + _
                rw [ihi, nd_bit _ _ sX, nd_bit _ _ hs, Nat.testBit_or, Nat.testBit_or, nd_bit _ _ ho, p2_bit]
                by_cases z : p = i
                · subst z
                  rw [hsp, hpo, decide_eq_true rfl]
                  have nX : X.testBit p = false := by
                    cases e : X.testBit p with
                    | false => rfl
                    | true => rw [((x1 p (by omega)).mp e).1] at hsp; exact absurd hsp (by decide)
                  rw [nX]
                  simp
                · rw [decide_eq_false z]
                  have iff1 : (if p < i + 1 then (1 : Nat) else 0) = if p < i then 1 else 0 := by
                    by_cases y : p < i
                    · rw [if_pos y, if_pos (by omega)]
                    · rw [if_neg y, if_neg (by omega)]
                  rw [iff1]
                  have same : ((seen.testBit i || X.testBit i) && !(opn.testBit i && !false || X.testBit i)) = (seen.testBit i && !opn.testBit i) := by
                    cases e : X.testBit i with
                    | false => simp
                    | true =>
                      have i8 : i < 8 := by
                        rcases Nat.lt_or_ge i 8 with y | y
                        · exact y
                        · rw [lt256_bit hX y] at e; exact absurd e (by decide)
                      rw [((x1 i i8).mp e).1]
                      simp
                  rw [same]
                  omega
            rw [e1 8, hc, if_pos (by omega)]
  exact key g.1 0 (by omega) (2 ^ start) (2 ^ start) (fun _ => 0) S (p2_lt (by omega)) (p2_lt (by omega)) (FrA.rf _ S) (fun x hb => by
    rw [p2_bit, decide_eq_true_iff] at hb
    omega) (fun x hb => hb) (by rw [p2_bit]; simp) (fun x _ _ => Nat.zero_le _) (fun x _ hb ne => by
    rw [p2_bit, decide_eq_true_iff] at hb
    exact absurd hb.symm ne) (fun x _ hb ne => by
    rw [p2_bit, decide_eq_true_iff] at hb
    exact absurd hb.symm ne) (fun x v q hb hno => by rw [hb] at hno; exact absurd hno (by decide)) (by
    have : nd (2 ^ start) (2 ^ start) = 0 := set_ext (nd_lt _ (p2_lt (by omega))) (by decide) (fun i hi => by rw [nd_bit _ _ (p2_lt (by omega))]; simp)
    rw [this]
    exact csum_0 _ _)
