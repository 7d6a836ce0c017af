/-! ===== the reference's plan is the first one ===== -/
def restr (N : Nat → Nat → Bool) (w : Nat) : Nat → Nat → Bool := fun v x => N v x && decide (w < v)
theorem lsum_mid (w : Nat) (c : Nat) : ∀ n, lsum (fun v => if v = w then c else 0) n = if w < n then c else 0
  | 0 => by rw [if_neg (by omega)]; rfl
  | n + 1 => by
    show lsum (fun v => if v = w then c else 0) n + (if n = w then c else 0) = _
    rw [lsum_mid w c n]
    by_cases a : n = w
    · rw [if_pos a, if_neg (by omega), if_pos (by omega)]; omega
    · rw [if_neg a]
      by_cases b : w < n
      · rw [if_pos b, if_pos (by omega)]; rfl
      · rw [if_neg b, if_neg (by omega)]
theorem col_split {N M : Nat → Nat → Bool} {w p : Nat} (hw : w < 8) (h1 : ∀ v, v < w → N v p = M v p) (h2 : ∀ v, w ≤ v → M v p = false) : colN N p = colN M p + b2 (N w p) + colN (restr N w) p := by
  have e : colN N p = lsum (fun v => (b2 (M v p) + if v = w then b2 (N w p) else 0) + b2 (restr N w v p)) 8 := lsum_congr (fun v _ => by
    unfold restr
    rcases Nat.lt_trichotomy v w with z | z | z
    · rw [h1 v z, if_neg (by omega), decide_eq_false (by omega), Bool.and_false]; rfl
    · rw [h2 v (by omega), if_pos z, z, decide_eq_false (by omega), Bool.and_false]
      show _ = 0 + b2 (N w p) + 0
      omega
    · rw [h2 v (by omega), if_neg (by omega), decide_eq_true z, Bool.and_true]
      show _ = 0 + 0 + b2 (N v p)
      omega)
  rw [e, lsum_add, lsum_add, lsum_mid, if_pos hw]
  rfl
def okS (g : Sg) (r : Nat → Nat) (w s : Nat) : Prop := mayBeS g r w s ∧ ∃ N, PlanF g.1 (g.2.2.1 0) (fun p => r p - b2 (s.testBit p)) (canS g) (w + 1) N
theorem row_ok {g : Sg} (hg : Wf g) {r : Nat → Nat} {w w0 : Nat} {N M : Nat → Nat → Bool} {L : Nat → Nat} (hw : w < g.1) (hw0 : w0 ≤ w) (hN : PlanF g.1 (g.2.2.1 0) L (canS g) w0 N) (hM1 : ∀ v p, v < w → N v p = M v p) (hM2 : ∀ v p, w ≤ v → M v p = false) (hr : ∀ p, r p = L p - colN M p) : okS g r w (msk (N w) g.1) ∧ 0 < msk (N w) g.1 ∧ msk (N w) g.1 < 2 ^ g.1 ∧ ∀ x, (msk (N w) g.1).testBit x = N w x := by
  have h8 := hg.1.2
  have k4 := hg.2.2.2.1
  obtain ⟨n1, n2, n3⟩ := hN
  have bit : ∀ x, (msk (N w) g.1).testBit x = N w x := fun x => by
    rw [msk_bit]
    cases e : N w x with
    | false => simp
    | true => simp [(canS_in w x (n1 w x e).1).2]
  have cs : csum (fun _ => 1) (msk (N w) g.1) 8 = g.2.2.1 0 := by
    rw [csum_lsum, ← n2 w hw0 hw]
    exact lsum_congr (fun x _ => by rw [bit x]; rfl)
  have sp : ∀ p, colN N p = colN M p + b2 (N w p) + colN (restr N w) p := fun p => col_split (by omega) (fun v hv => hM1 v p hv) (fun v hv => hM2 v p hv)
  refine ⟨⟨⟨cs, fun p hp hb => ?_⟩, restr N w, ⟨fun v x hv => ?_, fun v hv hvn => ?_, fun p hp => ?_⟩⟩, ?_, msk_ltp _ _, bit⟩
  · rw [bit p] at hb
    refine ⟨(n1 w p hb).1, ?_⟩
    have a := sp p
    have b := n3 p (by omega)
    rw [hb] at a
    have c : colN N p = colN M p + 1 + colN (restr N w) p := a
    rw [hr p]
    omega
  · unfold restr at hv
    rw [Bool.and_eq_true, decide_eq_true_iff] at hv
    exact ⟨(n1 v x hv.1).1, by omega⟩
  · rw [← n2 v (by omega) hvn]
    refine lsum_congr (fun x _ => ?_)
    unfold restr
    rw [decide_eq_true (by omega), Bool.and_true]
  · have a := sp p
    have b := n3 p hp
    show colN (restr N w) p ≤ r p - b2 ((msk (N w) g.1).testBit p)
    rw [bit p, hr p]
    omega
  · rcases Nat.eq_zero_or_pos (msk (N w) g.1) with z | z
    · rw [z, csum_0] at cs
      omega
    · exact z
/-- what the reference holds when the works before w are settled -/
def MSt (g : Sg) (w : Nat) (M : Nat → Nat → Bool) (S : St) : Prop := (∀ v p, M v p = true → canS g v p = true ∧ v < w) ∧ (∀ v, v < w → rowN M v = g.2.2.1 0) ∧ (∀ p, p < 8 → colN M p ≤ g.2.2.1 1) ∧ (∀ v x, v < w → gfG g M v x) ∧ (∃ N, PlanF g.1 (g.2.2.1 0) (fun p => g.2.2.1 1 - colN M p) (canS g) w N) ∧ RM g.1 (fun p => g.2.2.1 1 - colN M p) S ∧ ∀ v, v < w → S.2.2.1 29 v = nI (msk (M v) 8)
def addRow (M : Nat → Nat → Bool) (w s : Nat) : Nat → Nat → Bool := fun v x => if v = w then s.testBit x else M v x
theorem addRow_eq (M : Nat → Nat → Bool) (w s x : Nat) : addRow M w s w x = s.testBit x := if_pos rfl
theorem addRow_ne {M : Nat → Nat → Bool} {w s v x : Nat} (h : v ≠ w) : addRow M w s v x = M v x := if_neg h
theorem addRow_col {M : Nat → Nat → Bool} {w s p : Nat} (hw : w < 8) (h2 : ∀ v p, M v p = true → v < w) : colN (addRow M w s) p = colN M p + b2 (s.testBit p) := by
  have := col_split (N := addRow M w s) (M := M) (w := w) (p := p) hw (fun v hv => addRow_ne (by omega)) (fun v hv => by
    cases e : M v p with
    | false => rfl
    | true => have := h2 v p e; omega)
  rw [this, addRow_eq]
  have z : colN (restr (addRow M w s) w) p = 0 := lsum_zero (fun v _ => by
    unfold restr
    by_cases c : w < v
    · rw [addRow_ne (by omega)]
      cases e : M v p with
      | false => rfl
      | true => have := h2 v p e; omega
    · rw [decide_eq_false c, Bool.and_false]; rfl)
  omega
theorem findPlanM {P : Int32 → St → Prop} {S : St} {g : Sg} (hg : Wf g) (hx : MB g S) (h1 : ∀ M S1, SR S S1 → MB g S1 → FirstG g M → (∀ p, p < g.1 → S1.2.2.1 28 p = nI (g.2.2.1 1 - colN M p)) → (∀ v, v < g.1 → S1.2.2.1 29 v = nI (msk (M v) 8)) → P 1 S1) (h0 : ∀ S1, SR S S1 → NoPlan g → P 0 S1) : tX7_findPlan S P := by
  have h8 := hg.1.2
  have hp8 := pow8 h8
  have hpp := p2_pos g.1
  have k4 := hg.2.2.2.1
  refine bX7_findPlan_0 ?_
  -- rows
  have rows : ∀ k w, w + k = g.1 → ∀ (M : Nat → Nat → Bool) S1, SR S S1 → MSt g w M S1 → wX7_findPlan P 40 [.ref 47, .int (nI w), .retAddr 0, .retAddr 0] [] S1 := by
    intro k
    induction k with
    | zero =>
      intro w hw M S1 sr ms
      have e : w = g.1 := by omega
      subst e
      have hx1 := hx.sr sr
      obtain ⟨m1, m2, m3, m4, m5, m6, m7⟩ := ms
      refine bX7_findPlan_40 _ ⟨fun _ => h1 M S1 sr hx1 ⟨⟨fun v p h => ⟨(m1 v p h).1, Nat.zero_le _⟩, fun v _ hv => m2 v hv, m3⟩, fun v x => ?_⟩ m6 m7, fun c => absurd (by rw [hx1.1]; exact nI_le (Nat.le_refl _) (by omega)) c⟩
      rcases Nat.lt_or_ge v g.1 with z | z
      · exact m4 v x z
      · exact fun N hN _ hv => by have := (canS_in v x (hN.1 v x hv).1).1; omega
    | succ k ih =>
      intro w hw M S1 sr ms
      have hwn : w < g.1 := by omega
      have hx1 := hx.sr sr
      obtain ⟨m1, m2, m3, m4, ⟨N0, hN0⟩, m6, m7⟩ := ms
      have r8 : ∀ p, g.2.2.1 1 - colN M p ≤ 8 := fun p => by omega
      refine bX7_findPlan_40 _ ⟨fun c => absurd (hx1.1 ▸ c) (cnt_step hwn h8), fun _ => ?_⟩
      have mge : ∀ v p, w ≤ v → M v p = false := fun v p hv => by
        cases e : M v p with
        | false => rfl
        | true => have := (m1 v p e).2; omega
      have sets : ∀ j s, s + j = 2 ^ g.1 → 0 < s → ∀ (best : Nat) S2, FrA [28] S1 S2 → RM g.1 (fun p => g.2.2.1 1 - colN M p) S2 → ((best = 0 ∧ ∀ t, 0 < t → t < s → ¬ okS g (fun p => g.2.2.1 1 - colN M p) w t) ∨ (0 < best ∧ best < 2 ^ g.1 ∧ okS g (fun p => g.2.2.1 1 - colN M p) w best ∧ ∀ t, 0 < t → t < s → okS g (fun p => g.2.2.1 1 - colN M p) w t → ¬ Ahead t best)) → wX7_findPlan P 52 [.ref 47, .int (nI w), .int (nI best), .int (nI s)] [] S2 := by
        intro j
        induction j with
        | zero =>
          intro s hs hs0 best S2 fr rm inv
          have e : s = 2 ^ g.1 := by omega
          subst e
          have sr2 : SR S1 S2 := fr.sr (by decide)
          have hx2 := hx1.sr sr2
          refine bX7_findPlan_52 _ _ _ ?_
          rw [hx2.1, sh1 h8]
          refine ⟨fun _ => ⟨ii hwn h8, ?_⟩, fun c => absurd (nI_le (Nat.le_refl _) (by omega)) c⟩
          rcases inv with ⟨_, none⟩ | ⟨b0, bl, bok, bah⟩
          · exfalso
            obtain ⟨o1, o2, o3, _⟩ := row_ok hg (r := fun p => g.2.2.1 1 - colN M p) (L := fun p => g.2.2.1 1 - colN M p) (M := fun _ _ => false) hwn (Nat.le_refl _) hN0 (fun v p hv => by
              cases e : N0 v p with
              | false => rfl
              | true => have := (hN0.1 v p e).2; omega) (fun _ _ _ => rfl) (fun p => by
              rw [show colN (fun _ _ => false) p = 0 from lsum_zero (fun _ _ => rfl)]; rfl)
            exact none _ o2 o3 o1
          · have b256 : best < 256 := by omega
            obtain ⟨⟨bk, bc⟩, N, hN⟩ := bok
            rw [nI_clamp (by omega)]
            have hx3 : MB g (sA S2 29 (upd (S2.2.2.1 29) w (nI best))) := hx2.sr (SR.A (by decide))
            refine useM_1 hg hx3 (r := fun p => g.2.2.1 1 - colN M p) rm r8 b256 (fun p hp hb => (bc p hp hb).2) (fun S3 fr3 rm3 => ?_)
            rw [nI_1]
            have sr3 : SR S S3 := ((sr.tr sr2).tr (SR.A (by decide))).tr (fr3.sr (by decide))
            have bn : ∀ x, best.testBit x = true → x < g.1 := fun x hb => by
              rcases Nat.lt_or_ge x g.1 with z | z
              · exact z
              · rw [Nat.testBit_lt_two_pow (Nat.lt_of_lt_of_le bl (Nat.pow_le_pow_right (by decide) z))] at hb
                exact absurd hb (by decide)
            have col : ∀ p, colN (addRow M w best) p = colN M p + b2 (best.testBit p) := fun p => addRow_col (by omega) (fun v p h => (m1 v p h).2)
            refine ih (w + 1) (by omega) (addRow M w best) S3 sr3 ⟨fun v p hv => ?_, fun v hv => ?_, fun p hp => ?_, fun v x hv => ?_, ⟨N, hN.1, hN.2.1, fun p hp => ?_⟩, fun p hp => ?_, fun v hv => ?_⟩
            · by_cases z : v = w
              · subst z
                rw [addRow_eq] at hv
                exact ⟨(bc p (bn p hv) hv).1, by omega⟩
              · rw [addRow_ne z] at hv
                have := m1 v p hv
                exact ⟨this.1, by omega⟩
            · by_cases z : v = w
              · subst z
                rw [← bk, csum_lsum]
                exact lsum_congr (fun x _ => by rw [addRow_eq]; rfl)
              · rw [← m2 v (by omega)]
                exact lsum_congr (fun x _ => by rw [addRow_ne z])
            · rw [col p]
              have a := m3 p hp
              cases e : best.testBit p with
              | false => exact a
              | true =>
                have q : 1 ≤ g.2.2.1 1 - colN M p := (bc p (bn p e) e).2
                show colN M p + 1 ≤ g.2.2.1 1
                omega
            · by_cases z : v = w
              · subst z
                intro Q hQ hb hq
                rw [addRow_eq]
                cases e : best.testBit x with
                | true => rfl
                | false =>
                  exfalso
                  obtain ⟨o1, o2, o3, o4⟩ := row_ok hg (r := fun p => g.2.2.1 1 - colN M p) (L := fun _ => g.2.2.1 1) (M := M) hwn (Nat.zero_le _) hQ (fun u p hu => by rw [hb u p (Or.inl hu), addRow_ne (by omega)]) mge (fun p => rfl)
                  refine bah _ o2 o3 o1 ⟨x, ?_, fun y hy => ?_, by rw [o4]; exact hq, e⟩
                  · have := (canS_in v x (hQ.1 v x hq).1).2
                    omega
                  · rw [o4, hb v y (Or.inr ⟨rfl, hy⟩), addRow_eq]
              · exact gf_same (m4 v x (by omega)) (fun u y hb => addRow_ne (by rcases hb with q | q <;> omega)) (addRow_ne z)
            · have := hN.2.2 p hp
              show colN N p ≤ g.2.2.1 1 - colN (addRow M w best) p
              rw [col p]
              have q : colN N p ≤ g.2.2.1 1 - colN M p - b2 (best.testBit p) := this
              omega
            · rw [rm3 p hp]
              show nI (g.2.2.1 1 - colN M p - b2 (best.testBit p)) = nI (g.2.2.1 1 - colN (addRow M w best) p)
              rw [col p, Nat.sub_sub]
            · have e29 : S3.2.2.1 29 = upd (S2.2.2.1 29) w (nI best) := fr3.2.2.1 29 (by decide)
              rw [e29]
              by_cases z : v = w
              · subst z
                rw [upd_eq]
                congr 1
                refine set_ext b256 (msk_lt _ (Nat.le_refl _)) (fun i hi => ?_)
                rw [m8_bit _ hi, addRow_eq]
              · rw [upd_ne z, fr.2.2.1 29 (by decide), m7 v (by omega)]
                congr 1
                refine set_ext (msk_lt _ (Nat.le_refl _)) (msk_lt _ (Nat.le_refl _)) (fun i hi => ?_)
                rw [m8_bit _ hi, m8_bit _ hi, addRow_ne z]
        | succ j ihj =>
          intro s hs hs0 best S2 fr rm inv
          have hs2 : s < 2 ^ g.1 := by omega
          have s256 : s < 256 := by omega
          have hx2 := hx1.sr (fr.sr (by decide))
          refine bX7_findPlan_52 _ _ _ ?_
          rw [hx2.1, sh1 h8]
          refine ⟨fun c => absurd c (nI_ge hs2 (by omega)), fun _ => ?_⟩
          -- a set that is not taken
          have skip : ∀ S3, FrA [28] S1 S3 → RM g.1 (fun p => g.2.2.1 1 - colN M p) S3 → (okS g (fun p => g.2.2.1 1 - colN M p) w s → best ≠ 0 ∧ ¬ Ahead s best) → wX7_findPlan P 52 [.ref 47, .int (nI w), .int (nI best), .int (nI (s + 1))] [] S3 := fun S3 fr3 rm3 hno => by
            refine ihj (s + 1) (by omega) (by omega) best S3 fr3 rm3 ?_
            rcases inv with ⟨a, b⟩ | ⟨a, b, c, d⟩
            · refine Or.inl ⟨a, fun t ht hts ok => ?_⟩
              by_cases z : t = s
              · subst z; exact (hno ok).1 a
              · exact b t ht (by omega) ok
            · refine Or.inr ⟨a, b, c, fun t ht hts ok => ?_⟩
              by_cases z : t = s
              · subst z; exact (hno ok).2
              · exact d t ht (by omega) ok
          -- a set that is tried
          have tryS : mayBeS g (fun p => g.2.2.1 1 - colN M p) w s → (best = 0 ∨ Ahead s best) → tX7_use (nI s) 1 S2 (fun S5 => tX7_lackFrom (nI w + 1) S5 (fun r7 S6 => ((¬ r7 = 0 → tX7_use (nI s) (-1) S6 (fun S8 => wX7_findPlan P 52 [.ref 47, .int (nI w), .int (nI best), .int (nI (s + 1))] [] S8)) ∧ (r7 = 0 → tX7_use (nI s) (-1) S6 (fun S9 => wX7_findPlan P 52 [.ref 47, .int (nI w), .int (nI s), .int (nI (s + 1))] [] S9))))) := fun mb hor => by
            refine useM_1 hg hx2 rm r8 s256 (fun p hp hb => (mb.2 p hp hb).2) (fun S5 fr5 rm5 => ?_)
            have hx5 := hx2.sr (fr5.sr (by decide))
            rw [nI_1]
            refine lackFromM hg hx5 rm5 (fun p => by have := r8 p; omega) (by omega) (fun T hT => ?_)
            have fi := feas_iff hg hT
            have t256 : T < 256 := by rcases hT with q | q <;> omega
            rw [nI_z (by omega)]
            refine ⟨fun c => useM_m hg hx5 (r := fun p => g.2.2.1 1 - colN M p) rm5 r8 s256 (fun p hp hb => (mb.2 p hp hb).2) (fun S8 fr8 rm8 => skip S8 ((fr.tr fr5).tr fr8) rm8 (fun ok => absurd (fi.mpr ok.2) c)), fun c => useM_m hg hx5 (r := fun p => g.2.2.1 1 - colN M p) rm5 r8 s256 (fun p hp hb => (mb.2 p hp hb).2) (fun S8 fr8 rm8 => ?_)⟩
            refine ihj (s + 1) (by omega) (by omega) s S8 ((fr.tr fr5).tr fr8) rm8 (Or.inr ⟨hs0, hs2, ⟨mb, fi.mp c⟩, fun t ht hts ok ah => ?_⟩)
            by_cases z : t = s
            · subst z; exact ahead_ir ah
            · rcases inv with ⟨a, b⟩ | ⟨a, b, c2, d⟩
              · exact b t ht (by omega) ok
              · rcases hor with q | q
                · omega
                · exact d t ht (by omega) ok (ahead_tr ah q)
          have bl : best < 256 := by rcases inv with q | q <;> omega
          rw [nI_1]
          refine mayBeM hg hx2 rm r8 hwn s256 (fun mb => ⟨fun z => absurd z (by decide), fun _ => ?_⟩) (fun nb => ⟨fun _ => skip S2 fr rm (fun ok => absurd ok.1 nb), fun z => absurd rfl z⟩)
          rw [nI_z (by omega)]
          refine ⟨fun c => tryS mb (Or.inl c), fun c => isAheadM s256 bl (fun ah => ⟨fun z => absurd z (by decide), fun _ => tryS mb (Or.inr ah)⟩) (fun na => ⟨fun _ => skip S2 fr rm (fun _ => ⟨c, na⟩), fun z => absurd rfl z⟩)⟩
      exact sets (2 ^ g.1 - 1) 1 (by omega) (by decide) 0 S1 (FrA.rf _ S1) m6 (Or.inl ⟨rfl, fun t ht hts => by omega⟩)
  -- rooms
  have rooms : ∀ k i, i + k = g.1 → ∀ F : Nat → Int32, (∀ p, p < i → F p = nI (g.2.2.1 1)) → wX7_findPlan P 2 [.ref 47, .int (nI i), .retAddr 0, .retAddr 0] [] (sA S 28 F) := by
    intro k
    induction k with
    | zero =>
      intro i hi F hF
      have e : i = g.1 := by omega
      subst e
      have sr : SR S (sA S 28 F) := SR.A (by decide)
      have hx1 := hx.sr sr
      refine bX7_findPlan_2 _ ⟨fun _ => ?_, fun c => absurd (by rw [hx1.1]; exact nI_le (Nat.le_refl _) (by omega)) c⟩
      refine lackFromM (r := fun _ => g.2.2.1 1) (w0 := 0) hg hx1 hF (fun _ => by omega) (by decide) (fun T hT => ?_)
      have fi := feas_iff hg hT
      have t256 : T < 256 := by rcases hT with q | q <;> omega
      rw [show (0 : Int32) = nI 0 from rfl, nI_leI (by omega) (by decide)]
      have c0 : ∀ p, colN (fun _ _ => false) p = 0 := fun p => lsum_zero (fun _ _ => rfl)
      refine ⟨fun c => ?_, fun c => h0 _ sr (fun N hN => c (by rw [fi.mpr ⟨N, hN⟩]; exact Nat.le_refl _))⟩
      obtain ⟨N, hN⟩ := fi.mp (by omega)
      refine rows g.1 0 (by omega) (fun _ _ => false) _ sr ⟨fun v p h => absurd (show false = true from h) (by decide), fun v hv => by omega, fun p _ => by rw [c0]; exact Nat.zero_le _, fun v x hv => by omega, ⟨N, hN.1, hN.2.1, fun p hp => ?_⟩, fun p hp => ?_, fun v hv => by omega⟩
      · show colN N p ≤ g.2.2.1 1 - colN (fun _ _ => false) p
        rw [c0]
        exact hN.2.2 p hp
      · show F p = nI (g.2.2.1 1 - colN (fun _ _ => false) p)
        rw [c0, hF p hp]
        rfl
    | succ k ih =>
      intro i hi F hF
      have hin : i < g.1 := by omega
      refine bX7_findPlan_2 _ ⟨fun c => absurd (show nI g.1 ≤ nI i from hx.1 ▸ c) (cnt_step hin h8), fun _ => ⟨ii hin h8, ?_⟩⟩
      have e1 : (sA S 28 F).2.2.1 25 1 = nI (g.2.2.1 1) := hx.2.2.1 1 (by decide)
      rw [nI_1, nI_clamp (by omega), e1]
      show wX7_findPlan P 2 _ _ (sA (sA S 28 F) 28 (upd F i (nI (g.2.2.1 1))))
      rw [sA_same]
      refine ih (i + 1) (by omega) _ (fun p hp => ?_)
      by_cases z : p = i
      · subst z; rw [upd_eq]
      · rw [upd_ne z]; exact hF p (by omega)
  have hz := rooms g.1 0 (by omega) (S.2.2.1 28) (fun p hp => by omega)
  rw [sA_self] at hz
  exact hz
