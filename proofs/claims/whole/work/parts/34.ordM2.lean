/-! ===== the reference's calls about orders ===== -/
/-- only the reference's scratch cells may differ -/
def SR (S S1 : St) : Prop := (∀ k, k ≤ 8 → S1.1 k = S.1 k) ∧ (∀ k, k < 28 → S1.2.2.1 k = S.2.2.1 k) ∧ (∀ k, k < 14 → S1.2.2.2 k = S.2.2.2 k)
theorem SR.rf (S : St) : SR S S := ⟨fun _ _ => rfl, fun _ _ => rfl, fun _ _ => rfl⟩
theorem SR.tr {S S1 S2 : St} (h : SR S S1) (h2 : SR S1 S2) : SR S S2 := ⟨fun k hk => (h2.1 k hk).trans (h.1 k hk), fun k hk => (h2.2.1 k hk).trans (h.2.1 k hk), fun k hk => (h2.2.2 k hk).trans (h.2.2 k hk)⟩
theorem SR.A {S : St} {k : Nat} {f : Nat → Int32} (h : 28 ≤ k) : SR S (sA S k f) := ⟨fun _ _ => rfl, fun j hj => up_ne (by omega), fun _ _ => rfl⟩
theorem SR.B {S : St} {k : Nat} {f : Nat → Int64} (h : 14 ≤ k) : SR S (sB S k f) := ⟨fun _ _ => rfl, fun _ _ => rfl, fun j hj => up_ne (by omega)⟩
theorem SR.I {S : St} {k : Nat} {v : Int32} (h : 9 ≤ k) : SR S (sI S k v) := ⟨fun j hj => up_ne (by omega), fun _ _ => rfl, fun _ _ => rfl⟩
theorem SR.J {S : St} {k : Nat} {v : Int64} : SR S (sJ S k v) := ⟨fun _ _ => rfl, fun _ _ => rfl, fun _ _ => rfl⟩
theorem SR.x {S S1 : St} (h : SR S S1) : SameX S S1 := ⟨fun k hk => h.1 k (by omega), fun k hk => h.2.1 k (by omega), h.2.2⟩
theorem MB.sr {g : Sg} {S S1 : St} (h : MB g S) (hs : SR S S1) : MB g S1 := by
  obtain ⟨h1, h2, h3, h4, h5⟩ := h
  obtain ⟨s1, s3, s4⟩ := hs
  refine ⟨by rw [s1 8 (by decide)]; exact h1, ?_, ?_, ?_, ?_⟩
  · rw [s3 24 (by decide)]; exact h2
  · rw [s3 25 (by decide)]; exact h3
  · rw [s3 26 (by decide)]; exact h4
  · rw [s3 27 (by decide)]; exact h5
theorem oI_n : oI none = -1 := rfl
theorem orderM {P : Int32 → St → Prop} {S : St} {g : Sg} (hg : Wf g) (hx : MB g S) {a : Int32} (h1 : ∀ i S1, i < g.1 → a = nI i → SR S S1 → P (nI (rowS (qz g none) g.1 i)) S1) (hu : unk1 g.1 a → P (-1002) S) : tX7_order a S P := by
  have h8 := hg.1.2
  have h2 := hg.1.1
  refine bX7_order_0 _ (is_ok hx.1 (by omega) h8 (fun i hi ea => ⟨fun _ => ?_, fun z => absurd z (by decide)⟩) (fun c => ⟨fun z => absurd rfl z, fun _ => hu (fun p hp e => nI_out h8 c hp e)⟩))
  subst ea
  refine findOrderM (wo := none) hg hx (fun k hk => by cases hk) (fun F L Pl hL hPl => ?_)
  have hs : SR S (sA (sA (sA S 32 F) 33 L) 34 Pl) := (((SR.A (by decide)).tr (SR.A (by decide))).tr (SR.A (by decide)))
  have hx1 := hx.sr hs
  have hq := qz_le hg none
  have hrow := rowS_lt hq h8 hi
  -- the place of each work
  have hpos : ∀ w, w < g.1 → Pl w = nI (posS (qz g none) g.1 w) := fun w hw => by
    obtain ⟨a1, a2⟩ := posS_spec hq h8 hw
    have := hPl _ a1
    rw [a2] at this
    exact this
  have key : ∀ k w, w + k = g.1 → ∀ x, (x = nI (rowS (qz g none) g.1 i) ∨ w ≤ rowS (qz g none) g.1 i) → wX7_order P 21 [.ref 47, .int (nI i), .int x, .int (nI w)] [] (sA (sA (sA S 32 F) 33 L) 34 Pl) := by
    intro k
    induction k with
    | zero =>
      intro w hw x hxx
      have e : w = g.1 := by omega
      subst e
      refine bX7_order_21 _ _ _ ⟨fun _ => ?_, fun c => absurd (by rw [hx1.1]; exact nI_le (Nat.le_refl _) (by omega)) c⟩
      rcases hxx with z | z
      · rw [z]; exact h1 i _ hi rfl hs
      · omega
    | succ k ih =>
      intro w hw x hxx
      have hwn : w < g.1 := by omega
      refine bX7_order_21 _ _ _ ⟨fun c => absurd (hx1.1 ▸ c) (cnt_step hwn h8), fun _ => ⟨ii hwn h8, ?_⟩⟩
      rw [nI_1, nI_clamp (by omega)]
      have e := hpos w hwn
      have pw := posS_spec hq h8 hwn
      refine ⟨fun c => ih (w + 1) (by omega) x ?_, fun c => ih (w + 1) (by omega) _ ?_⟩
      · rcases hxx with z | z
        · exact Or.inl z
        · refine Or.inr ?_
          rcases Nat.lt_or_ge w (rowS (qz g none) g.1 i) with y | y
          · omega
          · exfalso
            apply c
            show Pl w = nI i
            rw [e, show w = rowS (qz g none) g.1 i by omega, posS_row hq h8 hi]
      · have c2 : Pl w = nI i := c
        rw [e, nI_eq (by omega) (by omega)] at c2
        rw [c2] at pw
        exact Or.inl (by rw [pw.2])
  exact key g.1 0 (by omega) _ (Or.inr (Nat.zero_le _))
theorem quarrelsM {P : Int32 → St → Prop} {S : St} {g : Sg} (hg : Wf g) (hx : MB g S) (h1 : ∀ S1, SR S S1 → P (nI (ls (qz g none) g.1 (2 ^ g.1 - 1))) S1) : tX7_quarrel S P := by
  have h8 := hg.1.2
  have hpp := p2_pos g.1
  have hp8 := pow8 h8
  refine bX7_quarrel_0 ?_
  refine findOrderM (wo := none) hg hx (fun k hk => by cases hk) (fun F L Pl hL hPl => ?_)
  have hs : SR S (sA (sA (sA S 32 F) 33 L) 34 Pl) := (((SR.A (by decide)).tr (SR.A (by decide))).tr (SR.A (by decide)))
  have hx1 := hx.sr hs
  rw [hx1.1, sh1 h8, sub1 hpp, nI_clamp (by omega)]
  refine ⟨vp_in_nI (by omega) (by decide), ?_⟩
  have e : (sA (sA (sA S 32 F) 33 L) 34 Pl).2.2.1 33 (2 ^ g.1 - 1) = nI (ls (qz g none) g.1 (2 ^ g.1 - 1)) := hL _ (by omega)
  rw [e]
  exact h1 _ hs
theorem lsum_congr {f f2 : Nat → Nat} : ∀ {n : Nat}, (∀ i, i < n → f i = f2 i) → lsum f n = lsum f2 n
  | 0, _ => rfl
  | n + 1, h => by
    show lsum f n + f n = lsum f2 n + f2 n
    rw [lsum_congr (fun i hi => h i (by omega)), h n (by omega)]
/-- the same count, over works -/
def trW (g : Sg) (p a b : Nat) : Nat := if posS (qz g none) g.1 a < posS (qz g none) g.1 b ∧ turnB g.2.2.2.1 p a b = true then 1 else 0
theorem trnI_lsum (g : Sg) (p i : Nat) : ∀ j, trnI g p i j = lsum (fun j => if i < j ∧ turnB g.2.2.2.1 p (rowS (qz g none) g.1 i) (rowS (qz g none) g.1 j) = true then 1 else 0) j
  | 0 => rfl
  | j + 1 => by
    rw [trnI_s, trnI_lsum g p i j]
    rfl
theorem trnS_eq {g : Sg} (hg : Wf g) (p : Nat) : trnS g p = lsum (fun a => lsum (fun b => trW g p a b) g.1) g.1 := by
  have h8 := hg.1.2
  have hq := qz_le hg none
  rw [row_sums hq h8 (fun a => lsum (fun b => trW g p a b) g.1)]
  unfold trnS
  refine lsum_congr (fun i hi => ?_)
  rw [trnI_lsum]
  show _ = lsum (fun b => trW g p (rowS (qz g none) g.1 i) b) g.1
  rw [row_sums hq h8 (fun b => trW g p (rowS (qz g none) g.1 i) b)]
  refine lsum_congr (fun j hj => ?_)
  show _ = trW g p (rowS (qz g none) g.1 i) (rowS (qz g none) g.1 j)
  unfold trW
  rw [posS_row hq h8 hi, posS_row hq h8 hj]
theorem turnedM {P : Int32 → St → Prop} {S : St} {g : Sg} (hg : Wf g) (hx : MB g S) {a : Int32} (h1 : ∀ p S1, p < g.1 → a = nI p → SR S S1 → P (nI (trnS g p)) S1) (hu : unk1 g.1 a → P (-1001) S) : tX7_turned a S P := by
  have h8 := hg.1.2
  have h2 := hg.1.1
  refine bX7_turned_0 _ (is_ok hx.1 (by omega) h8 (fun i hi ea => ⟨fun _ => ?_, fun z => absurd z (by decide)⟩) (fun c => ⟨fun z => absurd rfl z, fun _ => hu (fun p hp e => nI_out h8 c hp e)⟩))
  subst ea
  refine findOrderM (wo := none) hg hx (fun k hk => by cases hk) (fun F L Pl hL hPl => ?_)
  have hs : SR S (sA (sA (sA S 32 F) 33 L) 34 Pl) := (((SR.A (by decide)).tr (SR.A (by decide))).tr (SR.A (by decide)))
  have hx1 := hx.sr hs
  have hq := qz_le hg none
  have hpos : ∀ w, w < g.1 → Pl w = nI (posS (qz g none) g.1 w) := fun w hw => by
    obtain ⟨a1, a2⟩ := posS_spec hq h8 hw
    have := hPl _ a1
    rw [a2] at this
    exact this
  have fin := h1 i _ hi rfl hs
  rw [trnS_eq hg] at fin
  refine loop_dn (fun a => wX7_turned P 21 [.ref 47, .int (nI i), .int (nI (lsum (fun a => lsum (fun b => trW g i a b) g.1) a)), .int (nI a), .retAddr 0] [] (sA (sA (sA S 32 F) 33 L) 34 Pl)) g.1 (fun a ha ih => ?_) ?_
  · refine bX7_turned_21 _ _ _ ⟨fun c => absurd (hx1.1 ▸ c) (cnt_step ha h8), fun _ => ?_⟩
    refine loop_dn (fun b => wX7_turned P 32 [.ref 47, .int (nI i), .int (nI (lsum (fun a => lsum (fun b => trW g i a b) g.1) a + lsum (fun b => trW g i a b) b)), .int (nI a), .int (nI b)] [] (sA (sA (sA S 32 F) 33 L) 34 Pl)) g.1 (fun b hb ih2 => ?_) ?_
    · refine bX7_turned_32 _ _ _ _ ⟨fun c => absurd (hx1.1 ▸ c) (cnt_step hb h8), fun _ => ⟨ii ha h8, ii hb h8, ?_⟩⟩
      rw [nI_1, nI_clamp (by omega), nI_clamp (by omega)]
      have ea : (sA (sA (sA S 32 F) 33 L) 34 Pl).2.2.1 34 a = nI (posS (qz g none) g.1 a) := hpos a ha
      have eb : (sA (sA (sA S 32 F) 33 L) 34 Pl).2.2.1 34 b = nI (posS (qz g none) g.1 b) := hpos b hb
      have la := (posS_spec hq h8 ha).1
      have lb := (posS_spec hq h8 hb).1
      rw [ea, eb, nI_leI (by omega) (by omega), show nI (lsum (fun a => lsum (fun b => trW g i a b) g.1) a + lsum (fun b => trW g i a b) b) + 0 = nI (lsum (fun a => lsum (fun b => trW g i a b) g.1) a + lsum (fun b => trW g i a b) b) from Int32.add_zero _]
      rw [show lsum (fun b => trW g i a b) (b + 1) = lsum (fun b => trW g i a b) b + trW g i a b from rfl] at ih2
      unfold trW at ih2
      refine ⟨fun c => ?_, fun c => ?_⟩
      · rw [if_neg (fun z => by omega)] at ih2
        exact ih2
      · refine turnsM hg hx1 (by omega) (by omega) (by omega) ?_
        cases et : turnB g.2.2.2.1 i a b with
        | false =>
          rw [et, if_neg (fun z => absurd z.2 (by decide))] at ih2
          exact ⟨fun _ => ih2, fun z => absurd rfl z⟩
        | true =>
          rw [if_pos ⟨by omega, et⟩] at ih2
          refine ⟨fun z => absurd z (by decide), fun _ => ?_⟩
          rw [nI_1]
          exact ih2
    · refine bX7_turned_32 _ _ _ _ ⟨fun _ => ?_, fun c => absurd (by rw [hx1.1]; exact nI_le (Nat.le_refl _) (by omega)) c⟩
      rw [nI_1]
      exact ih
  · exact bX7_turned_21 _ _ _ ⟨fun _ => fin, fun c => absurd (by rw [hx1.1]; exact nI_le (Nat.le_refl _) (by omega)) c⟩
theorem neg_sub0 (a : Int32) : -a = 0 - a := (Int32.zero_sub a).symm
theorem movesM {P : Int32 → St → Prop} {S : St} {g : Sg} (hg : Wf g) (hx : MB g S) {a : Int32} (h1 : ∀ p S1, p < g.1 → a = nI p → SR S S1 → P (nI (movS g p)) S1) (hu : unk1 g.1 a → P (-1001) S) : tX7_moves a S P := by
  have h8 := hg.1.2
  have h2 := hg.1.1
  refine bX7_moves_0 _ (is_ok hx.1 (by omega) h8 (fun i hi ea => ⟨fun _ => ?_, fun z => absurd z (by decide)⟩) (fun c => ⟨fun z => absurd rfl z, fun _ => hu (fun p hp e => nI_out h8 c hp e)⟩))
  subst ea
  refine findOrderM (wo := some i) hg hx (fun k hk => by cases hk; omega) (fun F L Pl hL hPl => ?_)
  have hs : SR S (sA (sA (sA S 32 F) 33 L) 34 Pl) := (((SR.A (by decide)).tr (SR.A (by decide))).tr (SR.A (by decide)))
  have hx1 := hx.sr hs
  have hq := qz_le hg none
  have hqi := qz_le hg (some i)
  have hpos : ∀ w, w < g.1 → Pl w = nI (posS (qz g (some i)) g.1 w) := fun w hw => by
    obtain ⟨a1, a2⟩ := posS_spec hqi h8 hw
    have := hPl _ a1
    rw [a2] at this
    exact this
  have cpy : ∀ k m, m + k = g.1 → ∀ O : Nat → Int32, (∀ j, j < m → O j = nI (posS (qz g (some i)) g.1 j)) → wX7_moves P 19 [.ref 47, .int (nI i), .int (nI m), .retAddr 0, .retAddr 0] [] (sA (sA (sA (sA S 32 F) 33 L) 34 Pl) 35 O) := by
    intro k
    induction k with
    | zero =>
      intro m hm O hO
      have e : m = g.1 := by omega
      subst e
      have hs2 : SR (sA (sA (sA S 32 F) 33 L) 34 Pl) (sA (sA (sA (sA S 32 F) 33 L) 34 Pl) 35 O) := SR.A (by decide)
      have hx2 := hx1.sr hs2
      refine bX7_moves_19 _ _ ⟨fun _ => ?_, fun c => absurd (by rw [hx2.1]; exact nI_le (Nat.le_refl _) (by omega)) c⟩
      refine findOrderM (wo := none) hg hx2 (fun k hk => by cases hk) (fun F3 L3 Pl3 hL3 hPl3 => ?_)
      have hs3 : SR S (sA (sA (sA (sA (sA (sA (sA S 32 F) 33 L) 34 Pl) 35 O) 32 F3) 33 L3) 34 Pl3) := (((((hs.tr hs2)).tr (SR.A (by decide))).tr (SR.A (by decide))).tr (SR.A (by decide)))
      have hpos3 : ∀ w, w < g.1 → Pl3 w = nI (posS (qz g none) g.1 w) := fun w hw => by
        obtain ⟨a1, a2⟩ := posS_spec hq h8 hw
        have := hPl3 _ a1
        rw [a2] at this
        exact this
      have fin := h1 i _ hi rfl hs3
      have hx3 := hx.sr hs3
      have eA : ∀ w, w < g.1 → (sA (sA (sA (sA (sA (sA (sA S 32 F) 33 L) 34 Pl) 35 O) 32 F3) 33 L3) 34 Pl3).2.2.1 34 w = nI (posS (qz g none) g.1 w) := hpos3
      have eB : ∀ w, w < g.1 → (sA (sA (sA (sA (sA (sA (sA S 32 F) 33 L) 34 Pl) 35 O) 32 F3) 33 L3) 34 Pl3).2.2.1 35 w = nI (posS (qz g (some i)) g.1 w) := hO
      generalize (sA (sA (sA (sA (sA (sA (sA S 32 F) 33 L) 34 Pl) 35 O) 32 F3) 33 L3) 34 Pl3) = S3 at fin hx3 eA eB
      have b8 : ∀ w, maxN (fun w => dist (posS (qz g none) g.1 w) (posS (qz g (some i)) g.1 w)) w < 8 ∨ g.1 < w := by
        intro w
        rcases Nat.lt_or_ge g.1 w with z | z
        · exact Or.inr z
        · rcases (maxN_spec (fun w => dist (posS (qz g none) g.1 w) (posS (qz g (some i)) g.1 w)) w).2 with e | ⟨v, hv, e⟩
          · omega
          · have a1 := (posS_spec hq h8 (show v < g.1 by omega)).1
            have a2 := (posS_spec hqi h8 (show v < g.1 by omega)).1
            have : dist (posS (qz g none) g.1 v) (posS (qz g (some i)) g.1 v) < 8 := by unfold dist; split <;> omega
            omega
      refine loop_dn (fun w => wX7_moves P 54 [.ref 47, .int (nI i), .int (nI (maxN (fun w => dist (posS (qz g none) g.1 w) (posS (qz g (some i)) g.1 w)) w)), .int (nI w), .retAddr 0] [] S3) g.1 (fun w hw ih => ?_) ?_
      · refine bX7_moves_54 _ _ _ ⟨fun c => absurd (hx3.1 ▸ c) (cnt_step hw h8), fun _ => ⟨ii hw h8, ?_⟩⟩
        rw [nI_1, nI_clamp (by omega), eA w hw, eB w hw]
        have a1 := (posS_spec hq h8 hw).1
        have a2 := (posS_spec hqi h8 hw).1
        have hd := nI_dist (show posS (qz g none) g.1 w < 8 by omega) (show posS (qz g (some i)) g.1 w < 8 by omega)
        have d8 : dist (posS (qz g none) g.1 w) (posS (qz g (some i)) g.1 w) < 8 := by unfold dist; split <;> omega
        have m8 : maxN (fun w => dist (posS (qz g none) g.1 w) (posS (qz g (some i)) g.1 w)) w < 8 := by rcases b8 w with z | z <;> omega
        have ihm : wX7_moves P 54 [.ref 47, .int (nI i), .int (nI (if maxN (fun w => dist (posS (qz g none) g.1 w) (posS (qz g (some i)) g.1 w)) w < dist (posS (qz g none) g.1 w) (posS (qz g (some i)) g.1 w) then dist (posS (qz g none) g.1 w) (posS (qz g (some i)) g.1 w) else maxN (fun w => dist (posS (qz g none) g.1 w) (posS (qz g (some i)) g.1 w)) w)), .int (nI (w + 1)), .retAddr 0] [] S3 := ih
        refine ⟨fun c => ?_, fun c => ?_⟩
        · rw [if_pos c] at hd
          rw [hd, nI_leI (by omega) (by omega)]
          refine ⟨fun c2 => ?_, fun c2 => ?_⟩
          · rw [if_neg (by omega)] at ihm; exact ihm
          · rw [if_pos (by omega)] at ihm; exact ihm
        · rw [if_neg c] at hd
          rw [neg_sub0, hd, nI_leI (by omega) (by omega)]
          refine ⟨fun c2 => ?_, fun c2 => ?_⟩
          · rw [if_neg (by omega)] at ihm; exact ihm
          · rw [if_pos (by omega)] at ihm; exact ihm
      · exact bX7_moves_54 _ _ _ ⟨fun _ => fin, fun c => absurd (by rw [hx3.1]; exact nI_le (Nat.le_refl _) (by omega)) c⟩
    | succ k ih =>
      intro m hm O hO
      have hmn : m < g.1 := by omega
      have hx2 : MB g (sA (sA (sA (sA S 32 F) 33 L) 34 Pl) 35 O) := hx1.sr (SR.A (by decide))
      refine bX7_moves_19 _ _ ⟨fun c => absurd (hx2.1 ▸ c) (cnt_step hmn h8), fun _ => ⟨ii hmn h8, ?_⟩⟩
      rw [nI_1, nI_clamp (by omega)]
      show wX7_moves P 19 _ _ (sA (sA (sA (sA (sA S 32 F) 33 L) 34 Pl) 35 O) 35 (upd O m (Pl m)))
      rw [sA_same]
      refine ih (m + 1) (by omega) _ (fun j hj => ?_)
      by_cases e : j = m
      · subst e; rw [upd_eq, hpos j hmn]
      · rw [upd_ne e, hO j (by omega)]
  have h0 := cpy g.1 0 (by omega) ((sA (sA (sA S 32 F) 33 L) 34 Pl).2.2.1 35) (fun j hj => by omega)
  rw [sA_self] at h0
  exact h0
