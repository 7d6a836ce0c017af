/-! ===== class and reference side by side ===== -/
def SimG (g : Sg) (S : St) : Prop := Wf g ∧ XB g S ∧ MB g S ∧ XO g S ∧ XSh g S ∧ XP Sol g S
def Sim (S : St) : Prop := ∃ g, SimG g S
theorem XO.keep {g : Sg} {S S1 : St} (h : XO g S) (i6 : S1.1 6 = S.1 6) (i7 : S1.1 7 = S.1 7) (a21 : S1.2.2.1 21 = S.2.2.1 21) (a23 : S1.2.2.1 23 = S.2.2.1 23) : XO g S1 := by
  unfold XO XOf at h ⊢
  rw [i6, i7, a21, a23]
  exact h
theorem XSh.keep {g : Sg} {S S1 : St} (h : XSh g S) (i1 : S1.1 1 = S.1 1) (i2 : S1.1 2 = S.1 2) (a11 : S1.2.2.1 11 = S.2.2.1 11) (a12 : S1.2.2.1 12 = S.2.2.1 12) : XSh g S1 := by
  unfold XSh XSf XM at h ⊢
  rw [i1, i2, a11, a12]
  exact h
theorem XP.keep {g : Sg} {S S1 : St} (h : XP Sol g S) (i3 : S1.1 3 = S.1 3) (i4 : S1.1 4 = S.1 4) (a15 : S1.2.2.1 15 = S.2.2.1 15) (a16 : S1.2.2.1 16 = S.2.2.1 16) (a17 : S1.2.2.1 17 = S.2.2.1 17) (b0 : S1.2.2.2 0 = S.2.2.2 0) (b1 : S1.2.2.2 1 = S.2.2.2 1) (b2 : S1.2.2.2 2 = S.2.2.2 2) : XP Sol g S1 := by
  unfold XP XPf Sol at h ⊢
  rw [i3, i4, a15, a16, a17, b0, b1, b2]
  exact h
theorem simO {g : Sg} {S S1 : St} (s : SimG g S) (h : SameO S S1) (ho : XOf g S1) : SimG g S1 := by
  obtain ⟨hg, hx, hm, _, hs, hp⟩ := s
  exact ⟨hg, hx.sameO h, hm.same h.M, Or.inr ho, hs.keep (h.1 1 (by decide) (by decide)) (h.1 2 (by decide) (by decide)) (h.2.2.1 11 (by decide)) (h.2.2.1 12 (by decide)), hp.keep (h.1 3 (by decide) (by decide)) (h.1 4 (by decide) (by decide)) (h.2.2.1 15 (by decide)) (h.2.2.1 16 (by decide)) (h.2.2.1 17 (by decide)) (h.2.2.2 0 (by decide)) (h.2.2.2 1 (by decide)) (h.2.2.2 2 (by decide))⟩
theorem simS {g : Sg} {S S1 : St} (s : SimG g S) (h : SameS S S1) (ho : XSf g S1) : SimG g S1 := by
  obtain ⟨hg, hx, hm, hs, _, hp⟩ := s
  exact ⟨hg, hx.sameS h, hm.same h.M, hs.keep (h.1 6 (by decide) (by decide)) (h.1 7 (by decide) (by decide)) (h.2.2.1 21 (by decide)) (h.2.2.1 23 (by decide)), Or.inr ho, hp.keep (h.1 3 (by decide) (by decide)) (h.1 4 (by decide) (by decide)) (h.2.2.1 15 (by decide)) (h.2.2.1 16 (by decide)) (h.2.2.1 17 (by decide)) (by rw [h.2.2.2]) (by rw [h.2.2.2]) (by rw [h.2.2.2])⟩
theorem simP {g : Sg} {S S1 : St} (s : SimG g S) (h : SameP S S1) (hp : XP Sol g S1) : SimG g S1 := by
  obtain ⟨hg, hx, hm, ho, hs, _⟩ := s
  exact ⟨hg, hx.sameP h, hm.same h.M, ho.keep (h.1 6 (by decide)) (h.1 7 (by decide)) (h.2.2.1 21 (by decide)) (h.2.2.1 23 (by decide)), hs.keep (h.1 1 (by decide)) (h.1 2 (by decide)) (h.2.2.1 11 (by decide)) (h.2.2.1 12 (by decide)), hp⟩
theorem keepX {g : Sg} {S S1 : St} (h : SameX S S1) (ho : XO g S) (hs : XSh g S) (hp : XP Sol g S) : XO g S1 ∧ XSh g S1 ∧ XP Sol g S1 :=
  ⟨ho.keep (h.1 6 (by decide)) (h.1 7 (by decide)) (h.2.1 21 (by decide)) (h.2.1 23 (by decide)), hs.keep (h.1 1 (by decide)) (h.1 2 (by decide)) (h.2.1 11 (by decide)) (h.2.1 12 (by decide)), hp.keep (h.1 3 (by decide)) (h.1 4 (by decide)) (h.2.1 15 (by decide)) (h.2.1 16 (by decide)) (h.2.1 17 (by decide)) (h.2.2 0 (by decide)) (h.2.2 1 (by decide)) (h.2.2 2 (by decide))⟩
theorem simR {g : Sg} {S S1 : St} (s : SimG g S) (h : SR S S1) : SimG g S1 := by
  obtain ⟨hg, hx, hm, ho, hs, hp⟩ := s
  exact ⟨hg, hx.same h.x, hm.sr h, keepX h.x ho hs hp⟩
theorem nI_same {p q : Nat} (hp : p < 8) (hq : q < 8) (h : nI p = nI q) : p = q := (nI_eq (by omega) (by omega)).mp h
theorem n8 {g : Sg} (hg : Wf g) {p : Nat} (h : p < g.1) : p < 8 := Nat.lt_of_lt_of_le h hg.1.2
theorem h_order (a0 : Int32) (S : St) (h : Sim S) : tX6_order a0 S (fun r1 S1 => tX7_order a0 S1 (fun r2 S2 => r1 = r2 ∧ Sim S2)) := by
  obtain ⟨g, s⟩ := h
  have ⟨hg, hx, hm, ho, hs, hp⟩ := s
  refine orderX hg hx ho (fun i S1 hi e so xo => ?_) (fun u => orderM hg hm (fun j S2 hj e2 _ => (u j hj e2).elim) (fun _ => ⟨rfl, g, s⟩))
  have s1 := simO s so xo
  refine orderM hg s1.2.2.1 (fun j S2 hj e2 sr => ⟨?_, g, simR s1 sr⟩) (fun u => (u i hi e).elim)
  rw [nI_same (n8 hg hi) (n8 hg hj) (e.symm.trans e2)]
theorem h_quarrel (S : St) (h : Sim S) : tX6_quarrel S (fun r1 S1 => tX7_quarrel S1 (fun r2 S2 => r1 = r2 ∧ Sim S2)) := by
  obtain ⟨g, s⟩ := h
  have ⟨hg, hx, hm, ho, hs, hp⟩ := s
  refine quarrelsX hg hx ho (fun S1 so xo => ?_)
  have s1 := simO s so xo
  exact quarrelsM hg s1.2.2.1 (fun S2 sr => ⟨rfl, g, simR s1 sr⟩)
theorem h_turned (a0 : Int32) (S : St) (h : Sim S) : tX6_turned a0 S (fun r1 S1 => tX7_turned a0 S1 (fun r2 S2 => r1 = r2 ∧ Sim S2)) := by
  obtain ⟨g, s⟩ := h
  have ⟨hg, hx, hm, ho, hs, hp⟩ := s
  refine turnedX hg hx ho (fun i S1 hi e so xo => ?_) (fun u => turnedM hg hm (fun j S2 hj e2 _ => (u j hj e2).elim) (fun _ => ⟨rfl, g, s⟩))
  have s1 := simO s so xo
  refine turnedM hg s1.2.2.1 (fun j S2 hj e2 sr => ⟨?_, g, simR s1 sr⟩) (fun u => (u i hi e).elim)
  rw [nI_same (n8 hg hi) (n8 hg hj) (e.symm.trans e2)]
theorem h_moves (a0 : Int32) (S : St) (h : Sim S) : tX6_moves a0 S (fun r1 S1 => tX7_moves a0 S1 (fun r2 S2 => r1 = r2 ∧ Sim S2)) := by
  obtain ⟨g, s⟩ := h
  have ⟨hg, hx, hm, ho, hs, hp⟩ := s
  refine movesX hg hx ho (fun i S1 hi e so xo => ?_) (fun u => movesM hg hm (fun j S2 hj e2 _ => (u j hj e2).elim) (fun _ => ⟨rfl, g, s⟩))
  have s1 := simO s so xo
  refine movesM hg s1.2.2.1 (fun j S2 hj e2 sr => ⟨?_, g, simR s1 sr⟩) (fun u => (u i hi e).elim)
  rw [nI_same (n8 hg hi) (n8 hg hj) (e.symm.trans e2)]
theorem h_may (a0 : Int32) (S : St) (h : Sim S) : tX6_may a0 S (fun r1 S1 => tX7_may a0 S1 (fun r2 S2 => r1 = r2 ∧ Sim S2)) := by
  obtain ⟨g, s⟩ := h
  have ⟨hg, hx, hm, ho, hs, hp⟩ := s
  refine mayX hg hx (fun i hi e => mayM hg hm (fun j hj e2 => ⟨?_, g, s⟩) (fun u => (u i hi e).elim)) (fun u => mayM hg hm (fun j hj e2 => (u j hj e2).elim) (fun _ => ⟨rfl, g, s⟩))
  rw [nI_same (n8 hg hi) (n8 hg hj) (e.symm.trans e2)]
theorem h_spread (a0 : Int32) (S : St) (h : Sim S) : tX6_spread a0 S (fun r1 S1 => tX7_spread_ a0 S1 (fun r2 S2 => r1 = r2 ∧ Sim S2)) := by
  obtain ⟨g, s⟩ := h
  have ⟨hg, hx, hm, ho, hs, hp⟩ := s
  refine spreadX hg hx (fun i hi e => spreadM hg hm (fun j hj e2 => ⟨?_, g, s⟩) (fun u => (u i hi e).elim)) (fun u => spreadM hg hm (fun j hj e2 => (u j hj e2).elim) (fun _ => ⟨rfl, g, s⟩))
  rw [nI_same (n8 hg hi) (n8 hg hj) (e.symm.trans e2)]
theorem h_next (a0 : Int32) (S : St) (h : Sim S) : tX6_next a0 S (fun r1 S1 => tX7_next a0 S1 (fun r2 S2 => r1 = r2 ∧ Sim S2)) := by
  obtain ⟨g, s⟩ := h
  have ⟨hg, hx, hm, ho, hs, hp⟩ := s
  refine nextX hg hx (fun i hi e => nextM hg hm (fun j hj e2 => ⟨?_, g, s⟩) (fun u => (u i hi e).elim)) (fun u => nextM hg hm (fun j hj e2 => (u j hj e2).elim) (fun _ => ⟨rfl, g, s⟩))
  rw [nI_same (n8 hg hi) (n8 hg hj) (e.symm.trans e2)]
theorem h_digest (S : St) (h : Sim S) : tX6_digest S (fun r1 S1 => tX7_digest S1 (fun r2 S2 => r1 = r2 ∧ Sim S2)) := by
  obtain ⟨g, s⟩ := h
  have ⟨hg, hx, hm, ho, hs, hp⟩ := s
  exact digestX hg hx (digestM hg hm ⟨rfl, g, s⟩)
theorem no_both {g : Sg} {M : Nat → Nat → Bool} (h : FirstG g M) (n : NoPlan g) : False := n M h.1
theorem h_plan (a0 : Int32) (S : St) (h : Sim S) : tX6_plan a0 S (fun r1 S1 => tX7_plan a0 S1 (fun r2 S2 => r1 = r2 ∧ Sim S2)) := by
  obtain ⟨g, s⟩ := h
  have ⟨hg, hx, hm, ho, hs, hp⟩ := s
  refine planX hg hx hs (fun M i S1 hi e ss xs f1 => ?_) (fun S1 nu ss xs no => ?_) (fun u => planM hg hm (fun M j S2 hj e2 _ _ => (u j hj e2).elim) (fun S2 nu _ _ => (nu u).elim) (fun _ => ⟨rfl, g, s⟩))
  · have s1 := simS s ss xs
    refine planM hg s1.2.2.1 (fun M2 j S2 hj e2 sr f2 => ⟨?_, g, simR s1 sr⟩) (fun S2 _ _ no => (no_both f1 no).elim) (fun u => (u i hi e).elim)
    rw [nI_same (n8 hg hi) (n8 hg hj) (e.symm.trans e2), first_u f1 f2]
  · have s1 := simS s ss xs
    exact planM hg s1.2.2.1 (fun M2 j S2 hj e2 sr f2 => (no_both f2 no).elim) (fun S2 _ sr _ => ⟨rfl, g, simR s1 sr⟩) (fun u => (nu u).elim)
theorem h_shared (a0 : Int32) (S : St) (h : Sim S) : tX6_shared a0 S (fun r1 S1 => tX7_shared a0 S1 (fun r2 S2 => r1 = r2 ∧ Sim S2)) := by
  obtain ⟨g, s⟩ := h
  have ⟨hg, hx, hm, ho, hs, hp⟩ := s
  refine sharedX hg hx hs (fun M i S1 hi e ss xs f1 => ?_) (fun S1 nu ss xs no => ?_) (fun u => sharedM hg hm (fun M j S2 hj e2 _ _ => (u j hj e2).elim) (fun S2 nu _ _ => (nu u).elim) (fun _ => ⟨rfl, g, s⟩))
  · have s1 := simS s ss xs
    refine sharedM hg s1.2.2.1 (fun M2 j S2 hj e2 sr f2 => ⟨?_, g, simR s1 sr⟩) (fun S2 _ _ no => (no_both f1 no).elim) (fun u => (u i hi e).elim)
    rw [nI_same (n8 hg hi) (n8 hg hj) (e.symm.trans e2), first_u f1 f2]
  · have s1 := simS s ss xs
    exact sharedM hg s1.2.2.1 (fun M2 j S2 hj e2 sr f2 => (no_both f2 no).elim) (fun S2 _ sr _ => ⟨rfl, g, simR s1 sr⟩) (fun u => (nu u).elim)
theorem h_lack (S : St) (h : Sim S) : tX6_lack S (fun r1 S1 => tX7_lack S1 (fun r2 S2 => r1 = r2 ∧ Sim S2)) := by
  obtain ⟨g, s⟩ := h
  have ⟨hg, hx, hm, ho, hs, hp⟩ := s
  refine lackX hg hx hs (fun T S1 ss xs l1 => ?_)
  have s1 := simS s ss xs
  refine lackM hg s1.2.2.1 (fun T2 S2 sr l2 => ⟨?_, g, simR s1 sr⟩)
  rw [lack_u l1 l2]
theorem h_parts (S : St) (h : Sim S) : tX6_parts S (fun r1 S1 => tX7_parts S1 (fun r2 S2 => r1 = r2 ∧ Sim S2)) := by
  obtain ⟨g, s⟩ := h
  have ⟨hg, hx, hm, ho, hs, hp⟩ := s
  refine partsX hg hx hs (fun M S1 ss xs f1 => ?_) (fun S1 ss xs no => ?_)
  · have s1 := simS s ss xs
    refine partsM hg s1.2.2.1 (fun M2 S2 sr f2 => ⟨?_, g, simR s1 sr⟩) (fun S2 _ no => (no_both f1 no).elim)
    rw [first_u f1 f2]
  · have s1 := simS s ss xs
    exact partsM hg s1.2.2.1 (fun M2 S2 sr f2 => (no_both f2 no).elim) (fun S2 sr _ => ⟨rfl, g, simR s1 sr⟩)
theorem h_count (a0 : Int32) (S : St) (h : Sim S) : tX6_count a0 S (fun r1 S1 => tX7_count a0 S1 (fun r2 S2 => r1 = r2 ∧ Sim S2)) := by
  obtain ⟨g, s⟩ := h
  have ⟨hg, hx, hm, ho, hs, hp⟩ := s
  have out : ∀ k, k < 7 → a0 = nI k → ¬ (a0.toInt < 0 ∨ 6 < a0.toInt) := fun k hk e c => by
    rw [e, nI_toInt (by omega)] at c
    omega
  refine countX hg hx hp (fun k S1 hk e sp xp => ?_) (fun c => countM hg hm (fun k S2 hk e _ => (out k hk e c).elim) (fun _ S2 sr => ⟨rfl, g, simR s sr⟩))
  have s1 := simP s sp xp
  refine countM hg s1.2.2.1 (fun j S2 hj e2 sr => ⟨?_, g, simR s1 sr⟩) (fun c => (out k hk e c).elim)
  rw [nI_same (by omega) (by omega) (e.symm.trans e2)]
theorem h_piece (a0 a1 : Int32) (S : St) (h : Sim S) : tX6_piece a0 a1 S (fun r1 S1 => tX7_piece a0 a1 S1 (fun r2 S2 => r1 = r2 ∧ Sim S2)) := by
  obtain ⟨g, s⟩ := h
  have ⟨hg, hx, hm, ho, hs, hp⟩ := s
  have n01 : a1 = 0 → a1 = 1 → False := fun a b => absurd (a.symm.trans b) (by decide)
  refine pieceX hg hx hp (fun i S1 hi e b0 sp xp => ?_) (fun i S1 hi e b1 sp xp => ?_) (fun u => pieceM hg hm (fun j _ hj e2 _ _ => (u j hj e2).elim) (fun j _ hj e2 _ _ => (u j hj e2).elim) (fun _ => ⟨rfl, g, s⟩) (fun nu _ _ => (nu u).elim)) (fun nu c0 c1 => pieceM hg hm (fun _ _ _ _ z _ => (c0 z).elim) (fun _ _ _ _ z _ => (c1 z).elim) (fun u => (nu u).elim) (fun _ _ _ => ⟨rfl, g, s⟩))
  · have s1 := simP s sp (Or.inr xp)
    refine pieceM hg s1.2.2.1 (fun j S2 hj e2 _ sr => ⟨?_, g, simR s1 sr⟩) (fun j S2 _ _ z _ => (n01 b0 z).elim) (fun u => (u i hi e).elim) (fun _ z _ => (z b0).elim)
    rw [nI_same (n8 hg hi) (n8 hg hj) (e.symm.trans e2)]
  · have s1 := simP s sp (Or.inr xp)
    refine pieceM hg s1.2.2.1 (fun j S2 _ _ z _ => (n01 z b1).elim) (fun j S2 hj e2 _ sr => ⟨?_, g, simR s1 sr⟩) (fun u => (u i hi e).elim) (fun _ _ z => (z b1).elim)
    rw [nI_same (n8 hg hi) (n8 hg hj) (e.symm.trans e2)]
theorem h_worth (a0 a1 : Int32) (S : St) (h : Sim S) : tX6_worth a0 a1 S (fun r1 S1 => tX7_worth a0 a1 S1 (fun r2 S2 => r1 = r2 ∧ Sim S2)) := by
  obtain ⟨g, s⟩ := h
  have ⟨hg, hx, hm, ho, hs, hp⟩ := s
  have bo : (a1 = 0 ∨ a1 = 1) → a1 ≠ 0 → a1 ≠ 1 → False := fun a b c => a.elim b c
  refine worthX hg hx hp (fun i S1 v hi e b sp xp an => ?_) (fun u => worthM hg hm (fun j _ _ hj e2 _ _ _ => (u j hj e2).elim) (fun _ => ⟨rfl, g, s⟩) (fun nu _ _ => (nu u).elim)) (fun nu c0 c1 => worthM hg hm (fun _ _ _ _ _ b _ _ => (bo b c0 c1).elim) (fun u => (nu u).elim) (fun _ _ _ => ⟨rfl, g, s⟩))
  have s1 := simP s sp (Or.inr xp)
  refine worthM hg s1.2.2.1 (fun j S2 v2 hj e2 _ sr an2 => ⟨?_, g, simR s1 sr⟩) (fun u => (u i hi e).elim) (fun _ c0 c1 => (bo b c0 c1).elim)
  have ij := nI_same (n8 hg hi) (n8 hg hj) (e.symm.trans e2)
  subst ij
  exact AnsW_u hg hi an an2
theorem h_lean (a0 a1 : Int32) (S : St) (h : Sim S) : tX6_lean a0 a1 S (fun r1 S1 => tX7_lean a0 a1 S1 (fun r2 S2 => r1 = r2 ∧ Sim S2)) := by
  obtain ⟨g, s⟩ := h
  have ⟨hg, hx, hm, ho, hs, hp⟩ := s
  have bo : (a1 = 0 ∨ a1 = 1) → a1 ≠ 0 → a1 ≠ 1 → False := fun a b c => a.elim b c
  refine leanX hg hx hp (fun i S1 v hi e b sp xp an => ?_) (fun u => leanM hg hm (fun j _ _ hj e2 _ _ _ => (u j hj e2).elim) (fun _ => ⟨rfl, g, s⟩) (fun nu _ _ => (nu u).elim)) (fun nu c0 c1 => leanM hg hm (fun _ _ _ _ _ b _ _ => (bo b c0 c1).elim) (fun u => (nu u).elim) (fun _ _ _ => ⟨rfl, g, s⟩))
  have s1 := simP s sp (Or.inr xp)
  refine leanM hg s1.2.2.1 (fun j S2 v2 hj e2 _ sr an2 => ⟨?_, g, simR s1 sr⟩) (fun u => (u i hi e).elim) (fun _ c0 c1 => (bo b c0 c1).elim)
  have ij := nI_same (n8 hg hi) (n8 hg hj) (e.symm.trans e2)
  subst ij
  exact AnsL_u hg hi an an2
theorem h_left (a0 a1 a2 : Int32) (S : St) (h : Sim S) : tX6_left a0 a1 a2 S (fun r1 S1 => tX7_left a0 a1 a2 S1 (fun r2 S2 => r1 = r2 ∧ Sim S2)) := by
  obtain ⟨g, s⟩ := h
  have ⟨hg, hx, hm, ho, hs, hp⟩ := s
  have bo : (a2 = 0 ∨ a2 = 1) → a2 ≠ 0 → a2 ≠ 1 → False := fun a b c => a.elim b c
  refine leftX hg hx hp (fun p w S1 v hpp hw e f b sp xp an => ?_) (fun u => leftM hg hm (fun j k _ _ hj hk e2 e3 _ _ _ => (u.elim (fun z => z j hj e2) (fun z => z k hk e3)).elim) (fun _ => ⟨rfl, g, s⟩) (fun nu _ _ => (nu u).elim)) (fun nu c0 c1 => leftM hg hm (fun _ _ _ _ _ _ _ _ b _ _ => (bo b c0 c1).elim) (fun u => (nu u).elim) (fun _ _ _ => ⟨rfl, g, s⟩))
  have s1 := simP s sp (Or.inr xp)
  refine leftM hg s1.2.2.1 (fun j k S2 v2 hj hk e2 e3 _ sr an2 => ⟨?_, g, simR s1 sr⟩) (fun u => (u.elim (fun z => z p hpp e) (fun z => z w hw f)).elim) (fun _ c0 c1 => (bo b c0 c1).elim)
  have ij := nI_same (n8 hg hpp) (n8 hg hj) (e.symm.trans e2)
  have kk := nI_same (n8 hg hw) (n8 hg hk) (f.symm.trans e3)
  subst ij
  subst kk
  exact AnsF_u hg hpp hw an an2
