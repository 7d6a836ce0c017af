/-! ===== calls that change the house ===== -/
theorem simX {g : Sg} {S1 S2 : St} (hg : Wf g) (hx : XB g S1) (hm : MB g S2) (h : SameX S1 S2) (ho : XO g S1) (hs : XSh g S1) (hp : XP Sol g S1) : Sim S2 := ⟨g, hg, hx.same h, hm, keepX h ho hs hp⟩
theorem h_pupils (a0 : Int32) (S : St) (h : Sim S) : tX6_pupils a0 S (fun r1 S1 => tX7_pupils a0 S1 (fun r2 S2 => r1 = r2 ∧ Sim S2)) := by
  obtain ⟨g, s⟩ := h
  have ⟨hg, hx, hm, ho, hs, hp⟩ := s
  have out : ∀ k, 2 ≤ k → k ≤ 8 → a0 = nI k → ¬ (a0.toInt < 2 ∨ 8 < a0.toInt) := fun k h2 h8 e c => by
    rw [e, nI_toInt (by omega)] at c
    omega
  refine pupilsX (fun k h2 h8 e => ?_) (fun c => pupilsM (fun k h2 h8 e => (out k h2 h8 e c).elim) (fun _ => ⟨rfl, g, s⟩))
  refine pupilsM (fun j j2 j8 e2 => ?_) (fun c => (out k h2 h8 e c).elim)
  have ij : k = j := (nI_eq (by omega) (by omega)).mp (e.symm.trans e2)
  subst ij
  refine ⟨?_, simX (Wf_pup hg h2 h8) (XB_pup hx) (MB_pup (hm.same (pupX_SameM S k))) (pupM_SameX _ k) (Or.inl rfl) (Or.inl rfl) (Or.inl rfl)⟩
  rw [(pupX_SameM S k).1 8 (by decide), hx.1, hm.1]
theorem h_friends (a0 a1 a2 : Int32) (S : St) (ha : a2 = 0 ∨ a2 = 1) (h : Sim S) : tX6_friends a0 a1 a2 S (fun r1 S1 => tX7_friends a0 a1 a2 S1 (fun r2 S2 => r1 = r2 ∧ Sim S2)) := by
  obtain ⟨g, s⟩ := h
  have ⟨hg, hx, hm, ho, hs, hp⟩ := s
  have ⟨b, hb⟩ : ∃ b : Bool, a2 = if b then 1 else 0 := by
    rcases ha with e | e
    · exact ⟨false, e⟩
    · exact ⟨true, e⟩
  refine friendsX hg hx (fun p q hpp hq hne e f => ?_) (fun u => friendsM hg hm (fun p q hpp hq _ e f => (u p q hpp hq e f).elim) (fun _ => ⟨rfl, g, s⟩) (fun p hpp e f => (u p p hpp hpp e f).elim)) (fun p hpp e f => ?_)
  · have m1 := hm.same (friX_SameM S p q a2)
    refine friendsM hg m1 (fun p2 q2 hp2 hq2 _ e2 f2 => ?_) (fun u => (u p q hpp hq e f).elim) (fun p2 hp2 e2 f2 => ?_)
    · have i1 := nI_same (n8 hg hpp) (n8 hg hp2) (e.symm.trans e2)
      have i2 := nI_same (n8 hg hq) (n8 hg hq2) (f.symm.trans f2)
      subst i1
      subst i2
      have o1 : XO g (friX S p q a2) := ho.keep rfl rfl rfl rfl
      have p1 : XP Sol g (friX S p q a2) := hp.keep rfl rfl rfl rfl rfl rfl rfl rfl
      exact ⟨rfl, simX (g := gFri g p q b) (Wf_fri hg hpp hq hne b) (XB_fri hx hg hpp hq hne hb) (MB_fri m1 hg hpp hq hb) (friM_SameX _ p q a2) o1 (Or.inl rfl) p1⟩
    · have i1 := nI_same (n8 hg hpp) (n8 hg hp2) (e.symm.trans e2)
      have i2 := nI_same (n8 hg hq) (n8 hg hp2) (f.symm.trans f2)
      exact (hne (i1.trans i2.symm)).elim
  · refine friendsM hg hm (fun p2 q2 hp2 hq2 hne e2 f2 => ?_) (fun u => (u p p hpp hpp e f).elim) (fun _ _ _ _ => ⟨rfl, g, s⟩)
    have i1 := nI_same (n8 hg hpp) (n8 hg hp2) (e.symm.trans e2)
    have i2 := nI_same (n8 hg hpp) (n8 hg hq2) (f.symm.trans f2)
    exact (hne (i1.symm.trans i2)).elim
theorem rul_ok {k v : Nat} (hk : k < 3) (h1 : rulLo k ≤ v) (h2 : v ≤ rulHi k) : (k = 0 → 1 ≤ v ∧ v ≤ 4) ∧ (k = 1 → 1 ≤ v ∧ v ≤ 8) ∧ (k = 2 → v ≤ 100) := by
  match k, hk with
  | 0, _ => exact ⟨fun _ => ⟨h1, h2⟩, fun z => absurd z (by decide), fun z => absurd z (by decide)⟩
  | 1, _ => exact ⟨fun z => absurd z (by decide), fun _ => ⟨h1, h2⟩, fun z => absurd z (by decide)⟩
  | 2, _ => exact ⟨fun z => absurd z (by decide), fun z => absurd z (by decide), fun _ => h2⟩
theorem rul_lt {k v : Nat} (hk : k < 3) (h2 : v ≤ rulHi k) : v ≤ 100 := by
  match k, hk with
  | 0, _ => exact Nat.le_trans h2 (by decide)
  | 1, _ => exact Nat.le_trans h2 (by decide)
  | 2, _ => exact h2
theorem h_rule (a0 a1 : Int32) (S : St) (h : Sim S) : tX6_rule a0 a1 S (fun r1 S1 => tX7_rule a0 a1 S1 (fun r2 S2 => r1 = r2 ∧ Sim S2)) := by
  obtain ⟨g, s⟩ := h
  have ⟨hg, hx, hm, ho, hs, hp⟩ := s
  refine ruleX hx (fun k v hk l1 l2 e f => ?_) (fun u => ruleM hm (fun k v hk l1 l2 e f => (u k v hk l1 l2 e f).elim) (fun _ => ⟨rfl, g, s⟩))
  have m1 := hm.same (rulX_SameM S k v)
  refine ruleM m1 (fun k2 v2 hk2 l3 l4 e2 f2 => ?_) (fun u => (u k v hk l1 l2 e f).elim)
  have b1 := rul_lt hk l2
  have b2 := rul_lt hk2 l4
  have i1 : k = k2 := (nI_eq (by omega) (by omega)).mp (e.symm.trans e2)
  have i2 : v = v2 := (nI_eq (by omega) (by omega)).mp (f.symm.trans f2)
  subst i1
  subst i2
  have o1 : XO g (rulX S k v) := ho.keep rfl rfl rfl rfl
  have p1 : XP Sol g (rulX S k v) := hp.keep rfl rfl rfl rfl rfl rfl rfl rfl
  exact ⟨rfl, simX (g := gRul g k v) (Wf_rul hg (rul_ok hk l1 l2)) (XB_rul hx) (MB_rul m1) (rulM_SameX _ k v) o1 (Or.inl rfl) p1⟩
theorem h_mark (a0 a1 a2 : Int32) (S : St) (h : Sim S) : tX6_mark a0 a1 a2 S (fun r1 S1 => tX7_mark a0 a1 a2 S1 (fun r2 S2 => r1 = r2 ∧ Sim S2)) := by
  obtain ⟨g, s⟩ := h
  have ⟨hg, hx, hm, ho, hs, hp⟩ := s
  refine markX hg hx (fun p w hpp hw hne e f mk => ?_) (fun u => markM hg hm (fun p w hpp hw _ e f _ => (u p w hpp hw e f).elim) (fun _ => ⟨rfl, g, s⟩) (fun nu _ => (nu u).elim) (fun p hpp e f _ => (u p p hpp hpp e f).elim)) (fun nu nm => markM hg hm (fun _ _ _ _ _ _ _ mk => (nm mk).elim) (fun u => (nu u).elim) (fun _ _ => ⟨rfl, g, s⟩) (fun _ _ _ _ mk => (nm mk).elim)) (fun p hpp e f mk => ?_)
  · have p8 := n8 hg hpp
    have m1 := hm.same (mrkX_SameM S p8 w a2)
    refine markM hg m1 (fun p2 w2 hp2 hw2 _ e2 f2 _ => ?_) (fun u => (u p w hpp hw e f).elim) (fun _ nm => (nm mk).elim) (fun p2 hp2 e2 f2 _ => ?_)
    · have i1 := nI_same p8 (n8 hg hp2) (e.symm.trans e2)
      have i2 := nI_same (n8 hg hw) (n8 hg hw2) (f.symm.trans f2)
      subst i1
      subst i2
      have s1 : XSh g (mrkX S p w a2) := hs.keep rfl rfl (up_ne (f := S.2.2.1) (show (11 : Nat) ≠ 2 + p by omega)) (up_ne (f := S.2.2.1) (show (12 : Nat) ≠ 2 + p by omega))
      exact ⟨rfl, simX (g := gMrk g p w a2) (Wf_mrk hg hpp hw hne mk) (XB_mrk hx p8) (MB_mrk m1 p8 (n8 hg hw)) (mrkM_SameX _ p w a2) (Or.inl rfl) s1 (Or.inl rfl)⟩
    · have i1 := nI_same p8 (n8 hg hp2) (e.symm.trans e2)
      have i2 := nI_same (n8 hg hw) (n8 hg hp2) (f.symm.trans f2)
      exact (hne (i1.trans i2.symm)).elim
  · refine markM hg hm (fun p2 w2 hp2 hw2 hne e2 f2 _ => ?_) (fun u => (u p p hpp hpp e f).elim) (fun _ nm => (nm mk).elim) (fun _ _ _ _ _ => ⟨rfl, g, s⟩)
    have i1 := nI_same (n8 hg hpp) (n8 hg hp2) (e.symm.trans e2)
    have i2 := nI_same (n8 hg hpp) (n8 hg hw2) (f.symm.trans f2)
    exact (hne (i1.symm.trans i2)).elim
theorem h_staff (a0 a1 : Int32) (S : St) (h : Sim S) : tX6_staff a0 a1 S (fun r1 S1 => tX7_staff a0 a1 S1 (fun r2 S2 => r1 = r2 ∧ Sim S2)) := by
  obtain ⟨g, s⟩ := h
  have ⟨hg, hx, hm, ho, hs, hp⟩ := s
  refine staffX hg hx (fun w hw e mk => ?_) (fun u => staffM hg hm (fun w hw e _ => (u w hw e).elim) (fun _ => ⟨rfl, g, s⟩) (fun nu _ => (nu u).elim)) (fun nu nm => staffM hg hm (fun _ _ _ mk => (nm mk).elim) (fun u => (nu u).elim) (fun _ _ => ⟨rfl, g, s⟩))
  have m1 := hm.same (staX_SameM S w a1)
  refine staffM hg m1 (fun w2 hw2 e2 _ => ?_) (fun u => (u w hw e).elim) (fun _ nm => (nm mk).elim)
  have i1 := nI_same (n8 hg hw) (n8 hg hw2) (e.symm.trans e2)
  subst i1
  have o1 : XO g (staX S w a1) := ho.keep rfl rfl rfl rfl
  have s1 : XSh g (staX S w a1) := hs.keep rfl rfl rfl rfl
  exact ⟨rfl, simX (g := gSta g w a1) (Wf_sta hg hw mk) (XB_sta hx) (MB_sta m1) (staM_SameX _ w a1) o1 s1 (Or.inl rfl)⟩
/-! ===== the beginning ===== -/
def g0 : Sg := (2, fun _ _ => false, fun k => if k = 0 then 2 else if k = 1 then 4 else 30, fun _ _ => -1, fun _ => -1)
theorem rows0 : ∀ p, p < 8 → S0.2.2.1 (2 + p) = wfill (fun _ => 0) 8 (-1) := fun p hp => by
  match p, hp with
  | 0, _ => rfl
  | 1, _ => rfl
  | 2, _ => rfl
  | 3, _ => rfl
  | 4, _ => rfl
  | 5, _ => rfl
  | 6, _ => rfl
  | 7, _ => rfl
theorem sim0 : Sim S0 := by
  refine ⟨g0, ⟨⟨by decide, by decide⟩, fun _ _ => rfl, fun _ _ z => absurd (show false = true from z) (by decide), ⟨by decide, by decide, by decide, by decide, by decide⟩, fun _ _ => mkok_m1, fun _ _ _ => rfl, fun _ => mkok_m1, fun _ _ => rfl⟩, ⟨rfl, fun p hp => ?_, fun k hk => ?_, fun p w hp hw => ?_, fun w hw => ?_⟩, ⟨rfl, fun p q hp hq => ?_, fun k hk => ?_, fun p w hp hw => ?_, fun w hw => ?_⟩, Or.inl rfl, Or.inl rfl, Or.inl rfl⟩
  · have e : msk (g0.2.1 p) 8 = 0 := Nat.eq_of_testBit_eq (fun i => by
      rw [msk_bit, Nat.zero_testBit]
      exact Bool.and_false _)
    rw [e]
    rfl
  · match k, hk with
    | 0, _ => rfl
    | 1, _ => rfl
    | 2, _ => rfl
  · rw [rows0 p hp, wfill, if_pos hw]
    rfl
  · show wfill (fun _ => 0) 8 (-1) w = -1
    rw [wfill, if_pos hw]
  · show wfill _ 64 0 (8 * p + q) = 0
    rw [wfill, if_pos (by omega)]
  · match k, hk with
    | 0, _ => rfl
    | 1, _ => rfl
    | 2, _ => rfl
  · show wfill _ 64 (-1) (8 * p + w) = -1
    rw [wfill, if_pos (by omega)]
  · show wfill _ 8 (-1) w = -1
    rw [wfill, if_pos hw]
theorem whole_start {p : Program} {e : Env} {s : State} {m : MethodId} {below : List Frame} {meth : Method} {c : Code} (l : Launch) {b L : Nat} {xs : Nat → Int32} (hL : L ≤ 2048) (C0 : lw_At p s m meth c b L xs) : W p l e room_1 s m #[Value.ref b] below meth c s.heap [] 0 0 (lw_Z below #[Value.ref b] s) (entryFrame m ([Value.ref b] : List Value).toArray 4) :=
  law_start l (law_loop Sim h_pupils h_friends h_rule h_may h_plan h_shared h_lack h_parts h_mark h_staff h_count h_piece h_worth h_lean h_left h_order h_quarrel h_turned h_moves h_spread h_next h_digest hL L 0 S0 (by omega) (by omega) sim0) C0
