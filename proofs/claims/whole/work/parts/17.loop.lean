theorem nI_k (i : Nat) (k : Nat) (v : Int32) (h : v = nI k) : nI i + v = nI (i + k) := by rw [h, nI_add]
set_option maxHeartbeats 4000000 in
theorem law_loop (Sim : St → Prop)
    (h_pupils : ∀ (a0 : Int32) (S : St), Sim S → tX6_pupils a0 S (fun r1 S1 => tX7_pupils a0 S1 (fun r2 S2 => r1 = r2 ∧ Sim S2)))
    (h_friends : ∀ (a0 a1 a2 : Int32) (S : St), (a2 = 0 ∨ a2 = 1) → Sim S → tX6_friends a0 a1 a2 S (fun r1 S1 => tX7_friends a0 a1 a2 S1 (fun r2 S2 => r1 = r2 ∧ Sim S2)))
    (h_rule : ∀ (a0 a1 : Int32) (S : St), Sim S → tX6_rule a0 a1 S (fun r1 S1 => tX7_rule a0 a1 S1 (fun r2 S2 => r1 = r2 ∧ Sim S2)))
    (h_may : ∀ (a0 : Int32) (S : St), Sim S → tX6_may a0 S (fun r1 S1 => tX7_may a0 S1 (fun r2 S2 => r1 = r2 ∧ Sim S2)))
    (h_plan : ∀ (a0 : Int32) (S : St), Sim S → tX6_plan a0 S (fun r1 S1 => tX7_plan a0 S1 (fun r2 S2 => r1 = r2 ∧ Sim S2)))
    (h_shared : ∀ (a0 : Int32) (S : St), Sim S → tX6_shared a0 S (fun r1 S1 => tX7_shared a0 S1 (fun r2 S2 => r1 = r2 ∧ Sim S2)))
    (h_lack : ∀ (S : St), Sim S → tX6_lack  S (fun r1 S1 => tX7_lack  S1 (fun r2 S2 => r1 = r2 ∧ Sim S2)))
    (h_parts : ∀ (S : St), Sim S → tX6_parts  S (fun r1 S1 => tX7_parts  S1 (fun r2 S2 => r1 = r2 ∧ Sim S2)))
    (h_mark : ∀ (a0 a1 a2 : Int32) (S : St), Sim S → tX6_mark a0 a1 a2 S (fun r1 S1 => tX7_mark a0 a1 a2 S1 (fun r2 S2 => r1 = r2 ∧ Sim S2)))
    (h_staff : ∀ (a0 a1 : Int32) (S : St), Sim S → tX6_staff a0 a1 S (fun r1 S1 => tX7_staff a0 a1 S1 (fun r2 S2 => r1 = r2 ∧ Sim S2)))
    (h_count : ∀ (a0 : Int32) (S : St), Sim S → tX6_count a0 S (fun r1 S1 => tX7_count a0 S1 (fun r2 S2 => r1 = r2 ∧ Sim S2)))
    (h_piece : ∀ (a0 a1 : Int32) (S : St), Sim S → tX6_piece a0 a1 S (fun r1 S1 => tX7_piece a0 a1 S1 (fun r2 S2 => r1 = r2 ∧ Sim S2)))
    (h_worth : ∀ (a0 a1 : Int32) (S : St), Sim S → tX6_worth a0 a1 S (fun r1 S1 => tX7_worth a0 a1 S1 (fun r2 S2 => r1 = r2 ∧ Sim S2)))
    (h_lean : ∀ (a0 a1 : Int32) (S : St), Sim S → tX6_lean a0 a1 S (fun r1 S1 => tX7_lean a0 a1 S1 (fun r2 S2 => r1 = r2 ∧ Sim S2)))
    (h_left : ∀ (a0 a1 a2 : Int32) (S : St), Sim S → tX6_left a0 a1 a2 S (fun r1 S1 => tX7_left a0 a1 a2 S1 (fun r2 S2 => r1 = r2 ∧ Sim S2)))
    (h_order : ∀ (a0 : Int32) (S : St), Sim S → tX6_order a0 S (fun r1 S1 => tX7_order a0 S1 (fun r2 S2 => r1 = r2 ∧ Sim S2)))
    (h_quarrel : ∀ (S : St), Sim S → tX6_quarrel  S (fun r1 S1 => tX7_quarrel  S1 (fun r2 S2 => r1 = r2 ∧ Sim S2)))
    (h_turned : ∀ (a0 : Int32) (S : St), Sim S → tX6_turned a0 S (fun r1 S1 => tX7_turned a0 S1 (fun r2 S2 => r1 = r2 ∧ Sim S2)))
    (h_moves : ∀ (a0 : Int32) (S : St), Sim S → tX6_moves a0 S (fun r1 S1 => tX7_moves a0 S1 (fun r2 S2 => r1 = r2 ∧ Sim S2)))
    (h_spread : ∀ (a0 : Int32) (S : St), Sim S → tX6_spread a0 S (fun r1 S1 => tX7_spread_ a0 S1 (fun r2 S2 => r1 = r2 ∧ Sim S2)))
    (h_next : ∀ (a0 : Int32) (S : St), Sim S → tX6_next a0 S (fun r1 S1 => tX7_next a0 S1 (fun r2 S2 => r1 = r2 ∧ Sim S2)))
    (h_digest : ∀ (S : St), Sim S → tX6_digest  S (fun r1 S1 => tX7_digest  S1 (fun r2 S2 => r1 = r2 ∧ Sim S2)))
    {L : Nat} {xs : Nat → Int32} (hL : L ≤ 2048) : ∀ (k i : Nat) (S : St), L ≤ i + k → i ≤ L + 4 → Sim S → wL_law (L, xs) 18 [.ref 1000, .ref 0, .ref 47, .int (nI i)] [] S := by
  intro k
  induction k with
  | zero =>
    intro i S h1 h2 hS
    refine bL_law_18 _ ⟨fun _ => trivial, fun c => absurd ?_ c⟩
    rw [Int32.lt_iff_toInt_lt, show Int32.ofNat L = nI L from rfl, show (4 : Int32) = nI 4 from rfl, pk_sub_toInt (by omega) (by decide), nI_toInt (by omega)]
    omega
  | succ k ih =>
    intro i S h1 h2 hS
    by_cases hi : i + 4 ≤ L
    · have e1 : nI i + 1 = nI (i + 1) := nI_1 i
      have e2 : nI i + 2 = nI (i + 2) := nI_k i 2 2 rfl
      have e3 : nI i + 3 = nI (i + 3) := nI_k i 3 3 rfl
      have e4 : nI i + 4 = nI (i + 4) := nI_k i 4 4 rfl
      have b0 : vp_in (nI i) L := vp_in_nI (by omega) (by omega)
      have b1 : vp_in (nI i + 1) L := by rw [e1]; exact vp_in_nI (by omega) (by omega)
      have b2 : vp_in (nI i + 2) L := by rw [e2]; exact vp_in_nI (by omega) (by omega)
      have b3 : vp_in (nI i + 3) L := by rw [e3]; exact vp_in_nI (by omega) (by omega)
      have go : ∀ S2, Sim S2 → wL_law (L, xs) 18 [.ref 1000, .ref 0, .ref 47, .int (nI i + 4)] [] S2 := fun S2 h => by
        rw [e4]
        exact ih (i + 4) S2 (by omega) (by omega) h
      refine bL_law_18 _ ⟨fun _ => trivial, fun _ => ⟨b0, ⟨fun _ => go S hS, ?_⟩⟩⟩
      refine ⟨fun _ => ?_, fun _ => ?_, fun _ => ?_, fun _ => ?_, fun _ => ?_, fun _ => ?_, fun _ => ?_, fun _ => ?_, fun _ => ?_, fun _ => ?_, fun _ => ?_, fun _ => ?_, fun _ => ?_, fun _ => ?_, fun _ => ?_, fun _ => ?_, fun _ => ?_, fun _ => ?_, fun _ => ?_, fun _ => ?_, fun _ => ?_, fun _ => ?_⟩
      · exact ⟨b1, wI_mono (h_pupils _ S hS) (fun r1 S1 g => ⟨b1, wI_mono g (fun r2 S2 g2 => ⟨fun _ => go S2 g2.2, fun z => absurd g2.1 z⟩)⟩)⟩
      · refine ⟨b1, b2, b3, ⟨fun c => ?_, fun c => ?_⟩⟩
        · exact wI_mono (h_friends _ _ _ S (Or.inl rfl) hS) (fun r1 S1 g => ⟨b1, b2, b3, ⟨fun _ => wI_mono g (fun r2 S2 g2 => ⟨fun _ => go S2 g2.2, fun z => absurd g2.1 z⟩), fun z => absurd c z⟩⟩)
        · exact wI_mono (h_friends _ _ _ S (Or.inr rfl) hS) (fun r1 S1 g => ⟨b1, b2, b3, ⟨fun z => absurd z c, fun _ => wI_mono g (fun r2 S2 g2 => ⟨fun _ => go S2 g2.2, fun z => absurd g2.1 z⟩)⟩⟩)
      · exact ⟨b1, b2, wI_mono (h_rule _ _ S hS) (fun r1 S1 g => ⟨b1, b2, wI_mono g (fun r2 S2 g2 => ⟨fun _ => go S2 g2.2, fun z => absurd g2.1 z⟩)⟩)⟩
      · exact ⟨b1, wI_mono (h_may _ S hS) (fun r1 S1 g => ⟨b1, wI_mono g (fun r2 S2 g2 => ⟨fun _ => go S2 g2.2, fun z => absurd g2.1 z⟩)⟩)⟩
      · exact ⟨b1, wI_mono (h_plan _ S hS) (fun r1 S1 g => ⟨b1, wI_mono g (fun r2 S2 g2 => ⟨fun _ => go S2 g2.2, fun z => absurd g2.1 z⟩)⟩)⟩
      · exact ⟨b1, wI_mono (h_shared _ S hS) (fun r1 S1 g => ⟨b1, wI_mono g (fun r2 S2 g2 => ⟨fun _ => go S2 g2.2, fun z => absurd g2.1 z⟩)⟩)⟩
      · exact wI_mono (h_lack  S hS) (fun r1 S1 g => wI_mono g (fun r2 S2 g2 => ⟨fun _ => go S2 g2.2, fun z => absurd g2.1 z⟩))
      · exact wI_mono (h_parts  S hS) (fun r1 S1 g => wI_mono g (fun r2 S2 g2 => ⟨fun _ => go S2 g2.2, fun z => absurd g2.1 z⟩))
      · exact ⟨b1, b2, b3, wI_mono (h_mark _ _ _ S hS) (fun r1 S1 g => ⟨b1, b2, b3, wI_mono g (fun r2 S2 g2 => ⟨fun _ => go S2 g2.2, fun z => absurd g2.1 z⟩)⟩)⟩
      · exact ⟨b1, b2, wI_mono (h_staff _ _ S hS) (fun r1 S1 g => ⟨b1, b2, wI_mono g (fun r2 S2 g2 => ⟨fun _ => go S2 g2.2, fun z => absurd g2.1 z⟩)⟩)⟩
      · exact ⟨b1, wI_mono (h_count _ S hS) (fun r1 S1 g => ⟨b1, wI_mono g (fun r2 S2 g2 => ⟨fun _ => go S2 g2.2, fun z => absurd g2.1 z⟩)⟩)⟩
      · exact ⟨b1, b2, wI_mono (h_piece _ _ S hS) (fun r1 S1 g => ⟨b1, b2, wI_mono g (fun r2 S2 g2 => ⟨fun _ => go S2 g2.2, fun z => absurd g2.1 z⟩)⟩)⟩
      · exact ⟨b1, b2, wL_mono (h_worth _ _ S hS) (fun r1 S1 g => ⟨b1, b2, wL_mono g (fun r2 S2 g2 => ⟨fun _ => go S2 g2.2, fun z => absurd (by rw [g2.1]; exact lg_self _) z⟩)⟩)⟩
      · exact ⟨b1, b2, wL_mono (h_lean _ _ S hS) (fun r1 S1 g => ⟨b1, b2, wL_mono g (fun r2 S2 g2 => ⟨fun _ => go S2 g2.2, fun z => absurd (by rw [g2.1]; exact lg_self _) z⟩)⟩)⟩
      · exact ⟨b1, b2, b3, wL_mono (h_left _ _ _ S hS) (fun r1 S1 g => ⟨b1, b2, b3, wL_mono g (fun r2 S2 g2 => ⟨fun _ => go S2 g2.2, fun z => absurd (by rw [g2.1]; exact lg_self _) z⟩)⟩)⟩
      · exact ⟨b1, wI_mono (h_order _ S hS) (fun r1 S1 g => ⟨b1, wI_mono g (fun r2 S2 g2 => ⟨fun _ => go S2 g2.2, fun z => absurd g2.1 z⟩)⟩)⟩
      · exact wI_mono (h_quarrel  S hS) (fun r1 S1 g => wI_mono g (fun r2 S2 g2 => ⟨fun _ => go S2 g2.2, fun z => absurd g2.1 z⟩))
      · exact ⟨b1, wI_mono (h_turned _ S hS) (fun r1 S1 g => ⟨b1, wI_mono g (fun r2 S2 g2 => ⟨fun _ => go S2 g2.2, fun z => absurd g2.1 z⟩)⟩)⟩
      · exact ⟨b1, wI_mono (h_moves _ S hS) (fun r1 S1 g => ⟨b1, wI_mono g (fun r2 S2 g2 => ⟨fun _ => go S2 g2.2, fun z => absurd g2.1 z⟩)⟩)⟩
      · exact ⟨b1, wI_mono (h_spread _ S hS) (fun r1 S1 g => ⟨b1, wI_mono g (fun r2 S2 g2 => ⟨fun _ => go S2 g2.2, fun z => absurd g2.1 z⟩)⟩)⟩
      · exact ⟨b1, wI_mono (h_next _ S hS) (fun r1 S1 g => ⟨b1, wI_mono g (fun r2 S2 g2 => ⟨fun _ => go S2 g2.2, fun z => absurd g2.1 z⟩)⟩)⟩
      · exact wI_mono (h_digest  S hS) (fun r1 S1 g => wI_mono g (fun r2 S2 g2 => ⟨fun _ => go S2 g2.2, fun z => absurd g2.1 z⟩))
    · refine bL_law_18 _ ⟨fun _ => trivial, fun c => absurd ?_ c⟩
      rw [Int32.lt_iff_toInt_lt, show Int32.ofNat L = nI L from rfl, show (4 : Int32) = nI 4 from rfl, pk_sub_toInt (by omega) (by decide), nI_toInt (by omega)]
      omega
