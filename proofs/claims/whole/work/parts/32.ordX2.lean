/-! ===== the class: the order, the quarrel, who turns how often, what one moves ===== -/
theorem findOrderX_44 {P : Int32 → St → Prop} {S : St} {g : Sg} (hg : Wf g) (hx : XB g S) {wo : Option Nat} (hw : ∀ k, wo = some k → k < 8) (h : ∀ (T : Nat → Int64) (L F : Nat → Int32), (∀ i, i < g.1 → F i = nI (rowS (qz g wo) g.1 i)) → P (nI (ls (qz g wo) g.1 (2 ^ g.1 - 1))) (sA (sA (sB S 13 T) 20 L) 21 F)) : tX3_findOrder_44 (oI wo) S P := by
  have h8 := hg.1.2
  have hp8 := pow8 h8
  have hpp := p2_pos g.1
  have hq8 := qz_le hg wo
  refine bX3_findOrder_44_0 _ (countTollsX hg hx hw (fun T hT => ?_))
  have hx1 : XB g (sB S 13 T) := hx.sameO SameO.B
  refine findLeastX hg hx1 hT (fun L hL => ?_)
  have hx2 : XB g (sA (sB S 13 T) 20 L) := hx1.sameO (SameO.A (by decide))
  rw [hx2.1, sh1 h8, sub1 hpp]
  refine ⟨vp_in_nI (by omega) (by decide), ?_⟩
  rw [nI_clamp (by omega)]
  show wX3_findOrder_44 P 32 [_, _, _, _, .int (L (2 ^ g.1 - 1)), _] _ _
  rw [hL _ (by omega)]
  have key : ∀ k i, i + k = g.1 → ∀ F : Nat → Int32, (∀ j, j < i → F j = nI (rowS (qz g wo) g.1 j)) → wX3_findOrder_44 P 32 [.ref 41, .int (oI wo), .ref 44, .int (nI (rst (qz g wo) g.1 i)), .int (nI (ls (qz g wo) g.1 (2 ^ g.1 - 1))), .int (nI i)] [] (sA (sA (sB S 13 T) 20 L) 21 F) := by
    intro k
    induction k with
    | zero =>
      intro i hi F hF
      have e : i = g.1 := by omega
      subst e
      exact bX3_findOrder_44_32 _ _ _ _ ⟨fun _ => h T L F hF, fun c => absurd (by show S.1 0 ≤ _; rw [hx.1]; exact nI_le (Nat.le_refl _) (by omega)) c⟩
    | succ k ih =>
      intro i hi F hF
      have hin : i < g.1 := by omega
      have hx3 : XB g (sA (sA (sB S 13 T) 20 L) 21 F) := hx2.sameO (SameO.A (by decide))
      have hr := rst_lt (q := qz g wo) (n := g.1) i
      have hrp := rst_pos hq8 h8 hin
      refine bX3_findOrder_44_32 _ _ _ _ ⟨fun c => absurd (hx3.1 ▸ c) (cnt_step hin h8), fun _ => bestAheadX hg hx3 hrp hr ⟨hT, hL⟩ ⟨vp_in_nI (by omega) (by decide), ?_⟩⟩
      have hb := (bw_spec hq8 h8 hrp hr).1
      rw [nI_1, nI_clamp (by omega), upd_eq, sh1 (by omega), nI_nd _ (by omega)]
      show wX3_findOrder_44 P 32 _ _ (sA (sA (sA (sB S 13 T) 20 L) 21 F) 21 (upd F i _))
      rw [sA_same]
      refine ih (i + 1) (by omega) _ (fun j hj => ?_)
      by_cases e : j = i
      · subst e; rw [upd_eq]; rfl
      · rw [upd_ne e]; exact hF j (by omega)
  have hk := key g.1 0 (by omega) ((sA (sB S 13 T) 20 L).2.2.1 21) (fun j hj => by omega)
  rw [sA_self] at hk
  exact hk
theorem findOrderX_45 {P : Int32 → St → Prop} {S : St} {g : Sg} (hg : Wf g) (hx : XB g S) {wo : Option Nat} (hw : ∀ k, wo = some k → k < 8) (h : ∀ (T : Nat → Int64) (L F : Nat → Int32), (∀ i, i < g.1 → F i = nI (rowS (qz g wo) g.1 i)) → P (nI (ls (qz g wo) g.1 (2 ^ g.1 - 1))) (sA (sA (sB S 13 T) 20 L) 22 F)) : tX3_findOrder_45 (oI wo) S P := by
  have h8 := hg.1.2
  have hp8 := pow8 h8
  have hpp := p2_pos g.1
  have hq8 := qz_le hg wo
  refine bX3_findOrder_45_0 _ (countTollsX hg hx hw (fun T hT => ?_))
  have hx1 : XB g (sB S 13 T) := hx.sameO SameO.B
  refine findLeastX hg hx1 hT (fun L hL => ?_)
  have hx2 : XB g (sA (sB S 13 T) 20 L) := hx1.sameO (SameO.A (by decide))
  rw [hx2.1, sh1 h8, sub1 hpp]
  refine ⟨vp_in_nI (by omega) (by decide), ?_⟩
  rw [nI_clamp (by omega)]
  show wX3_findOrder_45 P 32 [_, _, _, _, .int (L (2 ^ g.1 - 1)), _] _ _
  rw [hL _ (by omega)]
  have key : ∀ k i, i + k = g.1 → ∀ F : Nat → Int32, (∀ j, j < i → F j = nI (rowS (qz g wo) g.1 j)) → wX3_findOrder_45 P 32 [.ref 41, .int (oI wo), .ref 45, .int (nI (rst (qz g wo) g.1 i)), .int (nI (ls (qz g wo) g.1 (2 ^ g.1 - 1))), .int (nI i)] [] (sA (sA (sB S 13 T) 20 L) 22 F) := by
    intro k
    induction k with
    | zero =>
      intro i hi F hF
      have e : i = g.1 := by omega
      subst e
      exact bX3_findOrder_45_32 _ _ _ _ ⟨fun _ => h T L F hF, fun c => absurd (by show S.1 0 ≤ _; rw [hx.1]; exact nI_le (Nat.le_refl _) (by omega)) c⟩
    | succ k ih =>
      intro i hi F hF
      have hin : i < g.1 := by omega
      have hx3 : XB g (sA (sA (sB S 13 T) 20 L) 22 F) := hx2.sameO (SameO.A (by decide))
      have hr := rst_lt (q := qz g wo) (n := g.1) i
      have hrp := rst_pos hq8 h8 hin
      refine bX3_findOrder_45_32 _ _ _ _ ⟨fun c => absurd (hx3.1 ▸ c) (cnt_step hin h8), fun _ => bestAheadX hg hx3 hrp hr ⟨hT, hL⟩ ⟨vp_in_nI (by omega) (by decide), ?_⟩⟩
      have hb := (bw_spec hq8 h8 hrp hr).1
      rw [nI_1, nI_clamp (by omega), upd_eq, sh1 (by omega), nI_nd _ (by omega)]
      show wX3_findOrder_45 P 32 _ _ (sA (sA (sA (sB S 13 T) 20 L) 22 F) 22 (upd F i _))
      rw [sA_same]
      refine ih (i + 1) (by omega) _ (fun j hj => ?_)
      by_cases e : j = i
      · subst e; rw [upd_eq]; rfl
      · rw [upd_ne e]; exact hF j (by omega)
  have hk := key g.1 0 (by omega) ((sA (sB S 13 T) 20 L).2.2.1 22) (fun j hj => by omega)
  rw [sA_self] at hk
  exact hk

/-- where a work stands -/
def posS (q : Nat → Nat → Nat) (n w : Nat) : Nat := fstW (fun i => decide (rowS q n i = w)) n
theorem posS_spec {q : Nat → Nat → Nat} {n : Nat} (hq : ∀ a b, q a b ≤ 8) (hn : n ≤ 8) {w : Nat} (hw : w < n) : posS q n w < n ∧ rowS q n (posS q n w) = w := by
  obtain ⟨j, hj, e⟩ := row_onto hq hn hw
  obtain ⟨h1, h2, -⟩ := fstW_spec (pr := fun i => decide (rowS q n i = w)) ⟨j, hj, by simp [e]⟩
  exact ⟨h1, of_decide_eq_true h2⟩
theorem posS_row {q : Nat → Nat → Nat} {n : Nat} (hq : ∀ a b, q a b ≤ 8) (hn : n ≤ 8) {i : Nat} (hi : i < n) : posS q n (rowS q n i) = i := by
  obtain ⟨h1, h2⟩ := posS_spec hq hn (rowS_lt hq hn hi)
  exact row_inj hq hn h1 hi h2
def dist (a b : Nat) : Nat := if b ≤ a then a - b else b - a
/-- the greatest of f below i -/
def maxN (f : Nat → Nat) : Nat → Nat
  | 0 => 0
  | i + 1 => if maxN f i < f i then f i else maxN f i
theorem maxN_spec (f : Nat → Nat) : ∀ n, (∀ i, i < n → f i ≤ maxN f n) ∧ (maxN f n = 0 ∨ ∃ i, i < n ∧ f i = maxN f n)
  | 0 => ⟨fun i h => absurd h (by omega), Or.inl rfl⟩
  | n + 1 => by
    obtain ⟨h1, h2⟩ := maxN_spec f n
    unfold maxN
    by_cases c : maxN f n < f n
    · rw [if_pos c]
      refine ⟨fun i hi => ?_, Or.inr ⟨n, by omega, rfl⟩⟩
      by_cases e : i = n
      · subst e; exact Nat.le_refl _
      · have := h1 i (by omega); omega
    · rw [if_neg c]
      refine ⟨fun i hi => ?_, ?_⟩
      · by_cases e : i = n
        · subst e; omega
        · exact h1 i (by omega)
      · rcases h2 with h2 | ⟨i, h3, h4⟩
        · exact Or.inl h2
        · exact Or.inr ⟨i, by omega, h4⟩
/-- how far the work that a pupil moves most goes -/
def movS (g : Sg) (p : Nat) : Nat := maxN (fun w => dist (posS (qz g none) g.1 w) (posS (qz g (some p)) g.1 w)) g.1
theorem movS_lt {g : Sg} (hg : Wf g) (p : Nat) : movS g p < 8 := by
  have h8 := hg.1.2
  have h2 := hg.1.1
  rcases (maxN_spec (fun w => dist (posS (qz g none) g.1 w) (posS (qz g (some p)) g.1 w)) g.1).2 with h | ⟨w, hw, h⟩
  · unfold movS; omega
  · have a := (posS_spec (qz_le hg none) h8 hw).1
    have b := (posS_spec (qz_le hg (some p)) h8 hw).1
    unfold movS
    rw [← h]
    unfold dist
    split <;> omega
/-- the orders' cells, when they are fresh -/
def XOf (g : Sg) (S : St) : Prop := S.1 7 = 1 ∧ (∀ i, i < g.1 → S.2.2.1 21 i = nI (rowS (qz g none) g.1 i)) ∧ S.1 6 = nI (ls (qz g none) g.1 (2 ^ g.1 - 1)) ∧ ∀ p, p < 8 → (S.2.2.1 23 p = -1 ∨ S.2.2.1 23 p = nI (movS g p))
def XO (g : Sg) (S : St) : Prop := S.1 7 = 0 ∨ XOf g S
theorem refreshO {P : St → Prop} {S : St} {g : Sg} (hg : Wf g) (hx : XB g S) (ho : XO g S) (h : ∀ S1, SameO S S1 → XOf g S1 → P S1) : tX3_refresh S P := by
  refine bX3_refresh_0 ⟨fun c => ?_, fun c => ?_⟩
  · have hx2 : XB g (sA (sI S 7 1) 23 (wfill (S.2.2.1 23) 8 (-1))) := hx.sameO ((SameO.I (Or.inr rfl)).tr (SameO.A (by decide)))
    refine findOrderX_44 (wo := none) hg hx2 (fun k hk => by cases hk) (fun T L F hF => h _ ?_ ?_)
    · exact (((((SameO.I (Or.inr rfl)).tr (SameO.A (by decide))).tr SameO.B).tr (SameO.A (by decide))).tr (SameO.A (by decide))).tr (SameO.I (Or.inl rfl))
    · refine ⟨rfl, hF, rfl, fun p hp => Or.inl ?_⟩
      show wfill (S.2.2.1 23) 8 (-1) p = -1
      rw [wfill, if_pos hp]
  · rcases ho with ho | ho
    · exact absurd ho c
    · exact h S (SameO.rf S) ho
theorem orderX {P : Int32 → St → Prop} {S : St} {g : Sg} (hg : Wf g) (hx : XB g S) (ho : XO g S) {a : Int32} (h1 : ∀ i S1, i < g.1 → a = nI i → SameO S S1 → XOf g S1 → P (nI (rowS (qz g none) g.1 i)) S1) (hu : unk1 g.1 a → P (-1002) S) : tX6_order a S P := by
  have h8 := hg.1.2
  refine bX6_order_0 _ (holds_ok hx.1 h8 (fun i hi ea => ⟨fun z => absurd z (by decide), fun _ => ?_⟩) (fun c => ⟨fun _ => hu (fun p hp e => nI_out h8 c hp e), fun z => absurd rfl z⟩))
  subst ea
  refine bX3_workAt_0 _ (refreshO hg hx ho (fun S1 hs hf => ⟨ii hi h8, ?_⟩))
  rw [nI_clamp (by omega), hf.2.1 i hi]
  exact h1 i S1 hi rfl hs hf
theorem quarrelsX {P : Int32 → St → Prop} {S : St} {g : Sg} (hg : Wf g) (hx : XB g S) (ho : XO g S) (h1 : ∀ S1, SameO S S1 → XOf g S1 → P (nI (ls (qz g none) g.1 (2 ^ g.1 - 1))) S1) : tX6_quarrel S P := by
  refine bX6_quarrel_0 (bX3_leastQuarrel_0 (refreshO hg hx ho (fun S1 hs hf => ?_)))
  rw [hf.2.2.1]
  exact h1 S1 hs hf
/-- how often a pupil turns two works, one at a place before i, the other at a later one before j -/
def trnI (g : Sg) (p i : Nat) : Nat → Nat
  | 0 => 0
  | j + 1 => trnI g p i j + if i < j ∧ turnB g.2.2.2.1 p (rowS (qz g none) g.1 i) (rowS (qz g none) g.1 j) = true then 1 else 0
def trnS (g : Sg) (p : Nat) : Nat := lsum (fun i => trnI g p i g.1) g.1
theorem trnI_s (g : Sg) (p i j : Nat) : trnI g p i (j + 1) = trnI g p i j + if i < j ∧ turnB g.2.2.2.1 p (rowS (qz g none) g.1 i) (rowS (qz g none) g.1 j) = true then 1 else 0 := rfl
theorem trnI_small (g : Sg) (p i : Nat) : ∀ j, j ≤ i + 1 → trnI g p i j = 0
  | 0, _ => rfl
  | j + 1, h => by
    unfold trnI
    rw [trnI_small g p i j (by omega), if_neg (fun z => by omega)]
theorem turnedX {P : Int32 → St → Prop} {S : St} {g : Sg} (hg : Wf g) (hx : XB g S) (ho : XO g S) {a : Int32} (h1 : ∀ p S1, p < g.1 → a = nI p → SameO S S1 → XOf g S1 → P (nI (trnS g p)) S1) (hu : unk1 g.1 a → P (-1001) S) : tX6_turned a S P := by
  have h8 := hg.1.2
  refine bX6_turned_0 _ (holds_ok hx.1 h8 (fun p hp ea => ⟨fun z => absurd z (by decide), fun _ => ?_⟩) (fun c => ⟨fun _ => hu (fun p hp e => nI_out h8 c hp e), fun z => absurd rfl z⟩))
  subst ea
  refine bX3_turnedBy_0 _ (refreshO hg hx ho (fun S1 hs hf => ?_))
  have hfin := h1 p S1 hp rfl hs hf
  have hx1 := hx.sameO hs
  refine loop_dn (fun i => wX3_turnedBy P 8 [.ref 41, .int (nI p), .int (nI (lsum (fun i => trnI g p i g.1) i)), .int (nI i), .retAddr 0] [] S1) g.1 (fun i hi ih => ?_) ?_
  · refine bX3_turnedBy_8 _ _ _ ⟨fun c => absurd (hx1.1 ▸ c) (cnt_step hi h8), fun _ => ?_⟩
    rw [nI_1]
    have key : ∀ k j, j + k = g.1 → i < j → wX3_turnedBy P 24 [.ref 41, .int (nI p), .int (nI (lsum (fun i => trnI g p i g.1) i + trnI g p i j)), .int (nI i), .int (nI j)] [] S1 := by
      intro k
      induction k with
      | zero =>
        intro j hj hij
        have e : j = g.1 := by omega
        subst e
        refine bX3_turnedBy_24 _ _ _ _ ⟨fun _ => ?_, fun c => absurd (by rw [hx1.1]; exact nI_le (Nat.le_refl _) (by omega)) c⟩
        rw [nI_1]
        exact ih
      | succ k ihk =>
        intro j hj hij
        have hjn : j < g.1 := by omega
        refine bX3_turnedBy_24 _ _ _ _ ⟨fun c => absurd (hx1.1 ▸ c) (cnt_step hjn h8), fun _ => ⟨ii hi h8, ii hjn h8, ?_⟩⟩
        rw [nI_1, nI_clamp (by omega), nI_clamp (by omega), hf.2.1 i hi, hf.2.1 j hjn]
        have r1 := rowS_lt (qz_le hg none) h8 hi
        have r2 := rowS_lt (qz_le hg none) h8 hjn
        have ihj := ihk (j + 1) (by omega) (by omega)
        rw [trnI_s] at ihj
        refine turnsX hx1 (by omega) (by omega) (by omega) ?_
        cases et : turnB g.2.2.2.1 p (rowS (qz g none) g.1 i) (rowS (qz g none) g.1 j) with
        | false =>
          rw [if_neg (by rw [et]; exact fun z => absurd z.2 (by decide))] at ihj
          exact ⟨fun _ => ihj, fun z => absurd rfl z⟩
        | true =>
          rw [if_pos ⟨hij, et⟩] at ihj
          refine ⟨fun z => absurd z (by decide), fun _ => ?_⟩
          rw [nI_1]
          exact ihj
    have hk := key (g.1 - (i + 1)) (i + 1) (by omega) (by omega)
    rw [trnI_small g p i (i + 1) (Nat.le_refl _), Nat.add_zero] at hk
    exact hk
  · exact bX3_turnedBy_8 _ _ _ ⟨fun _ => hfin, fun c => absurd (by rw [hx1.1]; exact nI_le (Nat.le_refl _) (by omega)) c⟩
theorem maxN_eq {f : Nat → Nat} {n M : Nat} (h1 : ∀ i, i < n → f i ≤ M) (h2 : M = 0 ∨ ∃ i, i < n ∧ f i = M) : M = maxN f n := by
  obtain ⟨a1, a2⟩ := maxN_spec f n
  rcases h2 with h2 | ⟨i, hi, e⟩
  · rcases a2 with a2 | ⟨j, hj, e2⟩
    · omega
    · have := h1 j hj; omega
  · have := a1 i hi
    rcases a2 with a2 | ⟨j, hj, e2⟩
    · omega
    · have := h1 j hj; omega
theorem nI_dist {i j : Nat} (hi : i < 8) (hj : j < 8) : (if (0 : Int32) ≤ nI i - nI j then nI i - nI j else 0 - (nI i - nI j)) = nI (dist i j) := by
  unfold dist
  by_cases c : j ≤ i
  · rw [if_pos c, pk_sub c, if_pos (nI_pos' (by omega))]
  · have hneg := pk_sneg (a := i) (b := j) (by omega) (by omega)
    have : ¬ (0 : Int32) ≤ nI i - nI j := fun z => by
      have z1 := Int32.le_iff_toInt_le.mp z
      have z2 := Int32.lt_iff_toInt_lt.mp hneg
      omega
    rw [if_neg this, if_neg c]
    apply Int32.toInt_inj.mp
    rw [fb_subI, pk_sub_toInt (by omega) (by omega), nI_toInt (by omega), show (0 : Int32).toInt = 0 from rfl]
    · omega
    · rw [pk_sub_toInt (by omega) (by omega), show (0 : Int32).toInt = 0 from rfl]; omega
    · rw [pk_sub_toInt (by omega) (by omega), show (0 : Int32).toInt = 0 from rfl]; omega
def XOw (g : Sg) (p : Nat) (S : St) : Prop := ∀ i, i < g.1 → S.2.2.1 22 i = nI (rowS (qz g (some p)) g.1 i)
theorem farthestX {P : Int32 → St → Prop} {S : St} {g : Sg} (hg : Wf g) (hx : XB g S) {p : Nat} (hr : ∀ i, i < g.1 → S.2.2.1 21 i = nI (rowS (qz g none) g.1 i)) (hw : XOw g p S) (h : P (nI (movS g p)) S) : tX3_farthest S P := by
  have h8 := hg.1.2
  have hq1 := qz_le hg none
  have hq2 := qz_le hg (some p)
  refine bX3_farthest_0 ?_
  -- M is the greatest over the places before i, and of i those before j
  have inv : ∀ i, ∀ M : Nat, M < 8 → (∀ w, w < g.1 → posS (qz g none) g.1 w < i → dist (posS (qz g none) g.1 w) (posS (qz g (some p)) g.1 w) ≤ M) → (M = 0 ∨ ∃ w, w < g.1 ∧ dist (posS (qz g none) g.1 w) (posS (qz g (some p)) g.1 w) = M) → ∀ k, i + k = g.1 → wX3_farthest P 4 [.ref 41, .int (nI M), .int (nI i), .retAddr 0] [] S := by
    intro i M hM h1 h2 k
    induction k generalizing i M with
    | zero =>
      intro hi
      have e : i = g.1 := by omega
      subst e
      have eM : M = movS g p := maxN_eq (fun w hw' => h1 w hw' (posS_spec hq1 h8 hw').1) h2
      subst eM
      exact bX3_farthest_4 _ _ ⟨fun _ => h, fun c => absurd (by rw [hx.1]; exact nI_le (Nat.le_refl _) (by omega)) c⟩
    | succ k ih =>
      intro hi
      have hin : i < g.1 := by omega
      refine bX3_farthest_4 _ _ ⟨fun c => absurd (hx.1 ▸ c) (cnt_step hin h8), fun _ => ?_⟩
      have inn : ∀ j, ∀ M : Nat, M < 8 → (∀ w, w < g.1 → (posS (qz g none) g.1 w < i ∨ (posS (qz g none) g.1 w = i ∧ posS (qz g (some p)) g.1 w < j)) → dist (posS (qz g none) g.1 w) (posS (qz g (some p)) g.1 w) ≤ M) → (M = 0 ∨ ∃ w, w < g.1 ∧ dist (posS (qz g none) g.1 w) (posS (qz g (some p)) g.1 w) = M) → ∀ m, j + m = g.1 → wX3_farthest P 17 [.ref 41, .int (nI M), .int (nI i), .int (nI j)] [] S := by
        intro j M hM h1 h2 m
        induction m generalizing j M with
        | zero =>
          intro hj
          have e : j = g.1 := by omega
          subst e
          refine bX3_farthest_17 _ _ _ ⟨fun _ => ?_, fun c => absurd (by rw [hx.1]; exact nI_le (Nat.le_refl _) (by omega)) c⟩
          rw [nI_1]
          refine ih (i + 1) M hM (fun w hw' hp' => h1 w hw' ?_) h2 (by omega)
          rcases Nat.lt_or_ge (posS (qz g none) g.1 w) i with z | z
          · exact Or.inl z
          · exact Or.inr ⟨by omega, (posS_spec hq2 h8 hw').1⟩
        | succ m ihm =>
          intro hj
          have hjn : j < g.1 := by omega
          refine bX3_farthest_17 _ _ _ ⟨fun c => absurd (hx.1 ▸ c) (cnt_step hjn h8), fun _ => ⟨ii hin h8, ii hjn h8, ?_⟩⟩
          rw [nI_1, nI_clamp (by omega), nI_clamp (by omega), hr i hin, hw j hjn]
          have r1 := rowS_lt hq1 h8 hin
          have r2 := rowS_lt hq2 h8 hjn
          refine ⟨fun c => ?_, fun c => ?_⟩
          · refine ihm (j + 1) M hM (fun w hw' hp' => h1 w hw' ?_) h2 (by omega)
            rcases hp' with z | ⟨z1, z2⟩
            · exact Or.inl z
            · refine Or.inr ⟨z1, ?_⟩
              rcases Nat.lt_or_ge (posS (qz g (some p)) g.1 w) j with y | y
              · exact y
              · exfalso
                have e : posS (qz g (some p)) g.1 w = j := by omega
                apply c
                have a1 := (posS_spec hq1 h8 hw').2
                have a2 := (posS_spec hq2 h8 hw').2
                rw [z1] at a1
                rw [e] at a2
                rw [a1, a2]
          · have er : rowS (qz g none) g.1 i = rowS (qz g (some p)) g.1 j := (nI_eq (by omega) (by omega)).mp c
            rw [nI_dist (by omega) (by omega)]
            have p1 := posS_row hq1 h8 hin
            have p2 := posS_row hq2 h8 hjn
            rw [← er] at p2
            have hd8 : dist i j < 8 := by unfold dist; split <;> omega
            have emax : (if nI M < nI (dist i j) then nI (dist i j) else nI M) = nI (if M < dist i j then dist i j else M) := by
              by_cases z : M < dist i j
              · rw [if_pos z, if_pos ((nI_ltI (by omega) (by omega)).mpr z)]
              · rw [if_neg z, if_neg (fun y => z ((nI_ltI (by omega) (by omega)).mp y))]
            rw [emax]
            refine ihm (j + 1) _ (by split <;> omega) (fun w hw' hp' => ?_) ?_ (by omega)
            · by_cases e : w = rowS (qz g none) g.1 i
              · subst e
                rw [p1, p2]
                split <;> omega
              · have := h1 w hw' ?_
                · split <;> omega
                · rcases hp' with z | ⟨z1, z2⟩
                  · exact Or.inl z
                  · exfalso
                    apply e
                    have a1 := (posS_spec hq1 h8 hw').2
                    rw [z1] at a1
                    exact a1.symm
            · by_cases z : M < dist i j
              · rw [if_pos z]
                exact Or.inr ⟨rowS (qz g none) g.1 i, r1, by rw [p1, p2]⟩
              · rw [if_neg z]; exact h2
      exact inn 0 M hM (fun w hw' hp' => h1 w hw' (by rcases hp' with z | z; exact z; omega)) h2 g.1 (by omega)
  exact inv 0 0 (by decide) (fun w hw' hp' => absurd hp' (by omega)) (Or.inl rfl) g.1 (by omega)
theorem movesX {P : Int32 → St → Prop} {S : St} {g : Sg} (hg : Wf g) (hx : XB g S) (ho : XO g S) {a : Int32} (h1 : ∀ p S1, p < g.1 → a = nI p → SameO S S1 → XOf g S1 → P (nI (movS g p)) S1) (hu : unk1 g.1 a → P (-1001) S) : tX6_moves a S P := by
  have h8 := hg.1.2
  refine bX6_moves_0 _ (holds_ok hx.1 h8 (fun p hp ea => ⟨fun z => absurd z (by decide), fun _ => ?_⟩) (fun c => ⟨fun _ => hu (fun p hp e => nI_out h8 c hp e), fun z => absurd rfl z⟩))
  subst ea
  refine bX3_farthestMove_0 _ (refreshO hg hx ho (fun S1 hs hf => ⟨ii hp h8, ?_⟩))
  have hx1 := hx.sameO hs
  rw [nI_clamp (by omega)]
  refine ⟨fun c => ?_, fun c => ?_⟩
  · rcases hf.2.2.2 p (by omega) with z | z
    · exact absurd z c
    · rw [z]; exact h1 p S1 hp rfl hs hf
  · refine findOrderX_45 (wo := some p) hg hx1 (fun k hk => by cases hk; omega) (fun T L F hF => ?_)
    have hs2 : SameO S1 (sA (sA (sB S1 13 T) 20 L) 22 F) := (SameO.B.tr (SameO.A (by decide))).tr (SameO.A (by decide))
    refine farthestX hg (hx1.sameO hs2) (p := p) hf.2.1 hF ?_
    rw [upd_eq]
    refine h1 p _ hp rfl ((hs.tr hs2).tr (SameO.A (by decide))) ⟨hf.1, hf.2.1, hf.2.2.1, fun r hr => ?_⟩
    show upd (S1.2.2.1 23) p (nI (movS g p)) r = -1 ∨ upd (S1.2.2.1 23) p (nI (movS g p)) r = nI (movS g r)
    by_cases e : r = p
    · subst e; rw [upd_eq]; exact Or.inr rfl
    · rw [upd_ne e]; exact hf.2.2.2 r hr
