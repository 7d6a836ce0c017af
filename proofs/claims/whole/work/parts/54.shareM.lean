/-! ===== sharing, the reference's programs ===== -/
theorem bitsM {P : Int32 → St → Prop} {S : St} {x : Nat} (hx : x < 256) (h : P (nI (csum (fun _ => 1) x 8)) S) : tX7_bits (nI x) S P := by
  refine bX7_bits_0 _ ?_
  refine loop_dn (fun i => wX7_bits P 4 [.int (nI x), .int (nI (csum (fun _ => 1) x i)), .int (nI i)] [] S) 8 (fun i hi ih => ?_) ?_
  · refine bX7_bits_4 _ _ _ ⟨fun c => absurd c (nI_ge (a := i) (b := 8) hi (by decide)), fun _ => ?_⟩
    rw [bit_v (by omega) hi, nI_add, nI_1]
    exact ih
  · exact bX7_bits_4 _ _ _ ⟨fun _ => h, fun c => absurd (by decide) c⟩
/-- rooms -/
def RM (n : Nat) (r : Nat → Nat) (S : St) : Prop := ∀ p, p < n → S.2.2.1 28 p = nI (r p)
def rmN (g : Sg) (r : Nat → Nat) (t : Nat) : Nat → Nat
  | 0 => 0
  | i + 1 => rmN g r t i + min (r i) (csum (fun _ => 1) (t &&& mayS g i) 8)
/-- a set of works from w0 on lacks room -/
def lk (g : Sg) (r : Nat → Nat) (w0 t : Nat) : Prop := t &&& (2 ^ w0 - 1) = 0 ∧ rmN g r t g.1 < g.2.2.1 0 * csum (fun _ => 1) t 8
def LackIs (g : Sg) (r : Nat → Nat) (w0 T : Nat) : Prop := (T = 0 ∧ ∀ t, 0 < t → t < 2 ^ g.1 → ¬ lk g r w0 t) ∨ (0 < T ∧ T < 2 ^ g.1 ∧ lk g r w0 T ∧ ∀ t, 0 < t → t < T → ¬ lk g r w0 t)
theorem lack_u {g : Sg} {r : Nat → Nat} {w0 T T2 : Nat} (h : LackIs g r w0 T) (h2 : LackIs g r w0 T2) : T = T2 := by
  rcases h with ⟨a, b⟩ | ⟨a, b, c, d⟩ <;> rcases h2 with ⟨a2, b2⟩ | ⟨a2, b2, c2, d2⟩
  · omega
  · exact absurd c2 (b T2 a2 b2)
  · exact absurd c (b2 T a b)
  · rcases Nat.lt_trichotomy T T2 with z | z | z
    · exact absurd c (d2 T a z)
    · exact z
    · exact absurd c2 (d T2 a2 z)
theorem rmN_le {g : Sg} {r : Nat → Nat} {t : Nat} : ∀ i, rmN g r t i ≤ 8 * i
  | 0 => Nat.le_refl _
  | i + 1 => by
    have := rmN_le (g := g) (r := r) (t := t) i
    have := csum_le1 (t &&& mayS g i) 8
    have := Nat.min_le_right (r i) (csum (fun _ => 1) (t &&& mayS g i) 8)
    show rmN g r t i + min (r i) (csum (fun _ => 1) (t &&& mayS g i) 8) ≤ _
    omega
theorem and_lt {a b : Nat} (h : a < 256) : a &&& b < 256 := Nat.lt_of_le_of_lt Nat.and_le_left h
theorem lackFromM {P : Int32 → St → Prop} {S : St} {g : Sg} (hg : Wf g) (hx : MB g S) {r : Nat → Nat} (hr : RM g.1 r S) (hr8 : ∀ p, r p ≤ 8) {w0 : Nat} (hw0 : w0 ≤ 8) (h : ∀ T, LackIs g r w0 T → P (nI T) S) : tX7_lackFrom (nI w0) S P := by
  have h8 := hg.1.2
  have hp8 := pow8 h8
  have hpp := p2_pos g.1
  have k4 := hg.2.2.2.1
  refine bX7_lackFrom_0 _ ?_
  have key : ∀ k t, t + k = 2 ^ g.1 → 0 < t → (∀ u, 0 < u → u < t → ¬ lk g r w0 u) → wX7_lackFrom P 2 [.ref 47, .int (nI w0), .int (nI t), .retAddr 0, .retAddr 0, .retAddr 0] [] S := by
    intro k
    induction k with
    | zero =>
      intro t ht h0 inv
      have e : t = 2 ^ g.1 := by omega
      subst e
      refine bX7_lackFrom_2 _ _ ?_
      rw [hx.1, sh1 h8]
      exact ⟨fun _ => h 0 (Or.inl ⟨rfl, inv⟩), fun c => absurd (nI_le (Nat.le_refl _) (by omega)) c⟩
    | succ k ih =>
      intro t ht h0 inv
      have ht2 : t < 2 ^ g.1 := by omega
      have t256 : t < 256 := by omega
      refine bX7_lackFrom_2 _ _ ?_
      have w31 : w0 ≤ 8 := hw0
      rw [hx.1, sh1 h8, sh1 w31, sub1 (p2_pos w0), nI_and, nI_z (by have := and_lt (b := 2 ^ w0 - 1) t256; omega), nI_1]
      refine ⟨fun c => absurd c (nI_ge ht2 (by omega)), fun _ => ⟨fun c => ?_, fun c => ?_⟩⟩
      · refine ih (t + 1) (by omega) (by omega) (fun u hu hut => ?_)
        by_cases z : u = t
        · subst z; exact fun q => c q.1
        · exact inv u hu (by omega)
      · refine loop_dn (fun p => wX7_lackFrom P 27 [.ref 47, .int (nI w0), .int (nI t), .int (nI (rmN g r t p)), .int (nI p), .retAddr 0] [] S) g.1 (fun p hp ih2 => ?_) ?_
        · refine bX7_lackFrom_27 _ _ _ _ ⟨fun c => absurd (hx.1 ▸ c) (cnt_step hp h8), fun _ => ?_⟩
          refine mayM hg hx (fun p2 hp2 e => ?_) (fun u => (u p hp rfl).elim)
          have e2 : p = p2 := (nI_eq (by omega) (by omega)).mp e
          subst e2
          rw [nI_and]
          refine bitsM (and_lt t256) ⟨ii hp h8, ?_⟩
          have c8 := csum_le1 (t &&& mayS g p) 8
          have rp := hr8 p
          rw [nI_clamp (by omega), hr p hp, nI_leI (by omega) (by omega), nI_1, nI_add, nI_add]
          have ih3 : wX7_lackFrom P 27 [.ref 47, .int (nI w0), .int (nI t), .int (nI (rmN g r t p + min (r p) (csum (fun _ => 1) (t &&& mayS g p) 8))), .int (nI (p + 1)), .retAddr 0] [] S := ih2
          refine ⟨fun c => ?_, fun c => ?_⟩
          · rw [Nat.min_eq_left c] at ih3; exact ih3
          · rw [Nat.min_eq_right (by omega)] at ih3; exact ih3
        · refine bX7_lackFrom_27 _ _ _ _ ⟨fun _ => bitsM t256 ?_, fun c => absurd (by rw [hx.1]; exact nI_le (Nat.le_refl _) (by omega)) c⟩
          have c8 := csum_le1 t 8
          have rl := rmN_le (g := g) (r := r) (t := t) g.1
          have pm : g.2.2.1 0 * csum (fun _ => 1) t 8 ≤ 4 * 8 := Nat.mul_le_mul k4.2.1 c8
          rw [hx.2.2.1 0 (by decide), pk_mul, nI_leI (by omega) (by omega), nI_1]
          refine ⟨fun c2 => ih (t + 1) (by omega) (by omega) (fun u hu hut => ?_), fun c2 => h t (Or.inr ⟨h0, ht2, ⟨c, by omega⟩, inv⟩)⟩
          by_cases z : u = t
          · subst z; exact fun q => by have := q.2; omega
          · exact inv u hu (by omega)
  exact key (2 ^ g.1 - 1) 1 (by omega) (by decide) (fun u hu hut => by omega)
/-! the same, as sets -/
theorem can_sym {g : Sg} (hg : Wf g) {w p : Nat} : canS g w p = canS g p w := by
  rw [Bool.eq_iff_iff, canS_t, canS_t, hg.2.1 w p]
  exact ⟨fun ⟨a, b, c, d⟩ => ⟨b, a, fun z => c z.symm, d⟩, fun ⟨a, b, c, d⟩ => ⟨b, a, fun z => c z.symm, d⟩⟩
theorem rmN_Rm {g : Sg} (hg : Wf g) (r : Nat → Nat) {t : Nat} : rmN g r t g.1 = Rm r (canS g) (fun w => t.testBit w) := by
  have h8 := hg.1.2
  have e1 : ∀ i, rmN g r t i = lsum (fun p => min (r p) (csum (fun _ => 1) (t &&& mayS g p) 8)) i := by
    intro i
    induction i with
    | zero => rfl
    | succ i ih =>
      show rmN g r t i + _ = lsum _ i + _
      rw [ih]
  unfold Rm
  rw [e1, lsum_ext (n := g.1) (m := 8) h8]
  · refine lsum_congr (fun p hp => ?_)
    congr 1
    rw [csum_lsum]
    refine lsum_congr (fun w _ => ?_)
    rw [can_sym hg, Nat.testBit_and]
    unfold canS
    rw [decide_eq_true hp, Bool.true_and]
    rfl
  · intro p hp _
    have : lsum (fun w => b2 (t.testBit w && canS g w p)) 8 = 0 := lsum_zero (fun w _ => by
      cases e : canS g w p with
      | false => rw [Bool.and_false]; rfl
      | true => have := (canS_in w p e).2; omega)
    rw [this]
    exact Nat.min_zero _
theorem low0 {t w0 : Nat} (h : t &&& (2 ^ w0 - 1) = 0) {w : Nat} (hb : t.testBit w = true) : w0 ≤ w := by
  rcases Nat.lt_or_ge w w0 with z | z
  · have : (t &&& (2 ^ w0 - 1)).testBit w = true := by rw [Nat.testBit_and, hb, full_bit]; simp [z]
    rw [h] at this
    simp at this
  · exact z
theorem feas_iff {g : Sg} (hg : Wf g) {r : Nat → Nat} {w0 T : Nat} (h : LackIs g r w0 T) : T = 0 ↔ ∃ N, PlanF g.1 (g.2.2.1 0) r (canS g) w0 N := by
  have h8 := hg.1.2
  have hpp := p2_pos g.1
  have hbit : ∀ t, t < 2 ^ g.1 → ∀ w, t.testBit w = true → w < g.1 := fun t ht w hb => by
    rcases Nat.lt_or_ge w g.1 with z | z
    · exact z
    · rw [Nat.testBit_lt_two_pow (Nat.lt_of_lt_of_le ht (Nat.pow_le_pow_right (by decide) z))] at hb
      exact absurd hb (by decide)
  have sz : ∀ t, csum (fun _ => 1) t 8 = szT (fun w => t.testBit w) := fun t => csum_lsum t 8
  refine ⟨fun e => ?_, fun ⟨N, hN⟩ => ?_⟩
  · rcases h with ⟨_, b⟩ | ⟨a, _⟩
    · refine hall_suf canS_in h8 (fun Tf hT => ?_)
      have bm : ∀ w, (msk Tf g.1).testBit w = Tf w := fun w => by
        rw [msk_bit]
        cases e : Tf w with
        | false => simp
        | true => simp [(hT w e).2]
      have fe : (fun w => (msk Tf g.1).testBit w) = Tf := funext bm
      by_cases z : msk Tf g.1 = 0
      · have : szT Tf = 0 := lsum_zero (fun w _ => by
          have := bm w
          rw [z] at this
          rw [← this]
          simp [b2])
        rw [this]
        exact Nat.zero_le _
      · have nb := b (msk Tf g.1) (by omega) (msk_ltp _ _)
        rcases Nat.lt_or_ge (Rm r (canS g) Tf) (g.2.2.1 0 * szT Tf) with y | y
        · exfalso
          apply nb
          refine ⟨?_, by rw [rmN_Rm hg, sz, fe]; exact y⟩
          refine set_ext (and_lt (msk_lt _ h8)) (by decide) (fun i _ => ?_)
          rw [Nat.testBit_and, bm, full_bit]
          cases e : Tf i with
          | false => simp
          | true =>
            have := (hT i e).1
            simp
            omega
        · exact y
    · omega
  · rcases h with ⟨a, _⟩ | ⟨a, b, ⟨c1, c2⟩, _⟩
    · exact a
    · exfalso
      have := hall_nec hN (T := fun w => T.testBit w) (fun w hw => ⟨low0 c1 hw, hbit T b w hw⟩)
      rw [rmN_Rm hg, sz] at c2
      omega
/-- only the reference's rooms and plans may differ -/
theorem FrA.sr {L : List Nat} {S S1 : St} (h : FrA L S S1) (hL : ∀ k, k ∈ L → 28 ≤ k) : SR S S1 := ⟨fun k _ => by rw [h.1], fun k hk => h.2.2.1 k (fun z => by have := hL k z; omega), fun k _ => by rw [h.2.2.2]⟩
theorem useM_1 {P : St → Prop} {S : St} {g : Sg} (hg : Wf g) (hx : MB g S) {r : Nat → Nat} (hr : RM g.1 r S) (hr8 : ∀ p, r p ≤ 8) {s : Nat} (hs : s < 256) (hle : ∀ p, p < g.1 → s.testBit p = true → 1 ≤ r p) (h : ∀ S1, FrA [28] S S1 → RM g.1 (fun p => r p - b2 (s.testBit p)) S1 → P S1) : tX7_use (nI s) 1 S P := by
  have h8 := hg.1.2
  refine bX7_use_0 _ _ ?_
  have key : ∀ k i, i + k = g.1 → ∀ F : Nat → Int32, (∀ p, p < i → F p = nI (r p - b2 (s.testBit p))) → (∀ p, i ≤ p → p < g.1 → F p = nI (r p)) → wX7_use P 2 [.ref 47, .int (nI s), .int 1, .int (nI i)] [] (sA S 28 F) := by
    intro k
    induction k with
    | zero =>
      intro i hi F f1 f2
      have e : i = g.1 := by omega
      subst e
      exact bX7_use_2 _ _ _ ⟨fun _ => h _ (FrA.A (by decide)) f1, fun c => absurd (by show S.1 8 ≤ _; rw [hx.1]; exact nI_le (Nat.le_refl _) (by omega)) c⟩
    | succ k ih =>
      intro i hi F f1 f2
      have hin : i < g.1 := by omega
      refine bX7_use_2 _ _ _ ⟨fun c => absurd (show nI g.1 ≤ nI i from hx.1 ▸ c) (cnt_step hin h8), fun _ => ⟨ii hin h8, ?_⟩⟩
      have e0 : (sA S 28 F).2.2.1 28 i = nI (r i) := f2 i (Nat.le_refl _) hin
      have hb : (if s.testBit i then 1 else 0) ≤ r i := by
        cases e : s.testBit i with
        | false => exact Nat.zero_le _
        | true => exact hle i hin e
      rw [nI_clamp (by omega), e0, bit_v (by omega) (by omega), show nI (if s.testBit i then 1 else 0) * 1 = nI (if s.testBit i then 1 else 0) from Int32.mul_one _, pk_sub hb, nI_1]
      show wX7_use P 2 _ _ (sA (sA S 28 F) 28 (upd F i (nI (r i - b2 (s.testBit i)))))
      rw [sA_same]
      refine ih (i + 1) (by omega) _ (fun p hp => ?_) (fun p hp hp2 => ?_)
      · by_cases z : p = i
        · subst z; rw [upd_eq]
        · rw [upd_ne z]; exact f1 p (by omega)
      · rw [upd_ne (by omega)]; exact f2 p (by omega) hp2
  have h0 := key g.1 0 (by omega) (S.2.2.1 28) (fun p hp => by omega) (fun p _ hp => hr p hp)
  rw [sA_self] at h0
  exact h0
theorem useM_m {P : St → Prop} {S : St} {g : Sg} (hg : Wf g) (hx : MB g S) {r : Nat → Nat} {s : Nat} (hr : RM g.1 (fun p => r p - b2 (s.testBit p)) S) (hr8 : ∀ p, r p ≤ 8) (hs : s < 256) (hle : ∀ p, p < g.1 → s.testBit p = true → 1 ≤ r p) (h : ∀ S1, FrA [28] S S1 → RM g.1 r S1 → P S1) : tX7_use (nI s) (-1) S P := by
  have h8 := hg.1.2
  refine bX7_use_0 _ _ ?_
  have key : ∀ k i, i + k = g.1 → ∀ F : Nat → Int32, (∀ p, p < i → F p = nI (r p)) → (∀ p, i ≤ p → p < g.1 → F p = nI (r p - b2 (s.testBit p))) → wX7_use P 2 [.ref 47, .int (nI s), .int (-1), .int (nI i)] [] (sA S 28 F) := by
    intro k
    induction k with
    | zero =>
      intro i hi F f1 f2
      have e : i = g.1 := by omega
      subst e
      exact bX7_use_2 _ _ _ ⟨fun _ => h _ (FrA.A (by decide)) f1, fun c => absurd (by show S.1 8 ≤ _; rw [hx.1]; exact nI_le (Nat.le_refl _) (by omega)) c⟩
    | succ k ih =>
      intro i hi F f1 f2
      have hin : i < g.1 := by omega
      refine bX7_use_2 _ _ _ ⟨fun c => absurd (show nI g.1 ≤ nI i from hx.1 ▸ c) (cnt_step hin h8), fun _ => ⟨ii hin h8, ?_⟩⟩
      have e0 : (sA S 28 F).2.2.1 28 i = nI (r i - b2 (s.testBit i)) := f2 i (Nat.le_refl _) hin
      have ev : nI (r i - b2 (s.testBit i)) - nI (if s.testBit i then 1 else 0) * (-1) = nI (r i) := by
        cases e : s.testBit i with
        | false =>
          show nI (r i - 0) - 0 * (-1) = nI (r i)
          rw [show (0 : Int32) * (-1) = 0 from rfl, Int32.sub_zero]
          rfl
        | true =>
          have := hle i hin e
          show nI (r i - 1) - 1 * (-1) = nI (r i)
          rw [show (1 : Int32) * (-1) = -1 from rfl, Int32.sub_neg, nI_1, show r i - 1 + 1 = r i by omega]
      rw [nI_clamp (by omega), e0, bit_v (by omega) (by omega), ev, nI_1]
      show wX7_use P 2 _ _ (sA (sA S 28 F) 28 (upd F i (nI (r i))))
      rw [sA_same]
      refine ih (i + 1) (by omega) _ (fun p hp => ?_) (fun p hp hp2 => ?_)
      · by_cases z : p = i
        · subst z; rw [upd_eq]
        · rw [upd_ne z]; exact f1 p (by omega)
      · rw [upd_ne (by omega)]; exact f2 p (by omega) hp2
  have h0 := key g.1 0 (by omega) (S.2.2.1 28) (fun p hp => by omega) (fun p _ hp => hr p hp)
  rw [sA_self] at h0
  exact h0
def mayBeS (g : Sg) (r : Nat → Nat) (w s : Nat) : Prop := csum (fun _ => 1) s 8 = g.2.2.1 0 ∧ ∀ p, p < g.1 → s.testBit p = true → canS g w p = true ∧ 1 ≤ r p
theorem mayBeM {P : Int32 → St → Prop} {S : St} {g : Sg} (hg : Wf g) (hx : MB g S) {r : Nat → Nat} (hr : RM g.1 r S) (hr8 : ∀ p, r p ≤ 8) {w s : Nat} (hw : w < g.1) (hs : s < 256) (h1 : mayBeS g r w s → P 1 S) (h0 : ¬ mayBeS g r w s → P 0 S) : tX7_mayBe (nI w) (nI s) S P := by
  have h8 := hg.1.2
  have k4 := hg.2.2.2.1
  refine bX7_mayBe_0 _ _ (bitsM hs ?_)
  have c8 := csum_le1 s 8
  -- known to be false
  have no : ¬ mayBeS g r w s → ∀ k p, p + k = g.1 → wX7_mayBe P 22 [.ref 47, .int (nI w), .int (nI s), .int 0, .int (nI p)] [] S := by
    intro nb k
    induction k with
    | zero =>
      intro p hp
      have e : p = g.1 := by omega
      subst e
      exact bX7_mayBe_22 _ _ _ _ ⟨fun _ => ⟨Or.inl rfl, h0 nb⟩, fun c => absurd (by rw [hx.1]; exact nI_le (Nat.le_refl _) (by omega)) c⟩
    | succ k ih =>
      intro p hp
      refine bX7_mayBe_22 _ _ _ _ ⟨fun c => absurd (hx.1 ▸ c) (cnt_step (show p < g.1 by omega) h8), fun _ => ⟨fun _ => ?_, fun z => absurd rfl z⟩⟩
      rw [nI_1]
      exact ih (p + 1) (by omega)
  rw [hx.2.2.1 0 (by decide), nI_eq (by omega) (by omega)]
  refine ⟨fun c => no (fun z => c z.1) g.1 0 (by omega), fun c => ?_⟩
  have yes : ∀ k p, p + k = g.1 → (∀ q, q < p → s.testBit q = true → canS g w q = true ∧ 1 ≤ r q) → wX7_mayBe P 22 [.ref 47, .int (nI w), .int (nI s), .int 1, .int (nI p)] [] S := by
    intro k
    induction k with
    | zero =>
      intro p hp inv
      have e : p = g.1 := by omega
      subst e
      exact bX7_mayBe_22 _ _ _ _ ⟨fun _ => ⟨Or.inr rfl, h1 ⟨c, inv⟩⟩, fun c => absurd (by rw [hx.1]; exact nI_le (Nat.le_refl _) (by omega)) c⟩
    | succ k ih =>
      intro p hp inv
      have hpn : p < g.1 := by omega
      refine bX7_mayBe_22 _ _ _ _ ⟨fun c => absurd (hx.1 ▸ c) (cnt_step hpn h8), fun _ => ⟨fun z => absurd z (by decide), fun _ => ?_⟩⟩
      rw [bit_0 (by omega) (by omega), nI_1]
      refine ⟨fun e => ih (p + 1) (by omega) (fun q hq hb => ?_), fun e => ?_⟩
      · by_cases z : q = p
        · subst z; rw [e] at hb; exact absurd hb (by decide)
        · exact inv q (by omega) hb
      · have eb : s.testBit p = true := by cases z : s.testBit p with | true => rfl | false => exact absurd z e
        refine can_ok hx (by omega) (by omega) (fun a b => ⟨fun z => absurd z (by decide), fun _ => ⟨ii hpn h8, ?_⟩⟩) (fun a => ⟨fun _ => no (fun z => ?_) k (p + 1) (by omega), fun z => absurd rfl z⟩)
        · have rp := hr8 p
          rw [nI_clamp (by omega), hr p hpn, show (0 : Int32) = nI 0 from rfl, nI_leI (by omega) (by decide)]
          refine ⟨fun c2 => no (fun z => ?_) k (p + 1) (by omega), fun c2 => ih (p + 1) (by omega) (fun q hq hb => ?_)⟩
          · have := (z.2 p hpn eb).2
            omega
          · by_cases z : q = p
            · subst z
              exact ⟨canS_t.mpr ⟨hw, hpn, fun y => a y.symm, by rw [hg.2.1]; exact b⟩, by omega⟩
            · exact inv q (by omega) hb
        · have := canS_t.mp (z.2 p hpn eb).1
          rcases a with a | a
          · exact this.2.2.1 a.symm
          · rw [hg.2.1, this.2.2.2] at a
            exact absurd a (by decide)
  exact yes g.1 0 (by omega) (fun q hq => by omega)
/-! which of two sets is ahead -/
def Ahead (a b : Nat) : Prop := ∃ i, i < 8 ∧ (∀ j, j < i → a.testBit j = b.testBit j) ∧ a.testBit i = true ∧ b.testBit i = false
theorem ahead_tr {a b c : Nat} (h : Ahead a b) (h2 : Ahead b c) : Ahead a c := by
  obtain ⟨i, i8, i1, i2, i3⟩ := h
  obtain ⟨j, j8, j1, j2, j3⟩ := h2
  rcases Nat.lt_trichotomy i j with z | z | z
  · exact ⟨i, i8, fun k hk => by rw [i1 k hk, j1 k (by omega)], i2, by rw [← j1 i z]; exact i3⟩
  · subst z
    rw [i3] at j2
    exact absurd j2 (by decide)
  · exact ⟨j, j8, fun k hk => by rw [i1 k (by omega), j1 k hk], by rw [i1 j z]; exact j2, j3⟩
theorem ahead_ir {a : Nat} (h : Ahead a a) : False := by
  obtain ⟨i, _, _, a, b⟩ := h
  rw [a] at b
  exact absurd b (by decide)
theorem nI_xor (a b : Nat) : nI a ^^^ nI b = nI (a ^^^ b) := by
  apply i32_ext
  intro i hi
  rw [Int32.toBitVec_xor, BitVec.getLsbD_xor, nI_bit a i hi, nI_bit b i hi, nI_bit _ i hi, Nat.testBit_xor]
def lowb (d : Nat) : Nat := if d = 0 then 0 else 2 ^ fstW (fun i => d.testBit i) 8
theorem low_256 : ∀ d, d < 256 → nI d &&& -(nI d) = nI (lowb d) := by decide +kernel
theorem isAheadM {P : Int32 → St → Prop} {S : St} {a b : Nat} (ha : a < 256) (hb : b < 256) (h1 : Ahead a b → P 1 S) (h0 : ¬ Ahead a b → P 0 S) : tX7_isAhead (nI a) (nI b) S P := by
  refine bX7_isAhead_0 _ _ ?_
  have hd : a ^^^ b < 256 := Nat.xor_lt_two_pow (n := 8) ha hb
  rw [nI_xor, Int32.and_assoc, low_256 _ hd, nI_and]
  by_cases z : a ^^^ b = 0
  · have e : a &&& lowb (a ^^^ b) = 0 := by unfold lowb; rw [if_pos z, Nat.and_zero]
    rw [e]
    refine ⟨fun _ => h0 (fun ⟨i, _, _, p, q⟩ => ?_), fun c => absurd rfl c⟩
    have : (a ^^^ b).testBit i = true := by rw [Nat.testBit_xor, p, q]; rfl
    rw [z] at this
    simp at this
  · obtain ⟨j, hj⟩ := Nat.exists_testBit_of_ne_zero z
    have j8 : j < 8 := by
      rcases Nat.lt_or_ge j 8 with y | y
      · exact y
      · rw [lt256_bit hd y] at hj; exact absurd hj (by decide)
    obtain ⟨f1, f2, f3⟩ := fstW_spec (pr := fun i => (a ^^^ b).testBit i) (k := 8) ⟨j, j8, hj⟩
    have same : ∀ i, i < fstW (fun i => (a ^^^ b).testBit i) 8 → a.testBit i = b.testBit i := fun i hi => by
      have := f3 i hi
      rw [Nat.testBit_xor] at this
      cases e1 : a.testBit i <;> cases e2 : b.testBit i <;> simp_all
    have diff : a.testBit (fstW (fun i => (a ^^^ b).testBit i) 8) ≠ b.testBit (fstW (fun i => (a ^^^ b).testBit i) 8) := fun e => by
      have f2' : (a ^^^ b).testBit (fstW (fun i => (a ^^^ b).testBit i) 8) = true := f2
      rw [Nat.testBit_xor, e] at f2'
      simp at f2'
    have el : lowb (a ^^^ b) = 2 ^ fstW (fun i => (a ^^^ b).testBit i) 8 := if_neg z
    rw [el, nI_z (by have := and_lt (b := 2 ^ fstW (fun i => (a ^^^ b).testBit i) 8) ha; omega)]
    generalize fstW (fun i => (a ^^^ b).testBit i) 8 = i at f1 same diff
    have bi : a &&& 2 ^ i = 0 ↔ a.testBit i = false := by
      refine ⟨fun e => ?_, fun e => ?_⟩
      · cases q : a.testBit i with
        | false => rfl
        | true =>
          have : (a &&& 2 ^ i).testBit i = true := by rw [Nat.testBit_and, q, p2_bit]; simp
          rw [e] at this
          simp at this
      · refine set_ext (and_lt ha) (by decide) (fun k _ => ?_)
        rw [Nat.testBit_and, p2_bit]
        by_cases y : i = k
        · subst y; rw [e]; simp
        · simp [y]
    rw [bi]
    refine ⟨fun e => h0 (fun ⟨k, _, k1, k2, k3⟩ => ?_), fun e => h1 ⟨i, f1, same, ?_, ?_⟩⟩
    · rcases Nat.lt_trichotomy k i with y | y | y
      · have := same k y
        rw [k2, k3] at this
        exact absurd this (by decide)
      · subst y; rw [e] at k2; exact absurd k2 (by decide)
      · exact diff (k1 i y)
    · cases q : a.testBit i with
      | true => rfl
      | false => exact absurd q e
    · cases q : b.testBit i with
      | false => rfl
      | true =>
        exfalso
        apply diff
        rw [q]
        cases q2 : a.testBit i with
        | true => rfl
        | false => exact absurd q2 e
