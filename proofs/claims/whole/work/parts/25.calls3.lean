/-! ===== may, digest, spread, next ===== -/
theorem mayX {P : Int32 → St → Prop} {S : St} {g : Sg} (hg : Wf g) (hx : XB g S) {a : Int32} (h1 : ∀ p, p < g.1 → a = nI p → P (nI (mayS g p)) S) (hu : unk1 g.1 a → P (-1001) S) : tX6_may a S P := by
  have h8 := hg.1.2
  refine bX6_may_0 _ (holds_ok hx.1 h8 (fun p hp ea => ⟨fun z => absurd z (by decide), fun _ => ?_⟩) (fun c => ⟨fun _ => hu (fun p hp e => nI_out h8 c hp e), fun z => absurd rfl z⟩))
  subst ea
  exact mayMark_ok hg hx (by omega) (h1 p hp rfl)
theorem cnt_step {n i : Nat} (h : i < n) (hn : n ≤ 8) : ¬ nI n ≤ nI i := nI_ge h (by omega)
theorem mayM_loop {P : Int32 → St → Prop} {S : St} {g : Sg} (hg : Wf g) (hx : MB g S) {p : Nat} (hp : p < 8) (h : P (nI (mayS g p)) S) : wX7_may P 16 [.ref 47, .int (nI p), .int 0, .int 0] [] S := by
  have h8 := hg.1.2
  refine loop_dn (fun i => wX7_may P 16 [.ref 47, .int (nI p), .int (nI (msk (fun w => decide (w ≠ p) && !g.2.1 p w) i)), .int (nI i)] [] S) g.1 (fun i hi ih => ?_) ?_
  · refine bX7_may_16 _ _ _ ⟨fun c => absurd (hx.1 ▸ c) (cnt_step hi h8), fun _ => ?_⟩
    rw [nI_1]
    have e := msk_bit
    refine can_ok hx hp (by omega) (fun n1 n2 => ⟨fun z => absurd z (by decide), fun _ => ?_⟩) (fun n1 => ⟨fun _ => ?_, fun z => absurd rfl z⟩)
    · rw [sh1 (by omega), nI_or]
      have : msk (fun w => decide (w ≠ p) && !g.2.1 p w) i ||| 2 ^ i = msk (fun w => decide (w ≠ p) && !g.2.1 p w) (i + 1) := by
        show _ = _ ||| (if (decide (i ≠ p) && !g.2.1 p i) = true then 2 ^ i else 0)
        rw [if_pos (by simp [n1, n2])]
      rw [this]
      exact ih
    · rw [show (0 : Int32) = nI 0 from rfl, nI_or]
      have : msk (fun w => decide (w ≠ p) && !g.2.1 p w) i ||| 0 = msk (fun w => decide (w ≠ p) && !g.2.1 p w) (i + 1) := by
        show _ = _ ||| (if (decide (i ≠ p) && !g.2.1 p i) = true then 2 ^ i else 0)
        rw [if_neg ?_]
        rcases n1 with n1 | n1
        · simp [n1]
        · simp [n1]
      rw [this]
      exact ih
  · exact bX7_may_16 _ _ _ ⟨fun _ => h, fun c => absurd (by rw [hx.1]; exact nI_le (Nat.le_refl _) (by omega)) c⟩
theorem mayM {P : Int32 → St → Prop} {S : St} {g : Sg} (hg : Wf g) (hx : MB g S) {a : Int32} (h1 : ∀ p, p < g.1 → a = nI p → P (nI (mayS g p)) S) (hu : unk1 g.1 a → P (-1001) S) : tX7_may a S P := by
  have h8 := hg.1.2
  have h2 := hg.1.1
  refine bX7_may_0 _ (is_ok hx.1 (by omega) h8 (fun p hp ea => ⟨fun _ => ?_, fun z => absurd z (by decide)⟩) (fun c => ⟨fun z => absurd rfl z, fun _ => hu (fun p hp e => nI_out h8 c hp e)⟩))
  subst ea
  exact mayM_loop hg hx (by omega) (h1 p hp rfl)
/-! digest -/
def dgP (mk : Nat → Nat → Int32) (w : Nat) (d : Int32) : Nat → Int32
  | 0 => d
  | p + 1 => 31 * dgP mk w d p + mk p w
def dgW (g : Sg) : Nat → Int32
  | 0 => 7
  | w + 1 => 31 * dgP g.2.2.2.1 w (dgW g w) g.1 + g.2.2.2.2 w
theorem digestX {P : Int32 → St → Prop} {S : St} {g : Sg} (hg : Wf g) (hx : XB g S) (h : P (dgW g g.1) S) : tX6_digest S P := by
  have h8 := hg.1.2
  refine bX6_digest_0 (bX2_digestAll_0 ?_)
  refine loop_dn (fun w => wX2_digestAll P 5 [.ref 4, .int (dgW g w), .int (nI w), .retAddr 0] [] S) g.1 (fun w hw ih => ?_) ?_
  · refine bX2_digestAll_5 _ _ ⟨fun c => absurd (hx.1 ▸ c) (cnt_step hw h8), fun _ => ?_⟩
    refine loop_dn (fun p => wX2_digestAll P 18 [.ref 4, .int (dgP g.2.2.2.1 w (dgW g w) p), .int (nI w), .int (nI p)] [] S) g.1 (fun p hp ih2 => ?_) ?_
    · refine bX2_digestAll_18 _ _ _ ⟨fun c => absurd (hx.1 ▸ c) (cnt_step hp h8), fun _ => ⟨ii hp h8, ii hw h8, ?_⟩⟩
      rw [nI_1, nI_clamp (by omega), nI_clamp (by omega), hx.2.2.2.1 p w (by omega) (by omega)]
      exact ih2
    · refine bX2_digestAll_18 _ _ _ ⟨fun _ => ⟨ii hw h8, ?_⟩, fun c => absurd (by rw [hx.1]; exact nI_le (Nat.le_refl _) (by omega)) c⟩
      rw [nI_1, nI_clamp (by omega), hx.2.2.2.2 w (by omega)]
      exact ih
  · exact bX2_digestAll_5 _ _ ⟨fun _ => h, fun c => absurd (by rw [hx.1]; exact nI_le (Nat.le_refl _) (by omega)) c⟩
theorem digestM {P : Int32 → St → Prop} {S : St} {g : Sg} (hg : Wf g) (hx : MB g S) (h : P (dgW g g.1) S) : tX7_digest S P := by
  have h8 := hg.1.2
  refine bX7_digest_0 ?_
  refine loop_dn (fun w => wX7_digest P 5 [.ref 47, .int (dgW g w), .int (nI w), .retAddr 0] [] S) g.1 (fun w hw ih => ?_) ?_
  · refine bX7_digest_5 _ _ ⟨fun c => absurd (hx.1 ▸ c) (cnt_step hw h8), fun _ => ?_⟩
    refine loop_dn (fun p => wX7_digest P 15 [.ref 47, .int (dgP g.2.2.2.1 w (dgW g w) p), .int (nI w), .int (nI p)] [] S) g.1 (fun p hp ih2 => ?_) ?_
    · refine bX7_digest_15 _ _ _ ⟨fun c => absurd (hx.1 ▸ c) (cnt_step hp h8), fun _ => ?_⟩
      rw [ix64 (by omega) (by omega)]
      refine ⟨vp_in_nI (by omega) (by decide), ?_⟩
      rw [nI_1, nI_clamp (by omega), hx.2.2.2.1 p w (by omega) (by omega)]
      exact ih2
    · refine bX7_digest_15 _ _ _ ⟨fun _ => ⟨ii hw h8, ?_⟩, fun c => absurd (by rw [hx.1]; exact nI_le (Nat.le_refl _) (by omega)) c⟩
      rw [nI_1, nI_clamp (by omega), hx.2.2.2.2 w (by omega)]
      exact ih
  · exact bX7_digest_5 _ _ ⟨fun _ => h, fun c => absurd (by rw [hx.1]; exact nI_le (Nat.le_refl _) (by omega)) c⟩
/-! spread -/
def loC (mk : Nat → Nat → Int32) (w : Nat) : Nat → Int32
  | 0 => 100
  | p + 1 => if mk p w = -1 then loC mk w p else if mk p w < loC mk w p then mk p w else loC mk w p
def hiC (mk : Nat → Nat → Int32) (w : Nat) : Nat → Int32
  | 0 => -1
  | p + 1 => if mk p w = -1 then hiC mk w p else if hiC mk w p < mk p w then mk p w else hiC mk w p
def loM (mk : Nat → Nat → Int32) (w : Nat) : Nat → Int32
  | 0 => 101
  | p + 1 => if mk p w = -1 then loM mk w p else if loM mk w p ≤ mk p w then loM mk w p else mk p w
/-- the spread of a work -/
def sprS (g : Sg) (w : Nat) : Int32 := if 0 ≤ hiC g.2.2.2.1 w g.1 then hiC g.2.2.2.1 w g.1 - loM g.2.2.2.1 w g.1 else 0
theorem mk_neg {v : Int32} (h : mkok v) : v < 0 ↔ v = -1 := by
  constructor
  · intro c
    have := Int32.lt_iff_toInt_lt.mp c
    rw [show (0 : Int32).toInt = 0 from rfl] at this
    apply Int32.toInt_inj.mp
    rw [show (-1 : Int32).toInt = -1 from rfl]
    have := h.1
    omega
  · intro e
    rw [e]
    decide
theorem mk_pos {v : Int32} (h : mkok v) (hne : ¬ v = -1) : 0 ≤ v.toInt ∧ v.toInt ≤ 100 := by
  have h1 := mt (mk_neg h).mp hne
  have h2 := mt Int32.lt_iff_toInt_lt.mpr h1
  rw [show (0 : Int32).toInt = 0 from rfl] at h2
  exact ⟨by omega, h.2⟩
theorem spr_inv {mk : Nat → Nat → Int32} (hm : ∀ p w, mkok (mk p w)) (w : Nat) : ∀ i, (hiC mk w i = -1 ∧ loC mk w i = 100 ∧ loM mk w i = 101) ∨ (0 ≤ (loM mk w i).toInt ∧ (loM mk w i).toInt ≤ (hiC mk w i).toInt ∧ (hiC mk w i).toInt ≤ 100 ∧ loC mk w i = loM mk w i)
  | 0 => Or.inl ⟨rfl, rfl, rfl⟩
  | i + 1 => by
    have ih := spr_inv hm w i
    unfold hiC loC loM
    by_cases e : mk i w = -1
    · rw [if_pos e, if_pos e, if_pos e]
      exact ih
    · rw [if_neg e, if_neg e, if_neg e]
      obtain ⟨v1, v2⟩ := mk_pos (hm i w) e
      generalize mk i w = v at v1 v2 e
      rcases ih with ⟨h1, h2, h3⟩ | ⟨h1, h2, h3, h4⟩
      · rw [h1, h2, h3]
        have c1 : (-1 : Int32) < v := Int32.lt_iff_toInt_lt.mpr (by rw [show (-1 : Int32).toInt = -1 from rfl]; omega)
        have c2 : ¬ (101 : Int32) ≤ v := fun c => by
          have := Int32.le_iff_toInt_le.mp c
          rw [show (101 : Int32).toInt = 101 from rfl] at this
          omega
        rw [if_pos c1, if_neg c2]
        refine Or.inr ⟨v1, Int.le_refl _, v2, ?_⟩
        by_cases c3 : v < 100
        · rw [if_pos c3]
        · rw [if_neg c3]
          apply Int32.toInt_inj.mp
          have := mt Int32.lt_iff_toInt_lt.mpr c3
          rw [show (100 : Int32).toInt = 100 from rfl] at this ⊢
          omega
      · rw [h4]
        generalize loM mk w i = lo at h1 h2
        generalize hiC mk w i = hi at h2 h3
        refine Or.inr ?_
        by_cases c1 : hi < v <;> by_cases c2 : lo ≤ v
        · have q1 := Int32.lt_iff_toInt_lt.mp c1
          have q2 := Int32.le_iff_toInt_le.mp c2
          rw [if_pos c1, if_pos c2]
          refine ⟨h1, q2, v2, ?_⟩
          by_cases c3 : v < lo
          · have := Int32.lt_iff_toInt_lt.mp c3; omega
          · rw [if_neg c3]
        · have q1 := Int32.lt_iff_toInt_lt.mp c1
          have q2 := mt Int32.le_iff_toInt_le.mpr c2
          omega
        · have q1 := mt Int32.lt_iff_toInt_lt.mpr c1
          have q2 := Int32.le_iff_toInt_le.mp c2
          rw [if_neg c1, if_pos c2]
          refine ⟨h1, h2, h3, ?_⟩
          by_cases c3 : v < lo
          · have := Int32.lt_iff_toInt_lt.mp c3; omega
          · rw [if_neg c3]
        · have q1 := mt Int32.lt_iff_toInt_lt.mpr c1
          have q2 := mt Int32.le_iff_toInt_le.mpr c2
          rw [if_neg c1, if_neg c2]
          refine ⟨v1, by omega, h3, ?_⟩
          rw [if_pos (Int32.lt_iff_toInt_lt.mpr (by omega))]
theorem spreadOfX {P : Int32 → St → Prop} {S : St} {g : Sg} (hg : Wf g) (hx : XB g S) {w : Nat} (hw : w < g.1) (h : P (sprS g w) S) : tX2_spreadOf (nI w) S P := by
  have h8 := hg.1.2
  refine bX2_spreadOf_0 _ ?_
  refine loop_dn (fun p => wX2_spreadOf P 8 [.ref 4, .int (nI w), .int (loC g.2.2.2.1 w p), .int (hiC g.2.2.2.1 w p), .int (nI p), .retAddr 0] [] S) g.1 (fun p hp ih => ?_) ?_
  · refine bX2_spreadOf_8 _ _ _ _ ⟨fun c => absurd (hx.1 ▸ c) (cnt_step hp h8), fun _ => ⟨ii hp h8, ii hw h8, ?_⟩⟩
    rw [nI_1, nI_clamp (by omega), nI_clamp (by omega), hx.2.2.2.1 p w (by omega) (by omega)]
    unfold loC hiC at ih
    refine ⟨fun c => ?_, fun c => ?_⟩
    · rw [if_pos c, if_pos c] at ih
      exact ih
    · rw [if_neg c, if_neg c] at ih
      exact ih
  · refine bX2_spreadOf_8 _ _ _ _ ⟨fun _ => ?_, fun c => absurd (by rw [hx.1]; exact nI_le (Nat.le_refl _) (by omega)) c⟩
    have e : (if hiC g.2.2.2.1 w g.1 - loC g.2.2.2.1 w g.1 < 0 then 0 else hiC g.2.2.2.1 w g.1 - loC g.2.2.2.1 w g.1) = sprS g w := by
      unfold sprS
      rcases spr_inv hg.2.2.2.2.1 w g.1 with ⟨h1, h2, h3⟩ | ⟨h1, h2, h3, h4⟩
      · rw [h1, h2, h3]; rfl
      · rw [h4]
        have e1 : (0 : Int32) ≤ hiC g.2.2.2.1 w g.1 := Int32.le_iff_toInt_le.mpr (by rw [show (0 : Int32).toInt = 0 from rfl]; omega)
        rw [if_pos e1, if_neg]
        intro c
        have := Int32.lt_iff_toInt_lt.mp c
        rw [fb_subI (by omega) (by omega), show (0 : Int32).toInt = 0 from rfl] at this
        omega
    rw [e]
    exact h
theorem spreadX {P : Int32 → St → Prop} {S : St} {g : Sg} (hg : Wf g) (hx : XB g S) {a : Int32} (h1 : ∀ w, w < g.1 → a = nI w → P (sprS g w) S) (hu : unk1 g.1 a → P (-1001) S) : tX6_spread a S P := by
  have h8 := hg.1.2
  refine bX6_spread_0 _ (holds_ok hx.1 h8 (fun p hp ea => ⟨fun z => absurd z (by decide), fun _ => ?_⟩) (fun c => ⟨fun _ => hu (fun p hp e => nI_out h8 c hp e), fun z => absurd rfl z⟩))
  subst ea
  exact spreadOfX hg hx hp (h1 p hp rfl)
theorem hi_ge {mk : Nat → Nat → Int32} (hm : ∀ p w, mkok (mk p w)) (w i : Nat) : -1 ≤ (hiC mk w i).toInt := by
  rcases spr_inv hm w i with ⟨h1, -, -⟩ | ⟨h1, h2, -, -⟩
  · rw [h1]; decide
  · omega
theorem spreadOfM {P : Int32 → St → Prop} {S : St} {g : Sg} (hg : Wf g) (hx : MB g S) {w : Nat} (hw : w < g.1) (h : P (sprS g w) S) : tX7_spreadOf (nI w) S P := by
  have h8 := hg.1.2
  refine bX7_spreadOf_0 _ ?_
  refine loop_dn (fun p => wX7_spreadOf P 8 [.ref 47, .int (nI w), .int (loM g.2.2.2.1 w p), .int (hiC g.2.2.2.1 w p), .int (nI p), .retAddr 0] [] S) g.1 (fun p hp ih => ?_) ?_
  · refine bX7_spreadOf_8 _ _ _ _ ⟨fun c => absurd (hx.1 ▸ c) (cnt_step hp h8), fun _ => ?_⟩
    rw [ix64 (by omega) (by omega)]
    refine ⟨vp_in_nI (by omega) (by decide), ?_⟩
    rw [nI_1, nI_clamp (by omega), hx.2.2.2.1 p w (by omega) (by omega)]
    unfold loM hiC at ih
    have ok := hg.2.2.2.2.1 p w
    have hh := hi_ge hg.2.2.2.2.1 w p
    refine ⟨fun c => ?_, fun c => ?_⟩
    · have e := (mk_neg ok).mp c
      rw [if_pos e, if_pos e] at ih
      refine ⟨fun _ => ih, fun c2 => absurd ?_ c2⟩
      rw [e]
      exact Int32.le_iff_toInt_le.mpr (by rw [show (-1 : Int32).toInt = -1 from rfl]; exact hh)
    · have e : ¬ g.2.2.2.1 p w = -1 := fun z => c ((mk_neg ok).mpr z)
      rw [if_neg e, if_neg e] at ih
      have flip : ∀ x y : Int32, ¬ x ≤ y ↔ y < x := fun x y => by
        rw [Int32.le_iff_toInt_le, Int32.lt_iff_toInt_lt]
        omega
      refine ⟨fun c2 => ?_, fun c2 => ?_⟩
      · rw [if_pos c2] at ih
        refine ⟨fun c3 => ?_, fun c3 => ?_⟩
        · rw [if_neg (fun z => absurd c3 ((flip _ _).mpr z))] at ih
          exact ih
        · rw [if_pos ((flip _ _).mp c3)] at ih
          exact ih
      · rw [if_neg c2] at ih
        refine ⟨fun c3 => ?_, fun c3 => ?_⟩
        · rw [if_neg (fun z => absurd c3 ((flip _ _).mpr z))] at ih
          exact ih
        · rw [if_pos ((flip _ _).mp c3)] at ih
          exact ih
  · refine bX7_spreadOf_8 _ _ _ _ ⟨fun _ => ?_, fun c => absurd (by rw [hx.1]; exact nI_le (Nat.le_refl _) (by omega)) c⟩
    unfold sprS at h
    refine ⟨fun c => ?_, fun c => ?_⟩
    · rw [if_pos c] at h; exact h
    · rw [if_neg c] at h; exact h
theorem spreadM {P : Int32 → St → Prop} {S : St} {g : Sg} (hg : Wf g) (hx : MB g S) {a : Int32} (h1 : ∀ w, w < g.1 → a = nI w → P (sprS g w) S) (hu : unk1 g.1 a → P (-1001) S) : tX7_spread_ a S P := by
  have h8 := hg.1.2
  have h2 := hg.1.1
  refine bX7_spread__0 _ (is_ok hx.1 (by omega) h8 (fun p hp ea => ⟨fun z => absurd z (by decide), fun _ => ?_⟩) (fun c => ⟨fun _ => hu (fun p hp e => nI_out h8 c hp e), fun z => absurd rfl z⟩))
  subst ea
  exact spreadOfM hg hx hp (h1 p hp rfl)
/-! next -/
/-- how many of the first i works a pupil marked -/
def cntP (mk : Nat → Nat → Int32) (p : Nat) : Nat → Nat
  | 0 => 0
  | w + 1 => cntP mk p w + if mk p w = -1 then 0 else 1
theorem cntP_le (mk : Nat → Nat → Int32) (p : Nat) : ∀ i, cntP mk p i ≤ i
  | 0 => Nat.le_refl 0
  | i + 1 => by
    have := cntP_le mk p i
    unfold cntP
    split <;> omega
theorem cntP_own {mk : Nat → Nat → Int32} {p : Nat} (h : mk p p = -1) : ∀ i, p < i → cntP mk p i < i
  | 0, hi => absurd hi (by omega)
  | i + 1, hi => by
    unfold cntP
    by_cases e : p = i
    · subst e
      rw [if_pos h]
      have := cntP_le mk p p
      omega
    · have := cntP_own h i (by omega)
      split <;> omega
theorem marksByX {P : Int32 → St → Prop} {S : St} {g : Sg} (hg : Wf g) (hx : XB g S) {p : Nat} (hp : p < g.1) (h : P (nI (cntP g.2.2.2.1 p g.1)) S) : tX2_marksBy (nI p) S P := by
  have h8 := hg.1.2
  refine bX2_marksBy_0 _ ?_
  refine loop_dn (fun w => wX2_marksBy P 4 [.ref 4, .int (nI p), .int (nI (cntP g.2.2.2.1 p w)), .int (nI w)] [] S) g.1 (fun w hw ih => ?_) ?_
  · refine bX2_marksBy_4 _ _ _ ⟨fun c => absurd (hx.1 ▸ c) (cnt_step hw h8), fun _ => ⟨ii hp h8, ii hw h8, ?_⟩⟩
    rw [nI_1, nI_1, nI_clamp (by omega), nI_clamp (by omega), hx.2.2.2.1 p w (by omega) (by omega)]
    unfold cntP at ih
    refine ⟨fun c => ?_, fun c => ?_⟩
    · rw [if_pos c] at ih; exact ih
    · rw [if_neg c] at ih; exact ih
  · exact bX2_marksBy_4 _ _ _ ⟨fun _ => h, fun c => absurd (by rw [hx.1]; exact nI_le (Nat.le_refl _) (by omega)) c⟩
theorem marksOfM {P : Int32 → St → Prop} {S : St} {g : Sg} (hg : Wf g) (hx : MB g S) {p : Nat} (hp : p < g.1) (h : P (nI (cntP g.2.2.2.1 p g.1)) S) : tX7_marksOf (nI p) S P := by
  have h8 := hg.1.2
  refine bX7_marksOf_0 _ ?_
  refine loop_dn (fun w => wX7_marksOf P 4 [.ref 47, .int (nI p), .int (nI (cntP g.2.2.2.1 p w)), .int (nI w)] [] S) g.1 (fun w hw ih => ?_) ?_
  · refine bX7_marksOf_4 _ _ _ ⟨fun c => absurd (hx.1 ▸ c) (cnt_step hw h8), fun _ => ?_⟩
    rw [ix64 (by omega) (by omega)]
    refine ⟨vp_in_nI (by omega) (by decide), ?_⟩
    rw [nI_1, nI_1, nI_clamp (by omega), hx.2.2.2.1 p w (by omega) (by omega), show nI (cntP g.2.2.2.1 p w) + 0 = nI (cntP g.2.2.2.1 p w) from Int32.add_zero _]
    unfold cntP at ih
    have ok := hg.2.2.2.2.1 p w
    refine ⟨fun c => ?_, fun c => ?_⟩
    · rw [if_pos ((mk_neg ok).mp c)] at ih; exact ih
    · rw [if_neg (fun z => c ((mk_neg ok).mpr z))] at ih; exact ih
  · exact bX7_marksOf_4 _ _ _ ⟨fun _ => h, fun c => absurd (by rw [hx.1]; exact nI_le (Nat.le_refl _) (by omega)) c⟩
/-- who marked a work -/
def whoS (g : Sg) (w : Nat) : Nat := msk (fun p => !decide (g.2.2.2.1 p w = -1)) g.1
theorem whoS_lt {g : Sg} (hg : Wf g) (w : Nat) : whoS g w < 256 := msk_lt _ hg.1.2
theorem whoMarkedX {P : Int32 → St → Prop} {S : St} {g : Sg} (hg : Wf g) (hx : XB g S) {w : Nat} (hw : w < g.1) (h : P (nI (whoS g w)) S) : tX2_whoMarked (nI w) S P := by
  have h8 := hg.1.2
  refine bX2_whoMarked_0 _ ?_
  refine loop_dn (fun p => wX2_whoMarked P 4 [.ref 4, .int (nI w), .int (nI (msk (fun p => !decide (g.2.2.2.1 p w = -1)) p)), .int (nI p)] [] S) g.1 (fun p hp ih => ?_) ?_
  · refine bX2_whoMarked_4 _ _ _ ⟨fun c => absurd (hx.1 ▸ c) (cnt_step hp h8), fun _ => ⟨ii hp h8, ii hw h8, ?_⟩⟩
    rw [nI_1, nI_clamp (by omega), nI_clamp (by omega), hx.2.2.2.1 p w (by omega) (by omega), sh1 (by omega), nI_or]
    unfold msk at ih
    refine ⟨fun c => ?_, fun c => ?_⟩
    · rw [if_neg (by simp [c]), Nat.or_zero] at ih
      exact ih
    · rw [if_pos (by simp [c])] at ih
      exact ih
  · exact bX2_whoMarked_4 _ _ _ ⟨fun _ => h, fun c => absurd (by rw [hx.1]; exact nI_le (Nat.le_refl _) (by omega)) c⟩
def oI (o : Option Nat) : Int32 := match o with
  | none => -1
  | some k => nI k
def nxt (g : Sg) (w : Nat) : Nat → Option Nat
  | 0 => none
  | p + 1 => if (decide (p ≠ w) && !g.2.1 p w) && decide (g.2.2.2.1 p w = -1) then match nxt g w p with
      | none => some p
      | some b => if cntP g.2.2.2.1 p g.1 < cntP g.2.2.2.1 b g.1 then some p else some b
    else nxt g w p
theorem nxt_lt (g : Sg) (w : Nat) : ∀ i b, nxt g w i = some b → b < i
  | 0, b, h => by cases h
  | i + 1, b, h => by
    have ih := nxt_lt g w i
    unfold nxt at h
    split at h
    · cases e : nxt g w i with
      | none => rw [e] at h; cases h; omega
      | some c =>
        rw [e] at h
        have := ih c e
        simp only at h
        split at h <;> (cases h; omega)
    · have := ih b h; omega
def fewS (g : Sg) (o : Option Nat) : Nat := match o with
  | none => 8
  | some b => cntP g.2.2.2.1 b g.1
theorem nextX {P : Int32 → St → Prop} {S : St} {g : Sg} (hg : Wf g) (hx : XB g S) {a : Int32} (h1 : ∀ w, w < g.1 → a = nI w → P (oI (nxt g w g.1)) S) (hu : unk1 g.1 a → P (-1001) S) : tX6_next a S P := by
  have h8 := hg.1.2
  refine bX6_next_0 _ (holds_ok hx.1 h8 (fun w hw ea => ⟨fun z => absurd z (by decide), fun _ => ?_⟩) (fun c => ⟨fun _ => hu (fun p hp e => nI_out h8 c hp e), fun z => absurd rfl z⟩))
  subst ea
  have hfin := h1 w hw rfl
  refine bX2_nextMarker_0 _ (mayMark_ok hg hx (by omega) (whoMarkedX hg hx hw ?_))
  rw [nI_nd _ (mayS_lt hg w)]
  refine loop_dn (fun p => wX2_nextMarker P 26 [.ref 4, .int (nI w), .int (nI (nd (mayS g w) (whoS g w))), .int (oI (nxt g w p)), .int (nI (fewS g (nxt g w p))), .int (nI p)] [] S) g.1 (fun p hp ih => ?_) ?_
  · refine bX2_nextMarker_26 _ _ _ _ _ ⟨fun c => absurd (hx.1 ▸ c) (cnt_step hp h8), fun _ => ?_⟩
    rw [nI_1]
    have hbit : (nd (mayS g w) (whoS g w)).testBit p = ((decide (p ≠ w) && !g.2.1 p w) && decide (g.2.2.2.1 p w = -1)) := by
      rw [nd_bit _ _ (mayS_lt hg w), mayS_bit, whoS, msk_bit, hg.2.1 w p]
      simp [hp]
    refine has_ok (nd_lt _ (mayS_lt hg w)) (by omega) (fun hb => ⟨fun z => absurd z (by decide), fun _ => ?_⟩) (fun hb => ⟨fun _ => ?_, fun z => absurd rfl z⟩)
    · rw [hbit] at hb
      have hown : g.2.2.2.1 p p = -1 := hg.2.2.2.2.2.1 p p (fun z => z.2.2 rfl)
      have hlt : cntP g.2.2.2.1 p g.1 < 8 := by
        have := cntP_own hown g.1 hp
        omega
      refine marksByX hg hx hp ?_
      unfold nxt at ih
      rw [if_pos hb] at ih
      cases e : nxt g w p with
      | none =>
        rw [e] at ih
        refine ⟨fun c => absurd c (nI_ge (b := 8) hlt (by decide)), fun _ => marksByX hg hx hp ?_⟩
        exact ih
      | some b =>
        rw [e] at ih
        simp only at ih
        have hb2 := cntP_le g.2.2.2.1 b g.1
        refine ⟨fun c => ?_, fun c => marksByX hg hx hp ?_⟩
        · have c2 : ¬ cntP g.2.2.2.1 p g.1 < cntP g.2.2.2.1 b g.1 := fun z => nI_ge z (by omega) c
          rw [if_neg c2] at ih
          exact ih
        · have c2 : cntP g.2.2.2.1 p g.1 < cntP g.2.2.2.1 b g.1 := by
            rcases Nat.lt_or_ge (cntP g.2.2.2.1 p g.1) (cntP g.2.2.2.1 b g.1) with z | z
            · exact z
            · exact absurd (nI_le z (by omega)) c
          rw [if_pos c2] at ih
          exact ih
    · rw [hbit] at hb
      unfold nxt at ih
      rw [if_neg (by rw [hb]; decide)] at ih
      exact ih
  · exact bX2_nextMarker_26 _ _ _ _ _ ⟨fun _ => hfin, fun c => absurd (by rw [hx.1]; exact nI_le (Nat.le_refl _) (by omega)) c⟩
theorem nextM {P : Int32 → St → Prop} {S : St} {g : Sg} (hg : Wf g) (hx : MB g S) {a : Int32} (h1 : ∀ w, w < g.1 → a = nI w → P (oI (nxt g w g.1)) S) (hu : unk1 g.1 a → P (-1001) S) : tX7_next a S P := by
  have h8 := hg.1.2
  have h2 := hg.1.1
  refine bX7_next_0 _ (is_ok hx.1 (by omega) h8 (fun w hw ea => ⟨fun _ => ?_, fun z => absurd z (by decide)⟩) (fun c => ⟨fun z => absurd rfl z, fun _ => hu (fun p hp e => nI_out h8 c hp e)⟩))
  subst ea
  have hfin := h1 w hw rfl
  refine loop_dn (fun p => wX7_next P 16 [.ref 47, .int (nI w), .int (oI (nxt g w p)), .int (nI p)] [] S) g.1 (fun p hp ih => ?_) ?_
  · refine bX7_next_16 _ _ _ ⟨fun c => absurd (hx.1 ▸ c) (cnt_step hp h8), fun _ => ?_⟩
    rw [nI_1]
    refine can_ok hx (by omega) (by omega) (fun n1 n2 => ⟨fun z => absurd z (by decide), fun _ => ?_⟩) (fun n1 => ⟨fun _ => ?_, fun z => absurd rfl z⟩)
    · rw [ix64 (by omega) (by omega)]
      refine ⟨vp_in_nI (by omega) (by decide), ?_⟩
      rw [nI_clamp (by omega), hx.2.2.2.1 p w (by omega) (by omega)]
      have ok := hg.2.2.2.2.1 p w
      have neg : ¬ 0 ≤ g.2.2.2.1 p w ↔ g.2.2.2.1 p w = -1 := by
        rw [← mk_neg ok, Int32.le_iff_toInt_le, Int32.lt_iff_toInt_lt]
        omega
      unfold nxt at ih
      refine ⟨fun c => ?_, fun c => ?_⟩
      · have : ¬ g.2.2.2.1 p w = -1 := fun z => (neg.mpr z) c
        rw [if_neg (by simp [this])] at ih
        exact ih
      · have e0 := neg.mp c
        have n1' : ¬ p = w := fun z => n1 z.symm
        rw [if_pos (by simp [e0, n2, n1'])] at ih
        cases e : nxt g w p with
        | none =>
          rw [e] at ih
          exact ⟨fun _ => ih, fun z => absurd (by decide) z⟩
        | some b =>
          have hb := nxt_lt g w p b e
          rw [e] at ih
          simp only at ih
          refine ⟨fun z => absurd z (nI_pos (by omega)), fun _ => marksOfM hg hx hp (marksOfM hg hx (show b < g.1 by omega) ?_)⟩
          have hb2 := cntP_le g.2.2.2.1 b g.1
          have hb3 := cntP_le g.2.2.2.1 p g.1
          refine ⟨fun c => ?_, fun c => ?_⟩
          · have c2 : ¬ cntP g.2.2.2.1 p g.1 < cntP g.2.2.2.1 b g.1 := fun z => nI_ge z (by omega) c
            rw [if_neg c2] at ih
            exact ih
          · have c2 : cntP g.2.2.2.1 p g.1 < cntP g.2.2.2.1 b g.1 := by
              rcases Nat.lt_or_ge (cntP g.2.2.2.1 p g.1) (cntP g.2.2.2.1 b g.1) with z | z
              · exact z
              · exact absurd (nI_le z (by omega)) c
            rw [if_pos c2] at ih
            exact ih
    · unfold nxt at ih
      rw [if_neg ?_] at ih
      · exact ih
      · rcases n1 with n1 | n1
        · simp [n1]
        · simp [n1]
  · exact bX7_next_16 _ _ _ ⟨fun _ => hfin, fun c => absurd (by rw [hx.1]; exact nI_le (Nat.le_refl _) (by omega)) c⟩
