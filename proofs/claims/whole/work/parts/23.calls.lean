/-! ===== friends, rule, mark, staff ===== -/
theorem loop_dn (W : Nat → Prop) (n : Nat) (hs : ∀ i, i < n → W (i + 1) → W i) (hx : W n) : W 0 := by
  have key : ∀ k, k ≤ n → W (n - k) := by
    intro k
    induction k with
    | zero => intro _; exact hx
    | succ k ih =>
      intro hk
      have h := ih (by omega)
      rw [show n - k = (n - (k + 1)) + 1 by omega] at h
      exact hs _ (by omega) h
  have := key n (Nat.le_refl n)
  rwa [Nat.sub_self] at this
theorem ii {n k : Nat} (h : k < n) (hn : n ≤ 8) : vp_in (nI k) 8 := vp_in_nI (by omega) (by decide)
theorem upd_eq {f : Nat → Int32} {k : Nat} {x : Int32} : upd f k x k = x := if_pos rfl
theorem upd_ne {f : Nat → Int32} {k j : Nat} {x : Int32} (h : j ≠ k) : upd f k x j = f j := if_neg h
def friX (S : St) (p q : Nat) (on : Int32) : St :=
  let f1 := upd (S.2.2.1 0) p (if on = 0 then S.2.2.1 0 p &&& (nI (2 ^ q) ^^^ (-1)) else S.2.2.1 0 p ||| nI (2 ^ q))
  let f2 := upd f1 q (if on = 0 then f1 q &&& (nI (2 ^ p) ^^^ (-1)) else f1 q ||| nI (2 ^ p))
  sI (sA (sA S 0 f1) 0 f2) 1 0
theorem friX_SameM (S : St) (p q : Nat) (on : Int32) : SameM S (friX S p q on) := ((SameM.A (by decide)).tr (SameM.A (by decide))).tr (SameM.I (by decide))
theorem msk_on (f : Nat → Bool) {q : Nat} (hq : q < 8) (on : Bool) : (if on then msk f 8 ||| 2 ^ q else nd (msk f 8) (2 ^ q)) = msk (fun j => if j = q then on else f j) 8 := by
  refine set_ext ?_ (msk_lt _ (by decide)) (fun i hi => ?_)
  · cases on
    · exact nd_lt _ (msk_lt _ (by decide))
    · exact or_lt (msk_lt _ (by decide)) (p2_lt hq)
  · rw [msk_bit]
    cases on
    · show (nd (msk f 8) (2 ^ q)).testBit i = _
      rw [nd_bit _ _ (msk_lt _ (by decide)), msk_bit, p2_bit]
      by_cases z : i = q
      · subst z; simp
      · have z2 : ¬ q = i := fun y => z y.symm
        simp [z, z2, hi]
    · show (msk f 8 ||| 2 ^ q).testBit i = _
      rw [Nat.testBit_or, msk_bit, p2_bit]
      by_cases z : i = q
      · subst z; simp [hi]
      · have z2 : ¬ q = i := fun y => z y.symm
        simp [z, z2, hi]
theorem fri_val (f : Nat → Bool) {q : Nat} (hq : q < 8) {on : Int32} {b : Bool} (hb : on = if b then 1 else 0) : (if on = 0 then nI (msk f 8) &&& (nI (2 ^ q) ^^^ (-1)) else nI (msk f 8) ||| nI (2 ^ q)) = nI (msk (fun j => if j = q then b else f j) 8) := by
  rw [← msk_on f hq b]
  cases b
  · rw [hb]
    show (if (0 : Int32) = 0 then _ else _) = _
    rw [if_pos rfl, nI_nd _ (msk_lt _ (by decide))]
    rfl
  · rw [hb]
    show (if (1 : Int32) = 0 then _ else _) = _
    rw [if_neg (by decide), nI_or]
    rfl
theorem XB_fri {g : Sg} {S : St} (h : XB g S) (hg : Wf g) {p q : Nat} (hp : p < g.1) (hq : q < g.1) (hne : p ≠ q) {on : Int32} {b : Bool} (hb : on = if b then 1 else 0) : XB (gFri g p q b) (friX S p q on) := by
  have h8 := hg.1.2
  refine ⟨h.1, fun r hr => ?_, h.2.2.1, fun p2 w hp2 hw2 => by
    show va_up (va_up S.2.2.1 0 _) 0 _ (2 + p2) w = _
    rw [up_ne (by omega), up_ne (by omega)]
    exact h.2.2.2.1 p2 w hp2 hw2, h.2.2.2.2⟩
  show upd (upd (S.2.2.1 0) p (if on = 0 then S.2.2.1 0 p &&& (nI (2 ^ q) ^^^ (-1)) else S.2.2.1 0 p ||| nI (2 ^ q))) q (if on = 0 then (upd (S.2.2.1 0) p (if on = 0 then S.2.2.1 0 p &&& (nI (2 ^ q) ^^^ (-1)) else S.2.2.1 0 p ||| nI (2 ^ q))) q &&& (nI (2 ^ p) ^^^ (-1)) else (upd (S.2.2.1 0) p (if on = 0 then S.2.2.1 0 p &&& (nI (2 ^ q) ^^^ (-1)) else S.2.2.1 0 p ||| nI (2 ^ q))) q ||| nI (2 ^ p)) r = nI (msk (fun j => if (r = p ∧ j = q) ∨ (r = q ∧ j = p) then b else g.2.1 r j) 8)
  rw [upd_ne (f := S.2.2.1 0) (fun z : q = p => hne z.symm)]
  by_cases e1 : r = q
  · subst e1
    rw [upd_eq, h.2.1 r (by omega), fri_val _ (by omega) hb]
    congr 2
    funext j
    have n1 : ¬ r = p := fun z => hne z.symm
    by_cases e2 : j = p
    · subst e2; simp [n1]
    · simp [e2, n1]
  · rw [upd_ne e1]
    by_cases e2 : r = p
    · subst e2
      rw [upd_eq, h.2.1 r (by omega), fri_val _ (by omega) hb]
      congr 2
      funext j
      by_cases e3 : j = q
      · subst e3; simp
      · simp [e3, e1]
    · rw [upd_ne e2, h.2.1 r hr]
      congr 2
      funext j
      simp [e1, e2]
theorem b01 {b : Bool} : (if b then (1 : Int32) else 0) = 0 ↔ b = false := by cases b <;> decide
theorem friendsX {P : Int32 → St → Prop} {S : St} {g : Sg} (hg : Wf g) (hx : XB g S) {a b on : Int32} (h1 : ∀ p q, p < g.1 → q < g.1 → p ≠ q → a = nI p → b = nI q → P (if g.2.1 p q then 1 else 0) (friX S p q on)) (hu : (∀ p q, p < g.1 → q < g.1 → a = nI p → b = nI q → False) → P (-1001) S) (hn : ∀ p, p < g.1 → a = nI p → b = nI p → P (-1003) S) : tX6_friends a b on S P := by
  have h8 := hg.1.2
  refine bX6_friends_0 _ _ _ (holds_ok hx.1 h8 (fun p hp ea => ⟨fun z => absurd z (by decide), fun _ => ?_⟩) (fun c => ⟨fun _ => hu (fun p q hp hq ea eb => ?_), fun z => absurd rfl z⟩))
  · refine holds_ok hx.1 h8 (fun q hq eb => ⟨fun _ => ⟨fun hne => ?_, fun e => hn p hp ea (by rw [← e]; exact ea)⟩, fun z => absurd z (by decide)⟩) (fun c => ⟨fun z => absurd rfl z, fun _ => hu (fun p2 q2 hp2 hq2 ea2 eb2 => ?_)⟩)
    · subst ea; subst eb
      have hpq : p ≠ q := fun z => hne (by rw [z])
      rw [nI_clamp (by omega), hx.2.1 p (by omega)]
      have fin : tX1_befriend (nI p) (nI q) on S (fun S8 => tX5_forget S8 (fun S9 => P (if g.2.1 p q then 1 else 0) S9)) := by
        refine bX1_befriend_0 _ _ _ ⟨fun c => ⟨ii hp h8, ii hq h8, ?_⟩, fun c => ⟨ii hp h8, ii hq h8, ?_⟩⟩
        · have h := h1 p q hp hq hpq rfl rfl
          unfold friX at h
          simp only [if_pos c] at h
          rw [nI_clamp (by omega), nI_clamp (by omega), sh1 (by omega), sh1 (by omega)]
          exact bX5_forget_0 h
        · have h := h1 p q hp hq hpq rfl rfl
          unfold friX at h
          simp only [if_neg c] at h
          rw [nI_clamp (by omega), nI_clamp (by omega), sh1 (by omega), sh1 (by omega)]
          exact bX5_forget_0 h
      refine ⟨ii hp h8, has_ok (msk_lt _ (by decide)) (by omega) (fun hb => ⟨fun z => absurd z (by decide), fun _ => ?_⟩) (fun hb => ⟨fun _ => ?_, fun z => absurd rfl z⟩)⟩
      · rw [msk_bit] at hb
        have : g.2.1 p q = true := by simp at hb; exact hb.2
        rw [this] at fin
        exact fin
      · rw [msk_bit] at hb
        have : g.2.1 p q = false := by
          have : q < 8 := by omega
          simpa [this] using hb
        rw [this] at fin
        exact fin
    · rcases c with c | c
      · rw [eb2] at c; exact nI_pos (by omega) c
      · rw [eb2] at c; exact nI_ge hq2 (by omega) c
  · rcases c with c | c
    · rw [ea] at c; exact nI_pos (by omega) c
    · rw [ea] at c; exact nI_ge hp (by omega) c
def friM (S : St) (p q : Nat) (on : Int32) : St := sA (sA S 24 (upd (S.2.2.1 24) (8 * p + q) (vp_nar .boolean on))) 24 (upd (upd (S.2.2.1 24) (8 * p + q) (vp_nar .boolean on)) (8 * q + p) (vp_nar .boolean on))
theorem friM_SameX (S : St) (p q : Nat) (on : Int32) : SameX S (friM S p q on) := (SameX.A (by decide)).tr (SameX.A (by decide))
theorem MB_fri {g : Sg} {S : St} (h : MB g S) (hg : Wf g) {p q : Nat} (hp : p < g.1) (hq : q < g.1) {on : Int32} {b : Bool} (hb : on = if b then 1 else 0) : MB (gFri g p q b) (friM S p q on) := by
  have h8 := hg.1.2
  have hn : vp_nar .boolean on = if b then 1 else 0 := by rw [hb]; cases b <;> rfl
  refine ⟨h.1, fun r t hr ht => ?_, h.2.2.1, h.2.2.2.1, h.2.2.2.2⟩
  show upd (upd (S.2.2.1 24) (8 * p + q) (vp_nar .boolean on)) (8 * q + p) (vp_nar .boolean on) (8 * r + t) = if (if (r = p ∧ t = q) ∨ (r = q ∧ t = p) then b else g.2.1 r t) then 1 else 0
  rw [hn]
  by_cases e1 : r = q ∧ t = p
  · obtain ⟨rfl, rfl⟩ := e1
    rw [upd_eq, if_pos (show (r = t ∧ t = r) ∨ (r = r ∧ t = t) from Or.inr ⟨rfl, rfl⟩)]
  · rw [upd_ne (fun z => e1 (by omega))]
    by_cases e2 : r = p ∧ t = q
    · obtain ⟨rfl, rfl⟩ := e2
      rw [upd_eq, if_pos (show (r = r ∧ t = t) ∨ (r = t ∧ t = r) from Or.inl ⟨rfl, rfl⟩)]
    · have e3 : (if (r = p ∧ t = q) ∨ (r = q ∧ t = p) then b else g.2.1 r t) = g.2.1 r t := if_neg (fun z => z.elim e2 e1)
      rw [upd_ne (fun z => e2 (by omega)), h.2.1 r t hr ht, e3]
theorem friendsM {P : Int32 → St → Prop} {S : St} {g : Sg} (hg : Wf g) (hx : MB g S) {a b on : Int32} (h1 : ∀ p q, p < g.1 → q < g.1 → p ≠ q → a = nI p → b = nI q → P (if g.2.1 p q then 1 else 0) (friM S p q on)) (hu : (∀ p q, p < g.1 → q < g.1 → a = nI p → b = nI q → False) → P (-1001) S) (hn : ∀ p, p < g.1 → a = nI p → b = nI p → P (-1003) S) : tX7_friends a b on S P := by
  have h8 := hg.1.2
  have h2 := hg.1.1
  refine bX7_friends_0 _ _ _ (is_ok hx.1 (by omega) h8 (fun p hp ea => ⟨fun z => absurd z (by decide), fun _ => ?_⟩) (fun c => ⟨fun _ => hu (fun p q hp hq ea eb => ?_), fun z => absurd rfl z⟩))
  · refine is_ok hx.1 (by omega) h8 (fun q hq eb => ⟨fun _ => ⟨fun hne => ?_, fun e => hn p hp ea (by rw [← e]; exact ea)⟩, fun z => absurd z (by decide)⟩) (fun c => ⟨fun z => absurd rfl z, fun _ => hu (fun p2 q2 hp2 hq2 ea2 eb2 => ?_)⟩)
    · subst ea; subst eb
      have hpq : p ≠ q := fun z => hne (by rw [z])
      have h := h1 p q hp hq hpq rfl rfl
      unfold friM at h
      rw [ix64 (by omega) (by omega), ix64 (by omega) (by omega), nI_clamp (by omega), nI_clamp (by omega), hx.2.1 p q (by omega) (by omega)]
      refine ⟨vp_in_nI (by omega) (by decide), ⟨fun c => ⟨vp_in_nI (by omega) (by decide), ?_⟩, fun c => ⟨vp_in_nI (by omega) (by decide), ?_⟩⟩⟩
      · rw [b01.mp c] at h
        exact h
      · have : g.2.1 p q = true := by
          cases z : g.2.1 p q with
          | true => rfl
          | false => exact absurd (b01.mpr z) c
        rw [this] at h
        exact h
    · rcases c with c | c
      · rw [eb2] at c; exact nI_pos (by omega) c
      · rw [eb2] at c; exact nI_ge hq2 (by omega) c
  · rcases c with c | c
    · rw [ea] at c; exact nI_pos (by omega) c
    · rw [ea] at c; exact nI_ge hp (by omega) c
