/-! rule -/
theorem nI_out {a : Int32} {n k : Nat} (hn : n ≤ 8) (c : a < 0 ∨ nI n ≤ a) (hk : k < n) (e : a = nI k) : False := by
  rw [e] at c
  rcases c with c | c
  · exact nI_pos (by omega) c
  · exact nI_ge hk (by omega) c
def rulLo (k : Nat) : Nat := if k = 2 then 0 else 1
def rulHi (k : Nat) : Nat := if k = 0 then 4 else if k = 1 then 8 else 100
def rulX (S : St) (k v : Nat) : St := sI (sA S 1 (upd (S.2.2.1 1) k (nI v))) 1 0
def rulM (S : St) (k v : Nat) : St := sA S 25 (upd (S.2.2.1 25) k (nI v))
theorem rulX_SameM (S : St) (k v : Nat) : SameM S (rulX S k v) := (SameM.A (by decide)).tr (SameM.I (by decide))
theorem rulM_SameX (S : St) (k v : Nat) : SameX S (rulM S k v) := SameX.A (by decide)
theorem XB_rul {g : Sg} {S : St} (h : XB g S) {k v : Nat} : XB (gRul g k v) (rulX S k v) := by
  refine ⟨h.1, h.2.1, fun j hj => ?_, fun p w hp hw => ?_, h.2.2.2.2⟩
  · show upd (S.2.2.1 1) k (nI v) j = nI (if j = k then v else g.2.2.1 j)
    by_cases e : j = k
    · subst e; rw [upd_eq, if_pos rfl]
    · rw [upd_ne e, if_neg e]; exact h.2.2.1 j hj
  · show va_up S.2.2.1 1 _ (2 + p) w = _
    rw [up_ne (by omega)]
    exact h.2.2.2.1 p w hp hw
theorem MB_rul {g : Sg} {S : St} (h : MB g S) {k v : Nat} : MB (gRul g k v) (rulM S k v) := by
  refine ⟨h.1, h.2.1, fun j hj => ?_, h.2.2.2.1, h.2.2.2.2⟩
  show upd (S.2.2.1 25) k (nI v) j = nI (if j = k then v else g.2.2.1 j)
  by_cases e : j = k
  · subst e; rw [upd_eq, if_pos rfl]
  · rw [upd_ne e, if_neg e]; exact h.2.2.1 j hj
theorem i32_of {a : Int32} (h : 0 ≤ a.toInt) : ∃ v : Nat, v < 2 ^ 31 ∧ a = nI v ∧ a.toInt = v := by
  have hneg : ¬ a < 0 := fun z => by
    have := Int32.lt_iff_toInt_lt.mp z
    rw [show (0 : Int32).toInt = 0 from rfl] at this
    omega
  obtain ⟨j, hj, e⟩ := nI_of hneg
  exact ⟨j, hj, e, by rw [e, nI_toInt hj]⟩
theorem ruleX {P : Int32 → St → Prop} {S : St} {g : Sg} (hx : XB g S) {a b : Int32} (h1 : ∀ k v, k < 3 → rulLo k ≤ v → v ≤ rulHi k → a = nI k → b = nI v → P (nI (g.2.2.1 k)) (rulX S k v)) (h0 : (∀ k v, k < 3 → rulLo k ≤ v → v ≤ rulHi k → a = nI k → b = nI v → False) → P (-1002) S) : tX6_rule a b S P := by
  have small : ∀ k, k < 3 → a = nI k → (wl_lrI k).toInt = (rulLo k : Int) ∧ (wl_grI k).toInt = (rulHi k : Int) := by
    intro k hk _
    match k, hk with
    | 0, _ => exact ⟨rfl, rfl⟩
    | 1, _ => exact ⟨rfl, rfl⟩
    | 2, _ => exact ⟨rfl, rfl⟩
  refine bX6_rule_0 _ _ ?_
  rcases nI_cases a (show 3 < 2 ^ 31 by decide) with ⟨k, hk, ea⟩ | c
  · obtain ⟨s1, s2⟩ := small k hk ea
    subst ea
    refine ⟨fun c => absurd c (nI_pos (by omega)), fun _ => ⟨fun c => absurd c ?_, fun _ => ⟨vp_in_nI hk (by decide), ?_⟩⟩⟩
    · rw [show (2 : Int32) = nI 2 from rfl]
      exact nI_nlt (by omega) (by omega)
    rw [nI_clamp (by omega)]
    refine ⟨fun c => h0 (fun k2 v2 hk2 l2 u2 e1 e2 => ?_), fun c => ⟨fun c2 => ?_, fun c2 => h0 (fun k2 v2 hk2 l2 u2 e1 e2 => ?_)⟩⟩
    · have ek : k = k2 := (nI_eq (by omega) (by omega)).mp e1
      subst ek
      have := Int32.lt_iff_toInt_lt.mp c
      have hv : v2 ≤ 100 := Nat.le_trans u2 (by unfold rulHi; split <;> (try split) <;> omega)
      rw [s1, e2, nI_toInt (by omega)] at this
      omega
    · have q1 := mt Int32.lt_iff_toInt_lt.mpr c
      have q2 := Int32.le_iff_toInt_le.mp c2
      rw [s1] at q1
      rw [s2] at q2
      obtain ⟨v, hv, ev, ev2⟩ := i32_of (a := b) (by omega)
      subst ev
      rw [ev2] at q1 q2
      refine bX5_forget_0 ?_
      rw [hx.2.2.1 k hk]
      exact h1 k v hk (by omega) (by omega) rfl rfl
    · have ek : k = k2 := (nI_eq (by omega) (by omega)).mp e1
      subst ek
      have := mt Int32.le_iff_toInt_le.mpr c2
      have hv : v2 ≤ 100 := Nat.le_trans u2 (by unfold rulHi; split <;> (try split) <;> omega)
      rw [s2, e2, nI_toInt (by omega)] at this
      omega
  · have bad : P (-1002) S := h0 (fun k2 v2 hk2 _ _ e1 _ => nI_out (n := 3) (by decide) c hk2 e1)
    refine ⟨fun _ => bad, fun c1 => ⟨fun _ => bad, fun c2 => ?_⟩⟩
    rcases c with c | c
    · exact absurd c c1
    · have q1 := Int32.le_iff_toInt_le.mp c
      have q2 := mt Int32.lt_iff_toInt_lt.mpr c2
      rw [nI_toInt (by decide)] at q1
      rw [show (2 : Int32).toInt = 2 from rfl] at q2
      omega
theorem in_lit {P : Int32 → St → Prop} {S : St} {x : Int32} {lo hi : Int64} {l h : Int} (el : lo.toInt = l) (eh : hi.toInt = h) (h1 : l ≤ x.toInt → x.toInt ≤ h → P 1 S) (h0 : (x.toInt < l ∨ h < x.toInt) → P 0 S) : tX7_in x.toInt64 lo hi S P := by
  refine in_ok (fun a b => ?_) (fun a => ?_)
  · rw [Int32.toInt_toInt64] at a b
    exact h1 (by omega) (by omega)
  · rw [Int32.toInt_toInt64] at a
    exact h0 (by omega)
theorem ruleM {P : Int32 → St → Prop} {S : St} {g : Sg} (hx : MB g S) {a b : Int32} (h1 : ∀ k v, k < 3 → rulLo k ≤ v → v ≤ rulHi k → a = nI k → b = nI v → P (nI (g.2.2.1 k)) (rulM S k v)) (h0 : (∀ k v, k < 3 → rulLo k ≤ v → v ≤ rulHi k → a = nI k → b = nI v → False) → P (-1002) S) : tX7_rule a b S P := by
  refine bX7_rule_0 _ _ (in_lit (l := 0) (h := 2) rfl rfl (fun q1 q2 => ⟨fun z => absurd z (by decide), fun _ => ?_⟩) (fun q => ⟨fun _ => h0 (fun k v hk _ _ e _ => ?_), fun z => absurd rfl z⟩))
  · obtain ⟨k, hk, ek, ek2⟩ := i32_of q1
    have hk3 : k < 3 := by omega
    -- what is left when k is known
    have fin : ∀ (lo hi : Int64), lo.toInt = (rulLo k : Int) → hi.toInt = (rulHi k : Int) → tX7_in b.toInt64 lo hi S (fun r S3 => ((¬ r = 0 → vp_in a 3 ∧ P (S3.2.2.1 25 a.toNatClampNeg) (sA S3 25 (upd (S3.2.2.1 25) a.toNatClampNeg b))) ∧ (r = 0 → P (-1002) S3))) := by
      intro lo hi el eh
      refine in_lit el eh (fun r1 r2 => ⟨fun _ => ?_, fun z => absurd z (by decide)⟩) (fun r => ⟨fun z => absurd rfl z, fun _ => h0 (fun k2 v2 hk2 l2 u2 e1 e2 => ?_)⟩)
      · obtain ⟨v, hv, ev, ev2⟩ := i32_of (a := b) (by omega)
        subst ek; subst ev
        rw [nI_clamp (by omega), hx.2.2.1 k hk3]
        exact ⟨vp_in_nI hk3 (by decide), h1 k v hk3 (by omega) (by omega) rfl rfl⟩
      · have e : k = k2 := (nI_eq (by omega) (by omega)).mp (ek.symm.trans e1)
        subst e
        have hv : v2 ≤ 100 := Nat.le_trans u2 (by unfold rulHi; split <;> (try split) <;> omega)
        rw [e2, nI_toInt (by omega)] at r
        omega
    match k, hk3 with
    | 0, _ =>
      refine ⟨fun _ => ⟨fun z => absurd ek z, fun _ => fin _ _ rfl rfl⟩, fun z => absurd (ek.symm.trans z) (by decide)⟩
    | 1, _ =>
      refine ⟨fun _ => ⟨fun _ => ⟨fun z => absurd ek z, fun _ => fin _ _ rfl rfl⟩, fun z => absurd (ek.symm.trans z) (by decide)⟩, fun z => absurd (ek.symm.trans z) (by decide)⟩
    | 2, _ =>
      refine ⟨fun z => absurd ek z, fun _ => ⟨fun _ => ⟨fun _ => fin _ _ rfl rfl, fun z => absurd (ek.symm.trans z) (by decide)⟩, fun z => absurd (ek.symm.trans z) (by decide)⟩⟩
  · rw [e, nI_toInt (by omega)] at q
    omega
/-! mark -/
def mrkX (S : St) (p w : Nat) (v : Int32) : St := sI (sI (sA S (2 + p) (upd (S.2.2.1 (2 + p)) w v)) 4 0) 7 0
def mrkM (S : St) (p w : Nat) (v : Int32) : St := sA S 26 (upd (S.2.2.1 26) (8 * p + w) v)
theorem mrkX_SameM (S : St) {p : Nat} (hp : p < 8) (w : Nat) (v : Int32) : SameM S (mrkX S p w v) := ((SameM.A (by omega)).tr (SameM.I (by decide))).tr (SameM.I (by decide))
theorem mrkM_SameX (S : St) (p w : Nat) (v : Int32) : SameX S (mrkM S p w v) := SameX.A (by decide)
theorem XB_mrk {g : Sg} {S : St} (h : XB g S) {p w : Nat} {v : Int32} (hp : p < 8) : XB (gMrk g p w v) (mrkX S p w v) := by
  refine ⟨h.1, fun q hq => ?_, fun j hj => ?_, fun q u hq hu => ?_, fun u hu => ?_⟩
  · show va_up S.2.2.1 (2 + p) _ 0 q = _
    rw [up_ne (by omega)]
    exact h.2.1 q hq
  · show va_up S.2.2.1 (2 + p) _ 1 j = _
    rw [up_ne (by omega)]
    exact h.2.2.1 j hj
  · show va_up S.2.2.1 (2 + p) (upd (S.2.2.1 (2 + p)) w v) (2 + q) u = if q = p ∧ u = w then v else g.2.2.2.1 q u
    by_cases e : q = p
    · subst e
      rw [up_eq]
      by_cases e2 : u = w
      · subst e2
        rw [upd_eq, if_pos ⟨rfl, rfl⟩]
      · rw [upd_ne e2, if_neg (fun z => e2 z.2)]
        exact h.2.2.2.1 q u hq hu
    · rw [up_ne (by omega), if_neg (fun z => e z.1)]
      exact h.2.2.2.1 q u hq hu
  · show va_up S.2.2.1 (2 + p) _ 10 u = _
    rw [up_ne (by omega)]
    exact h.2.2.2.2 u hu
theorem MB_mrk {g : Sg} {S : St} (h : MB g S) {p w : Nat} {v : Int32} (hp : p < 8) (hw : w < 8) : MB (gMrk g p w v) (mrkM S p w v) := by
  refine ⟨h.1, h.2.1, h.2.2.1, fun q u hq hu => ?_, h.2.2.2.2⟩
  show upd (S.2.2.1 26) (8 * p + w) v (8 * q + u) = if q = p ∧ u = w then v else g.2.2.2.1 q u
  by_cases e : q = p ∧ u = w
  · obtain ⟨rfl, rfl⟩ := e
    rw [upd_eq, if_pos ⟨rfl, rfl⟩]
  · rw [upd_ne (fun z => e (by omega)), if_neg e]
    exact h.2.2.2.1 q u hq hu
def unk2 (n : Nat) (a b : Int32) : Prop := ∀ p q, p < n → q < n → a = nI p → b = nI q → False
theorem markX {P : Int32 → St → Prop} {S : St} {g : Sg} (hg : Wf g) (hx : XB g S) {a b v : Int32} (h1 : ∀ p w, p < g.1 → w < g.1 → p ≠ w → a = nI p → b = nI w → mkok v → P (g.2.2.2.1 p w) (mrkX S p w v)) (hu : unk2 g.1 a b → P (-1001) S) (ho : ¬ unk2 g.1 a b → ¬ mkok v → P (-1002) S) (hn : ∀ p, p < g.1 → a = nI p → b = nI p → mkok v → P (-1003) S) : tX6_mark a b v S P := by
  have h8 := hg.1.2
  refine bX6_mark_0 _ _ _ (holds_ok hx.1 h8 (fun p hp ea => ⟨fun z => absurd z (by decide), fun _ => ?_⟩) (fun c => ⟨fun _ => hu (fun p q hp hq ea eb => nI_out h8 c hp ea), fun z => absurd rfl z⟩))
  refine holds_ok hx.1 h8 (fun w hw eb => ⟨fun _ => ?_, fun z => absurd z (by decide)⟩) (fun c => ⟨fun z => absurd rfl z, fun _ => hu (fun p2 q2 hp2 hq2 ea2 eb2 => nI_out h8 c hq2 eb2)⟩)
  have nu : ¬ unk2 g.1 a b := fun z => z p w hp hw ea eb
  refine ⟨fun c => ho nu (fun z => ?_), fun c => ⟨fun c2 => ?_, fun c2 => ho nu (fun z => ?_)⟩⟩
  · have := Int32.lt_iff_toInt_lt.mp c
    rw [show (-1 : Int32).toInt = -1 from rfl] at this
    have := z.1
    omega
  · have q1 := mt Int32.lt_iff_toInt_lt.mpr c
    have q2 := Int32.le_iff_toInt_le.mp c2
    rw [show (-1 : Int32).toInt = -1 from rfl] at q1
    rw [show (100 : Int32).toInt = 100 from rfl] at q2
    have ok : mkok v := ⟨by omega, q2⟩
    refine ⟨fun hne => ?_, fun e => hn p hp ea (by rw [← e]; exact ea) ok⟩
    subst ea; subst eb
    have hpw : p ≠ w := fun z => hne (by rw [z])
    refine ⟨ii hp h8, ii hw h8, ?_⟩
    rw [nI_clamp (by omega), nI_clamp (by omega), hx.2.2.2.1 p w (by omega) (by omega)]
    exact bX4_forget_0 (bX3_forget_0 (h1 p w hp hw hpw rfl rfl ok))
  · have := mt Int32.le_iff_toInt_le.mpr c2
    rw [show (100 : Int32).toInt = 100 from rfl] at this
    have := z.2
    omega
theorem markM {P : Int32 → St → Prop} {S : St} {g : Sg} (hg : Wf g) (hx : MB g S) {a b v : Int32} (h1 : ∀ p w, p < g.1 → w < g.1 → p ≠ w → a = nI p → b = nI w → mkok v → P (g.2.2.2.1 p w) (mrkM S p w v)) (hu : unk2 g.1 a b → P (-1001) S) (ho : ¬ unk2 g.1 a b → ¬ mkok v → P (-1002) S) (hn : ∀ p, p < g.1 → a = nI p → b = nI p → mkok v → P (-1003) S) : tX7_mark a b v S P := by
  have h8 := hg.1.2
  have h2 := hg.1.1
  refine bX7_mark_0 _ _ _ (is_ok hx.1 (by omega) h8 (fun p hp ea => ⟨fun z => absurd z (by decide), fun _ => ?_⟩) (fun c => ⟨fun _ => hu (fun p q hp hq ea eb => nI_out h8 c hp ea), fun z => absurd rfl z⟩))
  refine is_ok hx.1 (by omega) h8 (fun w hw eb => ⟨fun _ => ?_, fun z => absurd z (by decide)⟩) (fun c => ⟨fun z => absurd rfl z, fun _ => hu (fun p2 q2 hp2 hq2 ea2 eb2 => nI_out h8 c hq2 eb2)⟩)
  have nu : ¬ unk2 g.1 a b := fun z => z p w hp hw ea eb
  refine in_lit (l := -1) (h := 100) rfl rfl (fun q1 q2 => ⟨fun _ => ⟨fun hne => ?_, fun e => hn p hp ea (by rw [← e]; exact ea) ⟨q1, q2⟩⟩, fun z => absurd z (by decide)⟩) (fun q => ⟨fun z => absurd rfl z, fun _ => ho nu (fun z => ?_)⟩)
  · subst ea; subst eb
    have hpw : p ≠ w := fun z => hne (by rw [z])
    rw [ix64 (by omega) (by omega), nI_clamp (by omega), hx.2.2.2.1 p w (by omega) (by omega)]
    exact ⟨vp_in_nI (by omega) (by decide), h1 p w hp hw hpw rfl rfl ⟨q1, q2⟩⟩
  · have := z.1
    have := z.2
    omega
/-! staff -/
def staX (S : St) (w : Nat) (v : Int32) : St := sI (sA S 10 (upd (S.2.2.1 10) w v)) 4 0
def staM (S : St) (w : Nat) (v : Int32) : St := sA S 27 (upd (S.2.2.1 27) w v)
theorem staX_SameM (S : St) (w : Nat) (v : Int32) : SameM S (staX S w v) := (SameM.A (by decide)).tr (SameM.I (by decide))
theorem staM_SameX (S : St) (w : Nat) (v : Int32) : SameX S (staM S w v) := SameX.A (by decide)
theorem XB_sta {g : Sg} {S : St} (h : XB g S) {w : Nat} {v : Int32} : XB (gSta g w v) (staX S w v) := by
  refine ⟨h.1, h.2.1, h.2.2.1, fun p u hp hu => ?_, fun u hu => ?_⟩
  · show va_up S.2.2.1 10 _ (2 + p) u = _
    rw [up_ne (by omega)]
    exact h.2.2.2.1 p u hp hu
  · show upd (S.2.2.1 10) w v u = if u = w then v else g.2.2.2.2 u
    by_cases e : u = w
    · subst e; rw [upd_eq, if_pos rfl]
    · rw [upd_ne e, if_neg e]; exact h.2.2.2.2 u hu
theorem MB_sta {g : Sg} {S : St} (h : MB g S) {w : Nat} {v : Int32} : MB (gSta g w v) (staM S w v) := by
  refine ⟨h.1, h.2.1, h.2.2.1, h.2.2.2.1, fun u hu => ?_⟩
  show upd (S.2.2.1 27) w v u = if u = w then v else g.2.2.2.2 u
  by_cases e : u = w
  · subst e; rw [upd_eq, if_pos rfl]
  · rw [upd_ne e, if_neg e]; exact h.2.2.2.2 u hu
def unk1 (n : Nat) (a : Int32) : Prop := ∀ p, p < n → a = nI p → False
theorem staffX {P : Int32 → St → Prop} {S : St} {g : Sg} (hg : Wf g) (hx : XB g S) {a v : Int32} (h1 : ∀ w, w < g.1 → a = nI w → mkok v → P (g.2.2.2.2 w) (staX S w v)) (hu : unk1 g.1 a → P (-1001) S) (ho : ¬ unk1 g.1 a → ¬ mkok v → P (-1002) S) : tX6_staff a v S P := by
  have h8 := hg.1.2
  refine bX6_staff_0 _ _ (holds_ok hx.1 h8 (fun w hw eb => ⟨fun _ => ?_, fun z => absurd z (by decide)⟩) (fun c => ⟨fun z => absurd rfl z, fun _ => hu (fun p2 hp2 ea2 => nI_out h8 c hp2 ea2)⟩))
  have nu : ¬ unk1 g.1 a := fun z => z w hw eb
  refine ⟨fun c => ho nu (fun z => ?_), fun c => ⟨fun c2 => ?_, fun c2 => ho nu (fun z => ?_)⟩⟩
  · have := Int32.lt_iff_toInt_lt.mp c
    rw [show (-1 : Int32).toInt = -1 from rfl] at this
    have := z.1
    omega
  · have q1 := mt Int32.lt_iff_toInt_lt.mpr c
    have q2 := Int32.le_iff_toInt_le.mp c2
    rw [show (-1 : Int32).toInt = -1 from rfl] at q1
    rw [show (100 : Int32).toInt = 100 from rfl] at q2
    subst eb
    refine ⟨ii hw h8, ?_⟩
    rw [nI_clamp (by omega), hx.2.2.2.2 w (by omega)]
    exact bX4_forget_0 (h1 w hw rfl ⟨by omega, q2⟩)
  · have := mt Int32.le_iff_toInt_le.mpr c2
    rw [show (100 : Int32).toInt = 100 from rfl] at this
    have := z.2
    omega
theorem staffM {P : Int32 → St → Prop} {S : St} {g : Sg} (hg : Wf g) (hx : MB g S) {a v : Int32} (h1 : ∀ w, w < g.1 → a = nI w → mkok v → P (g.2.2.2.2 w) (staM S w v)) (hu : unk1 g.1 a → P (-1001) S) (ho : ¬ unk1 g.1 a → ¬ mkok v → P (-1002) S) : tX7_staff a v S P := by
  have h8 := hg.1.2
  have h2 := hg.1.1
  refine bX7_staff_0 _ _ (is_ok hx.1 (by omega) h8 (fun w hw eb => ⟨fun _ => ?_, fun z => absurd z (by decide)⟩) (fun c => ⟨fun z => absurd rfl z, fun _ => hu (fun p2 hp2 ea2 => nI_out h8 c hp2 ea2)⟩))
  have nu : ¬ unk1 g.1 a := fun z => z w hw eb
  refine in_lit (l := -1) (h := 100) rfl rfl (fun q1 q2 => ⟨fun _ => ?_, fun z => absurd z (by decide)⟩) (fun q => ⟨fun z => absurd rfl z, fun _ => ho nu (fun z => ?_)⟩)
  · subst eb
    rw [nI_clamp (by omega), hx.2.2.2.2 w (by omega)]
    exact ⟨ii hw h8, h1 w hw rfl ⟨q1, q2⟩⟩
  · have := z.1
    have := z.2
    omega
