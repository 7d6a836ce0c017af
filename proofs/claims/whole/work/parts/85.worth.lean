/-! ===== the calls worth, lean, left ===== -/
def AnsR (g : Sg) (r : Nat) (f : Int → (Nat → Int) → Int) (b : Int32) (v : Int64) : Prop := (10 < nWk g r + nPu g r ∧ v = -1003) ∨ (nWk g r + nPu g r ≤ 10 ∧ ∃ (d : Int) (N : Nat → Int), NSol g r d N ∧ v = lI (lt0 (f d N) d b))
theorem AnsR_u {g : Sg} {r : Nat} {f : Int → (Nat → Int) → Int} {b : Int32} {v v2 : Int64} (hf : ∀ d d2 N N2, NSol g r d N → NSol g r d2 N2 → nWk g r + nPu g r ≤ 10 → f d N * d2 = f d2 N2 * d) (h : AnsR g r f b v) (h2 : AnsR g r f b v2) : v = v2 := by
  rcases h with ⟨h, e⟩ | ⟨h, d, N, s, e⟩
  · rcases h2 with ⟨_, e2⟩ | ⟨h2, _⟩
    · rw [e, e2]
    · omega
  · rcases h2 with ⟨h2, _⟩ | ⟨_, d2, N2, s2, e2⟩
    · omega
    · rw [e, e2, lt0_eq s.1 s2.1 (hf d d2 N N2 s s2 h)]
noncomputable def stV (g : Sg) (w : Nat) (b : Int32) : Int64 := if g.2.2.2.2 w = -1 then -1003 else if b = 0 then (g.2.2.2.2 w).toInt64 else 1
def AnsW (g : Sg) (w : Nat) (b : Int32) (v : Int64) : Prop := (whoS g w = 0 ∧ v = stV g w b) ∨ (whoS g w ≠ 0 ∧ AnsR g (labS (whoS g) w) (fun _ N => N w) b v)
def AnsL (g : Sg) (p : Nat) (b : Int32) (v : Int64) : Prop := (¬ rtB (whoS g) (labS (whoS g) (8 + p)) = true ∧ v = -1003) ∨ (rtB (whoS g) (labS (whoS g) (8 + p)) = true ∧ AnsR g (labS (whoS g) (8 + p)) (fun _ N => N (8 + p)) b v)
def AnsF (g : Sg) (p w : Nat) (b : Int32) (v : Int64) : Prop := (g.2.2.2.1 p w = -1 ∧ v = -1003) ∨ (g.2.2.2.1 p w ≠ -1 ∧ AnsR g (labS (whoS g) w) (fun d N => (g.2.2.2.1 p w).toInt * d - N w - N (8 + p)) b v)
theorem rt_lt {g : Sg} (hg : Wf g) {r : Nat} (hb : rtB (whoS g) r = true) : r < g.1 := by
  by_cases c : r < g.1
  · exact c
  · exact absurd ((whoS_ok hg).2.1 r (by omega)) (rtB_t.mp hb).2
theorem lab_tie {g : Sg} {z : Nat} (hz : z < 16) : Tied (whoS g) (labS (whoS g) z) z := (labS_spec hz).2.1.sy
theorem sol_u {g : Sg} (hg : Wf g) {r z : Nat} (hb : rtB (whoS g) r = true) (hz : Tied (whoS g) r z) {d d2 : Int} {N N2 : Nat → Int} (s : NSol g r d N) (s2 : NSol g r d2 N2) (hc : nWk g r + nPu g r ≤ 10) : N z * d2 = N2 z * d := by
  have hr := rt_lt hg hb
  have n8 := hg.1.2
  obtain ⟨p, hp, _, _, t⟩ := pu_some hg hr hb
  exact nsol_u (by omega) hc hp t s s2 hz
theorem AnsW_u {g : Sg} (hg : Wf g) {w : Nat} (hw : w < g.1) {b : Int32} {v v2 : Int64} (h : AnsW g w b v) (h2 : AnsW g w b v2) : v = v2 := by
  have n8 := hg.1.2
  rcases h with ⟨h, e⟩ | ⟨h, e⟩
  · rcases h2 with ⟨_, e2⟩ | ⟨h2, _⟩
    · rw [e, e2]
    · exact absurd h h2
  · rcases h2 with ⟨h2, _⟩ | ⟨_, e2⟩
    · exact absurd h2 h
    · exact AnsR_u (fun d d2 N N2 s s2 hc => sol_u hg (root_w (whoS_ok hg) hw h).2 (lab_tie (by omega)) s s2 hc) e e2
theorem AnsL_u {g : Sg} (hg : Wf g) {p : Nat} (hp : p < g.1) {b : Int32} {v v2 : Int64} (h : AnsL g p b v) (h2 : AnsL g p b v2) : v = v2 := by
  have n8 := hg.1.2
  rcases h with ⟨h, e⟩ | ⟨h, e⟩
  · rcases h2 with ⟨_, e2⟩ | ⟨h2, _⟩
    · rw [e, e2]
    · exact absurd h2 h
  · rcases h2 with ⟨h2, _⟩ | ⟨_, e2⟩
    · exact absurd h h2
    · exact AnsR_u (fun d d2 N N2 s s2 hc => sol_u hg h (lab_tie (by omega)) s s2 hc) e e2
theorem mk_tie {g : Sg} (hg : Wf g) {p w : Nat} (hp : p < g.1) (hw : w < g.1) (h : g.2.2.2.1 p w ≠ -1) : whoS g w ≠ 0 ∧ Tied (whoS g) (labS (whoS g) w) (8 + p) := by
  have n8 := hg.1.2
  have b : (whoS g w).testBit p = true := whoS_bit.mpr ⟨hp, h⟩
  refine ⟨fun z => ?_, (lab_tie (by omega)).tr (Tied.wp (by omega) (by omega) b)⟩
  rw [z, Nat.zero_testBit] at b
  exact absurd b (by decide)
theorem AnsF_u {g : Sg} (hg : Wf g) {p w : Nat} (hp : p < g.1) (hw : w < g.1) {b : Int32} {v v2 : Int64} (h : AnsF g p w b v) (h2 : AnsF g p w b v2) : v = v2 := by
  have n8 := hg.1.2
  rcases h with ⟨h, e⟩ | ⟨h, e⟩
  · rcases h2 with ⟨_, e2⟩ | ⟨h2, _⟩
    · rw [e, e2]
    · exact absurd h h2
  · rcases h2 with ⟨h2, _⟩ | ⟨_, e2⟩
    · exact absurd h2 h
    · have t := mk_tie hg hp hw h
      refine AnsR_u (fun d d2 N N2 s s2 hc => ?_) e e2
      have a := sol_u hg (root_w (whoS_ok hg) hw t.1).2 (lab_tie (z := w) (by omega)) s s2 hc
      have b := sol_u hg (root_w (whoS_ok hg) hw t.1).2 t.2 s s2 hc
      show ((g.2.2.2.1 p w).toInt * d - N w - N (8 + p)) * d2 = ((g.2.2.2.1 p w).toInt * d2 - N2 w - N2 (8 + p)) * d
      rw [Int.sub_mul, Int.sub_mul, Int.sub_mul, Int.sub_mul, a, b, Int.mul_assoc, Int.mul_assoc, Int.mul_comm d d2]
theorem oI_none {o : Option Nat} (h : o = none) : oI o = -1 := by rw [h]; rfl
theorem nI_m1 {k : Nat} (h : k < 2 ^ 31) : ¬ nI k = -1 := fun z => by
  have := congrArg Int32.toInt z
  rw [nI_toInt h, show (-1 : Int32).toInt = -1 from rfl] at this
  omega
theorem two_what {b : Int32} (c1 : (0 : Int64).toInt ≤ b.toInt64.toInt) (c2 : b.toInt64.toInt ≤ (1 : Int64).toInt) : b = 0 ∨ b = 1 := by
  rw [Int32.toInt_toInt64] at c1 c2
  have d1 : (0 : Int) ≤ b.toInt := c1
  have d2 : b.toInt ≤ 1 := c2
  rcases (show b.toInt = 0 ∨ b.toInt = 1 by omega) with z | z
  · exact Or.inl (Int32.toInt_inj.mp z)
  · exact Or.inr (Int32.toInt_inj.mp z)
theorem not_what {b : Int32} (c : b.toInt64.toInt < (0 : Int64).toInt ∨ (1 : Int64).toInt < b.toInt64.toInt) : b ≠ 0 ∧ b ≠ 1 := by
  refine ⟨fun z => ?_, fun z => ?_⟩
  · subst z
    rcases c with c | c
    · exact absurd c (by decide)
    · exact absurd c (by decide)
  · subst z
    rcases c with c | c
    · exact absurd c (by decide)
    · exact absurd c (by decide)
theorem lt0_1 (T : Int) (b : Int32) : lt0 T 1 b = if b = 0 then T else 1 := by
  unfold lt0
  rw [show (1 : Int).natAbs = 1 from rfl, Nat.gcd_one_right]
  show (if b = 0 then T / 1 else 1 / 1) = _
  rw [Int.ediv_one]
  rfl
theorem worthX {P : Int64 → St → Prop} {S : St} {g : Sg} (hg : Wf g) (hx : XB g S) (hp : XP Sol g S) {a b : Int32} (h1 : ∀ w S1 v, w < g.1 → a = nI w → (b = 0 ∨ b = 1) → SameP S S1 → XPf Sol g S1 → AnsW g w b v → P v S1) (hu : unk1 g.1 a → P (-1001) S) (ho : ¬ unk1 g.1 a → b ≠ 0 → b ≠ 1 → P (-1002) S) : tX6_worth a b S P := by
  have h8 := hg.1.2
  refine bX6_worth_0 _ _ (holds_ok hx.1 h8 (fun w hw ea => ⟨fun _ => ?_, fun z => absurd z (by decide)⟩) (fun c => ⟨fun z => absurd rfl z, fun _ => hu (fun p hp e => nI_out h8 c hp e)⟩))
  have nu : ¬ unk1 g.1 a := fun z => z w hw ea
  subst ea
  have body : (b = 0 ∨ b = 1) → tX4_ofWork (nI w) S (fun r4 S3 => ((¬ r4 = -1 → tX4_isTold r4 S3 (fun r6 S5 => ((r6 = 0 → P (-1003) S5) ∧ (¬ r6 = 0 → vp_in (nI w) 8 ∧ vp_in r4 8 ∧ tX6_inLeastTerms (S5.2.2.2 1 (nI w).toNatClampNeg) (S5.2.2.2 0 r4.toNatClampNeg) b S5 (fun r10 S9 => P r10 S9))))) ∧ (r4 = -1 → vp_in (nI w) 8 ∧ ((¬ (S3.2.2.1 10 (nI w).toNatClampNeg) = -1 → tX6_inLeastTerms ((S3.2.2.1 10 (nI w).toNatClampNeg).toInt64) 1 b S3 (fun r13 S12 => P r13 S12)) ∧ ((S3.2.2.1 10 (nI w).toNatClampNeg) = -1 → P (-1003) S3))))) := fun hb => by
    refine bX4_ofWork_0 _ (refreshP hg hx hp (fun S1 hs hf => whichHas_34 hg hf hw ?_))
    rw [nI_clamp (by omega)]
    have hx1 := hx.sameP hs
    by_cases z : whoS g w = 0
    · have e : pcW g w = none := if_pos z
      rw [oI_none e]
      refine ⟨fun y => absurd rfl y, fun _ => ⟨ii hw h8, ?_⟩⟩
      rw [hx1.2.2.2.2 w (by omega)]
      refine ⟨fun s => ?_, fun s => h1 w S1 _ hw rfl hb hs hf (Or.inl ⟨z, (if_pos s).symm⟩)⟩
      have mm := mk_pos (hg.2.2.2.2.2.2.1 w) s
      rw [i_toI64, show (1 : Int64) = lI 1 from rfl]
      refine leastX (by decide) (by decide) (by omega) (by omega) (h1 w S1 _ hw rfl hb hs hf (Or.inl ⟨z, ?_⟩))
      unfold stV
      rw [lt0_1, if_neg s]
      by_cases b0 : b = 0
      · rw [if_pos b0, if_pos b0, i_toI64]
      · rw [if_neg b0, if_neg b0]
        rfl
    · have e : pcW g w = some (rtc (whoS g) (labS (whoS g) w)) := if_neg z
      have rt := root_w (whoS_ok hg) hw z
      have rl := rtc_le (whoS g) (labS (whoS g) w)
      rw [e]
      show (¬ nI (rtc (whoS g) (labS (whoS g) w)) = -1 → _) ∧ (nI (rtc (whoS g) (labS (whoS g) w)) = -1 → _)
      refine ⟨fun _ => isToldX hg hx1 hf rt.1 rt.2 (fun hL => ⟨fun _ => h1 w S1 _ hw rfl hb hs hf (Or.inr ⟨z, Or.inl ⟨hL, rfl⟩⟩), fun y => absurd rfl y⟩) (fun S5 hs5 s5 f5 o5 => ⟨fun y => absurd y (by decide), fun _ => ⟨ii hw h8, vp_in_nI (by omega) (by decide), ?_⟩⟩), fun y => absurd y (nI_m1 (by omega))⟩
      obtain ⟨d, N, q1, q2, q3, q4, q5, q6⟩ := o5
      show tX6_inLeastTerms (S5.2.2.2 1 w) (S5.2.2.2 0 (nI (rtc (whoS g) (labS (whoS g) w))).toNatClampNeg) b S5 _
      have tz := tdB_t.mpr (lab_tie (g := g) (z := w) (by omega))
      rw [nI_clamp (by omega), q4, q5 w (by omega) tz]
      have bz := q3 w (by omega) tz
      exact leastX q1.1 (by omega) (by omega) (by omega) (h1 w S5 _ hw rfl hb (hs.tr s5) f5 (Or.inr ⟨z, Or.inr ⟨hs5, d, N, q1, rfl⟩⟩))
  refine ⟨fun e => body (Or.inl e), fun e => ⟨fun e1 => body (Or.inr e1), fun e1 => ho nu e e1⟩⟩
theorem worthM {P : Int64 → St → Prop} {S : St} {g : Sg} (hg : Wf g) (hx : MB g S) {a b : Int32} (h1 : ∀ w S1 v, w < g.1 → a = nI w → (b = 0 ∨ b = 1) → SR S S1 → AnsW g w b v → P v S1) (hu : unk1 g.1 a → P (-1001) S) (ho : ¬ unk1 g.1 a → b ≠ 0 → b ≠ 1 → P (-1002) S) : tX7_worth a b S P := by
  have h8 := hg.1.2
  have h2 := hg.1.1
  have hok := whoS_ok hg
  refine bX7_worth_0 _ _ (is_ok hx.1 (by omega) h8 (fun w hw ea => ⟨fun _ => ?_, fun z => absurd z (by decide)⟩) (fun c => ⟨fun z => absurd rfl z, fun _ => hu (fun p hp e => nI_out h8 c hp e)⟩))
  have nu : ¬ unk1 g.1 a := fun z => z w hw ea
  subst ea
  refine in_ok (fun c1 c2 => ⟨fun _ => ?_, fun z => absurd z (by decide)⟩) (fun c => ⟨fun z => absurd rfl z, fun _ => ho nu (not_what c).1 (not_what c).2⟩)
  have hb := two_what c1 c2
  refine findPartsM hg hx (fun F hF => ⟨vp_in_nI (by omega) (by decide), ?_⟩)
  have hs : SR S (sA S 30 F) := SR.A (by decide)
  have hx1 := hx.sr hs
  rw [nI_clamp (by omega), show (sA S 30 F).2.2.1 30 w = nI (labS (whoS g) w) from hF w (by omega)]
  refine sizeOfM (S := sA S 30 F) hF (labS_lt (by omega)) ?_
  have szl := szS_le (whoS g) (labS (whoS g) w)
  rw [show (1 : Int32) = nI 1 from rfl, nI_eq (by omega) (by decide)]
  by_cases z : whoS g w = 0
  · have e : labS (whoS g) w = w := Tied.lone z (by omega) (labS_spec (m := whoS g) (show w < 16 by omega)).2.1
    have s1 : szS (whoS g) (labS (whoS g) w) = 1 := by
      have a := (szS_root hok (show w < 16 by omega) e).mpr (fun y => y.2 z)
      have b := lsum_ge (f := fun y => if labS (whoS g) y = w then 1 else 0) (i := w) (n := 16) (by omega)
      have c : (if labS (whoS g) w = w then 1 else 0) ≤ szS (whoS g) w := b
      rw [if_pos e] at c
      rw [e]
      omega
    refine ⟨fun y => absurd s1 y, fun _ => ⟨ii hw h8, ?_⟩⟩
    rw [show (sA S 30 F).2.2.1 27 w = g.2.2.2.2 w from hx1.2.2.2.2 w (by omega)]
    have mm := hg.2.2.2.2.2.2.1 w
    refine ⟨fun s => ?_, fun s => ?_⟩
    · have sn : ¬ g.2.2.2.2 w = -1 := fun y => by rw [y] at s; exact absurd s (by decide)
      refine ⟨fun b0 => h1 w _ _ hw rfl hb hs (Or.inl ⟨z, ?_⟩), fun b0 => h1 w _ _ hw rfl hb hs (Or.inl ⟨z, ?_⟩)⟩
      · unfold stV; rw [if_neg sn, if_neg b0]
      · unfold stV; rw [if_neg sn, if_pos b0]
    · have sy : g.2.2.2.2 w = -1 := (mk_neg mm).mp (Int32.not_le.mp s)
      exact h1 w _ _ hw rfl hb hs (Or.inl ⟨z, (if_pos sy).symm⟩)
  · have rt := root_w hok hw z
    have n1 : ¬ szS (whoS g) (labS (whoS g) w) = 1 := fun y => by
      have := (szS_root hok (labS_lt (show w < 16 by omega)) (rtB_t.mp rt.2).1).mp (by omega)
      exact this ⟨rt.1, (rtB_t.mp rt.2).2⟩
    refine ⟨fun _ => solveM hg hx1 rt.1 rt.2 (fun S1 hL s1 => ⟨fun _ => h1 w S1 _ hw rfl hb (hs.tr s1) (Or.inr ⟨z, Or.inl ⟨hL, rfl⟩⟩), fun y => absurd rfl y⟩) (fun S1 d N hc s1 q1 q2 q3 q4 q5 => ⟨fun y => absurd y (by decide), fun _ => ?_⟩), fun y => absurd y n1⟩
    have tz := tdB_t.mpr (lab_tie (g := g) (z := w) (by omega))
    have bz := q3 w (by omega) tz
    rw [q5 w (by omega) tz]
    exact toldM q4 q1.1 (by omega) (by omega) (by omega) (h1 w S1 _ hw rfl hb (hs.tr s1) (Or.inr ⟨z, Or.inr ⟨hc, d, N, q1, rfl⟩⟩))
theorem leanX {P : Int64 → St → Prop} {S : St} {g : Sg} (hg : Wf g) (hx : XB g S) (hp : XP Sol g S) {a b : Int32} (h1 : ∀ p S1 v, p < g.1 → a = nI p → (b = 0 ∨ b = 1) → SameP S S1 → XPf Sol g S1 → AnsL g p b v → P v S1) (hu : unk1 g.1 a → P (-1001) S) (ho : ¬ unk1 g.1 a → b ≠ 0 → b ≠ 1 → P (-1002) S) : tX6_lean a b S P := by
  have h8 := hg.1.2
  refine bX6_lean_0 _ _ (holds_ok hx.1 h8 (fun w hw ea => ⟨fun _ => ?_, fun z => absurd z (by decide)⟩) (fun c => ⟨fun z => absurd rfl z, fun _ => hu (fun p hp e => nI_out h8 c hp e)⟩))
  have nu : ¬ unk1 g.1 a := fun z => z w hw ea
  subst ea
  have body : (b = 0 ∨ b = 1) → tX4_ofMarker (nI w) S (fun r4 S3 => ((r4 = -1 → P (-1003) S3) ∧ (¬ r4 = -1 → tX4_isTold r4 S3 (fun r6 S5 => ((¬ r6 = 0 → vp_in (nI w) 8 ∧ vp_in r4 8 ∧ tX6_inLeastTerms (S5.2.2.2 2 (nI w).toNatClampNeg) (S5.2.2.2 0 r4.toNatClampNeg) b S5 (fun r10 S9 => P r10 S9)) ∧ (r6 = 0 → P (-1003) S5)))))) := fun hb => by
    refine bX4_ofMarker_0 _ (refreshP hg hx hp (fun S1 hs hf => whichHas_35 hg hf hw ?_))
    rw [nI_clamp (by omega)]
    have hx1 := hx.sameP hs
    by_cases z : rtB (whoS g) (labS (whoS g) (8 + w)) = true
    · have e : pcP g w = some (rtc (whoS g) (labS (whoS g) (8 + w))) := if_pos z
      have rt := rt_lt hg z
      have rl := rtc_le (whoS g) (labS (whoS g) (8 + w))
      rw [e]
      show (nI (rtc (whoS g) (labS (whoS g) (8 + w))) = -1 → _) ∧ (¬ nI (rtc (whoS g) (labS (whoS g) (8 + w))) = -1 → _)
      refine ⟨fun y => absurd y (nI_m1 (by omega)), fun _ => isToldX hg hx1 hf rt z (fun hL => ⟨fun y => absurd rfl y, fun _ => h1 w S1 _ hw rfl hb hs hf (Or.inr ⟨z, Or.inl ⟨hL, rfl⟩⟩)⟩) (fun S5 hs5 s5 f5 o5 => ⟨fun _ => ⟨ii hw h8, vp_in_nI (by omega) (by decide), ?_⟩, fun y => absurd y (by decide)⟩)⟩
      obtain ⟨d, N, q1, q2, q3, q4, q5, q6⟩ := o5
      show tX6_inLeastTerms (S5.2.2.2 2 w) (S5.2.2.2 0 (nI (rtc (whoS g) (labS (whoS g) (8 + w)))).toNatClampNeg) b S5 _
      have tz := tdB_t.mpr (lab_tie (g := g) (z := 8 + w) (by omega))
      rw [nI_clamp (by omega), q4, q6 w (by omega) tz]
      have bz := q3 (8 + w) (by omega) tz
      exact leastX q1.1 (by omega) (by omega) (by omega) (h1 w S5 _ hw rfl hb (hs.tr s5) f5 (Or.inr ⟨z, Or.inr ⟨hs5, d, N, q1, rfl⟩⟩))
    · have e : pcP g w = none := if_neg z
      rw [oI_none e]
      exact ⟨fun _ => h1 w S1 _ hw rfl hb hs hf (Or.inl ⟨z, rfl⟩), fun y => absurd rfl y⟩
  refine ⟨fun e => body (Or.inl e), fun e => ⟨fun e1 => body (Or.inr e1), fun e1 => ho nu e e1⟩⟩
theorem leanM {P : Int64 → St → Prop} {S : St} {g : Sg} (hg : Wf g) (hx : MB g S) {a b : Int32} (h1 : ∀ p S1 v, p < g.1 → a = nI p → (b = 0 ∨ b = 1) → SR S S1 → AnsL g p b v → P v S1) (hu : unk1 g.1 a → P (-1001) S) (ho : ¬ unk1 g.1 a → b ≠ 0 → b ≠ 1 → P (-1002) S) : tX7_lean a b S P := by
  have h8 := hg.1.2
  have h2 := hg.1.1
  have hok := whoS_ok hg
  refine bX7_lean_0 _ _ (is_ok hx.1 (by omega) h8 (fun w hw ea => ⟨fun _ => ?_, fun z => absurd z (by decide)⟩) (fun c => ⟨fun z => absurd rfl z, fun _ => hu (fun p hp e => nI_out h8 c hp e)⟩))
  have nu : ¬ unk1 g.1 a := fun z => z w hw ea
  subst ea
  refine in_ok (fun c1 c2 => ⟨fun _ => ?_, fun z => absurd z (by decide)⟩) (fun c => ⟨fun z => absurd rfl z, fun _ => ho nu (not_what c).1 (not_what c).2⟩)
  have hb := two_what c1 c2
  rw [show (8 : Int32) + nI w = nI (8 + w) from nI_add 8 w, nI_clamp (show 8 + w < 2 ^ 31 by omega)]
  refine findPartsM hg hx (fun F hF => ⟨vp_in_nI (by omega) (by decide), ?_⟩)
  have hs : SR S (sA S 30 F) := SR.A (by decide)
  have hx1 := hx.sr hs
  rw [show (sA S 30 F).2.2.1 30 (8 + w) = nI (labS (whoS g) (8 + w)) from hF (8 + w) (by omega)]
  refine sizeOfM (S := sA S 30 F) hF (labS_lt (by omega)) ?_
  have szl := szS_le (whoS g) (labS (whoS g) (8 + w))
  rw [show (1 : Int32) = nI 1 from rfl, nI_leI (by omega) (by decide)]
  have sr := szS_root hok (labS_lt (m := whoS g) (show 8 + w < 16 by omega)) (labS_lab (m := whoS g) (show 8 + w < 16 by omega))
  by_cases z : rtB (whoS g) (labS (whoS g) (8 + w)) = true
  · have rt := rt_lt hg z
    refine ⟨fun y => absurd ⟨rt, (rtB_t.mp z).2⟩ (sr.mp y), fun _ => solveM hg hx1 rt z (fun S1 hL s1 => ⟨fun _ => h1 w S1 _ hw rfl hb (hs.tr s1) (Or.inr ⟨z, Or.inl ⟨hL, rfl⟩⟩), fun y => absurd rfl y⟩) (fun S1 d N hc s1 q1 q2 q3 q4 q5 => ⟨fun y => absurd y (by decide), fun _ => ?_⟩)⟩
    have tz := tdB_t.mpr (lab_tie (g := g) (z := 8 + w) (by omega))
    have bz := q3 (8 + w) (by omega) tz
    rw [q5 (8 + w) (by omega) tz]
    exact toldM q4 q1.1 (by omega) (by omega) (by omega) (h1 w S1 _ hw rfl hb (hs.tr s1) (Or.inr ⟨z, Or.inr ⟨hc, d, N, q1, rfl⟩⟩))
  · refine ⟨fun _ => h1 w _ _ hw rfl hb hs (Or.inl ⟨z, rfl⟩), fun y => absurd (sr.mpr (fun x => z (rtB_t.mpr ⟨labS_lab (by omega), x.2⟩))) y⟩
theorem left_B {v d a b : Int} (v1 : -1 ≤ v) (v2 : v ≤ 100) (d1 : 0 < d) (d2 : d ≤ 200000000) (a1 : -10000000000000 ≤ a) (a2 : a ≤ 10000000000000) (b1 : -10000000000000 ≤ b) (b2 : b ≤ 10000000000000) : -9223372036854775807 ≤ v * d - a - b ∧ v * d - a - b ≤ 9223372036854775807 := by
  have e1 := Int.mul_le_mul_of_nonneg_right v1 (Int.le_of_lt d1)
  have e2 := Int.mul_le_mul_of_nonneg_right v2 (Int.le_of_lt d1)
  omega
theorem leftX {P : Int64 → St → Prop} {S : St} {g : Sg} (hg : Wf g) (hx : XB g S) (hp : XP Sol g S) {a b c : Int32} (h1 : ∀ p w S1 v, p < g.1 → w < g.1 → a = nI p → b = nI w → (c = 0 ∨ c = 1) → SameP S S1 → XPf Sol g S1 → AnsF g p w c v → P v S1) (hu : (unk1 g.1 a ∨ unk1 g.1 b) → P (-1001) S) (ho : ¬ (unk1 g.1 a ∨ unk1 g.1 b) → c ≠ 0 → c ≠ 1 → P (-1002) S) : tX6_left a b c S P := by
  have h8 := hg.1.2
  refine bX6_left_0 _ _ _ (holds_ok hx.1 h8 (fun p hp' ea => ⟨fun z => absurd z (by decide), fun _ => ?_⟩) (fun e => ⟨fun _ => hu (Or.inl (fun p hp e' => nI_out h8 e hp e')), fun z => absurd rfl z⟩))
  refine holds_ok hx.1 h8 (fun w hw eb => ⟨fun _ => ?_, fun z => absurd z (by decide)⟩) (fun e => ⟨fun z => absurd rfl z, fun _ => hu (Or.inr (fun p hp e' => nI_out h8 e hp e'))⟩)
  have nu : ¬ (unk1 g.1 a ∨ unk1 g.1 b) := fun z => z.elim (fun z => z p hp' ea) (fun z => z w hw eb)
  subst ea
  subst eb
  rw [nI_clamp (show p < 2 ^ 31 by omega), nI_clamp (show w < 2 ^ 31 by omega)]
  have e2 : S.2.2.1 (2 + p) w = g.2.2.2.1 p w := hx.2.2.2.1 p w (by omega) (by omega)
  rw [e2]
  have body : (c = 0 ∨ c = 1) → tX4_ofWork (nI w) S (fun r8 S7 => ((g.2.2.2.1 p w = -1 → P (-1003) S7) ∧ (¬ g.2.2.2.1 p w = -1 → ((r8 = -1 → P (-1003) S7) ∧ (¬ r8 = -1 → tX4_isTold r8 S7 (fun r10 S9 => ((¬ r10 = 0 → vp_in r8 8 ∧ tX6_inLeastTerms ((((g.2.2.2.1 p w).toInt64 * S9.2.2.2 0 r8.toNatClampNeg) - S9.2.2.2 1 w) - S9.2.2.2 2 p) (S9.2.2.2 0 r8.toNatClampNeg) c S9 (fun r13 S12 => P r13 S12)) ∧ (r10 = 0 → P (-1003) S9)))))))) := fun hb => by
    refine bX4_ofWork_0 _ (refreshP hg hx hp (fun S1 hs hf => whichHas_34 hg hf hw ?_))
    have hx1 := hx.sameP hs
    refine ⟨fun m => h1 p w S1 _ hp' hw rfl rfl hb hs hf (Or.inl ⟨m, rfl⟩), fun m => ?_⟩
    have t := mk_tie hg hp' hw m
    have z := t.1
    have e : pcW g w = some (rtc (whoS g) (labS (whoS g) w)) := if_neg z
    have rt := root_w (whoS_ok hg) hw z
    have rl := rtc_le (whoS g) (labS (whoS g) w)
    rw [e]
    show (nI (rtc (whoS g) (labS (whoS g) w)) = -1 → _) ∧ (¬ nI (rtc (whoS g) (labS (whoS g) w)) = -1 → _)
    refine ⟨fun y => absurd y (nI_m1 (by omega)), fun _ => isToldX hg hx1 hf rt.1 rt.2 (fun hL => ⟨fun y => absurd rfl y, fun _ => h1 p w S1 _ hp' hw rfl rfl hb hs hf (Or.inr ⟨m, Or.inl ⟨hL, rfl⟩⟩)⟩) (fun S5 hs5 s5 f5 o5 => ⟨fun _ => ⟨vp_in_nI (by omega) (by decide), ?_⟩, fun y => absurd y (by decide)⟩)⟩
    obtain ⟨d, N, q1, q2, q3, q4, q5, q6⟩ := o5
    show tX6_inLeastTerms ((((g.2.2.2.1 p w).toInt64 * S5.2.2.2 0 (nI (rtc (whoS g) (labS (whoS g) w))).toNatClampNeg) - S5.2.2.2 1 w) - S5.2.2.2 2 p) (S5.2.2.2 0 (nI (rtc (whoS g) (labS (whoS g) w))).toNatClampNeg) c S5 _
    have tz := tdB_t.mpr (lab_tie (g := g) (z := w) (by omega))
    have tp := tdB_t.mpr t.2
    rw [nI_clamp (by omega), q4, q5 w (by omega) tz, q6 p (by omega) tp, i_toI64, lI_mul, lI_sub, lI_sub]
    have bz := q3 w (by omega) tz
    have bp := q3 (8 + p) (by omega) tp
    have mm := hg.2.2.2.2.1 p w
    have lb := left_B mm.1 mm.2 q1.1 (by omega) (show -10000000000000 ≤ N w by omega) (show N w ≤ 10000000000000 by omega) (show -10000000000000 ≤ N (8 + p) by omega) (show N (8 + p) ≤ 10000000000000 by omega)
    exact leastX q1.1 (by omega) lb.1 lb.2 (h1 p w S5 _ hp' hw rfl rfl hb (hs.tr s5) f5 (Or.inr ⟨m, Or.inr ⟨hs5, d, N, q1, rfl⟩⟩))
  refine ⟨fun e => ⟨ii hp' h8, ii hw h8, body (Or.inl e)⟩, fun e => ⟨fun e1 => ⟨ii hp' h8, ii hw h8, body (Or.inr e1)⟩, fun e1 => ho nu e e1⟩⟩
theorem leftM {P : Int64 → St → Prop} {S : St} {g : Sg} (hg : Wf g) (hx : MB g S) {a b c : Int32} (h1 : ∀ p w S1 v, p < g.1 → w < g.1 → a = nI p → b = nI w → (c = 0 ∨ c = 1) → SR S S1 → AnsF g p w c v → P v S1) (hu : (unk1 g.1 a ∨ unk1 g.1 b) → P (-1001) S) (ho : ¬ (unk1 g.1 a ∨ unk1 g.1 b) → c ≠ 0 → c ≠ 1 → P (-1002) S) : tX7_left a b c S P := by
  have h8 := hg.1.2
  have h2 := hg.1.1
  have hok := whoS_ok hg
  refine bX7_left_0 _ _ _ (is_ok hx.1 (by omega) h8 (fun p hp ea => ⟨fun z => absurd z (by decide), fun _ => ?_⟩) (fun e => ⟨fun _ => hu (Or.inl (fun p hp e' => nI_out h8 e hp e')), fun z => absurd rfl z⟩))
  refine is_ok hx.1 (by omega) h8 (fun w hw eb => ⟨fun _ => ?_, fun z => absurd z (by decide)⟩) (fun e => ⟨fun z => absurd rfl z, fun _ => hu (Or.inr (fun p hp e' => nI_out h8 e hp e'))⟩)
  have nu : ¬ (unk1 g.1 a ∨ unk1 g.1 b) := fun z => z.elim (fun z => z p hp ea) (fun z => z w hw eb)
  subst ea
  subst eb
  refine in_ok (fun c1 c2 => ⟨fun _ => ?_, fun z => absurd z (by decide)⟩) (fun e => ⟨fun z => absurd rfl z, fun _ => ho nu (not_what e).1 (not_what e).2⟩)
  have hb := two_what c1 c2
  rw [ix64 (by omega) (by omega), nI_clamp (show 8 * p + w < 2 ^ 31 by omega), hx.2.2.2.1 p w (by omega) (by omega), show (8 : Int32) + nI p = nI (8 + p) from nI_add 8 p, nI_clamp (show 8 + p < 2 ^ 31 by omega), nI_clamp (show w < 2 ^ 31 by omega)]
  refine ⟨vp_in_nI (by omega) (by decide), findPartsM hg hx (fun F hF => ?_)⟩
  have hs : SR S (sA S 30 F) := SR.A (by decide)
  have hx1 := hx.sr hs
  have mm := hg.2.2.2.2.1 p w
  rw [mk_neg mm]
  refine ⟨fun m => h1 p w _ _ hp hw rfl rfl hb hs (Or.inl ⟨m, rfl⟩), fun m => ⟨vp_in_nI (by omega) (by decide), ?_⟩⟩
  have t := mk_tie hg hp hw m
  have rt := root_w hok hw t.1
  rw [show (sA S 30 F).2.2.1 30 w = nI (labS (whoS g) w) from hF w (by omega)]
  refine solveM hg hx1 rt.1 rt.2 (fun S1 hL s1 => ⟨fun _ => h1 p w S1 _ hp hw rfl rfl hb (hs.tr s1) (Or.inr ⟨m, Or.inl ⟨hL, rfl⟩⟩), fun y => absurd rfl y⟩) (fun S1 d N hc s1 q1 q2 q3 q4 q5 => ⟨fun y => absurd y (by decide), fun _ => ⟨vp_in_nI (by omega) (by decide), ?_⟩⟩)
  have tz := tdB_t.mpr (lab_tie (g := g) (z := w) (by omega))
  have tp := tdB_t.mpr t.2
  have bz := q3 w (by omega) tz
  have bp := q3 (8 + p) (by omega) tp
  rw [q4, q5 w (by omega) tz, q5 (8 + p) (by omega) tp, i_toI64, lI_mul, lI_sub, lI_sub]
  have lb := left_B mm.1 mm.2 q1.1 q2 bz.1 bz.2 bp.1 bp.2
  exact toldM q4 q1.1 (by omega) lb.1 lb.2 (h1 p w S1 _ hp hw rfl rfl hb (hs.tr s1) (Or.inr ⟨m, Or.inr ⟨hc, d, N, q1, rfl⟩⟩))
