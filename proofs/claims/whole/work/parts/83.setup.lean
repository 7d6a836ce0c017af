/-! ===== the reference sets its equations up ===== -/
theorem MC.eq {k m : Nat} {V V2 : Nat → Nat → Int} {S : St} (h : MC k V m S) (e : ∀ i j, i < k → j ≤ k → V i j = V2 i j) : MC k V2 m S := fun i j hi hm hj => by rw [h i j hi hm hj, e i j hi hj]
theorem addM {P : St → Prop} {S : St} {k a b : Nat} {x : Int} {V : Nat → Nat → Int} (hk : k ≤ 10) (ha : a < k) (hb : b ≤ k) (he : MC k V 0 S) (h : ∀ S1, FrB [14] S S1 → MC k (fun i j => V i j + if i = a ∧ j = b then x else 0) 0 S1 → P S1) : tX7_add (nI a) (nI (cl' k b)) (lI x) S P := by
  have cb := cl_lt hk hb
  refine bX7_add_0 _ _ _ ?_
  rw [ix11, nI_clamp (by omega)]
  refine ⟨vp_in_nI (by omega) (by decide), h _ (FrB.B (List.mem_singleton.mpr rfl)) (fun i j hi _ hj => ?_)⟩
  show vp_updL (S.2.2.2 14) (11 * a + cl' k b) _ (11 * i + cl' k j) = lI (V i j + if i = a ∧ j = b then x else 0)
  have cj := cl_lt hk hj
  by_cases c : i = a ∧ j = b
  · obtain ⟨c1, c2⟩ := c
    subst c1
    subst c2
    rw [updL_eq, he i j hi (Nat.zero_le _) hj, lI_add, if_pos ⟨rfl, rfl⟩]
  · rw [updL_ne (fun z => c ?_), he i j hi (Nat.zero_le _) hj, if_neg c, Int.add_zero]
    have e1 : i = a := by omega
    exact ⟨e1, cl_inj hk hj hb (by omega)⟩
theorem ndM_sl {g : Sg} {r sk z : Nat} (hz : z < 16) (hu : uB g r sk z = true) : slM g r sk z < kM g r sk ∧ ndM g r sk (slM g r sk z) = z := ⟨rkc_lt (pr := fun t => uB g r sk t) hu hz, tmS_at (pr := fun t => uB g r sk t) hz hu⟩
theorem ndM_u {g : Sg} {r sk a : Nat} (ha : a < kM g r sk) : uB g r sk (ndM g r sk a) = true := (tmS_spec (pr := fun t => uB g r sk t) ha).2.1
theorem ndM_iff {g : Sg} {r sk z a : Nat} (hz : z < 16) (hu : uB g r sk z = true) (ha : a < kM g r sk) : ndM g r sk a = z ↔ a = slM g r sk z := by
  have s := ndM_sl hz hu
  refine ⟨fun e => (slotsM g r sk).1.2 a _ ha s.1 (e.trans s.2.symm), fun e => by rw [e]; exact s.2⟩
theorem ndM_no {g : Sg} {r sk z a : Nat} (hu : ¬ uB g r sk z = true) (ha : a < kM g r sk) : ndM g r sk a ≠ z := fun e => hu (by rw [← e]; exact ndM_u ha)
noncomputable abbrev CM (g : Sg) (r sk : Nat) : Nat → Nat → Int := sC g r false (kM g r sk) (ndM g r sk)
theorem MB.frB {g : Sg} {L : List Nat} {S S1 : St} (h : MB g S) (f : FrB L S S1) : MB g S1 := by
  unfold MB at h ⊢
  rw [f.1, f.2.2.1]
  exact h
theorem L30.frB {g : Sg} {L : List Nat} {S S1 : St} (h : L30 g S) (f : FrB L S S1) : L30 g S1 := by
  unfold L30 at h ⊢
  rw [f.2.2.1]
  exact h
def A31 (g : Sg) (r sk : Nat) (S : St) : Prop := ∀ z, z < 16 → S.2.2.1 31 z = if uB g r sk z = true then nI (slM g r sk z) else -1
theorem A31.frB {g : Sg} {r sk : Nat} {L : List Nat} {S S1 : St} (h : A31 g r sk S) (f : FrB L S S1) : A31 g r sk S1 := by
  unfold A31 at h ⊢
  rw [f.2.2.1]
  exact h
theorem ge0_nI {s : Nat} (h : s < 2 ^ 31) : ((0 : Int32) ≤ nI s) = True := eq_true ((nI_leI (a := 0) (by decide) h).mpr (Nat.zero_le _))
theorem lt0_nI {s : Nat} (h : s < 2 ^ 31) : (nI s < (0 : Int32)) = False := eq_false (fun z => by have := (nI_ltI (b := 0) h (by decide)).mp z; omega)
theorem ge0_m1 : ((0 : Int32) ≤ -1) = False := eq_false (by decide)
theorem lt0_m1 : ((-1 : Int32) < 0) = True := eq_true (by decide)
theorem one_lI : (1 : Int64) = lI 1 := rfl
theorem two_adds {P : St → Prop} {S : St} {k a : Nat} {x : Int} {V : Nat → Nat → Int} (hk : k ≤ 10) (ha : a < k) (he : MC k V 0 S) (h : ∀ S1, FrB [14] S S1 → MC k (fun i j => V i j + (if i = a ∧ j = a then 1 else 0) + (if i = a ∧ j = k then x else 0)) 0 S1 → P S1) : tX7_add (nI a) (nI a) 1 S (fun S1 => tX7_add (nI a) 10 (lI x) S1 P) := by
  have e1 := addM (P := fun S1 => tX7_add (nI a) 10 (lI x) S1 P) (x := 1) hk ha (Nat.le_of_lt ha) he (fun S1 f1 m1 => by
    have e2 := addM (P := P) (x := x) hk ha (Nat.le_refl k) m1 (fun S2 f2 m2 => h S2 (f1.tr f2) m2)
    rw [show cl' k k = 10 from if_pos rfl] at e2
    exact e2)
  rw [cl_lo ha] at e1
  exact e1
theorem cross_adds {P : St → Prop} {S : St} {k a b : Nat} {V : Nat → Nat → Int} (hk : k ≤ 10) (ha : a < k) (hb : b < k) (he : MC k V 0 S) (h : ∀ S1, FrB [14] S S1 → MC k (fun i j => V i j + (if i = a ∧ j = b then 1 else 0) + (if i = b ∧ j = a then 1 else 0)) 0 S1 → P S1) : tX7_add (nI a) (nI b) 1 S (fun S1 => tX7_add (nI b) (nI a) 1 S1 P) := by
  have e1 := addM (P := fun S1 => tX7_add (nI b) (nI a) 1 S1 P) (x := 1) hk ha (Nat.le_of_lt hb) he (fun S1 f1 m1 => by
    have e2 := addM (P := P) (x := 1) hk hb (Nat.le_of_lt ha) m1 (fun S2 f2 m2 => h S2 (f1.tr f2) m2)
    rw [cl_lo ha] at e2
    exact e2)
  rw [cl_lo hb] at e1
  exact e1
theorem setUp33 {P : St → Prop} {S : St} {g : Sg} {r sk : Nat} (hg : Wf g) (hx : MB g S) (hl : L30 g S) (h31 : A31 g r sk S) (hsk : 8 ≤ sk) (hr : r < g.1) (hb : rtB (whoS g) r = true) (hk : kM g r sk ≤ 10) {w p : Nat} (hw : w < g.1) (hp : p < g.1) (he : MC (kM g r sk) (gA (8 * w + p) (CM g r sk)) 0 S) (h : ∀ S1, FrB [14] S S1 → MC (kM g r sk) (gA (8 * w + (p + 1)) (CM g r sk)) 0 S1 → wX7_setUp P 33 [.ref 47, .int (nI r), .int (nI w), .int (nI (p + 1)), .retAddr 0, .retAddr 0, .retAddr 0, .retAddr 0, .retAddr 0] [] S1) : wX7_setUp P 33 [.ref 47, .int (nI r), .int (nI w), .int (nI p), .retAddr 0, .retAddr 0, .retAddr 0, .retAddr 0, .retAddr 0] [] S := by
  have n8 := hg.1.2
  have hrl := (rtB_t.mp hb).1
  have td := lab_td hl (r := r) (z := w) (by omega) (by omega) hrl
  have mp := hg.2.2.2.2.1 p w
  have ms := hg.2.2.2.2.2.2.1 w
  have no : ¬ eg g r w p = true → wX7_setUp P 33 [.ref 47, .int (nI r), .int (nI w), .int (nI (p + 1)), .retAddr 0, .retAddr 0, .retAddr 0, .retAddr 0, .retAddr 0] [] S := fun ne => h S (FrB.rf _ _) (he.eq (fun a b _ _ => (gA_skip (m := 1) (fun e h1 h2 => by
    have : e = 8 * w + p := by omega
    rw [this]
    exact sC_no (by omega) (by omega) ne a)).symm))
  have e26 : S.2.2.1 26 (8 * p + w) = g.2.2.2.1 p w := hx.2.2.2.1 p w (by omega) (by omega)
  have e27 : S.2.2.1 27 w = g.2.2.2.2 w := hx.2.2.2.2 w (by omega)
  refine bX7_setUp_33 _ _ _ ⟨fun c => absurd (hx.1 ▸ c) (cnt_step hp n8), fun _ => ?_⟩
  rw [nI_1, ix64 (by omega) (by omega), nI_clamp (by omega), e26, nI_clamp (by omega)]
  refine ⟨vp_in_nI (by omega) (by decide), fun c => no (fun z => ?_), fun c => ⟨vp_in_nI (by omega) (by decide), fun t => no (fun z => ?_), fun t => ?_⟩⟩
  · unfold eg at z
    exact (whoS_bit.mp (Bool.and_eq_true _ _ ▸ z).1).2 ((mk_neg mp).mp c)
  · unfold eg at z
    exact t (td.mpr (Bool.and_eq_true _ _ ▸ z).2)
  · have hne : ¬ g.2.2.2.1 p w = -1 := fun z => c ((mk_neg mp).mpr z)
    have wb : (whoS g w).testBit p = true := whoS_bit.mpr ⟨hp, hne⟩
    have tw := tdB_t.mp (td.mp t)
    have he' : eg g r w p = true := by
      unfold eg
      rw [wb, td.mp t]
      rfl
    have tp : Tied (whoS g) r (8 + p) := tw.tr (Tied.wp (by omega) (by omega) wb)
    rw [show (8 : Int32) + nI p = nI (8 + p) from nI_add 8 p, nI_clamp (show 8 + p < 2 ^ 31 by omega)]
    refine ⟨vp_in_nI (by omega) (by decide), ?_⟩
    rw [h31 w (by omega), h31 (8 + p) (by omega)]
    have ek := sC_k (g := g) (r := r) (k := kM g r sk) (sm := false) (nd := ndM g r sk) (w := w) (p := p) (by omega) (by omega) he'
    have ea := fun {a : Nat} (ha : a < kM g r sk) => sC_e (g := g) (r := r) (k := kM g r sk) (sm := false) (nd := ndM g r sk) (w := w) (p := p) (by omega) (by omega) he' ha
    have stp : ∀ a b, gA (8 * w + (p + 1)) (CM g r sk) a b = gA (8 * w + p) (CM g r sk) a b + sC g r false (kM g r sk) (ndM g r sk) (8 * w + p) a * sC g r false (kM g r sk) (ndM g r sk) (8 * w + p) b := fun a b => rfl
    have ifP : ∀ {z : Nat}, z < 16 → uB g r sk z = true → ∀ a, a < kM g r sk → (if ndM g r sk a = z then (1 : Int) else 0) = if a = slM g r sk z then 1 else 0 := fun {z} hz up a ha => by
      by_cases c : a = slM g r sk z
      · rw [if_pos c, if_pos ((ndM_iff hz up ha).mpr c)]
      · rw [if_neg c, if_neg (fun z => c ((ndM_iff hz up ha).mp z))]
    unfold mkok at mp ms
    by_cases uw : uB g r sk w = true
    · have sw := ndM_sl (g := g) (r := r) (sk := sk) (z := w) (by omega) uw
      have st : g.2.2.2.2 w = -1 := by
        rcases (uB_t.mp uw).2.2 with z | z
        · omega
        · exact z
      have s0 : stf g w = 0 := if_pos st
      rw [s0, Int.sub_zero] at ek
      by_cases up : uB g r sk (8 + p) = true
      · have sp := ndM_sl (g := g) (r := r) (sk := sk) (z := 8 + p) (by omega) up
        have hne2 : slM g r sk w ≠ slM g r sk (8 + p) := fun z => by
          have := sw.2
          rw [z, sp.2] at this
          omega
        rw [if_pos uw, if_pos up]
        simp only [ge0_nI (show slM g r sk w < 2 ^ 31 by omega), lt0_nI (show slM g r sk w < 2 ^ 31 by omega), lt0_nI (show slM g r sk (8 + p) < 2 ^ 31 by omega), not_true, not_false_eq_true, true_implies, false_implies, and_true, true_and]
        rw [i_toI64, Int32.sub_zero]
        refine two_adds hk sw.1 he (fun S1 f1 m1 => two_adds hk sp.1 m1 (fun S2 f2 m2 => cross_adds hk sw.1 sp.1 m2 (fun S3 f3 m3 => h S3 ((f1.tr f2).tr f3) (m3.eq (fun a b ha hb' => ?_)))))
        rw [stp, sq_two sw.1 sp.1 hne2 hb', ea ha, ifP (by omega) uw a ha, ifP (by omega) up a ha]
        by_cases c2 : b < kM g r sk
        · rw [if_pos c2, ea c2, ifP (by omega) uw b c2, ifP (by omega) up b c2]
        · have : b = kM g r sk := by omega
          rw [if_neg c2, this, ek]
      · rw [if_pos uw, if_neg up]
        simp only [ge0_nI (show slM g r sk w < 2 ^ 31 by omega), lt0_nI (show slM g r sk w < 2 ^ 31 by omega), lt0_m1, not_true, not_false_eq_true, true_implies, false_implies, and_true, true_and]
        rw [i_toI64, Int32.sub_zero]
        refine two_adds hk sw.1 he (fun S1 f1 m1 => h S1 f1 (m1.eq (fun a b ha hb' => ?_)))
        rw [stp, sq_one sw.1 hb', ea ha, ifP (by omega) uw a ha, if_neg (ndM_no up ha), Int.add_zero]
        by_cases c2 : b < kM g r sk
        · rw [if_pos c2, ea c2, ifP (by omega) uw b c2, if_neg (ndM_no up c2), Int.add_zero]
        · have : b = kM g r sk := by omega
          rw [if_neg c2, this, ek]
    · have st : ¬ g.2.2.2.2 w = -1 := fun z => uw (uB_t.mpr ⟨tw, by omega, Or.inr z⟩)
      have s0 : stf g w = (g.2.2.2.2 w).toInt := if_neg st
      rw [s0] at ek
      by_cases up : uB g r sk (8 + p) = true
      · have sp := ndM_sl (g := g) (r := r) (sk := sk) (z := 8 + p) (by omega) up
        rw [if_neg uw, if_pos up]
        simp only [ge0_m1, lt0_m1, lt0_nI (show slM g r sk (8 + p) < 2 ^ 31 by omega), not_true, not_false_eq_true, true_implies, false_implies, and_true, true_and]
        refine ⟨vp_in_nI (by omega) (by decide), ?_⟩
        rw [i_toI64, e27, fb_subI (by omega) (by omega)]
        refine two_adds hk sp.1 he (fun S1 f1 m1 => h S1 f1 (m1.eq (fun a b ha hb' => ?_)))
        rw [stp, sq_one sp.1 hb', ea ha, if_neg (ndM_no uw ha), ifP (by omega) up a ha, Int.zero_add]
        by_cases c2 : b < kM g r sk
        · rw [if_pos c2, ea c2, if_neg (ndM_no uw c2), ifP (by omega) up b c2, Int.zero_add]
        · have : b = kM g r sk := by omega
          rw [if_neg c2, this, ek]
      · rw [if_neg uw, if_neg up]
        simp only [ge0_m1, lt0_m1, not_true, not_false_eq_true, true_implies, false_implies, and_true, true_and]
        refine ⟨vp_in_nI (by omega) (by decide), h S (FrB.rf _ _) (he.eq (fun a b ha hb' => ?_))⟩
        rw [stp, ea ha, if_neg (ndM_no uw ha), if_neg (ndM_no up ha)]
        show _ = _ + 0 * _
        rw [Int.zero_mul, Int.add_zero]
theorem zero2 {P : St → Prop} {S : St} {x1 : Int32} (h : ∀ F : Nat → Int64, (∀ z, z < 110 → F z = 0) → wX7_setUp P 23 [.ref 47, .int x1, .int 0, .retAddr 0, .retAddr 0, .retAddr 0, .retAddr 0, .retAddr 0, .retAddr 0] [] (sB S 14 F)) : wX7_setUp P 2 [.ref 47, .int x1, .int 0, .retAddr 0, .retAddr 0, .retAddr 0, .retAddr 0, .retAddr 0, .retAddr 0] [] S := by
  have key : ∀ m k, k + m = 110 → ∀ F : Nat → Int64, (∀ z, z < k → F z = 0) → wX7_setUp P 2 [.ref 47, .int x1, .int (nI k), .retAddr 0, .retAddr 0, .retAddr 0, .retAddr 0, .retAddr 0, .retAddr 0] [] (sB S 14 F) := by
    intro m
    induction m with
    | zero =>
      intro k hk F hF
      have e : k = 110 := by omega
      subst e
      exact bX7_setUp_2 _ _ ⟨fun _ => h F hF, fun c => absurd (show (110 : Int32) ≤ nI 110 by decide) c⟩
    | succ m ih =>
      intro k hk F hF
      refine bX7_setUp_2 _ _ ⟨fun c => absurd c (nI_ge (a := k) (b := 110) (by omega) (by decide)), fun _ => ⟨vp_in_nI (by omega) (by decide), ?_⟩⟩
      rw [nI_clamp (by omega), nI_1, sB_same]
      refine ih (k + 1) (by omega) _ (fun z hz => ?_)
      show vp_updL F k 0 z = 0
      by_cases c : z = k
      · subst c; exact updL_eq
      · rw [updL_ne c]; exact hF z (by omega)
  have h0 := key 110 0 (by omega) (S.2.2.2 14) (fun z hz => by omega)
  rw [sB_self] at h0
  exact h0
theorem setUpM {P : St → Prop} {S : St} {g : Sg} {r sk : Nat} (hg : Wf g) (hx : MB g S) (hl : L30 g S) (h31 : A31 g r sk S) (hsk : 8 ≤ sk) (hr : r < g.1) (hb : rtB (whoS g) r = true) (hk : kM g r sk ≤ 10) (h : ∀ S1, FrB [14] S S1 → MC (kM g r sk) (gA 65 (CM g r sk)) 0 S1 → P S1) : tX7_setUp (nI r) S P := by
  have n8 := hg.1.2
  refine bX7_setUp_0 _ (zero2 (fun F0 hF0 => ?_))
  have fr0 : FrB [14] S (sB S 14 F0) := FrB.B (List.mem_singleton.mpr rfl)
  have inner : ∀ w, w < g.1 → (∀ S1, FrB [14] S S1 → MC (kM g r sk) (gA (8 * (w + 1)) (CM g r sk)) 0 S1 → wX7_setUp P 23 [.ref 47, .int (nI r), .int (nI (w + 1)), .retAddr 0, .retAddr 0, .retAddr 0, .retAddr 0, .retAddr 0, .retAddr 0] [] S1) → ∀ m p, p + m = g.1 → ∀ S1, FrB [14] S S1 → MC (kM g r sk) (gA (8 * w + p) (CM g r sk)) 0 S1 → wX7_setUp P 33 [.ref 47, .int (nI r), .int (nI w), .int (nI p), .retAddr 0, .retAddr 0, .retAddr 0, .retAddr 0, .retAddr 0] [] S1 := by
    intro w hw out m
    induction m with
    | zero =>
      intro p hp S1 f1 m1
      have e : p = g.1 := by omega
      subst e
      have hx1 := hx.frB f1
      refine bX7_setUp_33 _ _ _ ⟨fun _ => ?_, fun c => absurd (by rw [hx1.1]; exact nI_le (Nat.le_refl _) (by omega)) c⟩
      rw [nI_1]
      refine out S1 f1 (m1.eq (fun a b ha hb' => ?_))
      rw [show 8 * (w + 1) = 8 * w + g.1 + (8 - g.1) by omega]
      refine (gA_skip (fun e h1 h2 => ?_)).symm
      rw [show e = 8 * w + (e - 8 * w) by omega]
      refine sC_no (by omega) (by omega) (fun z => ?_) a
      unfold eg at z
      have := (whoS_bit.mp (Bool.and_eq_true _ _ ▸ z).1).1
      omega
    | succ m ih =>
      intro p hp S1 f1 m1
      exact setUp33 hg (hx.frB f1) (hl.frB f1) (h31.frB f1) hsk hr hb hk hw (by omega) m1 (fun S2 f2 m2 => ih (p + 1) (by omega) S2 (f1.tr f2) m2)
  have outer : ∀ m w, w + m = g.1 → ∀ S1, FrB [14] S S1 → MC (kM g r sk) (gA (8 * w) (CM g r sk)) 0 S1 → wX7_setUp P 23 [.ref 47, .int (nI r), .int (nI w), .retAddr 0, .retAddr 0, .retAddr 0, .retAddr 0, .retAddr 0, .retAddr 0] [] S1 := by
    intro m
    induction m with
    | zero =>
      intro w hw S1 f1 m1
      have e : w = g.1 := by omega
      subst e
      have hx1 := hx.frB f1
      refine bX7_setUp_23 _ _ ⟨fun _ => h S1 f1 (m1.eq (fun a b ha hb' => ?_)), fun c => absurd (by rw [hx1.1]; exact nI_le (Nat.le_refl _) (by omega)) c⟩
      rw [show 65 = 8 * g.1 + (65 - 8 * g.1) by omega]
      refine (gA_skip (fun e h1 h2 => ?_)).symm
      by_cases e64 : e = 64
      · subst e64
        show sC g r false (kM g r sk) (ndM g r sk) 64 a = _
        unfold sC cN
        rw [if_pos ha, if_neg (by decide), if_neg (fun z => absurd z.1 (by decide))]
      · rw [show e = 8 * (e / 8) + e % 8 by omega]
        refine sC_no (by omega) (by omega) (fun z => ?_) a
        unfold eg at z
        have z1 := (Bool.and_eq_true _ _ ▸ z).1
        rw [(whoS_ok hg).2.1 (e / 8) (by omega), Nat.zero_testBit] at z1
        exact absurd z1 (by decide)
    | succ m ih =>
      intro w hw S1 f1 m1
      have hwn : w < g.1 := by omega
      have hx1 := hx.frB f1
      exact bX7_setUp_23 _ _ ⟨fun c => absurd (hx1.1 ▸ c) (cnt_step hwn n8), fun _ => inner w hwn (ih (w + 1) (by omega)) g.1 0 (by omega) S1 f1 m1⟩
  refine outer g.1 0 (by omega) _ fr0 (fun i j hi _ hj => ?_)
  have cj := cl_lt hk hj
  show F0 (11 * i + cl' (kM g r sk) j) = _
  rw [hF0 _ (by omega)]
  rfl
