/-! ===== orders of the reference ===== -/
theorem turnsM {P : Int32 → St → Prop} {S : St} {g : Sg} (hg : Wf g) (hx : MB g S) {p a b : Nat} (hp : p < 8) (ha : a < 8) (hb : b < 8) (h : P (if turnB g.2.2.2.1 p a b then 1 else 0) S) : tX7_turns (nI p) (nI a) (nI b) S P := by
  refine bX7_turns_0 _ _ _ ?_
  rw [ix64 hp ha, ix64 hp hb, nI_clamp (by omega), nI_clamp (by omega), hx.2.2.2.1 p a hp ha, hx.2.2.2.1 p b hp hb]
  have oka := hg.2.2.2.2.1 p a
  have okb := hg.2.2.2.2.1 p b
  refine ⟨vp_in_nI (by omega) (by decide), ?_⟩
  unfold turnB at h
  refine ⟨fun c => ?_, fun c => ⟨vp_in_nI (by omega) (by decide), fun c2 => ?_, fun c2 => ⟨fun c3 => ?_, fun c3 => ?_⟩⟩⟩
  · rw [(mk_neg oka).mp c] at h
    simpa using h
  · have ea : ¬ g.2.2.2.1 p a = -1 := fun z => c ((mk_neg oka).mpr z)
    have := (mk_pos oka ea).1
    have : ¬ g.2.2.2.1 p a < g.2.2.2.1 p b := fun z => by
      have z1 := Int32.lt_iff_toInt_lt.mp z
      have z2 := Int32.lt_iff_toInt_lt.mp c2
      rw [show (0 : Int32).toInt = 0 from rfl] at z2
      omega
    simp only [this, decide_false, Bool.and_false, Bool.false_eq_true, if_false] at h
    exact h
  · have : ¬ g.2.2.2.1 p a < g.2.2.2.1 p b := fun z => by
      have z1 := Int32.lt_iff_toInt_lt.mp z
      have z2 := Int32.le_iff_toInt_le.mp c3
      omega
    simp only [this, decide_false, Bool.and_false, Bool.false_eq_true, if_false] at h
    exact h
  · have ea : ¬ g.2.2.2.1 p a = -1 := fun z => c ((mk_neg oka).mpr z)
    have : g.2.2.2.1 p a < g.2.2.2.1 p b := Int32.lt_iff_toInt_lt.mpr (by
      have z2 := mt Int32.le_iff_toInt_le.mpr c3
      omega)
    simp only [this, ea, decide_true, decide_false, Bool.not_false, Bool.and_true, if_true] at h
    exact h
theorem turnB_out {g : Sg} (hg : Wf g) {p a b : Nat} (h : g.1 ≤ a ∨ g.1 ≤ b) : turnB g.2.2.2.1 p a b = false := by
  rcases h with h | h
  · exact turnB_self hg (Or.inr (Or.inl h))
  · unfold turnB
    rw [hg.2.2.2.2.2.1 p b (fun z => by omega)]
    by_cases e : g.2.2.2.1 p a = -1
    · simp [e]
    · have := (mk_pos (hg.2.2.2.2.1 p a) e).1
      have : ¬ g.2.2.2.1 p a < -1 := fun z => by
        have z1 := Int32.lt_iff_toInt_lt.mp z
        rw [show (-1 : Int32).toInt = -1 from rfl] at z1
        omega
      simp [this]
/-- what quarrels is to hold when the pupils before p are counted, and p for the places before k -/
def qf (g : Sg) (wo : Option Nat) (p k j : Nat) : Nat := if j < k then qcn g.2.2.2.1 wo (j / 8) (j % 8) (p + 1) else qcn g.2.2.2.1 wo (j / 8) (j % 8) p
theorem nI_div8 {k : Nat} (h : k < 64) : nI k / 8 = nI (k / 8) := pk_div (d := 8) (by omega) (by decide) (by decide)
theorem nI_rem8 {k : Nat} (h : k < 64) : nI k - nI k / 8 * 8 = nI (k % 8) := pk_rem (d := 8) (by omega) (by decide) (by decide)
theorem MB.up {g : Sg} {S : St} (h : MB g S) {k : Nat} {f : Nat → Int32} (hk : 28 ≤ k) : MB g (sA S k f) := by
  obtain ⟨h1, h2, h3, h4, h5⟩ := h
  refine ⟨h1, ?_, ?_, ?_, ?_⟩
  · intro p q hp hq
    show va_up S.2.2.1 k f 24 _ = _
    rw [up_ne (by omega)]; exact h2 p q hp hq
  · intro j hj
    show va_up S.2.2.1 k f 25 _ = _
    rw [up_ne (by omega)]; exact h3 j hj
  · intro p w hp hw
    show va_up S.2.2.1 k f 26 _ = _
    rw [up_ne (by omega)]; exact h4 p w hp hw
  · intro w hw
    show va_up S.2.2.1 k f 27 _ = _
    rw [up_ne (by omega)]; exact h5 w hw
theorem quarrelsArr {P : St → Prop} {S : St} {g : Sg} (hg : Wf g) (hx : MB g S) {wo : Option Nat} (hw : ∀ k, wo = some k → k < 8) (h : ∀ F : Nat → Int32, (∀ j, j < 64 → F j = nI (qz g wo (j / 8) (j % 8))) → wX7_findOrder P 117 [.ref 47, .int (oI wo), .int 1, .retAddr 0, .retAddr 0, .retAddr 0] [] (sA (sA S 32 F) 33 (upd (S.2.2.1 33) 0 0))) : tX7_findOrder (oI wo) S P := by
  have h8 := hg.1.2
  refine bX7_findOrder_0 _ ?_
  -- pupils
  have pup : ∀ k p, p + k = g.1 → ∀ F : Nat → Int32, (∀ j, j < 64 → F j = nI (qcn g.2.2.2.1 wo (j / 8) (j % 8) p)) → wX7_findOrder P 23 [.ref 47, .int (oI wo), .int (nI p), .retAddr 0, .retAddr 0, .retAddr 0] [] (sA S 32 F) := by
    intro k
    induction k with
    | zero =>
      intro p hp F hF
      have e : p = g.1 := by omega
      subst e
      exact bX7_findOrder_23 _ _ ⟨fun _ => h F hF, fun c => absurd (by show S.1 8 ≤ _; rw [hx.1]; exact nI_le (Nat.le_refl _) (by omega)) c⟩
    | succ k ih =>
      intro p hp F hF
      have hpn : p < g.1 := by omega
      refine bX7_findOrder_23 _ _ ⟨fun c => absurd (show nI g.1 ≤ nI p from hx.1 ▸ c) (cnt_step hpn h8), fun _ => ?_⟩
      by_cases ew : wo = some p
      · refine bX7_findOrder_33 _ _ _ ⟨fun c => absurd c (by decide), fun _ => ⟨fun _ => ?_, fun c => absurd ((oI_eq hw (by omega)).mpr ew) c⟩⟩
        rw [nI_1]
        refine ih (p + 1) (by omega) F (fun j hj => ?_)
        rw [hF j hj]
        congr 1
        show _ = qcn _ _ _ _ p + _
        rw [if_neg (by simp [ew])]
        rfl
      · have inn : ∀ m k2, k2 + m = 64 → ∀ F : Nat → Int32, (∀ j, j < 64 → F j = nI (qf g wo p k2 j)) → wX7_findOrder P 33 [.ref 47, .int (oI wo), .int (nI p), .int (nI k2), .retAddr 0, .retAddr 0] [] (sA S 32 F) := by
          intro m
          induction m with
          | zero =>
            intro k2 hk F hF
            have e : k2 = 64 := by omega
            subst e
            refine bX7_findOrder_33 _ _ _ ⟨fun _ => ?_, fun c => absurd (by decide) c⟩
            rw [nI_1]
            refine ih (p + 1) (by omega) F (fun j hj => ?_)
            rw [hF j hj, qf, if_pos hj]
          | succ m ihm =>
            intro k2 hk F hF
            have hk2 : k2 < 64 := by omega
            refine bX7_findOrder_33 _ _ _ ⟨fun c => absurd c (nI_ge (a := k2) (b := 64) hk2 (by decide)), fun _ => ⟨fun c => absurd ((oI_eq hw (by omega)).mp c) ew, fun _ => ⟨vp_in_nI hk2 (by decide), ?_⟩⟩⟩
            rw [nI_rem8 hk2, nI_div8 hk2, nI_1, nI_clamp (by omega)]
            have hFk : F k2 = nI (qcn g.2.2.2.1 wo (k2 / 8) (k2 % 8) p) := by rw [hF k2 hk2, qf, if_neg (by omega)]
            have fin : ∀ (v : Int32), v = nI (qcn g.2.2.2.1 wo (k2 / 8) (k2 % 8) (p + 1)) → wX7_findOrder P 33 [.ref 47, .int (oI wo), .int (nI p), .int (nI (k2 + 1)), .retAddr 0, .retAddr 0] [] (sA (sA S 32 F) 32 (upd F k2 v)) := by
              intro v hv
              rw [sA_same]
              refine ihm (k2 + 1) (by omega) _ (fun j hj => ?_)
              by_cases e : j = k2
              · subst e
                rw [upd_eq, hv, qf, if_pos (by omega)]
              · rw [upd_ne e, hF j hj, qf, qf]
                by_cases z : j < k2
                · rw [if_pos z, if_pos (by omega)]
                · rw [if_neg z, if_neg (by omega)]
            have e0 : (sA S 32 F).2.2.1 32 k2 + 0 = nI (qcn g.2.2.2.1 wo (k2 / 8) (k2 % 8) p) := by
              show F k2 + 0 = _
              rw [hFk]
              exact Int32.add_zero _
            have outv : (g.1 ≤ k2 / 8 ∨ g.1 ≤ k2 % 8) → (sA S 32 F).2.2.1 32 k2 + 0 = nI (qcn g.2.2.2.1 wo (k2 / 8) (k2 % 8) (p + 1)) := fun z => by
              rw [e0]
              congr 1
              show _ = qcn _ _ _ _ p + _
              rw [turnB_out hg z]
              simp
            have hx2 : MB g (sA S 32 F) := hx.up (by decide)
            refine ⟨fun c => fin _ (outv (Or.inl ?_)), fun c => ⟨fun c2 => fin _ (outv (Or.inr ?_)), fun c2 => ?_⟩⟩
            · rw [hx2.1] at c
              exact (nI_leI (by omega) (by omega)).mp c
            · rw [hx2.1] at c2
              exact (nI_leI (by omega) (by omega)).mp c2
            · refine turnsM hg hx2 (by omega) (by omega) (by omega) ?_
              cases et : turnB g.2.2.2.1 p (k2 / 8) (k2 % 8) with
              | false =>
                refine ⟨fun _ => fin _ ?_, fun z => absurd rfl z⟩
                rw [e0]
                congr 1
                show _ = qcn _ _ _ _ p + _
                rw [et]
                simp
              | true =>
                refine ⟨fun z => absurd z (by decide), fun _ => fin _ ?_⟩
                show F k2 + 1 = _
                rw [hFk, nI_1]
                congr 1
                show _ = qcn _ _ _ _ p + _
                rw [if_pos (by simp [et, ew])]
        exact inn 64 0 (by omega) F (fun j hj => by rw [qf, if_neg (by omega)]; exact hF j hj)
  -- the row of zeros
  have zer : ∀ k2 m, m + k2 = 64 → wX7_findOrder P 2 [.ref 47, .int (oI wo), .int (nI m), .retAddr 0, .retAddr 0, .retAddr 0] [] (sA S 32 (wfill (S.2.2.1 32) m 0)) := by
    intro k2
    induction k2 with
    | zero =>
      intro m hm
      have e : m = 64 := by omega
      subst e
      refine bX7_findOrder_2 _ _ ⟨fun _ => ?_, fun c => absurd (by decide) c⟩
      refine pup g.1 0 (by omega) _ (fun j hj => ?_)
      rw [wfill, if_pos hj]
      rfl
    | succ k2 ih =>
      intro m hm
      have hm2 : m < 64 := by omega
      refine bX7_findOrder_2 _ _ ⟨fun c => absurd c (nI_ge (a := m) (b := 64) hm2 (by decide)), fun _ => ⟨vp_in_nI hm2 (by decide), ?_⟩⟩
      rw [nI_1, nI_clamp (by omega)]
      show wX7_findOrder P 2 _ _ (sA (sA S 32 (wfill (S.2.2.1 32) m 0)) 32 (upd (wfill (S.2.2.1 32) m 0) m 0))
      rw [sA_same, wfill_succ]
      exact ih (m + 1) (by omega)
  have hz := zer 64 0 (by omega)
  rw [wfill_0, sA_self] at hz
  exact hz
def QM (g : Sg) (wo : Option Nat) (S : St) (m : Nat) : Prop := (∀ j, j < 64 → S.2.2.1 32 j = nI (qz g wo (j / 8) (j % 8))) ∧ ∀ r, r < m → S.2.2.1 33 r = nI (ls (qz g wo) g.1 r)
theorem costM {P : Int32 → St → Prop} {S : St} {g : Sg} (hg : Wf g) (hx : MB g S) {wo : Option Nat} {w r m : Nat} (hw : w < g.1) (hr : r < 256) (hm : r < m) (hq : QM g wo S m) (h : P (nI (cost (qz g wo) g.1 (ls (qz g wo) g.1) w r)) S) : tX7_cost (nI w) (nI r) S P := by
  have h8 := hg.1.2
  refine bX7_cost_0 _ _ ?_
  refine loop_dn (fun v => wX7_cost P 5 [.ref 47, .int (nI w), .int (nI r), .int (nI (csum (qz g wo w) r v)), .int (nI v)] [] S) g.1 (fun v hv ih => ?_) ?_
  · refine bX7_cost_5 _ _ _ _ ⟨fun c => absurd (hx.1 ▸ c) (cnt_step hv h8), fun _ => ⟨fun c => ?_, fun c => ?_⟩⟩
    · rw [bit_1 (by omega) (by omega)] at c
      have : r.testBit v = false := by cases z : r.testBit v with | false => rfl | true => exact absurd z c
      rw [nI_1, show nI (csum (qz g wo w) r v) + 0 = nI (csum (qz g wo w) r v) from Int32.add_zero _]
      have e : csum (qz g wo w) r (v + 1) = csum (qz g wo w) r v := by
        show csum (qz g wo w) r v + _ = _
        rw [this]; simp
      rw [e] at ih
      exact ih
    · rw [bit_1 (by omega) (by omega)] at c
      rw [ix64 (by omega) (by omega)]
      refine ⟨vp_in_nI (by omega) (by decide), ?_⟩
      rw [nI_1, nI_clamp (by omega), hq.1 _ (by omega), show (8 * w + v) / 8 = w by omega, show (8 * w + v) % 8 = v by omega, nI_add]
      have e : csum (qz g wo w) r (v + 1) = csum (qz g wo w) r v + qz g wo w v := by
        show csum (qz g wo w) r v + _ = _
        rw [c]; simp
      rw [e] at ih
      exact ih
  · refine bX7_cost_5 _ _ _ _ ⟨fun _ => ⟨vp_in_nI hr (by decide), ?_⟩, fun c => absurd (by rw [hx.1]; exact nI_le (Nat.le_refl _) (by omega)) c⟩
    rw [nI_clamp (by omega), hq.2 r hm, nI_add]
    exact h
theorem findOrderM {P : St → Prop} {S : St} {g : Sg} (hg : Wf g) (hx : MB g S) {wo : Option Nat} (hw : ∀ k, wo = some k → k < 8) (h : ∀ F L Pl : Nat → Int32, (∀ r, r < 2 ^ g.1 → L r = nI (ls (qz g wo) g.1 r)) → (∀ j, j < g.1 → Pl (rowS (qz g wo) g.1 j) = nI j) → P (sA (sA (sA S 32 F) 33 L) 34 Pl)) : tX7_findOrder (oI wo) S P := by
  have h8 := hg.1.2
  have hp8 := pow8 h8
  have hpp := p2_pos g.1
  have hq8 := qz_le hg wo
  refine quarrelsArr hg hx hw (fun F hF => ?_)
  -- places
  have plc : ∀ L : Nat → Int32, (∀ r, r < 2 ^ g.1 → L r = nI (ls (qz g wo) g.1 r)) → ∀ k i, i + k = g.1 → ∀ Pl : Nat → Int32, (∀ j, j < i → Pl (rowS (qz g wo) g.1 j) = nI j) → wX7_findOrder P 236 [.ref 47, .int (oI wo), .int (nI (rst (qz g wo) g.1 i)), .int (nI i), .retAddr 0, .retAddr 0] [] (sA (sA (sA S 32 F) 33 L) 34 Pl) := by
    intro L hL k
    induction k with
    | zero =>
      intro i hi Pl hPl
      have e : i = g.1 := by omega
      subst e
      exact bX7_findOrder_236 _ _ _ ⟨fun _ => h F L Pl hL hPl, fun c => absurd (by show S.1 8 ≤ _; rw [hx.1]; exact nI_le (Nat.le_refl _) (by omega)) c⟩
    | succ k ih =>
      intro i hi Pl hPl
      have hin : i < g.1 := by omega
      have hx3 : MB g (sA (sA (sA S 32 F) 33 L) 34 Pl) := ((hx.up (by decide)).up (by decide)).up (by decide)
      have hr := rst_lt (q := qz g wo) (n := g.1) i
      have hrp := rst_pos hq8 h8 hin
      have h256 : rst (qz g wo) g.1 i < 256 := by omega
      obtain ⟨b1, b2, b3, b4⟩ := bw_spec hq8 h8 hrp hr
      have hqm : QM g wo (sA (sA (sA S 32 F) 33 L) 34 Pl) (2 ^ g.1) := ⟨hF, hL⟩
      have hlsb := ls_bound hq8 h8 _ hr
      refine bX7_findOrder_236 _ _ _ ⟨fun c => absurd (hx3.1 ▸ c) (cnt_step hin h8), fun _ => ?_⟩
      refine loop_dn (fun w => wX7_findOrder P 247 [.ref 47, .int (oI wo), .int (nI (rst (qz g wo) g.1 i)), .int (nI i), .int (nI w), .retAddr 0] [] (sA (sA (sA S 32 F) 33 L) 34 Pl)) (bw (qz g wo) g.1 (rst (qz g wo) g.1 i)) (fun w hw2 ih2 => ?_) ?_
      · have hwn : w < g.1 := by omega
        have ha := b4 w hw2
        refine bX7_findOrder_247 _ _ _ _ ⟨fun c => ?_, fun c => ?_⟩
        · rw [nI_1]; exact ih2
        · have hb : (rst (qz g wo) g.1 i).testBit w = true := by
            cases z : (rst (qz g wo) g.1 i).testBit w with
            | true => rfl
            | false => exact absurd ((bit_0 (by omega) (by omega)).mpr z) c
          have hlt := nd_lt_self h256 hb
          rw [sh1 (by omega), nI_nd _ h256]
          refine costM hg hx3 hwn (by omega) (show _ < 2 ^ g.1 by omega) hqm ⟨vp_in_nI h256 (by decide), fun c2 => ?_, fun _ => by rw [nI_1]; exact ih2⟩
          rw [nI_clamp (by omega)] at c2
          have c3 : nI _ = nI _ := c2.trans (hqm.2 _ hr)
          rw [nI_eq ?_ (by omega)] at c3
          · unfold ahB at ha
            rw [hb, c3] at ha
            simp at ha
          · have := cost_bound hq8 h8 (w := w) (r := nd (rst (qz g wo) g.1 i) (2 ^ w)) (by omega)
            omega
      · refine bX7_findOrder_247 _ _ _ _ ⟨fun c => absurd ((bit_0 (by omega) (by omega)).mp c) (by rw [b2]; decide), fun c => ?_⟩
        have hlt := nd_lt_self h256 b2
        rw [sh1 (by omega), nI_nd _ h256]
        refine costM hg hx3 b1 (by omega) (show _ < 2 ^ g.1 by omega) hqm ⟨vp_in_nI h256 (by decide), fun _ => ⟨vp_in_nI (by omega) (by decide), ?_⟩, fun c2 => absurd ?_ c2⟩
        · rw [nI_1, nI_clamp (by omega)]
          show wX7_findOrder P 236 _ _ (sA (sA (sA (sA S 32 F) 33 L) 34 Pl) 34 (upd Pl (bw (qz g wo) g.1 (rst (qz g wo) g.1 i)) (nI i)))
          rw [sA_same]
          refine ih (i + 1) (by omega) _ (fun j hj => ?_)
          by_cases e : j = i
          · subst e
            show upd Pl (rowS (qz g wo) g.1 j) (nI j) (rowS (qz g wo) g.1 j) = _
            rw [upd_eq]
          · show upd Pl (rowS (qz g wo) g.1 i) (nI i) (rowS (qz g wo) g.1 j) = nI j
            rw [upd_ne (fun z => e (row_inj hq8 h8 (by omega) hin z))]
            exact hPl j (by omega)
        · rw [nI_clamp (by omega), b3]
          exact (hqm.2 _ hr).symm
  -- least
  have key : ∀ k s, s + k = 2 ^ g.1 → 0 < s → ∀ L : Nat → Int32, (∀ r, r < s → L r = nI (ls (qz g wo) g.1 r)) → wX7_findOrder P 117 [.ref 47, .int (oI wo), .int (nI s), .retAddr 0, .retAddr 0, .retAddr 0] [] (sA (sA S 32 F) 33 L) := by
    intro k
    induction k with
    | zero =>
      intro s hs h0 L hL
      have e : s = 2 ^ g.1 := by omega
      subst e
      have hx2 : MB g (sA (sA S 32 F) 33 L) := (hx.up (by decide)).up (by decide)
      refine bX7_findOrder_117 _ _ ?_
      rw [hx2.1, sh1 h8, sub1 hpp]
      refine ⟨fun _ => ?_, fun c => absurd (nI_le (Nat.le_refl _) (by omega)) c⟩
      have hp := plc L hL g.1 0 (by omega) ((sA (sA S 32 F) 33 L).2.2.1 34) (fun j hj => by omega)
      rw [sA_self] at hp
      exact hp
    | succ k ih =>
      intro s hs h0 L hL
      have hs2 : s < 2 ^ g.1 := by omega
      have h256 : s < 256 := by omega
      have hx2 : ∀ L, MB g (sA (sA S 32 F) 33 L) := fun L => (hx.up (by decide)).up (by decide)
      refine bX7_findOrder_117 _ _ ?_
      rw [(hx2 L).1, sh1 h8]
      refine ⟨fun c => absurd c (nI_ge hs2 (by omega)), fun _ => ⟨vp_in_nI h256 (by decide), ?_⟩⟩
      rw [nI_clamp (by omega)]
      show wX7_findOrder P 137 _ _ (sA (sA (sA S 32 F) 33 L) 33 (upd L s 1000000))
      rw [sA_same]
      have inner : ∀ m w, w + m = g.1 → ∀ L : Nat → Int32, (∀ r, r < s → L r = nI (ls (qz g wo) g.1 r)) → L s = nI (bestX (qz g wo) g.1 (ls (qz g wo) g.1) 1000000 s w) → wX7_findOrder P 137 [.ref 47, .int (oI wo), .int (nI s), .int (nI w), .retAddr 0, .retAddr 0] [] (sA (sA S 32 F) 33 L) := by
        intro m
        induction m with
        | zero =>
          intro w hw2 L hL hLs
          have e : w = g.1 := by omega
          subst e
          refine bX7_findOrder_137 _ _ _ ⟨fun _ => ?_, fun c => absurd (by rw [(hx2 L).1]; exact nI_le (Nat.le_refl _) (by omega)) c⟩
          rw [nI_1]
          refine ih (s + 1) (by omega) (by omega) L (fun r hr => ?_)
          by_cases e : r = s
          · subst e
            rw [hLs, ls_s _ _ h0 h256]
          · exact hL r (by omega)
        | succ m ihm =>
          intro w hw2 L hL hLs
          have hwn : w < g.1 := by omega
          refine bX7_findOrder_137 _ _ _ ⟨fun c => absurd ((hx2 L).1 ▸ c) (cnt_step hwn h8), fun _ => ?_⟩
          rw [nI_1, nI_clamp (by omega), sh1 (by omega), nI_nd _ h256]
          have stay : (sA (sA (sA S 32 F) 33 L) 33 (upd ((sA (sA S 32 F) 33 L).2.2.1 33) s ((sA (sA S 32 F) 33 L).2.2.1 33 s))) = sA (sA S 32 F) 33 L := by
            show sA (sA (sA S 32 F) 33 L) 33 (upd L s (L s)) = _
            rw [sA_same]
            congr 1
            funext j
            by_cases e : j = s
            · subst e; rw [upd_eq]
            · rw [upd_ne e]
          rw [stay]
          refine ⟨fun c => ⟨vp_in_nI h256 (by decide), ?_⟩, fun c => ?_⟩
          · rw [bit_1 (by omega) (by omega)] at c
            have hb : s.testBit w = false := by cases z : s.testBit w with | false => rfl | true => exact absurd z c
            exact ihm (w + 1) (by omega) L hL (by rw [hLs, bestX_f hb])
          · rw [bit_1 (by omega) (by omega)] at c
            have hlt := nd_lt_self h256 c
            have hc := cost_bound hq8 h8 (w := w) (r := nd s (2 ^ w)) (Nat.lt_trans hlt hs2)
            have hbb : bestX (qz g wo) g.1 (ls (qz g wo) g.1) 1000000 s w < 2 ^ 31 := by
              have := (bestX_min (q := qz g wo) (n := g.1) (L := ls (qz g wo) g.1) (init := 1000000) (s := s) w).2.1
              omega
            refine costM hg (hx2 L) hwn (by omega) hlt ⟨hF, hL⟩ ⟨vp_in_nI h256 (by decide), fun c2 => ?_, fun c2 => ?_⟩
            · rw [stay]
              have c3 := c2
              rw [show (sA (sA S 32 F) 33 L).2.2.1 33 s = L s from rfl, hLs] at c3
              rw [nI_leI hbb (by omega)] at c3
              exact ihm (w + 1) (by omega) L hL (by rw [hLs, bestX_t c, if_neg (by omega)])
            · have c3 := c2
              rw [show (sA (sA S 32 F) 33 L).2.2.1 33 s = L s from rfl, hLs] at c3
              rw [nI_leI hbb (by omega)] at c3
              refine costM hg (hx2 L) hwn (by omega) hlt ⟨hF, hL⟩ ?_
              show wX7_findOrder P 137 _ _ (sA (sA (sA S 32 F) 33 L) 33 (upd L s (nI _)))
              rw [sA_same]
              refine ihm (w + 1) (by omega) _ (fun r hr => ?_) ?_
              · rw [upd_ne (by omega)]; exact hL r hr
              · rw [upd_eq, bestX_t c, if_pos (by omega)]
      refine inner g.1 0 (by omega) _ (fun r hr => ?_) ?_
      · rw [upd_ne (by omega)]; exact hL r hr
      · rw [upd_eq]; rfl
  refine key (2 ^ g.1 - 1) 1 (by omega) (by decide) _ (fun r hr => ?_)
  have e : r = 0 := by omega
  subst e
  rw [upd_eq]
  rfl
