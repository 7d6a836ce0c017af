/-! ===== both programs' numbers are the worths and leans ===== -/
/-- the slots are the unknown nodes, but perhaps one pupil -/
def Cover (g : Sg) (r k : Nat) (nd : Nat → Nat) (sk : Nat) : Prop := (∀ z, z < 16 → Tied (whoS g) r z → z ≠ sk → (8 ≤ z ∨ g.2.2.2.2 z = -1) → ∃ j, j < k ∧ nd j = z) ∧ ∀ j, j < k → nd j ≠ sk ∧ (nd j < 8 → g.2.2.2.2 (nd j) = -1)
theorem eg_off {g : Sg} {r w p : Nat} (hw : w < 8) (hp : p < 8) (h : tdB (whoS g) r w = false ∨ tdB (whoS g) r (8 + p) = false) (x : Int) : ind (eg g r w p) x = 0 := by
  unfold ind
  refine if_neg (fun c => ?_)
  have := eg_P hw hp c
  rcases h with h | h
  · rw [this.1] at h; exact absurd h (by decide)
  · rw [this.2] at h; exact absurd h (by decide)
theorem td_cases (g : Sg) (r z : Nat) : tdB (whoS g) r z = true ∨ tdB (whoS g) r z = false := by
  cases tdB (whoS g) r z with
  | true => exact Or.inl rfl
  | false => exact Or.inr rfl
theorem pu_isum (g : Sg) (r : Nat) (s : Int) : isum (fun p => ind (tdB (whoS g) r (8 + p)) s) 8 = s * nPu g r := by
  unfold nPu
  rw [← isum_nat, ← isum_mul]
  refine isum_congr (fun p _ => ?_)
  rcases td_cases g r (8 + p) with t | t
  · rw [t]; unfold ind b2; simp
  · rw [t]; unfold ind b2; simp
theorem nsol_all {g : Sg} {r k : Nat} {sm : Bool} {nd : Nat → Nat} (h : Sys k 65 (sC g r sm k nd)) (hs : Slots g r k nd) (hcv : Cover g r k nd 16) (hb : 1 ≤ nPu g r) (hsm : sm = true ↔ ∀ w, w < 8 → tdB (whoS g) r w = true → g.2.2.2.2 w = -1) : NSol g r (sD g r sm k nd) (sN g r sm k nd) := by
  obtain ⟨cv1, cv2⟩ := hcv
  have rows : ∀ w, w < 8 → (tdB (whoS g) r w = true → g.2.2.2.2 w = -1) → isum (fun p => ind (eg g r w p) (rsd g (sD g r sm k nd) (sN g r sm k nd) w p)) 8 = 0 := fun w hw hn => by
    rcases td_cases g r w with t | t
    · obtain ⟨i, hi, e⟩ := cv1 w (by omega) (tdB_t.mp t) (by omega) (Or.inr (hn t))
      exact row_eq h hi hw e
    · exact isum_zero (fun p hp => eg_off hw hp (Or.inl t) _)
  have cols : ∀ p, p < 8 → isum (fun w => ind (eg g r w p) (rsd g (sD g r sm k nd) (sN g r sm k nd) w p)) 8 = ind (tdB (whoS g) r (8 + p)) (ind sm (isum (fun p => ind (tdB (whoS g) r (8 + p)) (sN g r sm k nd (8 + p))) 8)) := fun p hp => by
    rcases td_cases g r (8 + p) with t | t
    · obtain ⟨i, hi, e⟩ := cv1 (8 + p) (by omega) (tdB_t.mp t) (by omega) (Or.inl (by omega))
      rw [col_eq h hs hi hp e, t]
      rfl
    · rw [t, isum_zero (fun w hw => eg_off hw hp (Or.inr t) _)]
      rfl
  -- the sum of the leans is 0, where it is asked for
  have sum0 : ind sm (isum (fun p => ind (tdB (whoS g) r (8 + p)) (sN g r sm k nd (8 + p))) 8) = 0 := by
    by_cases c : sm = true
    · have all : isum (fun p => isum (fun w => ind (eg g r w p) (rsd g (sD g r sm k nd) (sN g r sm k nd) w p)) 8) 8 = 0 := by
        rw [isum_comm (fun p w => ind (eg g r w p) (rsd g (sD g r sm k nd) (sN g r sm k nd) w p)) 8 8]
        exact isum_zero (fun w hw => rows w hw (hsm.mp c w hw))
      rw [isum_congr (fun p hp => cols p hp), pu_isum] at all
      rcases Int.mul_eq_zero.mp all with z | z
      · exact z
      · omega
    · unfold ind
      rw [if_neg c]
  refine ⟨sys_d h (Nat.le_refl _), fun w hw t s => ?_, fun w hw t s => rows w hw (fun _ => s), fun p hp => ?_, fun nos => ?_⟩
  · unfold sN
    rw [nX_out (fun j hj e => ?_), if_pos hw, Int.zero_add]
    have := (cv2 j hj).2 (by omega)
    rw [e] at this
    exact s this
  · rw [cols p hp, sum0]
    unfold ind
    split <;> rfl
  · have c := hsm.mpr nos
    subst c
    exact sum0
/-- with one lean taken as 0, and all shifted after -/
theorem nsol_shift {g : Sg} {r k sk : Nat} {nd : Nat → Nat} (h : Sys k 65 (sC g r false k nd)) (hs : Slots g r k nd) (hsk : sk < 8) (hcv : Cover g r k nd (8 + sk)) (hb : 1 ≤ nPu g r) (nos : ∀ w, w < 8 → tdB (whoS g) r w = true → g.2.2.2.2 w = -1) {s : Int} (es : s = isum (fun p => ind (tdB (whoS g) r (8 + p)) (sN g r false k nd (8 + p))) 8) : NSol g r (sD g r false k nd * nPu g r) (fun z => sN g r false k nd z * nPu g r + if z < 8 then s else -s) := by
  obtain ⟨cv1, cv2⟩ := hcv
  have rows : ∀ w, w < 8 → isum (fun p => ind (eg g r w p) (rsd g (sD g r false k nd) (sN g r false k nd) w p)) 8 = 0 := fun w hw => by
    rcases td_cases g r w with t | t
    · obtain ⟨i, hi, e⟩ := cv1 w (by omega) (tdB_t.mp t) (by omega) (Or.inr (nos w hw t))
      exact row_eq h hi hw e
    · exact isum_zero (fun p hp => eg_off hw hp (Or.inl t) _)
  have colx : ∀ p, p < 8 → p ≠ sk → isum (fun w => ind (eg g r w p) (rsd g (sD g r false k nd) (sN g r false k nd) w p)) 8 = 0 := fun p hp hne => by
    rcases td_cases g r (8 + p) with t | t
    · obtain ⟨i, hi, e⟩ := cv1 (8 + p) (by omega) (tdB_t.mp t) (by omega) (Or.inl (by omega))
      rw [col_eq h hs hi hp e]
      rfl
    · exact isum_zero (fun w hw => eg_off hw hp (Or.inr t) _)
  have cols : ∀ p, p < 8 → isum (fun w => ind (eg g r w p) (rsd g (sD g r false k nd) (sN g r false k nd) w p)) 8 = 0 := fun p hp => by
    by_cases e : p = sk
    · have all : isum (fun p => isum (fun w => ind (eg g r w p) (rsd g (sD g r false k nd) (sN g r false k nd) w p)) 8) 8 = 0 := by
        rw [isum_comm (fun p w => ind (eg g r w p) (rsd g (sD g r false k nd) (sN g r false k nd) w p)) 8 8]
        exact isum_zero (fun w hw => rows w hw)
      rw [isum_one (j := sk) hsk (fun p hp hne => colx p hp hne)] at all
      rw [e]
      exact all
    · exact colx p hp e
  have rs : ∀ w p, w < 8 → rsd g (sD g r false k nd * nPu g r) (fun z => sN g r false k nd z * nPu g r + if z < 8 then s else -s) w p = nPu g r * rsd g (sD g r false k nd) (sN g r false k nd) w p := fun w p hw => by
    unfold rsd
    show (g.2.2.2.1 p w).toInt * (sD g r false k nd * nPu g r) - (sN g r false k nd w * nPu g r + if w < 8 then s else -s) - (sN g r false k nd (8 + p) * nPu g r + if 8 + p < 8 then s else -s) = _
    rw [if_pos hw, if_neg (show ¬ 8 + p < 8 by omega), Int.mul_sub, Int.mul_sub, ← Int.mul_assoc, Int.mul_comm (nPu g r : Int), Int.mul_comm (nPu g r : Int) (sN g r false k nd w), Int.mul_comm (nPu g r : Int) (sN g r false k nd (8 + p))]
    omega
  refine ⟨Int.mul_pos (sys_d h (Nat.le_refl _)) (by omega), fun w hw t q => absurd (nos w hw t) q, fun w hw t q => ?_, fun p hp => ?_, fun _ => ?_⟩
  · rw [isum_congr (f2 := fun p => (nPu g r : Int) * ind (eg g r w p) (rsd g (sD g r false k nd) (sN g r false k nd) w p)) (fun p _ => by rw [rs w p hw, ind_mul]), isum_mul, rows w hw, Int.mul_zero]
  · rw [isum_congr (f2 := fun w => (nPu g r : Int) * ind (eg g r w p) (rsd g (sD g r false k nd) (sN g r false k nd) w p)) (fun w hw => by rw [rs w p hw, ind_mul]), isum_mul, cols p hp, Int.mul_zero]
  · have e : isum (fun p => ind (tdB (whoS g) r (8 + p)) (sN g r false k nd (8 + p) * nPu g r + if 8 + p < 8 then s else -s)) 8 = (nPu g r : Int) * isum (fun p => ind (tdB (whoS g) r (8 + p)) (sN g r false k nd (8 + p))) 8 - isum (fun p => ind (tdB (whoS g) r (8 + p)) s) 8 := by
      rw [← isum_mul, ← isum_sub]
      refine isum_congr (fun p _ => ?_)
      rw [← ind_mul, ← ind_sub, if_neg (show ¬ 8 + p < 8 by omega), Int.mul_comm (nPu g r : Int)]
      rfl
    show isum (fun p => ind (tdB (whoS g) r (8 + p)) (sN g r false k nd (8 + p) * nPu g r + if 8 + p < 8 then s else -s)) 8 = 0
    rw [e, pu_isum, ← es, Int.mul_comm (nPu g r : Int)]
    omega
