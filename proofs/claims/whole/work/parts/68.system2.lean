/-! ===== the system of a piece: one for both programs ===== -/
noncomputable def eg (g : Sg) (r w p : Nat) : Bool := (whoS g w).testBit p && tdB (whoS g) r w
noncomputable def cN (g : Sg) (r : Nat) (sm : Bool) (e z : Nat) : Int := if e < 64 then (if eg g r (e / 8) (e % 8) = true then (if z = e / 8 then 1 else 0) + (if z = 8 + e % 8 then 1 else 0) else 0) else if sm = true ∧ 8 ≤ z ∧ tdB (whoS g) r z = true then 1 else 0
def stf (g : Sg) (w : Nat) : Int := if g.2.2.2.2 w = -1 then 0 else (g.2.2.2.2 w).toInt
noncomputable def rhs (g : Sg) (r e : Nat) : Int := if e < 64 then (if eg g r (e / 8) (e % 8) = true then (g.2.2.2.1 (e % 8) (e / 8)).toInt - stf g (e / 8) else 0) else 0
noncomputable def sC (g : Sg) (r : Nat) (sm : Bool) (k : Nat) (nd : Nat → Nat) (e j : Nat) : Int := if j < k then cN g r sm e (nd j) else if j = k then rhs g r e else 0
/-- slots: each of the unknown nodes once -/
def Slots (g : Sg) (r k : Nat) (nd : Nat → Nat) : Prop := (∀ j, j < k → nd j < 16 ∧ Tied (whoS g) r (nd j)) ∧ ∀ i j, i < k → j < k → nd i = nd j → i = j
def nX (k : Nat) (nd : Nat → Nat) (x : Nat → Int) (z : Nat) : Int := isum (fun j => if nd j = z then x j else 0) k
theorem nX_at {k : Nat} {nd : Nat → Nat} {x : Nat → Int} (hi : ∀ i j, i < k → j < k → nd i = nd j → i = j) {i : Nat} (h : i < k) : nX k nd x (nd i) = x i := by
  unfold nX
  rw [isum_one (j := i) h (fun j hj hne => if_neg (fun e => hne (hi j i hj h e)))]
  exact if_pos rfl
theorem nX_out {k : Nat} {nd : Nat → Nat} {x : Nat → Int} {z : Nat} (h : ∀ j, j < k → nd j ≠ z) : nX k nd x z = 0 := isum_zero (fun j hj => if_neg (h j hj))
theorem lin_edge {g : Sg} {r k : Nat} {sm : Bool} {nd : Nat → Nat} {x : Nat → Int} (hx : x k = 0) {w p : Nat} (hw : w < 8) (hp : p < 8) (he : eg g r w p = true) : lin k (sC g r sm k nd) x (8 * w + p) = nX k nd x w + nX k nd x (8 + p) := by
  unfold lin nX
  show isum (fun l => sC g r sm k nd (8 * w + p) l * x l) k + sC g r sm k nd (8 * w + p) k * x k = _
  rw [hx, Int.mul_zero, Int.add_zero, ← isum_add]
  refine isum_congr (fun l hl => ?_)
  unfold sC cN
  rw [if_pos hl, if_pos (show 8 * w + p < 64 by omega), show (8 * w + p) / 8 = w by omega, show (8 * w + p) % 8 = p by omega, if_pos he]
  by_cases a : nd l = w <;> by_cases b : nd l = 8 + p
  · omega
  · rw [if_pos a, if_neg b, if_pos a, if_neg b]; omega
  · rw [if_neg a, if_pos b, if_neg a, if_pos b]; omega
  · rw [if_neg a, if_neg b, if_neg a, if_neg b]; omega
theorem lin_sum {g : Sg} {r k : Nat} {nd : Nat → Nat} {x : Nat → Int} (hs : Slots g r k nd) (hx : x k = 0) : lin k (sC g r true k nd) x 64 = isum (fun p => if tdB (whoS g) r (8 + p) = true then nX k nd x (8 + p) else 0) 8 := by
  have e : isum (fun p => if tdB (whoS g) r (8 + p) = true then nX k nd x (8 + p) else 0) 8 = isum (fun p => isum (fun l => if tdB (whoS g) r (8 + p) = true ∧ nd l = 8 + p then x l else 0) k) 8 := isum_congr (fun p _ => by
    by_cases t : tdB (whoS g) r (8 + p) = true
    · rw [if_pos t]
      exact isum_congr (fun l _ => by
        by_cases c : nd l = 8 + p
        · rw [if_pos c, if_pos ⟨t, c⟩]
        · rw [if_neg c, if_neg (fun z => c z.2)])
    · rw [if_neg t]
      exact (isum_zero (fun l _ => if_neg (fun z => t z.1))).symm)
  rw [e, isum_comm (fun p l => if tdB (whoS g) r (8 + p) = true ∧ nd l = 8 + p then x l else 0) k 8]
  show isum (fun l => sC g r true k nd 64 l * x l) k + sC g r true k nd 64 k * x k = _
  rw [hx, Int.mul_zero, Int.add_zero]
  refine isum_congr (fun l hl => ?_)
  have nl := hs.1 l hl
  unfold sC cN
  rw [if_pos hl, if_neg (show ¬ (64 < 64) by decide)]
  by_cases c : 8 ≤ nd l
  · rw [if_pos ⟨rfl, c, tdB_t.mpr nl.2⟩, Int.one_mul, isum_one (j := nd l - 8) (by omega) (fun p _ hne => if_neg (fun z => hne (by omega)))]
    rw [if_pos ⟨by rw [show 8 + (nd l - 8) = nd l by omega]; exact tdB_t.mpr nl.2, by omega⟩]
  · rw [if_neg (fun z => c z.2.1), Int.zero_mul]
    exact (isum_zero (fun p _ => if_neg (fun z => by omega))).symm
theorem sys_held {g : Sg} {r k : Nat} {sm : Bool} {nd : Nat → Nat} (hr : r < 16) (hs : Slots g r k nd) (hc : lsum (fun z => b2 (tdB (whoS g) r z)) 16 ≤ 10) (hz : (∃ z0, Tied (whoS g) r z0 ∧ ∀ j, j < k → nd j ≠ z0) ∨ (sm = true ∧ ∃ p0, p0 < 8 ∧ Tied (whoS g) r (8 + p0))) : Held k 65 (sC g r sm k nd) 900 := by
  intro x hx i hi
  rw [← nX_at hs.2 hi (x := x)]
  have edges : ∀ w p, w < 8 → p < 8 → (whoS g w).testBit p = true → Tied (whoS g) r w → ∃ e, e < 65 ∧ lin k (sC g r sm k nd) x e = nX k nd x w + nX k nd x (8 + p) := fun w p hw hp h1 h2 => ⟨8 * w + p, by omega, lin_edge (hx k (Nat.le_refl _)) hw hp (by unfold eg; rw [h1, tdB_t.mpr h2]; rfl)⟩
  rcases hz with ⟨z0, h1, h2⟩ | ⟨h1, p0, h2, h3⟩
  · exact held_0 h1 hr (nX_out h2) edges hc (hs.1 i hi).2
  · subst h1
    exact held_S h3 h2 hr edges ⟨64, by decide, lin_sum hs (hx k (Nat.le_refl _))⟩ hc (hs.1 i hi).2
/-! how many -/
theorem isum_split (f : Nat → Int) (a : Nat) : ∀ b, isum f (a + b) = isum f a + isum (fun i => f (a + i)) b
  | 0 => (Int.add_zero _).symm
  | b + 1 => by
    show isum f (a + b) + f (a + b) = isum f a + (isum (fun i => f (a + i)) b + f (a + b))
    rw [isum_split f a b]
    omega
theorem isum_64 (f : Nat → Int) : ∀ a, isum f (8 * a) = isum (fun p => isum (fun w => f (8 * p + w)) 8) a
  | 0 => rfl
  | a + 1 => by
    rw [show 8 * (a + 1) = 8 * a + 8 by omega, isum_split, isum_64 f a]
    rfl
theorem isum_nat (f : Nat → Nat) : ∀ n, isum (fun i => (f i : Int)) n = (lsum f n : Nat)
  | 0 => rfl
  | n + 1 => by
    show isum (fun i => (f i : Int)) n + f n = ((lsum f n + f n : Nat) : Int)
    rw [isum_nat f n, Int.natCast_add]
theorem isum_mono {f f2 : Nat → Int} : ∀ {n : Nat}, (∀ i, i < n → f i ≤ f2 i) → isum f n ≤ isum f2 n
  | 0, _ => Int.le_refl _
  | n + 1, h => by
    have := isum_mono (f := f) (f2 := f2) (n := n) (fun i hi => h i (by omega))
    have := h n (by omega)
    show isum f n + f n ≤ isum f2 n + f2 n
    omega
noncomputable def nWk (g : Sg) (r : Nat) : Nat := lsum (fun w => b2 (tdB (whoS g) r w)) 8
noncomputable def nPu (g : Sg) (r : Nat) : Nat := lsum (fun p => b2 (tdB (whoS g) r (8 + p))) 8
theorem nWP (g : Sg) (r : Nat) : lsum (fun z => b2 (tdB (whoS g) r z)) 16 = nWk g r + nPu g r := lsum_split _ 8 8
theorem eg_P {g : Sg} {r w p : Nat} (hw : w < 8) (hp : p < 8) (h : eg g r w p = true) : tdB (whoS g) r w = true ∧ tdB (whoS g) r (8 + p) = true := by
  unfold eg at h
  rw [Bool.and_eq_true] at h
  exact ⟨h.2, tdB_t.mpr ((tdB_t.mp h.2).tr (Tied.wp hw hp h.1))⟩
theorem deg_w {g : Sg} {r : Nat} {sm : Bool} {w : Nat} (hw : w < 8) : isum (fun e => cN g r sm e w * cN g r sm e w) 65 ≤ nPu g r := by
  show isum (fun e => cN g r sm e w * cN g r sm e w) 64 + cN g r sm 64 w * cN g r sm 64 w ≤ _
  have e64 : cN g r sm 64 w = 0 := by
    unfold cN
    rw [if_neg (by decide), if_neg (fun z => by omega)]
  rw [e64, Int.mul_zero, Int.add_zero, show (64 : Nat) = 8 * 8 from rfl, isum_64, isum_one (j := w) hw]
  · unfold nPu
    rw [← isum_nat]
    refine isum_mono (fun p hp => ?_)
    unfold cN
    rw [if_pos (show 8 * w + p < 64 by omega), show (8 * w + p) / 8 = w by omega, show (8 * w + p) % 8 = p by omega, if_pos rfl, if_neg (show ¬ w = 8 + p by omega)]
    by_cases c : eg g r w p = true
    · rw [if_pos c, (eg_P hw hp c).2]; decide
    · rw [if_neg c]
      exact Int.natCast_nonneg _
  · intro v hv hne
    refine isum_zero (fun p hp => ?_)
    unfold cN
    rw [if_pos (show 8 * v + p < 64 by omega), show (8 * v + p) / 8 = v by omega, show (8 * v + p) % 8 = p by omega, if_neg (show ¬ w = v from fun z => hne z.symm), if_neg (show ¬ w = 8 + p by omega)]
    split <;> rfl
theorem deg_p {g : Sg} {r : Nat} {sm : Bool} {q : Nat} (hq : q < 8) : isum (fun e => cN g r sm e (8 + q) * cN g r sm e (8 + q)) 65 ≤ nWk g r + 1 := by
  show isum (fun e => cN g r sm e (8 + q) * cN g r sm e (8 + q)) 64 + cN g r sm 64 (8 + q) * cN g r sm 64 (8 + q) ≤ _
  have e64 : cN g r sm 64 (8 + q) * cN g r sm 64 (8 + q) ≤ 1 := by
    unfold cN
    rw [if_neg (by decide)]
    split <;> decide
  have le : isum (fun e => cN g r sm e (8 + q) * cN g r sm e (8 + q)) 64 ≤ nWk g r := by
    rw [show (64 : Nat) = 8 * 8 from rfl, isum_64]
    unfold nWk
    rw [← isum_nat]
    refine isum_mono (fun w hw => ?_)
    rw [isum_one (j := q) hq]
    · unfold cN
      rw [if_pos (show 8 * w + q < 64 by omega), show (8 * w + q) / 8 = w by omega, show (8 * w + q) % 8 = q by omega, if_neg (show ¬ 8 + q = w by omega), if_pos rfl]
      by_cases c : eg g r w q = true
      · rw [if_pos c, (eg_P hw hq c).1]; decide
      · rw [if_neg c]
        exact Int.natCast_nonneg _
    · intro p hp hne
      unfold cN
      rw [if_pos (show 8 * w + p < 64 by omega), show (8 * w + p) / 8 = w by omega, show (8 * w + p) % 8 = p by omega, if_neg (show ¬ 8 + q = w by omega), if_neg (show ¬ 8 + q = 8 + p from fun z => hne (by omega))]
      split <;> rfl
  omega
