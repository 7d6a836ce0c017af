/-! ===== what the elimination answers, by nodes ===== -/
noncomputable def sT (g : Sg) (r : Nat) (sm : Bool) (k : Nat) (nd : Nat → Nat) : Nat → Int := fun j => if j < k then gV k 65 (sC g r sm k nd) k j k else 0
noncomputable def sD (g : Sg) (r : Nat) (sm : Bool) (k : Nat) (nd : Nat → Nat) : Int := gd k 65 (sC g r sm k nd) k
/-- the numbers by nodes: what staff marked is known -/
noncomputable def sN (g : Sg) (r : Nat) (sm : Bool) (k : Nat) (nd : Nat → Nat) (z : Nat) : Int := nX k nd (sT g r sm k nd) z + if z < 8 then stf g z * sD g r sm k nd else 0
theorem node_eq {g : Sg} {r k : Nat} {sm : Bool} {nd : Nat → Nat} (h : Sys k 65 (sC g r sm k nd)) {i : Nat} (hi : i < k) : isum (fun e => cN g r sm e (nd i) * (lin k (sC g r sm k nd) (sT g r sm k nd) e - sD g r sm k nd * rhs g r e)) 65 = 0 := by
  have e := gV_end h hi
  have e1 : isum (fun l => gA 65 (sC g r sm k nd) i l * gV k 65 (sC g r sm k nd) k l k) k = img k 65 (sC g r sm k nd) (sT g r sm k nd) i := by
    show _ = isum (fun l => gA 65 (sC g r sm k nd) i l * sT g r sm k nd l) k + gA 65 (sC g r sm k nd) i k * sT g r sm k nd k
    rw [show sT g r sm k nd k = 0 from if_neg (by omega), Int.mul_zero, Int.add_zero]
    refine isum_congr (fun l hl => ?_)
    unfold sT
    rw [if_pos hl]
  rw [e1, img_lin] at e
  have e2 : gd k 65 (sC g r sm k nd) k * gA 65 (sC g r sm k nd) i k = isum (fun e => sC g r sm k nd e i * (sD g r sm k nd * rhs g r e)) 65 := by
    unfold gA
    rw [← isum_mul]
    refine isum_congr (fun e _ => ?_)
    have c : sC g r sm k nd e k = rhs g r e := by
      unfold sC
      rw [if_neg (by omega), if_pos rfl]
    rw [c, Int.mul_left_comm]
    rfl
  rw [e2] at e
  rw [isum_congr (f2 := fun e => sC g r sm k nd e i * lin k (sC g r sm k nd) (sT g r sm k nd) e - sC g r sm k nd e i * (sD g r sm k nd * rhs g r e)) (fun e _ => by
    have c : sC g r sm k nd e i = cN g r sm e (nd i) := if_pos hi
    rw [c, Int.mul_sub]), isum_sub]
  omega
theorem edge_y {g : Sg} {r k : Nat} {sm : Bool} {nd : Nat → Nat} {w p : Nat} (hw : w < 8) (hp : p < 8) (c : eg g r w p = true) : lin k (sC g r sm k nd) (sT g r sm k nd) (8 * w + p) - sD g r sm k nd * rhs g r (8 * w + p) = - rsd g (sD g r sm k nd) (sN g r sm k nd) w p := by
  rw [lin_edge (show sT g r sm k nd k = 0 from if_neg (by omega)) hw hp c]
  unfold rsd sN rhs
  rw [if_pos (show 8 * w + p < 64 by omega), show (8 * w + p) / 8 = w by omega, show (8 * w + p) % 8 = p by omega, if_pos c, if_pos hw, if_neg (show ¬ 8 + p < 8 by omega), Int.mul_sub, Int.mul_comm (sD g r sm k nd), Int.mul_comm (sD g r sm k nd)]
  omega
theorem row_eq {g : Sg} {r k : Nat} {sm : Bool} {nd : Nat → Nat} (h : Sys k 65 (sC g r sm k nd)) {i : Nat} (hi : i < k) {w : Nat} (hw : w < 8) (e : nd i = w) : isum (fun p => ind (eg g r w p) (rsd g (sD g r sm k nd) (sN g r sm k nd) w p)) 8 = 0 := by
  have q := node_eq h hi
  rw [e] at q
  have q2 : isum (fun e => cN g r sm e w * (lin k (sC g r sm k nd) (sT g r sm k nd) e - sD g r sm k nd * rhs g r e)) 64 + cN g r sm 64 w * (lin k (sC g r sm k nd) (sT g r sm k nd) 64 - sD g r sm k nd * rhs g r 64) = 0 := q
  have e64 : cN g r sm 64 w = 0 := by
    unfold cN
    rw [if_neg (by decide), if_neg (fun z => by omega)]
  rw [e64, Int.zero_mul, Int.add_zero, show (64 : Nat) = 8 * 8 from rfl, isum_64, isum_one (j := w) hw] at q2
  · have q3 : isum (fun p => (-1) * ind (eg g r w p) (rsd g (sD g r sm k nd) (sN g r sm k nd) w p)) 8 = 0 := by
      rw [← q2]
      refine isum_congr (fun p hp => ?_)
      by_cases c : eg g r w p = true
      · rw [edge_y hw hp c]
        unfold cN ind
        rw [if_pos (show 8 * w + p < 64 by omega), show (8 * w + p) / 8 = w by omega, show (8 * w + p) % 8 = p by omega, if_pos c, if_pos c, if_pos rfl, if_neg (show ¬ w = 8 + p by omega)]
        omega
      · unfold cN ind
        rw [if_pos (show 8 * w + p < 64 by omega), show (8 * w + p) / 8 = w by omega, show (8 * w + p) % 8 = p by omega, if_neg c, if_neg c, Int.zero_mul]
        rfl
    rw [isum_mul] at q3
    omega
  · intro v hv hne
    refine isum_zero (fun p hp => ?_)
    have z : cN g r sm (8 * v + p) w = 0 := by
      unfold cN
      rw [if_pos (show 8 * v + p < 64 by omega), show (8 * v + p) / 8 = v by omega, show (8 * v + p) % 8 = p by omega, if_neg (show ¬ w = v from fun z => hne z.symm), if_neg (show ¬ w = 8 + p by omega)]
      split <;> rfl
    rw [z, Int.zero_mul]
theorem col_eq {g : Sg} {r k : Nat} {sm : Bool} {nd : Nat → Nat} (h : Sys k 65 (sC g r sm k nd)) (hs : Slots g r k nd) {i : Nat} (hi : i < k) {q : Nat} (hq : q < 8) (e : nd i = 8 + q) : isum (fun w => ind (eg g r w q) (rsd g (sD g r sm k nd) (sN g r sm k nd) w q)) 8 = ind sm (isum (fun p => ind (tdB (whoS g) r (8 + p)) (sN g r sm k nd (8 + p))) 8) := by
  have t := (hs.1 i hi).2
  have n := node_eq h hi
  rw [e] at n t
  have n2 : isum (fun e => cN g r sm e (8 + q) * (lin k (sC g r sm k nd) (sT g r sm k nd) e - sD g r sm k nd * rhs g r e)) 64 + cN g r sm 64 (8 + q) * (lin k (sC g r sm k nd) (sT g r sm k nd) 64 - sD g r sm k nd * rhs g r 64) = 0 := n
  have last : cN g r sm 64 (8 + q) * (lin k (sC g r sm k nd) (sT g r sm k nd) 64 - sD g r sm k nd * rhs g r 64) = ind sm (isum (fun p => ind (tdB (whoS g) r (8 + p)) (sN g r sm k nd (8 + p))) 8) := by
    have r64 : rhs g r 64 = 0 := if_neg (by decide)
    unfold cN ind
    rw [if_neg (by decide), r64, Int.mul_zero, Int.sub_zero]
    by_cases c : sm = true
    · subst c
      rw [if_pos ⟨rfl, by omega, tdB_t.mpr t⟩, if_pos rfl, Int.one_mul, lin_sum hs (show sT g r true k nd k = 0 from if_neg (by omega))]
      refine isum_congr (fun p _ => ?_)
      unfold sN
      rw [if_neg (show ¬ 8 + p < 8 by omega), Int.add_zero]
    · rw [if_neg (fun z => c z.1), if_neg c, Int.zero_mul]
  have first : isum (fun e => cN g r sm e (8 + q) * (lin k (sC g r sm k nd) (sT g r sm k nd) e - sD g r sm k nd * rhs g r e)) 64 = (-1) * isum (fun w => ind (eg g r w q) (rsd g (sD g r sm k nd) (sN g r sm k nd) w q)) 8 := by
    rw [show (64 : Nat) = 8 * 8 from rfl, isum_64, ← isum_mul]
    refine isum_congr (fun w hw => ?_)
    rw [isum_one (j := q) hq]
    · by_cases c : eg g r w q = true
      · rw [edge_y hw hq c]
        unfold cN ind
        rw [if_pos (show 8 * w + q < 64 by omega), show (8 * w + q) / 8 = w by omega, show (8 * w + q) % 8 = q by omega, if_pos c, if_pos c, if_neg (show ¬ 8 + q = w by omega), if_pos rfl]
        omega
      · unfold cN ind
        rw [if_pos (show 8 * w + q < 64 by omega), show (8 * w + q) / 8 = w by omega, show (8 * w + q) % 8 = q by omega, if_neg c, if_neg c, Int.zero_mul]
        rfl
    · intro p hp hne
      have z : cN g r sm (8 * w + p) (8 + q) = 0 := by
        unfold cN
        rw [if_pos (show 8 * w + p < 64 by omega), show (8 * w + p) / 8 = w by omega, show (8 * w + p) % 8 = p by omega, if_neg (show ¬ 8 + q = w by omega), if_neg (show ¬ 8 + q = 8 + p from fun z => hne (by omega))]
        split <;> rfl
      rw [z, Int.zero_mul]
  rw [first, last] at n2
  omega
