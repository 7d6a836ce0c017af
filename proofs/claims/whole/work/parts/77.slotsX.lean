/-! ===== slot and node of the class ===== -/
theorem ndX_sl {g : Sg} {r z : Nat} (hz : z < 16) (hu : uB g r 16 z = true) : slX g r z < kX g r ∧ ndX g r (slX g r z) = z := by
  have q := knX_tk hz
  have u : (fun t => uB g r 16 (knX t)) (tkX z) = true := by
    show uB g r 16 (knX (tkX z)) = true
    rw [q.1]
    exact hu
  refine ⟨rkc_lt u q.2, ?_⟩
  unfold ndX slX
  rw [tmS_at q.2 u, q.1]
theorem ndX_u {g : Sg} {r a : Nat} (ha : a < kX g r) : uB g r 16 (ndX g r a) = true := (tmS_spec (pr := fun t => uB g r 16 (knX t)) ha).2.1
theorem ndX_iff {g : Sg} {r z a : Nat} (hz : z < 16) (hu : uB g r 16 z = true) (ha : a < kX g r) : ndX g r a = z ↔ a = slX g r z := by
  have s := ndX_sl hz hu
  refine ⟨fun e => (slotsX g r).1.2 a _ ha s.1 (e.trans s.2.symm), fun e => by rw [e]; exact s.2⟩
theorem ndX_no {g : Sg} {r z a : Nat} (hu : ¬ uB g r 16 z = true) (ha : a < kX g r) : ndX g r a ≠ z := fun e => hu (by rw [← e]; exact ndX_u ha)
theorem wSl_sl {g : Sg} {r i : Nat} (hi : i < 8) : wSl g r i = if uB g r 16 i = true then nI (slX g r i) else -1 := by
  unfold wSl slX tkX
  rw [if_pos hi]
theorem lSl_sl {g : Sg} {r i : Nat} : lSl g r i = if uB g r 16 (8 + i) = true then nI (slX g r (8 + i)) else -1 := by
  unfold lSl slX tkX
  rw [if_neg (show ¬ 8 + i < 8 by omega), show 8 + i - 8 = i by omega]
