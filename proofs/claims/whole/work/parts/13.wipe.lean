theorem wp_mono {cc : ByteArray} {own : String} {nL : Nat} {R : Room} {ret : Option FieldType} {Q Q2 : Option Value → wl_H → Prop} {pc : Nat} {Ls stk : List Value} {mh : wl_H} (h : Wp cc own nL R (wl_fin ret Q) pc Ls stk mh) (hm : ∀ rv m2, Q rv m2 → Q2 rv m2) : Wp cc own nL R (wl_fin ret Q2) pc Ls stk mh := by
  intro G lk A p l e s m args below meth c kc ks Z hC hF hk H locs ls hR hL
  obtain ⟨h1, rfl, rfl, rfl⟩ := hF
  intro T hT X
  obtain ⟨t, a1, o, b1, b2, ⟨rv, m2, c1, c2, c3⟩, b4⟩ := h G lk A p l e s m args below meth c 0 0 _ hC ⟨h1, rfl, rfl, rfl⟩ hk H locs ls hR hL T hT X
  exact ⟨t, a1, o, b1, b2, ⟨rv, m2, c1, hm rv m2 c2, c3⟩, b4⟩
theorem nI_loop {i n : Nat} (h : i < n) (hn : n < 2 ^ 31) : ¬ nI n ≤ nI i := nI_ge h hn
def clearS (S : St) : St := sA (sA (sA S 24 (wfill (S.2.2.1 24) 64 0)) 26 (wfill (S.2.2.1 26) 64 (-1))) 27 (wfill (S.2.2.1 27) 8 (-1))
theorem up_up {α : Type} (f : Nat → α) (k : Nat) (v u : α) : va_up (va_up f k v) k u = va_up f k u := by
  funext j
  unfold va_up
  by_cases h : j = k
  · rw [if_pos h, if_pos h]
  · rw [if_neg h, if_neg h, if_neg h]
theorem up_self {α : Type} (f : Nat → α) (k : Nat) : va_up f k (f k) = f := by
  funext j
  unfold va_up
  by_cases h : j = k
  · rw [if_pos h, h]
  · rw [if_neg h]
theorem up_comm {α : Type} (f : Nat → α) {k l : Nat} (h : k ≠ l) (v u : α) : va_up (va_up f k v) l u = va_up (va_up f l u) k v := by
  funext j
  unfold va_up
  by_cases h1 : j = k
  · subst h1
    rw [if_neg h, if_pos rfl, if_pos rfl]
  · by_cases h2 : j = l
    · rw [if_pos h2, if_neg h1, if_pos h2]
    · rw [if_neg h2, if_neg h1, if_neg h1, if_neg h2]
theorem sA_self (S : St) (k : Nat) : sA S k (S.2.2.1 k) = S := by
  show (S.1, S.2.1, va_up S.2.2.1 k (S.2.2.1 k), S.2.2.2) = S
  rw [up_self]
theorem sA_same (S : St) (k : Nat) (f g : Nat → Int32) : sA (sA S k f) k g = sA S k g := by
  show (S.1, S.2.1, va_up (va_up S.2.2.1 k f) k g, S.2.2.2) = _
  rw [up_up]
theorem sA_comm (S : St) {k l : Nat} (h : k ≠ l) (f g : Nat → Int32) : sA (sA S k f) l g = sA (sA S l g) k f := by
  show (S.1, S.2.1, va_up (va_up S.2.2.1 k f) l g, S.2.2.2) = (S.1, S.2.1, va_up (va_up S.2.2.1 l g) k f, S.2.2.2)
  rw [up_comm _ h]
theorem sB_self (S : St) (k : Nat) : sB S k (S.2.2.2 k) = S := by
  show (S.1, S.2.1, S.2.2.1, va_up S.2.2.2 k (S.2.2.2 k)) = S
  rw [up_self]
theorem sB_same (S : St) (k : Nat) (f g : Nat → Int64) : sB (sB S k f) k g = sB S k g := by
  show (S.1, S.2.1, S.2.2.1, va_up (va_up S.2.2.2 k f) k g) = _
  rw [up_up]
theorem sI_self (S : St) (k : Nat) : sI S k (S.1 k) = S := by
  show (va_up S.1 k (S.1 k), S.2.1, S.2.2.1, S.2.2.2) = S
  rw [up_self]
theorem clear_1 {P : St → Prop} {S : St} (h : wX7_clear P 30 [.ref 47, .int 0] [] (sA (sA S 24 (wfill (S.2.2.1 24) 64 0)) 26 (wfill (S.2.2.1 26) 64 (-1)))) : ∀ k i, i + k = 64 → wX7_clear P 2 [.ref 47, .int (nI i)] [] (sA (sA S 24 (wfill (S.2.2.1 24) i 0)) 26 (wfill (S.2.2.1 26) i (-1)))
  | 0, i, hi => by
    have e : i = 64 := by omega
    subst e
    exact bX7_clear_2 _ ⟨fun _ => h, fun c => absurd (by decide) c⟩
  | k + 1, i, hi => by
    refine bX7_clear_2 _ ⟨fun c => absurd c (nI_ge (a := i) (b := 64) (by omega) (by decide)), fun _ => ⟨vp_in_nI (by omega) (by decide), ?_⟩⟩
    have ih := clear_1 h k (i + 1) (by omega)
    rw [nI_clamp (by omega)]
    have e1 : (sA (sA (sA (sA S 24 (wfill (S.2.2.1 24) i 0)) 26 (wfill (S.2.2.1 26) i (-1))) 24 (upd (wfill (S.2.2.1 24) i 0) i (vp_nar .boolean 0))) 26 (upd (wfill (S.2.2.1 26) i (-1)) i (-1))) = (sA (sA S 24 (wfill (S.2.2.1 24) (i + 1) 0)) 26 (wfill (S.2.2.1 26) (i + 1) (-1))) := by
      have e0 : vp_nar .boolean 0 = 0 := rfl
      rw [e0, wfill_succ, wfill_succ]
      show (S.1, S.2.1, va_up (va_up (va_up (va_up S.2.2.1 24 _) 26 _) 24 _) 26 _, S.2.2.2) = (S.1, S.2.1, va_up (va_up S.2.2.1 24 _) 26 _, S.2.2.2)
      rw [up_comm _ (show 26 ≠ 24 by decide), up_up, up_up]
    rw [show nI i + 1 = nI (i + 1) from nI_1 i]
    rw [← e1] at ih
    exact ih
theorem clear_2 {P : St → Prop} {S : St} (h : P (sA S 27 (wfill (S.2.2.1 27) 8 (-1)))) : ∀ k i, i + k = 8 → wX7_clear P 30 [.ref 47, .int (nI i)] [] (sA S 27 (wfill (S.2.2.1 27) i (-1)))
  | 0, i, hi => by
    have e : i = 8 := by omega
    subst e
    exact bX7_clear_30 _ ⟨fun _ => h, fun c => absurd (by decide) c⟩
  | k + 1, i, hi => by
    refine bX7_clear_30 _ ⟨fun c => absurd c (nI_ge (a := i) (b := 8) (by omega) (by decide)), fun _ => ⟨vp_in_nI (by omega) (by decide), ?_⟩⟩
    have ih := clear_2 h k (i + 1) (by omega)
    rw [nI_clamp (by omega)]
    have e1 : (sA (sA S 27 (wfill (S.2.2.1 27) i (-1))) 27 (upd (wfill (S.2.2.1 27) i (-1)) i (-1))) = sA S 27 (wfill (S.2.2.1 27) (i + 1) (-1)) := by
      rw [wfill_succ]
      show (S.1, S.2.1, va_up (va_up S.2.2.1 27 _) 27 _, S.2.2.2) = _
      rw [up_up]
    rw [show nI i + 1 = nI (i + 1) from nI_1 i]
    rw [← e1] at ih
    exact ih
theorem clear_ok {P : St → Prop} {S : St} (h : P (clearS S)) : tX7_clear S P := by
  refine bX7_clear_0 ?_
  have h2 := clear_2 (S := sA (sA S 24 (wfill (S.2.2.1 24) 64 0)) 26 (wfill (S.2.2.1 26) 64 (-1))) h 8 0 (by omega)
  rw [wfill_0] at h2
  rw [sA_self] at h2
  have h1 := clear_1 (S := S) h2 64 0 (by omega)
  rw [wfill_0, wfill_0] at h1
  have e : sA (sA S 24 (S.2.2.1 24)) 26 (S.2.2.1 26) = S := by
    show (S.1, S.2.1, va_up (va_up S.2.2.1 24 (S.2.2.1 24)) 26 (S.2.2.1 26), S.2.2.2) = S
    rw [up_self, up_self]
  rw [e] at h1
  exact h1
def wipeR (S : St) (i : Nat) : St := (S.1, S.2.1, fun k => if 2 ≤ k ∧ k < 2 + i then wfill (S.2.2.1 k) 8 (-1) else S.2.2.1 k, S.2.2.2)
def wipeS (S : St) : St := sA (wipeR S 8) 10 (wfill (S.2.2.1 10) 8 (-1))
theorem wipeR_0 (S : St) : wipeR S 0 = S := by
  unfold wipeR
  have : (fun k => if 2 ≤ k ∧ k < 2 + 0 then wfill (S.2.2.1 k) 8 (-1) else S.2.2.1 k) = S.2.2.1 := by
    funext k
    rw [if_neg (by omega)]
  rw [this]
theorem wipeR_s (S : St) (i : Nat) : sA (wipeR S i) (2 + i) (wfill ((wipeR S i).2.2.1 (2 + i)) 8 (-1)) = wipeR S (i + 1) := by
  show (S.1, S.2.1, va_up (wipeR S i).2.2.1 (2 + i) _, S.2.2.2) = (S.1, S.2.1, (wipeR S (i + 1)).2.2.1, S.2.2.2)
  congr 3
  funext k
  unfold va_up wipeR
  simp only
  by_cases h : k = 2 + i
  · subst h
    rw [if_pos rfl, if_neg (by omega), if_pos (by omega)]
  · rw [if_neg h]
    by_cases h2 : 2 ≤ k ∧ k < 2 + i
    · rw [if_pos h2, if_pos (by omega)]
    · rw [if_neg h2, if_neg (by omega)]
theorem wipe_1 {P : St → Prop} {S : St} (h : P (wipeS S)) : ∀ k i, i + k = 8 → wX2_wipe P 2 [.ref 4, .int (nI i)] [] (wipeR S i)
  | 0, i, hi => by
    have e : i = 8 := by omega
    subst e
    exact bX2_wipe_2 _ ⟨fun _ => h, fun c => absurd (by decide) c⟩
  | k + 1, i, hi => by
    refine bX2_wipe_2 _ ⟨fun c => absurd c (nI_ge (a := i) (b := 8) (by omega) (by decide)), fun _ => ⟨vp_in_nI (by omega) (by decide), ?_⟩⟩
    have ih := wipe_1 h k (i + 1) (by omega)
    rw [nI_clamp (by omega), show nI i + 1 = nI (i + 1) from nI_1 i, wipeR_s]
    exact ih
theorem wipe_ok {P : St → Prop} {S : St} (h : P (wipeS S)) : tX2_wipe S P := by
  refine bX2_wipe_0 ?_
  have h1 := wipe_1 h 8 0 (by omega)
  rw [wipeR_0] at h1
  exact h1
def enc15 (S : St) : wl_H := [.inr (6, [.ref 1, .null, .null, .null, .null]),
  .inr (1, [.int (S.1 0), .ref 2, .ref 3]),
  .inl (0, 8, .inl (S.2.2.1 0)),
  .inl (0, 3, .inl (S.2.2.1 1)),
  .inr (2, [.ref 1, .ref 5, .ref 14]),
  .inl (3, 8, .inr (.inr (.inr (.inr (fun j => if j < 8 then some (6 + j) else none))))),
  .inl (0, 8, .inl (S.2.2.1 2)),
  .inl (0, 8, .inl (S.2.2.1 3)),
  .inl (0, 8, .inl (S.2.2.1 4)),
  .inl (0, 8, .inl (S.2.2.1 5)),
  .inl (0, 8, .inl (S.2.2.1 6)),
  .inl (0, 8, .inl (S.2.2.1 7)),
  .inl (0, 8, .inl (S.2.2.1 8)),
  .inl (0, 8, .inl (S.2.2.1 9)),
  .inl (0, 8, .inl (S.2.2.1 10))]
theorem enc15G (S : St) {i : Int32} (h : vp_in i 8) : (enc15 S)[6 + i.toNatClampNeg]? = some (.inl (0, 8, .inl (S.2.2.1 (2 + i.toNatClampNeg)))) := by
  have h := vp_in_lt h
  generalize i.toNatClampNeg = p at h ⊢
  match p, h with
  | 0, _ => rfl
  | 1, _ => rfl
  | 2, _ => rfl
  | 3, _ => rfl
  | 4, _ => rfl
  | 5, _ => rfl
  | 6, _ => rfl
  | 7, _ => rfl
theorem enc15Gs (S : St) {i : Int32} (h : vp_in i 8) (f : Nat → Int32) : (enc15 S).set (6 + i.toNatClampNeg) (.inl (0, 8, .inl f)) = enc15 (sA S (2 + i.toNatClampNeg) f) := by
  have h := vp_in_lt h
  generalize i.toNatClampNeg = p at h ⊢
  match p, h with
  | 0, _ => rfl
  | 1, _ => rfl
  | 2, _ => rfl
  | 3, _ => rfl
  | 4, _ => rfl
  | 5, _ => rfl
  | 6, _ => rfl
  | 7, _ => rfl
theorem es15_14 (S : St) (f : Nat → Int32) : (enc15 S).set 14 (.inl (0, 8, .inl f)) = enc15 (sA S 10 f) := rfl
abbrev wX2_wipe15 (P : St → Prop) (pc : Nat) (Ls stk : List Value) (S : St) : Prop := Wp cX2_wipe RX2 2 rX2_wipe (wl_fin none (fun rv mh => ∃ S2, rv = none ∧ mh = enc15 S2 ∧ P S2)) pc Ls stk (enc15 S)
abbrev tX2_wipe15  (S : St) (P : St → Prop) : Prop := wX2_wipe15 P 0 (wl_en [.ref 4] 2) [] S
set_option maxRecDepth 100000 in
theorem bX2_wipe15_0 {P : St → Prop} {S : St}  (h : wX2_wipe15 P 2 [.ref 4, .int (0 : Int32)] [] S) : tX2_wipe15  S P := by
  show wX2_wipe15 P 0 [.ref 4, .retAddr 0] [] S
  refine wp_iconst (v := (0 : Int32)) dX2_wipe_0 (by decide) ?_
  refine wp_istore_n (Ms := [.ref 4, .int (0 : Int32)]) dX2_wipe_1 rfl (by decide) rfl ?_
  exact wp_le (Ms := [.ref 4, .int (0 : Int32)]) ⟨Or.inr rfl, Or.inr rfl, trivial⟩ h
set_option maxRecDepth 100000 in
theorem bX2_wipe15_2 {P : St → Prop} {S : St} (x1 : Int32) (h : (((8 : Int32) ≤ x1 → P (sA S 10 (wfill (S.2.2.1 10) 8 (-1 : Int32)))) ∧ (¬ (8 : Int32) ≤ x1 → vp_in x1 8 ∧ wX2_wipe15 P 2 [.ref 4, .int (x1 + (1 : Int32))] [] (sA S (2 + x1.toNatClampNeg) (wfill (S.2.2.1 (2 + x1.toNatClampNeg)) 8 (-1 : Int32)))))) : wX2_wipe15 P 2 [.ref 4, .int x1] [] S := by
  refine wp_iload_n dX2_wipe_2 rfl rfl ?_
  refine wp_bipush (v := (8 : Int32)) dX2_wipe_3 (by decide) ?_
  refine wp_icmp_ge (tgt := 24) dX2_wipe_5 (by decide) (fun c => ?_) (fun c => ?_)
  · have h := h.1 c
    refine wp_aload_n dX2_wipe_24 rfl rfl ?_
    refine wp_get (q := 4) dX2_wipe_25 fX2_16 rfl rfl ?_
    refine wp_iconst (v := (-1 : Int32)) dX2_wipe_28 (by decide) ?_
    refine wp_fillI (q := 14) (mh2 := enc15 (sA S 10 (wfill (S.2.2.1 10) 8 (-1 : Int32)))) dX2_wipe_29 lX2_27 (by decide) rfl (by decide) (es15_14 _ _) (Nat.le_of_ble_eq_true rfl) ?_
    exact wp_vret dX2_wipe_32 rfl ⟨_, rfl, rfl, h⟩
  · have h := h.2 c
    refine wp_aload_n dX2_wipe_8 rfl rfl ?_
    refine wp_get (q := 4) dX2_wipe_9 fX2_11 rfl rfl ?_
    refine wp_iload_n dX2_wipe_12 rfl rfl ?_
    obtain ⟨q1, h⟩ := h
    refine wp_aald (q := 5) dX2_wipe_13 rfl rfl q1 (encR q1) ?_
    refine wp_iconst (v := (-1 : Int32)) dX2_wipe_14 (by decide) ?_
    refine wp_fillI (mh2 := enc15 (sA S (2 + x1.toNatClampNeg) (wfill (S.2.2.1 (2 + x1.toNatClampNeg)) 8 (-1 : Int32)))) dX2_wipe_15 lX2_27 (by decide) (enc15G _ q1) (by decide) (enc15Gs _ q1 _) (Nat.le_of_ble_eq_true rfl) ?_
    refine wp_iinc (Ms := [.ref 4, .int (x1 + (1 : Int32))]) (v := x1 + (1 : Int32)) dX2_wipe_18 rfl rfl (by decide) rfl ?_
    refine wp_goto (tgt := 2) dX2_wipe_21 (by decide) ?_
    exact wp_le (Ms := [.ref 4, .int (x1 + (1 : Int32))]) ⟨Or.inr rfl, Or.inr rfl, trivial⟩ h
theorem wipe15_1 {P : St → Prop} {S : St} (h : P (wipeS S)) : ∀ k i, i + k = 8 → wX2_wipe15 P 2 [.ref 4, .int (nI i)] [] (wipeR S i)
  | 0, i, hi => by
    have e : i = 8 := by omega
    subst e
    exact bX2_wipe15_2 _ ⟨fun _ => h, fun c => absurd (by decide) c⟩
  | k + 1, i, hi => by
    refine bX2_wipe15_2 _ ⟨fun c => absurd c (nI_ge (a := i) (b := 8) (by omega) (by decide)), fun _ => ⟨vp_in_nI (by omega) (by decide), ?_⟩⟩
    have ih := wipe15_1 h k (i + 1) (by omega)
    rw [nI_clamp (by omega), show nI i + 1 = nI (i + 1) from nI_1 i, wipeR_s]
    exact ih
theorem wipe15_ok {P : St → Prop} {S : St} (h : P (wipeS S)) : tX2_wipe15 S P := by
  refine bX2_wipe15_0 ?_
  have h1 := wipe15_1 h 8 0 (by omega)
  rw [wipeR_0] at h1
  exact h1
