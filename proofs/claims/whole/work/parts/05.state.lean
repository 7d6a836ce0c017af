/-- what the cells hold: ints, longs, rows of ints, rows of longs -/
abbrev St : Type := (Nat → Int32) × (Nat → Int64) × (Nat → Nat → Int32) × (Nat → Nat → Int64)
abbrev sI (S : St) (k : Nat) (v : Int32) : St := (va_up S.1 k v, S.2.1, S.2.2.1, S.2.2.2)
abbrev sJ (S : St) (k : Nat) (v : Int64) : St := (S.1, va_up S.2.1 k v, S.2.2.1, S.2.2.2)
abbrev sA (S : St) (k : Nat) (v : Nat → Int32) : St := (S.1, S.2.1, va_up S.2.2.1 k v, S.2.2.2)
abbrev sB (S : St) (k : Nat) (v : Nat → Int64) : St := (S.1, S.2.1, S.2.2.1, va_up S.2.2.2 k v)
/-- the 62 cells: the class (0 to 46) and the reference (47 to 61) -/
def enc (S : St) : wl_H := [.inr (6, [.ref 1, .ref 4, .ref 15, .ref 20, .ref 41]),
  .inr (1, [.int (S.1 0), .ref 2, .ref 3]),
  .inl (0, 8, .inl (S.2.2.1 0)),
  .inl (0, 3, .inl (S.2.2.1 1)),
  .inr (2, [.ref 1, .ref 5, .ref 14]),
  .inl (3, 8, .inr (.inr (.inr (.inr (fun j => if j < 8 then some (6 + j) else none))))),
  .inl (0, 8, .inl (S.2.2.1 2)),
  .inl (0, 8, .inl (S.2.2.1 3)),
  .inl (0, 8, .inl (S.2.2.1 4)),
  .inl (0, 8, .inl (S.2.2.1 5)),
  .inl (0, 8, .inl (S.2.2.1 6)),
  .inl (0, 8, .inl (S.2.2.1 7)),
  .inl (0, 8, .inl (S.2.2.1 8)),
  .inl (0, 8, .inl (S.2.2.1 9)),
  .inl (0, 8, .inl (S.2.2.1 10)),
  .inr (5, [.ref 1, .ref 16, .ref 17, .ref 18, .ref 19, .int (S.1 1), .int (S.1 2)]),
  .inl (0, 8, .inl (S.2.2.1 11)),
  .inl (0, 8, .inl (S.2.2.1 12)),
  .inl (0, 8, .inl (S.2.2.1 13)),
  .inl (0, 8, .inl (S.2.2.1 14)),
  .inr (4, [.ref 1, .ref 4, .ref 21, .ref 33, .ref 34, .ref 35, .ref 36, .ref 37, .ref 38, .ref 39, .ref 40, .int (S.1 3), .int (S.1 4)]),
  .inr (0, [.ref 22, .int (S.1 5)]),
  .inl (4, 10, .inr (.inr (.inr (.inr (fun j => if j < 10 then some (23 + j) else none))))),
  .inl (1, 11, .inr (.inl (S.2.2.2 3))),
  .inl (1, 11, .inr (.inl (S.2.2.2 4))),
  .inl (1, 11, .inr (.inl (S.2.2.2 5))),
  .inl (1, 11, .inr (.inl (S.2.2.2 6))),
  .inl (1, 11, .inr (.inl (S.2.2.2 7))),
  .inl (1, 11, .inr (.inl (S.2.2.2 8))),
  .inl (1, 11, .inr (.inl (S.2.2.2 9))),
  .inl (1, 11, .inr (.inl (S.2.2.2 10))),
  .inl (1, 11, .inr (.inl (S.2.2.2 11))),
  .inl (1, 11, .inr (.inl (S.2.2.2 12))),
  .inl (0, 8, .inl (S.2.2.1 15)),
  .inl (0, 8, .inl (S.2.2.1 16)),
  .inl (0, 8, .inl (S.2.2.1 17)),
  .inl (1, 8, .inr (.inl (S.2.2.2 0))),
  .inl (1, 8, .inr (.inl (S.2.2.2 1))),
  .inl (1, 8, .inr (.inl (S.2.2.2 2))),
  .inl (0, 8, .inl (S.2.2.1 18)),
  .inl (0, 8, .inl (S.2.2.1 19)),
  .inr (3, [.ref 1, .ref 4, .ref 42, .ref 43, .ref 44, .ref 45, .ref 46, .int (S.1 6), .int (S.1 7)]),
  .inl (1, 256, .inr (.inl (S.2.2.2 13))),
  .inl (0, 256, .inl (S.2.2.1 20)),
  .inl (0, 8, .inl (S.2.2.1 21)),
  .inl (0, 8, .inl (S.2.2.1 22)),
  .inl (0, 8, .inl (S.2.2.1 23)),
  .inr (7, [.int (S.1 8), .ref 48, .ref 49, .ref 50, .ref 51, .ref 52, .ref 53, .ref 54, .ref 55, .int (S.1 9), .ref 56, .ref 57, .long (S.2.1 0), .ref 58, .ref 59, .ref 60, .ref 61]),
  .inl (2, 64, .inl (S.2.2.1 24)),
  .inl (0, 3, .inl (S.2.2.1 25)),
  .inl (0, 64, .inl (S.2.2.1 26)),
  .inl (0, 8, .inl (S.2.2.1 27)),
  .inl (0, 8, .inl (S.2.2.1 28)),
  .inl (0, 8, .inl (S.2.2.1 29)),
  .inl (0, 16, .inl (S.2.2.1 30)),
  .inl (0, 16, .inl (S.2.2.1 31)),
  .inl (1, 110, .inr (.inl (S.2.2.2 14))),
  .inl (1, 16, .inr (.inl (S.2.2.2 15))),
  .inl (0, 64, .inl (S.2.2.1 32)),
  .inl (0, 256, .inl (S.2.2.1 33)),
  .inl (0, 8, .inl (S.2.2.1 34)),
  .inl (0, 8, .inl (S.2.2.1 35))]
abbrev wFI (ty : FieldType) (P : Int32 → St → Prop) : wl_Fn := wl_fin (some ty) (fun rv mh => ∃ x S2, rv = some (.int x) ∧ mh = enc S2 ∧ P x S2)
abbrev wFL (P : Int64 → St → Prop) : wl_Fn := wl_fin (some .long) (fun rv mh => ∃ x S2, rv = some (.long x) ∧ mh = enc S2 ∧ P x S2)
abbrev wFV (P : St → Prop) : wl_Fn := wl_fin none (fun rv mh => ∃ S2, rv = none ∧ mh = enc S2 ∧ P S2)
/-- a number that is a boolean's -/
abbrev wBo (v : Int32) : Prop := v = 0 ∨ v = 1
def wl_le : List Value → List Value → Prop
  | [], _ => True
  | _ :: _, [] => False
  | a :: l, b :: m => (wl_du a = true ∨ a = b) ∧ wl_le l m
theorem wl_le_get : ∀ {Ms Ls : List Value}, wl_le Ms Ls → ∀ (i : Nat) (v : Value), Ms[i]? = some v → wl_du v = false → Ls[i]? = some v
  | [], _, _, i, v, h, _ => by simp at h
  | _ :: _, [], h0, _, _, _, _ => h0.elim
  | a :: l, b :: m, h0, i, v, h, hd => by
    cases i with
    | zero =>
      rw [List.getElem?_cons_zero] at h ⊢
      cases h
      rcases h0.1 with z | z
      · rw [z] at hd; cases hd
      · rw [z]
    | succ i =>
      rw [List.getElem?_cons_succ] at h ⊢
      exact wl_le_get h0.2 i v h hd
section WPS
variable {cc : ByteArray} {own : String} {nL : Nat} {R : Room} {Fn : wl_Fn} {pc : Nat} {Ls rest : List Value} {mh : wl_H}
theorem wp_le {Ms : List Value} (h : wl_le Ms Ls) (k : Wp cc own nL R Fn pc Ms rest mh) : Wp cc own nL R Fn pc Ls rest mh := wp_less (wl_le_get h) k
theorem wp_iald2 {q n j : Nat} {f : Nat → Int32} {i : Int32} (hd : decode cc pc = .ok (.iaload, 1)) (hq : mh[q]? = some (.inl (0, n, .inl f))) (hin : vp_in i n) (hj : i.toNatClampNeg = j) (kk : Wp cc own nL R Fn (pc + 1) Ls (.int (f j) :: rest) mh) : Wp cc own nL R Fn pc Ls (.int i :: .ref q :: rest) mh := by
  subst hj
  exact wp_iald hd hq hin kk
theorem wp_zald2 {q n j : Nat} {f : Nat → Int32} {i : Int32} (hd : decode cc pc = .ok (.baload, 1)) (hq : mh[q]? = some (.inl (2, n, .inl f))) (hin : vp_in i n) (hj : i.toNatClampNeg = j) (kk : Wp cc own nL R Fn (pc + 1) Ls (.int (f j) :: rest) mh) : Wp cc own nL R Fn pc Ls (.int i :: .ref q :: rest) mh := by
  subst hj
  exact wp_zald hd hq hin kk
theorem wp_lald2 {q n j : Nat} {f : Nat → Int64} {i : Int32} (hd : decode cc pc = .ok (.laload, 1)) (hq : mh[q]? = some (.inl (1, n, .inr (.inl f)))) (hin : vp_in i n) (hj : i.toNatClampNeg = j) (kk : Wp cc own nL R Fn (pc + 1) Ls (.long (f j) :: rest) mh) : Wp cc own nL R Fn pc Ls (.int i :: .ref q :: rest) mh := by
  subst hj
  exact wp_lald hd hq hin kk
theorem wp_iast2 {q n j : Nat} {f : Nat → Int32} {i x : Int32} {mh2 : wl_H} (hd : decode cc pc = .ok (.iastore, 1)) (hq : mh[q]? = some (.inl (0, n, .inl f))) (hin : vp_in i n) (hj : i.toNatClampNeg = j) (hm : mh.set q (.inl (0, n, .inl (upd f j x))) = mh2) (kk : Wp cc own nL R Fn (pc + 1) Ls rest mh2) : Wp cc own nL R Fn pc Ls (.int x :: .int i :: .ref q :: rest) mh := by
  subst hj
  exact wp_iast hd hq hin hm kk
theorem wp_zast2 {q n j : Nat} {f : Nat → Int32} {i x : Int32} {mh2 : wl_H} (hd : decode cc pc = .ok (.bastore, 1)) (hq : mh[q]? = some (.inl (2, n, .inl f))) (hin : vp_in i n) (hj : i.toNatClampNeg = j) (hm : mh.set q (.inl (2, n, .inl (upd f j (vp_nar .boolean x)))) = mh2) (kk : Wp cc own nL R Fn (pc + 1) Ls rest mh2) : Wp cc own nL R Fn pc Ls (.int x :: .int i :: .ref q :: rest) mh := by
  subst hj
  exact wp_zast hd hq hin hm kk
theorem wp_last2 {q n j : Nat} {f : Nat → Int64} {i : Int32} {x : Int64} {mh2 : wl_H} (hd : decode cc pc = .ok (.lastore, 1)) (hq : mh[q]? = some (.inl (1, n, .inr (.inl f)))) (hin : vp_in i n) (hj : i.toNatClampNeg = j) (hm : mh.set q (.inl (1, n, .inr (.inl (vp_updL f j x)))) = mh2) (kk : Wp cc own nL R Fn (pc + 1) Ls rest mh2) : Wp cc own nL R Fn pc Ls (.long x :: .int i :: .ref q :: rest) mh := by
  subst hj
  exact wp_last hd hq hin hm kk
end WPS
theorem vp_in_lt {i : Int32} {n : Nat} (h : vp_in i n) : i.toNatClampNeg < n := Nat.not_le.mp fun q => h (Or.inr q)
theorem encG (S : St) {i : Int32} (h : vp_in i 8) : (enc S)[6 + i.toNatClampNeg]? = some (.inl (0, 8, .inl (S.2.2.1 (2 + i.toNatClampNeg)))) := by
  have h := vp_in_lt h
  generalize i.toNatClampNeg = p at h ⊢
  match p, h with
  | 0, _ => rfl
  | 1, _ => rfl
  | 2, _ => rfl
  | 3, _ => rfl
  | 4, _ => rfl
  | 5, _ => rfl
  | 6, _ => rfl
  | 7, _ => rfl
theorem encGs (S : St) {i : Int32} (h : vp_in i 8) (f : Nat → Int32) : (enc S).set (6 + i.toNatClampNeg) (.inl (0, 8, .inl f)) = enc (sA S (2 + i.toNatClampNeg) f) := by
  have h := vp_in_lt h
  generalize i.toNatClampNeg = p at h ⊢
  match p, h with
  | 0, _ => rfl
  | 1, _ => rfl
  | 2, _ => rfl
  | 3, _ => rfl
  | 4, _ => rfl
  | 5, _ => rfl
  | 6, _ => rfl
  | 7, _ => rfl
theorem encE (S : St) {i : Int32} (h : vp_in i 10) : (enc S)[23 + i.toNatClampNeg]? = some (.inl (1, 11, .inr (.inl (S.2.2.2 (3 + i.toNatClampNeg))))) := by
  have h := vp_in_lt h
  generalize i.toNatClampNeg = p at h ⊢
  match p, h with
  | 0, _ => rfl
  | 1, _ => rfl
  | 2, _ => rfl
  | 3, _ => rfl
  | 4, _ => rfl
  | 5, _ => rfl
  | 6, _ => rfl
  | 7, _ => rfl
  | 8, _ => rfl
  | 9, _ => rfl
theorem encEs (S : St) {i : Int32} (h : vp_in i 10) (f : Nat → Int64) : (enc S).set (23 + i.toNatClampNeg) (.inl (1, 11, .inr (.inl f))) = enc (sB S (3 + i.toNatClampNeg) f) := by
  have h := vp_in_lt h
  generalize i.toNatClampNeg = p at h ⊢
  match p, h with
  | 0, _ => rfl
  | 1, _ => rfl
  | 2, _ => rfl
  | 3, _ => rfl
  | 4, _ => rfl
  | 5, _ => rfl
  | 6, _ => rfl
  | 7, _ => rfl
  | 8, _ => rfl
  | 9, _ => rfl
theorem encR {i : Int32} {n b : Nat} (h : vp_in i n) : (fun j => if j < n then some (b + j) else none : Nat → Option Nat) i.toNatClampNeg = some (b + i.toNatClampNeg) := if_pos (vp_in_lt h)

