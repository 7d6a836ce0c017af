/-- what the cells hold: ints, longs, rows of ints, rows of longs -/
abbrev St : Type := (Nat → Int32) × (Nat → Int64) × (Nat → Nat → Int32) × (Nat → Nat → Int64)
abbrev sI (S : St) (k : Nat) (v : Int32) : St := (va_up S.1 k v, S.2.1, S.2.2.1, S.2.2.2)
abbrev sJ (S : St) (k : Nat) (v : Int64) : St := (S.1, va_up S.2.1 k v, S.2.2.1, S.2.2.2)
abbrev sA (S : St) (k : Nat) (v : Nat → Int32) : St := (S.1, S.2.1, va_up S.2.2.1 k v, S.2.2.2)
abbrev sB (S : St) (k : Nat) (v : Nat → Int64) : St := (S.1, S.2.1, S.2.2.1, va_up S.2.2.2 k v)
/-- the 62 cells: the class (0 to 46) and the reference (47 to 61) -/
def enc (S : St) : wl_H := [.inr (6, [.ref 1, .ref 4, .ref 15, .ref 20, .ref 41]),
  .inr (1, [.int (S.1 0), .ref 2, .ref 3]),
  .inl (0, 8, .inl (S.2.2.1 0)),
  .inl (0, 3, .inl (S.2.2.1 1)),
  .inr (2, [.ref 1, .ref 5, .ref 14]),
  .inl (3, 8, .inr (.inr (.inr (.inr (fun j => if j < 8 then some (6 + j) else none))))),
  .inl (0, 8, .inl (S.2.2.1 2)),
  .inl (0, 8, .inl (S.2.2.1 3)),
  .inl (0, 8, .inl (S.2.2.1 4)),
  .inl (0, 8, .inl (S.2.2.1 5)),
  .inl (0, 8, .inl (S.2.2.1 6)),
  .inl (0, 8, .inl (S.2.2.1 7)),
  .inl (0, 8, .inl (S.2.2.1 8)),
  .inl (0, 8, .inl (S.2.2.1 9)),
  .inl (0, 8, .inl (S.2.2.1 10)),
  .inr (5, [.ref 1, .ref 16, .ref 17, .ref 18, .ref 19, .int (S.1 1), .int (S.1 2)]),
  .inl (0, 8, .inl (S.2.2.1 11)),
  .inl (0, 8, .inl (S.2.2.1 12)),
  .inl (0, 8, .inl (S.2.2.1 13)),
  .inl (0, 8, .inl (S.2.2.1 14)),
  .inr (4, [.ref 1, .ref 4, .ref 21, .ref 33, .ref 34, .ref 35, .ref 36, .ref 37, .ref 38, .ref 39, .ref 40, .int (S.1 3), .int (S.1 4)]),
  .inr (0, [.ref 22, .int (S.1 5)]),
  .inl (4, 10, .inr (.inr (.inr (.inr (fun j => if j < 10 then some (23 + j) else none))))),
  .inl (1, 11, .inr (.inl (S.2.2.2 3))),
  .inl (1, 11, .inr (.inl (S.2.2.2 4))),
  .inl (1, 11, .inr (.inl (S.2.2.2 5))),
  .inl (1, 11, .inr (.inl (S.2.2.2 6))),
  .inl (1, 11, .inr (.inl (S.2.2.2 7))),
  .inl (1, 11, .inr (.inl (S.2.2.2 8))),
  .inl (1, 11, .inr (.inl (S.2.2.2 9))),
  .inl (1, 11, .inr (.inl (S.2.2.2 10))),
  .inl (1, 11, .inr (.inl (S.2.2.2 11))),
  .inl (1, 11, .inr (.inl (S.2.2.2 12))),
  .inl (0, 8, .inl (S.2.2.1 15)),
  .inl (0, 8, .inl (S.2.2.1 16)),
  .inl (0, 8, .inl (S.2.2.1 17)),
  .inl (1, 8, .inr (.inl (S.2.2.2 0))),
  .inl (1, 8, .inr (.inl (S.2.2.2 1))),
  .inl (1, 8, .inr (.inl (S.2.2.2 2))),
  .inl (0, 8, .inl (S.2.2.1 18)),
  .inl (0, 8, .inl (S.2.2.1 19)),
  .inr (3, [.ref 1, .ref 4, .ref 42, .ref 43, .ref 44, .ref 45, .ref 46, .int (S.1 6), .int (S.1 7)]),
  .inl (1, 256, .inr (.inl (S.2.2.2 13))),
  .inl (0, 256, .inl (S.2.2.1 20)),
  .inl (0, 8, .inl (S.2.2.1 21)),
  .inl (0, 8, .inl (S.2.2.1 22)),
  .inl (0, 8, .inl (S.2.2.1 23)),
  .inr (7, [.int (S.1 8), .ref 48, .ref 49, .ref 50, .ref 51, .ref 52, .ref 53, .ref 54, .ref 55, .int (S.1 9), .ref 56, .ref 57, .long (S.2.1 0), .ref 58, .ref 59, .ref 60, .ref 61]),
  .inl (2, 64, .inl (S.2.2.1 24)),
  .inl (0, 3, .inl (S.2.2.1 25)),
  .inl (0, 64, .inl (S.2.2.1 26)),
  .inl (0, 8, .inl (S.2.2.1 27)),
  .inl (0, 8, .inl (S.2.2.1 28)),
  .inl (0, 8, .inl (S.2.2.1 29)),
  .inl (0, 16, .inl (S.2.2.1 30)),
  .inl (0, 16, .inl (S.2.2.1 31)),
  .inl (1, 110, .inr (.inl (S.2.2.2 14))),
  .inl (1, 16, .inr (.inl (S.2.2.2 15))),
  .inl (0, 64, .inl (S.2.2.1 32)),
  .inl (0, 256, .inl (S.2.2.1 33)),
  .inl (0, 8, .inl (S.2.2.1 34)),
  .inl (0, 8, .inl (S.2.2.1 35))]
abbrev wFI (ty : FieldType) (P : Int32 → St → Prop) : wl_Fn := wl_fin (some ty) (fun rv mh => ∃ x S2, rv = some (.int x) ∧ mh = enc S2 ∧ P x S2)
abbrev wFL (P : Int64 → St → Prop) : wl_Fn := wl_fin (some .long) (fun rv mh => ∃ x S2, rv = some (.long x) ∧ mh = enc S2 ∧ P x S2)
abbrev wFV (P : St → Prop) : wl_Fn := wl_fin none (fun rv mh => ∃ S2, rv = none ∧ mh = enc S2 ∧ P S2)
/-- a number that is a boolean's -/
abbrev wBo (v : Int32) : Prop := v = 0 ∨ v = 1
def wl_le : List Value → List Value → Prop
  | [], _ => True
  | _ :: _, [] => False
  | a :: l, b :: m => (wl_du a = true ∨ a = b) ∧ wl_le l m
theorem wl_le_get : ∀ {Ms Ls : List Value}, wl_le Ms Ls → ∀ (i : Nat) (v : Value), Ms[i]? = some v → wl_du v = false → Ls[i]? = some v
  | [], _, _, i, v, h, _ => by simp at h
  | _ :: _, [], h0, _, _, _, _ => h0.elim
  | a :: l, b :: m, h0, i, v, h, hd => by
    cases i with
    | zero =>
      rw [List.getElem?_cons_zero] at h ⊢
      cases h
      rcases h0.1 with z | z
      · rw [z] at hd; cases hd
      · rw [z]
    | succ i =>
      rw [List.getElem?_cons_succ] at h ⊢
      exact wl_le_get h0.2 i v h hd
section WPS
variable {cc : ByteArray} {own : String} {nL : Nat} {R : Room} {Fn : wl_Fn} {pc : Nat} {Ls rest : List Value} {mh : wl_H}
theorem wp_le {Ms : List Value} (h : wl_le Ms Ls) (k : Wp cc own nL R Fn pc Ms rest mh) : Wp cc own nL R Fn pc Ls rest mh := wp_less (wl_le_get h) k
theorem wp_iald2 {q n j : Nat} {f : Nat → Int32} {i : Int32} (hd : decode cc pc = .ok (.iaload, 1)) (hq : mh[q]? = some (.inl (0, n, .inl f))) (hin : vp_in i n) (hj : i.toNatClampNeg = j) (kk : Wp cc own nL R Fn (pc + 1) Ls (.int (f j) :: rest) mh) : Wp cc own nL R Fn pc Ls (.int i :: .ref q :: rest) mh := by
  subst hj
  exact wp_iald hd hq hin kk
theorem wp_zald2 {q n j : Nat} {f : Nat → Int32} {i : Int32} (hd : decode cc pc = .ok (.baload, 1)) (hq : mh[q]? = some (.inl (2, n, .inl f))) (hin : vp_in i n) (hj : i.toNatClampNeg = j) (kk : Wp cc own nL R Fn (pc + 1) Ls (.int (f j) :: rest) mh) : Wp cc own nL R Fn pc Ls (.int i :: .ref q :: rest) mh := by
  subst hj
  exact wp_zald hd hq hin kk
theorem wp_lald2 {q n j : Nat} {f : Nat → Int64} {i : Int32} (hd : decode cc pc = .ok (.laload, 1)) (hq : mh[q]? = some (.inl (1, n, .inr (.inl f)))) (hin : vp_in i n) (hj : i.toNatClampNeg = j) (kk : Wp cc own nL R Fn (pc + 1) Ls (.long (f j) :: rest) mh) : Wp cc own nL R Fn pc Ls (.int i :: .ref q :: rest) mh := by
  subst hj
  exact wp_lald hd hq hin kk
theorem wp_iast2 {q n j : Nat} {f : Nat → Int32} {i x : Int32} {mh2 : wl_H} (hd : decode cc pc = .ok (.iastore, 1)) (hq : mh[q]? = some (.inl (0, n, .inl f))) (hin : vp_in i n) (hj : i.toNatClampNeg = j) (hm : mh.set q (.inl (0, n, .inl (upd f j x))) = mh2) (kk : Wp cc own nL R Fn (pc + 1) Ls rest mh2) : Wp cc own nL R Fn pc Ls (.int x :: .int i :: .ref q :: rest) mh := by
  subst hj
  exact wp_iast hd hq hin hm kk
theorem wp_zast2 {q n j : Nat} {f : Nat → Int32} {i x : Int32} {mh2 : wl_H} (hd : decode cc pc = .ok (.bastore, 1)) (hq : mh[q]? = some (.inl (2, n, .inl f))) (hin : vp_in i n) (hj : i.toNatClampNeg = j) (hm : mh.set q (.inl (2, n, .inl (upd f j (vp_nar .boolean x)))) = mh2) (kk : Wp cc own nL R Fn (pc + 1) Ls rest mh2) : Wp cc own nL R Fn pc Ls (.int x :: .int i :: .ref q :: rest) mh := by
  subst hj
  exact wp_zast hd hq hin hm kk
theorem wp_last2 {q n j : Nat} {f : Nat → Int64} {i : Int32} {x : Int64} {mh2 : wl_H} (hd : decode cc pc = .ok (.lastore, 1)) (hq : mh[q]? = some (.inl (1, n, .inr (.inl f)))) (hin : vp_in i n) (hj : i.toNatClampNeg = j) (hm : mh.set q (.inl (1, n, .inr (.inl (vp_updL f j x)))) = mh2) (kk : Wp cc own nL R Fn (pc + 1) Ls rest mh2) : Wp cc own nL R Fn pc Ls (.long x :: .int i :: .ref q :: rest) mh := by
  subst hj
  exact wp_last hd hq hin hm kk
end WPS
theorem vp_in_lt {i : Int32} {n : Nat} (h : vp_in i n) : i.toNatClampNeg < n := Nat.not_le.mp fun q => h (Or.inr q)
theorem encG (S : St) {i : Int32} (h : vp_in i 8) : (enc S)[6 + i.toNatClampNeg]? = some (.inl (0, 8, .inl (S.2.2.1 (2 + i.toNatClampNeg)))) := by
  have h := vp_in_lt h
  generalize i.toNatClampNeg = p at h ⊢
  match p, h with
  | 0, _ => rfl
  | 1, _ => rfl
  | 2, _ => rfl
  | 3, _ => rfl
  | 4, _ => rfl
  | 5, _ => rfl
  | 6, _ => rfl
  | 7, _ => rfl
theorem encGs (S : St) {i : Int32} (h : vp_in i 8) (f : Nat → Int32) : (enc S).set (6 + i.toNatClampNeg) (.inl (0, 8, .inl f)) = enc (sA S (2 + i.toNatClampNeg) f) := by
  have h := vp_in_lt h
  generalize i.toNatClampNeg = p at h ⊢
  match p, h with
  | 0, _ => rfl
  | 1, _ => rfl
  | 2, _ => rfl
  | 3, _ => rfl
  | 4, _ => rfl
  | 5, _ => rfl
  | 6, _ => rfl
  | 7, _ => rfl
theorem encE (S : St) {i : Int32} (h : vp_in i 10) : (enc S)[23 + i.toNatClampNeg]? = some (.inl (1, 11, .inr (.inl (S.2.2.2 (3 + i.toNatClampNeg))))) := by
  have h := vp_in_lt h
  generalize i.toNatClampNeg = p at h ⊢
  match p, h with
  | 0, _ => rfl
  | 1, _ => rfl
  | 2, _ => rfl
  | 3, _ => rfl
  | 4, _ => rfl
  | 5, _ => rfl
  | 6, _ => rfl
  | 7, _ => rfl
  | 8, _ => rfl
  | 9, _ => rfl
theorem encEs (S : St) {i : Int32} (h : vp_in i 10) (f : Nat → Int64) : (enc S).set (23 + i.toNatClampNeg) (.inl (1, 11, .inr (.inl f))) = enc (sB S (3 + i.toNatClampNeg) f) := by
  have h := vp_in_lt h
  generalize i.toNatClampNeg = p at h ⊢
  match p, h with
  | 0, _ => rfl
  | 1, _ => rfl
  | 2, _ => rfl
  | 3, _ => rfl
  | 4, _ => rfl
  | 5, _ => rfl
  | 6, _ => rfl
  | 7, _ => rfl
  | 8, _ => rfl
  | 9, _ => rfl
theorem encR {i : Int32} {n b : Nat} (h : vp_in i n) : (fun j => if j < n then some (b + j) else none : Nat → Option Nat) i.toNatClampNeg = some (b + i.toNatClampNeg) := if_pos (vp_in_lt h)

theorem eo_1_0 (S : St) (v : Int32) : (enc S).set 1 (.inr (1, ([.int (S.1 0), .ref 2, .ref 3] : List Value).set 0 (.int v))) = enc (sI S 0 v) := rfl
theorem es_2 (S : St) (f : Nat → Int32) : (enc S).set 2 (.inl (0, 8, .inl f)) = enc (sA S 0 f) := rfl
theorem es_3 (S : St) (f : Nat → Int32) : (enc S).set 3 (.inl (0, 3, .inl f)) = enc (sA S 1 f) := rfl
theorem es_6 (S : St) (f : Nat → Int32) : (enc S).set 6 (.inl (0, 8, .inl f)) = enc (sA S 2 f) := rfl
theorem es_7 (S : St) (f : Nat → Int32) : (enc S).set 7 (.inl (0, 8, .inl f)) = enc (sA S 3 f) := rfl
theorem es_8 (S : St) (f : Nat → Int32) : (enc S).set 8 (.inl (0, 8, .inl f)) = enc (sA S 4 f) := rfl
theorem es_9 (S : St) (f : Nat → Int32) : (enc S).set 9 (.inl (0, 8, .inl f)) = enc (sA S 5 f) := rfl
theorem es_10 (S : St) (f : Nat → Int32) : (enc S).set 10 (.inl (0, 8, .inl f)) = enc (sA S 6 f) := rfl
theorem es_11 (S : St) (f : Nat → Int32) : (enc S).set 11 (.inl (0, 8, .inl f)) = enc (sA S 7 f) := rfl
theorem es_12 (S : St) (f : Nat → Int32) : (enc S).set 12 (.inl (0, 8, .inl f)) = enc (sA S 8 f) := rfl
theorem es_13 (S : St) (f : Nat → Int32) : (enc S).set 13 (.inl (0, 8, .inl f)) = enc (sA S 9 f) := rfl
theorem es_14 (S : St) (f : Nat → Int32) : (enc S).set 14 (.inl (0, 8, .inl f)) = enc (sA S 10 f) := rfl
theorem eo_15_5 (S : St) (v : Int32) : (enc S).set 15 (.inr (5, ([.ref 1, .ref 16, .ref 17, .ref 18, .ref 19, .int (S.1 1), .int (S.1 2)] : List Value).set 5 (.int v))) = enc (sI S 1 v) := rfl
theorem eo_15_6 (S : St) (v : Int32) : (enc S).set 15 (.inr (5, ([.ref 1, .ref 16, .ref 17, .ref 18, .ref 19, .int (S.1 1), .int (S.1 2)] : List Value).set 6 (.int v))) = enc (sI S 2 v) := rfl
theorem es_16 (S : St) (f : Nat → Int32) : (enc S).set 16 (.inl (0, 8, .inl f)) = enc (sA S 11 f) := rfl
theorem es_17 (S : St) (f : Nat → Int32) : (enc S).set 17 (.inl (0, 8, .inl f)) = enc (sA S 12 f) := rfl
theorem es_18 (S : St) (f : Nat → Int32) : (enc S).set 18 (.inl (0, 8, .inl f)) = enc (sA S 13 f) := rfl
theorem es_19 (S : St) (f : Nat → Int32) : (enc S).set 19 (.inl (0, 8, .inl f)) = enc (sA S 14 f) := rfl
theorem eo_20_11 (S : St) (v : Int32) : (enc S).set 20 (.inr (4, ([.ref 1, .ref 4, .ref 21, .ref 33, .ref 34, .ref 35, .ref 36, .ref 37, .ref 38, .ref 39, .ref 40, .int (S.1 3), .int (S.1 4)] : List Value).set 11 (.int v))) = enc (sI S 3 v) := rfl
theorem eo_20_12 (S : St) (v : Int32) : (enc S).set 20 (.inr (4, ([.ref 1, .ref 4, .ref 21, .ref 33, .ref 34, .ref 35, .ref 36, .ref 37, .ref 38, .ref 39, .ref 40, .int (S.1 3), .int (S.1 4)] : List Value).set 12 (.int v))) = enc (sI S 4 v) := rfl
theorem eo_21_1 (S : St) (v : Int32) : (enc S).set 21 (.inr (0, ([.ref 22, .int (S.1 5)] : List Value).set 1 (.int v))) = enc (sI S 5 v) := rfl
theorem es_23 (S : St) (f : Nat → Int64) : (enc S).set 23 (.inl (1, 11, .inr (.inl f))) = enc (sB S 3 f) := rfl
theorem es_24 (S : St) (f : Nat → Int64) : (enc S).set 24 (.inl (1, 11, .inr (.inl f))) = enc (sB S 4 f) := rfl
theorem es_25 (S : St) (f : Nat → Int64) : (enc S).set 25 (.inl (1, 11, .inr (.inl f))) = enc (sB S 5 f) := rfl
theorem es_26 (S : St) (f : Nat → Int64) : (enc S).set 26 (.inl (1, 11, .inr (.inl f))) = enc (sB S 6 f) := rfl
theorem es_27 (S : St) (f : Nat → Int64) : (enc S).set 27 (.inl (1, 11, .inr (.inl f))) = enc (sB S 7 f) := rfl
theorem es_28 (S : St) (f : Nat → Int64) : (enc S).set 28 (.inl (1, 11, .inr (.inl f))) = enc (sB S 8 f) := rfl
theorem es_29 (S : St) (f : Nat → Int64) : (enc S).set 29 (.inl (1, 11, .inr (.inl f))) = enc (sB S 9 f) := rfl
theorem es_30 (S : St) (f : Nat → Int64) : (enc S).set 30 (.inl (1, 11, .inr (.inl f))) = enc (sB S 10 f) := rfl
theorem es_31 (S : St) (f : Nat → Int64) : (enc S).set 31 (.inl (1, 11, .inr (.inl f))) = enc (sB S 11 f) := rfl
theorem es_32 (S : St) (f : Nat → Int64) : (enc S).set 32 (.inl (1, 11, .inr (.inl f))) = enc (sB S 12 f) := rfl
theorem es_33 (S : St) (f : Nat → Int32) : (enc S).set 33 (.inl (0, 8, .inl f)) = enc (sA S 15 f) := rfl
theorem es_34 (S : St) (f : Nat → Int32) : (enc S).set 34 (.inl (0, 8, .inl f)) = enc (sA S 16 f) := rfl
theorem es_35 (S : St) (f : Nat → Int32) : (enc S).set 35 (.inl (0, 8, .inl f)) = enc (sA S 17 f) := rfl
theorem es_36 (S : St) (f : Nat → Int64) : (enc S).set 36 (.inl (1, 8, .inr (.inl f))) = enc (sB S 0 f) := rfl
theorem es_37 (S : St) (f : Nat → Int64) : (enc S).set 37 (.inl (1, 8, .inr (.inl f))) = enc (sB S 1 f) := rfl
theorem es_38 (S : St) (f : Nat → Int64) : (enc S).set 38 (.inl (1, 8, .inr (.inl f))) = enc (sB S 2 f) := rfl
theorem es_39 (S : St) (f : Nat → Int32) : (enc S).set 39 (.inl (0, 8, .inl f)) = enc (sA S 18 f) := rfl
theorem es_40 (S : St) (f : Nat → Int32) : (enc S).set 40 (.inl (0, 8, .inl f)) = enc (sA S 19 f) := rfl
theorem eo_41_7 (S : St) (v : Int32) : (enc S).set 41 (.inr (3, ([.ref 1, .ref 4, .ref 42, .ref 43, .ref 44, .ref 45, .ref 46, .int (S.1 6), .int (S.1 7)] : List Value).set 7 (.int v))) = enc (sI S 6 v) := rfl
theorem eo_41_8 (S : St) (v : Int32) : (enc S).set 41 (.inr (3, ([.ref 1, .ref 4, .ref 42, .ref 43, .ref 44, .ref 45, .ref 46, .int (S.1 6), .int (S.1 7)] : List Value).set 8 (.int v))) = enc (sI S 7 v) := rfl
theorem es_42 (S : St) (f : Nat → Int64) : (enc S).set 42 (.inl (1, 256, .inr (.inl f))) = enc (sB S 13 f) := rfl
theorem es_43 (S : St) (f : Nat → Int32) : (enc S).set 43 (.inl (0, 256, .inl f)) = enc (sA S 20 f) := rfl
theorem es_44 (S : St) (f : Nat → Int32) : (enc S).set 44 (.inl (0, 8, .inl f)) = enc (sA S 21 f) := rfl
theorem es_45 (S : St) (f : Nat → Int32) : (enc S).set 45 (.inl (0, 8, .inl f)) = enc (sA S 22 f) := rfl
theorem es_46 (S : St) (f : Nat → Int32) : (enc S).set 46 (.inl (0, 8, .inl f)) = enc (sA S 23 f) := rfl
theorem eo_47_0 (S : St) (v : Int32) : (enc S).set 47 (.inr (7, ([.int (S.1 8), .ref 48, .ref 49, .ref 50, .ref 51, .ref 52, .ref 53, .ref 54, .ref 55, .int (S.1 9), .ref 56, .ref 57, .long (S.2.1 0), .ref 58, .ref 59, .ref 60, .ref 61] : List Value).set 0 (.int v))) = enc (sI S 8 v) := rfl
theorem eo_47_9 (S : St) (v : Int32) : (enc S).set 47 (.inr (7, ([.int (S.1 8), .ref 48, .ref 49, .ref 50, .ref 51, .ref 52, .ref 53, .ref 54, .ref 55, .int (S.1 9), .ref 56, .ref 57, .long (S.2.1 0), .ref 58, .ref 59, .ref 60, .ref 61] : List Value).set 9 (.int v))) = enc (sI S 9 v) := rfl
theorem eo_47_12 (S : St) (v : Int64) : (enc S).set 47 (.inr (7, ([.int (S.1 8), .ref 48, .ref 49, .ref 50, .ref 51, .ref 52, .ref 53, .ref 54, .ref 55, .int (S.1 9), .ref 56, .ref 57, .long (S.2.1 0), .ref 58, .ref 59, .ref 60, .ref 61] : List Value).set 12 (.long v))) = enc (sJ S 0 v) := rfl
theorem es_48 (S : St) (f : Nat → Int32) : (enc S).set 48 (.inl (2, 64, .inl f)) = enc (sA S 24 f) := rfl
theorem es_49 (S : St) (f : Nat → Int32) : (enc S).set 49 (.inl (0, 3, .inl f)) = enc (sA S 25 f) := rfl
theorem es_50 (S : St) (f : Nat → Int32) : (enc S).set 50 (.inl (0, 64, .inl f)) = enc (sA S 26 f) := rfl
theorem es_51 (S : St) (f : Nat → Int32) : (enc S).set 51 (.inl (0, 8, .inl f)) = enc (sA S 27 f) := rfl
theorem es_52 (S : St) (f : Nat → Int32) : (enc S).set 52 (.inl (0, 8, .inl f)) = enc (sA S 28 f) := rfl
theorem es_53 (S : St) (f : Nat → Int32) : (enc S).set 53 (.inl (0, 8, .inl f)) = enc (sA S 29 f) := rfl
theorem es_54 (S : St) (f : Nat → Int32) : (enc S).set 54 (.inl (0, 16, .inl f)) = enc (sA S 30 f) := rfl
theorem es_55 (S : St) (f : Nat → Int32) : (enc S).set 55 (.inl (0, 16, .inl f)) = enc (sA S 31 f) := rfl
theorem es_56 (S : St) (f : Nat → Int64) : (enc S).set 56 (.inl (1, 110, .inr (.inl f))) = enc (sB S 14 f) := rfl
theorem es_57 (S : St) (f : Nat → Int64) : (enc S).set 57 (.inl (1, 16, .inr (.inl f))) = enc (sB S 15 f) := rfl
theorem es_58 (S : St) (f : Nat → Int32) : (enc S).set 58 (.inl (0, 64, .inl f)) = enc (sA S 32 f) := rfl
theorem es_59 (S : St) (f : Nat → Int32) : (enc S).set 59 (.inl (0, 256, .inl f)) = enc (sA S 33 f) := rfl
theorem es_60 (S : St) (f : Nat → Int32) : (enc S).set 60 (.inl (0, 8, .inl f)) = enc (sA S 34 f) := rfl
theorem es_61 (S : St) (f : Nat → Int32) : (enc S).set 61 (.inl (0, 8, .inl f)) = enc (sA S 35 f) := rfl
