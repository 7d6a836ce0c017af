theorem vpd {i : Int32} {n : Nat} (h : decide (¬ (i < 0 ∨ n ≤ i.toNatClampNeg)) = true) : vp_in i n := by unfold vp_in; exact of_decide_eq_true h
theorem wBo_n {v : Int32} (h : v = 0 ∨ v = 1) : narrow .boolean (.int v) = .int v := by rcases h with rfl | rfl <;> rfl
theorem wBo_f {v : Int32} (h : v = 0 ∨ v = 1) : fits .boolean (.int v) = true := by rcases h with rfl | rfl <;> rfl
def wl_lrI (k : Nat) : Int32 := ([1, 1, 0] : List Int32).getD k 0
def wl_grI (k : Nat) : Int32 := ([4, 8, 100] : List Int32).getD k 0

def wfill {α : Type} (f : Nat → α) (n : Nat) (v : α) : Nat → α := fun j => if j < n then v else f j
def wus (x k : Int32) : Int32 := (x.toUInt32 >>> (k.toUInt32 &&& Int32.toUInt32 31)).toInt32
def wb1 (x : Int32) : Int32 := x - (wus x 1 &&& 1431655765)
def wb2 (x : Int32) : Int32 := (wb1 x &&& 858993459) + (wus (wb1 x) 2 &&& 858993459)
def wb3 (x : Int32) : Int32 := (wb2 x + wus (wb2 x) 4) &&& 252645135
def wb4 (x : Int32) : Int32 := wb3 x + wus (wb3 x) 8
def wb5 (x : Int32) : Int32 := wb4 x + wus (wb4 x) 16
def wbc (x : Int32) : Int32 := wb5 x &&& 63
abbrev wR0 : Room := { frames := 0, cells := 0, slots := 0, locals := 0 }
theorem bitc_body {Q : Option Value → wl_H → Prop} {x : Int32} {mh : wl_H} (h : Q (some (.int (wbc x))) mh) : Wp cJ6_bitCount_0f7a4 RJ6 1 wR0 (wl_fin (some .int) Q) 0 [.int x] [] mh := by
  refine wp_iload_n dJ6_bitCount_0f7a4_0 rfl rfl ?_
  refine wp_iload_n dJ6_bitCount_0f7a4_1 rfl rfl ?_
  refine wp_iconst (v := 1) dJ6_bitCount_0f7a4_2 (by decide) ?_
  refine wp_iushr dJ6_bitCount_0f7a4_3 ?_
  refine wp_ldcw dJ6_bitCount_0f7a4_4 kJ6_265 ?_
  refine wp_iand dJ6_bitCount_0f7a4_7 ?_
  refine wp_isub dJ6_bitCount_0f7a4_8 ?_
  refine wp_istore_n (Ms := [.int (wb1 x)]) dJ6_bitCount_0f7a4_9 rfl (by decide) rfl ?_
  refine wp_iload_n dJ6_bitCount_0f7a4_10 rfl rfl ?_
  refine wp_ldcw dJ6_bitCount_0f7a4_11 kJ6_266 ?_
  refine wp_iand dJ6_bitCount_0f7a4_14 ?_
  refine wp_iload_n dJ6_bitCount_0f7a4_15 rfl rfl ?_
  refine wp_iconst (v := 2) dJ6_bitCount_0f7a4_16 (by decide) ?_
  refine wp_iushr dJ6_bitCount_0f7a4_17 ?_
  refine wp_ldcw dJ6_bitCount_0f7a4_18 kJ6_266 ?_
  refine wp_iand dJ6_bitCount_0f7a4_21 ?_
  refine wp_iadd dJ6_bitCount_0f7a4_22 ?_
  refine wp_istore_n (Ms := [.int (wb2 x)]) dJ6_bitCount_0f7a4_23 rfl (by decide) rfl ?_
  refine wp_iload_n dJ6_bitCount_0f7a4_24 rfl rfl ?_
  refine wp_iload_n dJ6_bitCount_0f7a4_25 rfl rfl ?_
  refine wp_iconst (v := 4) dJ6_bitCount_0f7a4_26 (by decide) ?_
  refine wp_iushr dJ6_bitCount_0f7a4_27 ?_
  refine wp_iadd dJ6_bitCount_0f7a4_28 ?_
  refine wp_ldcw dJ6_bitCount_0f7a4_29 kJ6_267 ?_
  refine wp_iand dJ6_bitCount_0f7a4_32 ?_
  refine wp_istore_n (Ms := [.int (wb3 x)]) dJ6_bitCount_0f7a4_33 rfl (by decide) rfl ?_
  refine wp_iload_n dJ6_bitCount_0f7a4_34 rfl rfl ?_
  refine wp_iload_n dJ6_bitCount_0f7a4_35 rfl rfl ?_
  refine wp_bipush (v := 8) dJ6_bitCount_0f7a4_36 (by decide) ?_
  refine wp_iushr dJ6_bitCount_0f7a4_38 ?_
  refine wp_iadd dJ6_bitCount_0f7a4_39 ?_
  refine wp_istore_n (Ms := [.int (wb4 x)]) dJ6_bitCount_0f7a4_40 rfl (by decide) rfl ?_
  refine wp_iload_n dJ6_bitCount_0f7a4_41 rfl rfl ?_
  refine wp_iload_n dJ6_bitCount_0f7a4_42 rfl rfl ?_
  refine wp_bipush (v := 16) dJ6_bitCount_0f7a4_43 (by decide) ?_
  refine wp_iushr dJ6_bitCount_0f7a4_45 ?_
  refine wp_iadd dJ6_bitCount_0f7a4_46 ?_
  refine wp_istore_n (Ms := [.int (wb5 x)]) dJ6_bitCount_0f7a4_47 rfl (by decide) rfl ?_
  refine wp_iload_n dJ6_bitCount_0f7a4_48 rfl rfl ?_
  refine wp_bipush (v := 63) dJ6_bitCount_0f7a4_49 (by decide) ?_
  refine wp_iand dJ6_bitCount_0f7a4_51 ?_
  exact wp_iret dJ6_bitCount_0f7a4_52 rfl rfl h
theorem wfill_succ {f : Nat → Int32} {v : Int32} (i : Nat) : upd (wfill f i v) i v = wfill f (i + 1) v := by
  funext j
  unfold upd wfill
  by_cases h : j = i
  · subst h; simp
  · by_cases h2 : j < i
    · simp [h, h2, Nat.lt_succ_of_lt h2]
    · simp [h, h2, show ¬ j < i + 1 by omega]
theorem wfill_succL {f : Nat → Int64} {v : Int64} (i : Nat) : vp_updL (wfill f i v) i v = wfill f (i + 1) v := by
  funext j
  unfold vp_updL wfill
  by_cases h : j = i
  · subst h; simp
  · by_cases h2 : j < i
    · simp [h, h2, Nat.lt_succ_of_lt h2]
    · simp [h, h2, show ¬ j < i + 1 by omega]
theorem wfill_0 {α : Type} (f : Nat → α) (v : α) : wfill f 0 v = f := by
  funext j
  simp [wfill]
theorem set_self {mh : wl_H} {q : Nat} {e : va_E} (h : mh[q]? = some e) : mh.set q e = mh := by
  apply List.ext_getElem?
  intro j
  by_cases hj : q = j
  · subst hj; rw [List.getElem?_set_self (List.getElem?_eq_some_iff.mp h).1, h]
  · rw [List.getElem?_set_ne hj]
theorem fillI_loop {q n : Nat} {v : Int32} {f : Nat → Int32} {mh : wl_H} {Q : Option Value → wl_H → Prop} (hq : mh[q]? = some (.inl (0, n, .inl f))) (hn : n < 2 ^ 31) (hQ : Q none (mh.set q (.inl (0, n, .inl (wfill f n v))))) :
    ∀ k i, i + k = n → Wp cJ7_fill_53178 RJ7 4 wR0 (wl_fin none Q) 5 [.ref q, .int v, .int (nI i), .int (nI n)] [] (mh.set q (.inl (0, n, .inl (wfill f i v))))
  | 0, i, hi => by
    have e : i = n := by omega
    subst e
    refine wp_iload_n dJ7_fill_53178_5 rfl rfl ?_
    refine wp_iload_n dJ7_fill_53178_6 rfl rfl ?_
    refine wp_icmp_ge (tgt := 20) dJ7_fill_53178_7 (by decide) (fun c => ?_) (fun c => absurd (nI_le (Nat.le_refl i) hn) c)
    exact wp_vret dJ7_fill_53178_20 rfl hQ
  | k + 1, i, hi => by
    have hlt : i < n := by omega
    refine wp_iload_n dJ7_fill_53178_5 rfl rfl ?_
    refine wp_iload_n dJ7_fill_53178_6 rfl rfl ?_
    refine wp_icmp_ge (tgt := 20) dJ7_fill_53178_7 (by decide) (fun c => absurd c (nI_ge hlt hn)) (fun c => ?_)
    refine wp_aload_n dJ7_fill_53178_10 rfl rfl ?_
    refine wp_iload_n dJ7_fill_53178_11 rfl rfl ?_
    refine wp_iload_n dJ7_fill_53178_12 rfl rfl ?_
    have hl := (List.getElem?_eq_some_iff.mp hq).1
    refine wp_iast2 (j := i) (q := q) (mh2 := mh.set q (.inl (0, n, .inl (wfill f (i + 1) v)))) dJ7_fill_53178_13 (List.getElem?_set_self hl) (vp_in_nI hlt hn) (nI_clamp (by omega)) (by rw [List.set_set, wfill_succ]) ?_
    refine wp_iinc (Ms := [.ref q, .int v, .int (nI (i + 1)), .int (nI n)]) (v := nI (i + 1)) dJ7_fill_53178_14 rfl (nI_1 i) (by decide) rfl ?_
    refine wp_goto (tgt := 5) dJ7_fill_53178_17 (by decide) ?_
    exact fillI_loop hq hn hQ k (i + 1) (by omega)
theorem fillI_body {q n : Nat} {v : Int32} {f : Nat → Int32} {mh : wl_H} {Q : Option Value → wl_H → Prop} (hq : mh[q]? = some (.inl (0, n, .inl f))) (hn : n < 2 ^ 31) (hQ : Q none (mh.set q (.inl (0, n, .inl (wfill f n v))))) : Wp cJ7_fill_53178 RJ7 4 wR0 (wl_fin none Q) 0 [.ref q, .int v, .retAddr 0, .retAddr 0] [] mh := by
  refine wp_iconst (v := 0) dJ7_fill_53178_0 (by decide) ?_
  refine wp_istore_n (Ms := [.ref q, .int v, .int (nI 0), .retAddr 0]) dJ7_fill_53178_1 rfl (by decide) rfl ?_
  refine wp_aload_n dJ7_fill_53178_2 rfl rfl ?_
  refine wp_alen (q := q) (v := nI n) dJ7_fill_53178_3 hq rfl ?_
  refine wp_istore_n (Ms := [.ref q, .int v, .int (nI 0), .int (nI n)]) dJ7_fill_53178_4 rfl (by decide) rfl ?_
  have h := fillI_loop hq hn hQ n 0 (by omega)
  rw [wfill_0, set_self hq] at h
  exact h
theorem fillL_loop {q n : Nat} {v : Int64} {f : Nat → Int64} {mh : wl_H} {Q : Option Value → wl_H → Prop} (hq : mh[q]? = some (.inl (1, n, .inr (.inl f)))) (hn : n < 2 ^ 31) (hQ : Q none (mh.set q (.inl (1, n, .inr (.inl (wfill f n v)))))) :
    ∀ k i, i + k = n → Wp cJ7_fill_d0a16 RJ7 5 wR0 (wl_fin none Q) 6 [.ref q, .long v, .retAddr 0, .int (nI i), .int (nI n)] [] (mh.set q (.inl (1, n, .inr (.inl (wfill f i v)))))
  | 0, i, hi => by
    have e : i = n := by omega
    subst e
    refine wp_iload_n dJ7_fill_d0a16_6 rfl rfl ?_
    refine wp_iload dJ7_fill_d0a16_7 rfl ?_
    refine wp_icmp_ge (tgt := 22) dJ7_fill_d0a16_9 (by decide) (fun c => ?_) (fun c => absurd (nI_le (Nat.le_refl i) hn) c)
    exact wp_vret dJ7_fill_d0a16_22 rfl hQ
  | k + 1, i, hi => by
    have hlt : i < n := by omega
    refine wp_iload_n dJ7_fill_d0a16_6 rfl rfl ?_
    refine wp_iload dJ7_fill_d0a16_7 rfl ?_
    refine wp_icmp_ge (tgt := 22) dJ7_fill_d0a16_9 (by decide) (fun c => absurd c (nI_ge hlt hn)) (fun c => ?_)
    refine wp_aload_n dJ7_fill_d0a16_12 rfl rfl ?_
    refine wp_iload_n dJ7_fill_d0a16_13 rfl rfl ?_
    refine wp_lload_n dJ7_fill_d0a16_14 rfl rfl ?_
    have hl := (List.getElem?_eq_some_iff.mp hq).1
    refine wp_last2 (j := i) (q := q) (mh2 := mh.set q (.inl (1, n, .inr (.inl (wfill f (i + 1) v))))) dJ7_fill_d0a16_15 (List.getElem?_set_self hl) (vp_in_nI hlt hn) (nI_clamp (by omega)) (by rw [List.set_set, wfill_succL]) ?_
    refine wp_iinc (Ms := [.ref q, .long v, .retAddr 0, .int (nI (i + 1)), .int (nI n)]) (v := nI (i + 1)) dJ7_fill_d0a16_16 rfl (nI_1 i) (by decide) rfl ?_
    refine wp_goto (tgt := 6) dJ7_fill_d0a16_19 (by decide) ?_
    exact fillL_loop hq hn hQ k (i + 1) (by omega)
theorem fillL_body {q n : Nat} {v : Int64} {f : Nat → Int64} {mh : wl_H} {Q : Option Value → wl_H → Prop} (hq : mh[q]? = some (.inl (1, n, .inr (.inl f)))) (hn : n < 2 ^ 31) (hQ : Q none (mh.set q (.inl (1, n, .inr (.inl (wfill f n v)))))) : Wp cJ7_fill_d0a16 RJ7 5 wR0 (wl_fin none Q) 0 [.ref q, .long v, .retAddr 0, .retAddr 0, .retAddr 0] [] mh := by
  refine wp_iconst (v := 0) dJ7_fill_d0a16_0 (by decide) ?_
  refine wp_istore_n (Ms := [.ref q, .long v, .retAddr 0, .int (nI 0), .retAddr 0]) dJ7_fill_d0a16_1 rfl (by decide) rfl ?_
  refine wp_aload_n dJ7_fill_d0a16_2 rfl rfl ?_
  refine wp_alen (q := q) (v := nI n) dJ7_fill_d0a16_3 hq rfl ?_
  refine wp_istore (Ms := [.ref q, .long v, .retAddr 0, .int (nI 0), .int (nI n)]) dJ7_fill_d0a16_4 (by decide) rfl ?_
  have h := fillL_loop hq hn hQ n 0 (by omega)
  rw [wfill_0, set_self hq] at h
  exact h
section WPJ
variable {cc : ByteArray} {own : String} {nL : Nat} {R : Room} {Fn : wl_Fn} {pc : Nat} {Ls rest : List Value} {mh : wl_H}
theorem wp_bitc {idx : Nat} {x : Int32} (hd : decode cc pc = .ok (.invokestatic idx, 3)) (hw : Cond.methodLink own idx yJ6_bitCount_0f7a4 ∈ wl_gw ∧ Cond.static yJ6_bitCount_0f7a4 ∈ wl_gw) (hrm : wl_rm R wR0 1) (hcat : (rest.map fun v => v.category).sum ≤ 8) (kk : Wp cc own nL R Fn (pc + 3) Ls (.int (wbc x) :: rest) mh) : Wp cc own nL R Fn pc Ls (.int x :: rest) mh := by
  refine wp_callS (As := [.int x]) (rest := rest) (Q2 := fun rv m2 => rv = some (.int (wbc x)) ∧ m2 = mh) hd mJ6_bitCount_0f7a4 hw hrm rfl rfl (Nat.le_of_ble_eq_true rfl) hcat (bitc_body ⟨rfl, rfl⟩) ?_
  rintro rv m2 ⟨rfl, rfl⟩
  exact kk
theorem wp_fillI {idx q n : Nat} {v : Int32} {f : Nat → Int32} {mh2 : wl_H} (hd : decode cc pc = .ok (.invokestatic idx, 3)) (hw : Cond.methodLink own idx yJ7_fill_53178 ∈ wl_gw ∧ Cond.static yJ7_fill_53178 ∈ wl_gw) (hrm : wl_rm R wR0 4) (hq : mh[q]? = some (.inl (0, n, .inl f))) (hn : n < 2 ^ 31) (hm : mh.set q (.inl (0, n, .inl (wfill f n v))) = mh2) (hcat : (rest.map fun v => v.category).sum ≤ 8) (kk : Wp cc own nL R Fn (pc + 3) Ls rest mh2) : Wp cc own nL R Fn pc Ls (.int v :: .ref q :: rest) mh := by
  refine wp_callS (As := [.ref q, .int v]) (rest := rest) (Q2 := fun rv m2 => rv = none ∧ m2 = mh2) hd mJ7_fill_53178 hw hrm rfl rfl (Nat.le_of_ble_eq_true rfl) hcat (fillI_body hq hn ⟨rfl, hm⟩) ?_
  rintro rv m2 ⟨rfl, rfl⟩
  exact kk
theorem wp_fillL {idx q n : Nat} {v : Int64} {f : Nat → Int64} {mh2 : wl_H} (hd : decode cc pc = .ok (.invokestatic idx, 3)) (hw : Cond.methodLink own idx yJ7_fill_d0a16 ∈ wl_gw ∧ Cond.static yJ7_fill_d0a16 ∈ wl_gw) (hrm : wl_rm R wR0 5) (hq : mh[q]? = some (.inl (1, n, .inr (.inl f)))) (hn : n < 2 ^ 31) (hm : mh.set q (.inl (1, n, .inr (.inl (wfill f n v)))) = mh2) (hcat : (rest.map fun v => v.category).sum ≤ 8) (kk : Wp cc own nL R Fn (pc + 3) Ls rest mh2) : Wp cc own nL R Fn pc Ls (.long v :: .ref q :: rest) mh := by
  refine wp_callS (As := [.ref q, .long v]) (rest := rest) (Q2 := fun rv m2 => rv = none ∧ m2 = mh2) hd mJ7_fill_d0a16 hw hrm rfl rfl (Nat.le_of_ble_eq_true rfl) hcat (fillL_body hq hn ⟨rfl, hm⟩) ?_
  rintro rv m2 ⟨rfl, rfl⟩
  exact kk
end WPJ
