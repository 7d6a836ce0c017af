abbrev rX4_ofMarker : Room := { frames := 4, cells := 0, slots := 0, locals := 92 }
abbrev wX4_ofMarker (P : Int32 → St → Prop) (pc : Nat) (Ls stk : List Value) (S : St) : Prop := Wp cX4_ofMarker RX4 2 rX4_ofMarker (wFI .int P) pc Ls stk (enc S)
abbrev tX4_ofMarker (a0 : Int32) (S : St) (P : Int32 → St → Prop) : Prop := wX4_ofMarker P 0 (wl_en [.ref 20, .int a0] 2) [] S
set_option maxRecDepth 100000 in
theorem bX4_ofMarker_0 {P : Int32 → St → Prop} {S : St} (a0 : Int32) (h : tX4_refresh  S (fun S1 => tX4_whichHas_35 a0 S1 (fun r3 S2 => P r3 S2))) : tX4_ofMarker a0 S P := by
  show wX4_ofMarker P 0 [.ref 20, .int a0] [] S
  refine wp_aload_n dX4_ofMarker_0 rfl rfl ?_
  refine wp_callV (q := 20) (As := []) (rest := []) dX4_ofMarker_1 mX4_refresh lX4_60 (by decide) rfl rfl rfl rfl (Nat.le_of_ble_eq_true rfl) (Nat.le_of_ble_eq_true rfl) h ?_
  rintro rv mh2 ⟨S1, rfl, rfl, h⟩
  refine wp_aload_n dX4_ofMarker_4 rfl rfl ?_
  refine wp_aload_n dX4_ofMarker_5 rfl rfl ?_
  refine wp_get (q := 20) dX4_ofMarker_6 fX4_25 rfl rfl ?_
  refine wp_iload_n dX4_ofMarker_9 rfl rfl ?_
  refine wp_callV (q := 20) (As := [.ref 35, .int a0]) (rest := []) dX4_ofMarker_10 mX4_whichHas lX4_67 (by decide) rfl rfl rfl rfl (Nat.le_of_ble_eq_true rfl) (Nat.le_of_ble_eq_true rfl) h ?_
  rintro rv mh2 ⟨r3, S2, rfl, rfl, h⟩
  exact wp_iret dX4_ofMarker_13 rfl rfl ⟨_, _, rfl, rfl, h⟩
abbrev rX4_giveSlots : Room := { frames := 1, cells := 0, slots := 0, locals := 21 }
abbrev wX4_giveSlots (P : Int32 → St → Prop) (pc : Nat) (Ls stk : List Value) (S : St) : Prop := Wp cX4_giveSlots RX4 4 rX4_giveSlots (wFI .int P) pc Ls stk (enc S)
abbrev tX4_giveSlots (a0 : Int32) (S : St) (P : Int32 → St → Prop) : Prop := wX4_giveSlots P 0 (wl_en [.ref 20, .int a0] 4) [] S
set_option maxRecDepth 100000 in
theorem bX4_giveSlots_0 {P : Int32 → St → Prop} {S : St} (a0 : Int32) (h : wX4_giveSlots P 4 [.ref 20, .int a0, .int (0 : Int32), .int (0 : Int32)] [] S) : tX4_giveSlots a0 S P := by
  show wX4_giveSlots P 0 [.ref 20, .int a0, .retAddr 0, .retAddr 0] [] S
  refine wp_iconst (v := (0 : Int32)) dX4_giveSlots_0 (by decide) ?_
  refine wp_istore_n (Ms := [.ref 20, .int a0, .int (0 : Int32), .retAddr 0]) dX4_giveSlots_1 rfl (by decide) rfl ?_
  refine wp_iconst (v := (0 : Int32)) dX4_giveSlots_2 (by decide) ?_
  refine wp_istore_n (Ms := [.ref 20, .int a0, .int (0 : Int32), .int (0 : Int32)]) dX4_giveSlots_3 rfl (by decide) rfl ?_
  exact wp_le (Ms := [.ref 20, .int a0, .int (0 : Int32), .int (0 : Int32)]) ⟨Or.inr rfl, Or.inr rfl, Or.inr rfl, Or.inr rfl, trivial⟩ h
set_option maxRecDepth 100000 in
theorem bX4_giveSlots_4 {P : Int32 → St → Prop} {S : St} (x1 : Int32) (x2 : Int32) (x3 : Int32) (h : (((S.1 0) ≤ x3 → P x2 S) ∧ (¬ (S.1 0) ≤ x3 → vp_in x3 8 ∧ vp_in x1 8 ∧ tX6_has ((S.2.2.1 16) x1.toNatClampNeg) x3 (sA (sA S 18 (upd (S.2.2.1 18) x3.toNatClampNeg (-1 : Int32))) 19 (upd (S.2.2.1 19) x3.toNatClampNeg (-1 : Int32))) (fun r4 S3 => ((r4 = 0 → tX6_has ((S3.2.2.1 17) x1.toNatClampNeg) x3 S3 (fun r6 S5 => ((r6 = 0 → wX4_giveSlots P 4 [.ref 20, .int x1, .int x2, .int (x3 + (1 : Int32))] [] S5) ∧ (¬ r6 = 0 → wX4_giveSlots P 4 [.ref 20, .int x1, .int (x2 + (1 : Int32)), .int (x3 + (1 : Int32))] [] (sA S5 19 (upd (S5.2.2.1 19) x3.toNatClampNeg x2)))))) ∧ (¬ r4 = 0 → ((¬ ((S3.2.2.1 10) x3.toNatClampNeg) = (-1 : Int32) → tX6_has ((S3.2.2.1 17) x1.toNatClampNeg) x3 S3 (fun r8 S7 => ((r8 = 0 → wX4_giveSlots P 4 [.ref 20, .int x1, .int x2, .int (x3 + (1 : Int32))] [] S7) ∧ (¬ r8 = 0 → wX4_giveSlots P 4 [.ref 20, .int x1, .int (x2 + (1 : Int32)), .int (x3 + (1 : Int32))] [] (sA S7 19 (upd (S7.2.2.1 19) x3.toNatClampNeg x2)))))) ∧ (((S3.2.2.1 10) x3.toNatClampNeg) = (-1 : Int32) → tX6_has ((S3.2.2.1 17) x1.toNatClampNeg) x3 (sA S3 18 (upd (S3.2.2.1 18) x3.toNatClampNeg x2)) (fun r10 S9 => ((r10 = 0 → wX4_giveSlots P 4 [.ref 20, .int x1, .int (x2 + (1 : Int32)), .int (x3 + (1 : Int32))] [] S9) ∧ (¬ r10 = 0 → wX4_giveSlots P 4 [.ref 20, .int x1, .int (x2 + (1 : Int32) + (1 : Int32)), .int (x3 + (1 : Int32))] [] (sA S9 19 (upd (S9.2.2.1 19) x3.toNatClampNeg (x2 + (1 : Int32))))))))))))))) : wX4_giveSlots P 4 [.ref 20, .int x1, .int x2, .int x3] [] S := by
  refine wp_iload_n dX4_giveSlots_4 rfl rfl ?_
  refine wp_aload_n dX4_giveSlots_5 rfl rfl ?_
  refine wp_get (q := 20) dX4_giveSlots_6 fX4_52 rfl rfl ?_
  refine wp_get (q := 1) dX4_giveSlots_9 fX4_85 rfl rfl ?_
  refine wp_icmp_ge (tgt := 94) dX4_giveSlots_12 (by decide) (fun c => ?_) (fun c => ?_)
  · have h := h.1 c
    refine wp_iload_n dX4_giveSlots_94 rfl rfl ?_
    exact wp_iret dX4_giveSlots_95 rfl rfl ⟨_, _, rfl, rfl, h⟩
  · have h := h.2 c
    refine wp_aload_n dX4_giveSlots_15 rfl rfl ?_
    refine wp_get (q := 20) dX4_giveSlots_16 fX4_38 rfl rfl ?_
    refine wp_iload_n dX4_giveSlots_19 rfl rfl ?_
    refine wp_iconst (v := (-1 : Int32)) dX4_giveSlots_20 (by decide) ?_
    obtain ⟨q1, h⟩ := h
    refine wp_iast2 (q := 39) (j := x3.toNatClampNeg) (mh2 := enc (sA S 18 (upd (S.2.2.1 18) x3.toNatClampNeg (-1 : Int32)))) dX4_giveSlots_21 rfl q1 rfl (es_39 _ _) ?_
    refine wp_aload_n dX4_giveSlots_22 rfl rfl ?_
    refine wp_get (q := 20) dX4_giveSlots_23 fX4_41 rfl rfl ?_
    refine wp_iload_n dX4_giveSlots_26 rfl rfl ?_
    refine wp_iconst (v := (-1 : Int32)) dX4_giveSlots_27 (by decide) ?_
    refine wp_iast2 (q := 40) (j := x3.toNatClampNeg) (mh2 := enc (sA (sA S 18 (upd (S.2.2.1 18) x3.toNatClampNeg (-1 : Int32))) 19 (upd (S.2.2.1 19) x3.toNatClampNeg (-1 : Int32)))) dX4_giveSlots_28 rfl q1 rfl (es_40 _ _) ?_
    refine wp_aload_n dX4_giveSlots_29 rfl rfl ?_
    refine wp_get (q := 20) dX4_giveSlots_30 fX4_22 rfl rfl ?_
    refine wp_iload_n dX4_giveSlots_33 rfl rfl ?_
    obtain ⟨q2, h⟩ := h
    refine wp_iald2 (q := 34) (j := x1.toNatClampNeg) dX4_giveSlots_34 rfl q2 rfl ?_
    refine wp_iload_n dX4_giveSlots_35 rfl rfl ?_
    refine wp_callN (As := [.int ((S.2.2.1 16) x1.toNatClampNeg), .int x3]) (rest := []) dX4_giveSlots_36 mX6_has lX4_71 (by decide) rfl rfl (Nat.le_of_ble_eq_true rfl) (Nat.le_of_ble_eq_true rfl) h ?_
    rintro rv mh2 ⟨r4, S3, rfl, rfl, h⟩
    refine wp_if_eq (tgt := 65) dX4_giveSlots_39 (by decide) (fun c => ?_) (fun c => ?_)
    · have h := h.1 c
      refine wp_aload_n dX4_giveSlots_65 rfl rfl ?_
      refine wp_get (q := 20) dX4_giveSlots_66 fX4_25 rfl rfl ?_
      refine wp_iload_n dX4_giveSlots_69 rfl rfl ?_
      refine wp_iald2 (q := 35) (j := x1.toNatClampNeg) dX4_giveSlots_70 rfl q2 rfl ?_
      refine wp_iload_n dX4_giveSlots_71 rfl rfl ?_
      refine wp_callN (As := [.int ((S3.2.2.1 17) x1.toNatClampNeg), .int x3]) (rest := []) dX4_giveSlots_72 mX6_has lX4_71 (by decide) rfl rfl (Nat.le_of_ble_eq_true rfl) (Nat.le_of_ble_eq_true rfl) h ?_
      rintro rv mh2 ⟨r6, S5, rfl, rfl, h⟩
      refine wp_if_eq (tgt := 88) dX4_giveSlots_75 (by decide) (fun c => ?_) (fun c => ?_)
      · have h := h.1 c
        refine wp_iinc (Ms := [.ref 20, .int x1, .int x2, .int (x3 + (1 : Int32))]) (v := x3 + (1 : Int32)) dX4_giveSlots_88 rfl rfl (by decide) rfl ?_
        refine wp_goto (tgt := 4) dX4_giveSlots_91 (by decide) ?_
        exact wp_le (Ms := [.ref 20, .int x1, .int x2, .int (x3 + (1 : Int32))]) ⟨Or.inr rfl, Or.inr rfl, Or.inr rfl, Or.inr rfl, trivial⟩ h
      · have h := h.2 c
        refine wp_aload_n dX4_giveSlots_78 rfl rfl ?_
        refine wp_get (q := 20) dX4_giveSlots_79 fX4_41 rfl rfl ?_
        refine wp_iload_n dX4_giveSlots_82 rfl rfl ?_
        refine wp_iload_n dX4_giveSlots_83 rfl rfl ?_
        refine wp_iinc (Ms := [.ref 20, .int x1, .int (x2 + (1 : Int32)), .int x3]) (v := x2 + (1 : Int32)) dX4_giveSlots_84 rfl rfl (by decide) rfl ?_
        refine wp_iast2 (q := 40) (j := x3.toNatClampNeg) (mh2 := enc (sA S5 19 (upd (S5.2.2.1 19) x3.toNatClampNeg x2))) dX4_giveSlots_87 rfl q1 rfl (es_40 _ _) ?_
        refine wp_iinc (Ms := [.ref 20, .int x1, .int (x2 + (1 : Int32)), .int (x3 + (1 : Int32))]) (v := x3 + (1 : Int32)) dX4_giveSlots_88 rfl rfl (by decide) rfl ?_
        refine wp_goto (tgt := 4) dX4_giveSlots_91 (by decide) ?_
        exact wp_le (Ms := [.ref 20, .int x1, .int (x2 + (1 : Int32)), .int (x3 + (1 : Int32))]) ⟨Or.inr rfl, Or.inr rfl, Or.inr rfl, Or.inr rfl, trivial⟩ h
    · have h := h.2 c
      refine wp_aload_n dX4_giveSlots_42 rfl rfl ?_
      refine wp_get (q := 20) dX4_giveSlots_43 fX4_56 rfl rfl ?_
      refine wp_get (q := 4) dX4_giveSlots_46 fX4_124 rfl rfl ?_
      refine wp_iload_n dX4_giveSlots_49 rfl rfl ?_
      refine wp_iald2 (q := 14) (j := x3.toNatClampNeg) dX4_giveSlots_50 rfl q1 rfl ?_
      refine wp_iconst (v := (-1 : Int32)) dX4_giveSlots_51 (by decide) ?_
      refine wp_icmp_ne (tgt := 65) dX4_giveSlots_52 (by decide) (fun c => ?_) (fun c => ?_)
      · have h := h.1 c
        refine wp_aload_n dX4_giveSlots_65 rfl rfl ?_
        refine wp_get (q := 20) dX4_giveSlots_66 fX4_25 rfl rfl ?_
        refine wp_iload_n dX4_giveSlots_69 rfl rfl ?_
        refine wp_iald2 (q := 35) (j := x1.toNatClampNeg) dX4_giveSlots_70 rfl q2 rfl ?_
        refine wp_iload_n dX4_giveSlots_71 rfl rfl ?_
        refine wp_callN (As := [.int ((S3.2.2.1 17) x1.toNatClampNeg), .int x3]) (rest := []) dX4_giveSlots_72 mX6_has lX4_71 (by decide) rfl rfl (Nat.le_of_ble_eq_true rfl) (Nat.le_of_ble_eq_true rfl) h ?_
        rintro rv mh2 ⟨r8, S7, rfl, rfl, h⟩
        refine wp_if_eq (tgt := 88) dX4_giveSlots_75 (by decide) (fun c => ?_) (fun c => ?_)
        · have h := h.1 c
          refine wp_iinc (Ms := [.ref 20, .int x1, .int x2, .int (x3 + (1 : Int32))]) (v := x3 + (1 : Int32)) dX4_giveSlots_88 rfl rfl (by decide) rfl ?_
          refine wp_goto (tgt := 4) dX4_giveSlots_91 (by decide) ?_
          exact wp_le (Ms := [.ref 20, .int x1, .int x2, .int (x3 + (1 : Int32))]) ⟨Or.inr rfl, Or.inr rfl, Or.inr rfl, Or.inr rfl, trivial⟩ h
        · have h := h.2 c
          refine wp_aload_n dX4_giveSlots_78 rfl rfl ?_
          refine wp_get (q := 20) dX4_giveSlots_79 fX4_41 rfl rfl ?_
          refine wp_iload_n dX4_giveSlots_82 rfl rfl ?_
          refine wp_iload_n dX4_giveSlots_83 rfl rfl ?_
          refine wp_iinc (Ms := [.ref 20, .int x1, .int (x2 + (1 : Int32)), .int x3]) (v := x2 + (1 : Int32)) dX4_giveSlots_84 rfl rfl (by decide) rfl ?_
          refine wp_iast2 (q := 40) (j := x3.toNatClampNeg) (mh2 := enc (sA S7 19 (upd (S7.2.2.1 19) x3.toNatClampNeg x2))) dX4_giveSlots_87 rfl q1 rfl (es_40 _ _) ?_
          refine wp_iinc (Ms := [.ref 20, .int x1, .int (x2 + (1 : Int32)), .int (x3 + (1 : Int32))]) (v := x3 + (1 : Int32)) dX4_giveSlots_88 rfl rfl (by decide) rfl ?_
          refine wp_goto (tgt := 4) dX4_giveSlots_91 (by decide) ?_
          exact wp_le (Ms := [.ref 20, .int x1, .int (x2 + (1 : Int32)), .int (x3 + (1 : Int32))]) ⟨Or.inr rfl, Or.inr rfl, Or.inr rfl, Or.inr rfl, trivial⟩ h
      · have h := h.2 c
        refine wp_aload_n dX4_giveSlots_55 rfl rfl ?_
        refine wp_get (q := 20) dX4_giveSlots_56 fX4_38 rfl rfl ?_
        refine wp_iload_n dX4_giveSlots_59 rfl rfl ?_
        refine wp_iload_n dX4_giveSlots_60 rfl rfl ?_
        refine wp_iinc (Ms := [.ref 20, .int x1, .int (x2 + (1 : Int32)), .int x3]) (v := x2 + (1 : Int32)) dX4_giveSlots_61 rfl rfl (by decide) rfl ?_
        refine wp_iast2 (q := 39) (j := x3.toNatClampNeg) (mh2 := enc (sA S3 18 (upd (S3.2.2.1 18) x3.toNatClampNeg x2))) dX4_giveSlots_64 rfl q1 rfl (es_39 _ _) ?_
        refine wp_aload_n dX4_giveSlots_65 rfl rfl ?_
        refine wp_get (q := 20) dX4_giveSlots_66 fX4_25 rfl rfl ?_
        refine wp_iload_n dX4_giveSlots_69 rfl rfl ?_
        refine wp_iald2 (q := 35) (j := x1.toNatClampNeg) dX4_giveSlots_70 rfl q2 rfl ?_
        refine wp_iload_n dX4_giveSlots_71 rfl rfl ?_
        refine wp_callN (As := [.int ((S3.2.2.1 17) x1.toNatClampNeg), .int x3]) (rest := []) dX4_giveSlots_72 mX6_has lX4_71 (by decide) rfl rfl (Nat.le_of_ble_eq_true rfl) (Nat.le_of_ble_eq_true rfl) h ?_
        rintro rv mh2 ⟨r10, S9, rfl, rfl, h⟩
        refine wp_if_eq (tgt := 88) dX4_giveSlots_75 (by decide) (fun c => ?_) (fun c => ?_)
        · have h := h.1 c
          refine wp_iinc (Ms := [.ref 20, .int x1, .int (x2 + (1 : Int32)), .int (x3 + (1 : Int32))]) (v := x3 + (1 : Int32)) dX4_giveSlots_88 rfl rfl (by decide) rfl ?_
          refine wp_goto (tgt := 4) dX4_giveSlots_91 (by decide) ?_
          exact wp_le (Ms := [.ref 20, .int x1, .int (x2 + (1 : Int32)), .int (x3 + (1 : Int32))]) ⟨Or.inr rfl, Or.inr rfl, Or.inr rfl, Or.inr rfl, trivial⟩ h
        · have h := h.2 c
          refine wp_aload_n dX4_giveSlots_78 rfl rfl ?_
          refine wp_get (q := 20) dX4_giveSlots_79 fX4_41 rfl rfl ?_
          refine wp_iload_n dX4_giveSlots_82 rfl rfl ?_
          refine wp_iload_n dX4_giveSlots_83 rfl rfl ?_
          refine wp_iinc (Ms := [.ref 20, .int x1, .int (x2 + (1 : Int32) + (1 : Int32)), .int x3]) (v := x2 + (1 : Int32) + (1 : Int32)) dX4_giveSlots_84 rfl rfl (by decide) rfl ?_
          refine wp_iast2 (q := 40) (j := x3.toNatClampNeg) (mh2 := enc (sA S9 19 (upd (S9.2.2.1 19) x3.toNatClampNeg (x2 + (1 : Int32))))) dX4_giveSlots_87 rfl q1 rfl (es_40 _ _) ?_
          refine wp_iinc (Ms := [.ref 20, .int x1, .int (x2 + (1 : Int32) + (1 : Int32)), .int (x3 + (1 : Int32))]) (v := x3 + (1 : Int32)) dX4_giveSlots_88 rfl rfl (by decide) rfl ?_
          refine wp_goto (tgt := 4) dX4_giveSlots_91 (by decide) ?_
          exact wp_le (Ms := [.ref 20, .int x1, .int (x2 + (1 : Int32) + (1 : Int32)), .int (x3 + (1 : Int32))]) ⟨Or.inr rfl, Or.inr rfl, Or.inr rfl, Or.inr rfl, trivial⟩ h
abbrev rX4_writeMarksOf : Room := { frames := 3, cells := 0, slots := 0, locals := 66 }
abbrev wX4_writeMarksOf (P : St → Prop) (pc : Nat) (Ls stk : List Value) (S : St) : Prop := Wp cX4_writeMarksOf RX4 3 rX4_writeMarksOf (wFV P) pc Ls stk (enc S)
abbrev tX4_writeMarksOf (a0 : Int32) (S : St) (P : St → Prop) : Prop := wX4_writeMarksOf P 0 (wl_en [.ref 20, .int a0] 3) [] S
set_option maxRecDepth 100000 in
theorem bX4_writeMarksOf_0 {P : St → Prop} {S : St} (a0 : Int32) (h : wX4_writeMarksOf P 2 [.ref 20, .int a0, .int (0 : Int32)] [] S) : tX4_writeMarksOf a0 S P := by
  show wX4_writeMarksOf P 0 [.ref 20, .int a0, .retAddr 0] [] S
  refine wp_iconst (v := (0 : Int32)) dX4_writeMarksOf_0 (by decide) ?_
  refine wp_istore_n (Ms := [.ref 20, .int a0, .int (0 : Int32)]) dX4_writeMarksOf_1 rfl (by decide) rfl ?_
  exact wp_le (Ms := [.ref 20, .int a0, .int (0 : Int32)]) ⟨Or.inr rfl, Or.inr rfl, Or.inr rfl, trivial⟩ h
set_option maxRecDepth 100000 in
theorem bX4_writeMarksOf_2 {P : St → Prop} {S : St} (x1 : Int32) (x2 : Int32) (h : (((S.1 0) ≤ x2 → P S) ∧ (¬ (S.1 0) ≤ x2 → vp_in x1 8 ∧ tX6_has ((S.2.2.1 15) x1.toNatClampNeg) x2 S (fun r3 S2 => ((r3 = 0 → wX4_writeMarksOf P 2 [.ref 20, .int x1, .int (x2 + (1 : Int32))] [] S2) ∧ (¬ r3 = 0 → ((¬ ((S2.2.2.1 18) x1.toNatClampNeg) = (-1 : Int32) → vp_in x2 8 ∧ tX0_addSquareOfSum ((S2.2.2.1 18) x1.toNatClampNeg) ((S2.2.2.1 19) x2.toNatClampNeg) ((S2.2.2.1 (2 + x2.toNatClampNeg)) x1.toNatClampNeg) S2 (fun S5 => wX4_writeMarksOf P 2 [.ref 20, .int x1, .int (x2 + (1 : Int32))] [] S5)) ∧ (((S2.2.2.1 18) x1.toNatClampNeg) = (-1 : Int32) → vp_in x2 8 ∧ tX0_addSquare ((S2.2.2.1 19) x2.toNatClampNeg) (((S2.2.2.1 (2 + x2.toNatClampNeg)) x1.toNatClampNeg) - ((S2.2.2.1 10) x1.toNatClampNeg)) S2 (fun S7 => wX4_writeMarksOf P 2 [.ref 20, .int x1, .int (x2 + (1 : Int32))] [] S7))))))))) : wX4_writeMarksOf P 2 [.ref 20, .int x1, .int x2] [] S := by
  refine wp_iload_n dX4_writeMarksOf_2 rfl rfl ?_
  refine wp_aload_n dX4_writeMarksOf_3 rfl rfl ?_
  refine wp_get (q := 20) dX4_writeMarksOf_4 fX4_52 rfl rfl ?_
  refine wp_get (q := 1) dX4_writeMarksOf_7 fX4_85 rfl rfl ?_
  refine wp_icmp_ge (tgt := 109) dX4_writeMarksOf_10 (by decide) (fun c => ?_) (fun c => ?_)
  · have h := h.1 c
    exact wp_vret dX4_writeMarksOf_109 rfl ⟨_, rfl, rfl, h⟩
  · have h := h.2 c
    refine wp_aload_n dX4_writeMarksOf_13 rfl rfl ?_
    refine wp_get (q := 20) dX4_writeMarksOf_14 fX4_18 rfl rfl ?_
    refine wp_iload_n dX4_writeMarksOf_17 rfl rfl ?_
    obtain ⟨q1, h⟩ := h
    refine wp_iald2 (q := 33) (j := x1.toNatClampNeg) dX4_writeMarksOf_18 rfl q1 rfl ?_
    refine wp_iload_n dX4_writeMarksOf_19 rfl rfl ?_
    refine wp_callN (As := [.int ((S.2.2.1 15) x1.toNatClampNeg), .int x2]) (rest := []) dX4_writeMarksOf_20 mX6_has lX4_71 (by decide) rfl rfl (Nat.le_of_ble_eq_true rfl) (Nat.le_of_ble_eq_true rfl) h ?_
    rintro rv mh2 ⟨r3, S2, rfl, rfl, h⟩
    refine wp_if_eq (tgt := 103) dX4_writeMarksOf_23 (by decide) (fun c => ?_) (fun c => ?_)
    · have h := h.1 c
      refine wp_iinc (Ms := [.ref 20, .int x1, .int (x2 + (1 : Int32))]) (v := x2 + (1 : Int32)) dX4_writeMarksOf_103 rfl rfl (by decide) rfl ?_
      refine wp_goto (tgt := 2) dX4_writeMarksOf_106 (by decide) ?_
      exact wp_le (Ms := [.ref 20, .int x1, .int (x2 + (1 : Int32))]) ⟨Or.inr rfl, Or.inr rfl, Or.inr rfl, trivial⟩ h
    · have h := h.2 c
      refine wp_aload_n dX4_writeMarksOf_26 rfl rfl ?_
      refine wp_get (q := 20) dX4_writeMarksOf_27 fX4_38 rfl rfl ?_
      refine wp_iload_n dX4_writeMarksOf_30 rfl rfl ?_
      refine wp_iald2 (q := 39) (j := x1.toNatClampNeg) dX4_writeMarksOf_31 rfl q1 rfl ?_
      refine wp_iconst (v := (-1 : Int32)) dX4_writeMarksOf_32 (by decide) ?_
      refine wp_icmp_ne (tgt := 73) dX4_writeMarksOf_33 (by decide) (fun c => ?_) (fun c => ?_)
      · have h := h.1 c
        refine wp_aload_n dX4_writeMarksOf_73 rfl rfl ?_
        refine wp_get (q := 20) dX4_writeMarksOf_74 fX4_12 rfl rfl ?_
        refine wp_aload_n dX4_writeMarksOf_77 rfl rfl ?_
        refine wp_get (q := 20) dX4_writeMarksOf_78 fX4_38 rfl rfl ?_
        refine wp_iload_n dX4_writeMarksOf_81 rfl rfl ?_
        refine wp_iald2 (q := 39) (j := x1.toNatClampNeg) dX4_writeMarksOf_82 rfl q1 rfl ?_
        refine wp_aload_n dX4_writeMarksOf_83 rfl rfl ?_
        refine wp_get (q := 20) dX4_writeMarksOf_84 fX4_41 rfl rfl ?_
        refine wp_iload_n dX4_writeMarksOf_87 rfl rfl ?_
        obtain ⟨q4, h⟩ := h
        refine wp_iald2 (q := 40) (j := x2.toNatClampNeg) dX4_writeMarksOf_88 rfl q4 rfl ?_
        refine wp_aload_n dX4_writeMarksOf_89 rfl rfl ?_
        refine wp_get (q := 20) dX4_writeMarksOf_90 fX4_56 rfl rfl ?_
        refine wp_get (q := 4) dX4_writeMarksOf_93 fX4_127 rfl rfl ?_
        refine wp_iload_n dX4_writeMarksOf_96 rfl rfl ?_
        refine wp_aald (q := 5) dX4_writeMarksOf_97 rfl rfl q4 (encR q4) ?_
        refine wp_iload_n dX4_writeMarksOf_98 rfl rfl ?_
        refine wp_iald2 (j := x1.toNatClampNeg) dX4_writeMarksOf_99 (encG _ q4) q1 rfl ?_
        refine wp_callV (q := 21) (As := [.int ((S2.2.2.1 18) x1.toNatClampNeg), .int ((S2.2.2.1 19) x2.toNatClampNeg), .int ((S2.2.2.1 (2 + x2.toNatClampNeg)) x1.toNatClampNeg)]) (rest := []) dX4_writeMarksOf_100 mX0_addSquareOfSum lX4_135 (by decide) rfl rfl rfl rfl (Nat.le_of_ble_eq_true rfl) (Nat.le_of_ble_eq_true rfl) h ?_
        rintro rv mh2 ⟨S5, rfl, rfl, h⟩
        refine wp_iinc (Ms := [.ref 20, .int x1, .int (x2 + (1 : Int32))]) (v := x2 + (1 : Int32)) dX4_writeMarksOf_103 rfl rfl (by decide) rfl ?_
        refine wp_goto (tgt := 2) dX4_writeMarksOf_106 (by decide) ?_
        exact wp_le (Ms := [.ref 20, .int x1, .int (x2 + (1 : Int32))]) ⟨Or.inr rfl, Or.inr rfl, Or.inr rfl, trivial⟩ h
      · have h := h.2 c
        refine wp_aload_n dX4_writeMarksOf_36 rfl rfl ?_
        refine wp_get (q := 20) dX4_writeMarksOf_37 fX4_12 rfl rfl ?_
        refine wp_aload_n dX4_writeMarksOf_40 rfl rfl ?_
        refine wp_get (q := 20) dX4_writeMarksOf_41 fX4_41 rfl rfl ?_
        refine wp_iload_n dX4_writeMarksOf_44 rfl rfl ?_
        obtain ⟨q6, h⟩ := h
        refine wp_iald2 (q := 40) (j := x2.toNatClampNeg) dX4_writeMarksOf_45 rfl q6 rfl ?_
        refine wp_aload_n dX4_writeMarksOf_46 rfl rfl ?_
        refine wp_get (q := 20) dX4_writeMarksOf_47 fX4_56 rfl rfl ?_
        refine wp_get (q := 4) dX4_writeMarksOf_50 fX4_127 rfl rfl ?_
        refine wp_iload_n dX4_writeMarksOf_53 rfl rfl ?_
        refine wp_aald (q := 5) dX4_writeMarksOf_54 rfl rfl q6 (encR q6) ?_
        refine wp_iload_n dX4_writeMarksOf_55 rfl rfl ?_
        refine wp_iald2 (j := x1.toNatClampNeg) dX4_writeMarksOf_56 (encG _ q6) q1 rfl ?_
        refine wp_aload_n dX4_writeMarksOf_57 rfl rfl ?_
        refine wp_get (q := 20) dX4_writeMarksOf_58 fX4_56 rfl rfl ?_
        refine wp_get (q := 4) dX4_writeMarksOf_61 fX4_124 rfl rfl ?_
        refine wp_iload_n dX4_writeMarksOf_64 rfl rfl ?_
        refine wp_iald2 (q := 14) (j := x1.toNatClampNeg) dX4_writeMarksOf_65 rfl q1 rfl ?_
        refine wp_isub dX4_writeMarksOf_66 ?_
        refine wp_callV (q := 21) (As := [.int ((S2.2.2.1 19) x2.toNatClampNeg), .int (((S2.2.2.1 (2 + x2.toNatClampNeg)) x1.toNatClampNeg) - ((S2.2.2.1 10) x1.toNatClampNeg))]) (rest := []) dX4_writeMarksOf_67 mX0_addSquare lX4_131 (by decide) rfl rfl rfl rfl (Nat.le_of_ble_eq_true rfl) (Nat.le_of_ble_eq_true rfl) h ?_
        rintro rv mh2 ⟨S7, rfl, rfl, h⟩
        refine wp_goto (tgt := 103) dX4_writeMarksOf_70 (by decide) ?_
        refine wp_iinc (Ms := [.ref 20, .int x1, .int (x2 + (1 : Int32))]) (v := x2 + (1 : Int32)) dX4_writeMarksOf_103 rfl rfl (by decide) rfl ?_
        refine wp_goto (tgt := 2) dX4_writeMarksOf_106 (by decide) ?_
        exact wp_le (Ms := [.ref 20, .int x1, .int (x2 + (1 : Int32))]) ⟨Or.inr rfl, Or.inr rfl, Or.inr rfl, trivial⟩ h
abbrev rX4_hasStaffMark : Room := { frames := 1, cells := 0, slots := 0, locals := 21 }
abbrev wX4_hasStaffMark (P : Int32 → St → Prop) (pc : Nat) (Ls stk : List Value) (S : St) : Prop := Wp cX4_hasStaffMark RX4 3 rX4_hasStaffMark (wFI .boolean P) pc Ls stk (enc S)
abbrev tX4_hasStaffMark (a0 : Int32) (S : St) (P : Int32 → St → Prop) : Prop := wX4_hasStaffMark P 0 (wl_en [.ref 20, .int a0] 3) [] S
set_option maxRecDepth 100000 in
theorem bX4_hasStaffMark_0 {P : Int32 → St → Prop} {S : St} (a0 : Int32) (h : wX4_hasStaffMark P 2 [.ref 20, .int a0, .int (0 : Int32)] [] S) : tX4_hasStaffMark a0 S P := by
  show wX4_hasStaffMark P 0 [.ref 20, .int a0, .retAddr 0] [] S
  refine wp_iconst (v := (0 : Int32)) dX4_hasStaffMark_0 (by decide) ?_
  refine wp_istore_n (Ms := [.ref 20, .int a0, .int (0 : Int32)]) dX4_hasStaffMark_1 rfl (by decide) rfl ?_
  exact wp_le (Ms := [.ref 20, .int a0, .int (0 : Int32)]) ⟨Or.inr rfl, Or.inr rfl, Or.inr rfl, trivial⟩ h
set_option maxRecDepth 100000 in
theorem bX4_hasStaffMark_2 {P : Int32 → St → Prop} {S : St} (x1 : Int32) (x2 : Int32) (h : (((S.1 0) ≤ x2 → P (0 : Int32) S) ∧ (¬ (S.1 0) ≤ x2 → vp_in x1 8 ∧ tX6_has ((S.2.2.1 16) x1.toNatClampNeg) x2 S (fun r3 S2 => ((r3 = 0 → wX4_hasStaffMark P 2 [.ref 20, .int x1, .int (x2 + (1 : Int32))] [] S2) ∧ (¬ r3 = 0 → vp_in x2 8 ∧ ((((S2.2.2.1 10) x2.toNatClampNeg) = (-1 : Int32) → wX4_hasStaffMark P 2 [.ref 20, .int x1, .int (x2 + (1 : Int32))] [] S2) ∧ (¬ ((S2.2.2.1 10) x2.toNatClampNeg) = (-1 : Int32) → P (1 : Int32) S2)))))))) : wX4_hasStaffMark P 2 [.ref 20, .int x1, .int x2] [] S := by
  refine wp_iload_n dX4_hasStaffMark_2 rfl rfl ?_
  refine wp_aload_n dX4_hasStaffMark_3 rfl rfl ?_
  refine wp_get (q := 20) dX4_hasStaffMark_4 fX4_52 rfl rfl ?_
  refine wp_get (q := 1) dX4_hasStaffMark_7 fX4_85 rfl rfl ?_
  refine wp_icmp_ge (tgt := 47) dX4_hasStaffMark_10 (by decide) (fun c => ?_) (fun c => ?_)
  · have h := h.1 c
    refine wp_iconst (v := (0 : Int32)) dX4_hasStaffMark_47 (by decide) ?_
    exact wp_iret dX4_hasStaffMark_48 rfl rfl ⟨_, _, rfl, rfl, h⟩
  · have h := h.2 c
    refine wp_aload_n dX4_hasStaffMark_13 rfl rfl ?_
    refine wp_get (q := 20) dX4_hasStaffMark_14 fX4_22 rfl rfl ?_
    refine wp_iload_n dX4_hasStaffMark_17 rfl rfl ?_
    obtain ⟨q1, h⟩ := h
    refine wp_iald2 (q := 34) (j := x1.toNatClampNeg) dX4_hasStaffMark_18 rfl q1 rfl ?_
    refine wp_iload_n dX4_hasStaffMark_19 rfl rfl ?_
    refine wp_callN (As := [.int ((S.2.2.1 16) x1.toNatClampNeg), .int x2]) (rest := []) dX4_hasStaffMark_20 mX6_has lX4_71 (by decide) rfl rfl (Nat.le_of_ble_eq_true rfl) (Nat.le_of_ble_eq_true rfl) h ?_
    rintro rv mh2 ⟨r3, S2, rfl, rfl, h⟩
    refine wp_if_eq (tgt := 41) dX4_hasStaffMark_23 (by decide) (fun c => ?_) (fun c => ?_)
    · have h := h.1 c
      refine wp_iinc (Ms := [.ref 20, .int x1, .int (x2 + (1 : Int32))]) (v := x2 + (1 : Int32)) dX4_hasStaffMark_41 rfl rfl (by decide) rfl ?_
      refine wp_goto (tgt := 2) dX4_hasStaffMark_44 (by decide) ?_
      exact wp_le (Ms := [.ref 20, .int x1, .int (x2 + (1 : Int32))]) ⟨Or.inr rfl, Or.inr rfl, Or.inr rfl, trivial⟩ h
    · have h := h.2 c
      refine wp_aload_n dX4_hasStaffMark_26 rfl rfl ?_
      refine wp_get (q := 20) dX4_hasStaffMark_27 fX4_56 rfl rfl ?_
      refine wp_get (q := 4) dX4_hasStaffMark_30 fX4_124 rfl rfl ?_
      refine wp_iload_n dX4_hasStaffMark_33 rfl rfl ?_
      obtain ⟨q4, h⟩ := h
      refine wp_iald2 (q := 14) (j := x2.toNatClampNeg) dX4_hasStaffMark_34 rfl q4 rfl ?_
      refine wp_iconst (v := (-1 : Int32)) dX4_hasStaffMark_35 (by decide) ?_
      refine wp_icmp_eq (tgt := 41) dX4_hasStaffMark_36 (by decide) (fun c => ?_) (fun c => ?_)
      · have h := h.1 c
        refine wp_iinc (Ms := [.ref 20, .int x1, .int (x2 + (1 : Int32))]) (v := x2 + (1 : Int32)) dX4_hasStaffMark_41 rfl rfl (by decide) rfl ?_
        refine wp_goto (tgt := 2) dX4_hasStaffMark_44 (by decide) ?_
        exact wp_le (Ms := [.ref 20, .int x1, .int (x2 + (1 : Int32))]) ⟨Or.inr rfl, Or.inr rfl, Or.inr rfl, trivial⟩ h
      · have h := h.2 c
        refine wp_iconst (v := (1 : Int32)) dX4_hasStaffMark_39 (by decide) ?_
        exact wp_iret dX4_hasStaffMark_40 rfl rfl ⟨_, _, rfl, rfl, h⟩
abbrev rX4_writeLeansAreNothingInAll : Room := { frames := 2, cells := 0, slots := 0, locals := 43 }
abbrev wX4_writeLeansAreNothingInAll (P : St → Prop) (pc : Nat) (Ls stk : List Value) (S : St) : Prop := Wp cX4_writeLeansAreNothingInAll RX4 4 rX4_writeLeansAreNothingInAll (wFV P) pc Ls stk (enc S)
abbrev tX4_writeLeansAreNothingInAll (a0 : Int32) (S : St) (P : St → Prop) : Prop := wX4_writeLeansAreNothingInAll P 0 (wl_en [.ref 20, .int a0] 4) [] S
set_option maxRecDepth 100000 in
theorem bX4_writeLeansAreNothingInAll_0 {P : St → Prop} {S : St} (a0 : Int32) (h : wX4_writeLeansAreNothingInAll P 2 [.ref 20, .int a0, .int (0 : Int32), .retAddr 0] [] S) : tX4_writeLeansAreNothingInAll a0 S P := by
  show wX4_writeLeansAreNothingInAll P 0 [.ref 20, .int a0, .retAddr 0, .retAddr 0] [] S
  refine wp_iconst (v := (0 : Int32)) dX4_writeLeansAreNothingInAll_0 (by decide) ?_
  refine wp_istore_n (Ms := [.ref 20, .int a0, .int (0 : Int32), .retAddr 0]) dX4_writeLeansAreNothingInAll_1 rfl (by decide) rfl ?_
  exact wp_le (Ms := [.ref 20, .int a0, .int (0 : Int32), .retAddr 0]) ⟨Or.inr rfl, Or.inr rfl, Or.inr rfl, Or.inl rfl, trivial⟩ h
set_option maxRecDepth 100000 in
theorem bX4_writeLeansAreNothingInAll_2 {P : St → Prop} {S : St} (x1 : Int32) (x2 : Int32) (h : (((S.1 0) ≤ x2 → P S) ∧ (¬ (S.1 0) ≤ x2 → wX4_writeLeansAreNothingInAll P 15 [.ref 20, .int x1, .int x2, .int (0 : Int32)] [] S))) : wX4_writeLeansAreNothingInAll P 2 [.ref 20, .int x1, .int x2, .retAddr 0] [] S := by
  refine wp_iload_n dX4_writeLeansAreNothingInAll_2 rfl rfl ?_
  refine wp_aload_n dX4_writeLeansAreNothingInAll_3 rfl rfl ?_
  refine wp_get (q := 20) dX4_writeLeansAreNothingInAll_4 fX4_52 rfl rfl ?_
  refine wp_get (q := 1) dX4_writeLeansAreNothingInAll_7 fX4_85 rfl rfl ?_
  refine wp_icmp_ge (tgt := 83) dX4_writeLeansAreNothingInAll_10 (by decide) (fun c => ?_) (fun c => ?_)
  · have h := h.1 c
    exact wp_vret dX4_writeLeansAreNothingInAll_83 rfl ⟨_, rfl, rfl, h⟩
  · have h := h.2 c
    refine wp_iconst (v := (0 : Int32)) dX4_writeLeansAreNothingInAll_13 (by decide) ?_
    refine wp_istore_n (Ms := [.ref 20, .int x1, .int x2, .int (0 : Int32)]) dX4_writeLeansAreNothingInAll_14 rfl (by decide) rfl ?_
    exact wp_le (Ms := [.ref 20, .int x1, .int x2, .int (0 : Int32)]) ⟨Or.inr rfl, Or.inr rfl, Or.inr rfl, Or.inr rfl, trivial⟩ h
set_option maxRecDepth 100000 in
theorem bX4_writeLeansAreNothingInAll_15 {P : St → Prop} {S : St} (x1 : Int32) (x2 : Int32) (x3 : Int32) (h : (((S.1 0) ≤ x3 → wX4_writeLeansAreNothingInAll P 2 [.ref 20, .int x1, .int (x2 + (1 : Int32)), .retAddr 0] [] S) ∧ (¬ (S.1 0) ≤ x3 → vp_in x1 8 ∧ tX6_has ((S.2.2.1 17) x1.toNatClampNeg) x2 S (fun r3 S2 => ((r3 = 0 → wX4_writeLeansAreNothingInAll P 15 [.ref 20, .int x1, .int x2, .int (x3 + (1 : Int32))] [] S2) ∧ (¬ r3 = 0 → tX6_has ((S2.2.2.1 17) x1.toNatClampNeg) x3 S2 (fun r5 S4 => ((r5 = 0 → wX4_writeLeansAreNothingInAll P 15 [.ref 20, .int x1, .int x2, .int (x3 + (1 : Int32))] [] S4) ∧ (¬ r5 = 0 → vp_in x2 8 ∧ vp_in x3 8 ∧ tX0_addFactor ((S4.2.2.1 19) x2.toNatClampNeg) ((S4.2.2.1 19) x3.toNatClampNeg) S4 (fun S8 => wX4_writeLeansAreNothingInAll P 15 [.ref 20, .int x1, .int x2, .int (x3 + (1 : Int32))] [] S8)))))))))) : wX4_writeLeansAreNothingInAll P 15 [.ref 20, .int x1, .int x2, .int x3] [] S := by
  refine wp_iload_n dX4_writeLeansAreNothingInAll_15 rfl rfl ?_
  refine wp_aload_n dX4_writeLeansAreNothingInAll_16 rfl rfl ?_
  refine wp_get (q := 20) dX4_writeLeansAreNothingInAll_17 fX4_52 rfl rfl ?_
  refine wp_get (q := 1) dX4_writeLeansAreNothingInAll_20 fX4_85 rfl rfl ?_
  refine wp_icmp_ge (tgt := 77) dX4_writeLeansAreNothingInAll_23 (by decide) (fun c => ?_) (fun c => ?_)
  · have h := h.1 c
    refine wp_iinc (Ms := [.ref 20, .int x1, .int (x2 + (1 : Int32)), .int x3]) (v := x2 + (1 : Int32)) dX4_writeLeansAreNothingInAll_77 rfl rfl (by decide) rfl ?_
    refine wp_goto (tgt := 2) dX4_writeLeansAreNothingInAll_80 (by decide) ?_
    exact wp_le (Ms := [.ref 20, .int x1, .int (x2 + (1 : Int32)), .retAddr 0]) ⟨Or.inr rfl, Or.inr rfl, Or.inr rfl, Or.inl rfl, trivial⟩ h
  · have h := h.2 c
    refine wp_aload_n dX4_writeLeansAreNothingInAll_26 rfl rfl ?_
    refine wp_get (q := 20) dX4_writeLeansAreNothingInAll_27 fX4_25 rfl rfl ?_
    refine wp_iload_n dX4_writeLeansAreNothingInAll_30 rfl rfl ?_
    obtain ⟨q1, h⟩ := h
    refine wp_iald2 (q := 35) (j := x1.toNatClampNeg) dX4_writeLeansAreNothingInAll_31 rfl q1 rfl ?_
    refine wp_iload_n dX4_writeLeansAreNothingInAll_32 rfl rfl ?_
    refine wp_callN (As := [.int ((S.2.2.1 17) x1.toNatClampNeg), .int x2]) (rest := []) dX4_writeLeansAreNothingInAll_33 mX6_has lX4_71 (by decide) rfl rfl (Nat.le_of_ble_eq_true rfl) (Nat.le_of_ble_eq_true rfl) h ?_
    rintro rv mh2 ⟨r3, S2, rfl, rfl, h⟩
    refine wp_if_eq (tgt := 71) dX4_writeLeansAreNothingInAll_36 (by decide) (fun c => ?_) (fun c => ?_)
    · have h := h.1 c
      refine wp_iinc (Ms := [.ref 20, .int x1, .int x2, .int (x3 + (1 : Int32))]) (v := x3 + (1 : Int32)) dX4_writeLeansAreNothingInAll_71 rfl rfl (by decide) rfl ?_
      refine wp_goto (tgt := 15) dX4_writeLeansAreNothingInAll_74 (by decide) ?_
      exact wp_le (Ms := [.ref 20, .int x1, .int x2, .int (x3 + (1 : Int32))]) ⟨Or.inr rfl, Or.inr rfl, Or.inr rfl, Or.inr rfl, trivial⟩ h
    · have h := h.2 c
      refine wp_aload_n dX4_writeLeansAreNothingInAll_39 rfl rfl ?_
      refine wp_get (q := 20) dX4_writeLeansAreNothingInAll_40 fX4_25 rfl rfl ?_
      refine wp_iload_n dX4_writeLeansAreNothingInAll_43 rfl rfl ?_
      refine wp_iald2 (q := 35) (j := x1.toNatClampNeg) dX4_writeLeansAreNothingInAll_44 rfl q1 rfl ?_
      refine wp_iload_n dX4_writeLeansAreNothingInAll_45 rfl rfl ?_
      refine wp_callN (As := [.int ((S2.2.2.1 17) x1.toNatClampNeg), .int x3]) (rest := []) dX4_writeLeansAreNothingInAll_46 mX6_has lX4_71 (by decide) rfl rfl (Nat.le_of_ble_eq_true rfl) (Nat.le_of_ble_eq_true rfl) h ?_
      rintro rv mh2 ⟨r5, S4, rfl, rfl, h⟩
      refine wp_if_eq (tgt := 71) dX4_writeLeansAreNothingInAll_49 (by decide) (fun c => ?_) (fun c => ?_)
      · have h := h.1 c
        refine wp_iinc (Ms := [.ref 20, .int x1, .int x2, .int (x3 + (1 : Int32))]) (v := x3 + (1 : Int32)) dX4_writeLeansAreNothingInAll_71 rfl rfl (by decide) rfl ?_
        refine wp_goto (tgt := 15) dX4_writeLeansAreNothingInAll_74 (by decide) ?_
        exact wp_le (Ms := [.ref 20, .int x1, .int x2, .int (x3 + (1 : Int32))]) ⟨Or.inr rfl, Or.inr rfl, Or.inr rfl, Or.inr rfl, trivial⟩ h
      · have h := h.2 c
        refine wp_aload_n dX4_writeLeansAreNothingInAll_52 rfl rfl ?_
        refine wp_get (q := 20) dX4_writeLeansAreNothingInAll_53 fX4_12 rfl rfl ?_
        refine wp_aload_n dX4_writeLeansAreNothingInAll_56 rfl rfl ?_
        refine wp_get (q := 20) dX4_writeLeansAreNothingInAll_57 fX4_41 rfl rfl ?_
        refine wp_iload_n dX4_writeLeansAreNothingInAll_60 rfl rfl ?_
        obtain ⟨q6, h⟩ := h
        refine wp_iald2 (q := 40) (j := x2.toNatClampNeg) dX4_writeLeansAreNothingInAll_61 rfl q6 rfl ?_
        refine wp_aload_n dX4_writeLeansAreNothingInAll_62 rfl rfl ?_
        refine wp_get (q := 20) dX4_writeLeansAreNothingInAll_63 fX4_41 rfl rfl ?_
        refine wp_iload_n dX4_writeLeansAreNothingInAll_66 rfl rfl ?_
        obtain ⟨q7, h⟩ := h
        refine wp_iald2 (q := 40) (j := x3.toNatClampNeg) dX4_writeLeansAreNothingInAll_67 rfl q7 rfl ?_
        refine wp_callV (q := 21) (As := [.int ((S4.2.2.1 19) x2.toNatClampNeg), .int ((S4.2.2.1 19) x3.toNatClampNeg)]) (rest := []) dX4_writeLeansAreNothingInAll_68 mX0_addFactor lX4_139 (by decide) rfl rfl rfl rfl (Nat.le_of_ble_eq_true rfl) (Nat.le_of_ble_eq_true rfl) h ?_
        rintro rv mh2 ⟨S8, rfl, rfl, h⟩
        refine wp_iinc (Ms := [.ref 20, .int x1, .int x2, .int (x3 + (1 : Int32))]) (v := x3 + (1 : Int32)) dX4_writeLeansAreNothingInAll_71 rfl rfl (by decide) rfl ?_
        refine wp_goto (tgt := 15) dX4_writeLeansAreNothingInAll_74 (by decide) ?_
        exact wp_le (Ms := [.ref 20, .int x1, .int x2, .int (x3 + (1 : Int32))]) ⟨Or.inr rfl, Or.inr rfl, Or.inr rfl, Or.inr rfl, trivial⟩ h
abbrev rX4_readTops : Room := { frames := 2, cells := 0, slots := 0, locals := 42 }
abbrev wX4_readTops (P : St → Prop) (pc : Nat) (Ls stk : List Value) (S : St) : Prop := Wp cX4_readTops RX4 4 rX4_readTops (wFV P) pc Ls stk (enc S)
abbrev tX4_readTops (a0 : Int32) (S : St) (P : St → Prop) : Prop := wX4_readTops P 0 (wl_en [.ref 20, .int a0] 4) [] S
set_option maxRecDepth 100000 in
theorem bX4_readTops_0 {P : St → Prop} {S : St} (a0 : Int32) (h : wX4_readTops P 2 [.ref 20, .int a0, .int (0 : Int32), .retAddr 0] [] S) : tX4_readTops a0 S P := by
  show wX4_readTops P 0 [.ref 20, .int a0, .retAddr 0, .retAddr 0] [] S
  refine wp_iconst (v := (0 : Int32)) dX4_readTops_0 (by decide) ?_
  refine wp_istore_n (Ms := [.ref 20, .int a0, .int (0 : Int32), .retAddr 0]) dX4_readTops_1 rfl (by decide) rfl ?_
  exact wp_le (Ms := [.ref 20, .int a0, .int (0 : Int32), .retAddr 0]) ⟨Or.inr rfl, Or.inr rfl, Or.inr rfl, Or.inl rfl, trivial⟩ h
set_option maxRecDepth 100000 in
theorem bX4_readTops_2 {P : St → Prop} {S : St} (x1 : Int32) (x2 : Int32) (h : (((S.1 0) ≤ x2 → P S) ∧ (¬ (S.1 0) ≤ x2 → vp_in x1 8 ∧ tX6_has ((S.2.2.1 16) x1.toNatClampNeg) x2 S (fun r3 S2 => ((r3 = 0 → tX6_has ((S2.2.2.1 17) x1.toNatClampNeg) x2 S2 (fun r5 S4 => ((r5 = 0 → wX4_readTops P 2 [.ref 20, .int x1, .int (x2 + (1 : Int32)), .retAddr 0] [] S4) ∧ (¬ r5 = 0 → vp_in x2 8 ∧ tX0_topOf ((S4.2.2.1 19) x2.toNatClampNeg) S4 (fun r8 S7 => wX4_readTops P 2 [.ref 20, .int x1, .int (x2 + (1 : Int32)), .retAddr 0] [] (sB S7 2 (vp_updL (S7.2.2.2 2) x2.toNatClampNeg r8))))))) ∧ (¬ r3 = 0 → vp_in x2 8 ∧ ((¬ ((S2.2.2.1 18) x2.toNatClampNeg) = (-1 : Int32) → tX0_topOf ((S2.2.2.1 18) x2.toNatClampNeg) S2 (fun r11 S10 => tX6_has ((S10.2.2.1 17) x1.toNatClampNeg) x2 (sB S10 1 (vp_updL (S10.2.2.2 1) x2.toNatClampNeg r11)) (fun r13 S12 => ((r13 = 0 → wX4_readTops P 2 [.ref 20, .int x1, .int (x2 + (1 : Int32)), .retAddr 0] [] S12) ∧ (¬ r13 = 0 → tX0_topOf ((S12.2.2.1 19) x2.toNatClampNeg) S12 (fun r15 S14 => wX4_readTops P 2 [.ref 20, .int x1, .int (x2 + (1 : Int32)), .retAddr 0] [] (sB S14 2 (vp_updL (S14.2.2.2 2) x2.toNatClampNeg r15)))))))) ∧ (((S2.2.2.1 18) x2.toNatClampNeg) = (-1 : Int32) → tX6_has ((S2.2.2.1 17) x1.toNatClampNeg) x2 (sB S2 1 (vp_updL (S2.2.2.2 1) x2.toNatClampNeg ((((S2.2.2.1 10) x2.toNatClampNeg).toInt64) * ((S2.2.2.2 0) x1.toNatClampNeg)))) (fun r17 S16 => ((r17 = 0 → wX4_readTops P 2 [.ref 20, .int x1, .int (x2 + (1 : Int32)), .retAddr 0] [] S16) ∧ (¬ r17 = 0 → tX0_topOf ((S16.2.2.1 19) x2.toNatClampNeg) S16 (fun r19 S18 => wX4_readTops P 2 [.ref 20, .int x1, .int (x2 + (1 : Int32)), .retAddr 0] [] (sB S18 2 (vp_updL (S18.2.2.2 2) x2.toNatClampNeg r19)))))))))))))) : wX4_readTops P 2 [.ref 20, .int x1, .int x2, .retAddr 0] [] S := by
  refine wp_iload_n dX4_readTops_2 rfl rfl ?_
  refine wp_aload_n dX4_readTops_3 rfl rfl ?_
  refine wp_get (q := 20) dX4_readTops_4 fX4_52 rfl rfl ?_
  refine wp_get (q := 1) dX4_readTops_7 fX4_85 rfl rfl ?_
  refine wp_icmp_ge (tgt := 123) dX4_readTops_10 (by decide) (fun c => ?_) (fun c => ?_)
  · have h := h.1 c
    exact wp_vret dX4_readTops_123 rfl ⟨_, rfl, rfl, h⟩
  · have h := h.2 c
    refine wp_aload_n dX4_readTops_13 rfl rfl ?_
    refine wp_get (q := 20) dX4_readTops_14 fX4_22 rfl rfl ?_
    refine wp_iload_n dX4_readTops_17 rfl rfl ?_
    obtain ⟨q1, h⟩ := h
    refine wp_iald2 (q := 34) (j := x1.toNatClampNeg) dX4_readTops_18 rfl q1 rfl ?_
    refine wp_iload_n dX4_readTops_19 rfl rfl ?_
    refine wp_callN (As := [.int ((S.2.2.1 16) x1.toNatClampNeg), .int x2]) (rest := []) dX4_readTops_20 mX6_has lX4_71 (by decide) rfl rfl (Nat.le_of_ble_eq_true rfl) (Nat.le_of_ble_eq_true rfl) h ?_
    rintro rv mh2 ⟨r3, S2, rfl, rfl, h⟩
    refine wp_if_eq (tgt := 85) dX4_readTops_23 (by decide) (fun c => ?_) (fun c => ?_)
    · have h := h.1 c
      refine wp_aload_n dX4_readTops_85 rfl rfl ?_
      refine wp_get (q := 20) dX4_readTops_86 fX4_25 rfl rfl ?_
      refine wp_iload_n dX4_readTops_89 rfl rfl ?_
      refine wp_iald2 (q := 35) (j := x1.toNatClampNeg) dX4_readTops_90 rfl q1 rfl ?_
      refine wp_iload_n dX4_readTops_91 rfl rfl ?_
      refine wp_callN (As := [.int ((S2.2.2.1 17) x1.toNatClampNeg), .int x2]) (rest := []) dX4_readTops_92 mX6_has lX4_71 (by decide) rfl rfl (Nat.le_of_ble_eq_true rfl) (Nat.le_of_ble_eq_true rfl) h ?_
      rintro rv mh2 ⟨r5, S4, rfl, rfl, h⟩
      refine wp_if_eq (tgt := 117) dX4_readTops_95 (by decide) (fun c => ?_) (fun c => ?_)
      · have h := h.1 c
        refine wp_iinc (Ms := [.ref 20, .int x1, .int (x2 + (1 : Int32)), .retAddr 0]) (v := x2 + (1 : Int32)) dX4_readTops_117 rfl rfl (by decide) rfl ?_
        refine wp_goto (tgt := 2) dX4_readTops_120 (by decide) ?_
        exact wp_le (Ms := [.ref 20, .int x1, .int (x2 + (1 : Int32)), .retAddr 0]) ⟨Or.inr rfl, Or.inr rfl, Or.inr rfl, Or.inl rfl, trivial⟩ h
      · have h := h.2 c
        refine wp_aload_n dX4_readTops_98 rfl rfl ?_
        refine wp_get (q := 20) dX4_readTops_99 fX4_35 rfl rfl ?_
        refine wp_iload_n dX4_readTops_102 rfl rfl ?_
        refine wp_aload_n dX4_readTops_103 rfl rfl ?_
        refine wp_get (q := 20) dX4_readTops_104 fX4_12 rfl rfl ?_
        refine wp_aload_n dX4_readTops_107 rfl rfl ?_
        refine wp_get (q := 20) dX4_readTops_108 fX4_41 rfl rfl ?_
        refine wp_iload_n dX4_readTops_111 rfl rfl ?_
        obtain ⟨q6, h⟩ := h
        refine wp_iald2 (q := 40) (j := x2.toNatClampNeg) dX4_readTops_112 rfl q6 rfl ?_
        refine wp_callV (q := 21) (As := [.int ((S4.2.2.1 19) x2.toNatClampNeg)]) (rest := [.int x2, .ref 38]) dX4_readTops_113 mX0_topOf lX4_142 (by decide) rfl rfl rfl rfl (Nat.le_of_ble_eq_true rfl) (Nat.le_of_ble_eq_true rfl) h ?_
        rintro rv mh2 ⟨r8, S7, rfl, rfl, h⟩
        refine wp_last2 (q := 38) (j := x2.toNatClampNeg) (mh2 := enc (sB S7 2 (vp_updL (S7.2.2.2 2) x2.toNatClampNeg r8))) dX4_readTops_116 rfl q6 rfl (es_38 _ _) ?_
        refine wp_iinc (Ms := [.ref 20, .int x1, .int (x2 + (1 : Int32)), .retAddr 0]) (v := x2 + (1 : Int32)) dX4_readTops_117 rfl rfl (by decide) rfl ?_
        refine wp_goto (tgt := 2) dX4_readTops_120 (by decide) ?_
        exact wp_le (Ms := [.ref 20, .int x1, .int (x2 + (1 : Int32)), .retAddr 0]) ⟨Or.inr rfl, Or.inr rfl, Or.inr rfl, Or.inl rfl, trivial⟩ h
    · have h := h.2 c
      refine wp_aload_n dX4_readTops_26 rfl rfl ?_
      refine wp_get (q := 20) dX4_readTops_27 fX4_38 rfl rfl ?_
      refine wp_iload_n dX4_readTops_30 rfl rfl ?_
      obtain ⟨q9, h⟩ := h
      refine wp_iald2 (q := 39) (j := x2.toNatClampNeg) dX4_readTops_31 rfl q9 rfl ?_
      refine wp_iconst (v := (-1 : Int32)) dX4_readTops_32 (by decide) ?_
      refine wp_icmp_ne (tgt := 40) dX4_readTops_33 (by decide) (fun c => ?_) (fun c => ?_)
      · have h := h.1 c
        refine wp_iconst (v := (0 : Int32)) dX4_readTops_40 (by decide) ?_
        refine wp_istore_n (Ms := [.ref 20, .int x1, .int x2, .int (0 : Int32)]) dX4_readTops_41 rfl (by decide) rfl ?_
        refine wp_aload_n dX4_readTops_42 rfl rfl ?_
        refine wp_get (q := 20) dX4_readTops_43 fX4_32 rfl rfl ?_
        refine wp_iload_n dX4_readTops_46 rfl rfl ?_
        refine wp_iload_n dX4_readTops_47 rfl rfl ?_
        refine wp_if_eq (tgt := 71) dX4_readTops_48 (by decide) (fun c => ?_) (fun c => ?_)
        rotate_left
        · exact absurd (by decide) c
        refine wp_aload_n dX4_readTops_71 rfl rfl ?_
        refine wp_get (q := 20) dX4_readTops_72 fX4_12 rfl rfl ?_
        refine wp_aload_n dX4_readTops_75 rfl rfl ?_
        refine wp_get (q := 20) dX4_readTops_76 fX4_38 rfl rfl ?_
        refine wp_iload_n dX4_readTops_79 rfl rfl ?_
        refine wp_iald2 (q := 39) (j := x2.toNatClampNeg) dX4_readTops_80 rfl q9 rfl ?_
        refine wp_callV (q := 21) (As := [.int ((S2.2.2.1 18) x2.toNatClampNeg)]) (rest := [.int x2, .ref 37]) dX4_readTops_81 mX0_topOf lX4_142 (by decide) rfl rfl rfl rfl (Nat.le_of_ble_eq_true rfl) (Nat.le_of_ble_eq_true rfl) h ?_
        rintro rv mh2 ⟨r11, S10, rfl, rfl, h⟩
        refine wp_last2 (q := 37) (j := x2.toNatClampNeg) (mh2 := enc (sB S10 1 (vp_updL (S10.2.2.2 1) x2.toNatClampNeg r11))) dX4_readTops_84 rfl q9 rfl (es_37 _ _) ?_
        refine wp_aload_n dX4_readTops_85 rfl rfl ?_
        refine wp_get (q := 20) dX4_readTops_86 fX4_25 rfl rfl ?_
        refine wp_iload_n dX4_readTops_89 rfl rfl ?_
        refine wp_iald2 (q := 35) (j := x1.toNatClampNeg) dX4_readTops_90 rfl q1 rfl ?_
        refine wp_iload_n dX4_readTops_91 rfl rfl ?_
        refine wp_callN (As := [.int ((S10.2.2.1 17) x1.toNatClampNeg), .int x2]) (rest := []) dX4_readTops_92 mX6_has lX4_71 (by decide) rfl rfl (Nat.le_of_ble_eq_true rfl) (Nat.le_of_ble_eq_true rfl) h ?_
        rintro rv mh2 ⟨r13, S12, rfl, rfl, h⟩
        refine wp_if_eq (tgt := 117) dX4_readTops_95 (by decide) (fun c => ?_) (fun c => ?_)
        · have h := h.1 c
          refine wp_iinc (Ms := [.ref 20, .int x1, .int (x2 + (1 : Int32)), .int (0 : Int32)]) (v := x2 + (1 : Int32)) dX4_readTops_117 rfl rfl (by decide) rfl ?_
          refine wp_goto (tgt := 2) dX4_readTops_120 (by decide) ?_
          exact wp_le (Ms := [.ref 20, .int x1, .int (x2 + (1 : Int32)), .retAddr 0]) ⟨Or.inr rfl, Or.inr rfl, Or.inr rfl, Or.inl rfl, trivial⟩ h
        · have h := h.2 c
          refine wp_aload_n dX4_readTops_98 rfl rfl ?_
          refine wp_get (q := 20) dX4_readTops_99 fX4_35 rfl rfl ?_
          refine wp_iload_n dX4_readTops_102 rfl rfl ?_
          refine wp_aload_n dX4_readTops_103 rfl rfl ?_
          refine wp_get (q := 20) dX4_readTops_104 fX4_12 rfl rfl ?_
          refine wp_aload_n dX4_readTops_107 rfl rfl ?_
          refine wp_get (q := 20) dX4_readTops_108 fX4_41 rfl rfl ?_
          refine wp_iload_n dX4_readTops_111 rfl rfl ?_
          refine wp_iald2 (q := 40) (j := x2.toNatClampNeg) dX4_readTops_112 rfl q9 rfl ?_
          refine wp_callV (q := 21) (As := [.int ((S12.2.2.1 19) x2.toNatClampNeg)]) (rest := [.int x2, .ref 38]) dX4_readTops_113 mX0_topOf lX4_142 (by decide) rfl rfl rfl rfl (Nat.le_of_ble_eq_true rfl) (Nat.le_of_ble_eq_true rfl) h ?_
          rintro rv mh2 ⟨r15, S14, rfl, rfl, h⟩
          refine wp_last2 (q := 38) (j := x2.toNatClampNeg) (mh2 := enc (sB S14 2 (vp_updL (S14.2.2.2 2) x2.toNatClampNeg r15))) dX4_readTops_116 rfl q9 rfl (es_38 _ _) ?_
          refine wp_iinc (Ms := [.ref 20, .int x1, .int (x2 + (1 : Int32)), .int (0 : Int32)]) (v := x2 + (1 : Int32)) dX4_readTops_117 rfl rfl (by decide) rfl ?_
          refine wp_goto (tgt := 2) dX4_readTops_120 (by decide) ?_
          exact wp_le (Ms := [.ref 20, .int x1, .int (x2 + (1 : Int32)), .retAddr 0]) ⟨Or.inr rfl, Or.inr rfl, Or.inr rfl, Or.inl rfl, trivial⟩ h
      · have h := h.2 c
        refine wp_iconst (v := (1 : Int32)) dX4_readTops_36 (by decide) ?_
        refine wp_goto (tgt := 41) dX4_readTops_37 (by decide) ?_
        refine wp_istore_n (Ms := [.ref 20, .int x1, .int x2, .int (1 : Int32)]) dX4_readTops_41 rfl (by decide) rfl ?_
        refine wp_aload_n dX4_readTops_42 rfl rfl ?_
        refine wp_get (q := 20) dX4_readTops_43 fX4_32 rfl rfl ?_
        refine wp_iload_n dX4_readTops_46 rfl rfl ?_
        refine wp_iload_n dX4_readTops_47 rfl rfl ?_
        refine wp_if_eq (tgt := 71) dX4_readTops_48 (by decide) (fun c => ?_) (fun c => ?_)
        · exact absurd c (by decide)
        refine wp_aload_n dX4_readTops_51 rfl rfl ?_
        refine wp_get (q := 20) dX4_readTops_52 fX4_56 rfl rfl ?_
        refine wp_get (q := 4) dX4_readTops_55 fX4_124 rfl rfl ?_
        refine wp_iload_n dX4_readTops_58 rfl rfl ?_
        refine wp_iald2 (q := 14) (j := x2.toNatClampNeg) dX4_readTops_59 rfl q9 rfl ?_
        refine wp_i2l dX4_readTops_60 ?_
        refine wp_aload_n dX4_readTops_61 rfl rfl ?_
        refine wp_get (q := 20) dX4_readTops_62 fX4_28 rfl rfl ?_
        refine wp_iload_n dX4_readTops_65 rfl rfl ?_
        refine wp_lald2 (q := 36) (j := x1.toNatClampNeg) dX4_readTops_66 rfl q1 rfl ?_
        refine wp_lmul dX4_readTops_67 ?_
        refine wp_goto (tgt := 84) dX4_readTops_68 (by decide) ?_
        refine wp_last2 (q := 37) (j := x2.toNatClampNeg) (mh2 := enc (sB S2 1 (vp_updL (S2.2.2.2 1) x2.toNatClampNeg ((((S2.2.2.1 10) x2.toNatClampNeg).toInt64) * ((S2.2.2.2 0) x1.toNatClampNeg))))) dX4_readTops_84 rfl q9 rfl (es_37 _ _) ?_
        refine wp_aload_n dX4_readTops_85 rfl rfl ?_
        refine wp_get (q := 20) dX4_readTops_86 fX4_25 rfl rfl ?_
        refine wp_iload_n dX4_readTops_89 rfl rfl ?_
        refine wp_iald2 (q := 35) (j := x1.toNatClampNeg) dX4_readTops_90 rfl q1 rfl ?_
        refine wp_iload_n dX4_readTops_91 rfl rfl ?_
        refine wp_callN (As := [.int ((S2.2.2.1 17) x1.toNatClampNeg), .int x2]) (rest := []) dX4_readTops_92 mX6_has lX4_71 (by decide) rfl rfl (Nat.le_of_ble_eq_true rfl) (Nat.le_of_ble_eq_true rfl) h ?_
        rintro rv mh2 ⟨r17, S16, rfl, rfl, h⟩
        refine wp_if_eq (tgt := 117) dX4_readTops_95 (by decide) (fun c => ?_) (fun c => ?_)
        · have h := h.1 c
          refine wp_iinc (Ms := [.ref 20, .int x1, .int (x2 + (1 : Int32)), .int (1 : Int32)]) (v := x2 + (1 : Int32)) dX4_readTops_117 rfl rfl (by decide) rfl ?_
          refine wp_goto (tgt := 2) dX4_readTops_120 (by decide) ?_
          exact wp_le (Ms := [.ref 20, .int x1, .int (x2 + (1 : Int32)), .retAddr 0]) ⟨Or.inr rfl, Or.inr rfl, Or.inr rfl, Or.inl rfl, trivial⟩ h
        · have h := h.2 c
          refine wp_aload_n dX4_readTops_98 rfl rfl ?_
          refine wp_get (q := 20) dX4_readTops_99 fX4_35 rfl rfl ?_
          refine wp_iload_n dX4_readTops_102 rfl rfl ?_
          refine wp_aload_n dX4_readTops_103 rfl rfl ?_
          refine wp_get (q := 20) dX4_readTops_104 fX4_12 rfl rfl ?_
          refine wp_aload_n dX4_readTops_107 rfl rfl ?_
          refine wp_get (q := 20) dX4_readTops_108 fX4_41 rfl rfl ?_
          refine wp_iload_n dX4_readTops_111 rfl rfl ?_
          refine wp_iald2 (q := 40) (j := x2.toNatClampNeg) dX4_readTops_112 rfl q9 rfl ?_
          refine wp_callV (q := 21) (As := [.int ((S16.2.2.1 19) x2.toNatClampNeg)]) (rest := [.int x2, .ref 38]) dX4_readTops_113 mX0_topOf lX4_142 (by decide) rfl rfl rfl rfl (Nat.le_of_ble_eq_true rfl) (Nat.le_of_ble_eq_true rfl) h ?_
          rintro rv mh2 ⟨r19, S18, rfl, rfl, h⟩
          refine wp_last2 (q := 38) (j := x2.toNatClampNeg) (mh2 := enc (sB S18 2 (vp_updL (S18.2.2.2 2) x2.toNatClampNeg r19))) dX4_readTops_116 rfl q9 rfl (es_38 _ _) ?_
          refine wp_iinc (Ms := [.ref 20, .int x1, .int (x2 + (1 : Int32)), .int (1 : Int32)]) (v := x2 + (1 : Int32)) dX4_readTops_117 rfl rfl (by decide) rfl ?_
          refine wp_goto (tgt := 2) dX4_readTops_120 (by decide) ?_
          exact wp_le (Ms := [.ref 20, .int x1, .int (x2 + (1 : Int32)), .retAddr 0]) ⟨Or.inr rfl, Or.inr rfl, Or.inr rfl, Or.inl rfl, trivial⟩ h
abbrev rX4_workOut : Room := { frames := 4, cells := 0, slots := 0, locals := 88 }
abbrev wX4_workOut (P : St → Prop) (pc : Nat) (Ls stk : List Value) (S : St) : Prop := Wp cX4_workOut RX4 3 rX4_workOut (wFV P) pc Ls stk (enc S)
abbrev tX4_workOut (a0 : Int32) (S : St) (P : St → Prop) : Prop := wX4_workOut P 0 (wl_en [.ref 20, .int a0] 3) [] S
set_option maxRecDepth 100000 in
theorem bX4_workOut_0 {P : St → Prop} {S : St} (a0 : Int32) (h : tX4_giveSlots a0 S (fun r2 S1 => tX0_start r2 S1 (fun S3 => wX4_workOut P 14 [.ref 20, .int a0, .int (0 : Int32)] [] S3))) : tX4_workOut a0 S P := by
  show wX4_workOut P 0 [.ref 20, .int a0, .retAddr 0] [] S
  refine wp_aload_n dX4_workOut_0 rfl rfl ?_
  refine wp_get (q := 20) dX4_workOut_1 fX4_12 rfl rfl ?_
  refine wp_aload_n dX4_workOut_4 rfl rfl ?_
  refine wp_iload_n dX4_workOut_5 rfl rfl ?_
  refine wp_callV (q := 20) (As := [.int a0]) (rest := [.ref 21]) dX4_workOut_6 mX4_giveSlots lX4_102 (by decide) rfl rfl rfl rfl (Nat.le_of_ble_eq_true rfl) (Nat.le_of_ble_eq_true rfl) h ?_
  rintro rv mh2 ⟨r2, S1, rfl, rfl, h⟩
  refine wp_callV (q := 21) (As := [.int r2]) (rest := []) dX4_workOut_9 mX0_start lX4_105 (by decide) rfl rfl rfl rfl (Nat.le_of_ble_eq_true rfl) (Nat.le_of_ble_eq_true rfl) h ?_
  rintro rv mh2 ⟨S3, rfl, rfl, h⟩
  refine wp_iconst (v := (0 : Int32)) dX4_workOut_12 (by decide) ?_
  refine wp_istore_n (Ms := [.ref 20, .int a0, .int (0 : Int32)]) dX4_workOut_13 rfl (by decide) rfl ?_
  exact wp_le (Ms := [.ref 20, .int a0, .int (0 : Int32)]) ⟨Or.inr rfl, Or.inr rfl, Or.inr rfl, trivial⟩ h
set_option maxRecDepth 100000 in
theorem bX4_workOut_14 {P : St → Prop} {S : St} (x1 : Int32) (x2 : Int32) (h : (((S.1 0) ≤ x2 → tX4_hasStaffMark x1 S (fun r2 S1 => ((¬ r2 = 0 → tX0_solve  S1 (fun r4 S3 => vp_in x1 8 ∧ tX4_readTops x1 (sB S3 0 (vp_updL (S3.2.2.2 0) x1.toNatClampNeg r4)) (fun S6 => P S6))) ∧ (r2 = 0 → tX4_writeLeansAreNothingInAll x1 S1 (fun S7 => tX0_solve  S7 (fun r9 S8 => vp_in x1 8 ∧ tX4_readTops x1 (sB S8 0 (vp_updL (S8.2.2.2 0) x1.toNatClampNeg r9)) (fun S11 => P S11))))))) ∧ (¬ (S.1 0) ≤ x2 → vp_in x1 8 ∧ tX6_has ((S.2.2.1 16) x1.toNatClampNeg) x2 S (fun r14 S13 => ((r14 = 0 → wX4_workOut P 14 [.ref 20, .int x1, .int (x2 + (1 : Int32))] [] S13) ∧ (¬ r14 = 0 → tX4_writeMarksOf x2 S13 (fun S15 => wX4_workOut P 14 [.ref 20, .int x1, .int (x2 + (1 : Int32))] [] S15))))))) : wX4_workOut P 14 [.ref 20, .int x1, .int x2] [] S := by
  refine wp_iload_n dX4_workOut_14 rfl rfl ?_
  refine wp_aload_n dX4_workOut_15 rfl rfl ?_
  refine wp_get (q := 20) dX4_workOut_16 fX4_52 rfl rfl ?_
  refine wp_get (q := 1) dX4_workOut_19 fX4_85 rfl rfl ?_
  refine wp_icmp_ge (tgt := 49) dX4_workOut_22 (by decide) (fun c => ?_) (fun c => ?_)
  · have h := h.1 c
    refine wp_aload_n dX4_workOut_49 rfl rfl ?_
    refine wp_iload_n dX4_workOut_50 rfl rfl ?_
    refine wp_callV (q := 20) (As := [.int x1]) (rest := []) dX4_workOut_51 mX4_hasStaffMark lX4_111 (by decide) rfl rfl rfl rfl (Nat.le_of_ble_eq_true rfl) (Nat.le_of_ble_eq_true rfl) h ?_
    rintro rv mh2 ⟨r2, S1, rfl, rfl, h⟩
    refine wp_if_ne (tgt := 62) dX4_workOut_54 (by decide) (fun c => ?_) (fun c => ?_)
    · have h := h.1 c
      refine wp_aload_n dX4_workOut_62 rfl rfl ?_
      refine wp_get (q := 20) dX4_workOut_63 fX4_28 rfl rfl ?_
      refine wp_iload_n dX4_workOut_66 rfl rfl ?_
      refine wp_aload_n dX4_workOut_67 rfl rfl ?_
      refine wp_get (q := 20) dX4_workOut_68 fX4_12 rfl rfl ?_
      refine wp_callV (q := 21) (As := []) (rest := [.int x1, .ref 36]) dX4_workOut_71 mX0_solve lX4_117 (by decide) rfl rfl rfl rfl (Nat.le_of_ble_eq_true rfl) (Nat.le_of_ble_eq_true rfl) h ?_
      rintro rv mh2 ⟨r4, S3, rfl, rfl, h⟩
      obtain ⟨q5, h⟩ := h
      refine wp_last2 (q := 36) (j := x1.toNatClampNeg) (mh2 := enc (sB S3 0 (vp_updL (S3.2.2.2 0) x1.toNatClampNeg r4))) dX4_workOut_74 rfl q5 rfl (es_36 _ _) ?_
      refine wp_aload_n dX4_workOut_75 rfl rfl ?_
      refine wp_iload_n dX4_workOut_76 rfl rfl ?_
      refine wp_callV (q := 20) (As := [.int x1]) (rest := []) dX4_workOut_77 mX4_readTops lX4_121 (by decide) rfl rfl rfl rfl (Nat.le_of_ble_eq_true rfl) (Nat.le_of_ble_eq_true rfl) h ?_
      rintro rv mh2 ⟨S6, rfl, rfl, h⟩
      exact wp_vret dX4_workOut_80 rfl ⟨_, rfl, rfl, h⟩
    · have h := h.2 c
      refine wp_aload_n dX4_workOut_57 rfl rfl ?_
      refine wp_iload_n dX4_workOut_58 rfl rfl ?_
      refine wp_callV (q := 20) (As := [.int x1]) (rest := []) dX4_workOut_59 mX4_writeLeansAreNothingInAll lX4_114 (by decide) rfl rfl rfl rfl (Nat.le_of_ble_eq_true rfl) (Nat.le_of_ble_eq_true rfl) h ?_
      rintro rv mh2 ⟨S7, rfl, rfl, h⟩
      refine wp_aload_n dX4_workOut_62 rfl rfl ?_
      refine wp_get (q := 20) dX4_workOut_63 fX4_28 rfl rfl ?_
      refine wp_iload_n dX4_workOut_66 rfl rfl ?_
      refine wp_aload_n dX4_workOut_67 rfl rfl ?_
      refine wp_get (q := 20) dX4_workOut_68 fX4_12 rfl rfl ?_
      refine wp_callV (q := 21) (As := []) (rest := [.int x1, .ref 36]) dX4_workOut_71 mX0_solve lX4_117 (by decide) rfl rfl rfl rfl (Nat.le_of_ble_eq_true rfl) (Nat.le_of_ble_eq_true rfl) h ?_
      rintro rv mh2 ⟨r9, S8, rfl, rfl, h⟩
      obtain ⟨q10, h⟩ := h
      refine wp_last2 (q := 36) (j := x1.toNatClampNeg) (mh2 := enc (sB S8 0 (vp_updL (S8.2.2.2 0) x1.toNatClampNeg r9))) dX4_workOut_74 rfl q10 rfl (es_36 _ _) ?_
      refine wp_aload_n dX4_workOut_75 rfl rfl ?_
      refine wp_iload_n dX4_workOut_76 rfl rfl ?_
      refine wp_callV (q := 20) (As := [.int x1]) (rest := []) dX4_workOut_77 mX4_readTops lX4_121 (by decide) rfl rfl rfl rfl (Nat.le_of_ble_eq_true rfl) (Nat.le_of_ble_eq_true rfl) h ?_
      rintro rv mh2 ⟨S11, rfl, rfl, h⟩
      exact wp_vret dX4_workOut_80 rfl ⟨_, rfl, rfl, h⟩
  · have h := h.2 c
    refine wp_aload_n dX4_workOut_25 rfl rfl ?_
    refine wp_get (q := 20) dX4_workOut_26 fX4_22 rfl rfl ?_
    refine wp_iload_n dX4_workOut_29 rfl rfl ?_
    obtain ⟨q12, h⟩ := h
    refine wp_iald2 (q := 34) (j := x1.toNatClampNeg) dX4_workOut_30 rfl q12 rfl ?_
    refine wp_iload_n dX4_workOut_31 rfl rfl ?_
    refine wp_callN (As := [.int ((S.2.2.1 16) x1.toNatClampNeg), .int x2]) (rest := []) dX4_workOut_32 mX6_has lX4_71 (by decide) rfl rfl (Nat.le_of_ble_eq_true rfl) (Nat.le_of_ble_eq_true rfl) h ?_
    rintro rv mh2 ⟨r14, S13, rfl, rfl, h⟩
    refine wp_if_eq (tgt := 43) dX4_workOut_35 (by decide) (fun c => ?_) (fun c => ?_)
    · have h := h.1 c
      refine wp_iinc (Ms := [.ref 20, .int x1, .int (x2 + (1 : Int32))]) (v := x2 + (1 : Int32)) dX4_workOut_43 rfl rfl (by decide) rfl ?_
      refine wp_goto (tgt := 14) dX4_workOut_46 (by decide) ?_
      exact wp_le (Ms := [.ref 20, .int x1, .int (x2 + (1 : Int32))]) ⟨Or.inr rfl, Or.inr rfl, Or.inr rfl, trivial⟩ h
    · have h := h.2 c
      refine wp_aload_n dX4_workOut_38 rfl rfl ?_
      refine wp_iload_n dX4_workOut_39 rfl rfl ?_
      refine wp_callV (q := 20) (As := [.int x2]) (rest := []) dX4_workOut_40 mX4_writeMarksOf lX4_108 (by decide) rfl rfl rfl rfl (Nat.le_of_ble_eq_true rfl) (Nat.le_of_ble_eq_true rfl) h ?_
      rintro rv mh2 ⟨S15, rfl, rfl, h⟩
      refine wp_iinc (Ms := [.ref 20, .int x1, .int (x2 + (1 : Int32))]) (v := x2 + (1 : Int32)) dX4_workOut_43 rfl rfl (by decide) rfl ?_
      refine wp_goto (tgt := 14) dX4_workOut_46 (by decide) ?_
      exact wp_le (Ms := [.ref 20, .int x1, .int (x2 + (1 : Int32))]) ⟨Or.inr rfl, Or.inr rfl, Or.inr rfl, trivial⟩ h
abbrev rX4_isTold : Room := { frames := 5, cells := 0, slots := 0, locals := 110 }
abbrev wX4_isTold (P : Int32 → St → Prop) (pc : Nat) (Ls stk : List Value) (S : St) : Prop := Wp cX4_isTold RX4 2 rX4_isTold (wFI .boolean P) pc Ls stk (enc S)
abbrev tX4_isTold (a0 : Int32) (S : St) (P : Int32 → St → Prop) : Prop := wX4_isTold P 0 (wl_en [.ref 20, .int a0] 2) [] S
set_option maxRecDepth 100000 in
theorem bX4_isTold_0 {P : Int32 → St → Prop} {S : St} (a0 : Int32) (h : tX4_isLarge a0 S (fun r2 S1 => ((r2 = 0 → vp_in a0 8 ∧ ((¬ (lg_cmp ((S1.2.2.2 0) a0.toNatClampNeg) (0 : Int64)) = 0 → (((lg_cmp ((S1.2.2.2 0) a0.toNatClampNeg) (0 : Int64)) = 0 → P (0 : Int32) S1) ∧ (¬ (lg_cmp ((S1.2.2.2 0) a0.toNatClampNeg) (0 : Int64)) = 0 → P (1 : Int32) S1))) ∧ ((lg_cmp ((S1.2.2.2 0) a0.toNatClampNeg) (0 : Int64)) = 0 → tX4_workOut a0 S1 (fun S4 => (((lg_cmp ((S4.2.2.2 0) a0.toNatClampNeg) (0 : Int64)) = 0 → P (0 : Int32) S4) ∧ (¬ (lg_cmp ((S4.2.2.2 0) a0.toNatClampNeg) (0 : Int64)) = 0 → P (1 : Int32) S4)))))) ∧ (¬ r2 = 0 → P (0 : Int32) S1)))) : tX4_isTold a0 S P := by
  show wX4_isTold P 0 [.ref 20, .int a0] [] S
  refine wp_aload_n dX4_isTold_0 rfl rfl ?_
  refine wp_iload_n dX4_isTold_1 rfl rfl ?_
  refine wp_callV (q := 20) (As := [.int a0]) (rest := []) dX4_isTold_2 mX4_isLarge lX4_63 (by decide) rfl rfl rfl rfl (Nat.le_of_ble_eq_true rfl) (Nat.le_of_ble_eq_true rfl) h ?_
  rintro rv mh2 ⟨r2, S1, rfl, rfl, h⟩
  refine wp_if_eq (tgt := 10) dX4_isTold_5 (by decide) (fun c => ?_) (fun c => ?_)
  · have h := h.1 c
    refine wp_aload_n dX4_isTold_10 rfl rfl ?_
    refine wp_get (q := 20) dX4_isTold_11 fX4_28 rfl rfl ?_
    refine wp_iload_n dX4_isTold_14 rfl rfl ?_
    obtain ⟨q3, h⟩ := h
    refine wp_lald2 (q := 36) (j := a0.toNatClampNeg) dX4_isTold_15 rfl q3 rfl ?_
    refine wp_lconst (v := (0 : Int64)) dX4_isTold_16 (by decide) ?_
    refine wp_lcmp dX4_isTold_17 ?_
    refine wp_if_ne (tgt := 26) dX4_isTold_18 (by decide) (fun c => ?_) (fun c => ?_)
    · have h := h.1 c
      refine wp_aload_n dX4_isTold_26 rfl rfl ?_
      refine wp_get (q := 20) dX4_isTold_27 fX4_28 rfl rfl ?_
      refine wp_iload_n dX4_isTold_30 rfl rfl ?_
      refine wp_lald2 (q := 36) (j := a0.toNatClampNeg) dX4_isTold_31 rfl q3 rfl ?_
      refine wp_lconst (v := (0 : Int64)) dX4_isTold_32 (by decide) ?_
      refine wp_lcmp dX4_isTold_33 ?_
      refine wp_if_eq (tgt := 41) dX4_isTold_34 (by decide) (fun c => ?_) (fun c => ?_)
      · have h := h.1 c
        refine wp_iconst (v := (0 : Int32)) dX4_isTold_41 (by decide) ?_
        exact wp_iret dX4_isTold_42 rfl rfl ⟨_, _, rfl, rfl, h⟩
      · have h := h.2 c
        refine wp_iconst (v := (1 : Int32)) dX4_isTold_37 (by decide) ?_
        refine wp_goto (tgt := 42) dX4_isTold_38 (by decide) ?_
        exact wp_iret dX4_isTold_42 rfl rfl ⟨_, _, rfl, rfl, h⟩
    · have h := h.2 c
      refine wp_aload_n dX4_isTold_21 rfl rfl ?_
      refine wp_iload_n dX4_isTold_22 rfl rfl ?_
      refine wp_callV (q := 20) (As := [.int a0]) (rest := []) dX4_isTold_23 mX4_workOut lX4_75 (by decide) rfl rfl rfl rfl (Nat.le_of_ble_eq_true rfl) (Nat.le_of_ble_eq_true rfl) h ?_
      rintro rv mh2 ⟨S4, rfl, rfl, h⟩
      refine wp_aload_n dX4_isTold_26 rfl rfl ?_
      refine wp_get (q := 20) dX4_isTold_27 fX4_28 rfl rfl ?_
      refine wp_iload_n dX4_isTold_30 rfl rfl ?_
      refine wp_lald2 (q := 36) (j := a0.toNatClampNeg) dX4_isTold_31 rfl q3 rfl ?_
      refine wp_lconst (v := (0 : Int64)) dX4_isTold_32 (by decide) ?_
      refine wp_lcmp dX4_isTold_33 ?_
      refine wp_if_eq (tgt := 41) dX4_isTold_34 (by decide) (fun c => ?_) (fun c => ?_)
      · have h := h.1 c
        refine wp_iconst (v := (0 : Int32)) dX4_isTold_41 (by decide) ?_
        exact wp_iret dX4_isTold_42 rfl rfl ⟨_, _, rfl, rfl, h⟩
      · have h := h.2 c
        refine wp_iconst (v := (1 : Int32)) dX4_isTold_37 (by decide) ?_
        refine wp_goto (tgt := 42) dX4_isTold_38 (by decide) ?_
        exact wp_iret dX4_isTold_42 rfl rfl ⟨_, _, rfl, rfl, h⟩
  · have h := h.2 c
    refine wp_iconst (v := (0 : Int32)) dX4_isTold_8 (by decide) ?_
    exact wp_iret dX4_isTold_9 rfl rfl ⟨_, _, rfl, rfl, h⟩
abbrev rX5_forget : Room := { frames := 0, cells := 0, slots := 0, locals := 0 }
abbrev wX5_forget (P : St → Prop) (pc : Nat) (Ls stk : List Value) (S : St) : Prop := Wp cX5_forget RX5 1 rX5_forget (wFV P) pc Ls stk (enc S)
abbrev tX5_forget  (S : St) (P : St → Prop) : Prop := wX5_forget P 0 (wl_en [.ref 15] 1) [] S
set_option maxRecDepth 100000 in
theorem bX5_forget_0 {P : St → Prop} {S : St}  (h : P (sI S 1 (0 : Int32))) : tX5_forget  S P := by
  show wX5_forget P 0 [.ref 15] [] S
  refine wp_aload_n dX5_forget_0 rfl rfl ?_
  refine wp_iconst (v := (0 : Int32)) dX5_forget_1 (by decide) ?_
  refine wp_put (q := 15) (mh2 := enc (sI S 1 (0 : Int32))) dX5_forget_2 fX5_24 (by decide) rfl (Nat.le_of_ble_eq_true rfl) (fun _ _ => rfl) rfl rfl (eo_15_5 _ _) ?_
  exact wp_vret dX5_forget_5 rfl ⟨_, rfl, rfl, h⟩
abbrev rX5_take : Room := { frames := 0, cells := 0, slots := 0, locals := 0 }
abbrev wX5_take (P : St → Prop) (pc : Nat) (Ls stk : List Value) (S : St) : Prop := Wp cX5_take RX5 3 rX5_take (wFV P) pc Ls stk (enc S)
abbrev tX5_take (a0 : Int32) (a1 : Int32) (S : St) (P : St → Prop) : Prop := wX5_take P 0 (wl_en [.ref 15, .int a0, .int a1] 3) [] S
set_option maxRecDepth 100000 in
theorem bX5_take_0 {P : St → Prop} {S : St} (a0 : Int32) (a1 : Int32) (h : vp_in a0 8 ∧ vp_in a1 8 ∧ P (sA (sA S 11 (upd (S.2.2.1 11) a0.toNatClampNeg (((S.2.2.1 11) a0.toNatClampNeg) ||| ((1 : Int32) <<< (a1 &&& (31 : Int32)))))) 12 (upd (S.2.2.1 12) a1.toNatClampNeg (((S.2.2.1 12) a1.toNatClampNeg) + (1 : Int32))))) : tX5_take a0 a1 S P := by
  show wX5_take P 0 [.ref 15, .int a0, .int a1] [] S
  refine wp_aload_n dX5_take_0 rfl rfl ?_
  refine wp_get (q := 15) dX5_take_1 fX5_9 rfl rfl ?_
  refine wp_iload_n dX5_take_4 rfl rfl ?_
  refine wp_dup2 dX5_take_5 rfl rfl ?_
  obtain ⟨q1, h⟩ := h
  refine wp_iald2 (q := 16) (j := a0.toNatClampNeg) dX5_take_6 rfl q1 rfl ?_
  refine wp_iconst (v := (1 : Int32)) dX5_take_7 (by decide) ?_
  refine wp_iload_n dX5_take_8 rfl rfl ?_
  refine wp_ishl dX5_take_9 ?_
  refine wp_ior dX5_take_10 ?_
  refine wp_iast2 (q := 16) (j := a0.toNatClampNeg) (mh2 := enc (sA S 11 (upd (S.2.2.1 11) a0.toNatClampNeg (((S.2.2.1 11) a0.toNatClampNeg) ||| ((1 : Int32) <<< (a1 &&& (31 : Int32))))))) dX5_take_11 rfl q1 rfl (es_16 _ _) ?_
  refine wp_aload_n dX5_take_12 rfl rfl ?_
  refine wp_get (q := 15) dX5_take_13 fX5_15 rfl rfl ?_
  refine wp_iload_n dX5_take_16 rfl rfl ?_
  refine wp_dup2 dX5_take_17 rfl rfl ?_
  obtain ⟨q2, h⟩ := h
  refine wp_iald2 (q := 17) (j := a1.toNatClampNeg) dX5_take_18 rfl q2 rfl ?_
  refine wp_iconst (v := (1 : Int32)) dX5_take_19 (by decide) ?_
  refine wp_iadd dX5_take_20 ?_
  refine wp_iast2 (q := 17) (j := a1.toNatClampNeg) (mh2 := enc (sA (sA S 11 (upd (S.2.2.1 11) a0.toNatClampNeg (((S.2.2.1 11) a0.toNatClampNeg) ||| ((1 : Int32) <<< (a1 &&& (31 : Int32)))))) 12 (upd (S.2.2.1 12) a1.toNatClampNeg (((S.2.2.1 12) a1.toNatClampNeg) + (1 : Int32))))) dX5_take_21 rfl q2 rfl (es_17 _ _) ?_
  exact wp_vret dX5_take_22 rfl ⟨_, rfl, rfl, h⟩
abbrev rX5_leastOf : Room := { frames := 1, cells := 0, slots := 0, locals := 21 }
abbrev wX5_leastOf (P : Int32 → St → Prop) (pc : Nat) (Ls stk : List Value) (S : St) : Prop := Wp cX5_leastOf RX5 3 rX5_leastOf (wFI .int P) pc Ls stk (enc S)
abbrev tX5_leastOf (a0 : Int32) (S : St) (P : Int32 → St → Prop) : Prop := wX5_leastOf P 0 (wl_en [.ref 15, .int a0] 3) [] S
set_option maxRecDepth 100000 in
theorem bX5_leastOf_0 {P : Int32 → St → Prop} {S : St} (a0 : Int32) (h : wX5_leastOf P 2 [.ref 15, .int a0, .int (0 : Int32)] [] S) : tX5_leastOf a0 S P := by
  show wX5_leastOf P 0 [.ref 15, .int a0, .retAddr 0] [] S
  refine wp_iconst (v := (0 : Int32)) dX5_leastOf_0 (by decide) ?_
  refine wp_istore_n (Ms := [.ref 15, .int a0, .int (0 : Int32)]) dX5_leastOf_1 rfl (by decide) rfl ?_
  exact wp_le (Ms := [.ref 15, .int a0, .int (0 : Int32)]) ⟨Or.inr rfl, Or.inr rfl, Or.inr rfl, trivial⟩ h
set_option maxRecDepth 100000 in
theorem bX5_leastOf_2 {P : Int32 → St → Prop} {S : St} (x1 : Int32) (x2 : Int32) (h : (((S.1 0) ≤ x2 → P (0 : Int32) S) ∧ (¬ (S.1 0) ≤ x2 → tX6_has x1 x2 S (fun r2 S1 => ((r2 = 0 → wX5_leastOf P 2 [.ref 15, .int x1, .int (x2 + (1 : Int32))] [] S1) ∧ (¬ r2 = 0 → P x2 S1)))))) : wX5_leastOf P 2 [.ref 15, .int x1, .int x2] [] S := by
  refine wp_iload_n dX5_leastOf_2 rfl rfl ?_
  refine wp_aload_n dX5_leastOf_3 rfl rfl ?_
  refine wp_get (q := 15) dX5_leastOf_4 fX5_31 rfl rfl ?_
  refine wp_get (q := 1) dX5_leastOf_7 fX5_48 rfl rfl ?_
  refine wp_icmp_ge (tgt := 29) dX5_leastOf_10 (by decide) (fun c => ?_) (fun c => ?_)
  · have h := h.1 c
    refine wp_iconst (v := (0 : Int32)) dX5_leastOf_29 (by decide) ?_
    exact wp_iret dX5_leastOf_30 rfl rfl ⟨_, _, rfl, rfl, h⟩
  · have h := h.2 c
    refine wp_iload_n dX5_leastOf_13 rfl rfl ?_
    refine wp_iload_n dX5_leastOf_14 rfl rfl ?_
    refine wp_callN (As := [.int x1, .int x2]) (rest := []) dX5_leastOf_15 mX6_has lX5_65 (by decide) rfl rfl (Nat.le_of_ble_eq_true rfl) (Nat.le_of_ble_eq_true rfl) h ?_
    rintro rv mh2 ⟨r2, S1, rfl, rfl, h⟩
    refine wp_if_eq (tgt := 23) dX5_leastOf_18 (by decide) (fun c => ?_) (fun c => ?_)
    · have h := h.1 c
      refine wp_iinc (Ms := [.ref 15, .int x1, .int (x2 + (1 : Int32))]) (v := x2 + (1 : Int32)) dX5_leastOf_23 rfl rfl (by decide) rfl ?_
      refine wp_goto (tgt := 2) dX5_leastOf_26 (by decide) ?_
      exact wp_le (Ms := [.ref 15, .int x1, .int (x2 + (1 : Int32))]) ⟨Or.inr rfl, Or.inr rfl, Or.inr rfl, trivial⟩ h
    · have h := h.2 c
      refine wp_iload_n dX5_leastOf_21 rfl rfl ?_
      exact wp_iret dX5_leastOf_22 rfl rfl ⟨_, _, rfl, rfl, h⟩
abbrev rX5_reach : Room := { frames := 1, cells := 0, slots := 0, locals := 21 }
abbrev wX5_reach (P : Int32 → St → Prop) (pc : Nat) (Ls stk : List Value) (S : St) : Prop := Wp cX5_reach RX5 8 rX5_reach (wFI .int P) pc Ls stk (enc S)
abbrev tX5_reach (a0 : Int32) (a1 : Int32) (a2 : Int32) (S : St) (P : Int32 → St → Prop) : Prop := wX5_reach P 0 (wl_en [.ref 15, .int a0, .int a1, .int a2] 8) [] S
set_option maxRecDepth 100000 in
theorem bX5_reach_0 {P : Int32 → St → Prop} {S : St} (a0 : Int32) (a1 : Int32) (a2 : Int32) (h : wX5_reach P 6 [.ref 15, .int a0, .int a1, .int a2, .int (0 : Int32), .int a1, .retAddr 0, .retAddr 0] [] S) : tX5_reach a0 a1 a2 S P := by
  show wX5_reach P 0 [.ref 15, .int a0, .int a1, .int a2, .retAddr 0, .retAddr 0, .retAddr 0, .retAddr 0] [] S
  refine wp_iconst (v := (0 : Int32)) dX5_reach_0 (by decide) ?_
  refine wp_istore (Ms := [.ref 15, .int a0, .int a1, .int a2, .int (0 : Int32), .retAddr 0, .retAddr 0, .retAddr 0]) dX5_reach_1 (by decide) rfl ?_
  refine wp_iload_n dX5_reach_3 rfl rfl ?_
  refine wp_istore (Ms := [.ref 15, .int a0, .int a1, .int a2, .int (0 : Int32), .int a1, .retAddr 0, .retAddr 0]) dX5_reach_4 (by decide) rfl ?_
  exact wp_le (Ms := [.ref 15, .int a0, .int a1, .int a2, .int (0 : Int32), .int a1, .retAddr 0, .retAddr 0]) ⟨Or.inr rfl, Or.inr rfl, Or.inr rfl, Or.inr rfl, Or.inr rfl, Or.inr rfl, Or.inl rfl, Or.inl rfl, trivial⟩ h
set_option maxRecDepth 100000 in
theorem bX5_reach_6 {P : Int32 → St → Prop} {S : St} (x1 : Int32) (x2 : Int32) (x3 : Int32) (x4 : Int32) (x5 : Int32) (h : (((S.1 0) ≤ x5 → P x4 S) ∧ (¬ (S.1 0) ≤ x5 → vp_in x5 8 ∧ tX6_has ((S.2.2.1 11) x5.toNatClampNeg) x1 S (fun r3 S2 => ((r3 = 0 → wX5_reach P 6 [.ref 15, .int x1, .int x2, .int x3, .int x4, .int (x5 + (1 : Int32)), .retAddr 0, .retAddr 0] [] S2) ∧ (¬ r3 = 0 → tX1_mayMark x5 S2 (fun r5 S4 => wX5_reach P 65 [.ref 15, .int x1, .int x2, .int x3, .int x4, .int x5, .int (((r5 &&& (((S4.2.2.1 11) x5.toNatClampNeg) ^^^ (-1 : Int32))) &&& (x3 ^^^ (-1 : Int32))) &&& (x4 ^^^ (-1 : Int32))), .int (0 : Int32)] [] S4))))))) : wX5_reach P 6 [.ref 15, .int x1, .int x2, .int x3, .int x4, .int x5, .retAddr 0, .retAddr 0] [] S := by
  refine wp_iload dX5_reach_6 rfl ?_
  refine wp_aload_n dX5_reach_8 rfl rfl ?_
  refine wp_get (q := 15) dX5_reach_9 fX5_31 rfl rfl ?_
  refine wp_get (q := 1) dX5_reach_12 fX5_48 rfl rfl ?_
  refine wp_icmp_ge (tgt := 123) dX5_reach_15 (by decide) (fun c => ?_) (fun c => ?_)
  · have h := h.1 c
    refine wp_iload dX5_reach_123 rfl ?_
    exact wp_iret dX5_reach_125 rfl rfl ⟨_, _, rfl, rfl, h⟩
  · have h := h.2 c
    refine wp_aload_n dX5_reach_18 rfl rfl ?_
    refine wp_get (q := 15) dX5_reach_19 fX5_9 rfl rfl ?_
    refine wp_iload dX5_reach_22 rfl ?_
    obtain ⟨q1, h⟩ := h
    refine wp_iald2 (q := 16) (j := x5.toNatClampNeg) dX5_reach_24 rfl q1 rfl ?_
    refine wp_iload_n dX5_reach_25 rfl rfl ?_
    refine wp_callN (As := [.int ((S.2.2.1 11) x5.toNatClampNeg), .int x1]) (rest := []) dX5_reach_26 mX6_has lX5_65 (by decide) rfl rfl (Nat.le_of_ble_eq_true rfl) (Nat.le_of_ble_eq_true rfl) h ?_
    rintro rv mh2 ⟨r3, S2, rfl, rfl, h⟩
    refine wp_if_eq (tgt := 117) dX5_reach_29 (by decide) (fun c => ?_) (fun c => ?_)
    · have h := h.1 c
      refine wp_iinc (Ms := [.ref 15, .int x1, .int x2, .int x3, .int x4, .int (x5 + (1 : Int32)), .retAddr 0, .retAddr 0]) (v := x5 + (1 : Int32)) dX5_reach_117 rfl rfl (by decide) rfl ?_
      refine wp_goto (tgt := 6) dX5_reach_120 (by decide) ?_
      exact wp_le (Ms := [.ref 15, .int x1, .int x2, .int x3, .int x4, .int (x5 + (1 : Int32)), .retAddr 0, .retAddr 0]) ⟨Or.inr rfl, Or.inr rfl, Or.inr rfl, Or.inr rfl, Or.inr rfl, Or.inr rfl, Or.inl rfl, Or.inl rfl, trivial⟩ h
    · have h := h.2 c
      refine wp_aload_n dX5_reach_32 rfl rfl ?_
      refine wp_get (q := 15) dX5_reach_33 fX5_31 rfl rfl ?_
      refine wp_iload dX5_reach_36 rfl ?_
      refine wp_callV (q := 1) (As := [.int x5]) (rest := []) dX5_reach_38 mX1_mayMark lX5_61 (by decide) rfl rfl rfl rfl (Nat.le_of_ble_eq_true rfl) (Nat.le_of_ble_eq_true rfl) h ?_
      rintro rv mh2 ⟨r5, S4, rfl, rfl, h⟩
      refine wp_aload_n dX5_reach_41 rfl rfl ?_
      refine wp_get (q := 15) dX5_reach_42 fX5_9 rfl rfl ?_
      refine wp_iload dX5_reach_45 rfl ?_
      refine wp_iald2 (q := 16) (j := x5.toNatClampNeg) dX5_reach_47 rfl q1 rfl ?_
      refine wp_iconst (v := (-1 : Int32)) dX5_reach_48 (by decide) ?_
      refine wp_ixor dX5_reach_49 ?_
      refine wp_iand dX5_reach_50 ?_
      refine wp_iload_n dX5_reach_51 rfl rfl ?_
      refine wp_iconst (v := (-1 : Int32)) dX5_reach_52 (by decide) ?_
      refine wp_ixor dX5_reach_53 ?_
      refine wp_iand dX5_reach_54 ?_
      refine wp_iload dX5_reach_55 rfl ?_
      refine wp_iconst (v := (-1 : Int32)) dX5_reach_57 (by decide) ?_
      refine wp_ixor dX5_reach_58 ?_
      refine wp_iand dX5_reach_59 ?_
      refine wp_istore (Ms := [.ref 15, .int x1, .int x2, .int x3, .int x4, .int x5, .int (((r5 &&& (((S4.2.2.1 11) x5.toNatClampNeg) ^^^ (-1 : Int32))) &&& (x3 ^^^ (-1 : Int32))) &&& (x4 ^^^ (-1 : Int32))), .retAddr 0]) dX5_reach_60 (by decide) rfl ?_
      refine wp_iconst (v := (0 : Int32)) dX5_reach_62 (by decide) ?_
      refine wp_istore (Ms := [.ref 15, .int x1, .int x2, .int x3, .int x4, .int x5, .int (((r5 &&& (((S4.2.2.1 11) x5.toNatClampNeg) ^^^ (-1 : Int32))) &&& (x3 ^^^ (-1 : Int32))) &&& (x4 ^^^ (-1 : Int32))), .int (0 : Int32)]) dX5_reach_63 (by decide) rfl ?_
      exact wp_le (Ms := [.ref 15, .int x1, .int x2, .int x3, .int x4, .int x5, .int (((r5 &&& (((S4.2.2.1 11) x5.toNatClampNeg) ^^^ (-1 : Int32))) &&& (x3 ^^^ (-1 : Int32))) &&& (x4 ^^^ (-1 : Int32))), .int (0 : Int32)]) ⟨Or.inr rfl, Or.inr rfl, Or.inr rfl, Or.inr rfl, Or.inr rfl, Or.inr rfl, Or.inr rfl, Or.inr rfl, trivial⟩ h
set_option maxRecDepth 100000 in
theorem bX5_reach_65 {P : Int32 → St → Prop} {S : St} (x1 : Int32) (x2 : Int32) (x3 : Int32) (x4 : Int32) (x5 : Int32) (x6 : Int32) (x7 : Int32) (h : (((S.1 0) ≤ x7 → wX5_reach P 6 [.ref 15, .int x1, .int x2, .int x3, .int (x4 ||| x6), .int (x5 + (1 : Int32)), .retAddr 0, .retAddr 0] [] S) ∧ (¬ (S.1 0) ≤ x7 → tX6_has x6 x7 S (fun r2 S1 => ((r2 = 0 → wX5_reach P 65 [.ref 15, .int x1, .int x2, .int x3, .int x4, .int x5, .int x6, .int (x7 + (1 : Int32))] [] S1) ∧ (¬ r2 = 0 → vp_in x7 8 ∧ wX5_reach P 65 [.ref 15, .int x1, .int x2, .int x3, .int x4, .int x5, .int x6, .int (x7 + (1 : Int32))] [] (sA (sA S1 13 (upd (S1.2.2.1 13) x7.toNatClampNeg x1)) 14 (upd (S1.2.2.1 14) x7.toNatClampNeg x5)))))))) : wX5_reach P 65 [.ref 15, .int x1, .int x2, .int x3, .int x4, .int x5, .int x6, .int x7] [] S := by
  refine wp_iload dX5_reach_65 rfl ?_
  refine wp_aload_n dX5_reach_67 rfl rfl ?_
  refine wp_get (q := 15) dX5_reach_68 fX5_31 rfl rfl ?_
  refine wp_get (q := 1) dX5_reach_71 fX5_48 rfl rfl ?_
  refine wp_icmp_ge (tgt := 110) dX5_reach_74 (by decide) (fun c => ?_) (fun c => ?_)
  · have h := h.1 c
    refine wp_iload dX5_reach_110 rfl ?_
    refine wp_iload dX5_reach_112 rfl ?_
    refine wp_ior dX5_reach_114 ?_
    refine wp_istore (Ms := [.ref 15, .int x1, .int x2, .int x3, .int (x4 ||| x6), .int x5, .int x6, .int x7]) dX5_reach_115 (by decide) rfl ?_
    refine wp_iinc (Ms := [.ref 15, .int x1, .int x2, .int x3, .int (x4 ||| x6), .int (x5 + (1 : Int32)), .int x6, .int x7]) (v := x5 + (1 : Int32)) dX5_reach_117 rfl rfl (by decide) rfl ?_
    refine wp_goto (tgt := 6) dX5_reach_120 (by decide) ?_
    exact wp_le (Ms := [.ref 15, .int x1, .int x2, .int x3, .int (x4 ||| x6), .int (x5 + (1 : Int32)), .retAddr 0, .retAddr 0]) ⟨Or.inr rfl, Or.inr rfl, Or.inr rfl, Or.inr rfl, Or.inr rfl, Or.inr rfl, Or.inl rfl, Or.inl rfl, trivial⟩ h
  · have h := h.2 c
    refine wp_iload dX5_reach_77 rfl ?_
    refine wp_iload dX5_reach_79 rfl ?_
    refine wp_callN (As := [.int x6, .int x7]) (rest := []) dX5_reach_81 mX6_has lX5_65 (by decide) rfl rfl (Nat.le_of_ble_eq_true rfl) (Nat.le_of_ble_eq_true rfl) h ?_
    rintro rv mh2 ⟨r2, S1, rfl, rfl, h⟩
    refine wp_if_eq (tgt := 104) dX5_reach_84 (by decide) (fun c => ?_) (fun c => ?_)
    · have h := h.1 c
      refine wp_iinc (Ms := [.ref 15, .int x1, .int x2, .int x3, .int x4, .int x5, .int x6, .int (x7 + (1 : Int32))]) (v := x7 + (1 : Int32)) dX5_reach_104 rfl rfl (by decide) rfl ?_
      refine wp_goto (tgt := 65) dX5_reach_107 (by decide) ?_
      exact wp_le (Ms := [.ref 15, .int x1, .int x2, .int x3, .int x4, .int x5, .int x6, .int (x7 + (1 : Int32))]) ⟨Or.inr rfl, Or.inr rfl, Or.inr rfl, Or.inr rfl, Or.inr rfl, Or.inr rfl, Or.inr rfl, Or.inr rfl, trivial⟩ h
    · have h := h.2 c
      refine wp_aload_n dX5_reach_87 rfl rfl ?_
      refine wp_get (q := 15) dX5_reach_88 fX5_18 rfl rfl ?_
      refine wp_iload dX5_reach_91 rfl ?_
      refine wp_iload_n dX5_reach_93 rfl rfl ?_
      obtain ⟨q3, h⟩ := h
      refine wp_iast2 (q := 18) (j := x7.toNatClampNeg) (mh2 := enc (sA S1 13 (upd (S1.2.2.1 13) x7.toNatClampNeg x1))) dX5_reach_94 rfl q3 rfl (es_18 _ _) ?_
      refine wp_aload_n dX5_reach_95 rfl rfl ?_
      refine wp_get (q := 15) dX5_reach_96 fX5_21 rfl rfl ?_
      refine wp_iload dX5_reach_99 rfl ?_
      refine wp_iload dX5_reach_101 rfl ?_
      refine wp_iast2 (q := 19) (j := x7.toNatClampNeg) (mh2 := enc (sA (sA S1 13 (upd (S1.2.2.1 13) x7.toNatClampNeg x1)) 14 (upd (S1.2.2.1 14) x7.toNatClampNeg x5))) dX5_reach_103 rfl q3 rfl (es_19 _ _) ?_
      refine wp_iinc (Ms := [.ref 15, .int x1, .int x2, .int x3, .int x4, .int x5, .int x6, .int (x7 + (1 : Int32))]) (v := x7 + (1 : Int32)) dX5_reach_104 rfl rfl (by decide) rfl ?_
      refine wp_goto (tgt := 65) dX5_reach_107 (by decide) ?_
      exact wp_le (Ms := [.ref 15, .int x1, .int x2, .int x3, .int x4, .int x5, .int x6, .int (x7 + (1 : Int32))]) ⟨Or.inr rfl, Or.inr rfl, Or.inr rfl, Or.inr rfl, Or.inr rfl, Or.inr rfl, Or.inr rfl, Or.inr rfl, trivial⟩ h
abbrev rX5_withRoom : Room := { frames := 1, cells := 0, slots := 0, locals := 21 }
abbrev wX5_withRoom (P : Int32 → St → Prop) (pc : Nat) (Ls stk : List Value) (S : St) : Prop := Wp cX5_withRoom RX5 3 rX5_withRoom (wFI .int P) pc Ls stk (enc S)
abbrev tX5_withRoom (a0 : Int32) (S : St) (P : Int32 → St → Prop) : Prop := wX5_withRoom P 0 (wl_en [.ref 15, .int a0] 3) [] S
set_option maxRecDepth 100000 in
theorem bX5_withRoom_0 {P : Int32 → St → Prop} {S : St} (a0 : Int32) (h : wX5_withRoom P 2 [.ref 15, .int a0, .int (0 : Int32)] [] S) : tX5_withRoom a0 S P := by
  show wX5_withRoom P 0 [.ref 15, .int a0, .retAddr 0] [] S
  refine wp_iconst (v := (0 : Int32)) dX5_withRoom_0 (by decide) ?_
  refine wp_istore_n (Ms := [.ref 15, .int a0, .int (0 : Int32)]) dX5_withRoom_1 rfl (by decide) rfl ?_
  exact wp_le (Ms := [.ref 15, .int a0, .int (0 : Int32)]) ⟨Or.inr rfl, Or.inr rfl, Or.inr rfl, trivial⟩ h
set_option maxRecDepth 100000 in
theorem bX5_withRoom_2 {P : Int32 → St → Prop} {S : St} (x1 : Int32) (x2 : Int32) (h : (((S.1 0) ≤ x2 → P (-1 : Int32) S) ∧ (¬ (S.1 0) ≤ x2 → tX6_has x1 x2 S (fun r2 S1 => ((r2 = 0 → wX5_withRoom P 2 [.ref 15, .int x1, .int (x2 + (1 : Int32))] [] S1) ∧ (¬ r2 = 0 → vp_in x2 8 ∧ ((((S1.2.2.1 1) 1) ≤ ((S1.2.2.1 12) x2.toNatClampNeg) → wX5_withRoom P 2 [.ref 15, .int x1, .int (x2 + (1 : Int32))] [] S1) ∧ (¬ ((S1.2.2.1 1) 1) ≤ ((S1.2.2.1 12) x2.toNatClampNeg) → P x2 S1)))))))) : wX5_withRoom P 2 [.ref 15, .int x1, .int x2] [] S := by
  refine wp_iload_n dX5_withRoom_2 rfl rfl ?_
  refine wp_aload_n dX5_withRoom_3 rfl rfl ?_
  refine wp_get (q := 15) dX5_withRoom_4 fX5_31 rfl rfl ?_
  refine wp_get (q := 1) dX5_withRoom_7 fX5_48 rfl rfl ?_
  refine wp_icmp_ge (tgt := 47) dX5_withRoom_10 (by decide) (fun c => ?_) (fun c => ?_)
  · have h := h.1 c
    refine wp_iconst (v := (-1 : Int32)) dX5_withRoom_47 (by decide) ?_
    exact wp_iret dX5_withRoom_48 rfl rfl ⟨_, _, rfl, rfl, h⟩
  · have h := h.2 c
    refine wp_iload_n dX5_withRoom_13 rfl rfl ?_
    refine wp_iload_n dX5_withRoom_14 rfl rfl ?_
    refine wp_callN (As := [.int x1, .int x2]) (rest := []) dX5_withRoom_15 mX6_has lX5_65 (by decide) rfl rfl (Nat.le_of_ble_eq_true rfl) (Nat.le_of_ble_eq_true rfl) h ?_
    rintro rv mh2 ⟨r2, S1, rfl, rfl, h⟩
    refine wp_if_eq (tgt := 41) dX5_withRoom_18 (by decide) (fun c => ?_) (fun c => ?_)
    · have h := h.1 c
      refine wp_iinc (Ms := [.ref 15, .int x1, .int (x2 + (1 : Int32))]) (v := x2 + (1 : Int32)) dX5_withRoom_41 rfl rfl (by decide) rfl ?_
      refine wp_goto (tgt := 2) dX5_withRoom_44 (by decide) ?_
      exact wp_le (Ms := [.ref 15, .int x1, .int (x2 + (1 : Int32))]) ⟨Or.inr rfl, Or.inr rfl, Or.inr rfl, trivial⟩ h
    · have h := h.2 c
      refine wp_aload_n dX5_withRoom_21 rfl rfl ?_
      refine wp_get (q := 15) dX5_withRoom_22 fX5_15 rfl rfl ?_
      refine wp_iload_n dX5_withRoom_25 rfl rfl ?_
      obtain ⟨q3, h⟩ := h
      refine wp_iald2 (q := 17) (j := x2.toNatClampNeg) dX5_withRoom_26 rfl q3 rfl ?_
      refine wp_aload_n dX5_withRoom_27 rfl rfl ?_
      refine wp_get (q := 15) dX5_withRoom_28 fX5_31 rfl rfl ?_
      refine wp_get (q := 1) dX5_withRoom_31 fX5_54 rfl rfl ?_
      refine wp_iconst (v := (1 : Int32)) dX5_withRoom_34 (by decide) ?_
      refine wp_iald2 (q := 3) (j := 1) dX5_withRoom_35 rfl (vpd rfl) rfl ?_
      refine wp_icmp_ge (tgt := 41) dX5_withRoom_36 (by decide) (fun c => ?_) (fun c => ?_)
      · have h := h.1 c
        refine wp_iinc (Ms := [.ref 15, .int x1, .int (x2 + (1 : Int32))]) (v := x2 + (1 : Int32)) dX5_withRoom_41 rfl rfl (by decide) rfl ?_
        refine wp_goto (tgt := 2) dX5_withRoom_44 (by decide) ?_
        exact wp_le (Ms := [.ref 15, .int x1, .int (x2 + (1 : Int32))]) ⟨Or.inr rfl, Or.inr rfl, Or.inr rfl, trivial⟩ h
      · have h := h.2 c
        refine wp_iload_n dX5_withRoom_39 rfl rfl ?_
        exact wp_iret dX5_withRoom_40 rfl rfl ⟨_, _, rfl, rfl, h⟩
abbrev rX5_drop : Room := { frames := 0, cells := 0, slots := 0, locals := 0 }
abbrev wX5_drop (P : St → Prop) (pc : Nat) (Ls stk : List Value) (S : St) : Prop := Wp cX5_drop RX5 3 rX5_drop (wFV P) pc Ls stk (enc S)
abbrev tX5_drop (a0 : Int32) (a1 : Int32) (S : St) (P : St → Prop) : Prop := wX5_drop P 0 (wl_en [.ref 15, .int a0, .int a1] 3) [] S
set_option maxRecDepth 100000 in
theorem bX5_drop_0 {P : St → Prop} {S : St} (a0 : Int32) (a1 : Int32) (h : vp_in a0 8 ∧ vp_in a1 8 ∧ P (sA (sA S 11 (upd (S.2.2.1 11) a0.toNatClampNeg (((S.2.2.1 11) a0.toNatClampNeg) &&& (((1 : Int32) <<< (a1 &&& (31 : Int32))) ^^^ (-1 : Int32))))) 12 (upd (S.2.2.1 12) a1.toNatClampNeg (((S.2.2.1 12) a1.toNatClampNeg) - (1 : Int32))))) : tX5_drop a0 a1 S P := by
  show wX5_drop P 0 [.ref 15, .int a0, .int a1] [] S
  refine wp_aload_n dX5_drop_0 rfl rfl ?_
  refine wp_get (q := 15) dX5_drop_1 fX5_9 rfl rfl ?_
  refine wp_iload_n dX5_drop_4 rfl rfl ?_
  refine wp_dup2 dX5_drop_5 rfl rfl ?_
  obtain ⟨q1, h⟩ := h
  refine wp_iald2 (q := 16) (j := a0.toNatClampNeg) dX5_drop_6 rfl q1 rfl ?_
  refine wp_iconst (v := (1 : Int32)) dX5_drop_7 (by decide) ?_
  refine wp_iload_n dX5_drop_8 rfl rfl ?_
  refine wp_ishl dX5_drop_9 ?_
  refine wp_iconst (v := (-1 : Int32)) dX5_drop_10 (by decide) ?_
  refine wp_ixor dX5_drop_11 ?_
  refine wp_iand dX5_drop_12 ?_
  refine wp_iast2 (q := 16) (j := a0.toNatClampNeg) (mh2 := enc (sA S 11 (upd (S.2.2.1 11) a0.toNatClampNeg (((S.2.2.1 11) a0.toNatClampNeg) &&& (((1 : Int32) <<< (a1 &&& (31 : Int32))) ^^^ (-1 : Int32)))))) dX5_drop_13 rfl q1 rfl (es_16 _ _) ?_
  refine wp_aload_n dX5_drop_14 rfl rfl ?_
  refine wp_get (q := 15) dX5_drop_15 fX5_15 rfl rfl ?_
  refine wp_iload_n dX5_drop_18 rfl rfl ?_
  refine wp_dup2 dX5_drop_19 rfl rfl ?_
  obtain ⟨q2, h⟩ := h
  refine wp_iald2 (q := 17) (j := a1.toNatClampNeg) dX5_drop_20 rfl q2 rfl ?_
  refine wp_iconst (v := (1 : Int32)) dX5_drop_21 (by decide) ?_
  refine wp_isub dX5_drop_22 ?_
  refine wp_iast2 (q := 17) (j := a1.toNatClampNeg) (mh2 := enc (sA (sA S 11 (upd (S.2.2.1 11) a0.toNatClampNeg (((S.2.2.1 11) a0.toNatClampNeg) &&& (((1 : Int32) <<< (a1 &&& (31 : Int32))) ^^^ (-1 : Int32))))) 12 (upd (S.2.2.1 12) a1.toNatClampNeg (((S.2.2.1 12) a1.toNatClampNeg) - (1 : Int32))))) dX5_drop_23 rfl q2 rfl (es_17 _ _) ?_
  exact wp_vret dX5_drop_24 rfl ⟨_, rfl, rfl, h⟩
abbrev rX5_handDown : Room := { frames := 1, cells := 0, slots := 0, locals := 22 }
abbrev wX5_handDown (P : St → Prop) (pc : Nat) (Ls stk : List Value) (S : St) : Prop := Wp cX5_handDown RX5 7 rX5_handDown (wFV P) pc Ls stk (enc S)
abbrev tX5_handDown (a0 : Int32) (a1 : Int32) (S : St) (P : St → Prop) : Prop := wX5_handDown P 0 (wl_en [.ref 15, .int a0, .int a1] 7) [] S
set_option maxRecDepth 100000 in
theorem bX5_handDown_0 {P : St → Prop} {S : St} (a0 : Int32) (a1 : Int32) (h : wX5_handDown P 5 [.ref 15, .int a0, .int a1, .int a1, .int (0 : Int32), .retAddr 0, .retAddr 0] [] S) : tX5_handDown a0 a1 S P := by
  show wX5_handDown P 0 [.ref 15, .int a0, .int a1, .retAddr 0, .retAddr 0, .retAddr 0, .retAddr 0] [] S
  refine wp_iload_n dX5_handDown_0 rfl rfl ?_
  refine wp_istore_n (Ms := [.ref 15, .int a0, .int a1, .int a1, .retAddr 0, .retAddr 0, .retAddr 0]) dX5_handDown_1 rfl (by decide) rfl ?_
  refine wp_iconst (v := (0 : Int32)) dX5_handDown_2 (by decide) ?_
  refine wp_istore (Ms := [.ref 15, .int a0, .int a1, .int a1, .int (0 : Int32), .retAddr 0, .retAddr 0]) dX5_handDown_3 (by decide) rfl ?_
  exact wp_le (Ms := [.ref 15, .int a0, .int a1, .int a1, .int (0 : Int32), .retAddr 0, .retAddr 0]) ⟨Or.inr rfl, Or.inr rfl, Or.inr rfl, Or.inr rfl, Or.inr rfl, Or.inl rfl, Or.inl rfl, trivial⟩ h
set_option maxRecDepth 100000 in
theorem bX5_handDown_5 {P : St → Prop} {S : St} (x1 : Int32) (x2 : Int32) (x3 : Int32) (x4 : Int32) (h : (((S.1 0) ≤ x4 → P S) ∧ (¬ (S.1 0) ≤ x4 → ((x3 = x1 → P S) ∧ (¬ x3 = x1 → vp_in x3 8 ∧ tX5_drop ((S.2.2.1 14) x3.toNatClampNeg) ((S.2.2.1 13) x3.toNatClampNeg) S (fun S2 => tX5_take ((S.2.2.1 14) x3.toNatClampNeg) x3 S2 (fun S3 => wX5_handDown P 5 [.ref 15, .int x1, .int x2, .int ((S.2.2.1 13) x3.toNatClampNeg), .int (x4 + (1 : Int32)), .retAddr 0, .retAddr 0] [] S3))))))) : wX5_handDown P 5 [.ref 15, .int x1, .int x2, .int x3, .int x4, .retAddr 0, .retAddr 0] [] S := by
  refine wp_iload dX5_handDown_5 rfl ?_
  refine wp_aload_n dX5_handDown_7 rfl rfl ?_
  refine wp_get (q := 15) dX5_handDown_8 fX5_31 rfl rfl ?_
  refine wp_get (q := 1) dX5_handDown_11 fX5_48 rfl rfl ?_
  refine wp_icmp_ge (tgt := 62) dX5_handDown_14 (by decide) (fun c => ?_) (fun c => ?_)
  · have h := h.1 c
    exact wp_vret dX5_handDown_62 rfl ⟨_, rfl, rfl, h⟩
  · have h := h.2 c
    refine wp_iload_n dX5_handDown_17 rfl rfl ?_
    refine wp_iload_n dX5_handDown_18 rfl rfl ?_
    refine wp_icmp_eq (tgt := 62) dX5_handDown_19 (by decide) (fun c => ?_) (fun c => ?_)
    · have h := h.1 c
      exact wp_vret dX5_handDown_62 rfl ⟨_, rfl, rfl, h⟩
    · have h := h.2 c
      refine wp_aload_n dX5_handDown_22 rfl rfl ?_
      refine wp_get (q := 15) dX5_handDown_23 fX5_21 rfl rfl ?_
      refine wp_iload_n dX5_handDown_26 rfl rfl ?_
      obtain ⟨q1, h⟩ := h
      refine wp_iald2 (q := 19) (j := x3.toNatClampNeg) dX5_handDown_27 rfl q1 rfl ?_
      refine wp_istore (Ms := [.ref 15, .int x1, .int x2, .int x3, .int x4, .int ((S.2.2.1 14) x3.toNatClampNeg), .retAddr 0]) dX5_handDown_28 (by decide) rfl ?_
      refine wp_aload_n dX5_handDown_30 rfl rfl ?_
      refine wp_get (q := 15) dX5_handDown_31 fX5_18 rfl rfl ?_
      refine wp_iload_n dX5_handDown_34 rfl rfl ?_
      refine wp_iald2 (q := 18) (j := x3.toNatClampNeg) dX5_handDown_35 rfl q1 rfl ?_
      refine wp_istore (Ms := [.ref 15, .int x1, .int x2, .int x3, .int x4, .int ((S.2.2.1 14) x3.toNatClampNeg), .int ((S.2.2.1 13) x3.toNatClampNeg)]) dX5_handDown_36 (by decide) rfl ?_
      refine wp_aload_n dX5_handDown_38 rfl rfl ?_
      refine wp_iload dX5_handDown_39 rfl ?_
      refine wp_iload dX5_handDown_41 rfl ?_
      refine wp_callV (q := 15) (As := [.int ((S.2.2.1 14) x3.toNatClampNeg), .int ((S.2.2.1 13) x3.toNatClampNeg)]) (rest := []) dX5_handDown_43 mX5_drop lX5_76 (by decide) rfl rfl rfl rfl (Nat.le_of_ble_eq_true rfl) (Nat.le_of_ble_eq_true rfl) h ?_
      rintro rv mh2 ⟨S2, rfl, rfl, h⟩
      refine wp_aload_n dX5_handDown_46 rfl rfl ?_
      refine wp_iload dX5_handDown_47 rfl ?_
      refine wp_iload_n dX5_handDown_49 rfl rfl ?_
      refine wp_callV (q := 15) (As := [.int ((S.2.2.1 14) x3.toNatClampNeg), .int x3]) (rest := []) dX5_handDown_50 mX5_take lX5_69 (by decide) rfl rfl rfl rfl (Nat.le_of_ble_eq_true rfl) (Nat.le_of_ble_eq_true rfl) h ?_
      rintro rv mh2 ⟨S3, rfl, rfl, h⟩
      refine wp_iload dX5_handDown_53 rfl ?_
      refine wp_istore_n (Ms := [.ref 15, .int x1, .int x2, .int ((S.2.2.1 13) x3.toNatClampNeg), .int x4, .int ((S.2.2.1 14) x3.toNatClampNeg), .int ((S.2.2.1 13) x3.toNatClampNeg)]) dX5_handDown_55 rfl (by decide) rfl ?_
      refine wp_iinc (Ms := [.ref 15, .int x1, .int x2, .int ((S.2.2.1 13) x3.toNatClampNeg), .int (x4 + (1 : Int32)), .int ((S.2.2.1 14) x3.toNatClampNeg), .int ((S.2.2.1 13) x3.toNatClampNeg)]) (v := x4 + (1 : Int32)) dX5_handDown_56 rfl rfl (by decide) rfl ?_
      refine wp_goto (tgt := 5) dX5_handDown_59 (by decide) ?_
      exact wp_le (Ms := [.ref 15, .int x1, .int x2, .int ((S.2.2.1 13) x3.toNatClampNeg), .int (x4 + (1 : Int32)), .retAddr 0, .retAddr 0]) ⟨Or.inr rfl, Or.inr rfl, Or.inr rfl, Or.inr rfl, Or.inr rfl, Or.inl rfl, Or.inl rfl, trivial⟩ h
abbrev rX5_passOn : Room := { frames := 2, cells := 0, slots := 0, locals := 48 }
abbrev wX5_passOn (P : Int32 → St → Prop) (pc : Nat) (Ls stk : List Value) (S : St) : Prop := Wp cX5_passOn RX5 9 rX5_passOn (wFI .boolean P) pc Ls stk (enc S)
abbrev tX5_passOn (a0 : Int32) (a1 : Int32) (S : St) (P : Int32 → St → Prop) : Prop := wX5_passOn P 0 (wl_en [.ref 15, .int a0, .int a1] 9) [] S
set_option maxRecDepth 100000 in
theorem bX5_passOn_0 {P : Int32 → St → Prop} {S : St} (a0 : Int32) (a1 : Int32) (h : wX5_passOn P 10 [.ref 15, .int a0, .int a1, .int ((1 : Int32) <<< (a0 &&& (31 : Int32))), .int ((1 : Int32) <<< (a0 &&& (31 : Int32))), .int (0 : Int32), .retAddr 0, .retAddr 0, .retAddr 0] [] S) : tX5_passOn a0 a1 S P := by
  show wX5_passOn P 0 [.ref 15, .int a0, .int a1, .retAddr 0, .retAddr 0, .retAddr 0, .retAddr 0, .retAddr 0, .retAddr 0] [] S
  refine wp_iconst (v := (1 : Int32)) dX5_passOn_0 (by decide) ?_
  refine wp_iload_n dX5_passOn_1 rfl rfl ?_
  refine wp_ishl dX5_passOn_2 ?_
  refine wp_istore_n (Ms := [.ref 15, .int a0, .int a1, .int ((1 : Int32) <<< (a0 &&& (31 : Int32))), .retAddr 0, .retAddr 0, .retAddr 0, .retAddr 0, .retAddr 0]) dX5_passOn_3 rfl (by decide) rfl ?_
  refine wp_iload_n dX5_passOn_4 rfl rfl ?_
  refine wp_istore (Ms := [.ref 15, .int a0, .int a1, .int ((1 : Int32) <<< (a0 &&& (31 : Int32))), .int ((1 : Int32) <<< (a0 &&& (31 : Int32))), .retAddr 0, .retAddr 0, .retAddr 0, .retAddr 0]) dX5_passOn_5 (by decide) rfl ?_
  refine wp_iconst (v := (0 : Int32)) dX5_passOn_7 (by decide) ?_
  refine wp_istore (Ms := [.ref 15, .int a0, .int a1, .int ((1 : Int32) <<< (a0 &&& (31 : Int32))), .int ((1 : Int32) <<< (a0 &&& (31 : Int32))), .int (0 : Int32), .retAddr 0, .retAddr 0, .retAddr 0]) dX5_passOn_8 (by decide) rfl ?_
  exact wp_le (Ms := [.ref 15, .int a0, .int a1, .int ((1 : Int32) <<< (a0 &&& (31 : Int32))), .int ((1 : Int32) <<< (a0 &&& (31 : Int32))), .int (0 : Int32), .retAddr 0, .retAddr 0, .retAddr 0]) ⟨Or.inr rfl, Or.inr rfl, Or.inr rfl, Or.inr rfl, Or.inr rfl, Or.inr rfl, Or.inl rfl, Or.inl rfl, Or.inl rfl, trivial⟩ h
set_option maxRecDepth 100000 in
theorem bX5_passOn_10 {P : Int32 → St → Prop} {S : St} (x1 : Int32) (x2 : Int32) (x3 : Int32) (x4 : Int32) (x5 : Int32) (h : (((S.1 0) ≤ x5 → P (0 : Int32) S) ∧ (¬ (S.1 0) ≤ x5 → ((x4 = 0 → P (0 : Int32) S) ∧ (¬ x4 = 0 → tX5_leastOf x4 S (fun r2 S1 => tX5_reach r2 x2 x3 S1 (fun r4 S3 => tX5_withRoom r4 S3 (fun r6 S5 => ((r6 = (-1 : Int32) → wX5_passOn P 10 [.ref 15, .int x1, .int x2, .int (x3 ||| r4), .int ((x4 &&& (((1 : Int32) <<< (r2 &&& (31 : Int32))) ^^^ (-1 : Int32))) ||| r4), .int (x5 + (1 : Int32)), .retAddr 0, .retAddr 0, .retAddr 0] [] S5) ∧ (¬ r6 = (-1 : Int32) → tX5_handDown x1 r6 S5 (fun S7 => P (1 : Int32) S7))))))))))) : wX5_passOn P 10 [.ref 15, .int x1, .int x2, .int x3, .int x4, .int x5, .retAddr 0, .retAddr 0, .retAddr 0] [] S := by
  refine wp_iload dX5_passOn_10 rfl ?_
  refine wp_aload_n dX5_passOn_12 rfl rfl ?_
  refine wp_get (q := 15) dX5_passOn_13 fX5_31 rfl rfl ?_
  refine wp_get (q := 1) dX5_passOn_16 fX5_48 rfl rfl ?_
  refine wp_icmp_ge (tgt := 97) dX5_passOn_19 (by decide) (fun c => ?_) (fun c => ?_)
  · have h := h.1 c
    refine wp_iconst (v := (0 : Int32)) dX5_passOn_97 (by decide) ?_
    exact wp_iret dX5_passOn_98 rfl rfl ⟨_, _, rfl, rfl, h⟩
  · have h := h.2 c
    refine wp_iload dX5_passOn_22 rfl ?_
    refine wp_if_eq (tgt := 97) dX5_passOn_24 (by decide) (fun c => ?_) (fun c => ?_)
    · have h := h.1 c
      refine wp_iconst (v := (0 : Int32)) dX5_passOn_97 (by decide) ?_
      exact wp_iret dX5_passOn_98 rfl rfl ⟨_, _, rfl, rfl, h⟩
    · have h := h.2 c
      refine wp_aload_n dX5_passOn_27 rfl rfl ?_
      refine wp_iload dX5_passOn_28 rfl ?_
      refine wp_callV (q := 15) (As := [.int x4]) (rest := []) dX5_passOn_30 mX5_leastOf lX5_82 (by decide) rfl rfl rfl rfl (Nat.le_of_ble_eq_true rfl) (Nat.le_of_ble_eq_true rfl) h ?_
      rintro rv mh2 ⟨r2, S1, rfl, rfl, h⟩
      refine wp_istore (Ms := [.ref 15, .int x1, .int x2, .int x3, .int x4, .int x5, .int r2, .retAddr 0, .retAddr 0]) dX5_passOn_33 (by decide) rfl ?_
      refine wp_iload dX5_passOn_35 rfl ?_
      refine wp_iconst (v := (1 : Int32)) dX5_passOn_37 (by decide) ?_
      refine wp_iload dX5_passOn_38 rfl ?_
      refine wp_ishl dX5_passOn_40 ?_
      refine wp_iconst (v := (-1 : Int32)) dX5_passOn_41 (by decide) ?_
      refine wp_ixor dX5_passOn_42 ?_
      refine wp_iand dX5_passOn_43 ?_
      refine wp_istore (Ms := [.ref 15, .int x1, .int x2, .int x3, .int (x4 &&& (((1 : Int32) <<< (r2 &&& (31 : Int32))) ^^^ (-1 : Int32))), .int x5, .int r2, .retAddr 0, .retAddr 0]) dX5_passOn_44 (by decide) rfl ?_
      refine wp_aload_n dX5_passOn_46 rfl rfl ?_
      refine wp_iload dX5_passOn_47 rfl ?_
      refine wp_iload_n dX5_passOn_49 rfl rfl ?_
      refine wp_iload_n dX5_passOn_50 rfl rfl ?_
      refine wp_callV (q := 15) (As := [.int r2, .int x2, .int x3]) (rest := []) dX5_passOn_51 mX5_reach lX5_85 (by decide) rfl rfl rfl rfl (Nat.le_of_ble_eq_true rfl) (Nat.le_of_ble_eq_true rfl) h ?_
      rintro rv mh2 ⟨r4, S3, rfl, rfl, h⟩
      refine wp_istore (Ms := [.ref 15, .int x1, .int x2, .int x3, .int (x4 &&& (((1 : Int32) <<< (r2 &&& (31 : Int32))) ^^^ (-1 : Int32))), .int x5, .int r2, .int r4, .retAddr 0]) dX5_passOn_54 (by decide) rfl ?_
      refine wp_aload_n dX5_passOn_56 rfl rfl ?_
      refine wp_iload dX5_passOn_57 rfl ?_
      refine wp_callV (q := 15) (As := [.int r4]) (rest := []) dX5_passOn_59 mX5_withRoom lX5_89 (by decide) rfl rfl rfl rfl (Nat.le_of_ble_eq_true rfl) (Nat.le_of_ble_eq_true rfl) h ?_
      rintro rv mh2 ⟨r6, S5, rfl, rfl, h⟩
      refine wp_istore (Ms := [.ref 15, .int x1, .int x2, .int x3, .int (x4 &&& (((1 : Int32) <<< (r2 &&& (31 : Int32))) ^^^ (-1 : Int32))), .int x5, .int r2, .int r4, .int r6]) dX5_passOn_62 (by decide) rfl ?_
      refine wp_iload dX5_passOn_64 rfl ?_
      refine wp_iconst (v := (-1 : Int32)) dX5_passOn_66 (by decide) ?_
      refine wp_icmp_eq (tgt := 79) dX5_passOn_67 (by decide) (fun c => ?_) (fun c => ?_)
      · have h := h.1 c
        refine wp_iload_n dX5_passOn_79 rfl rfl ?_
        refine wp_iload dX5_passOn_80 rfl ?_
        refine wp_ior dX5_passOn_82 ?_
        refine wp_istore_n (Ms := [.ref 15, .int x1, .int x2, .int (x3 ||| r4), .int (x4 &&& (((1 : Int32) <<< (r2 &&& (31 : Int32))) ^^^ (-1 : Int32))), .int x5, .int r2, .int r4, .int r6]) dX5_passOn_83 rfl (by decide) rfl ?_
        refine wp_iload dX5_passOn_84 rfl ?_
        refine wp_iload dX5_passOn_86 rfl ?_
        refine wp_ior dX5_passOn_88 ?_
        refine wp_istore (Ms := [.ref 15, .int x1, .int x2, .int (x3 ||| r4), .int ((x4 &&& (((1 : Int32) <<< (r2 &&& (31 : Int32))) ^^^ (-1 : Int32))) ||| r4), .int x5, .int r2, .int r4, .int r6]) dX5_passOn_89 (by decide) rfl ?_
        refine wp_iinc (Ms := [.ref 15, .int x1, .int x2, .int (x3 ||| r4), .int ((x4 &&& (((1 : Int32) <<< (r2 &&& (31 : Int32))) ^^^ (-1 : Int32))) ||| r4), .int (x5 + (1 : Int32)), .int r2, .int r4, .int r6]) (v := x5 + (1 : Int32)) dX5_passOn_91 rfl rfl (by decide) rfl ?_
        refine wp_goto (tgt := 10) dX5_passOn_94 (by decide) ?_
        exact wp_le (Ms := [.ref 15, .int x1, .int x2, .int (x3 ||| r4), .int ((x4 &&& (((1 : Int32) <<< (r2 &&& (31 : Int32))) ^^^ (-1 : Int32))) ||| r4), .int (x5 + (1 : Int32)), .retAddr 0, .retAddr 0, .retAddr 0]) ⟨Or.inr rfl, Or.inr rfl, Or.inr rfl, Or.inr rfl, Or.inr rfl, Or.inr rfl, Or.inl rfl, Or.inl rfl, Or.inl rfl, trivial⟩ h
      · have h := h.2 c
        refine wp_aload_n dX5_passOn_70 rfl rfl ?_
        refine wp_iload_n dX5_passOn_71 rfl rfl ?_
        refine wp_iload dX5_passOn_72 rfl ?_
        refine wp_callV (q := 15) (As := [.int x1, .int r6]) (rest := []) dX5_passOn_74 mX5_handDown lX5_92 (by decide) rfl rfl rfl rfl (Nat.le_of_ble_eq_true rfl) (Nat.le_of_ble_eq_true rfl) h ?_
        rintro rv mh2 ⟨S7, rfl, rfl, h⟩
        refine wp_iconst (v := (1 : Int32)) dX5_passOn_77 (by decide) ?_
        exact wp_iret dX5_passOn_78 rfl rfl ⟨_, _, rfl, rfl, h⟩
abbrev rX5_findMarker : Room := { frames := 3, cells := 0, slots := 0, locals := 76 }
abbrev wX5_findMarker (P : Int32 → St → Prop) (pc : Nat) (Ls stk : List Value) (S : St) : Prop := Wp cX5_findMarker RX5 4 rX5_findMarker (wFI .boolean P) pc Ls stk (enc S)
abbrev tX5_findMarker (a0 : Int32) (S : St) (P : Int32 → St → Prop) : Prop := wX5_findMarker P 0 (wl_en [.ref 15, .int a0] 4) [] S
set_option maxRecDepth 100000 in
theorem bX5_findMarker_0 {P : Int32 → St → Prop} {S : St} (a0 : Int32) (h : tX1_mayMark a0 S (fun r2 S1 => vp_in a0 8 ∧ wX5_findMarker P 20 [.ref 15, .int a0, .int (r2 &&& (((S1.2.2.1 11) a0.toNatClampNeg) ^^^ (-1 : Int32))), .int (0 : Int32)] [] S1)) : tX5_findMarker a0 S P := by
  show wX5_findMarker P 0 [.ref 15, .int a0, .retAddr 0, .retAddr 0] [] S
  refine wp_aload_n dX5_findMarker_0 rfl rfl ?_
  refine wp_get (q := 15) dX5_findMarker_1 fX5_31 rfl rfl ?_
  refine wp_iload_n dX5_findMarker_4 rfl rfl ?_
  refine wp_callV (q := 1) (As := [.int a0]) (rest := []) dX5_findMarker_5 mX1_mayMark lX5_61 (by decide) rfl rfl rfl rfl (Nat.le_of_ble_eq_true rfl) (Nat.le_of_ble_eq_true rfl) h ?_
  rintro rv mh2 ⟨r2, S1, rfl, rfl, h⟩
  refine wp_aload_n dX5_findMarker_8 rfl rfl ?_
  refine wp_get (q := 15) dX5_findMarker_9 fX5_9 rfl rfl ?_
  refine wp_iload_n dX5_findMarker_12 rfl rfl ?_
  obtain ⟨q3, h⟩ := h
  refine wp_iald2 (q := 16) (j := a0.toNatClampNeg) dX5_findMarker_13 rfl q3 rfl ?_
  refine wp_iconst (v := (-1 : Int32)) dX5_findMarker_14 (by decide) ?_
  refine wp_ixor dX5_findMarker_15 ?_
  refine wp_iand dX5_findMarker_16 ?_
  refine wp_istore_n (Ms := [.ref 15, .int a0, .int (r2 &&& (((S1.2.2.1 11) a0.toNatClampNeg) ^^^ (-1 : Int32))), .retAddr 0]) dX5_findMarker_17 rfl (by decide) rfl ?_
  refine wp_iconst (v := (0 : Int32)) dX5_findMarker_18 (by decide) ?_
  refine wp_istore_n (Ms := [.ref 15, .int a0, .int (r2 &&& (((S1.2.2.1 11) a0.toNatClampNeg) ^^^ (-1 : Int32))), .int (0 : Int32)]) dX5_findMarker_19 rfl (by decide) rfl ?_
  exact wp_le (Ms := [.ref 15, .int a0, .int (r2 &&& (((S1.2.2.1 11) a0.toNatClampNeg) ^^^ (-1 : Int32))), .int (0 : Int32)]) ⟨Or.inr rfl, Or.inr rfl, Or.inr rfl, Or.inr rfl, trivial⟩ h
set_option maxRecDepth 100000 in
theorem bX5_findMarker_20 {P : Int32 → St → Prop} {S : St} (x1 : Int32) (x2 : Int32) (x3 : Int32) (h : (((S.1 0) ≤ x3 → P (0 : Int32) S) ∧ (¬ (S.1 0) ≤ x3 → tX6_has x2 x3 S (fun r2 S1 => ((r2 = 0 → wX5_findMarker P 20 [.ref 15, .int x1, .int x2, .int (x3 + (1 : Int32))] [] S1) ∧ (¬ r2 = 0 → tX5_take x1 x3 S1 (fun S3 => vp_in x3 8 ∧ ((((S3.2.2.1 12) x3.toNatClampNeg) ≤ ((S3.2.2.1 1) 1) → P (1 : Int32) S3) ∧ (¬ ((S3.2.2.1 12) x3.toNatClampNeg) ≤ ((S3.2.2.1 1) 1) → tX5_passOn x3 (0 : Int32) S3 (fun r6 S5 => ((r6 = 0 → tX5_drop x1 x3 S5 (fun S7 => wX5_findMarker P 20 [.ref 15, .int x1, .int x2, .int (x3 + (1 : Int32))] [] S7)) ∧ (¬ r6 = 0 → P (1 : Int32) S5)))))))))))) : wX5_findMarker P 20 [.ref 15, .int x1, .int x2, .int x3] [] S := by
  refine wp_iload_n dX5_findMarker_20 rfl rfl ?_
  refine wp_aload_n dX5_findMarker_21 rfl rfl ?_
  refine wp_get (q := 15) dX5_findMarker_22 fX5_31 rfl rfl ?_
  refine wp_get (q := 1) dX5_findMarker_25 fX5_48 rfl rfl ?_
  refine wp_icmp_ge (tgt := 86) dX5_findMarker_28 (by decide) (fun c => ?_) (fun c => ?_)
  · have h := h.1 c
    refine wp_iconst (v := (0 : Int32)) dX5_findMarker_86 (by decide) ?_
    exact wp_iret dX5_findMarker_87 rfl rfl ⟨_, _, rfl, rfl, h⟩
  · have h := h.2 c
    refine wp_iload_n dX5_findMarker_31 rfl rfl ?_
    refine wp_iload_n dX5_findMarker_32 rfl rfl ?_
    refine wp_callN (As := [.int x2, .int x3]) (rest := []) dX5_findMarker_33 mX6_has lX5_65 (by decide) rfl rfl (Nat.le_of_ble_eq_true rfl) (Nat.le_of_ble_eq_true rfl) h ?_
    rintro rv mh2 ⟨r2, S1, rfl, rfl, h⟩
    refine wp_if_eq (tgt := 80) dX5_findMarker_36 (by decide) (fun c => ?_) (fun c => ?_)
    · have h := h.1 c
      refine wp_iinc (Ms := [.ref 15, .int x1, .int x2, .int (x3 + (1 : Int32))]) (v := x3 + (1 : Int32)) dX5_findMarker_80 rfl rfl (by decide) rfl ?_
      refine wp_goto (tgt := 20) dX5_findMarker_83 (by decide) ?_
      exact wp_le (Ms := [.ref 15, .int x1, .int x2, .int (x3 + (1 : Int32))]) ⟨Or.inr rfl, Or.inr rfl, Or.inr rfl, Or.inr rfl, trivial⟩ h
    · have h := h.2 c
      refine wp_aload_n dX5_findMarker_39 rfl rfl ?_
      refine wp_iload_n dX5_findMarker_40 rfl rfl ?_
      refine wp_iload_n dX5_findMarker_41 rfl rfl ?_
      refine wp_callV (q := 15) (As := [.int x1, .int x3]) (rest := []) dX5_findMarker_42 mX5_take lX5_69 (by decide) rfl rfl rfl rfl (Nat.le_of_ble_eq_true rfl) (Nat.le_of_ble_eq_true rfl) h ?_
      rintro rv mh2 ⟨S3, rfl, rfl, h⟩
      refine wp_aload_n dX5_findMarker_45 rfl rfl ?_
      refine wp_get (q := 15) dX5_findMarker_46 fX5_15 rfl rfl ?_
      refine wp_iload_n dX5_findMarker_49 rfl rfl ?_
      obtain ⟨q4, h⟩ := h
      refine wp_iald2 (q := 17) (j := x3.toNatClampNeg) dX5_findMarker_50 rfl q4 rfl ?_
      refine wp_aload_n dX5_findMarker_51 rfl rfl ?_
      refine wp_get (q := 15) dX5_findMarker_52 fX5_31 rfl rfl ?_
      refine wp_get (q := 1) dX5_findMarker_55 fX5_54 rfl rfl ?_
      refine wp_iconst (v := (1 : Int32)) dX5_findMarker_58 (by decide) ?_
      refine wp_iald2 (q := 3) (j := 1) dX5_findMarker_59 rfl (vpd rfl) rfl ?_
      refine wp_icmp_le (tgt := 72) dX5_findMarker_60 (by decide) (fun c => ?_) (fun c => ?_)
      · have h := h.1 c
        refine wp_iconst (v := (1 : Int32)) dX5_findMarker_72 (by decide) ?_
        exact wp_iret dX5_findMarker_73 rfl rfl ⟨_, _, rfl, rfl, h⟩
      · have h := h.2 c
        refine wp_aload_n dX5_findMarker_63 rfl rfl ?_
        refine wp_iload_n dX5_findMarker_64 rfl rfl ?_
        refine wp_iconst (v := (0 : Int32)) dX5_findMarker_65 (by decide) ?_
        refine wp_callV (q := 15) (As := [.int x3, .int (0 : Int32)]) (rest := []) dX5_findMarker_66 mX5_passOn lX5_73 (by decide) rfl rfl rfl rfl (Nat.le_of_ble_eq_true rfl) (Nat.le_of_ble_eq_true rfl) h ?_
        rintro rv mh2 ⟨r6, S5, rfl, rfl, h⟩
        refine wp_if_eq (tgt := 74) dX5_findMarker_69 (by decide) (fun c => ?_) (fun c => ?_)
        · have h := h.1 c
          refine wp_aload_n dX5_findMarker_74 rfl rfl ?_
          refine wp_iload_n dX5_findMarker_75 rfl rfl ?_
          refine wp_iload_n dX5_findMarker_76 rfl rfl ?_
          refine wp_callV (q := 15) (As := [.int x1, .int x3]) (rest := []) dX5_findMarker_77 mX5_drop lX5_76 (by decide) rfl rfl rfl rfl (Nat.le_of_ble_eq_true rfl) (Nat.le_of_ble_eq_true rfl) h ?_
          rintro rv mh2 ⟨S7, rfl, rfl, h⟩
          refine wp_iinc (Ms := [.ref 15, .int x1, .int x2, .int (x3 + (1 : Int32))]) (v := x3 + (1 : Int32)) dX5_findMarker_80 rfl rfl (by decide) rfl ?_
          refine wp_goto (tgt := 20) dX5_findMarker_83 (by decide) ?_
          exact wp_le (Ms := [.ref 15, .int x1, .int x2, .int (x3 + (1 : Int32))]) ⟨Or.inr rfl, Or.inr rfl, Or.inr rfl, Or.inr rfl, trivial⟩ h
        · have h := h.2 c
          refine wp_iconst (v := (1 : Int32)) dX5_findMarker_72 (by decide) ?_
          exact wp_iret dX5_findMarker_73 rfl rfl ⟨_, _, rfl, rfl, h⟩
abbrev rX5_findAnyPlan : Room := { frames := 4, cells := 0, slots := 0, locals := 99 }
abbrev wX5_findAnyPlan (P : Int32 → St → Prop) (pc : Nat) (Ls stk : List Value) (S : St) : Prop := Wp cX5_findAnyPlan RX5 3 rX5_findAnyPlan (wFI .boolean P) pc Ls stk (enc S)
abbrev tX5_findAnyPlan  (S : St) (P : Int32 → St → Prop) : Prop := wX5_findAnyPlan P 0 (wl_en [.ref 15] 3) [] S
set_option maxRecDepth 100000 in
theorem bX5_findAnyPlan_0 {P : Int32 → St → Prop} {S : St}  (h : wX5_findAnyPlan P 18 [.ref 15, .int (0 : Int32), .retAddr 0] [] (sA (sA S 11 (wfill (S.2.2.1 11) 8 (0 : Int32))) 12 (wfill (S.2.2.1 12) 8 (0 : Int32)))) : tX5_findAnyPlan  S P := by
  show wX5_findAnyPlan P 0 [.ref 15, .retAddr 0, .retAddr 0] [] S
  refine wp_aload_n dX5_findAnyPlan_0 rfl rfl ?_
  refine wp_get (q := 15) dX5_findAnyPlan_1 fX5_9 rfl rfl ?_
  refine wp_iconst (v := (0 : Int32)) dX5_findAnyPlan_4 (by decide) ?_
  refine wp_fillI (q := 16) (mh2 := enc (sA S 11 (wfill (S.2.2.1 11) 8 (0 : Int32)))) dX5_findAnyPlan_5 lX5_42 (by decide) rfl (by decide) (es_16 _ _) (Nat.le_of_ble_eq_true rfl) ?_
  refine wp_aload_n dX5_findAnyPlan_8 rfl rfl ?_
  refine wp_get (q := 15) dX5_findAnyPlan_9 fX5_15 rfl rfl ?_
  refine wp_iconst (v := (0 : Int32)) dX5_findAnyPlan_12 (by decide) ?_
  refine wp_fillI (q := 17) (mh2 := enc (sA (sA S 11 (wfill (S.2.2.1 11) 8 (0 : Int32))) 12 (wfill (S.2.2.1 12) 8 (0 : Int32)))) dX5_findAnyPlan_13 lX5_42 (by decide) rfl (by decide) (es_17 _ _) (Nat.le_of_ble_eq_true rfl) ?_
  refine wp_iconst (v := (0 : Int32)) dX5_findAnyPlan_16 (by decide) ?_
  refine wp_istore_n (Ms := [.ref 15, .int (0 : Int32), .retAddr 0]) dX5_findAnyPlan_17 rfl (by decide) rfl ?_
  exact wp_le (Ms := [.ref 15, .int (0 : Int32), .retAddr 0]) ⟨Or.inr rfl, Or.inr rfl, Or.inl rfl, trivial⟩ h
set_option maxRecDepth 100000 in
theorem bX5_findAnyPlan_18 {P : Int32 → St → Prop} {S : St} (x1 : Int32) (h : (((S.1 0) ≤ x1 → P (1 : Int32) S) ∧ (¬ (S.1 0) ≤ x1 → wX5_findAnyPlan P 31 [.ref 15, .int x1, .int (0 : Int32)] [] S))) : wX5_findAnyPlan P 18 [.ref 15, .int x1, .retAddr 0] [] S := by
  refine wp_iload_n dX5_findAnyPlan_18 rfl rfl ?_
  refine wp_aload_n dX5_findAnyPlan_19 rfl rfl ?_
  refine wp_get (q := 15) dX5_findAnyPlan_20 fX5_31 rfl rfl ?_
  refine wp_get (q := 1) dX5_findAnyPlan_23 fX5_48 rfl rfl ?_
  refine wp_icmp_ge (tgt := 66) dX5_findAnyPlan_26 (by decide) (fun c => ?_) (fun c => ?_)
  · have h := h.1 c
    refine wp_iconst (v := (1 : Int32)) dX5_findAnyPlan_66 (by decide) ?_
    exact wp_iret dX5_findAnyPlan_67 rfl rfl ⟨_, _, rfl, rfl, h⟩
  · have h := h.2 c
    refine wp_iconst (v := (0 : Int32)) dX5_findAnyPlan_29 (by decide) ?_
    refine wp_istore_n (Ms := [.ref 15, .int x1, .int (0 : Int32)]) dX5_findAnyPlan_30 rfl (by decide) rfl ?_
    exact wp_le (Ms := [.ref 15, .int x1, .int (0 : Int32)]) ⟨Or.inr rfl, Or.inr rfl, Or.inr rfl, trivial⟩ h
set_option maxRecDepth 100000 in
theorem bX5_findAnyPlan_31 {P : Int32 → St → Prop} {S : St} (x1 : Int32) (x2 : Int32) (h : ((((S.2.2.1 1) 0) ≤ x2 → wX5_findAnyPlan P 18 [.ref 15, .int (x1 + (1 : Int32)), .retAddr 0] [] S) ∧ (¬ ((S.2.2.1 1) 0) ≤ x2 → tX5_findMarker x1 S (fun r2 S1 => ((¬ r2 = 0 → wX5_findAnyPlan P 31 [.ref 15, .int x1, .int (x2 + (1 : Int32))] [] S1) ∧ (r2 = 0 → P (0 : Int32) S1)))))) : wX5_findAnyPlan P 31 [.ref 15, .int x1, .int x2] [] S := by
  refine wp_iload_n dX5_findAnyPlan_31 rfl rfl ?_
  refine wp_aload_n dX5_findAnyPlan_32 rfl rfl ?_
  refine wp_get (q := 15) dX5_findAnyPlan_33 fX5_31 rfl rfl ?_
  refine wp_get (q := 1) dX5_findAnyPlan_36 fX5_54 rfl rfl ?_
  refine wp_iconst (v := (0 : Int32)) dX5_findAnyPlan_39 (by decide) ?_
  refine wp_iald2 (q := 3) (j := 0) dX5_findAnyPlan_40 rfl (vpd rfl) rfl ?_
  refine wp_icmp_ge (tgt := 60) dX5_findAnyPlan_41 (by decide) (fun c => ?_) (fun c => ?_)
  · have h := h.1 c
    refine wp_iinc (Ms := [.ref 15, .int (x1 + (1 : Int32)), .int x2]) (v := x1 + (1 : Int32)) dX5_findAnyPlan_60 rfl rfl (by decide) rfl ?_
    refine wp_goto (tgt := 18) dX5_findAnyPlan_63 (by decide) ?_
    exact wp_le (Ms := [.ref 15, .int (x1 + (1 : Int32)), .retAddr 0]) ⟨Or.inr rfl, Or.inr rfl, Or.inl rfl, trivial⟩ h
  · have h := h.2 c
    refine wp_aload_n dX5_findAnyPlan_44 rfl rfl ?_
    refine wp_iload_n dX5_findAnyPlan_45 rfl rfl ?_
    refine wp_callV (q := 15) (As := [.int x1]) (rest := []) dX5_findAnyPlan_46 mX5_findMarker lX5_57 (by decide) rfl rfl rfl rfl (Nat.le_of_ble_eq_true rfl) (Nat.le_of_ble_eq_true rfl) h ?_
    rintro rv mh2 ⟨r2, S1, rfl, rfl, h⟩
    refine wp_if_ne (tgt := 54) dX5_findAnyPlan_49 (by decide) (fun c => ?_) (fun c => ?_)
    · have h := h.1 c
      refine wp_iinc (Ms := [.ref 15, .int x1, .int (x2 + (1 : Int32))]) (v := x2 + (1 : Int32)) dX5_findAnyPlan_54 rfl rfl (by decide) rfl ?_
      refine wp_goto (tgt := 31) dX5_findAnyPlan_57 (by decide) ?_
      exact wp_le (Ms := [.ref 15, .int x1, .int (x2 + (1 : Int32))]) ⟨Or.inr rfl, Or.inr rfl, Or.inr rfl, trivial⟩ h
    · have h := h.2 c
      refine wp_iconst (v := (0 : Int32)) dX5_findAnyPlan_52 (by decide) ?_
      exact wp_iret dX5_findAnyPlan_53 rfl rfl ⟨_, _, rfl, rfl, h⟩
abbrev rX5_bringIn : Room := { frames := 3, cells := 0, slots := 0, locals := 76 }
abbrev wX5_bringIn (P : St → Prop) (pc : Nat) (Ls stk : List Value) (S : St) : Prop := Wp cX5_bringIn RX5 4 rX5_bringIn (wFV P) pc Ls stk (enc S)
abbrev tX5_bringIn (a0 : Int32) (a1 : Int32) (S : St) (P : St → Prop) : Prop := wX5_bringIn P 0 (wl_en [.ref 15, .int a0, .int a1] 4) [] S
set_option maxRecDepth 100000 in
theorem bX5_bringIn_0 {P : St → Prop} {S : St} (a0 : Int32) (a1 : Int32) (h : wX5_bringIn P 4 [.ref 15, .int a0, .int a1, .int (a1 + (1 : Int32))] [] S) : tX5_bringIn a0 a1 S P := by
  show wX5_bringIn P 0 [.ref 15, .int a0, .int a1, .retAddr 0] [] S
  refine wp_iload_n dX5_bringIn_0 rfl rfl ?_
  refine wp_iconst (v := (1 : Int32)) dX5_bringIn_1 (by decide) ?_
  refine wp_iadd dX5_bringIn_2 ?_
  refine wp_istore_n (Ms := [.ref 15, .int a0, .int a1, .int (a1 + (1 : Int32))]) dX5_bringIn_3 rfl (by decide) rfl ?_
  exact wp_le (Ms := [.ref 15, .int a0, .int a1, .int (a1 + (1 : Int32))]) ⟨Or.inr rfl, Or.inr rfl, Or.inr rfl, Or.inr rfl, trivial⟩ h
set_option maxRecDepth 100000 in
theorem bX5_bringIn_4 {P : St → Prop} {S : St} (x1 : Int32) (x2 : Int32) (x3 : Int32) (h : (((S.1 0) ≤ x3 → P S) ∧ (¬ (S.1 0) ≤ x3 → vp_in x1 8 ∧ tX6_has ((S.2.2.1 11) x1.toNatClampNeg) x3 S (fun r3 S2 => ((r3 = 0 → wX5_bringIn P 4 [.ref 15, .int x1, .int x2, .int (x3 + (1 : Int32))] [] S2) ∧ (¬ r3 = 0 → tX5_drop x1 x3 S2 (fun S4 => tX5_take x1 x2 S4 (fun S5 => vp_in x2 8 ∧ ((((S5.2.2.1 12) x2.toNatClampNeg) ≤ ((S5.2.2.1 1) 1) → P S5) ∧ (¬ ((S5.2.2.1 12) x2.toNatClampNeg) ≤ ((S5.2.2.1 1) 1) → tX5_passOn x2 (x1 + (1 : Int32)) S5 (fun r8 S7 => ((r8 = 0 → tX5_drop x1 x2 S7 (fun S9 => tX5_take x1 x3 S9 (fun S10 => wX5_bringIn P 4 [.ref 15, .int x1, .int x2, .int (x3 + (1 : Int32))] [] S10))) ∧ (¬ r8 = 0 → P S7))))))))))))) : wX5_bringIn P 4 [.ref 15, .int x1, .int x2, .int x3] [] S := by
  refine wp_iload_n dX5_bringIn_4 rfl rfl ?_
  refine wp_aload_n dX5_bringIn_5 rfl rfl ?_
  refine wp_get (q := 15) dX5_bringIn_6 fX5_31 rfl rfl ?_
  refine wp_get (q := 1) dX5_bringIn_9 fX5_48 rfl rfl ?_
  refine wp_icmp_ge (tgt := 88) dX5_bringIn_12 (by decide) (fun c => ?_) (fun c => ?_)
  · have h := h.1 c
    exact wp_vret dX5_bringIn_88 rfl ⟨_, rfl, rfl, h⟩
  · have h := h.2 c
    refine wp_aload_n dX5_bringIn_15 rfl rfl ?_
    refine wp_get (q := 15) dX5_bringIn_16 fX5_9 rfl rfl ?_
    refine wp_iload_n dX5_bringIn_19 rfl rfl ?_
    obtain ⟨q1, h⟩ := h
    refine wp_iald2 (q := 16) (j := x1.toNatClampNeg) dX5_bringIn_20 rfl q1 rfl ?_
    refine wp_iload_n dX5_bringIn_21 rfl rfl ?_
    refine wp_callN (As := [.int ((S.2.2.1 11) x1.toNatClampNeg), .int x3]) (rest := []) dX5_bringIn_22 mX6_has lX5_65 (by decide) rfl rfl (Nat.le_of_ble_eq_true rfl) (Nat.le_of_ble_eq_true rfl) h ?_
    rintro rv mh2 ⟨r3, S2, rfl, rfl, h⟩
    refine wp_if_eq (tgt := 82) dX5_bringIn_25 (by decide) (fun c => ?_) (fun c => ?_)
    · have h := h.1 c
      refine wp_iinc (Ms := [.ref 15, .int x1, .int x2, .int (x3 + (1 : Int32))]) (v := x3 + (1 : Int32)) dX5_bringIn_82 rfl rfl (by decide) rfl ?_
      refine wp_goto (tgt := 4) dX5_bringIn_85 (by decide) ?_
      exact wp_le (Ms := [.ref 15, .int x1, .int x2, .int (x3 + (1 : Int32))]) ⟨Or.inr rfl, Or.inr rfl, Or.inr rfl, Or.inr rfl, trivial⟩ h
    · have h := h.2 c
      refine wp_aload_n dX5_bringIn_28 rfl rfl ?_
      refine wp_iload_n dX5_bringIn_29 rfl rfl ?_
      refine wp_iload_n dX5_bringIn_30 rfl rfl ?_
      refine wp_callV (q := 15) (As := [.int x1, .int x3]) (rest := []) dX5_bringIn_31 mX5_drop lX5_76 (by decide) rfl rfl rfl rfl (Nat.le_of_ble_eq_true rfl) (Nat.le_of_ble_eq_true rfl) h ?_
      rintro rv mh2 ⟨S4, rfl, rfl, h⟩
      refine wp_aload_n dX5_bringIn_34 rfl rfl ?_
      refine wp_iload_n dX5_bringIn_35 rfl rfl ?_
      refine wp_iload_n dX5_bringIn_36 rfl rfl ?_
      refine wp_callV (q := 15) (As := [.int x1, .int x2]) (rest := []) dX5_bringIn_37 mX5_take lX5_69 (by decide) rfl rfl rfl rfl (Nat.le_of_ble_eq_true rfl) (Nat.le_of_ble_eq_true rfl) h ?_
      rintro rv mh2 ⟨S5, rfl, rfl, h⟩
      refine wp_aload_n dX5_bringIn_40 rfl rfl ?_
      refine wp_get (q := 15) dX5_bringIn_41 fX5_15 rfl rfl ?_
      refine wp_iload_n dX5_bringIn_44 rfl rfl ?_
      obtain ⟨q6, h⟩ := h
      refine wp_iald2 (q := 17) (j := x2.toNatClampNeg) dX5_bringIn_45 rfl q6 rfl ?_
      refine wp_aload_n dX5_bringIn_46 rfl rfl ?_
      refine wp_get (q := 15) dX5_bringIn_47 fX5_31 rfl rfl ?_
      refine wp_get (q := 1) dX5_bringIn_50 fX5_54 rfl rfl ?_
      refine wp_iconst (v := (1 : Int32)) dX5_bringIn_53 (by decide) ?_
      refine wp_iald2 (q := 3) (j := 1) dX5_bringIn_54 rfl (vpd rfl) rfl ?_
      refine wp_icmp_le (tgt := 69) dX5_bringIn_55 (by decide) (fun c => ?_) (fun c => ?_)
      · have h := h.1 c
        exact wp_vret dX5_bringIn_69 rfl ⟨_, rfl, rfl, h⟩
      · have h := h.2 c
        refine wp_aload_n dX5_bringIn_58 rfl rfl ?_
        refine wp_iload_n dX5_bringIn_59 rfl rfl ?_
        refine wp_iload_n dX5_bringIn_60 rfl rfl ?_
        refine wp_iconst (v := (1 : Int32)) dX5_bringIn_61 (by decide) ?_
        refine wp_iadd dX5_bringIn_62 ?_
        refine wp_callV (q := 15) (As := [.int x2, .int (x1 + (1 : Int32))]) (rest := []) dX5_bringIn_63 mX5_passOn lX5_73 (by decide) rfl rfl rfl rfl (Nat.le_of_ble_eq_true rfl) (Nat.le_of_ble_eq_true rfl) h ?_
        rintro rv mh2 ⟨r8, S7, rfl, rfl, h⟩
        refine wp_if_eq (tgt := 70) dX5_bringIn_66 (by decide) (fun c => ?_) (fun c => ?_)
        · have h := h.1 c
          refine wp_aload_n dX5_bringIn_70 rfl rfl ?_
          refine wp_iload_n dX5_bringIn_71 rfl rfl ?_
          refine wp_iload_n dX5_bringIn_72 rfl rfl ?_
          refine wp_callV (q := 15) (As := [.int x1, .int x2]) (rest := []) dX5_bringIn_73 mX5_drop lX5_76 (by decide) rfl rfl rfl rfl (Nat.le_of_ble_eq_true rfl) (Nat.le_of_ble_eq_true rfl) h ?_
          rintro rv mh2 ⟨S9, rfl, rfl, h⟩
          refine wp_aload_n dX5_bringIn_76 rfl rfl ?_
          refine wp_iload_n dX5_bringIn_77 rfl rfl ?_
          refine wp_iload_n dX5_bringIn_78 rfl rfl ?_
          refine wp_callV (q := 15) (As := [.int x1, .int x3]) (rest := []) dX5_bringIn_79 mX5_take lX5_69 (by decide) rfl rfl rfl rfl (Nat.le_of_ble_eq_true rfl) (Nat.le_of_ble_eq_true rfl) h ?_
          rintro rv mh2 ⟨S10, rfl, rfl, h⟩
          refine wp_iinc (Ms := [.ref 15, .int x1, .int x2, .int (x3 + (1 : Int32))]) (v := x3 + (1 : Int32)) dX5_bringIn_82 rfl rfl (by decide) rfl ?_
          refine wp_goto (tgt := 4) dX5_bringIn_85 (by decide) ?_
          exact wp_le (Ms := [.ref 15, .int x1, .int x2, .int (x3 + (1 : Int32))]) ⟨Or.inr rfl, Or.inr rfl, Or.inr rfl, Or.inr rfl, trivial⟩ h
        · have h := h.2 c
          exact wp_vret dX5_bringIn_69 rfl ⟨_, rfl, rfl, h⟩
abbrev rX5_makeFirst : Room := { frames := 4, cells := 0, slots := 0, locals := 99 }
abbrev wX5_makeFirst (P : St → Prop) (pc : Nat) (Ls stk : List Value) (S : St) : Prop := Wp cX5_makeFirst RX5 3 rX5_makeFirst (wFV P) pc Ls stk (enc S)
abbrev tX5_makeFirst  (S : St) (P : St → Prop) : Prop := wX5_makeFirst P 0 (wl_en [.ref 15] 3) [] S
set_option maxRecDepth 100000 in
theorem bX5_makeFirst_0 {P : St → Prop} {S : St}  (h : wX5_makeFirst P 2 [.ref 15, .int (0 : Int32), .retAddr 0] [] S) : tX5_makeFirst  S P := by
  show wX5_makeFirst P 0 [.ref 15, .retAddr 0, .retAddr 0] [] S
  refine wp_iconst (v := (0 : Int32)) dX5_makeFirst_0 (by decide) ?_
  refine wp_istore_n (Ms := [.ref 15, .int (0 : Int32), .retAddr 0]) dX5_makeFirst_1 rfl (by decide) rfl ?_
  exact wp_le (Ms := [.ref 15, .int (0 : Int32), .retAddr 0]) ⟨Or.inr rfl, Or.inr rfl, Or.inl rfl, trivial⟩ h
set_option maxRecDepth 100000 in
theorem bX5_makeFirst_2 {P : St → Prop} {S : St} (x1 : Int32) (h : (((S.1 0) ≤ x1 → P S) ∧ (¬ (S.1 0) ≤ x1 → wX5_makeFirst P 15 [.ref 15, .int x1, .int (0 : Int32)] [] S))) : wX5_makeFirst P 2 [.ref 15, .int x1, .retAddr 0] [] S := by
  refine wp_iload_n dX5_makeFirst_2 rfl rfl ?_
  refine wp_aload_n dX5_makeFirst_3 rfl rfl ?_
  refine wp_get (q := 15) dX5_makeFirst_4 fX5_31 rfl rfl ?_
  refine wp_get (q := 1) dX5_makeFirst_7 fX5_48 rfl rfl ?_
  refine wp_icmp_ge (tgt := 68) dX5_makeFirst_10 (by decide) (fun c => ?_) (fun c => ?_)
  · have h := h.1 c
    exact wp_vret dX5_makeFirst_68 rfl ⟨_, rfl, rfl, h⟩
  · have h := h.2 c
    refine wp_iconst (v := (0 : Int32)) dX5_makeFirst_13 (by decide) ?_
    refine wp_istore_n (Ms := [.ref 15, .int x1, .int (0 : Int32)]) dX5_makeFirst_14 rfl (by decide) rfl ?_
    exact wp_le (Ms := [.ref 15, .int x1, .int (0 : Int32)]) ⟨Or.inr rfl, Or.inr rfl, Or.inr rfl, trivial⟩ h
set_option maxRecDepth 100000 in
theorem bX5_makeFirst_15 {P : St → Prop} {S : St} (x1 : Int32) (x2 : Int32) (h : (((S.1 0) ≤ x2 → wX5_makeFirst P 2 [.ref 15, .int (x1 + (1 : Int32)), .retAddr 0] [] S) ∧ (¬ (S.1 0) ≤ x2 → tX1_mayMark x1 S (fun r2 S1 => vp_in x1 8 ∧ tX6_has (r2 &&& (((S1.2.2.1 11) x1.toNatClampNeg) ^^^ (-1 : Int32))) x2 S1 (fun r5 S4 => ((r5 = 0 → wX5_makeFirst P 15 [.ref 15, .int x1, .int (x2 + (1 : Int32))] [] S4) ∧ (¬ r5 = 0 → tX5_bringIn x1 x2 S4 (fun S6 => wX5_makeFirst P 15 [.ref 15, .int x1, .int (x2 + (1 : Int32))] [] S6)))))))) : wX5_makeFirst P 15 [.ref 15, .int x1, .int x2] [] S := by
  refine wp_iload_n dX5_makeFirst_15 rfl rfl ?_
  refine wp_aload_n dX5_makeFirst_16 rfl rfl ?_
  refine wp_get (q := 15) dX5_makeFirst_17 fX5_31 rfl rfl ?_
  refine wp_get (q := 1) dX5_makeFirst_20 fX5_48 rfl rfl ?_
  refine wp_icmp_ge (tgt := 62) dX5_makeFirst_23 (by decide) (fun c => ?_) (fun c => ?_)
  · have h := h.1 c
    refine wp_iinc (Ms := [.ref 15, .int (x1 + (1 : Int32)), .int x2]) (v := x1 + (1 : Int32)) dX5_makeFirst_62 rfl rfl (by decide) rfl ?_
    refine wp_goto (tgt := 2) dX5_makeFirst_65 (by decide) ?_
    exact wp_le (Ms := [.ref 15, .int (x1 + (1 : Int32)), .retAddr 0]) ⟨Or.inr rfl, Or.inr rfl, Or.inl rfl, trivial⟩ h
  · have h := h.2 c
    refine wp_aload_n dX5_makeFirst_26 rfl rfl ?_
    refine wp_get (q := 15) dX5_makeFirst_27 fX5_31 rfl rfl ?_
    refine wp_iload_n dX5_makeFirst_30 rfl rfl ?_
    refine wp_callV (q := 1) (As := [.int x1]) (rest := []) dX5_makeFirst_31 mX1_mayMark lX5_61 (by decide) rfl rfl rfl rfl (Nat.le_of_ble_eq_true rfl) (Nat.le_of_ble_eq_true rfl) h ?_
    rintro rv mh2 ⟨r2, S1, rfl, rfl, h⟩
    refine wp_aload_n dX5_makeFirst_34 rfl rfl ?_
    refine wp_get (q := 15) dX5_makeFirst_35 fX5_9 rfl rfl ?_
    refine wp_iload_n dX5_makeFirst_38 rfl rfl ?_
    obtain ⟨q3, h⟩ := h
    refine wp_iald2 (q := 16) (j := x1.toNatClampNeg) dX5_makeFirst_39 rfl q3 rfl ?_
    refine wp_iconst (v := (-1 : Int32)) dX5_makeFirst_40 (by decide) ?_
    refine wp_ixor dX5_makeFirst_41 ?_
    refine wp_iand dX5_makeFirst_42 ?_
    refine wp_iload_n dX5_makeFirst_43 rfl rfl ?_
    refine wp_callN (As := [.int (r2 &&& (((S1.2.2.1 11) x1.toNatClampNeg) ^^^ (-1 : Int32))), .int x2]) (rest := []) dX5_makeFirst_44 mX6_has lX5_65 (by decide) rfl rfl (Nat.le_of_ble_eq_true rfl) (Nat.le_of_ble_eq_true rfl) h ?_
    rintro rv mh2 ⟨r5, S4, rfl, rfl, h⟩
    refine wp_if_eq (tgt := 56) dX5_makeFirst_47 (by decide) (fun c => ?_) (fun c => ?_)
    · have h := h.1 c
      refine wp_iinc (Ms := [.ref 15, .int x1, .int (x2 + (1 : Int32))]) (v := x2 + (1 : Int32)) dX5_makeFirst_56 rfl rfl (by decide) rfl ?_
      refine wp_goto (tgt := 15) dX5_makeFirst_59 (by decide) ?_
      exact wp_le (Ms := [.ref 15, .int x1, .int (x2 + (1 : Int32))]) ⟨Or.inr rfl, Or.inr rfl, Or.inr rfl, trivial⟩ h
    · have h := h.2 c
      refine wp_aload_n dX5_makeFirst_50 rfl rfl ?_
      refine wp_iload_n dX5_makeFirst_51 rfl rfl ?_
      refine wp_iload_n dX5_makeFirst_52 rfl rfl ?_
      refine wp_callV (q := 15) (As := [.int x1, .int x2]) (rest := []) dX5_makeFirst_53 mX5_bringIn lX5_79 (by decide) rfl rfl rfl rfl (Nat.le_of_ble_eq_true rfl) (Nat.le_of_ble_eq_true rfl) h ?_
      rintro rv mh2 ⟨S6, rfl, rfl, h⟩
      refine wp_iinc (Ms := [.ref 15, .int x1, .int (x2 + (1 : Int32))]) (v := x2 + (1 : Int32)) dX5_makeFirst_56 rfl rfl (by decide) rfl ?_
      refine wp_goto (tgt := 15) dX5_makeFirst_59 (by decide) ?_
      exact wp_le (Ms := [.ref 15, .int x1, .int (x2 + (1 : Int32))]) ⟨Or.inr rfl, Or.inr rfl, Or.inr rfl, trivial⟩ h
abbrev rX5_isPossible : Room := { frames := 5, cells := 0, slots := 0, locals := 121 }
abbrev wX5_isPossible (P : Int32 → St → Prop) (pc : Nat) (Ls stk : List Value) (S : St) : Prop := Wp cX5_isPossible RX5 1 rX5_isPossible (wFI .boolean P) pc Ls stk (enc S)
abbrev tX5_isPossible  (S : St) (P : Int32 → St → Prop) : Prop := wX5_isPossible P 0 (wl_en [.ref 15] 1) [] S
set_option maxRecDepth 100000 in
theorem bX5_isPossible_0 {P : Int32 → St → Prop} {S : St}  (h : ((¬ (S.1 1) = 0 → wBo (S.1 2) ∧ P (S.1 2) S) ∧ ((S.1 1) = 0 → tX5_findAnyPlan  (sI S 1 (1 : Int32)) (fun r3 S2 => wBo r3 ∧ ((r3 = 0 → wBo r3 ∧ P r3 (sI S2 2 r3)) ∧ (¬ r3 = 0 → tX5_makeFirst  (sI S2 2 r3) (fun S6 => wBo (S6.1 2) ∧ P (S6.1 2) S6))))))) : tX5_isPossible  S P := by
  show wX5_isPossible P 0 [.ref 15] [] S
  refine wp_aload_n dX5_isPossible_0 rfl rfl ?_
  refine wp_get (q := 15) dX5_isPossible_1 fX5_24 rfl rfl ?_
  refine wp_if_ne (tgt := 31) dX5_isPossible_4 (by decide) (fun c => ?_) (fun c => ?_)
  · have h := h.1 c
    refine wp_aload_n dX5_isPossible_31 rfl rfl ?_
    refine wp_get (q := 15) dX5_isPossible_32 fX5_28 rfl rfl ?_
    obtain ⟨q1, h⟩ := h
    exact wp_iret dX5_isPossible_35 rfl (wBo_n q1) ⟨_, _, rfl, rfl, h⟩
  · have h := h.2 c
    refine wp_aload_n dX5_isPossible_7 rfl rfl ?_
    refine wp_iconst (v := (1 : Int32)) dX5_isPossible_8 (by decide) ?_
    refine wp_put (q := 15) (mh2 := enc (sI S 1 (1 : Int32))) dX5_isPossible_9 fX5_24 (by decide) rfl (Nat.le_of_ble_eq_true rfl) (fun _ _ => rfl) rfl rfl (eo_15_5 _ _) ?_
    refine wp_aload_n dX5_isPossible_12 rfl rfl ?_
    refine wp_aload_n dX5_isPossible_13 rfl rfl ?_
    refine wp_callV (q := 15) (As := []) (rest := [.ref 15]) dX5_isPossible_14 mX5_findAnyPlan lX5_35 (by decide) rfl rfl rfl rfl (Nat.le_of_ble_eq_true rfl) (Nat.le_of_ble_eq_true rfl) h ?_
    rintro rv mh2 ⟨r3, S2, rfl, rfl, h⟩
    obtain ⟨q4, h⟩ := h
    refine wp_put (q := 15) (mh2 := enc (sI S2 2 r3)) dX5_isPossible_17 fX5_28 (by decide) rfl (Nat.le_of_ble_eq_true rfl) (fun _ _ => rfl) (wBo_n q4) (wBo_f q4) (eo_15_6 _ _) ?_
    refine wp_aload_n dX5_isPossible_20 rfl rfl ?_
    refine wp_get (q := 15) dX5_isPossible_21 fX5_28 rfl rfl ?_
    refine wp_if_eq (tgt := 31) dX5_isPossible_24 (by decide) (fun c => ?_) (fun c => ?_)
    · have h := h.1 c
      refine wp_aload_n dX5_isPossible_31 rfl rfl ?_
      refine wp_get (q := 15) dX5_isPossible_32 fX5_28 rfl rfl ?_
      obtain ⟨q5, h⟩ := h
      exact wp_iret dX5_isPossible_35 rfl (wBo_n q5) ⟨_, _, rfl, rfl, h⟩
    · have h := h.2 c
      refine wp_aload_n dX5_isPossible_27 rfl rfl ?_
      refine wp_callV (q := 15) (As := []) (rest := []) dX5_isPossible_28 mX5_makeFirst lX5_39 (by decide) rfl rfl rfl rfl (Nat.le_of_ble_eq_true rfl) (Nat.le_of_ble_eq_true rfl) h ?_
      rintro rv mh2 ⟨S6, rfl, rfl, h⟩
      refine wp_aload_n dX5_isPossible_31 rfl rfl ?_
      refine wp_get (q := 15) dX5_isPossible_32 fX5_28 rfl rfl ?_
      obtain ⟨q7, h⟩ := h
      exact wp_iret dX5_isPossible_35 rfl (wBo_n q7) ⟨_, _, rfl, rfl, h⟩
abbrev rX5_roomFor : Room := { frames := 1, cells := 0, slots := 0, locals := 21 }
abbrev wX5_roomFor (P : Int32 → St → Prop) (pc : Nat) (Ls stk : List Value) (S : St) : Prop := Wp cX5_roomFor RX5 4 rX5_roomFor (wFI .int P) pc Ls stk (enc S)
abbrev tX5_roomFor (a0 : Int32) (S : St) (P : Int32 → St → Prop) : Prop := wX5_roomFor P 0 (wl_en [.ref 15, .int a0] 4) [] S
set_option maxRecDepth 100000 in
theorem bX5_roomFor_0 {P : Int32 → St → Prop} {S : St} (a0 : Int32) (h : wX5_roomFor P 4 [.ref 15, .int a0, .int (0 : Int32), .int (0 : Int32)] [] S) : tX5_roomFor a0 S P := by
  show wX5_roomFor P 0 [.ref 15, .int a0, .retAddr 0, .retAddr 0] [] S
  refine wp_iconst (v := (0 : Int32)) dX5_roomFor_0 (by decide) ?_
  refine wp_istore_n (Ms := [.ref 15, .int a0, .int (0 : Int32), .retAddr 0]) dX5_roomFor_1 rfl (by decide) rfl ?_
  refine wp_iconst (v := (0 : Int32)) dX5_roomFor_2 (by decide) ?_
  refine wp_istore_n (Ms := [.ref 15, .int a0, .int (0 : Int32), .int (0 : Int32)]) dX5_roomFor_3 rfl (by decide) rfl ?_
  exact wp_le (Ms := [.ref 15, .int a0, .int (0 : Int32), .int (0 : Int32)]) ⟨Or.inr rfl, Or.inr rfl, Or.inr rfl, Or.inr rfl, trivial⟩ h
set_option maxRecDepth 100000 in
theorem bX5_roomFor_4 {P : Int32 → St → Prop} {S : St} (x1 : Int32) (x2 : Int32) (x3 : Int32) (h : (((S.1 0) ≤ x3 → P x2 S) ∧ (¬ (S.1 0) ≤ x3 → tX1_mayMark x3 S (fun r2 S1 => wX5_roomFor P 4 [.ref 15, .int x1, .int (x2 + (if (wbc (r2 &&& x1)) < ((S.2.2.1 1) 1) then wbc (r2 &&& x1) else (S.2.2.1 1) 1)), .int (x3 + (1 : Int32))] [] S1)))) : wX5_roomFor P 4 [.ref 15, .int x1, .int x2, .int x3] [] S := by
  refine wp_iload_n dX5_roomFor_4 rfl rfl ?_
  refine wp_aload_n dX5_roomFor_5 rfl rfl ?_
  refine wp_get (q := 15) dX5_roomFor_6 fX5_31 rfl rfl ?_
  refine wp_get (q := 1) dX5_roomFor_9 fX5_48 rfl rfl ?_
  refine wp_icmp_ge (tgt := 49) dX5_roomFor_12 (by decide) (fun c => ?_) (fun c => ?_)
  · have h := h.1 c
    refine wp_iload_n dX5_roomFor_49 rfl rfl ?_
    exact wp_iret dX5_roomFor_50 rfl rfl ⟨_, _, rfl, rfl, h⟩
  · have h := h.2 c
    refine wp_iload_n dX5_roomFor_15 rfl rfl ?_
    refine wp_aload_n dX5_roomFor_16 rfl rfl ?_
    refine wp_get (q := 15) dX5_roomFor_17 fX5_31 rfl rfl ?_
    refine wp_get (q := 1) dX5_roomFor_20 fX5_54 rfl rfl ?_
    refine wp_iconst (v := (1 : Int32)) dX5_roomFor_23 (by decide) ?_
    refine wp_iald2 (q := 3) (j := 1) dX5_roomFor_24 rfl (vpd rfl) rfl ?_
    refine wp_aload_n dX5_roomFor_25 rfl rfl ?_
    refine wp_get (q := 15) dX5_roomFor_26 fX5_31 rfl rfl ?_
    refine wp_iload_n dX5_roomFor_29 rfl rfl ?_
    refine wp_callV (q := 1) (As := [.int x3]) (rest := [.int ((S.2.2.1 1) 1), .int x2]) dX5_roomFor_30 mX1_mayMark lX5_61 (by decide) rfl rfl rfl rfl (Nat.le_of_ble_eq_true rfl) (Nat.le_of_ble_eq_true rfl) h ?_
    rintro rv mh2 ⟨r2, S1, rfl, rfl, h⟩
    refine wp_iload_n dX5_roomFor_33 rfl rfl ?_
    refine wp_iand dX5_roomFor_34 ?_
    refine wp_bitc dX5_roomFor_35 lX5_95 (by decide) (Nat.le_of_ble_eq_true rfl) ?_
    refine wp_mmin dX5_roomFor_38 lX5_103 (by decide) (Nat.le_of_ble_eq_true rfl) ?_
    refine wp_iadd dX5_roomFor_41 ?_
    refine wp_istore_n (Ms := [.ref 15, .int x1, .int (x2 + (if (wbc (r2 &&& x1)) < ((S.2.2.1 1) 1) then wbc (r2 &&& x1) else (S.2.2.1 1) 1)), .int x3]) dX5_roomFor_42 rfl (by decide) rfl ?_
    refine wp_iinc (Ms := [.ref 15, .int x1, .int (x2 + (if (wbc (r2 &&& x1)) < ((S.2.2.1 1) 1) then wbc (r2 &&& x1) else (S.2.2.1 1) 1)), .int (x3 + (1 : Int32))]) (v := x3 + (1 : Int32)) dX5_roomFor_43 rfl rfl (by decide) rfl ?_
    refine wp_goto (tgt := 4) dX5_roomFor_46 (by decide) ?_
    exact wp_le (Ms := [.ref 15, .int x1, .int (x2 + (if (wbc (r2 &&& x1)) < ((S.2.2.1 1) 1) then wbc (r2 &&& x1) else (S.2.2.1 1) 1)), .int (x3 + (1 : Int32))]) ⟨Or.inr rfl, Or.inr rfl, Or.inr rfl, Or.inr rfl, trivial⟩ h
abbrev rX5_leastLack : Room := { frames := 2, cells := 0, slots := 0, locals := 44 }
abbrev wX5_leastLack (P : Int32 → St → Prop) (pc : Nat) (Ls stk : List Value) (S : St) : Prop := Wp cX5_leastLack RX5 3 rX5_leastLack (wFI .int P) pc Ls stk (enc S)
abbrev tX5_leastLack  (S : St) (P : Int32 → St → Prop) : Prop := wX5_leastLack P 0 (wl_en [.ref 15] 3) [] S
set_option maxRecDepth 100000 in
theorem bX5_leastLack_0 {P : Int32 → St → Prop} {S : St}  (h : wX5_leastLack P 12 [.ref 15, .int ((1 : Int32) <<< ((S.1 0) &&& (31 : Int32))), .int (1 : Int32)] [] S) : tX5_leastLack  S P := by
  show wX5_leastLack P 0 [.ref 15, .retAddr 0, .retAddr 0] [] S
  refine wp_iconst (v := (1 : Int32)) dX5_leastLack_0 (by decide) ?_
  refine wp_aload_n dX5_leastLack_1 rfl rfl ?_
  refine wp_get (q := 15) dX5_leastLack_2 fX5_31 rfl rfl ?_
  refine wp_get (q := 1) dX5_leastLack_5 fX5_48 rfl rfl ?_
  refine wp_ishl dX5_leastLack_8 ?_
  refine wp_istore_n (Ms := [.ref 15, .int ((1 : Int32) <<< ((S.1 0) &&& (31 : Int32))), .retAddr 0]) dX5_leastLack_9 rfl (by decide) rfl ?_
  refine wp_iconst (v := (1 : Int32)) dX5_leastLack_10 (by decide) ?_
  refine wp_istore_n (Ms := [.ref 15, .int ((1 : Int32) <<< ((S.1 0) &&& (31 : Int32))), .int (1 : Int32)]) dX5_leastLack_11 rfl (by decide) rfl ?_
  exact wp_le (Ms := [.ref 15, .int ((1 : Int32) <<< ((S.1 0) &&& (31 : Int32))), .int (1 : Int32)]) ⟨Or.inr rfl, Or.inr rfl, Or.inr rfl, trivial⟩ h
set_option maxRecDepth 100000 in
theorem bX5_leastLack_12 {P : Int32 → St → Prop} {S : St} (x1 : Int32) (x2 : Int32) (h : ((x1 ≤ x2 → P (0 : Int32) S) ∧ (¬ x1 ≤ x2 → tX5_roomFor x2 S (fun r2 S1 => (((((S.2.2.1 1) 0) * (wbc x2)) ≤ r2 → wX5_leastLack P 12 [.ref 15, .int x1, .int (x2 + (1 : Int32))] [] S1) ∧ (¬ (((S.2.2.1 1) 0) * (wbc x2)) ≤ r2 → P x2 S1)))))) : wX5_leastLack P 12 [.ref 15, .int x1, .int x2] [] S := by
  refine wp_iload_n dX5_leastLack_12 rfl rfl ?_
  refine wp_iload_n dX5_leastLack_13 rfl rfl ?_
  refine wp_icmp_ge (tgt := 47) dX5_leastLack_14 (by decide) (fun c => ?_) (fun c => ?_)
  · have h := h.1 c
    refine wp_iconst (v := (0 : Int32)) dX5_leastLack_47 (by decide) ?_
    exact wp_iret dX5_leastLack_48 rfl rfl ⟨_, _, rfl, rfl, h⟩
  · have h := h.2 c
    refine wp_aload_n dX5_leastLack_17 rfl rfl ?_
    refine wp_get (q := 15) dX5_leastLack_18 fX5_31 rfl rfl ?_
    refine wp_get (q := 1) dX5_leastLack_21 fX5_54 rfl rfl ?_
    refine wp_iconst (v := (0 : Int32)) dX5_leastLack_24 (by decide) ?_
    refine wp_iald2 (q := 3) (j := 0) dX5_leastLack_25 rfl (vpd rfl) rfl ?_
    refine wp_iload_n dX5_leastLack_26 rfl rfl ?_
    refine wp_bitc dX5_leastLack_27 lX5_95 (by decide) (Nat.le_of_ble_eq_true rfl) ?_
    refine wp_imul dX5_leastLack_30 ?_
    refine wp_aload_n dX5_leastLack_31 rfl rfl ?_
    refine wp_iload_n dX5_leastLack_32 rfl rfl ?_
    refine wp_callV (q := 15) (As := [.int x2]) (rest := [.int (((S.2.2.1 1) 0) * (wbc x2))]) dX5_leastLack_33 mX5_roomFor lX5_100 (by decide) rfl rfl rfl rfl (Nat.le_of_ble_eq_true rfl) (Nat.le_of_ble_eq_true rfl) h ?_
    rintro rv mh2 ⟨r2, S1, rfl, rfl, h⟩
    refine wp_icmp_le (tgt := 41) dX5_leastLack_36 (by decide) (fun c => ?_) (fun c => ?_)
    · have h := h.1 c
      refine wp_iinc (Ms := [.ref 15, .int x1, .int (x2 + (1 : Int32))]) (v := x2 + (1 : Int32)) dX5_leastLack_41 rfl rfl (by decide) rfl ?_
      refine wp_goto (tgt := 12) dX5_leastLack_44 (by decide) ?_
      exact wp_le (Ms := [.ref 15, .int x1, .int (x2 + (1 : Int32))]) ⟨Or.inr rfl, Or.inr rfl, Or.inr rfl, trivial⟩ h
    · have h := h.2 c
      refine wp_iload_n dX5_leastLack_39 rfl rfl ?_
      exact wp_iret dX5_leastLack_40 rfl rfl ⟨_, _, rfl, rfl, h⟩
abbrev rX5_countParts : Room := { frames := 3, cells := 0, slots := 0, locals := 70 }
abbrev wX5_countParts (P : Int32 → St → Prop) (pc : Nat) (Ls stk : List Value) (S : St) : Prop := Wp cX5_countParts RX5 4 rX5_countParts (wFI .int P) pc Ls stk (enc S)
abbrev tX5_countParts  (S : St) (P : Int32 → St → Prop) : Prop := wX5_countParts P 0 (wl_en [.ref 15] 4) [] S
set_option maxRecDepth 100000 in
theorem bX5_countParts_0 {P : Int32 → St → Prop} {S : St}  (h : wX5_countParts P 6 [.ref 15, .int (0 : Int32), .int (0 : Int32), .int (0 : Int32)] [] S) : tX5_countParts  S P := by
  show wX5_countParts P 0 [.ref 15, .retAddr 0, .retAddr 0, .retAddr 0] [] S
  refine wp_iconst (v := (0 : Int32)) dX5_countParts_0 (by decide) ?_
  refine wp_istore_n (Ms := [.ref 15, .int (0 : Int32), .retAddr 0, .retAddr 0]) dX5_countParts_1 rfl (by decide) rfl ?_
  refine wp_iconst (v := (0 : Int32)) dX5_countParts_2 (by decide) ?_
  refine wp_istore_n (Ms := [.ref 15, .int (0 : Int32), .int (0 : Int32), .retAddr 0]) dX5_countParts_3 rfl (by decide) rfl ?_
  refine wp_iconst (v := (0 : Int32)) dX5_countParts_4 (by decide) ?_
  refine wp_istore_n (Ms := [.ref 15, .int (0 : Int32), .int (0 : Int32), .int (0 : Int32)]) dX5_countParts_5 rfl (by decide) rfl ?_
  exact wp_le (Ms := [.ref 15, .int (0 : Int32), .int (0 : Int32), .int (0 : Int32)]) ⟨Or.inr rfl, Or.inr rfl, Or.inr rfl, Or.inr rfl, trivial⟩ h
set_option maxRecDepth 100000 in
theorem bX5_countParts_6 {P : Int32 → St → Prop} {S : St} (x1 : Int32) (x2 : Int32) (x3 : Int32) (h : (((S.1 0) ≤ x3 → P x1 S) ∧ (¬ (S.1 0) ≤ x3 → tX6_has x2 x3 S (fun r2 S1 => ((¬ r2 = 0 → wX5_countParts P 6 [.ref 15, .int x1, .int x2, .int (x3 + (1 : Int32))] [] S1) ∧ (r2 = 0 → tX6_tiedWorks_16 (S1.1 0) x3 S1 (fun r4 S3 => wX5_countParts P 6 [.ref 15, .int (x1 + (1 : Int32)), .int (x2 ||| r4), .int (x3 + (1 : Int32))] [] S3))))))) : wX5_countParts P 6 [.ref 15, .int x1, .int x2, .int x3] [] S := by
  refine wp_iload_n dX5_countParts_6 rfl rfl ?_
  refine wp_aload_n dX5_countParts_7 rfl rfl ?_
  refine wp_get (q := 15) dX5_countParts_8 fX5_31 rfl rfl ?_
  refine wp_get (q := 1) dX5_countParts_11 fX5_48 rfl rfl ?_
  refine wp_icmp_ge (tgt := 52) dX5_countParts_14 (by decide) (fun c => ?_) (fun c => ?_)
  · have h := h.1 c
    refine wp_iload_n dX5_countParts_52 rfl rfl ?_
    exact wp_iret dX5_countParts_53 rfl rfl ⟨_, _, rfl, rfl, h⟩
  · have h := h.2 c
    refine wp_iload_n dX5_countParts_17 rfl rfl ?_
    refine wp_iload_n dX5_countParts_18 rfl rfl ?_
    refine wp_callN (As := [.int x2, .int x3]) (rest := []) dX5_countParts_19 mX6_has lX5_65 (by decide) rfl rfl (Nat.le_of_ble_eq_true rfl) (Nat.le_of_ble_eq_true rfl) h ?_
    rintro rv mh2 ⟨r2, S1, rfl, rfl, h⟩
    refine wp_if_ne (tgt := 46) dX5_countParts_22 (by decide) (fun c => ?_) (fun c => ?_)
    · have h := h.1 c
      refine wp_iinc (Ms := [.ref 15, .int x1, .int x2, .int (x3 + (1 : Int32))]) (v := x3 + (1 : Int32)) dX5_countParts_46 rfl rfl (by decide) rfl ?_
      refine wp_goto (tgt := 6) dX5_countParts_49 (by decide) ?_
      exact wp_le (Ms := [.ref 15, .int x1, .int x2, .int (x3 + (1 : Int32))]) ⟨Or.inr rfl, Or.inr rfl, Or.inr rfl, Or.inr rfl, trivial⟩ h
    · have h := h.2 c
      refine wp_iload_n dX5_countParts_25 rfl rfl ?_
      refine wp_aload_n dX5_countParts_26 rfl rfl ?_
      refine wp_get (q := 15) dX5_countParts_27 fX5_9 rfl rfl ?_
      refine wp_aload_n dX5_countParts_30 rfl rfl ?_
      refine wp_get (q := 15) dX5_countParts_31 fX5_31 rfl rfl ?_
      refine wp_get (q := 1) dX5_countParts_34 fX5_48 rfl rfl ?_
      refine wp_iload_n dX5_countParts_37 rfl rfl ?_
      refine wp_callN (As := [.ref 16, .int (S1.1 0), .int x3]) (rest := [.int x2]) dX5_countParts_38 mX6_tiedWorks lX5_109 (by decide) rfl rfl (Nat.le_of_ble_eq_true rfl) (Nat.le_of_ble_eq_true rfl) h ?_
      rintro rv mh2 ⟨r4, S3, rfl, rfl, h⟩
      refine wp_ior dX5_countParts_41 ?_
      refine wp_istore_n (Ms := [.ref 15, .int x1, .int (x2 ||| r4), .int x3]) dX5_countParts_42 rfl (by decide) rfl ?_
      refine wp_iinc (Ms := [.ref 15, .int (x1 + (1 : Int32)), .int (x2 ||| r4), .int x3]) (v := x1 + (1 : Int32)) dX5_countParts_43 rfl rfl (by decide) rfl ?_
      refine wp_iinc (Ms := [.ref 15, .int (x1 + (1 : Int32)), .int (x2 ||| r4), .int (x3 + (1 : Int32))]) (v := x3 + (1 : Int32)) dX5_countParts_46 rfl rfl (by decide) rfl ?_
      refine wp_goto (tgt := 6) dX5_countParts_49 (by decide) ?_
      exact wp_le (Ms := [.ref 15, .int (x1 + (1 : Int32)), .int (x2 ||| r4), .int (x3 + (1 : Int32))]) ⟨Or.inr rfl, Or.inr rfl, Or.inr rfl, Or.inr rfl, trivial⟩ h
abbrev rX6_pupils : Room := { frames := 2, cells := 0, slots := 0, locals := 44 }
abbrev wX6_pupils (P : Int32 → St → Prop) (pc : Nat) (Ls stk : List Value) (S : St) : Prop := Wp cX6_pupils RX6 3 rX6_pupils (wFI .int P) pc Ls stk (enc S)
abbrev tX6_pupils (a0 : Int32) (S : St) (P : Int32 → St → Prop) : Prop := wX6_pupils P 0 (wl_en [.ref 0, .int a0] 3) [] S
set_option maxRecDepth 100000 in
theorem bX6_pupils_0 {P : Int32 → St → Prop} {S : St} (a0 : Int32) (h : ((a0 < (2 : Int32) → P (-1002 : Int32) S) ∧ (¬ a0 < (2 : Int32) → ((a0 ≤ (8 : Int32) → tX1_settle a0 S (fun S1 => tX2_wipe  S1 (fun S2 => tX5_forget  S2 (fun S3 => tX4_forget  S3 (fun S4 => tX3_forget  S4 (fun S5 => P (S.1 0) S5)))))) ∧ (¬ a0 ≤ (8 : Int32) → P (-1002 : Int32) S))))) : tX6_pupils a0 S P := by
  show wX6_pupils P 0 [.ref 0, .int a0, .retAddr 0] [] S
  refine wp_iload_n dX6_pupils_0 rfl rfl ?_
  refine wp_iconst (v := (2 : Int32)) dX6_pupils_1 (by decide) ?_
  refine wp_icmp_lt (tgt := 11) dX6_pupils_2 (by decide) (fun c => ?_) (fun c => ?_)
  · have h := h.1 c
    refine wp_sipush (v := (-1002 : Int32)) dX6_pupils_11 (by decide) ?_
    exact wp_iret dX6_pupils_14 rfl rfl ⟨_, _, rfl, rfl, h⟩
  · have h := h.2 c
    refine wp_iload_n dX6_pupils_5 rfl rfl ?_
    refine wp_bipush (v := (8 : Int32)) dX6_pupils_6 (by decide) ?_
    refine wp_icmp_le (tgt := 15) dX6_pupils_8 (by decide) (fun c => ?_) (fun c => ?_)
    · have h := h.1 c
      refine wp_aload_n dX6_pupils_15 rfl rfl ?_
      refine wp_get (q := 0) dX6_pupils_16 fX6_10 rfl rfl ?_
      refine wp_get (q := 1) dX6_pupils_19 fX6_48 rfl rfl ?_
      refine wp_istore_n (Ms := [.ref 0, .int a0, .int (S.1 0)]) dX6_pupils_22 rfl (by decide) rfl ?_
      refine wp_aload_n dX6_pupils_23 rfl rfl ?_
      refine wp_get (q := 0) dX6_pupils_24 fX6_10 rfl rfl ?_
      refine wp_iload_n dX6_pupils_27 rfl rfl ?_
      refine wp_callV (q := 1) (As := [.int a0]) (rest := []) dX6_pupils_28 mX1_settle lX6_52 (by decide) rfl rfl rfl rfl (Nat.le_of_ble_eq_true rfl) (Nat.le_of_ble_eq_true rfl) h ?_
      rintro rv mh2 ⟨S1, rfl, rfl, h⟩
      refine wp_aload_n dX6_pupils_31 rfl rfl ?_
      refine wp_get (q := 0) dX6_pupils_32 fX6_21 rfl rfl ?_
      refine wp_callV (q := 4) (As := []) (rest := []) dX6_pupils_35 mX2_wipe lX6_56 (by decide) rfl rfl rfl rfl (Nat.le_of_ble_eq_true rfl) (Nat.le_of_ble_eq_true rfl) h ?_
      rintro rv mh2 ⟨S2, rfl, rfl, h⟩
      refine wp_aload_n dX6_pupils_38 rfl rfl ?_
      refine wp_get (q := 0) dX6_pupils_39 fX6_28 rfl rfl ?_
      refine wp_callV (q := 15) (As := []) (rest := []) dX6_pupils_42 mX5_forget lX6_59 (by decide) rfl rfl rfl rfl (Nat.le_of_ble_eq_true rfl) (Nat.le_of_ble_eq_true rfl) h ?_
      rintro rv mh2 ⟨S3, rfl, rfl, h⟩
      refine wp_aload_n dX6_pupils_45 rfl rfl ?_
      refine wp_get (q := 0) dX6_pupils_46 fX6_37 rfl rfl ?_
      refine wp_callV (q := 20) (As := []) (rest := []) dX6_pupils_49 mX4_forget lX6_62 (by decide) rfl rfl rfl rfl (Nat.le_of_ble_eq_true rfl) (Nat.le_of_ble_eq_true rfl) h ?_
      rintro rv mh2 ⟨S4, rfl, rfl, h⟩
      refine wp_aload_n dX6_pupils_52 rfl rfl ?_
      refine wp_get (q := 0) dX6_pupils_53 fX6_44 rfl rfl ?_
      refine wp_callV (q := 41) (As := []) (rest := []) dX6_pupils_56 mX3_forget lX6_63 (by decide) rfl rfl rfl rfl (Nat.le_of_ble_eq_true rfl) (Nat.le_of_ble_eq_true rfl) h ?_
      rintro rv mh2 ⟨S5, rfl, rfl, h⟩
      refine wp_iload_n dX6_pupils_59 rfl rfl ?_
      exact wp_iret dX6_pupils_60 rfl rfl ⟨_, _, rfl, rfl, h⟩
    · have h := h.2 c
      refine wp_sipush (v := (-1002 : Int32)) dX6_pupils_11 (by decide) ?_
      exact wp_iret dX6_pupils_14 rfl rfl ⟨_, _, rfl, rfl, h⟩
abbrev rX6_friends : Room := { frames := 1, cells := 0, slots := 0, locals := 23 }
abbrev wX6_friends (P : Int32 → St → Prop) (pc : Nat) (Ls stk : List Value) (S : St) : Prop := Wp cX6_friends RX6 5 rX6_friends (wFI .int P) pc Ls stk (enc S)
abbrev tX6_friends (a0 : Int32) (a1 : Int32) (a2 : Int32) (S : St) (P : Int32 → St → Prop) : Prop := wX6_friends P 0 (wl_en [.ref 0, .int a0, .int a1, .int a2] 5) [] S
set_option maxRecDepth 100000 in
theorem bX6_friends_0 {P : Int32 → St → Prop} {S : St} (a0 : Int32) (a1 : Int32) (a2 : Int32) (h : tX1_holds a0 S (fun r2 S1 => ((r2 = 0 → P (-1001 : Int32) S1) ∧ (¬ r2 = 0 → tX1_holds a1 S1 (fun r4 S3 => ((¬ r4 = 0 → ((¬ a0 = a1 → vp_in a0 8 ∧ tX6_has ((S3.2.2.1 0) a0.toNatClampNeg) a1 S3 (fun r7 S6 => ((r7 = 0 → tX1_befriend a0 a1 a2 S6 (fun S8 => tX5_forget  S8 (fun S9 => P (0 : Int32) S9))) ∧ (¬ r7 = 0 → tX1_befriend a0 a1 a2 S6 (fun S10 => tX5_forget  S10 (fun S11 => P (1 : Int32) S11)))))) ∧ (a0 = a1 → P (-1003 : Int32) S3))) ∧ (r4 = 0 → P (-1001 : Int32) S3))))))) : tX6_friends a0 a1 a2 S P := by
  show wX6_friends P 0 [.ref 0, .int a0, .int a1, .int a2, .retAddr 0] [] S
  refine wp_aload_n dX6_friends_0 rfl rfl ?_
  refine wp_get (q := 0) dX6_friends_1 fX6_10 rfl rfl ?_
  refine wp_iload_n dX6_friends_4 rfl rfl ?_
  refine wp_callV (q := 1) (As := [.int a0]) (rest := []) dX6_friends_5 mX1_holds lX6_64 (by decide) rfl rfl rfl rfl (Nat.le_of_ble_eq_true rfl) (Nat.le_of_ble_eq_true rfl) h ?_
  rintro rv mh2 ⟨r2, S1, rfl, rfl, h⟩
  refine wp_if_eq (tgt := 22) dX6_friends_8 (by decide) (fun c => ?_) (fun c => ?_)
  · have h := h.1 c
    refine wp_sipush (v := (-1001 : Int32)) dX6_friends_22 (by decide) ?_
    exact wp_iret dX6_friends_25 rfl rfl ⟨_, _, rfl, rfl, h⟩
  · have h := h.2 c
    refine wp_aload_n dX6_friends_11 rfl rfl ?_
    refine wp_get (q := 0) dX6_friends_12 fX6_10 rfl rfl ?_
    refine wp_iload_n dX6_friends_15 rfl rfl ?_
    refine wp_callV (q := 1) (As := [.int a1]) (rest := []) dX6_friends_16 mX1_holds lX6_64 (by decide) rfl rfl rfl rfl (Nat.le_of_ble_eq_true rfl) (Nat.le_of_ble_eq_true rfl) h ?_
    rintro rv mh2 ⟨r4, S3, rfl, rfl, h⟩
    refine wp_if_ne (tgt := 26) dX6_friends_19 (by decide) (fun c => ?_) (fun c => ?_)
    · have h := h.1 c
      refine wp_iload_n dX6_friends_26 rfl rfl ?_
      refine wp_iload_n dX6_friends_27 rfl rfl ?_
      refine wp_icmp_ne (tgt := 35) dX6_friends_28 (by decide) (fun c => ?_) (fun c => ?_)
      · have h := h.1 c
        refine wp_aload_n dX6_friends_35 rfl rfl ?_
        refine wp_get (q := 0) dX6_friends_36 fX6_10 rfl rfl ?_
        refine wp_get (q := 1) dX6_friends_39 fX6_68 rfl rfl ?_
        refine wp_iload_n dX6_friends_42 rfl rfl ?_
        obtain ⟨q5, h⟩ := h
        refine wp_iald2 (q := 2) (j := a0.toNatClampNeg) dX6_friends_43 rfl q5 rfl ?_
        refine wp_iload_n dX6_friends_44 rfl rfl ?_
        refine wp_callS (As := [.int ((S3.2.2.1 0) a0.toNatClampNeg), .int a1]) (rest := []) dX6_friends_45 mX6_has lX6_72 (by decide) rfl rfl (Nat.le_of_ble_eq_true rfl) (Nat.le_of_ble_eq_true rfl) h ?_
        rintro rv mh2 ⟨r7, S6, rfl, rfl, h⟩
        refine wp_if_eq (tgt := 55) dX6_friends_48 (by decide) (fun c => ?_) (fun c => ?_)
        · have h := h.1 c
          refine wp_iconst (v := (0 : Int32)) dX6_friends_55 (by decide) ?_
          refine wp_istore (Ms := [.ref 0, .int a0, .int a1, .int a2, .int (0 : Int32)]) dX6_friends_56 (by decide) rfl ?_
          refine wp_aload_n dX6_friends_58 rfl rfl ?_
          refine wp_get (q := 0) dX6_friends_59 fX6_10 rfl rfl ?_
          refine wp_iload_n dX6_friends_62 rfl rfl ?_
          refine wp_iload_n dX6_friends_63 rfl rfl ?_
          refine wp_iload_n dX6_friends_64 rfl rfl ?_
          refine wp_callV (q := 1) (As := [.int a0, .int a1, .int a2]) (rest := []) dX6_friends_65 mX1_befriend lX6_76 (by decide) rfl rfl rfl rfl (Nat.le_of_ble_eq_true rfl) (Nat.le_of_ble_eq_true rfl) h ?_
          rintro rv mh2 ⟨S8, rfl, rfl, h⟩
          refine wp_aload_n dX6_friends_68 rfl rfl ?_
          refine wp_get (q := 0) dX6_friends_69 fX6_28 rfl rfl ?_
          refine wp_callV (q := 15) (As := []) (rest := []) dX6_friends_72 mX5_forget lX6_59 (by decide) rfl rfl rfl rfl (Nat.le_of_ble_eq_true rfl) (Nat.le_of_ble_eq_true rfl) h ?_
          rintro rv mh2 ⟨S9, rfl, rfl, h⟩
          refine wp_iload dX6_friends_75 rfl ?_
          exact wp_iret dX6_friends_77 rfl rfl ⟨_, _, rfl, rfl, h⟩
        · have h := h.2 c
          refine wp_iconst (v := (1 : Int32)) dX6_friends_51 (by decide) ?_
          refine wp_goto (tgt := 56) dX6_friends_52 (by decide) ?_
          refine wp_istore (Ms := [.ref 0, .int a0, .int a1, .int a2, .int (1 : Int32)]) dX6_friends_56 (by decide) rfl ?_
          refine wp_aload_n dX6_friends_58 rfl rfl ?_
          refine wp_get (q := 0) dX6_friends_59 fX6_10 rfl rfl ?_
          refine wp_iload_n dX6_friends_62 rfl rfl ?_
          refine wp_iload_n dX6_friends_63 rfl rfl ?_
          refine wp_iload_n dX6_friends_64 rfl rfl ?_
          refine wp_callV (q := 1) (As := [.int a0, .int a1, .int a2]) (rest := []) dX6_friends_65 mX1_befriend lX6_76 (by decide) rfl rfl rfl rfl (Nat.le_of_ble_eq_true rfl) (Nat.le_of_ble_eq_true rfl) h ?_
          rintro rv mh2 ⟨S10, rfl, rfl, h⟩
          refine wp_aload_n dX6_friends_68 rfl rfl ?_
          refine wp_get (q := 0) dX6_friends_69 fX6_28 rfl rfl ?_
          refine wp_callV (q := 15) (As := []) (rest := []) dX6_friends_72 mX5_forget lX6_59 (by decide) rfl rfl rfl rfl (Nat.le_of_ble_eq_true rfl) (Nat.le_of_ble_eq_true rfl) h ?_
          rintro rv mh2 ⟨S11, rfl, rfl, h⟩
          refine wp_iload dX6_friends_75 rfl ?_
          exact wp_iret dX6_friends_77 rfl rfl ⟨_, _, rfl, rfl, h⟩
      · have h := h.2 c
        refine wp_sipush (v := (-1003 : Int32)) dX6_friends_31 (by decide) ?_
        exact wp_iret dX6_friends_34 rfl rfl ⟨_, _, rfl, rfl, h⟩
    · have h := h.2 c
      refine wp_sipush (v := (-1001 : Int32)) dX6_friends_22 (by decide) ?_
      exact wp_iret dX6_friends_25 rfl rfl ⟨_, _, rfl, rfl, h⟩
abbrev rX6_rule : Room := { frames := 1, cells := 0, slots := 0, locals := 20 }
abbrev wX6_rule (P : Int32 → St → Prop) (pc : Nat) (Ls stk : List Value) (S : St) : Prop := Wp cX6_rule RX6 4 rX6_rule (wFI .int P) pc Ls stk (enc S)
abbrev tX6_rule (a0 : Int32) (a1 : Int32) (S : St) (P : Int32 → St → Prop) : Prop := wX6_rule P 0 (wl_en [.ref 0, .int a0, .int a1] 4) [] S
set_option maxRecDepth 100000 in
theorem bX6_rule_0 {P : Int32 → St → Prop} {S : St} (a0 : Int32) (a1 : Int32) (h : ((a0 < 0 → P (-1002 : Int32) S) ∧ (¬ a0 < 0 → (((2 : Int32) < a0 → P (-1002 : Int32) S) ∧ (¬ (2 : Int32) < a0 → vp_in a0 3 ∧ ((a1 < (wl_lrI a0.toNatClampNeg) → P (-1002 : Int32) S) ∧ (¬ a1 < (wl_lrI a0.toNatClampNeg) → ((a1 ≤ (wl_grI a0.toNatClampNeg) → tX5_forget  (sA S 1 (upd (S.2.2.1 1) a0.toNatClampNeg a1)) (fun S2 => P ((S.2.2.1 1) a0.toNatClampNeg) S2)) ∧ (¬ a1 ≤ (wl_grI a0.toNatClampNeg) → P (-1002 : Int32) S))))))))) : tX6_rule a0 a1 S P := by
  show wX6_rule P 0 [.ref 0, .int a0, .int a1, .retAddr 0] [] S
  refine wp_iload_n dX6_rule_0 rfl rfl ?_
  refine wp_if_lt (tgt := 27) dX6_rule_1 (by decide) (fun c => ?_) (fun c => ?_)
  · have h := h.1 c
    refine wp_sipush (v := (-1002 : Int32)) dX6_rule_27 (by decide) ?_
    exact wp_iret dX6_rule_30 rfl rfl ⟨_, _, rfl, rfl, h⟩
  · have h := h.2 c
    refine wp_iload_n dX6_rule_4 rfl rfl ?_
    refine wp_iconst (v := (2 : Int32)) dX6_rule_5 (by decide) ?_
    refine wp_icmp_gt (tgt := 27) dX6_rule_6 (by decide) (fun c => ?_) (fun c => ?_)
    · have h := h.1 c
      refine wp_sipush (v := (-1002 : Int32)) dX6_rule_27 (by decide) ?_
      exact wp_iret dX6_rule_30 rfl rfl ⟨_, _, rfl, rfl, h⟩
    · have h := h.2 c
      refine wp_iload_n dX6_rule_9 rfl rfl ?_
      refine wp_gets1 dX6_rule_10 sX6_80 ?_
      refine wp_iload_n dX6_rule_13 rfl rfl ?_
      obtain ⟨q1, h⟩ := h
      refine wp_tald1 dX6_rule_14 q1 ?_
      refine wp_icmp_lt (tgt := 27) dX6_rule_15 (by decide) (fun c => ?_) (fun c => ?_)
      · have h := h.1 c
        refine wp_sipush (v := (-1002 : Int32)) dX6_rule_27 (by decide) ?_
        exact wp_iret dX6_rule_30 rfl rfl ⟨_, _, rfl, rfl, h⟩
      · have h := h.2 c
        refine wp_iload_n dX6_rule_18 rfl rfl ?_
        refine wp_gets2 dX6_rule_19 sX6_83 ?_
        refine wp_iload_n dX6_rule_22 rfl rfl ?_
        refine wp_tald2 dX6_rule_23 q1 ?_
        refine wp_icmp_le (tgt := 31) dX6_rule_24 (by decide) (fun c => ?_) (fun c => ?_)
        · have h := h.1 c
          refine wp_aload_n dX6_rule_31 rfl rfl ?_
          refine wp_get (q := 0) dX6_rule_32 fX6_10 rfl rfl ?_
          refine wp_get (q := 1) dX6_rule_35 fX6_86 rfl rfl ?_
          refine wp_iload_n dX6_rule_38 rfl rfl ?_
          refine wp_iald2 (q := 3) (j := a0.toNatClampNeg) dX6_rule_39 rfl q1 rfl ?_
          refine wp_istore_n (Ms := [.ref 0, .int a0, .int a1, .int ((S.2.2.1 1) a0.toNatClampNeg)]) dX6_rule_40 rfl (by decide) rfl ?_
          refine wp_aload_n dX6_rule_41 rfl rfl ?_
          refine wp_get (q := 0) dX6_rule_42 fX6_10 rfl rfl ?_
          refine wp_get (q := 1) dX6_rule_45 fX6_86 rfl rfl ?_
          refine wp_iload_n dX6_rule_48 rfl rfl ?_
          refine wp_iload_n dX6_rule_49 rfl rfl ?_
          refine wp_iast2 (q := 3) (j := a0.toNatClampNeg) (mh2 := enc (sA S 1 (upd (S.2.2.1 1) a0.toNatClampNeg a1))) dX6_rule_50 rfl q1 rfl (es_3 _ _) ?_
          refine wp_aload_n dX6_rule_51 rfl rfl ?_
          refine wp_get (q := 0) dX6_rule_52 fX6_28 rfl rfl ?_
          refine wp_callV (q := 15) (As := []) (rest := []) dX6_rule_55 mX5_forget lX6_59 (by decide) rfl rfl rfl rfl (Nat.le_of_ble_eq_true rfl) (Nat.le_of_ble_eq_true rfl) h ?_
          rintro rv mh2 ⟨S2, rfl, rfl, h⟩
          refine wp_iload_n dX6_rule_58 rfl rfl ?_
          exact wp_iret dX6_rule_59 rfl rfl ⟨_, _, rfl, rfl, h⟩
        · have h := h.2 c
          refine wp_sipush (v := (-1002 : Int32)) dX6_rule_27 (by decide) ?_
          exact wp_iret dX6_rule_30 rfl rfl ⟨_, _, rfl, rfl, h⟩
abbrev rX6_may : Room := { frames := 1, cells := 0, slots := 0, locals := 21 }
abbrev wX6_may (P : Int32 → St → Prop) (pc : Nat) (Ls stk : List Value) (S : St) : Prop := Wp cX6_may RX6 2 rX6_may (wFI .int P) pc Ls stk (enc S)
abbrev tX6_may (a0 : Int32) (S : St) (P : Int32 → St → Prop) : Prop := wX6_may P 0 (wl_en [.ref 0, .int a0] 2) [] S
set_option maxRecDepth 100000 in
theorem bX6_may_0 {P : Int32 → St → Prop} {S : St} (a0 : Int32) (h : tX1_holds a0 S (fun r2 S1 => ((r2 = 0 → P (-1001 : Int32) S1) ∧ (¬ r2 = 0 → tX1_mayMark a0 S1 (fun r4 S3 => P r4 S3))))) : tX6_may a0 S P := by
  show wX6_may P 0 [.ref 0, .int a0] [] S
  refine wp_aload_n dX6_may_0 rfl rfl ?_
  refine wp_get (q := 0) dX6_may_1 fX6_10 rfl rfl ?_
  refine wp_iload_n dX6_may_4 rfl rfl ?_
  refine wp_callV (q := 1) (As := [.int a0]) (rest := []) dX6_may_5 mX1_holds lX6_64 (by decide) rfl rfl rfl rfl (Nat.le_of_ble_eq_true rfl) (Nat.le_of_ble_eq_true rfl) h ?_
  rintro rv mh2 ⟨r2, S1, rfl, rfl, h⟩
  refine wp_if_eq (tgt := 22) dX6_may_8 (by decide) (fun c => ?_) (fun c => ?_)
  · have h := h.1 c
    refine wp_sipush (v := (-1001 : Int32)) dX6_may_22 (by decide) ?_
    exact wp_iret dX6_may_25 rfl rfl ⟨_, _, rfl, rfl, h⟩
  · have h := h.2 c
    refine wp_aload_n dX6_may_11 rfl rfl ?_
    refine wp_get (q := 0) dX6_may_12 fX6_10 rfl rfl ?_
    refine wp_iload_n dX6_may_15 rfl rfl ?_
    refine wp_callV (q := 1) (As := [.int a0]) (rest := []) dX6_may_16 mX1_mayMark lX6_89 (by decide) rfl rfl rfl rfl (Nat.le_of_ble_eq_true rfl) (Nat.le_of_ble_eq_true rfl) h ?_
    rintro rv mh2 ⟨r4, S3, rfl, rfl, h⟩
    refine wp_goto (tgt := 25) dX6_may_19 (by decide) ?_
    exact wp_iret dX6_may_25 rfl rfl ⟨_, _, rfl, rfl, h⟩
abbrev rX6_plan : Room := { frames := 6, cells := 0, slots := 0, locals := 141 }
abbrev wX6_plan (P : Int32 → St → Prop) (pc : Nat) (Ls stk : List Value) (S : St) : Prop := Wp cX6_plan RX6 2 rX6_plan (wFI .int P) pc Ls stk (enc S)
abbrev tX6_plan (a0 : Int32) (S : St) (P : Int32 → St → Prop) : Prop := wX6_plan P 0 (wl_en [.ref 0, .int a0] 2) [] S
set_option maxRecDepth 100000 in
theorem bX6_plan_0 {P : Int32 → St → Prop} {S : St} (a0 : Int32) (h : tX1_holds a0 S (fun r2 S1 => ((¬ r2 = 0 → tX5_isPossible  S1 (fun r4 S3 => ((r4 = 0 → P (-1003 : Int32) S3) ∧ (¬ r4 = 0 → vp_in a0 8 ∧ P ((S3.2.2.1 11) a0.toNatClampNeg) S3)))) ∧ (r2 = 0 → P (-1001 : Int32) S1)))) : tX6_plan a0 S P := by
  show wX6_plan P 0 [.ref 0, .int a0] [] S
  refine wp_aload_n dX6_plan_0 rfl rfl ?_
  refine wp_get (q := 0) dX6_plan_1 fX6_10 rfl rfl ?_
  refine wp_iload_n dX6_plan_4 rfl rfl ?_
  refine wp_callV (q := 1) (As := [.int a0]) (rest := []) dX6_plan_5 mX1_holds lX6_64 (by decide) rfl rfl rfl rfl (Nat.le_of_ble_eq_true rfl) (Nat.le_of_ble_eq_true rfl) h ?_
  rintro rv mh2 ⟨r2, S1, rfl, rfl, h⟩
  refine wp_if_ne (tgt := 15) dX6_plan_8 (by decide) (fun c => ?_) (fun c => ?_)
  · have h := h.1 c
    refine wp_aload_n dX6_plan_15 rfl rfl ?_
    refine wp_get (q := 0) dX6_plan_16 fX6_28 rfl rfl ?_
    refine wp_callV (q := 15) (As := []) (rest := []) dX6_plan_19 mX5_isPossible lX6_93 (by decide) rfl rfl rfl rfl (Nat.le_of_ble_eq_true rfl) (Nat.le_of_ble_eq_true rfl) h ?_
    rintro rv mh2 ⟨r4, S3, rfl, rfl, h⟩
    refine wp_if_eq (tgt := 37) dX6_plan_22 (by decide) (fun c => ?_) (fun c => ?_)
    · have h := h.1 c
      refine wp_sipush (v := (-1003 : Int32)) dX6_plan_37 (by decide) ?_
      exact wp_iret dX6_plan_40 rfl rfl ⟨_, _, rfl, rfl, h⟩
    · have h := h.2 c
      refine wp_aload_n dX6_plan_25 rfl rfl ?_
      refine wp_get (q := 0) dX6_plan_26 fX6_28 rfl rfl ?_
      refine wp_get (q := 15) dX6_plan_29 fX6_97 rfl rfl ?_
      refine wp_iload_n dX6_plan_32 rfl rfl ?_
      obtain ⟨q5, h⟩ := h
      refine wp_iald2 (q := 16) (j := a0.toNatClampNeg) dX6_plan_33 rfl q5 rfl ?_
      refine wp_goto (tgt := 40) dX6_plan_34 (by decide) ?_
      exact wp_iret dX6_plan_40 rfl rfl ⟨_, _, rfl, rfl, h⟩
  · have h := h.2 c
    refine wp_sipush (v := (-1001 : Int32)) dX6_plan_11 (by decide) ?_
    exact wp_iret dX6_plan_14 rfl rfl ⟨_, _, rfl, rfl, h⟩
abbrev rX6_shared : Room := { frames := 6, cells := 0, slots := 0, locals := 141 }
abbrev wX6_shared (P : Int32 → St → Prop) (pc : Nat) (Ls stk : List Value) (S : St) : Prop := Wp cX6_shared RX6 2 rX6_shared (wFI .int P) pc Ls stk (enc S)
abbrev tX6_shared (a0 : Int32) (S : St) (P : Int32 → St → Prop) : Prop := wX6_shared P 0 (wl_en [.ref 0, .int a0] 2) [] S
set_option maxRecDepth 100000 in
theorem bX6_shared_0 {P : Int32 → St → Prop} {S : St} (a0 : Int32) (h : tX1_holds a0 S (fun r2 S1 => ((¬ r2 = 0 → tX5_isPossible  S1 (fun r4 S3 => ((r4 = 0 → P (-1003 : Int32) S3) ∧ (¬ r4 = 0 → vp_in a0 8 ∧ P ((S3.2.2.1 12) a0.toNatClampNeg) S3)))) ∧ (r2 = 0 → P (-1001 : Int32) S1)))) : tX6_shared a0 S P := by
  show wX6_shared P 0 [.ref 0, .int a0] [] S
  refine wp_aload_n dX6_shared_0 rfl rfl ?_
  refine wp_get (q := 0) dX6_shared_1 fX6_10 rfl rfl ?_
  refine wp_iload_n dX6_shared_4 rfl rfl ?_
  refine wp_callV (q := 1) (As := [.int a0]) (rest := []) dX6_shared_5 mX1_holds lX6_64 (by decide) rfl rfl rfl rfl (Nat.le_of_ble_eq_true rfl) (Nat.le_of_ble_eq_true rfl) h ?_
  rintro rv mh2 ⟨r2, S1, rfl, rfl, h⟩
  refine wp_if_ne (tgt := 15) dX6_shared_8 (by decide) (fun c => ?_) (fun c => ?_)
  · have h := h.1 c
    refine wp_aload_n dX6_shared_15 rfl rfl ?_
    refine wp_get (q := 0) dX6_shared_16 fX6_28 rfl rfl ?_
    refine wp_callV (q := 15) (As := []) (rest := []) dX6_shared_19 mX5_isPossible lX6_93 (by decide) rfl rfl rfl rfl (Nat.le_of_ble_eq_true rfl) (Nat.le_of_ble_eq_true rfl) h ?_
    rintro rv mh2 ⟨r4, S3, rfl, rfl, h⟩
    refine wp_if_eq (tgt := 37) dX6_shared_22 (by decide) (fun c => ?_) (fun c => ?_)
    · have h := h.1 c
      refine wp_sipush (v := (-1003 : Int32)) dX6_shared_37 (by decide) ?_
      exact wp_iret dX6_shared_40 rfl rfl ⟨_, _, rfl, rfl, h⟩
    · have h := h.2 c
      refine wp_aload_n dX6_shared_25 rfl rfl ?_
      refine wp_get (q := 0) dX6_shared_26 fX6_28 rfl rfl ?_
      refine wp_get (q := 15) dX6_shared_29 fX6_100 rfl rfl ?_
      refine wp_iload_n dX6_shared_32 rfl rfl ?_
      obtain ⟨q5, h⟩ := h
      refine wp_iald2 (q := 17) (j := a0.toNatClampNeg) dX6_shared_33 rfl q5 rfl ?_
      refine wp_goto (tgt := 40) dX6_shared_34 (by decide) ?_
      exact wp_iret dX6_shared_40 rfl rfl ⟨_, _, rfl, rfl, h⟩
  · have h := h.2 c
    refine wp_sipush (v := (-1001 : Int32)) dX6_shared_11 (by decide) ?_
    exact wp_iret dX6_shared_14 rfl rfl ⟨_, _, rfl, rfl, h⟩
abbrev rX6_lack : Room := { frames := 6, cells := 0, slots := 0, locals := 141 }
abbrev wX6_lack (P : Int32 → St → Prop) (pc : Nat) (Ls stk : List Value) (S : St) : Prop := Wp cX6_lack RX6 1 rX6_lack (wFI .int P) pc Ls stk (enc S)
abbrev tX6_lack  (S : St) (P : Int32 → St → Prop) : Prop := wX6_lack P 0 (wl_en [.ref 0] 1) [] S
set_option maxRecDepth 100000 in
theorem bX6_lack_0 {P : Int32 → St → Prop} {S : St}  (h : tX5_isPossible  S (fun r2 S1 => ((r2 = 0 → tX5_leastLack  S1 (fun r4 S3 => P r4 S3)) ∧ (¬ r2 = 0 → P (0 : Int32) S1)))) : tX6_lack  S P := by
  show wX6_lack P 0 [.ref 0] [] S
  refine wp_aload_n dX6_lack_0 rfl rfl ?_
  refine wp_get (q := 0) dX6_lack_1 fX6_28 rfl rfl ?_
  refine wp_callV (q := 15) (As := []) (rest := []) dX6_lack_4 mX5_isPossible lX6_93 (by decide) rfl rfl rfl rfl (Nat.le_of_ble_eq_true rfl) (Nat.le_of_ble_eq_true rfl) h ?_
  rintro rv mh2 ⟨r2, S1, rfl, rfl, h⟩
  refine wp_if_eq (tgt := 14) dX6_lack_7 (by decide) (fun c => ?_) (fun c => ?_)
  · have h := h.1 c
    refine wp_aload_n dX6_lack_14 rfl rfl ?_
    refine wp_get (q := 0) dX6_lack_15 fX6_28 rfl rfl ?_
    refine wp_callV (q := 15) (As := []) (rest := []) dX6_lack_18 mX5_leastLack lX6_103 (by decide) rfl rfl rfl rfl (Nat.le_of_ble_eq_true rfl) (Nat.le_of_ble_eq_true rfl) h ?_
    rintro rv mh2 ⟨r4, S3, rfl, rfl, h⟩
    exact wp_iret dX6_lack_21 rfl rfl ⟨_, _, rfl, rfl, h⟩
  · have h := h.2 c
    refine wp_iconst (v := (0 : Int32)) dX6_lack_10 (by decide) ?_
    refine wp_goto (tgt := 21) dX6_lack_11 (by decide) ?_
    exact wp_iret dX6_lack_21 rfl rfl ⟨_, _, rfl, rfl, h⟩
abbrev rX6_parts : Room := { frames := 6, cells := 0, slots := 0, locals := 141 }
abbrev wX6_parts (P : Int32 → St → Prop) (pc : Nat) (Ls stk : List Value) (S : St) : Prop := Wp cX6_parts RX6 1 rX6_parts (wFI .int P) pc Ls stk (enc S)
abbrev tX6_parts  (S : St) (P : Int32 → St → Prop) : Prop := wX6_parts P 0 (wl_en [.ref 0] 1) [] S
set_option maxRecDepth 100000 in
theorem bX6_parts_0 {P : Int32 → St → Prop} {S : St}  (h : tX5_isPossible  S (fun r2 S1 => ((r2 = 0 → P (-1003 : Int32) S1) ∧ (¬ r2 = 0 → tX5_countParts  S1 (fun r4 S3 => P r4 S3))))) : tX6_parts  S P := by
  show wX6_parts P 0 [.ref 0] [] S
  refine wp_aload_n dX6_parts_0 rfl rfl ?_
  refine wp_get (q := 0) dX6_parts_1 fX6_28 rfl rfl ?_
  refine wp_callV (q := 15) (As := []) (rest := []) dX6_parts_4 mX5_isPossible lX6_93 (by decide) rfl rfl rfl rfl (Nat.le_of_ble_eq_true rfl) (Nat.le_of_ble_eq_true rfl) h ?_
  rintro rv mh2 ⟨r2, S1, rfl, rfl, h⟩
  refine wp_if_eq (tgt := 20) dX6_parts_7 (by decide) (fun c => ?_) (fun c => ?_)
  · have h := h.1 c
    refine wp_sipush (v := (-1003 : Int32)) dX6_parts_20 (by decide) ?_
    exact wp_iret dX6_parts_23 rfl rfl ⟨_, _, rfl, rfl, h⟩
  · have h := h.2 c
    refine wp_aload_n dX6_parts_10 rfl rfl ?_
    refine wp_get (q := 0) dX6_parts_11 fX6_28 rfl rfl ?_
    refine wp_callV (q := 15) (As := []) (rest := []) dX6_parts_14 mX5_countParts lX6_107 (by decide) rfl rfl rfl rfl (Nat.le_of_ble_eq_true rfl) (Nat.le_of_ble_eq_true rfl) h ?_
    rintro rv mh2 ⟨r4, S3, rfl, rfl, h⟩
    refine wp_goto (tgt := 23) dX6_parts_17 (by decide) ?_
    exact wp_iret dX6_parts_23 rfl rfl ⟨_, _, rfl, rfl, h⟩
abbrev rX6_mark : Room := { frames := 1, cells := 0, slots := 0, locals := 21 }
abbrev wX6_mark (P : Int32 → St → Prop) (pc : Nat) (Ls stk : List Value) (S : St) : Prop := Wp cX6_mark RX6 5 rX6_mark (wFI .int P) pc Ls stk (enc S)
abbrev tX6_mark (a0 : Int32) (a1 : Int32) (a2 : Int32) (S : St) (P : Int32 → St → Prop) : Prop := wX6_mark P 0 (wl_en [.ref 0, .int a0, .int a1, .int a2] 5) [] S
set_option maxRecDepth 100000 in
theorem bX6_mark_0 {P : Int32 → St → Prop} {S : St} (a0 : Int32) (a1 : Int32) (a2 : Int32) (h : tX1_holds a0 S (fun r2 S1 => ((r2 = 0 → P (-1001 : Int32) S1) ∧ (¬ r2 = 0 → tX1_holds a1 S1 (fun r4 S3 => ((¬ r4 = 0 → ((a2 < (-1 : Int32) → P (-1002 : Int32) S3) ∧ (¬ a2 < (-1 : Int32) → ((a2 ≤ (100 : Int32) → ((¬ a0 = a1 → vp_in a0 8 ∧ vp_in a1 8 ∧ tX4_forget  (sA S3 (2 + a0.toNatClampNeg) (upd (S3.2.2.1 (2 + a0.toNatClampNeg)) a1.toNatClampNeg a2)) (fun S7 => tX3_forget  S7 (fun S8 => P ((S3.2.2.1 (2 + a0.toNatClampNeg)) a1.toNatClampNeg) S8))) ∧ (a0 = a1 → P (-1003 : Int32) S3))) ∧ (¬ a2 ≤ (100 : Int32) → P (-1002 : Int32) S3))))) ∧ (r4 = 0 → P (-1001 : Int32) S3))))))) : tX6_mark a0 a1 a2 S P := by
  show wX6_mark P 0 [.ref 0, .int a0, .int a1, .int a2, .retAddr 0] [] S
  refine wp_aload_n dX6_mark_0 rfl rfl ?_
  refine wp_get (q := 0) dX6_mark_1 fX6_10 rfl rfl ?_
  refine wp_iload_n dX6_mark_4 rfl rfl ?_
  refine wp_callV (q := 1) (As := [.int a0]) (rest := []) dX6_mark_5 mX1_holds lX6_64 (by decide) rfl rfl rfl rfl (Nat.le_of_ble_eq_true rfl) (Nat.le_of_ble_eq_true rfl) h ?_
  rintro rv mh2 ⟨r2, S1, rfl, rfl, h⟩
  refine wp_if_eq (tgt := 22) dX6_mark_8 (by decide) (fun c => ?_) (fun c => ?_)
  · have h := h.1 c
    refine wp_sipush (v := (-1001 : Int32)) dX6_mark_22 (by decide) ?_
    exact wp_iret dX6_mark_25 rfl rfl ⟨_, _, rfl, rfl, h⟩
  · have h := h.2 c
    refine wp_aload_n dX6_mark_11 rfl rfl ?_
    refine wp_get (q := 0) dX6_mark_12 fX6_10 rfl rfl ?_
    refine wp_iload_n dX6_mark_15 rfl rfl ?_
    refine wp_callV (q := 1) (As := [.int a1]) (rest := []) dX6_mark_16 mX1_holds lX6_64 (by decide) rfl rfl rfl rfl (Nat.le_of_ble_eq_true rfl) (Nat.le_of_ble_eq_true rfl) h ?_
    rintro rv mh2 ⟨r4, S3, rfl, rfl, h⟩
    refine wp_if_ne (tgt := 26) dX6_mark_19 (by decide) (fun c => ?_) (fun c => ?_)
    · have h := h.1 c
      refine wp_iload_n dX6_mark_26 rfl rfl ?_
      refine wp_iconst (v := (-1 : Int32)) dX6_mark_27 (by decide) ?_
      refine wp_icmp_lt (tgt := 37) dX6_mark_28 (by decide) (fun c => ?_) (fun c => ?_)
      · have h := h.1 c
        refine wp_sipush (v := (-1002 : Int32)) dX6_mark_37 (by decide) ?_
        exact wp_iret dX6_mark_40 rfl rfl ⟨_, _, rfl, rfl, h⟩
      · have h := h.2 c
        refine wp_iload_n dX6_mark_31 rfl rfl ?_
        refine wp_bipush (v := (100 : Int32)) dX6_mark_32 (by decide) ?_
        refine wp_icmp_le (tgt := 41) dX6_mark_34 (by decide) (fun c => ?_) (fun c => ?_)
        · have h := h.1 c
          refine wp_iload_n dX6_mark_41 rfl rfl ?_
          refine wp_iload_n dX6_mark_42 rfl rfl ?_
          refine wp_icmp_ne (tgt := 50) dX6_mark_43 (by decide) (fun c => ?_) (fun c => ?_)
          · have h := h.1 c
            refine wp_aload_n dX6_mark_50 rfl rfl ?_
            refine wp_get (q := 0) dX6_mark_51 fX6_21 rfl rfl ?_
            refine wp_get (q := 4) dX6_mark_54 fX6_110 rfl rfl ?_
            refine wp_iload_n dX6_mark_57 rfl rfl ?_
            obtain ⟨q5, h⟩ := h
            refine wp_aald (q := 5) dX6_mark_58 rfl rfl q5 (encR q5) ?_
            refine wp_iload_n dX6_mark_59 rfl rfl ?_
            obtain ⟨q6, h⟩ := h
            refine wp_iald2 (j := a1.toNatClampNeg) dX6_mark_60 (encG _ q5) q6 rfl ?_
            refine wp_istore (Ms := [.ref 0, .int a0, .int a1, .int a2, .int ((S3.2.2.1 (2 + a0.toNatClampNeg)) a1.toNatClampNeg)]) dX6_mark_61 (by decide) rfl ?_
            refine wp_aload_n dX6_mark_63 rfl rfl ?_
            refine wp_get (q := 0) dX6_mark_64 fX6_21 rfl rfl ?_
            refine wp_get (q := 4) dX6_mark_67 fX6_110 rfl rfl ?_
            refine wp_iload_n dX6_mark_70 rfl rfl ?_
            refine wp_aald (q := 5) dX6_mark_71 rfl rfl q5 (encR q5) ?_
            refine wp_iload_n dX6_mark_72 rfl rfl ?_
            refine wp_iload_n dX6_mark_73 rfl rfl ?_
            refine wp_iast2 (j := a1.toNatClampNeg) (mh2 := enc (sA S3 (2 + a0.toNatClampNeg) (upd (S3.2.2.1 (2 + a0.toNatClampNeg)) a1.toNatClampNeg a2))) dX6_mark_74 (encG _ q5) q6 rfl (encGs _ q5 _) ?_
            refine wp_aload_n dX6_mark_75 rfl rfl ?_
            refine wp_get (q := 0) dX6_mark_76 fX6_37 rfl rfl ?_
            refine wp_callV (q := 20) (As := []) (rest := []) dX6_mark_79 mX4_forget lX6_62 (by decide) rfl rfl rfl rfl (Nat.le_of_ble_eq_true rfl) (Nat.le_of_ble_eq_true rfl) h ?_
            rintro rv mh2 ⟨S7, rfl, rfl, h⟩
            refine wp_aload_n dX6_mark_82 rfl rfl ?_
            refine wp_get (q := 0) dX6_mark_83 fX6_44 rfl rfl ?_
            refine wp_callV (q := 41) (As := []) (rest := []) dX6_mark_86 mX3_forget lX6_63 (by decide) rfl rfl rfl rfl (Nat.le_of_ble_eq_true rfl) (Nat.le_of_ble_eq_true rfl) h ?_
            rintro rv mh2 ⟨S8, rfl, rfl, h⟩
            refine wp_iload dX6_mark_89 rfl ?_
            exact wp_iret dX6_mark_91 rfl rfl ⟨_, _, rfl, rfl, h⟩
          · have h := h.2 c
            refine wp_sipush (v := (-1003 : Int32)) dX6_mark_46 (by decide) ?_
            exact wp_iret dX6_mark_49 rfl rfl ⟨_, _, rfl, rfl, h⟩
        · have h := h.2 c
          refine wp_sipush (v := (-1002 : Int32)) dX6_mark_37 (by decide) ?_
          exact wp_iret dX6_mark_40 rfl rfl ⟨_, _, rfl, rfl, h⟩
    · have h := h.2 c
      refine wp_sipush (v := (-1001 : Int32)) dX6_mark_22 (by decide) ?_
      exact wp_iret dX6_mark_25 rfl rfl ⟨_, _, rfl, rfl, h⟩
abbrev rX6_staff : Room := { frames := 1, cells := 0, slots := 0, locals := 21 }
abbrev wX6_staff (P : Int32 → St → Prop) (pc : Nat) (Ls stk : List Value) (S : St) : Prop := Wp cX6_staff RX6 4 rX6_staff (wFI .int P) pc Ls stk (enc S)
abbrev tX6_staff (a0 : Int32) (a1 : Int32) (S : St) (P : Int32 → St → Prop) : Prop := wX6_staff P 0 (wl_en [.ref 0, .int a0, .int a1] 4) [] S
set_option maxRecDepth 100000 in
theorem bX6_staff_0 {P : Int32 → St → Prop} {S : St} (a0 : Int32) (a1 : Int32) (h : tX1_holds a0 S (fun r2 S1 => ((¬ r2 = 0 → ((a1 < (-1 : Int32) → P (-1002 : Int32) S1) ∧ (¬ a1 < (-1 : Int32) → ((a1 ≤ (100 : Int32) → vp_in a0 8 ∧ tX4_forget  (sA S1 10 (upd (S1.2.2.1 10) a0.toNatClampNeg a1)) (fun S4 => P ((S1.2.2.1 10) a0.toNatClampNeg) S4)) ∧ (¬ a1 ≤ (100 : Int32) → P (-1002 : Int32) S1))))) ∧ (r2 = 0 → P (-1001 : Int32) S1)))) : tX6_staff a0 a1 S P := by
  show wX6_staff P 0 [.ref 0, .int a0, .int a1, .retAddr 0] [] S
  refine wp_aload_n dX6_staff_0 rfl rfl ?_
  refine wp_get (q := 0) dX6_staff_1 fX6_10 rfl rfl ?_
  refine wp_iload_n dX6_staff_4 rfl rfl ?_
  refine wp_callV (q := 1) (As := [.int a0]) (rest := []) dX6_staff_5 mX1_holds lX6_64 (by decide) rfl rfl rfl rfl (Nat.le_of_ble_eq_true rfl) (Nat.le_of_ble_eq_true rfl) h ?_
  rintro rv mh2 ⟨r2, S1, rfl, rfl, h⟩
  refine wp_if_ne (tgt := 15) dX6_staff_8 (by decide) (fun c => ?_) (fun c => ?_)
  · have h := h.1 c
    refine wp_iload_n dX6_staff_15 rfl rfl ?_
    refine wp_iconst (v := (-1 : Int32)) dX6_staff_16 (by decide) ?_
    refine wp_icmp_lt (tgt := 26) dX6_staff_17 (by decide) (fun c => ?_) (fun c => ?_)
    · have h := h.1 c
      refine wp_sipush (v := (-1002 : Int32)) dX6_staff_26 (by decide) ?_
      exact wp_iret dX6_staff_29 rfl rfl ⟨_, _, rfl, rfl, h⟩
    · have h := h.2 c
      refine wp_iload_n dX6_staff_20 rfl rfl ?_
      refine wp_bipush (v := (100 : Int32)) dX6_staff_21 (by decide) ?_
      refine wp_icmp_le (tgt := 30) dX6_staff_23 (by decide) (fun c => ?_) (fun c => ?_)
      · have h := h.1 c
        refine wp_aload_n dX6_staff_30 rfl rfl ?_
        refine wp_get (q := 0) dX6_staff_31 fX6_21 rfl rfl ?_
        refine wp_get (q := 4) dX6_staff_34 fX6_114 rfl rfl ?_
        refine wp_iload_n dX6_staff_37 rfl rfl ?_
        obtain ⟨q3, h⟩ := h
        refine wp_iald2 (q := 14) (j := a0.toNatClampNeg) dX6_staff_38 rfl q3 rfl ?_
        refine wp_istore_n (Ms := [.ref 0, .int a0, .int a1, .int ((S1.2.2.1 10) a0.toNatClampNeg)]) dX6_staff_39 rfl (by decide) rfl ?_
        refine wp_aload_n dX6_staff_40 rfl rfl ?_
        refine wp_get (q := 0) dX6_staff_41 fX6_21 rfl rfl ?_
        refine wp_get (q := 4) dX6_staff_44 fX6_114 rfl rfl ?_
        refine wp_iload_n dX6_staff_47 rfl rfl ?_
        refine wp_iload_n dX6_staff_48 rfl rfl ?_
        refine wp_iast2 (q := 14) (j := a0.toNatClampNeg) (mh2 := enc (sA S1 10 (upd (S1.2.2.1 10) a0.toNatClampNeg a1))) dX6_staff_49 rfl q3 rfl (es_14 _ _) ?_
        refine wp_aload_n dX6_staff_50 rfl rfl ?_
        refine wp_get (q := 0) dX6_staff_51 fX6_37 rfl rfl ?_
        refine wp_callV (q := 20) (As := []) (rest := []) dX6_staff_54 mX4_forget lX6_62 (by decide) rfl rfl rfl rfl (Nat.le_of_ble_eq_true rfl) (Nat.le_of_ble_eq_true rfl) h ?_
        rintro rv mh2 ⟨S4, rfl, rfl, h⟩
        refine wp_iload_n dX6_staff_57 rfl rfl ?_
        exact wp_iret dX6_staff_58 rfl rfl ⟨_, _, rfl, rfl, h⟩
      · have h := h.2 c
        refine wp_sipush (v := (-1002 : Int32)) dX6_staff_26 (by decide) ?_
        exact wp_iret dX6_staff_29 rfl rfl ⟨_, _, rfl, rfl, h⟩
  · have h := h.2 c
    refine wp_sipush (v := (-1001 : Int32)) dX6_staff_11 (by decide) ?_
    exact wp_iret dX6_staff_14 rfl rfl ⟨_, _, rfl, rfl, h⟩
abbrev rX6_count : Room := { frames := 5, cells := 0, slots := 0, locals := 114 }
abbrev wX6_count (P : Int32 → St → Prop) (pc : Nat) (Ls stk : List Value) (S : St) : Prop := Wp cX6_count RX6 2 rX6_count (wFI .int P) pc Ls stk (enc S)
abbrev tX6_count (a0 : Int32) (S : St) (P : Int32 → St → Prop) : Prop := wX6_count P 0 (wl_en [.ref 0, .int a0] 2) [] S
set_option maxRecDepth 100000 in
theorem bX6_count_0 {P : Int32 → St → Prop} {S : St} (a0 : Int32) (h : ((a0.toInt < 0 ∨ 6 < a0.toInt → P (-1002 : Int32) S) ∧ (a0.toInt = 0 → P (S.1 0) S) ∧ (a0.toInt = 1 → tX2_howManyMarks  S (fun r2 S1 => P r2 S1)) ∧ (a0.toInt = 2 → tX2_howManyByStaff  S (fun r4 S3 => P r4 S3)) ∧ (a0.toInt = 3 → tX4_howMany  S (fun r6 S5 => P r6 S5)) ∧ (a0.toInt = 4 → tX4_howManyLarge  S (fun r8 S7 => P r8 S7)) ∧ (a0.toInt = 5 → tX2_howManyAppealed  S (fun r10 S9 => P r10 S9)) ∧ (a0.toInt = 6 → tX1_pairsOfFriends  S (fun r12 S11 => P r12 S11)))) : tX6_count a0 S P := by
  show wX6_count P 0 [.ref 0, .int a0] [] S
  refine wp_iload_n dX6_count_0 rfl rfl ?_
  by_cases hb : a0.toInt < 0 ∨ 6 < a0.toInt
  · have h := h.1 hb
    refine wp_tableOut (tgt := 100) dX6_count_1 hb (by decide) ?_
    refine wp_sipush (v := (-1002 : Int32)) dX6_count_100 (by decide) ?_
    exact wp_iret dX6_count_103 rfl rfl ⟨_, _, rfl, rfl, h⟩
  · have h := h.2
    have hx : a0.toInt = 0 ∨ a0.toInt = 1 ∨ a0.toInt = 2 ∨ a0.toInt = 3 ∨ a0.toInt = 4 ∨ a0.toInt = 5 ∨ a0.toInt = 6 := by omega
    rcases hx with hx | hx | hx | hx | hx | hx | hx
    · have h := h.1 hx
      refine wp_tableIn (off := 43) (tgt := 44) dX6_count_1 (by omega) (by omega) (by rw [hx]; rfl) (by decide) ?_
      refine wp_aload_n dX6_count_44 rfl rfl ?_
      refine wp_get (q := 0) dX6_count_45 fX6_10 rfl rfl ?_
      refine wp_get (q := 1) dX6_count_48 fX6_48 rfl rfl ?_
      exact wp_iret dX6_count_51 rfl rfl ⟨_, _, rfl, rfl, h⟩
    · have h := h.2.1 hx
      refine wp_tableIn (off := 51) (tgt := 52) dX6_count_1 (by omega) (by omega) (by rw [hx]; rfl) (by decide) ?_
      refine wp_aload_n dX6_count_52 rfl rfl ?_
      refine wp_get (q := 0) dX6_count_53 fX6_21 rfl rfl ?_
      refine wp_callV (q := 4) (As := []) (rest := []) dX6_count_56 mX2_howManyMarks lX6_117 (by decide) rfl rfl rfl rfl (Nat.le_of_ble_eq_true rfl) (Nat.le_of_ble_eq_true rfl) h ?_
      rintro rv mh2 ⟨r2, S1, rfl, rfl, h⟩
      exact wp_iret dX6_count_59 rfl rfl ⟨_, _, rfl, rfl, h⟩
    · have h := h.2.2.1 hx
      refine wp_tableIn (off := 59) (tgt := 60) dX6_count_1 (by omega) (by omega) (by rw [hx]; rfl) (by decide) ?_
      refine wp_aload_n dX6_count_60 rfl rfl ?_
      refine wp_get (q := 0) dX6_count_61 fX6_21 rfl rfl ?_
      refine wp_callV (q := 4) (As := []) (rest := []) dX6_count_64 mX2_howManyByStaff lX6_120 (by decide) rfl rfl rfl rfl (Nat.le_of_ble_eq_true rfl) (Nat.le_of_ble_eq_true rfl) h ?_
      rintro rv mh2 ⟨r4, S3, rfl, rfl, h⟩
      exact wp_iret dX6_count_67 rfl rfl ⟨_, _, rfl, rfl, h⟩
    · have h := h.2.2.2.1 hx
      refine wp_tableIn (off := 67) (tgt := 68) dX6_count_1 (by omega) (by omega) (by rw [hx]; rfl) (by decide) ?_
      refine wp_aload_n dX6_count_68 rfl rfl ?_
      refine wp_get (q := 0) dX6_count_69 fX6_37 rfl rfl ?_
      refine wp_callV (q := 20) (As := []) (rest := []) dX6_count_72 mX4_howMany lX6_123 (by decide) rfl rfl rfl rfl (Nat.le_of_ble_eq_true rfl) (Nat.le_of_ble_eq_true rfl) h ?_
      rintro rv mh2 ⟨r6, S5, rfl, rfl, h⟩
      exact wp_iret dX6_count_75 rfl rfl ⟨_, _, rfl, rfl, h⟩
    · have h := h.2.2.2.2.1 hx
      refine wp_tableIn (off := 75) (tgt := 76) dX6_count_1 (by omega) (by omega) (by rw [hx]; rfl) (by decide) ?_
      refine wp_aload_n dX6_count_76 rfl rfl ?_
      refine wp_get (q := 0) dX6_count_77 fX6_37 rfl rfl ?_
      refine wp_callV (q := 20) (As := []) (rest := []) dX6_count_80 mX4_howManyLarge lX6_126 (by decide) rfl rfl rfl rfl (Nat.le_of_ble_eq_true rfl) (Nat.le_of_ble_eq_true rfl) h ?_
      rintro rv mh2 ⟨r8, S7, rfl, rfl, h⟩
      exact wp_iret dX6_count_83 rfl rfl ⟨_, _, rfl, rfl, h⟩
    · have h := h.2.2.2.2.2.1 hx
      refine wp_tableIn (off := 83) (tgt := 84) dX6_count_1 (by omega) (by omega) (by rw [hx]; rfl) (by decide) ?_
      refine wp_aload_n dX6_count_84 rfl rfl ?_
      refine wp_get (q := 0) dX6_count_85 fX6_21 rfl rfl ?_
      refine wp_callV (q := 4) (As := []) (rest := []) dX6_count_88 mX2_howManyAppealed lX6_129 (by decide) rfl rfl rfl rfl (Nat.le_of_ble_eq_true rfl) (Nat.le_of_ble_eq_true rfl) h ?_
      rintro rv mh2 ⟨r10, S9, rfl, rfl, h⟩
      exact wp_iret dX6_count_91 rfl rfl ⟨_, _, rfl, rfl, h⟩
    · have h := h.2.2.2.2.2.2 hx
      refine wp_tableIn (off := 91) (tgt := 92) dX6_count_1 (by omega) (by omega) (by rw [hx]; rfl) (by decide) ?_
      refine wp_aload_n dX6_count_92 rfl rfl ?_
      refine wp_get (q := 0) dX6_count_93 fX6_10 rfl rfl ?_
      refine wp_callV (q := 1) (As := []) (rest := []) dX6_count_96 mX1_pairsOfFriends lX6_132 (by decide) rfl rfl rfl rfl (Nat.le_of_ble_eq_true rfl) (Nat.le_of_ble_eq_true rfl) h ?_
      rintro rv mh2 ⟨r12, S11, rfl, rfl, h⟩
      exact wp_iret dX6_count_99 rfl rfl ⟨_, _, rfl, rfl, h⟩
abbrev rX6_piece : Room := { frames := 5, cells := 0, slots := 0, locals := 113 }
abbrev wX6_piece (P : Int32 → St → Prop) (pc : Nat) (Ls stk : List Value) (S : St) : Prop := Wp cX6_piece RX6 3 rX6_piece (wFI .int P) pc Ls stk (enc S)
abbrev tX6_piece (a0 : Int32) (a1 : Int32) (S : St) (P : Int32 → St → Prop) : Prop := wX6_piece P 0 (wl_en [.ref 0, .int a0, .int a1] 3) [] S
set_option maxRecDepth 100000 in
theorem bX6_piece_0 {P : Int32 → St → Prop} {S : St} (a0 : Int32) (a1 : Int32) (h : tX1_holds a0 S (fun r2 S1 => ((¬ r2 = 0 → ((a1 = 0 → ((¬ a1 = 0 → tX4_ofMarker a0 S1 (fun r4 S3 => P r4 S3)) ∧ (a1 = 0 → tX4_ofWork a0 S1 (fun r6 S5 => P r6 S5)))) ∧ (¬ a1 = 0 → ((a1 = (1 : Int32) → ((¬ a1 = 0 → tX4_ofMarker a0 S1 (fun r8 S7 => P r8 S7)) ∧ (a1 = 0 → tX4_ofWork a0 S1 (fun r10 S9 => P r10 S9)))) ∧ (¬ a1 = (1 : Int32) → P (-1002 : Int32) S1))))) ∧ (r2 = 0 → P (-1001 : Int32) S1)))) : tX6_piece a0 a1 S P := by
  show wX6_piece P 0 [.ref 0, .int a0, .int a1] [] S
  refine wp_aload_n dX6_piece_0 rfl rfl ?_
  refine wp_get (q := 0) dX6_piece_1 fX6_10 rfl rfl ?_
  refine wp_iload_n dX6_piece_4 rfl rfl ?_
  refine wp_callV (q := 1) (As := [.int a0]) (rest := []) dX6_piece_5 mX1_holds lX6_64 (by decide) rfl rfl rfl rfl (Nat.le_of_ble_eq_true rfl) (Nat.le_of_ble_eq_true rfl) h ?_
  rintro rv mh2 ⟨r2, S1, rfl, rfl, h⟩
  refine wp_if_ne (tgt := 15) dX6_piece_8 (by decide) (fun c => ?_) (fun c => ?_)
  · have h := h.1 c
    refine wp_iload_n dX6_piece_15 rfl rfl ?_
    refine wp_if_eq (tgt := 28) dX6_piece_16 (by decide) (fun c => ?_) (fun c => ?_)
    · have h := h.1 c
      refine wp_iload_n dX6_piece_28 rfl rfl ?_
      refine wp_if_ne (tgt := 43) dX6_piece_29 (by decide) (fun c => ?_) (fun c => ?_)
      · have h := h.1 c
        refine wp_aload_n dX6_piece_43 rfl rfl ?_
        refine wp_get (q := 0) dX6_piece_44 fX6_37 rfl rfl ?_
        refine wp_iload_n dX6_piece_47 rfl rfl ?_
        refine wp_callV (q := 20) (As := [.int a0]) (rest := []) dX6_piece_48 mX4_ofMarker lX6_138 (by decide) rfl rfl rfl rfl (Nat.le_of_ble_eq_true rfl) (Nat.le_of_ble_eq_true rfl) h ?_
        rintro rv mh2 ⟨r4, S3, rfl, rfl, h⟩
        exact wp_iret dX6_piece_51 rfl rfl ⟨_, _, rfl, rfl, h⟩
      · have h := h.2 c
        refine wp_aload_n dX6_piece_32 rfl rfl ?_
        refine wp_get (q := 0) dX6_piece_33 fX6_37 rfl rfl ?_
        refine wp_iload_n dX6_piece_36 rfl rfl ?_
        refine wp_callV (q := 20) (As := [.int a0]) (rest := []) dX6_piece_37 mX4_ofWork lX6_135 (by decide) rfl rfl rfl rfl (Nat.le_of_ble_eq_true rfl) (Nat.le_of_ble_eq_true rfl) h ?_
        rintro rv mh2 ⟨r6, S5, rfl, rfl, h⟩
        refine wp_goto (tgt := 51) dX6_piece_40 (by decide) ?_
        exact wp_iret dX6_piece_51 rfl rfl ⟨_, _, rfl, rfl, h⟩
    · have h := h.2 c
      refine wp_iload_n dX6_piece_19 rfl rfl ?_
      refine wp_iconst (v := (1 : Int32)) dX6_piece_20 (by decide) ?_
      refine wp_icmp_eq (tgt := 28) dX6_piece_21 (by decide) (fun c => ?_) (fun c => ?_)
      · have h := h.1 c
        refine wp_iload_n dX6_piece_28 rfl rfl ?_
        refine wp_if_ne (tgt := 43) dX6_piece_29 (by decide) (fun c => ?_) (fun c => ?_)
        · have h := h.1 c
          refine wp_aload_n dX6_piece_43 rfl rfl ?_
          refine wp_get (q := 0) dX6_piece_44 fX6_37 rfl rfl ?_
          refine wp_iload_n dX6_piece_47 rfl rfl ?_
          refine wp_callV (q := 20) (As := [.int a0]) (rest := []) dX6_piece_48 mX4_ofMarker lX6_138 (by decide) rfl rfl rfl rfl (Nat.le_of_ble_eq_true rfl) (Nat.le_of_ble_eq_true rfl) h ?_
          rintro rv mh2 ⟨r8, S7, rfl, rfl, h⟩
          exact wp_iret dX6_piece_51 rfl rfl ⟨_, _, rfl, rfl, h⟩
        · have h := h.2 c
          refine wp_aload_n dX6_piece_32 rfl rfl ?_
          refine wp_get (q := 0) dX6_piece_33 fX6_37 rfl rfl ?_
          refine wp_iload_n dX6_piece_36 rfl rfl ?_
          refine wp_callV (q := 20) (As := [.int a0]) (rest := []) dX6_piece_37 mX4_ofWork lX6_135 (by decide) rfl rfl rfl rfl (Nat.le_of_ble_eq_true rfl) (Nat.le_of_ble_eq_true rfl) h ?_
          rintro rv mh2 ⟨r10, S9, rfl, rfl, h⟩
          refine wp_goto (tgt := 51) dX6_piece_40 (by decide) ?_
          exact wp_iret dX6_piece_51 rfl rfl ⟨_, _, rfl, rfl, h⟩
      · have h := h.2 c
        refine wp_sipush (v := (-1002 : Int32)) dX6_piece_24 (by decide) ?_
        exact wp_iret dX6_piece_27 rfl rfl ⟨_, _, rfl, rfl, h⟩
  · have h := h.2 c
    refine wp_sipush (v := (-1001 : Int32)) dX6_piece_11 (by decide) ?_
    exact wp_iret dX6_piece_14 rfl rfl ⟨_, _, rfl, rfl, h⟩
abbrev rX6_commonDivisor : Room := { frames := 0, cells := 0, slots := 0, locals := 0 }
abbrev wX6_commonDivisor (P : Int64 → St → Prop) (pc : Nat) (Ls stk : List Value) (S : St) : Prop := Wp cX6_commonDivisor RX6 7 rX6_commonDivisor (wFL P) pc Ls stk (enc S)
abbrev tX6_commonDivisor (a0 : Int64) (a1 : Int64) (S : St) (P : Int64 → St → Prop) : Prop := wX6_commonDivisor P 0 (wl_en [.long a0, .long a1] 7) [] S
set_option maxRecDepth 100000 in
theorem bX6_commonDivisor_0 {P : Int64 → St → Prop} {S : St} (a0 : Int64) (a1 : Int64) (h : wX6_commonDivisor P 3 [.long a0, .retAddr 0, .long a1, .retAddr 0, .int (0 : Int32), .retAddr 0, .retAddr 0] [] S) : tX6_commonDivisor a0 a1 S P := by
  show wX6_commonDivisor P 0 [.long a0, .retAddr 0, .long a1, .retAddr 0, .retAddr 0, .retAddr 0, .retAddr 0] [] S
  refine wp_iconst (v := (0 : Int32)) dX6_commonDivisor_0 (by decide) ?_
  refine wp_istore (Ms := [.long a0, .retAddr 0, .long a1, .retAddr 0, .int (0 : Int32), .retAddr 0, .retAddr 0]) dX6_commonDivisor_1 (by decide) rfl ?_
  exact wp_le (Ms := [.long a0, .retAddr 0, .long a1, .retAddr 0, .int (0 : Int32), .retAddr 0, .retAddr 0]) ⟨Or.inr rfl, Or.inl rfl, Or.inr rfl, Or.inl rfl, Or.inr rfl, Or.inl rfl, Or.inl rfl, trivial⟩ h
set_option maxRecDepth 100000 in
theorem bX6_commonDivisor_3 {P : Int64 → St → Prop} {S : St} (x0 : Int64) (x2 : Int64) (x4 : Int32) (h : (((128 : Int32) ≤ x4 → P x0 S) ∧ (¬ (128 : Int32) ≤ x4 → (((lg_cmp x2 (0 : Int64)) = 0 → P x0 S) ∧ (¬ (lg_cmp x2 (0 : Int64)) = 0 → ¬ x2 = 0 ∧ wX6_commonDivisor P 3 [.long x2, .retAddr 0, .long (x0 - x0 / x2 * x2), .retAddr 0, .int (x4 + (1 : Int32)), .retAddr 0, .retAddr 0] [] S))))) : wX6_commonDivisor P 3 [.long x0, .retAddr 0, .long x2, .retAddr 0, .int x4, .retAddr 0, .retAddr 0] [] S := by
  refine wp_iload dX6_commonDivisor_3 rfl ?_
  refine wp_sipush (v := (128 : Int32)) dX6_commonDivisor_5 (by decide) ?_
  refine wp_icmp_ge (tgt := 33) dX6_commonDivisor_8 (by decide) (fun c => ?_) (fun c => ?_)
  · have h := h.1 c
    refine wp_lload_n dX6_commonDivisor_33 rfl rfl ?_
    exact wp_lret dX6_commonDivisor_34 rfl ⟨_, _, rfl, rfl, h⟩
  · have h := h.2 c
    refine wp_lload_n dX6_commonDivisor_11 rfl rfl ?_
    refine wp_lconst (v := (0 : Int64)) dX6_commonDivisor_12 (by decide) ?_
    refine wp_lcmp dX6_commonDivisor_13 ?_
    refine wp_if_eq (tgt := 33) dX6_commonDivisor_14 (by decide) (fun c => ?_) (fun c => ?_)
    · have h := h.1 c
      refine wp_lload_n dX6_commonDivisor_33 rfl rfl ?_
      exact wp_lret dX6_commonDivisor_34 rfl ⟨_, _, rfl, rfl, h⟩
    · have h := h.2 c
      refine wp_lload_n dX6_commonDivisor_17 rfl rfl ?_
      refine wp_lload_n dX6_commonDivisor_18 rfl rfl ?_
      obtain ⟨q1, h⟩ := h
      refine wp_lrem dX6_commonDivisor_19 q1 ?_
      refine wp_lstore (Ms := [.long x0, .retAddr 0, .long x2, .retAddr 0, .int x4, .long (x0 - x0 / x2 * x2), .retAddr 0]) dX6_commonDivisor_20 (by decide) rfl ?_
      refine wp_lload_n dX6_commonDivisor_22 rfl rfl ?_
      refine wp_lstore_n (Ms := [.long x2, .retAddr 0, .long x2, .retAddr 0, .int x4, .long (x0 - x0 / x2 * x2), .retAddr 0]) dX6_commonDivisor_23 rfl (by decide) rfl ?_
      refine wp_lload dX6_commonDivisor_24 rfl ?_
      refine wp_lstore_n (Ms := [.long x2, .retAddr 0, .long (x0 - x0 / x2 * x2), .retAddr 0, .int x4, .long (x0 - x0 / x2 * x2), .retAddr 0]) dX6_commonDivisor_26 rfl (by decide) rfl ?_
      refine wp_iinc (Ms := [.long x2, .retAddr 0, .long (x0 - x0 / x2 * x2), .retAddr 0, .int (x4 + (1 : Int32)), .long (x0 - x0 / x2 * x2), .retAddr 0]) (v := x4 + (1 : Int32)) dX6_commonDivisor_27 rfl rfl (by decide) rfl ?_
      refine wp_goto (tgt := 3) dX6_commonDivisor_30 (by decide) ?_
      exact wp_le (Ms := [.long x2, .retAddr 0, .long (x0 - x0 / x2 * x2), .retAddr 0, .int (x4 + (1 : Int32)), .retAddr 0, .retAddr 0]) ⟨Or.inr rfl, Or.inl rfl, Or.inr rfl, Or.inl rfl, Or.inr rfl, Or.inl rfl, Or.inl rfl, trivial⟩ h
abbrev rX6_inLeastTerms : Room := { frames := 1, cells := 0, slots := 0, locals := 26 }
abbrev wX6_inLeastTerms (P : Int64 → St → Prop) (pc : Nat) (Ls stk : List Value) (S : St) : Prop := Wp cX6_inLeastTerms RX6 7 rX6_inLeastTerms (wFL P) pc Ls stk (enc S)
abbrev tX6_inLeastTerms (a0 : Int64) (a1 : Int64) (a2 : Int32) (S : St) (P : Int64 → St → Prop) : Prop := wX6_inLeastTerms P 0 (wl_en [.long a0, .long a1, .int a2] 7) [] S
set_option maxRecDepth 100000 in
theorem bX6_inLeastTerms_0 {P : Int64 → St → Prop} {S : St} (a0 : Int64) (a1 : Int64) (a2 : Int32) (h : tX6_commonDivisor (if 0 < a0 then a0 else -a0) a1 S (fun r2 S1 => ((¬ (lg_cmp r2 (0 : Int64)) = 0 → ((¬ a2 = 0 → ¬ r2 = 0 ∧ P (a1 / r2) S1) ∧ (a2 = 0 → ¬ r2 = 0 ∧ P (a0 / r2) S1))) ∧ ((lg_cmp r2 (0 : Int64)) = 0 → P (-1003 : Int64) S1)))) : tX6_inLeastTerms a0 a1 a2 S P := by
  show wX6_inLeastTerms P 0 [.long a0, .retAddr 0, .long a1, .retAddr 0, .int a2, .retAddr 0, .retAddr 0] [] S
  refine wp_lload_n dX6_inLeastTerms_0 rfl rfl ?_
  refine wp_mabsl dX6_inLeastTerms_1 lX6_192 (by decide) (Nat.le_of_ble_eq_true rfl) ?_
  refine wp_lload_n dX6_inLeastTerms_4 rfl rfl ?_
  refine wp_callS (As := [.long (if 0 < a0 then a0 else -a0), .long a1]) (rest := []) dX6_inLeastTerms_5 mX6_commonDivisor lX6_198 (by decide) rfl rfl (Nat.le_of_ble_eq_true rfl) (Nat.le_of_ble_eq_true rfl) h ?_
  rintro rv mh2 ⟨r2, S1, rfl, rfl, h⟩
  refine wp_lstore (Ms := [.long a0, .retAddr 0, .long a1, .retAddr 0, .int a2, .long r2, .retAddr 0]) dX6_inLeastTerms_8 (by decide) rfl ?_
  refine wp_lload dX6_inLeastTerms_10 rfl ?_
  refine wp_lconst (v := (0 : Int64)) dX6_inLeastTerms_12 (by decide) ?_
  refine wp_lcmp dX6_inLeastTerms_13 ?_
  refine wp_if_ne (tgt := 21) dX6_inLeastTerms_14 (by decide) (fun c => ?_) (fun c => ?_)
  · have h := h.1 c
    refine wp_iload dX6_inLeastTerms_21 rfl ?_
    refine wp_if_ne (tgt := 33) dX6_inLeastTerms_23 (by decide) (fun c => ?_) (fun c => ?_)
    · have h := h.1 c
      refine wp_lload_n dX6_inLeastTerms_33 rfl rfl ?_
      refine wp_lload dX6_inLeastTerms_34 rfl ?_
      obtain ⟨q3, h⟩ := h
      refine wp_ldiv dX6_inLeastTerms_36 q3 ?_
      exact wp_lret dX6_inLeastTerms_37 rfl ⟨_, _, rfl, rfl, h⟩
    · have h := h.2 c
      refine wp_lload_n dX6_inLeastTerms_26 rfl rfl ?_
      refine wp_lload dX6_inLeastTerms_27 rfl ?_
      obtain ⟨q4, h⟩ := h
      refine wp_ldiv dX6_inLeastTerms_29 q4 ?_
      refine wp_goto (tgt := 37) dX6_inLeastTerms_30 (by decide) ?_
      exact wp_lret dX6_inLeastTerms_37 rfl ⟨_, _, rfl, rfl, h⟩
  · have h := h.2 c
    refine wp_ldc2 dX6_inLeastTerms_17 kX6_145 ?_
    exact wp_lret dX6_inLeastTerms_20 rfl ⟨_, _, rfl, rfl, h⟩
abbrev rX6_worth : Room := { frames := 6, cells := 0, slots := 0, locals := 131 }
abbrev wX6_worth (P : Int64 → St → Prop) (pc : Nat) (Ls stk : List Value) (S : St) : Prop := Wp cX6_worth RX6 4 rX6_worth (wFL P) pc Ls stk (enc S)
abbrev tX6_worth (a0 : Int32) (a1 : Int32) (S : St) (P : Int64 → St → Prop) : Prop := wX6_worth P 0 (wl_en [.ref 0, .int a0, .int a1] 4) [] S
set_option maxRecDepth 100000 in
theorem bX6_worth_0 {P : Int64 → St → Prop} {S : St} (a0 : Int32) (a1 : Int32) (h : tX1_holds a0 S (fun r2 S1 => ((¬ r2 = 0 → ((a1 = 0 → tX4_ofWork a0 S1 (fun r4 S3 => ((¬ r4 = (-1 : Int32) → tX4_isTold r4 S3 (fun r6 S5 => ((r6 = 0 → P (-1003 : Int64) S5) ∧ (¬ r6 = 0 → vp_in a0 8 ∧ vp_in r4 8 ∧ tX6_inLeastTerms ((S5.2.2.2 1) a0.toNatClampNeg) ((S5.2.2.2 0) r4.toNatClampNeg) a1 S5 (fun r10 S9 => P r10 S9))))) ∧ (r4 = (-1 : Int32) → vp_in a0 8 ∧ ((¬ ((S3.2.2.1 10) a0.toNatClampNeg) = (-1 : Int32) → tX6_inLeastTerms (((S3.2.2.1 10) a0.toNatClampNeg).toInt64) (1 : Int64) a1 S3 (fun r13 S12 => P r13 S12)) ∧ (((S3.2.2.1 10) a0.toNatClampNeg) = (-1 : Int32) → P (-1003 : Int64) S3)))))) ∧ (¬ a1 = 0 → ((a1 = (1 : Int32) → tX4_ofWork a0 S1 (fun r15 S14 => ((¬ r15 = (-1 : Int32) → tX4_isTold r15 S14 (fun r17 S16 => ((r17 = 0 → P (-1003 : Int64) S16) ∧ (¬ r17 = 0 → vp_in a0 8 ∧ vp_in r15 8 ∧ tX6_inLeastTerms ((S16.2.2.2 1) a0.toNatClampNeg) ((S16.2.2.2 0) r15.toNatClampNeg) a1 S16 (fun r21 S20 => P r21 S20))))) ∧ (r15 = (-1 : Int32) → vp_in a0 8 ∧ ((¬ ((S14.2.2.1 10) a0.toNatClampNeg) = (-1 : Int32) → tX6_inLeastTerms (((S14.2.2.1 10) a0.toNatClampNeg).toInt64) (1 : Int64) a1 S14 (fun r24 S23 => P r24 S23)) ∧ (((S14.2.2.1 10) a0.toNatClampNeg) = (-1 : Int32) → P (-1003 : Int64) S14)))))) ∧ (¬ a1 = (1 : Int32) → P (-1002 : Int64) S1))))) ∧ (r2 = 0 → P (-1001 : Int64) S1)))) : tX6_worth a0 a1 S P := by
  show wX6_worth P 0 [.ref 0, .int a0, .int a1, .retAddr 0] [] S
  refine wp_aload_n dX6_worth_0 rfl rfl ?_
  refine wp_get (q := 0) dX6_worth_1 fX6_10 rfl rfl ?_
  refine wp_iload_n dX6_worth_4 rfl rfl ?_
  refine wp_callV (q := 1) (As := [.int a0]) (rest := []) dX6_worth_5 mX1_holds lX6_64 (by decide) rfl rfl rfl rfl (Nat.le_of_ble_eq_true rfl) (Nat.le_of_ble_eq_true rfl) h ?_
  rintro rv mh2 ⟨r2, S1, rfl, rfl, h⟩
  refine wp_if_ne (tgt := 15) dX6_worth_8 (by decide) (fun c => ?_) (fun c => ?_)
  · have h := h.1 c
    refine wp_iload_n dX6_worth_15 rfl rfl ?_
    refine wp_if_eq (tgt := 28) dX6_worth_16 (by decide) (fun c => ?_) (fun c => ?_)
    · have h := h.1 c
      refine wp_aload_n dX6_worth_28 rfl rfl ?_
      refine wp_get (q := 0) dX6_worth_29 fX6_37 rfl rfl ?_
      refine wp_iload_n dX6_worth_32 rfl rfl ?_
      refine wp_callV (q := 20) (As := [.int a0]) (rest := []) dX6_worth_33 mX4_ofWork lX6_135 (by decide) rfl rfl rfl rfl (Nat.le_of_ble_eq_true rfl) (Nat.le_of_ble_eq_true rfl) h ?_
      rintro rv mh2 ⟨r4, S3, rfl, rfl, h⟩
      refine wp_istore_n (Ms := [.ref 0, .int a0, .int a1, .int r4]) dX6_worth_36 rfl (by decide) rfl ?_
      refine wp_iload_n dX6_worth_37 rfl rfl ?_
      refine wp_iconst (v := (-1 : Int32)) dX6_worth_38 (by decide) ?_
      refine wp_icmp_ne (tgt := 77) dX6_worth_39 (by decide) (fun c => ?_) (fun c => ?_)
      · have h := h.1 c
        refine wp_aload_n dX6_worth_77 rfl rfl ?_
        refine wp_get (q := 0) dX6_worth_78 fX6_37 rfl rfl ?_
        refine wp_iload_n dX6_worth_81 rfl rfl ?_
        refine wp_callV (q := 20) (As := [.int r4]) (rest := []) dX6_worth_82 mX4_isTold lX6_151 (by decide) rfl rfl rfl rfl (Nat.le_of_ble_eq_true rfl) (Nat.le_of_ble_eq_true rfl) h ?_
        rintro rv mh2 ⟨r6, S5, rfl, rfl, h⟩
        refine wp_if_eq (tgt := 113) dX6_worth_85 (by decide) (fun c => ?_) (fun c => ?_)
        · have h := h.1 c
          refine wp_ldc2 dX6_worth_113 kX6_145 ?_
          exact wp_lret dX6_worth_116 rfl ⟨_, _, rfl, rfl, h⟩
        · have h := h.2 c
          refine wp_aload_n dX6_worth_88 rfl rfl ?_
          refine wp_get (q := 0) dX6_worth_89 fX6_37 rfl rfl ?_
          refine wp_get (q := 20) dX6_worth_92 fX6_154 rfl rfl ?_
          refine wp_iload_n dX6_worth_95 rfl rfl ?_
          obtain ⟨q7, h⟩ := h
          refine wp_lald2 (q := 37) (j := a0.toNatClampNeg) dX6_worth_96 rfl q7 rfl ?_
          refine wp_aload_n dX6_worth_97 rfl rfl ?_
          refine wp_get (q := 0) dX6_worth_98 fX6_37 rfl rfl ?_
          refine wp_get (q := 20) dX6_worth_101 fX6_158 rfl rfl ?_
          refine wp_iload_n dX6_worth_104 rfl rfl ?_
          obtain ⟨q8, h⟩ := h
          refine wp_lald2 (q := 36) (j := r4.toNatClampNeg) dX6_worth_105 rfl q8 rfl ?_
          refine wp_iload_n dX6_worth_106 rfl rfl ?_
          refine wp_callS (As := [.long ((S5.2.2.2 1) a0.toNatClampNeg), .long ((S5.2.2.2 0) r4.toNatClampNeg), .int a1]) (rest := []) dX6_worth_107 mX6_inLeastTerms lX6_147 (by decide) rfl rfl (Nat.le_of_ble_eq_true rfl) (Nat.le_of_ble_eq_true rfl) h ?_
          rintro rv mh2 ⟨r10, S9, rfl, rfl, h⟩
          refine wp_goto (tgt := 116) dX6_worth_110 (by decide) ?_
          exact wp_lret dX6_worth_116 rfl ⟨_, _, rfl, rfl, h⟩
      · have h := h.2 c
        refine wp_aload_n dX6_worth_42 rfl rfl ?_
        refine wp_get (q := 0) dX6_worth_43 fX6_21 rfl rfl ?_
        refine wp_get (q := 4) dX6_worth_46 fX6_114 rfl rfl ?_
        refine wp_iload_n dX6_worth_49 rfl rfl ?_
        obtain ⟨q11, h⟩ := h
        refine wp_iald2 (q := 14) (j := a0.toNatClampNeg) dX6_worth_50 rfl q11 rfl ?_
        refine wp_iconst (v := (-1 : Int32)) dX6_worth_51 (by decide) ?_
        refine wp_icmp_ne (tgt := 61) dX6_worth_52 (by decide) (fun c => ?_) (fun c => ?_)
        · have h := h.1 c
          refine wp_aload_n dX6_worth_61 rfl rfl ?_
          refine wp_get (q := 0) dX6_worth_62 fX6_21 rfl rfl ?_
          refine wp_get (q := 4) dX6_worth_65 fX6_114 rfl rfl ?_
          refine wp_iload_n dX6_worth_68 rfl rfl ?_
          refine wp_iald2 (q := 14) (j := a0.toNatClampNeg) dX6_worth_69 rfl q11 rfl ?_
          refine wp_i2l dX6_worth_70 ?_
          refine wp_lconst (v := (1 : Int64)) dX6_worth_71 (by decide) ?_
          refine wp_iload_n dX6_worth_72 rfl rfl ?_
          refine wp_callS (As := [.long (((S3.2.2.1 10) a0.toNatClampNeg).toInt64), .long (1 : Int64), .int a1]) (rest := []) dX6_worth_73 mX6_inLeastTerms lX6_147 (by decide) rfl rfl (Nat.le_of_ble_eq_true rfl) (Nat.le_of_ble_eq_true rfl) h ?_
          rintro rv mh2 ⟨r13, S12, rfl, rfl, h⟩
          exact wp_lret dX6_worth_76 rfl ⟨_, _, rfl, rfl, h⟩
        · have h := h.2 c
          refine wp_ldc2 dX6_worth_55 kX6_145 ?_
          refine wp_goto (tgt := 76) dX6_worth_58 (by decide) ?_
          exact wp_lret dX6_worth_76 rfl ⟨_, _, rfl, rfl, h⟩
    · have h := h.2 c
      refine wp_iload_n dX6_worth_19 rfl rfl ?_
      refine wp_iconst (v := (1 : Int32)) dX6_worth_20 (by decide) ?_
      refine wp_icmp_eq (tgt := 28) dX6_worth_21 (by decide) (fun c => ?_) (fun c => ?_)
      · have h := h.1 c
        refine wp_aload_n dX6_worth_28 rfl rfl ?_
        refine wp_get (q := 0) dX6_worth_29 fX6_37 rfl rfl ?_
        refine wp_iload_n dX6_worth_32 rfl rfl ?_
        refine wp_callV (q := 20) (As := [.int a0]) (rest := []) dX6_worth_33 mX4_ofWork lX6_135 (by decide) rfl rfl rfl rfl (Nat.le_of_ble_eq_true rfl) (Nat.le_of_ble_eq_true rfl) h ?_
        rintro rv mh2 ⟨r15, S14, rfl, rfl, h⟩
        refine wp_istore_n (Ms := [.ref 0, .int a0, .int a1, .int r15]) dX6_worth_36 rfl (by decide) rfl ?_
        refine wp_iload_n dX6_worth_37 rfl rfl ?_
        refine wp_iconst (v := (-1 : Int32)) dX6_worth_38 (by decide) ?_
        refine wp_icmp_ne (tgt := 77) dX6_worth_39 (by decide) (fun c => ?_) (fun c => ?_)
        · have h := h.1 c
          refine wp_aload_n dX6_worth_77 rfl rfl ?_
          refine wp_get (q := 0) dX6_worth_78 fX6_37 rfl rfl ?_
          refine wp_iload_n dX6_worth_81 rfl rfl ?_
          refine wp_callV (q := 20) (As := [.int r15]) (rest := []) dX6_worth_82 mX4_isTold lX6_151 (by decide) rfl rfl rfl rfl (Nat.le_of_ble_eq_true rfl) (Nat.le_of_ble_eq_true rfl) h ?_
          rintro rv mh2 ⟨r17, S16, rfl, rfl, h⟩
          refine wp_if_eq (tgt := 113) dX6_worth_85 (by decide) (fun c => ?_) (fun c => ?_)
          · have h := h.1 c
            refine wp_ldc2 dX6_worth_113 kX6_145 ?_
            exact wp_lret dX6_worth_116 rfl ⟨_, _, rfl, rfl, h⟩
          · have h := h.2 c
            refine wp_aload_n dX6_worth_88 rfl rfl ?_
            refine wp_get (q := 0) dX6_worth_89 fX6_37 rfl rfl ?_
            refine wp_get (q := 20) dX6_worth_92 fX6_154 rfl rfl ?_
            refine wp_iload_n dX6_worth_95 rfl rfl ?_
            obtain ⟨q18, h⟩ := h
            refine wp_lald2 (q := 37) (j := a0.toNatClampNeg) dX6_worth_96 rfl q18 rfl ?_
            refine wp_aload_n dX6_worth_97 rfl rfl ?_
            refine wp_get (q := 0) dX6_worth_98 fX6_37 rfl rfl ?_
            refine wp_get (q := 20) dX6_worth_101 fX6_158 rfl rfl ?_
            refine wp_iload_n dX6_worth_104 rfl rfl ?_
            obtain ⟨q19, h⟩ := h
            refine wp_lald2 (q := 36) (j := r15.toNatClampNeg) dX6_worth_105 rfl q19 rfl ?_
            refine wp_iload_n dX6_worth_106 rfl rfl ?_
            refine wp_callS (As := [.long ((S16.2.2.2 1) a0.toNatClampNeg), .long ((S16.2.2.2 0) r15.toNatClampNeg), .int a1]) (rest := []) dX6_worth_107 mX6_inLeastTerms lX6_147 (by decide) rfl rfl (Nat.le_of_ble_eq_true rfl) (Nat.le_of_ble_eq_true rfl) h ?_
            rintro rv mh2 ⟨r21, S20, rfl, rfl, h⟩
            refine wp_goto (tgt := 116) dX6_worth_110 (by decide) ?_
            exact wp_lret dX6_worth_116 rfl ⟨_, _, rfl, rfl, h⟩
        · have h := h.2 c
          refine wp_aload_n dX6_worth_42 rfl rfl ?_
          refine wp_get (q := 0) dX6_worth_43 fX6_21 rfl rfl ?_
          refine wp_get (q := 4) dX6_worth_46 fX6_114 rfl rfl ?_
          refine wp_iload_n dX6_worth_49 rfl rfl ?_
          obtain ⟨q22, h⟩ := h
          refine wp_iald2 (q := 14) (j := a0.toNatClampNeg) dX6_worth_50 rfl q22 rfl ?_
          refine wp_iconst (v := (-1 : Int32)) dX6_worth_51 (by decide) ?_
          refine wp_icmp_ne (tgt := 61) dX6_worth_52 (by decide) (fun c => ?_) (fun c => ?_)
          · have h := h.1 c
            refine wp_aload_n dX6_worth_61 rfl rfl ?_
            refine wp_get (q := 0) dX6_worth_62 fX6_21 rfl rfl ?_
            refine wp_get (q := 4) dX6_worth_65 fX6_114 rfl rfl ?_
            refine wp_iload_n dX6_worth_68 rfl rfl ?_
            refine wp_iald2 (q := 14) (j := a0.toNatClampNeg) dX6_worth_69 rfl q22 rfl ?_
            refine wp_i2l dX6_worth_70 ?_
            refine wp_lconst (v := (1 : Int64)) dX6_worth_71 (by decide) ?_
            refine wp_iload_n dX6_worth_72 rfl rfl ?_
            refine wp_callS (As := [.long (((S14.2.2.1 10) a0.toNatClampNeg).toInt64), .long (1 : Int64), .int a1]) (rest := []) dX6_worth_73 mX6_inLeastTerms lX6_147 (by decide) rfl rfl (Nat.le_of_ble_eq_true rfl) (Nat.le_of_ble_eq_true rfl) h ?_
            rintro rv mh2 ⟨r24, S23, rfl, rfl, h⟩
            exact wp_lret dX6_worth_76 rfl ⟨_, _, rfl, rfl, h⟩
          · have h := h.2 c
            refine wp_ldc2 dX6_worth_55 kX6_145 ?_
            refine wp_goto (tgt := 76) dX6_worth_58 (by decide) ?_
            exact wp_lret dX6_worth_76 rfl ⟨_, _, rfl, rfl, h⟩
      · have h := h.2 c
        refine wp_ldc2 dX6_worth_24 kX6_143 ?_
        exact wp_lret dX6_worth_27 rfl ⟨_, _, rfl, rfl, h⟩
  · have h := h.2 c
    refine wp_ldc2 dX6_worth_11 kX6_141 ?_
    exact wp_lret dX6_worth_14 rfl ⟨_, _, rfl, rfl, h⟩
abbrev rX6_lean : Room := { frames := 6, cells := 0, slots := 0, locals := 131 }
abbrev wX6_lean (P : Int64 → St → Prop) (pc : Nat) (Ls stk : List Value) (S : St) : Prop := Wp cX6_lean RX6 4 rX6_lean (wFL P) pc Ls stk (enc S)
abbrev tX6_lean (a0 : Int32) (a1 : Int32) (S : St) (P : Int64 → St → Prop) : Prop := wX6_lean P 0 (wl_en [.ref 0, .int a0, .int a1] 4) [] S
set_option maxRecDepth 100000 in
theorem bX6_lean_0 {P : Int64 → St → Prop} {S : St} (a0 : Int32) (a1 : Int32) (h : tX1_holds a0 S (fun r2 S1 => ((¬ r2 = 0 → ((a1 = 0 → tX4_ofMarker a0 S1 (fun r4 S3 => ((r4 = (-1 : Int32) → P (-1003 : Int64) S3) ∧ (¬ r4 = (-1 : Int32) → tX4_isTold r4 S3 (fun r6 S5 => ((¬ r6 = 0 → vp_in a0 8 ∧ vp_in r4 8 ∧ tX6_inLeastTerms ((S5.2.2.2 2) a0.toNatClampNeg) ((S5.2.2.2 0) r4.toNatClampNeg) a1 S5 (fun r10 S9 => P r10 S9)) ∧ (r6 = 0 → P (-1003 : Int64) S5))))))) ∧ (¬ a1 = 0 → ((a1 = (1 : Int32) → tX4_ofMarker a0 S1 (fun r12 S11 => ((r12 = (-1 : Int32) → P (-1003 : Int64) S11) ∧ (¬ r12 = (-1 : Int32) → tX4_isTold r12 S11 (fun r14 S13 => ((¬ r14 = 0 → vp_in a0 8 ∧ vp_in r12 8 ∧ tX6_inLeastTerms ((S13.2.2.2 2) a0.toNatClampNeg) ((S13.2.2.2 0) r12.toNatClampNeg) a1 S13 (fun r18 S17 => P r18 S17)) ∧ (r14 = 0 → P (-1003 : Int64) S13))))))) ∧ (¬ a1 = (1 : Int32) → P (-1002 : Int64) S1))))) ∧ (r2 = 0 → P (-1001 : Int64) S1)))) : tX6_lean a0 a1 S P := by
  show wX6_lean P 0 [.ref 0, .int a0, .int a1, .retAddr 0] [] S
  refine wp_aload_n dX6_lean_0 rfl rfl ?_
  refine wp_get (q := 0) dX6_lean_1 fX6_10 rfl rfl ?_
  refine wp_iload_n dX6_lean_4 rfl rfl ?_
  refine wp_callV (q := 1) (As := [.int a0]) (rest := []) dX6_lean_5 mX1_holds lX6_64 (by decide) rfl rfl rfl rfl (Nat.le_of_ble_eq_true rfl) (Nat.le_of_ble_eq_true rfl) h ?_
  rintro rv mh2 ⟨r2, S1, rfl, rfl, h⟩
  refine wp_if_ne (tgt := 15) dX6_lean_8 (by decide) (fun c => ?_) (fun c => ?_)
  · have h := h.1 c
    refine wp_iload_n dX6_lean_15 rfl rfl ?_
    refine wp_if_eq (tgt := 28) dX6_lean_16 (by decide) (fun c => ?_) (fun c => ?_)
    · have h := h.1 c
      refine wp_aload_n dX6_lean_28 rfl rfl ?_
      refine wp_get (q := 0) dX6_lean_29 fX6_37 rfl rfl ?_
      refine wp_iload_n dX6_lean_32 rfl rfl ?_
      refine wp_callV (q := 20) (As := [.int a0]) (rest := []) dX6_lean_33 mX4_ofMarker lX6_138 (by decide) rfl rfl rfl rfl (Nat.le_of_ble_eq_true rfl) (Nat.le_of_ble_eq_true rfl) h ?_
      rintro rv mh2 ⟨r4, S3, rfl, rfl, h⟩
      refine wp_istore_n (Ms := [.ref 0, .int a0, .int a1, .int r4]) dX6_lean_36 rfl (by decide) rfl ?_
      refine wp_iload_n dX6_lean_37 rfl rfl ?_
      refine wp_iconst (v := (-1 : Int32)) dX6_lean_38 (by decide) ?_
      refine wp_icmp_eq (tgt := 53) dX6_lean_39 (by decide) (fun c => ?_) (fun c => ?_)
      · have h := h.1 c
        refine wp_ldc2 dX6_lean_53 kX6_145 ?_
        exact wp_lret dX6_lean_56 rfl ⟨_, _, rfl, rfl, h⟩
      · have h := h.2 c
        refine wp_aload_n dX6_lean_42 rfl rfl ?_
        refine wp_get (q := 0) dX6_lean_43 fX6_37 rfl rfl ?_
        refine wp_iload_n dX6_lean_46 rfl rfl ?_
        refine wp_callV (q := 20) (As := [.int r4]) (rest := []) dX6_lean_47 mX4_isTold lX6_151 (by decide) rfl rfl rfl rfl (Nat.le_of_ble_eq_true rfl) (Nat.le_of_ble_eq_true rfl) h ?_
        rintro rv mh2 ⟨r6, S5, rfl, rfl, h⟩
        refine wp_if_ne (tgt := 57) dX6_lean_50 (by decide) (fun c => ?_) (fun c => ?_)
        · have h := h.1 c
          refine wp_aload_n dX6_lean_57 rfl rfl ?_
          refine wp_get (q := 0) dX6_lean_58 fX6_37 rfl rfl ?_
          refine wp_get (q := 20) dX6_lean_61 fX6_161 rfl rfl ?_
          refine wp_iload_n dX6_lean_64 rfl rfl ?_
          obtain ⟨q7, h⟩ := h
          refine wp_lald2 (q := 38) (j := a0.toNatClampNeg) dX6_lean_65 rfl q7 rfl ?_
          refine wp_aload_n dX6_lean_66 rfl rfl ?_
          refine wp_get (q := 0) dX6_lean_67 fX6_37 rfl rfl ?_
          refine wp_get (q := 20) dX6_lean_70 fX6_158 rfl rfl ?_
          refine wp_iload_n dX6_lean_73 rfl rfl ?_
          obtain ⟨q8, h⟩ := h
          refine wp_lald2 (q := 36) (j := r4.toNatClampNeg) dX6_lean_74 rfl q8 rfl ?_
          refine wp_iload_n dX6_lean_75 rfl rfl ?_
          refine wp_callS (As := [.long ((S5.2.2.2 2) a0.toNatClampNeg), .long ((S5.2.2.2 0) r4.toNatClampNeg), .int a1]) (rest := []) dX6_lean_76 mX6_inLeastTerms lX6_147 (by decide) rfl rfl (Nat.le_of_ble_eq_true rfl) (Nat.le_of_ble_eq_true rfl) h ?_
          rintro rv mh2 ⟨r10, S9, rfl, rfl, h⟩
          exact wp_lret dX6_lean_79 rfl ⟨_, _, rfl, rfl, h⟩
        · have h := h.2 c
          refine wp_ldc2 dX6_lean_53 kX6_145 ?_
          exact wp_lret dX6_lean_56 rfl ⟨_, _, rfl, rfl, h⟩
    · have h := h.2 c
      refine wp_iload_n dX6_lean_19 rfl rfl ?_
      refine wp_iconst (v := (1 : Int32)) dX6_lean_20 (by decide) ?_
      refine wp_icmp_eq (tgt := 28) dX6_lean_21 (by decide) (fun c => ?_) (fun c => ?_)
      · have h := h.1 c
        refine wp_aload_n dX6_lean_28 rfl rfl ?_
        refine wp_get (q := 0) dX6_lean_29 fX6_37 rfl rfl ?_
        refine wp_iload_n dX6_lean_32 rfl rfl ?_
        refine wp_callV (q := 20) (As := [.int a0]) (rest := []) dX6_lean_33 mX4_ofMarker lX6_138 (by decide) rfl rfl rfl rfl (Nat.le_of_ble_eq_true rfl) (Nat.le_of_ble_eq_true rfl) h ?_
        rintro rv mh2 ⟨r12, S11, rfl, rfl, h⟩
        refine wp_istore_n (Ms := [.ref 0, .int a0, .int a1, .int r12]) dX6_lean_36 rfl (by decide) rfl ?_
        refine wp_iload_n dX6_lean_37 rfl rfl ?_
        refine wp_iconst (v := (-1 : Int32)) dX6_lean_38 (by decide) ?_
        refine wp_icmp_eq (tgt := 53) dX6_lean_39 (by decide) (fun c => ?_) (fun c => ?_)
        · have h := h.1 c
          refine wp_ldc2 dX6_lean_53 kX6_145 ?_
          exact wp_lret dX6_lean_56 rfl ⟨_, _, rfl, rfl, h⟩
        · have h := h.2 c
          refine wp_aload_n dX6_lean_42 rfl rfl ?_
          refine wp_get (q := 0) dX6_lean_43 fX6_37 rfl rfl ?_
          refine wp_iload_n dX6_lean_46 rfl rfl ?_
          refine wp_callV (q := 20) (As := [.int r12]) (rest := []) dX6_lean_47 mX4_isTold lX6_151 (by decide) rfl rfl rfl rfl (Nat.le_of_ble_eq_true rfl) (Nat.le_of_ble_eq_true rfl) h ?_
          rintro rv mh2 ⟨r14, S13, rfl, rfl, h⟩
          refine wp_if_ne (tgt := 57) dX6_lean_50 (by decide) (fun c => ?_) (fun c => ?_)
          · have h := h.1 c
            refine wp_aload_n dX6_lean_57 rfl rfl ?_
            refine wp_get (q := 0) dX6_lean_58 fX6_37 rfl rfl ?_
            refine wp_get (q := 20) dX6_lean_61 fX6_161 rfl rfl ?_
            refine wp_iload_n dX6_lean_64 rfl rfl ?_
            obtain ⟨q15, h⟩ := h
            refine wp_lald2 (q := 38) (j := a0.toNatClampNeg) dX6_lean_65 rfl q15 rfl ?_
            refine wp_aload_n dX6_lean_66 rfl rfl ?_
            refine wp_get (q := 0) dX6_lean_67 fX6_37 rfl rfl ?_
            refine wp_get (q := 20) dX6_lean_70 fX6_158 rfl rfl ?_
            refine wp_iload_n dX6_lean_73 rfl rfl ?_
            obtain ⟨q16, h⟩ := h
            refine wp_lald2 (q := 36) (j := r12.toNatClampNeg) dX6_lean_74 rfl q16 rfl ?_
            refine wp_iload_n dX6_lean_75 rfl rfl ?_
            refine wp_callS (As := [.long ((S13.2.2.2 2) a0.toNatClampNeg), .long ((S13.2.2.2 0) r12.toNatClampNeg), .int a1]) (rest := []) dX6_lean_76 mX6_inLeastTerms lX6_147 (by decide) rfl rfl (Nat.le_of_ble_eq_true rfl) (Nat.le_of_ble_eq_true rfl) h ?_
            rintro rv mh2 ⟨r18, S17, rfl, rfl, h⟩
            exact wp_lret dX6_lean_79 rfl ⟨_, _, rfl, rfl, h⟩
          · have h := h.2 c
            refine wp_ldc2 dX6_lean_53 kX6_145 ?_
            exact wp_lret dX6_lean_56 rfl ⟨_, _, rfl, rfl, h⟩
      · have h := h.2 c
        refine wp_ldc2 dX6_lean_24 kX6_143 ?_
        exact wp_lret dX6_lean_27 rfl ⟨_, _, rfl, rfl, h⟩
  · have h := h.2 c
    refine wp_ldc2 dX6_lean_11 kX6_141 ?_
    exact wp_lret dX6_lean_14 rfl ⟨_, _, rfl, rfl, h⟩
abbrev rX6_left : Room := { frames := 6, cells := 0, slots := 0, locals := 131 }
abbrev wX6_left (P : Int64 → St → Prop) (pc : Nat) (Ls stk : List Value) (S : St) : Prop := Wp cX6_left RX6 8 rX6_left (wFL P) pc Ls stk (enc S)
abbrev tX6_left (a0 : Int32) (a1 : Int32) (a2 : Int32) (S : St) (P : Int64 → St → Prop) : Prop := wX6_left P 0 (wl_en [.ref 0, .int a0, .int a1, .int a2] 8) [] S
set_option maxRecDepth 100000 in
theorem bX6_left_0 {P : Int64 → St → Prop} {S : St} (a0 : Int32) (a1 : Int32) (a2 : Int32) (h : tX1_holds a0 S (fun r2 S1 => ((r2 = 0 → P (-1001 : Int64) S1) ∧ (¬ r2 = 0 → tX1_holds a1 S1 (fun r4 S3 => ((¬ r4 = 0 → ((a2 = 0 → vp_in a0 8 ∧ vp_in a1 8 ∧ tX4_ofWork a1 S3 (fun r8 S7 => ((((S3.2.2.1 (2 + a0.toNatClampNeg)) a1.toNatClampNeg) = (-1 : Int32) → P (-1003 : Int64) S7) ∧ (¬ ((S3.2.2.1 (2 + a0.toNatClampNeg)) a1.toNatClampNeg) = (-1 : Int32) → ((r8 = (-1 : Int32) → P (-1003 : Int64) S7) ∧ (¬ r8 = (-1 : Int32) → tX4_isTold r8 S7 (fun r10 S9 => ((¬ r10 = 0 → vp_in r8 8 ∧ tX6_inLeastTerms ((((((S3.2.2.1 (2 + a0.toNatClampNeg)) a1.toNatClampNeg).toInt64) * ((S9.2.2.2 0) r8.toNatClampNeg)) - ((S9.2.2.2 1) a1.toNatClampNeg)) - ((S9.2.2.2 2) a0.toNatClampNeg)) ((S9.2.2.2 0) r8.toNatClampNeg) a2 S9 (fun r13 S12 => P r13 S12)) ∧ (r10 = 0 → P (-1003 : Int64) S9))))))))) ∧ (¬ a2 = 0 → ((a2 = (1 : Int32) → vp_in a0 8 ∧ vp_in a1 8 ∧ tX4_ofWork a1 S3 (fun r17 S16 => ((((S3.2.2.1 (2 + a0.toNatClampNeg)) a1.toNatClampNeg) = (-1 : Int32) → P (-1003 : Int64) S16) ∧ (¬ ((S3.2.2.1 (2 + a0.toNatClampNeg)) a1.toNatClampNeg) = (-1 : Int32) → ((r17 = (-1 : Int32) → P (-1003 : Int64) S16) ∧ (¬ r17 = (-1 : Int32) → tX4_isTold r17 S16 (fun r19 S18 => ((¬ r19 = 0 → vp_in r17 8 ∧ tX6_inLeastTerms ((((((S3.2.2.1 (2 + a0.toNatClampNeg)) a1.toNatClampNeg).toInt64) * ((S18.2.2.2 0) r17.toNatClampNeg)) - ((S18.2.2.2 1) a1.toNatClampNeg)) - ((S18.2.2.2 2) a0.toNatClampNeg)) ((S18.2.2.2 0) r17.toNatClampNeg) a2 S18 (fun r22 S21 => P r22 S21)) ∧ (r19 = 0 → P (-1003 : Int64) S18))))))))) ∧ (¬ a2 = (1 : Int32) → P (-1002 : Int64) S3))))) ∧ (r4 = 0 → P (-1001 : Int64) S3))))))) : tX6_left a0 a1 a2 S P := by
  show wX6_left P 0 [.ref 0, .int a0, .int a1, .int a2, .retAddr 0, .retAddr 0, .retAddr 0, .retAddr 0] [] S
  refine wp_aload_n dX6_left_0 rfl rfl ?_
  refine wp_get (q := 0) dX6_left_1 fX6_10 rfl rfl ?_
  refine wp_iload_n dX6_left_4 rfl rfl ?_
  refine wp_callV (q := 1) (As := [.int a0]) (rest := []) dX6_left_5 mX1_holds lX6_64 (by decide) rfl rfl rfl rfl (Nat.le_of_ble_eq_true rfl) (Nat.le_of_ble_eq_true rfl) h ?_
  rintro rv mh2 ⟨r2, S1, rfl, rfl, h⟩
  refine wp_if_eq (tgt := 22) dX6_left_8 (by decide) (fun c => ?_) (fun c => ?_)
  · have h := h.1 c
    refine wp_ldc2 dX6_left_22 kX6_141 ?_
    exact wp_lret dX6_left_25 rfl ⟨_, _, rfl, rfl, h⟩
  · have h := h.2 c
    refine wp_aload_n dX6_left_11 rfl rfl ?_
    refine wp_get (q := 0) dX6_left_12 fX6_10 rfl rfl ?_
    refine wp_iload_n dX6_left_15 rfl rfl ?_
    refine wp_callV (q := 1) (As := [.int a1]) (rest := []) dX6_left_16 mX1_holds lX6_64 (by decide) rfl rfl rfl rfl (Nat.le_of_ble_eq_true rfl) (Nat.le_of_ble_eq_true rfl) h ?_
    rintro rv mh2 ⟨r4, S3, rfl, rfl, h⟩
    refine wp_if_ne (tgt := 26) dX6_left_19 (by decide) (fun c => ?_) (fun c => ?_)
    · have h := h.1 c
      refine wp_iload_n dX6_left_26 rfl rfl ?_
      refine wp_if_eq (tgt := 39) dX6_left_27 (by decide) (fun c => ?_) (fun c => ?_)
      · have h := h.1 c
        refine wp_aload_n dX6_left_39 rfl rfl ?_
        refine wp_get (q := 0) dX6_left_40 fX6_21 rfl rfl ?_
        refine wp_get (q := 4) dX6_left_43 fX6_110 rfl rfl ?_
        refine wp_iload_n dX6_left_46 rfl rfl ?_
        obtain ⟨q5, h⟩ := h
        refine wp_aald (q := 5) dX6_left_47 rfl rfl q5 (encR q5) ?_
        refine wp_iload_n dX6_left_48 rfl rfl ?_
        obtain ⟨q6, h⟩ := h
        refine wp_iald2 (j := a1.toNatClampNeg) dX6_left_49 (encG _ q5) q6 rfl ?_
        refine wp_istore (Ms := [.ref 0, .int a0, .int a1, .int a2, .int ((S3.2.2.1 (2 + a0.toNatClampNeg)) a1.toNatClampNeg), .retAddr 0, .retAddr 0, .retAddr 0]) dX6_left_50 (by decide) rfl ?_
        refine wp_aload_n dX6_left_52 rfl rfl ?_
        refine wp_get (q := 0) dX6_left_53 fX6_37 rfl rfl ?_
        refine wp_iload_n dX6_left_56 rfl rfl ?_
        refine wp_callV (q := 20) (As := [.int a1]) (rest := []) dX6_left_57 mX4_ofWork lX6_135 (by decide) rfl rfl rfl rfl (Nat.le_of_ble_eq_true rfl) (Nat.le_of_ble_eq_true rfl) h ?_
        rintro rv mh2 ⟨r8, S7, rfl, rfl, h⟩
        refine wp_istore (Ms := [.ref 0, .int a0, .int a1, .int a2, .int ((S3.2.2.1 (2 + a0.toNatClampNeg)) a1.toNatClampNeg), .int r8, .retAddr 0, .retAddr 0]) dX6_left_60 (by decide) rfl ?_
        refine wp_iload dX6_left_62 rfl ?_
        refine wp_iconst (v := (-1 : Int32)) dX6_left_64 (by decide) ?_
        refine wp_icmp_eq (tgt := 86) dX6_left_65 (by decide) (fun c => ?_) (fun c => ?_)
        · have h := h.1 c
          refine wp_ldc2 dX6_left_86 kX6_145 ?_
          exact wp_lret dX6_left_89 rfl ⟨_, _, rfl, rfl, h⟩
        · have h := h.2 c
          refine wp_iload dX6_left_68 rfl ?_
          refine wp_iconst (v := (-1 : Int32)) dX6_left_70 (by decide) ?_
          refine wp_icmp_eq (tgt := 86) dX6_left_71 (by decide) (fun c => ?_) (fun c => ?_)
          · have h := h.1 c
            refine wp_ldc2 dX6_left_86 kX6_145 ?_
            exact wp_lret dX6_left_89 rfl ⟨_, _, rfl, rfl, h⟩
          · have h := h.2 c
            refine wp_aload_n dX6_left_74 rfl rfl ?_
            refine wp_get (q := 0) dX6_left_75 fX6_37 rfl rfl ?_
            refine wp_iload dX6_left_78 rfl ?_
            refine wp_callV (q := 20) (As := [.int r8]) (rest := []) dX6_left_80 mX4_isTold lX6_151 (by decide) rfl rfl rfl rfl (Nat.le_of_ble_eq_true rfl) (Nat.le_of_ble_eq_true rfl) h ?_
            rintro rv mh2 ⟨r10, S9, rfl, rfl, h⟩
            refine wp_if_ne (tgt := 90) dX6_left_83 (by decide) (fun c => ?_) (fun c => ?_)
            · have h := h.1 c
              refine wp_iload dX6_left_90 rfl ?_
              refine wp_i2l dX6_left_92 ?_
              refine wp_aload_n dX6_left_93 rfl rfl ?_
              refine wp_get (q := 0) dX6_left_94 fX6_37 rfl rfl ?_
              refine wp_get (q := 20) dX6_left_97 fX6_158 rfl rfl ?_
              refine wp_iload dX6_left_100 rfl ?_
              obtain ⟨q11, h⟩ := h
              refine wp_lald2 (q := 36) (j := r8.toNatClampNeg) dX6_left_102 rfl q11 rfl ?_
              refine wp_lmul dX6_left_103 ?_
              refine wp_aload_n dX6_left_104 rfl rfl ?_
              refine wp_get (q := 0) dX6_left_105 fX6_37 rfl rfl ?_
              refine wp_get (q := 20) dX6_left_108 fX6_154 rfl rfl ?_
              refine wp_iload_n dX6_left_111 rfl rfl ?_
              refine wp_lald2 (q := 37) (j := a1.toNatClampNeg) dX6_left_112 rfl q6 rfl ?_
              refine wp_lsub dX6_left_113 ?_
              refine wp_aload_n dX6_left_114 rfl rfl ?_
              refine wp_get (q := 0) dX6_left_115 fX6_37 rfl rfl ?_
              refine wp_get (q := 20) dX6_left_118 fX6_161 rfl rfl ?_
              refine wp_iload_n dX6_left_121 rfl rfl ?_
              refine wp_lald2 (q := 38) (j := a0.toNatClampNeg) dX6_left_122 rfl q5 rfl ?_
              refine wp_lsub dX6_left_123 ?_
              refine wp_lstore (Ms := [.ref 0, .int a0, .int a1, .int a2, .int ((S3.2.2.1 (2 + a0.toNatClampNeg)) a1.toNatClampNeg), .int r8, .long ((((((S3.2.2.1 (2 + a0.toNatClampNeg)) a1.toNatClampNeg).toInt64) * ((S9.2.2.2 0) r8.toNatClampNeg)) - ((S9.2.2.2 1) a1.toNatClampNeg)) - ((S9.2.2.2 2) a0.toNatClampNeg)), .retAddr 0]) dX6_left_124 (by decide) rfl ?_
              refine wp_lload dX6_left_126 rfl ?_
              refine wp_aload_n dX6_left_128 rfl rfl ?_
              refine wp_get (q := 0) dX6_left_129 fX6_37 rfl rfl ?_
              refine wp_get (q := 20) dX6_left_132 fX6_158 rfl rfl ?_
              refine wp_iload dX6_left_135 rfl ?_
              refine wp_lald2 (q := 36) (j := r8.toNatClampNeg) dX6_left_137 rfl q11 rfl ?_
              refine wp_iload_n dX6_left_138 rfl rfl ?_
              refine wp_callS (As := [.long ((((((S3.2.2.1 (2 + a0.toNatClampNeg)) a1.toNatClampNeg).toInt64) * ((S9.2.2.2 0) r8.toNatClampNeg)) - ((S9.2.2.2 1) a1.toNatClampNeg)) - ((S9.2.2.2 2) a0.toNatClampNeg)), .long ((S9.2.2.2 0) r8.toNatClampNeg), .int a2]) (rest := []) dX6_left_139 mX6_inLeastTerms lX6_147 (by decide) rfl rfl (Nat.le_of_ble_eq_true rfl) (Nat.le_of_ble_eq_true rfl) h ?_
              rintro rv mh2 ⟨r13, S12, rfl, rfl, h⟩
              exact wp_lret dX6_left_142 rfl ⟨_, _, rfl, rfl, h⟩
            · have h := h.2 c
              refine wp_ldc2 dX6_left_86 kX6_145 ?_
              exact wp_lret dX6_left_89 rfl ⟨_, _, rfl, rfl, h⟩
      · have h := h.2 c
        refine wp_iload_n dX6_left_30 rfl rfl ?_
        refine wp_iconst (v := (1 : Int32)) dX6_left_31 (by decide) ?_
        refine wp_icmp_eq (tgt := 39) dX6_left_32 (by decide) (fun c => ?_) (fun c => ?_)
        · have h := h.1 c
          refine wp_aload_n dX6_left_39 rfl rfl ?_
          refine wp_get (q := 0) dX6_left_40 fX6_21 rfl rfl ?_
          refine wp_get (q := 4) dX6_left_43 fX6_110 rfl rfl ?_
          refine wp_iload_n dX6_left_46 rfl rfl ?_
          obtain ⟨q14, h⟩ := h
          refine wp_aald (q := 5) dX6_left_47 rfl rfl q14 (encR q14) ?_
          refine wp_iload_n dX6_left_48 rfl rfl ?_
          obtain ⟨q15, h⟩ := h
          refine wp_iald2 (j := a1.toNatClampNeg) dX6_left_49 (encG _ q14) q15 rfl ?_
          refine wp_istore (Ms := [.ref 0, .int a0, .int a1, .int a2, .int ((S3.2.2.1 (2 + a0.toNatClampNeg)) a1.toNatClampNeg), .retAddr 0, .retAddr 0, .retAddr 0]) dX6_left_50 (by decide) rfl ?_
          refine wp_aload_n dX6_left_52 rfl rfl ?_
          refine wp_get (q := 0) dX6_left_53 fX6_37 rfl rfl ?_
          refine wp_iload_n dX6_left_56 rfl rfl ?_
          refine wp_callV (q := 20) (As := [.int a1]) (rest := []) dX6_left_57 mX4_ofWork lX6_135 (by decide) rfl rfl rfl rfl (Nat.le_of_ble_eq_true rfl) (Nat.le_of_ble_eq_true rfl) h ?_
          rintro rv mh2 ⟨r17, S16, rfl, rfl, h⟩
          refine wp_istore (Ms := [.ref 0, .int a0, .int a1, .int a2, .int ((S3.2.2.1 (2 + a0.toNatClampNeg)) a1.toNatClampNeg), .int r17, .retAddr 0, .retAddr 0]) dX6_left_60 (by decide) rfl ?_
          refine wp_iload dX6_left_62 rfl ?_
          refine wp_iconst (v := (-1 : Int32)) dX6_left_64 (by decide) ?_
          refine wp_icmp_eq (tgt := 86) dX6_left_65 (by decide) (fun c => ?_) (fun c => ?_)
          · have h := h.1 c
            refine wp_ldc2 dX6_left_86 kX6_145 ?_
            exact wp_lret dX6_left_89 rfl ⟨_, _, rfl, rfl, h⟩
          · have h := h.2 c
            refine wp_iload dX6_left_68 rfl ?_
            refine wp_iconst (v := (-1 : Int32)) dX6_left_70 (by decide) ?_
            refine wp_icmp_eq (tgt := 86) dX6_left_71 (by decide) (fun c => ?_) (fun c => ?_)
            · have h := h.1 c
              refine wp_ldc2 dX6_left_86 kX6_145 ?_
              exact wp_lret dX6_left_89 rfl ⟨_, _, rfl, rfl, h⟩
            · have h := h.2 c
              refine wp_aload_n dX6_left_74 rfl rfl ?_
              refine wp_get (q := 0) dX6_left_75 fX6_37 rfl rfl ?_
              refine wp_iload dX6_left_78 rfl ?_
              refine wp_callV (q := 20) (As := [.int r17]) (rest := []) dX6_left_80 mX4_isTold lX6_151 (by decide) rfl rfl rfl rfl (Nat.le_of_ble_eq_true rfl) (Nat.le_of_ble_eq_true rfl) h ?_
              rintro rv mh2 ⟨r19, S18, rfl, rfl, h⟩
              refine wp_if_ne (tgt := 90) dX6_left_83 (by decide) (fun c => ?_) (fun c => ?_)
              · have h := h.1 c
                refine wp_iload dX6_left_90 rfl ?_
                refine wp_i2l dX6_left_92 ?_
                refine wp_aload_n dX6_left_93 rfl rfl ?_
                refine wp_get (q := 0) dX6_left_94 fX6_37 rfl rfl ?_
                refine wp_get (q := 20) dX6_left_97 fX6_158 rfl rfl ?_
                refine wp_iload dX6_left_100 rfl ?_
                obtain ⟨q20, h⟩ := h
                refine wp_lald2 (q := 36) (j := r17.toNatClampNeg) dX6_left_102 rfl q20 rfl ?_
                refine wp_lmul dX6_left_103 ?_
                refine wp_aload_n dX6_left_104 rfl rfl ?_
                refine wp_get (q := 0) dX6_left_105 fX6_37 rfl rfl ?_
                refine wp_get (q := 20) dX6_left_108 fX6_154 rfl rfl ?_
                refine wp_iload_n dX6_left_111 rfl rfl ?_
                refine wp_lald2 (q := 37) (j := a1.toNatClampNeg) dX6_left_112 rfl q15 rfl ?_
                refine wp_lsub dX6_left_113 ?_
                refine wp_aload_n dX6_left_114 rfl rfl ?_
                refine wp_get (q := 0) dX6_left_115 fX6_37 rfl rfl ?_
                refine wp_get (q := 20) dX6_left_118 fX6_161 rfl rfl ?_
                refine wp_iload_n dX6_left_121 rfl rfl ?_
                refine wp_lald2 (q := 38) (j := a0.toNatClampNeg) dX6_left_122 rfl q14 rfl ?_
                refine wp_lsub dX6_left_123 ?_
                refine wp_lstore (Ms := [.ref 0, .int a0, .int a1, .int a2, .int ((S3.2.2.1 (2 + a0.toNatClampNeg)) a1.toNatClampNeg), .int r17, .long ((((((S3.2.2.1 (2 + a0.toNatClampNeg)) a1.toNatClampNeg).toInt64) * ((S18.2.2.2 0) r17.toNatClampNeg)) - ((S18.2.2.2 1) a1.toNatClampNeg)) - ((S18.2.2.2 2) a0.toNatClampNeg)), .retAddr 0]) dX6_left_124 (by decide) rfl ?_
                refine wp_lload dX6_left_126 rfl ?_
                refine wp_aload_n dX6_left_128 rfl rfl ?_
                refine wp_get (q := 0) dX6_left_129 fX6_37 rfl rfl ?_
                refine wp_get (q := 20) dX6_left_132 fX6_158 rfl rfl ?_
                refine wp_iload dX6_left_135 rfl ?_
                refine wp_lald2 (q := 36) (j := r17.toNatClampNeg) dX6_left_137 rfl q20 rfl ?_
                refine wp_iload_n dX6_left_138 rfl rfl ?_
                refine wp_callS (As := [.long ((((((S3.2.2.1 (2 + a0.toNatClampNeg)) a1.toNatClampNeg).toInt64) * ((S18.2.2.2 0) r17.toNatClampNeg)) - ((S18.2.2.2 1) a1.toNatClampNeg)) - ((S18.2.2.2 2) a0.toNatClampNeg)), .long ((S18.2.2.2 0) r17.toNatClampNeg), .int a2]) (rest := []) dX6_left_139 mX6_inLeastTerms lX6_147 (by decide) rfl rfl (Nat.le_of_ble_eq_true rfl) (Nat.le_of_ble_eq_true rfl) h ?_
                rintro rv mh2 ⟨r22, S21, rfl, rfl, h⟩
                exact wp_lret dX6_left_142 rfl ⟨_, _, rfl, rfl, h⟩
              · have h := h.2 c
                refine wp_ldc2 dX6_left_86 kX6_145 ?_
                exact wp_lret dX6_left_89 rfl ⟨_, _, rfl, rfl, h⟩
        · have h := h.2 c
          refine wp_ldc2 dX6_left_35 kX6_143 ?_
          exact wp_lret dX6_left_38 rfl ⟨_, _, rfl, rfl, h⟩
    · have h := h.2 c
      refine wp_ldc2 dX6_left_22 kX6_141 ?_
      exact wp_lret dX6_left_25 rfl ⟨_, _, rfl, rfl, h⟩
abbrev rX6_order : Room := { frames := 6, cells := 0, slots := 0, locals := 142 }
abbrev wX6_order (P : Int32 → St → Prop) (pc : Nat) (Ls stk : List Value) (S : St) : Prop := Wp cX6_order RX6 2 rX6_order (wFI .int P) pc Ls stk (enc S)
abbrev tX6_order (a0 : Int32) (S : St) (P : Int32 → St → Prop) : Prop := wX6_order P 0 (wl_en [.ref 0, .int a0] 2) [] S
set_option maxRecDepth 100000 in
theorem bX6_order_0 {P : Int32 → St → Prop} {S : St} (a0 : Int32) (h : tX1_holds a0 S (fun r2 S1 => ((r2 = 0 → P (-1002 : Int32) S1) ∧ (¬ r2 = 0 → tX3_workAt a0 S1 (fun r4 S3 => P r4 S3))))) : tX6_order a0 S P := by
  show wX6_order P 0 [.ref 0, .int a0] [] S
  refine wp_aload_n dX6_order_0 rfl rfl ?_
  refine wp_get (q := 0) dX6_order_1 fX6_10 rfl rfl ?_
  refine wp_iload_n dX6_order_4 rfl rfl ?_
  refine wp_callV (q := 1) (As := [.int a0]) (rest := []) dX6_order_5 mX1_holds lX6_64 (by decide) rfl rfl rfl rfl (Nat.le_of_ble_eq_true rfl) (Nat.le_of_ble_eq_true rfl) h ?_
  rintro rv mh2 ⟨r2, S1, rfl, rfl, h⟩
  refine wp_if_eq (tgt := 22) dX6_order_8 (by decide) (fun c => ?_) (fun c => ?_)
  · have h := h.1 c
    refine wp_sipush (v := (-1002 : Int32)) dX6_order_22 (by decide) ?_
    exact wp_iret dX6_order_25 rfl rfl ⟨_, _, rfl, rfl, h⟩
  · have h := h.2 c
    refine wp_aload_n dX6_order_11 rfl rfl ?_
    refine wp_get (q := 0) dX6_order_12 fX6_44 rfl rfl ?_
    refine wp_iload_n dX6_order_15 rfl rfl ?_
    refine wp_callV (q := 41) (As := [.int a0]) (rest := []) dX6_order_16 mX3_workAt lX6_164 (by decide) rfl rfl rfl rfl (Nat.le_of_ble_eq_true rfl) (Nat.le_of_ble_eq_true rfl) h ?_
    rintro rv mh2 ⟨r4, S3, rfl, rfl, h⟩
    refine wp_goto (tgt := 25) dX6_order_19 (by decide) ?_
    exact wp_iret dX6_order_25 rfl rfl ⟨_, _, rfl, rfl, h⟩
abbrev rX6_quarrel : Room := { frames := 6, cells := 0, slots := 0, locals := 141 }
abbrev wX6_quarrel (P : Int32 → St → Prop) (pc : Nat) (Ls stk : List Value) (S : St) : Prop := Wp cX6_quarrel RX6 1 rX6_quarrel (wFI .int P) pc Ls stk (enc S)
abbrev tX6_quarrel  (S : St) (P : Int32 → St → Prop) : Prop := wX6_quarrel P 0 (wl_en [.ref 0] 1) [] S
set_option maxRecDepth 100000 in
theorem bX6_quarrel_0 {P : Int32 → St → Prop} {S : St}  (h : tX3_leastQuarrel  S (fun r2 S1 => P r2 S1)) : tX6_quarrel  S P := by
  show wX6_quarrel P 0 [.ref 0] [] S
  refine wp_aload_n dX6_quarrel_0 rfl rfl ?_
  refine wp_get (q := 0) dX6_quarrel_1 fX6_44 rfl rfl ?_
  refine wp_callV (q := 41) (As := []) (rest := []) dX6_quarrel_4 mX3_leastQuarrel lX6_167 (by decide) rfl rfl rfl rfl (Nat.le_of_ble_eq_true rfl) (Nat.le_of_ble_eq_true rfl) h ?_
  rintro rv mh2 ⟨r2, S1, rfl, rfl, h⟩
  exact wp_iret dX6_quarrel_7 rfl rfl ⟨_, _, rfl, rfl, h⟩
abbrev rX6_turned : Room := { frames := 6, cells := 0, slots := 0, locals := 145 }
abbrev wX6_turned (P : Int32 → St → Prop) (pc : Nat) (Ls stk : List Value) (S : St) : Prop := Wp cX6_turned RX6 2 rX6_turned (wFI .int P) pc Ls stk (enc S)
abbrev tX6_turned (a0 : Int32) (S : St) (P : Int32 → St → Prop) : Prop := wX6_turned P 0 (wl_en [.ref 0, .int a0] 2) [] S
set_option maxRecDepth 100000 in
theorem bX6_turned_0 {P : Int32 → St → Prop} {S : St} (a0 : Int32) (h : tX1_holds a0 S (fun r2 S1 => ((r2 = 0 → P (-1001 : Int32) S1) ∧ (¬ r2 = 0 → tX3_turnedBy a0 S1 (fun r4 S3 => P r4 S3))))) : tX6_turned a0 S P := by
  show wX6_turned P 0 [.ref 0, .int a0] [] S
  refine wp_aload_n dX6_turned_0 rfl rfl ?_
  refine wp_get (q := 0) dX6_turned_1 fX6_10 rfl rfl ?_
  refine wp_iload_n dX6_turned_4 rfl rfl ?_
  refine wp_callV (q := 1) (As := [.int a0]) (rest := []) dX6_turned_5 mX1_holds lX6_64 (by decide) rfl rfl rfl rfl (Nat.le_of_ble_eq_true rfl) (Nat.le_of_ble_eq_true rfl) h ?_
  rintro rv mh2 ⟨r2, S1, rfl, rfl, h⟩
  refine wp_if_eq (tgt := 22) dX6_turned_8 (by decide) (fun c => ?_) (fun c => ?_)
  · have h := h.1 c
    refine wp_sipush (v := (-1001 : Int32)) dX6_turned_22 (by decide) ?_
    exact wp_iret dX6_turned_25 rfl rfl ⟨_, _, rfl, rfl, h⟩
  · have h := h.2 c
    refine wp_aload_n dX6_turned_11 rfl rfl ?_
    refine wp_get (q := 0) dX6_turned_12 fX6_44 rfl rfl ?_
    refine wp_iload_n dX6_turned_15 rfl rfl ?_
    refine wp_callV (q := 41) (As := [.int a0]) (rest := []) dX6_turned_16 mX3_turnedBy lX6_170 (by decide) rfl rfl rfl rfl (Nat.le_of_ble_eq_true rfl) (Nat.le_of_ble_eq_true rfl) h ?_
    rintro rv mh2 ⟨r4, S3, rfl, rfl, h⟩
    refine wp_goto (tgt := 25) dX6_turned_19 (by decide) ?_
    exact wp_iret dX6_turned_25 rfl rfl ⟨_, _, rfl, rfl, h⟩
abbrev rX6_moves : Room := { frames := 6, cells := 0, slots := 0, locals := 142 }
abbrev wX6_moves (P : Int32 → St → Prop) (pc : Nat) (Ls stk : List Value) (S : St) : Prop := Wp cX6_moves RX6 2 rX6_moves (wFI .int P) pc Ls stk (enc S)
abbrev tX6_moves (a0 : Int32) (S : St) (P : Int32 → St → Prop) : Prop := wX6_moves P 0 (wl_en [.ref 0, .int a0] 2) [] S
set_option maxRecDepth 100000 in
theorem bX6_moves_0 {P : Int32 → St → Prop} {S : St} (a0 : Int32) (h : tX1_holds a0 S (fun r2 S1 => ((r2 = 0 → P (-1001 : Int32) S1) ∧ (¬ r2 = 0 → tX3_farthestMove a0 S1 (fun r4 S3 => P r4 S3))))) : tX6_moves a0 S P := by
  show wX6_moves P 0 [.ref 0, .int a0] [] S
  refine wp_aload_n dX6_moves_0 rfl rfl ?_
  refine wp_get (q := 0) dX6_moves_1 fX6_10 rfl rfl ?_
  refine wp_iload_n dX6_moves_4 rfl rfl ?_
  refine wp_callV (q := 1) (As := [.int a0]) (rest := []) dX6_moves_5 mX1_holds lX6_64 (by decide) rfl rfl rfl rfl (Nat.le_of_ble_eq_true rfl) (Nat.le_of_ble_eq_true rfl) h ?_
  rintro rv mh2 ⟨r2, S1, rfl, rfl, h⟩
  refine wp_if_eq (tgt := 22) dX6_moves_8 (by decide) (fun c => ?_) (fun c => ?_)
  · have h := h.1 c
    refine wp_sipush (v := (-1001 : Int32)) dX6_moves_22 (by decide) ?_
    exact wp_iret dX6_moves_25 rfl rfl ⟨_, _, rfl, rfl, h⟩
  · have h := h.2 c
    refine wp_aload_n dX6_moves_11 rfl rfl ?_
    refine wp_get (q := 0) dX6_moves_12 fX6_44 rfl rfl ?_
    refine wp_iload_n dX6_moves_15 rfl rfl ?_
    refine wp_callV (q := 41) (As := [.int a0]) (rest := []) dX6_moves_16 mX3_farthestMove lX6_173 (by decide) rfl rfl rfl rfl (Nat.le_of_ble_eq_true rfl) (Nat.le_of_ble_eq_true rfl) h ?_
    rintro rv mh2 ⟨r4, S3, rfl, rfl, h⟩
    refine wp_goto (tgt := 25) dX6_moves_19 (by decide) ?_
    exact wp_iret dX6_moves_25 rfl rfl ⟨_, _, rfl, rfl, h⟩
abbrev rX6_spread : Room := { frames := 2, cells := 0, slots := 0, locals := 46 }
abbrev wX6_spread (P : Int32 → St → Prop) (pc : Nat) (Ls stk : List Value) (S : St) : Prop := Wp cX6_spread RX6 2 rX6_spread (wFI .int P) pc Ls stk (enc S)
abbrev tX6_spread (a0 : Int32) (S : St) (P : Int32 → St → Prop) : Prop := wX6_spread P 0 (wl_en [.ref 0, .int a0] 2) [] S
set_option maxRecDepth 100000 in
theorem bX6_spread_0 {P : Int32 → St → Prop} {S : St} (a0 : Int32) (h : tX1_holds a0 S (fun r2 S1 => ((r2 = 0 → P (-1001 : Int32) S1) ∧ (¬ r2 = 0 → tX2_spreadOf a0 S1 (fun r4 S3 => P r4 S3))))) : tX6_spread a0 S P := by
  show wX6_spread P 0 [.ref 0, .int a0] [] S
  refine wp_aload_n dX6_spread_0 rfl rfl ?_
  refine wp_get (q := 0) dX6_spread_1 fX6_10 rfl rfl ?_
  refine wp_iload_n dX6_spread_4 rfl rfl ?_
  refine wp_callV (q := 1) (As := [.int a0]) (rest := []) dX6_spread_5 mX1_holds lX6_64 (by decide) rfl rfl rfl rfl (Nat.le_of_ble_eq_true rfl) (Nat.le_of_ble_eq_true rfl) h ?_
  rintro rv mh2 ⟨r2, S1, rfl, rfl, h⟩
  refine wp_if_eq (tgt := 22) dX6_spread_8 (by decide) (fun c => ?_) (fun c => ?_)
  · have h := h.1 c
    refine wp_sipush (v := (-1001 : Int32)) dX6_spread_22 (by decide) ?_
    exact wp_iret dX6_spread_25 rfl rfl ⟨_, _, rfl, rfl, h⟩
  · have h := h.2 c
    refine wp_aload_n dX6_spread_11 rfl rfl ?_
    refine wp_get (q := 0) dX6_spread_12 fX6_21 rfl rfl ?_
    refine wp_iload_n dX6_spread_15 rfl rfl ?_
    refine wp_callV (q := 4) (As := [.int a0]) (rest := []) dX6_spread_16 mX2_spreadOf lX6_176 (by decide) rfl rfl rfl rfl (Nat.le_of_ble_eq_true rfl) (Nat.le_of_ble_eq_true rfl) h ?_
    rintro rv mh2 ⟨r4, S3, rfl, rfl, h⟩
    refine wp_goto (tgt := 25) dX6_spread_19 (by decide) ?_
    exact wp_iret dX6_spread_25 rfl rfl ⟨_, _, rfl, rfl, h⟩
abbrev rX6_next : Room := { frames := 2, cells := 0, slots := 0, locals := 48 }
abbrev wX6_next (P : Int32 → St → Prop) (pc : Nat) (Ls stk : List Value) (S : St) : Prop := Wp cX6_next RX6 2 rX6_next (wFI .int P) pc Ls stk (enc S)
abbrev tX6_next (a0 : Int32) (S : St) (P : Int32 → St → Prop) : Prop := wX6_next P 0 (wl_en [.ref 0, .int a0] 2) [] S
set_option maxRecDepth 100000 in
theorem bX6_next_0 {P : Int32 → St → Prop} {S : St} (a0 : Int32) (h : tX1_holds a0 S (fun r2 S1 => ((r2 = 0 → P (-1001 : Int32) S1) ∧ (¬ r2 = 0 → tX2_nextMarker a0 S1 (fun r4 S3 => P r4 S3))))) : tX6_next a0 S P := by
  show wX6_next P 0 [.ref 0, .int a0] [] S
  refine wp_aload_n dX6_next_0 rfl rfl ?_
  refine wp_get (q := 0) dX6_next_1 fX6_10 rfl rfl ?_
  refine wp_iload_n dX6_next_4 rfl rfl ?_
  refine wp_callV (q := 1) (As := [.int a0]) (rest := []) dX6_next_5 mX1_holds lX6_64 (by decide) rfl rfl rfl rfl (Nat.le_of_ble_eq_true rfl) (Nat.le_of_ble_eq_true rfl) h ?_
  rintro rv mh2 ⟨r2, S1, rfl, rfl, h⟩
  refine wp_if_eq (tgt := 22) dX6_next_8 (by decide) (fun c => ?_) (fun c => ?_)
  · have h := h.1 c
    refine wp_sipush (v := (-1001 : Int32)) dX6_next_22 (by decide) ?_
    exact wp_iret dX6_next_25 rfl rfl ⟨_, _, rfl, rfl, h⟩
  · have h := h.2 c
    refine wp_aload_n dX6_next_11 rfl rfl ?_
    refine wp_get (q := 0) dX6_next_12 fX6_21 rfl rfl ?_
    refine wp_iload_n dX6_next_15 rfl rfl ?_
    refine wp_callV (q := 4) (As := [.int a0]) (rest := []) dX6_next_16 mX2_nextMarker lX6_179 (by decide) rfl rfl rfl rfl (Nat.le_of_ble_eq_true rfl) (Nat.le_of_ble_eq_true rfl) h ?_
    rintro rv mh2 ⟨r4, S3, rfl, rfl, h⟩
    refine wp_goto (tgt := 25) dX6_next_19 (by decide) ?_
    exact wp_iret dX6_next_25 rfl rfl ⟨_, _, rfl, rfl, h⟩
abbrev rX6_digest : Room := { frames := 1, cells := 0, slots := 0, locals := 23 }
abbrev wX6_digest (P : Int32 → St → Prop) (pc : Nat) (Ls stk : List Value) (S : St) : Prop := Wp cX6_digest RX6 1 rX6_digest (wFI .int P) pc Ls stk (enc S)
abbrev tX6_digest  (S : St) (P : Int32 → St → Prop) : Prop := wX6_digest P 0 (wl_en [.ref 0] 1) [] S
set_option maxRecDepth 100000 in
theorem bX6_digest_0 {P : Int32 → St → Prop} {S : St}  (h : tX2_digestAll  S (fun r2 S1 => P r2 S1)) : tX6_digest  S P := by
  show wX6_digest P 0 [.ref 0] [] S
  refine wp_aload_n dX6_digest_0 rfl rfl ?_
  refine wp_get (q := 0) dX6_digest_1 fX6_21 rfl rfl ?_
  refine wp_callV (q := 4) (As := []) (rest := []) dX6_digest_4 mX2_digestAll lX6_182 (by decide) rfl rfl rfl rfl (Nat.le_of_ble_eq_true rfl) (Nat.le_of_ble_eq_true rfl) h ?_
  rintro rv mh2 ⟨r2, S1, rfl, rfl, h⟩
  exact wp_iret dX6_digest_7 rfl rfl ⟨_, _, rfl, rfl, h⟩
