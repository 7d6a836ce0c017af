abbrev rX7_in : Room := { frames := 0, cells := 0, slots := 0, locals := 0 }
abbrev wX7_in (P : Int32 → St → Prop) (pc : Nat) (Ls stk : List Value) (S : St) : Prop := Wp cX7_in RX7 6 rX7_in (wFI .boolean P) pc Ls stk (enc S)
abbrev tX7_in (a0 : Int64) (a1 : Int64) (a2 : Int64) (S : St) (P : Int32 → St → Prop) : Prop := wX7_in P 0 (wl_en [.long a0, .long a1, .long a2] 6) [] S
set_option maxRecDepth 100000 in
theorem bX7_in_0 {P : Int32 → St → Prop} {S : St} (a0 : Int64) (a1 : Int64) (a2 : Int64) (h : (((lg_cmp a0 a1) < 0 → P (0 : Int32) S) ∧ (¬ (lg_cmp a0 a1) < 0 → ((0 < (lg_cmp a0 a2) → P (0 : Int32) S) ∧ (¬ 0 < (lg_cmp a0 a2) → P (1 : Int32) S))))) : tX7_in a0 a1 a2 S P := by
  show wX7_in P 0 [.long a0, .retAddr 0, .long a1, .retAddr 0, .long a2, .retAddr 0] [] S
  refine wp_lload_n dX7_in_0 rfl rfl ?_
  refine wp_lload_n dX7_in_1 rfl rfl ?_
  refine wp_lcmp dX7_in_2 ?_
  refine wp_if_lt (tgt := 17) dX7_in_3 (by decide) (fun c => ?_) (fun c => ?_)
  · have h := h.1 c
    refine wp_iconst (v := (0 : Int32)) dX7_in_17 (by decide) ?_
    exact wp_iret dX7_in_18 rfl rfl ⟨_, _, rfl, rfl, h⟩
  · have h := h.2 c
    refine wp_lload_n dX7_in_6 rfl rfl ?_
    refine wp_lload dX7_in_7 rfl ?_
    refine wp_lcmp dX7_in_9 ?_
    refine wp_if_gt (tgt := 17) dX7_in_10 (by decide) (fun c => ?_) (fun c => ?_)
    · have h := h.1 c
      refine wp_iconst (v := (0 : Int32)) dX7_in_17 (by decide) ?_
      exact wp_iret dX7_in_18 rfl rfl ⟨_, _, rfl, rfl, h⟩
    · have h := h.2 c
      refine wp_iconst (v := (1 : Int32)) dX7_in_13 (by decide) ?_
      refine wp_goto (tgt := 18) dX7_in_14 (by decide) ?_
      exact wp_iret dX7_in_18 rfl rfl ⟨_, _, rfl, rfl, h⟩
abbrev rX7_clear : Room := { frames := 0, cells := 0, slots := 0, locals := 0 }
abbrev wX7_clear (P : St → Prop) (pc : Nat) (Ls stk : List Value) (S : St) : Prop := Wp cX7_clear RX7 2 rX7_clear (wFV P) pc Ls stk (enc S)
abbrev tX7_clear  (S : St) (P : St → Prop) : Prop := wX7_clear P 0 (wl_en [.ref 47] 2) [] S
set_option maxRecDepth 100000 in
theorem bX7_clear_0 {P : St → Prop} {S : St}  (h : wX7_clear P 2 [.ref 47, .int (0 : Int32)] [] S) : tX7_clear  S P := by
  show wX7_clear P 0 [.ref 47, .retAddr 0] [] S
  refine wp_iconst (v := (0 : Int32)) dX7_clear_0 (by decide) ?_
  refine wp_istore_n (Ms := [.ref 47, .int (0 : Int32)]) dX7_clear_1 rfl (by decide) rfl ?_
  exact wp_le (Ms := [.ref 47, .int (0 : Int32)]) ⟨Or.inr rfl, Or.inr rfl, trivial⟩ h
set_option maxRecDepth 100000 in
theorem bX7_clear_2 {P : St → Prop} {S : St} (x1 : Int32) (h : (((64 : Int32) ≤ x1 → wX7_clear P 30 [.ref 47, .int (0 : Int32)] [] S) ∧ (¬ (64 : Int32) ≤ x1 → vp_in x1 64 ∧ wX7_clear P 2 [.ref 47, .int (x1 + (1 : Int32))] [] (sA (sA S 24 (upd (S.2.2.1 24) x1.toNatClampNeg (vp_nar .boolean (0 : Int32)))) 26 (upd (S.2.2.1 26) x1.toNatClampNeg (-1 : Int32)))))) : wX7_clear P 2 [.ref 47, .int x1] [] S := by
  refine wp_iload_n dX7_clear_2 rfl rfl ?_
  refine wp_bipush (v := (64 : Int32)) dX7_clear_3 (by decide) ?_
  refine wp_icmp_ge (tgt := 28) dX7_clear_5 (by decide) (fun c => ?_) (fun c => ?_)
  · have h := h.1 c
    refine wp_iconst (v := (0 : Int32)) dX7_clear_28 (by decide) ?_
    refine wp_istore_n (Ms := [.ref 47, .int (0 : Int32)]) dX7_clear_29 rfl (by decide) rfl ?_
    exact wp_le (Ms := [.ref 47, .int (0 : Int32)]) ⟨Or.inr rfl, Or.inr rfl, trivial⟩ h
  · have h := h.2 c
    refine wp_aload_n dX7_clear_8 rfl rfl ?_
    refine wp_get (q := 47) dX7_clear_9 fX7_13 rfl rfl ?_
    refine wp_iload_n dX7_clear_12 rfl rfl ?_
    refine wp_iconst (v := (0 : Int32)) dX7_clear_13 (by decide) ?_
    obtain ⟨q1, h⟩ := h
    refine wp_zast2 (q := 48) (j := x1.toNatClampNeg) (mh2 := enc (sA S 24 (upd (S.2.2.1 24) x1.toNatClampNeg (vp_nar .boolean (0 : Int32))))) dX7_clear_14 rfl q1 rfl (es_48 _ _) ?_
    refine wp_aload_n dX7_clear_15 rfl rfl ?_
    refine wp_get (q := 47) dX7_clear_16 fX7_21 rfl rfl ?_
    refine wp_iload_n dX7_clear_19 rfl rfl ?_
    refine wp_iconst (v := (-1 : Int32)) dX7_clear_20 (by decide) ?_
    refine wp_iast2 (q := 50) (j := x1.toNatClampNeg) (mh2 := enc (sA (sA S 24 (upd (S.2.2.1 24) x1.toNatClampNeg (vp_nar .boolean (0 : Int32)))) 26 (upd (S.2.2.1 26) x1.toNatClampNeg (-1 : Int32)))) dX7_clear_21 rfl q1 rfl (es_50 _ _) ?_
    refine wp_iinc (Ms := [.ref 47, .int (x1 + (1 : Int32))]) (v := x1 + (1 : Int32)) dX7_clear_22 rfl rfl (by decide) rfl ?_
    refine wp_goto (tgt := 2) dX7_clear_25 (by decide) ?_
    exact wp_le (Ms := [.ref 47, .int (x1 + (1 : Int32))]) ⟨Or.inr rfl, Or.inr rfl, trivial⟩ h
set_option maxRecDepth 100000 in
theorem bX7_clear_30 {P : St → Prop} {S : St} (x1 : Int32) (h : (((8 : Int32) ≤ x1 → P S) ∧ (¬ (8 : Int32) ≤ x1 → vp_in x1 8 ∧ wX7_clear P 30 [.ref 47, .int (x1 + (1 : Int32))] [] (sA S 27 (upd (S.2.2.1 27) x1.toNatClampNeg (-1 : Int32)))))) : wX7_clear P 30 [.ref 47, .int x1] [] S := by
  refine wp_iload_n dX7_clear_30 rfl rfl ?_
  refine wp_bipush (v := (8 : Int32)) dX7_clear_31 (by decide) ?_
  refine wp_icmp_ge (tgt := 49) dX7_clear_33 (by decide) (fun c => ?_) (fun c => ?_)
  · have h := h.1 c
    exact wp_vret dX7_clear_49 rfl ⟨_, rfl, rfl, h⟩
  · have h := h.2 c
    refine wp_aload_n dX7_clear_36 rfl rfl ?_
    refine wp_get (q := 47) dX7_clear_37 fX7_24 rfl rfl ?_
    refine wp_iload_n dX7_clear_40 rfl rfl ?_
    refine wp_iconst (v := (-1 : Int32)) dX7_clear_41 (by decide) ?_
    obtain ⟨q1, h⟩ := h
    refine wp_iast2 (q := 51) (j := x1.toNatClampNeg) (mh2 := enc (sA S 27 (upd (S.2.2.1 27) x1.toNatClampNeg (-1 : Int32)))) dX7_clear_42 rfl q1 rfl (es_51 _ _) ?_
    refine wp_iinc (Ms := [.ref 47, .int (x1 + (1 : Int32))]) (v := x1 + (1 : Int32)) dX7_clear_43 rfl rfl (by decide) rfl ?_
    refine wp_goto (tgt := 30) dX7_clear_46 (by decide) ?_
    exact wp_le (Ms := [.ref 47, .int (x1 + (1 : Int32))]) ⟨Or.inr rfl, Or.inr rfl, trivial⟩ h
abbrev rX7_is : Room := { frames := 1, cells := 0, slots := 0, locals := 25 }
abbrev wX7_is (P : Int32 → St → Prop) (pc : Nat) (Ls stk : List Value) (S : St) : Prop := Wp cX7_is RX7 2 rX7_is (wFI .boolean P) pc Ls stk (enc S)
abbrev tX7_is (a0 : Int32) (S : St) (P : Int32 → St → Prop) : Prop := wX7_is P 0 (wl_en [.ref 47, .int a0] 2) [] S
set_option maxRecDepth 100000 in
theorem bX7_is_0 {P : Int32 → St → Prop} {S : St} (a0 : Int32) (h : tX7_in a0.toInt64 (0 : Int64) (((S.1 8) - (1 : Int32)).toInt64) S (fun r2 S1 => wBo r2 ∧ P r2 S1)) : tX7_is a0 S P := by
  show wX7_is P 0 [.ref 47, .int a0] [] S
  refine wp_iload_n dX7_is_0 rfl rfl ?_
  refine wp_i2l dX7_is_1 ?_
  refine wp_lconst (v := (0 : Int64)) dX7_is_2 (by decide) ?_
  refine wp_aload_n dX7_is_3 rfl rfl ?_
  refine wp_get (q := 47) dX7_is_4 fX7_7 rfl rfl ?_
  refine wp_iconst (v := (1 : Int32)) dX7_is_7 (by decide) ?_
  refine wp_isub dX7_is_8 ?_
  refine wp_i2l dX7_is_9 ?_
  refine wp_callS (As := [.long a0.toInt64, .long (0 : Int64), .long (((S.1 8) - (1 : Int32)).toInt64)]) (rest := []) dX7_is_10 mX7_in lX7_61 (by decide) rfl rfl (Nat.le_of_ble_eq_true rfl) (Nat.le_of_ble_eq_true rfl) h ?_
  rintro rv mh2 ⟨r2, S1, rfl, rfl, h⟩
  obtain ⟨q3, h⟩ := h
  exact wp_iret dX7_is_13 rfl (wBo_n q3) ⟨_, _, rfl, rfl, h⟩
abbrev rX7_pupils : Room := { frames := 1, cells := 0, slots := 0, locals := 25 }
abbrev wX7_pupils (P : Int32 → St → Prop) (pc : Nat) (Ls stk : List Value) (S : St) : Prop := Wp cX7_pupils RX7 3 rX7_pupils (wFI .int P) pc Ls stk (enc S)
abbrev tX7_pupils (a0 : Int32) (S : St) (P : Int32 → St → Prop) : Prop := wX7_pupils P 0 (wl_en [.ref 47, .int a0] 3) [] S
set_option maxRecDepth 100000 in
theorem bX7_pupils_0 {P : Int32 → St → Prop} {S : St} (a0 : Int32) (h : tX7_in a0.toInt64 (2 : Int64) (8 : Int64) S (fun r2 S1 => ((¬ r2 = 0 → tX7_clear  (sI S1 8 a0) (fun S3 => P (S1.1 8) S3)) ∧ (r2 = 0 → P (-1002 : Int32) S1)))) : tX7_pupils a0 S P := by
  show wX7_pupils P 0 [.ref 47, .int a0, .retAddr 0] [] S
  refine wp_iload_n dX7_pupils_0 rfl rfl ?_
  refine wp_i2l dX7_pupils_1 ?_
  refine wp_ldc2 dX7_pupils_2 kX7_65 ?_
  refine wp_ldc2 dX7_pupils_5 kX7_67 ?_
  refine wp_callS (As := [.long a0.toInt64, .long (2 : Int64), .long (8 : Int64)]) (rest := []) dX7_pupils_8 mX7_in lX7_61 (by decide) rfl rfl (Nat.le_of_ble_eq_true rfl) (Nat.le_of_ble_eq_true rfl) h ?_
  rintro rv mh2 ⟨r2, S1, rfl, rfl, h⟩
  refine wp_if_ne (tgt := 18) dX7_pupils_11 (by decide) (fun c => ?_) (fun c => ?_)
  · have h := h.1 c
    refine wp_aload_n dX7_pupils_18 rfl rfl ?_
    refine wp_get (q := 47) dX7_pupils_19 fX7_7 rfl rfl ?_
    refine wp_istore_n (Ms := [.ref 47, .int a0, .int (S1.1 8)]) dX7_pupils_22 rfl (by decide) rfl ?_
    refine wp_aload_n dX7_pupils_23 rfl rfl ?_
    refine wp_iload_n dX7_pupils_24 rfl rfl ?_
    refine wp_put (q := 47) (mh2 := enc (sI S1 8 a0)) dX7_pupils_25 fX7_7 (by decide) rfl (Nat.le_of_ble_eq_true rfl) (fun _ _ => rfl) rfl rfl (eo_47_0 _ _) ?_
    refine wp_aload_n dX7_pupils_28 rfl rfl ?_
    refine wp_callV (q := 47) (As := []) (rest := []) dX7_pupils_29 mX7_clear lX7_58 (by decide) rfl rfl rfl rfl (Nat.le_of_ble_eq_true rfl) (Nat.le_of_ble_eq_true rfl) h ?_
    rintro rv mh2 ⟨S3, rfl, rfl, h⟩
    refine wp_iload_n dX7_pupils_32 rfl rfl ?_
    exact wp_iret dX7_pupils_33 rfl rfl ⟨_, _, rfl, rfl, h⟩
  · have h := h.2 c
    refine wp_sipush (v := (-1002 : Int32)) dX7_pupils_14 (by decide) ?_
    exact wp_iret dX7_pupils_17 rfl rfl ⟨_, _, rfl, rfl, h⟩
abbrev rX7_friends : Room := { frames := 2, cells := 0, slots := 0, locals := 46 }
abbrev wX7_friends (P : Int32 → St → Prop) (pc : Nat) (Ls stk : List Value) (S : St) : Prop := Wp cX7_friends RX7 5 rX7_friends (wFI .int P) pc Ls stk (enc S)
abbrev tX7_friends (a0 : Int32) (a1 : Int32) (a2 : Int32) (S : St) (P : Int32 → St → Prop) : Prop := wX7_friends P 0 (wl_en [.ref 47, .int a0, .int a1, .int a2] 5) [] S
set_option maxRecDepth 100000 in
theorem bX7_friends_0 {P : Int32 → St → Prop} {S : St} (a0 : Int32) (a1 : Int32) (a2 : Int32) (h : tX7_is a0 S (fun r2 S1 => ((r2 = 0 → P (-1001 : Int32) S1) ∧ (¬ r2 = 0 → tX7_is a1 S1 (fun r4 S3 => ((¬ r4 = 0 → ((¬ a0 = a1 → vp_in (((8 : Int32) * a0) + a1) 64 ∧ ((((S3.2.2.1 24) (((8 : Int32) * a0) + a1).toNatClampNeg) = 0 → vp_in (((8 : Int32) * a1) + a0) 64 ∧ P (0 : Int32) (sA (sA S3 24 (upd (S3.2.2.1 24) (((8 : Int32) * a0) + a1).toNatClampNeg (vp_nar .boolean a2))) 24 (upd (upd (S3.2.2.1 24) (((8 : Int32) * a0) + a1).toNatClampNeg (vp_nar .boolean a2)) (((8 : Int32) * a1) + a0).toNatClampNeg (vp_nar .boolean a2)))) ∧ (¬ ((S3.2.2.1 24) (((8 : Int32) * a0) + a1).toNatClampNeg) = 0 → vp_in (((8 : Int32) * a1) + a0) 64 ∧ P (1 : Int32) (sA (sA S3 24 (upd (S3.2.2.1 24) (((8 : Int32) * a0) + a1).toNatClampNeg (vp_nar .boolean a2))) 24 (upd (upd (S3.2.2.1 24) (((8 : Int32) * a0) + a1).toNatClampNeg (vp_nar .boolean a2)) (((8 : Int32) * a1) + a0).toNatClampNeg (vp_nar .boolean a2)))))) ∧ (a0 = a1 → P (-1003 : Int32) S3))) ∧ (r4 = 0 → P (-1001 : Int32) S3))))))) : tX7_friends a0 a1 a2 S P := by
  show wX7_friends P 0 [.ref 47, .int a0, .int a1, .int a2, .retAddr 0] [] S
  refine wp_aload_n dX7_friends_0 rfl rfl ?_
  refine wp_iload_n dX7_friends_1 rfl rfl ?_
  refine wp_callV (q := 47) (As := [.int a0]) (rest := []) dX7_friends_2 mX7_is lX7_69 (by decide) rfl rfl rfl rfl (Nat.le_of_ble_eq_true rfl) (Nat.le_of_ble_eq_true rfl) h ?_
  rintro rv mh2 ⟨r2, S1, rfl, rfl, h⟩
  refine wp_if_eq (tgt := 16) dX7_friends_5 (by decide) (fun c => ?_) (fun c => ?_)
  · have h := h.1 c
    refine wp_sipush (v := (-1001 : Int32)) dX7_friends_16 (by decide) ?_
    exact wp_iret dX7_friends_19 rfl rfl ⟨_, _, rfl, rfl, h⟩
  · have h := h.2 c
    refine wp_aload_n dX7_friends_8 rfl rfl ?_
    refine wp_iload_n dX7_friends_9 rfl rfl ?_
    refine wp_callV (q := 47) (As := [.int a1]) (rest := []) dX7_friends_10 mX7_is lX7_69 (by decide) rfl rfl rfl rfl (Nat.le_of_ble_eq_true rfl) (Nat.le_of_ble_eq_true rfl) h ?_
    rintro rv mh2 ⟨r4, S3, rfl, rfl, h⟩
    refine wp_if_ne (tgt := 20) dX7_friends_13 (by decide) (fun c => ?_) (fun c => ?_)
    · have h := h.1 c
      refine wp_iload_n dX7_friends_20 rfl rfl ?_
      refine wp_iload_n dX7_friends_21 rfl rfl ?_
      refine wp_icmp_ne (tgt := 29) dX7_friends_22 (by decide) (fun c => ?_) (fun c => ?_)
      · have h := h.1 c
        refine wp_aload_n dX7_friends_29 rfl rfl ?_
        refine wp_get (q := 47) dX7_friends_30 fX7_13 rfl rfl ?_
        refine wp_bipush (v := (8 : Int32)) dX7_friends_33 (by decide) ?_
        refine wp_iload_n dX7_friends_35 rfl rfl ?_
        refine wp_imul dX7_friends_36 ?_
        refine wp_iload_n dX7_friends_37 rfl rfl ?_
        refine wp_iadd dX7_friends_38 ?_
        obtain ⟨q5, h⟩ := h
        refine wp_zald2 (q := 48) (j := (((8 : Int32) * a0) + a1).toNatClampNeg) dX7_friends_39 rfl q5 rfl ?_
        refine wp_if_eq (tgt := 47) dX7_friends_40 (by decide) (fun c => ?_) (fun c => ?_)
        · have h := h.1 c
          refine wp_iconst (v := (0 : Int32)) dX7_friends_47 (by decide) ?_
          refine wp_istore (Ms := [.ref 47, .int a0, .int a1, .int a2, .int (0 : Int32)]) dX7_friends_48 (by decide) rfl ?_
          refine wp_aload_n dX7_friends_50 rfl rfl ?_
          refine wp_get (q := 47) dX7_friends_51 fX7_13 rfl rfl ?_
          refine wp_bipush (v := (8 : Int32)) dX7_friends_54 (by decide) ?_
          refine wp_iload_n dX7_friends_56 rfl rfl ?_
          refine wp_imul dX7_friends_57 ?_
          refine wp_iload_n dX7_friends_58 rfl rfl ?_
          refine wp_iadd dX7_friends_59 ?_
          refine wp_iload_n dX7_friends_60 rfl rfl ?_
          refine wp_zast2 (q := 48) (j := (((8 : Int32) * a0) + a1).toNatClampNeg) (mh2 := enc (sA S3 24 (upd (S3.2.2.1 24) (((8 : Int32) * a0) + a1).toNatClampNeg (vp_nar .boolean a2)))) dX7_friends_61 rfl q5 rfl (es_48 _ _) ?_
          refine wp_aload_n dX7_friends_62 rfl rfl ?_
          refine wp_get (q := 47) dX7_friends_63 fX7_13 rfl rfl ?_
          refine wp_bipush (v := (8 : Int32)) dX7_friends_66 (by decide) ?_
          refine wp_iload_n dX7_friends_68 rfl rfl ?_
          refine wp_imul dX7_friends_69 ?_
          refine wp_iload_n dX7_friends_70 rfl rfl ?_
          refine wp_iadd dX7_friends_71 ?_
          refine wp_iload_n dX7_friends_72 rfl rfl ?_
          obtain ⟨q6, h⟩ := h
          refine wp_zast2 (q := 48) (j := (((8 : Int32) * a1) + a0).toNatClampNeg) (mh2 := enc (sA (sA S3 24 (upd (S3.2.2.1 24) (((8 : Int32) * a0) + a1).toNatClampNeg (vp_nar .boolean a2))) 24 (upd (upd (S3.2.2.1 24) (((8 : Int32) * a0) + a1).toNatClampNeg (vp_nar .boolean a2)) (((8 : Int32) * a1) + a0).toNatClampNeg (vp_nar .boolean a2)))) dX7_friends_73 rfl q6 rfl (es_48 _ _) ?_
          refine wp_iload dX7_friends_74 rfl ?_
          exact wp_iret dX7_friends_76 rfl rfl ⟨_, _, rfl, rfl, h⟩
        · have h := h.2 c
          refine wp_iconst (v := (1 : Int32)) dX7_friends_43 (by decide) ?_
          refine wp_goto (tgt := 48) dX7_friends_44 (by decide) ?_
          refine wp_istore (Ms := [.ref 47, .int a0, .int a1, .int a2, .int (1 : Int32)]) dX7_friends_48 (by decide) rfl ?_
          refine wp_aload_n dX7_friends_50 rfl rfl ?_
          refine wp_get (q := 47) dX7_friends_51 fX7_13 rfl rfl ?_
          refine wp_bipush (v := (8 : Int32)) dX7_friends_54 (by decide) ?_
          refine wp_iload_n dX7_friends_56 rfl rfl ?_
          refine wp_imul dX7_friends_57 ?_
          refine wp_iload_n dX7_friends_58 rfl rfl ?_
          refine wp_iadd dX7_friends_59 ?_
          refine wp_iload_n dX7_friends_60 rfl rfl ?_
          refine wp_zast2 (q := 48) (j := (((8 : Int32) * a0) + a1).toNatClampNeg) (mh2 := enc (sA S3 24 (upd (S3.2.2.1 24) (((8 : Int32) * a0) + a1).toNatClampNeg (vp_nar .boolean a2)))) dX7_friends_61 rfl q5 rfl (es_48 _ _) ?_
          refine wp_aload_n dX7_friends_62 rfl rfl ?_
          refine wp_get (q := 47) dX7_friends_63 fX7_13 rfl rfl ?_
          refine wp_bipush (v := (8 : Int32)) dX7_friends_66 (by decide) ?_
          refine wp_iload_n dX7_friends_68 rfl rfl ?_
          refine wp_imul dX7_friends_69 ?_
          refine wp_iload_n dX7_friends_70 rfl rfl ?_
          refine wp_iadd dX7_friends_71 ?_
          refine wp_iload_n dX7_friends_72 rfl rfl ?_
          obtain ⟨q7, h⟩ := h
          refine wp_zast2 (q := 48) (j := (((8 : Int32) * a1) + a0).toNatClampNeg) (mh2 := enc (sA (sA S3 24 (upd (S3.2.2.1 24) (((8 : Int32) * a0) + a1).toNatClampNeg (vp_nar .boolean a2))) 24 (upd (upd (S3.2.2.1 24) (((8 : Int32) * a0) + a1).toNatClampNeg (vp_nar .boolean a2)) (((8 : Int32) * a1) + a0).toNatClampNeg (vp_nar .boolean a2)))) dX7_friends_73 rfl q7 rfl (es_48 _ _) ?_
          refine wp_iload dX7_friends_74 rfl ?_
          exact wp_iret dX7_friends_76 rfl rfl ⟨_, _, rfl, rfl, h⟩
      · have h := h.2 c
        refine wp_sipush (v := (-1003 : Int32)) dX7_friends_25 (by decide) ?_
        exact wp_iret dX7_friends_28 rfl rfl ⟨_, _, rfl, rfl, h⟩
    · have h := h.2 c
      refine wp_sipush (v := (-1001 : Int32)) dX7_friends_16 (by decide) ?_
      exact wp_iret dX7_friends_19 rfl rfl ⟨_, _, rfl, rfl, h⟩
abbrev rX7_rule : Room := { frames := 1, cells := 0, slots := 0, locals := 25 }
abbrev wX7_rule (P : Int32 → St → Prop) (pc : Nat) (Ls stk : List Value) (S : St) : Prop := Wp cX7_rule RX7 4 rX7_rule (wFI .int P) pc Ls stk (enc S)
abbrev tX7_rule (a0 : Int32) (a1 : Int32) (S : St) (P : Int32 → St → Prop) : Prop := wX7_rule P 0 (wl_en [.ref 47, .int a0, .int a1] 4) [] S
set_option maxRecDepth 100000 in
theorem bX7_rule_0 {P : Int32 → St → Prop} {S : St} (a0 : Int32) (a1 : Int32) (h : tX7_in a0.toInt64 (0 : Int64) (2 : Int64) S (fun r2 S1 => ((r2 = 0 → P (-1002 : Int32) S1) ∧ (¬ r2 = 0 → ((¬ a0 = (2 : Int32) → ((¬ a0 = 0 → ((¬ a0 = (1 : Int32) → tX7_in a1.toInt64 (1 : Int64) (100 : Int64) S1 (fun r4 S3 => ((¬ r4 = 0 → vp_in a0 3 ∧ P ((S3.2.2.1 25) a0.toNatClampNeg) (sA S3 25 (upd (S3.2.2.1 25) a0.toNatClampNeg a1))) ∧ (r4 = 0 → P (-1002 : Int32) S3)))) ∧ (a0 = (1 : Int32) → tX7_in a1.toInt64 (1 : Int64) (8 : Int64) S1 (fun r7 S6 => ((¬ r7 = 0 → vp_in a0 3 ∧ P ((S6.2.2.1 25) a0.toNatClampNeg) (sA S6 25 (upd (S6.2.2.1 25) a0.toNatClampNeg a1))) ∧ (r7 = 0 → P (-1002 : Int32) S6)))))) ∧ (a0 = 0 → tX7_in a1.toInt64 (1 : Int64) (4 : Int64) S1 (fun r10 S9 => ((¬ r10 = 0 → vp_in a0 3 ∧ P ((S9.2.2.1 25) a0.toNatClampNeg) (sA S9 25 (upd (S9.2.2.1 25) a0.toNatClampNeg a1))) ∧ (r10 = 0 → P (-1002 : Int32) S9)))))) ∧ (a0 = (2 : Int32) → ((¬ a0 = 0 → ((¬ a0 = (1 : Int32) → tX7_in a1.toInt64 (0 : Int64) (100 : Int64) S1 (fun r13 S12 => ((¬ r13 = 0 → vp_in a0 3 ∧ P ((S12.2.2.1 25) a0.toNatClampNeg) (sA S12 25 (upd (S12.2.2.1 25) a0.toNatClampNeg a1))) ∧ (r13 = 0 → P (-1002 : Int32) S12)))) ∧ (a0 = (1 : Int32) → tX7_in a1.toInt64 (0 : Int64) (8 : Int64) S1 (fun r16 S15 => ((¬ r16 = 0 → vp_in a0 3 ∧ P ((S15.2.2.1 25) a0.toNatClampNeg) (sA S15 25 (upd (S15.2.2.1 25) a0.toNatClampNeg a1))) ∧ (r16 = 0 → P (-1002 : Int32) S15)))))) ∧ (a0 = 0 → tX7_in a1.toInt64 (0 : Int64) (4 : Int64) S1 (fun r19 S18 => ((¬ r19 = 0 → vp_in a0 3 ∧ P ((S18.2.2.1 25) a0.toNatClampNeg) (sA S18 25 (upd (S18.2.2.1 25) a0.toNatClampNeg a1))) ∧ (r19 = 0 → P (-1002 : Int32) S18))))))))))) : tX7_rule a0 a1 S P := by
  show wX7_rule P 0 [.ref 47, .int a0, .int a1, .retAddr 0] [] S
  refine wp_iload_n dX7_rule_0 rfl rfl ?_
  refine wp_i2l dX7_rule_1 ?_
  refine wp_lconst (v := (0 : Int64)) dX7_rule_2 (by decide) ?_
  refine wp_ldc2 dX7_rule_3 kX7_65 ?_
  refine wp_callS (As := [.long a0.toInt64, .long (0 : Int64), .long (2 : Int64)]) (rest := []) dX7_rule_6 mX7_in lX7_61 (by decide) rfl rfl (Nat.le_of_ble_eq_true rfl) (Nat.le_of_ble_eq_true rfl) h ?_
  rintro rv mh2 ⟨r2, S1, rfl, rfl, h⟩
  refine wp_if_eq (tgt := 54) dX7_rule_9 (by decide) (fun c => ?_) (fun c => ?_)
  · have h := h.1 c
    refine wp_sipush (v := (-1002 : Int32)) dX7_rule_54 (by decide) ?_
    exact wp_iret dX7_rule_57 rfl rfl ⟨_, _, rfl, rfl, h⟩
  · have h := h.2 c
    refine wp_iload_n dX7_rule_12 rfl rfl ?_
    refine wp_i2l dX7_rule_13 ?_
    refine wp_iload_n dX7_rule_14 rfl rfl ?_
    refine wp_iconst (v := (2 : Int32)) dX7_rule_15 (by decide) ?_
    refine wp_icmp_ne (tgt := 23) dX7_rule_16 (by decide) (fun c => ?_) (fun c => ?_)
    · have h := h.1 c
      refine wp_lconst (v := (1 : Int64)) dX7_rule_23 (by decide) ?_
      refine wp_iload_n dX7_rule_24 rfl rfl ?_
      refine wp_if_ne (tgt := 34) dX7_rule_25 (by decide) (fun c => ?_) (fun c => ?_)
      · have h := h.1 c
        refine wp_iload_n dX7_rule_34 rfl rfl ?_
        refine wp_iconst (v := (1 : Int32)) dX7_rule_35 (by decide) ?_
        refine wp_icmp_ne (tgt := 45) dX7_rule_36 (by decide) (fun c => ?_) (fun c => ?_)
        · have h := h.1 c
          refine wp_ldc2 dX7_rule_45 kX7_75 ?_
          refine wp_callS (As := [.long a1.toInt64, .long (1 : Int64), .long (100 : Int64)]) (rest := []) dX7_rule_48 mX7_in lX7_61 (by decide) rfl rfl (Nat.le_of_ble_eq_true rfl) (Nat.le_of_ble_eq_true rfl) h ?_
          rintro rv mh2 ⟨r4, S3, rfl, rfl, h⟩
          refine wp_if_ne (tgt := 58) dX7_rule_51 (by decide) (fun c => ?_) (fun c => ?_)
          · have h := h.1 c
            refine wp_aload_n dX7_rule_58 rfl rfl ?_
            refine wp_get (q := 47) dX7_rule_59 fX7_17 rfl rfl ?_
            refine wp_iload_n dX7_rule_62 rfl rfl ?_
            obtain ⟨q5, h⟩ := h
            refine wp_iald2 (q := 49) (j := a0.toNatClampNeg) dX7_rule_63 rfl q5 rfl ?_
            refine wp_istore_n (Ms := [.ref 47, .int a0, .int a1, .int ((S3.2.2.1 25) a0.toNatClampNeg)]) dX7_rule_64 rfl (by decide) rfl ?_
            refine wp_aload_n dX7_rule_65 rfl rfl ?_
            refine wp_get (q := 47) dX7_rule_66 fX7_17 rfl rfl ?_
            refine wp_iload_n dX7_rule_69 rfl rfl ?_
            refine wp_iload_n dX7_rule_70 rfl rfl ?_
            refine wp_iast2 (q := 49) (j := a0.toNatClampNeg) (mh2 := enc (sA S3 25 (upd (S3.2.2.1 25) a0.toNatClampNeg a1))) dX7_rule_71 rfl q5 rfl (es_49 _ _) ?_
            refine wp_iload_n dX7_rule_72 rfl rfl ?_
            exact wp_iret dX7_rule_73 rfl rfl ⟨_, _, rfl, rfl, h⟩
          · have h := h.2 c
            refine wp_sipush (v := (-1002 : Int32)) dX7_rule_54 (by decide) ?_
            exact wp_iret dX7_rule_57 rfl rfl ⟨_, _, rfl, rfl, h⟩
        · have h := h.2 c
          refine wp_ldc2 dX7_rule_39 kX7_67 ?_
          refine wp_goto (tgt := 48) dX7_rule_42 (by decide) ?_
          refine wp_callS (As := [.long a1.toInt64, .long (1 : Int64), .long (8 : Int64)]) (rest := []) dX7_rule_48 mX7_in lX7_61 (by decide) rfl rfl (Nat.le_of_ble_eq_true rfl) (Nat.le_of_ble_eq_true rfl) h ?_
          rintro rv mh2 ⟨r7, S6, rfl, rfl, h⟩
          refine wp_if_ne (tgt := 58) dX7_rule_51 (by decide) (fun c => ?_) (fun c => ?_)
          · have h := h.1 c
            refine wp_aload_n dX7_rule_58 rfl rfl ?_
            refine wp_get (q := 47) dX7_rule_59 fX7_17 rfl rfl ?_
            refine wp_iload_n dX7_rule_62 rfl rfl ?_
            obtain ⟨q8, h⟩ := h
            refine wp_iald2 (q := 49) (j := a0.toNatClampNeg) dX7_rule_63 rfl q8 rfl ?_
            refine wp_istore_n (Ms := [.ref 47, .int a0, .int a1, .int ((S6.2.2.1 25) a0.toNatClampNeg)]) dX7_rule_64 rfl (by decide) rfl ?_
            refine wp_aload_n dX7_rule_65 rfl rfl ?_
            refine wp_get (q := 47) dX7_rule_66 fX7_17 rfl rfl ?_
            refine wp_iload_n dX7_rule_69 rfl rfl ?_
            refine wp_iload_n dX7_rule_70 rfl rfl ?_
            refine wp_iast2 (q := 49) (j := a0.toNatClampNeg) (mh2 := enc (sA S6 25 (upd (S6.2.2.1 25) a0.toNatClampNeg a1))) dX7_rule_71 rfl q8 rfl (es_49 _ _) ?_
            refine wp_iload_n dX7_rule_72 rfl rfl ?_
            exact wp_iret dX7_rule_73 rfl rfl ⟨_, _, rfl, rfl, h⟩
          · have h := h.2 c
            refine wp_sipush (v := (-1002 : Int32)) dX7_rule_54 (by decide) ?_
            exact wp_iret dX7_rule_57 rfl rfl ⟨_, _, rfl, rfl, h⟩
      · have h := h.2 c
        refine wp_ldc2 dX7_rule_28 kX7_73 ?_
        refine wp_goto (tgt := 48) dX7_rule_31 (by decide) ?_
        refine wp_callS (As := [.long a1.toInt64, .long (1 : Int64), .long (4 : Int64)]) (rest := []) dX7_rule_48 mX7_in lX7_61 (by decide) rfl rfl (Nat.le_of_ble_eq_true rfl) (Nat.le_of_ble_eq_true rfl) h ?_
        rintro rv mh2 ⟨r10, S9, rfl, rfl, h⟩
        refine wp_if_ne (tgt := 58) dX7_rule_51 (by decide) (fun c => ?_) (fun c => ?_)
        · have h := h.1 c
          refine wp_aload_n dX7_rule_58 rfl rfl ?_
          refine wp_get (q := 47) dX7_rule_59 fX7_17 rfl rfl ?_
          refine wp_iload_n dX7_rule_62 rfl rfl ?_
          obtain ⟨q11, h⟩ := h
          refine wp_iald2 (q := 49) (j := a0.toNatClampNeg) dX7_rule_63 rfl q11 rfl ?_
          refine wp_istore_n (Ms := [.ref 47, .int a0, .int a1, .int ((S9.2.2.1 25) a0.toNatClampNeg)]) dX7_rule_64 rfl (by decide) rfl ?_
          refine wp_aload_n dX7_rule_65 rfl rfl ?_
          refine wp_get (q := 47) dX7_rule_66 fX7_17 rfl rfl ?_
          refine wp_iload_n dX7_rule_69 rfl rfl ?_
          refine wp_iload_n dX7_rule_70 rfl rfl ?_
          refine wp_iast2 (q := 49) (j := a0.toNatClampNeg) (mh2 := enc (sA S9 25 (upd (S9.2.2.1 25) a0.toNatClampNeg a1))) dX7_rule_71 rfl q11 rfl (es_49 _ _) ?_
          refine wp_iload_n dX7_rule_72 rfl rfl ?_
          exact wp_iret dX7_rule_73 rfl rfl ⟨_, _, rfl, rfl, h⟩
        · have h := h.2 c
          refine wp_sipush (v := (-1002 : Int32)) dX7_rule_54 (by decide) ?_
          exact wp_iret dX7_rule_57 rfl rfl ⟨_, _, rfl, rfl, h⟩
    · have h := h.2 c
      refine wp_lconst (v := (0 : Int64)) dX7_rule_19 (by decide) ?_
      refine wp_goto (tgt := 24) dX7_rule_20 (by decide) ?_
      refine wp_iload_n dX7_rule_24 rfl rfl ?_
      refine wp_if_ne (tgt := 34) dX7_rule_25 (by decide) (fun c => ?_) (fun c => ?_)
      · have h := h.1 c
        refine wp_iload_n dX7_rule_34 rfl rfl ?_
        refine wp_iconst (v := (1 : Int32)) dX7_rule_35 (by decide) ?_
        refine wp_icmp_ne (tgt := 45) dX7_rule_36 (by decide) (fun c => ?_) (fun c => ?_)
        · have h := h.1 c
          refine wp_ldc2 dX7_rule_45 kX7_75 ?_
          refine wp_callS (As := [.long a1.toInt64, .long (0 : Int64), .long (100 : Int64)]) (rest := []) dX7_rule_48 mX7_in lX7_61 (by decide) rfl rfl (Nat.le_of_ble_eq_true rfl) (Nat.le_of_ble_eq_true rfl) h ?_
          rintro rv mh2 ⟨r13, S12, rfl, rfl, h⟩
          refine wp_if_ne (tgt := 58) dX7_rule_51 (by decide) (fun c => ?_) (fun c => ?_)
          · have h := h.1 c
            refine wp_aload_n dX7_rule_58 rfl rfl ?_
            refine wp_get (q := 47) dX7_rule_59 fX7_17 rfl rfl ?_
            refine wp_iload_n dX7_rule_62 rfl rfl ?_
            obtain ⟨q14, h⟩ := h
            refine wp_iald2 (q := 49) (j := a0.toNatClampNeg) dX7_rule_63 rfl q14 rfl ?_
            refine wp_istore_n (Ms := [.ref 47, .int a0, .int a1, .int ((S12.2.2.1 25) a0.toNatClampNeg)]) dX7_rule_64 rfl (by decide) rfl ?_
            refine wp_aload_n dX7_rule_65 rfl rfl ?_
            refine wp_get (q := 47) dX7_rule_66 fX7_17 rfl rfl ?_
            refine wp_iload_n dX7_rule_69 rfl rfl ?_
            refine wp_iload_n dX7_rule_70 rfl rfl ?_
            refine wp_iast2 (q := 49) (j := a0.toNatClampNeg) (mh2 := enc (sA S12 25 (upd (S12.2.2.1 25) a0.toNatClampNeg a1))) dX7_rule_71 rfl q14 rfl (es_49 _ _) ?_
            refine wp_iload_n dX7_rule_72 rfl rfl ?_
            exact wp_iret dX7_rule_73 rfl rfl ⟨_, _, rfl, rfl, h⟩
          · have h := h.2 c
            refine wp_sipush (v := (-1002 : Int32)) dX7_rule_54 (by decide) ?_
            exact wp_iret dX7_rule_57 rfl rfl ⟨_, _, rfl, rfl, h⟩
        · have h := h.2 c
          refine wp_ldc2 dX7_rule_39 kX7_67 ?_
          refine wp_goto (tgt := 48) dX7_rule_42 (by decide) ?_
          refine wp_callS (As := [.long a1.toInt64, .long (0 : Int64), .long (8 : Int64)]) (rest := []) dX7_rule_48 mX7_in lX7_61 (by decide) rfl rfl (Nat.le_of_ble_eq_true rfl) (Nat.le_of_ble_eq_true rfl) h ?_
          rintro rv mh2 ⟨r16, S15, rfl, rfl, h⟩
          refine wp_if_ne (tgt := 58) dX7_rule_51 (by decide) (fun c => ?_) (fun c => ?_)
          · have h := h.1 c
            refine wp_aload_n dX7_rule_58 rfl rfl ?_
            refine wp_get (q := 47) dX7_rule_59 fX7_17 rfl rfl ?_
            refine wp_iload_n dX7_rule_62 rfl rfl ?_
            obtain ⟨q17, h⟩ := h
            refine wp_iald2 (q := 49) (j := a0.toNatClampNeg) dX7_rule_63 rfl q17 rfl ?_
            refine wp_istore_n (Ms := [.ref 47, .int a0, .int a1, .int ((S15.2.2.1 25) a0.toNatClampNeg)]) dX7_rule_64 rfl (by decide) rfl ?_
            refine wp_aload_n dX7_rule_65 rfl rfl ?_
            refine wp_get (q := 47) dX7_rule_66 fX7_17 rfl rfl ?_
            refine wp_iload_n dX7_rule_69 rfl rfl ?_
            refine wp_iload_n dX7_rule_70 rfl rfl ?_
            refine wp_iast2 (q := 49) (j := a0.toNatClampNeg) (mh2 := enc (sA S15 25 (upd (S15.2.2.1 25) a0.toNatClampNeg a1))) dX7_rule_71 rfl q17 rfl (es_49 _ _) ?_
            refine wp_iload_n dX7_rule_72 rfl rfl ?_
            exact wp_iret dX7_rule_73 rfl rfl ⟨_, _, rfl, rfl, h⟩
          · have h := h.2 c
            refine wp_sipush (v := (-1002 : Int32)) dX7_rule_54 (by decide) ?_
            exact wp_iret dX7_rule_57 rfl rfl ⟨_, _, rfl, rfl, h⟩
      · have h := h.2 c
        refine wp_ldc2 dX7_rule_28 kX7_73 ?_
        refine wp_goto (tgt := 48) dX7_rule_31 (by decide) ?_
        refine wp_callS (As := [.long a1.toInt64, .long (0 : Int64), .long (4 : Int64)]) (rest := []) dX7_rule_48 mX7_in lX7_61 (by decide) rfl rfl (Nat.le_of_ble_eq_true rfl) (Nat.le_of_ble_eq_true rfl) h ?_
        rintro rv mh2 ⟨r19, S18, rfl, rfl, h⟩
        refine wp_if_ne (tgt := 58) dX7_rule_51 (by decide) (fun c => ?_) (fun c => ?_)
        · have h := h.1 c
          refine wp_aload_n dX7_rule_58 rfl rfl ?_
          refine wp_get (q := 47) dX7_rule_59 fX7_17 rfl rfl ?_
          refine wp_iload_n dX7_rule_62 rfl rfl ?_
          obtain ⟨q20, h⟩ := h
          refine wp_iald2 (q := 49) (j := a0.toNatClampNeg) dX7_rule_63 rfl q20 rfl ?_
          refine wp_istore_n (Ms := [.ref 47, .int a0, .int a1, .int ((S18.2.2.1 25) a0.toNatClampNeg)]) dX7_rule_64 rfl (by decide) rfl ?_
          refine wp_aload_n dX7_rule_65 rfl rfl ?_
          refine wp_get (q := 47) dX7_rule_66 fX7_17 rfl rfl ?_
          refine wp_iload_n dX7_rule_69 rfl rfl ?_
          refine wp_iload_n dX7_rule_70 rfl rfl ?_
          refine wp_iast2 (q := 49) (j := a0.toNatClampNeg) (mh2 := enc (sA S18 25 (upd (S18.2.2.1 25) a0.toNatClampNeg a1))) dX7_rule_71 rfl q20 rfl (es_49 _ _) ?_
          refine wp_iload_n dX7_rule_72 rfl rfl ?_
          exact wp_iret dX7_rule_73 rfl rfl ⟨_, _, rfl, rfl, h⟩
        · have h := h.2 c
          refine wp_sipush (v := (-1002 : Int32)) dX7_rule_54 (by decide) ?_
          exact wp_iret dX7_rule_57 rfl rfl ⟨_, _, rfl, rfl, h⟩
abbrev rX7_canMark : Room := { frames := 0, cells := 0, slots := 0, locals := 0 }
abbrev wX7_canMark (P : Int32 → St → Prop) (pc : Nat) (Ls stk : List Value) (S : St) : Prop := Wp cX7_canMark RX7 3 rX7_canMark (wFI .boolean P) pc Ls stk (enc S)
abbrev tX7_canMark (a0 : Int32) (a1 : Int32) (S : St) (P : Int32 → St → Prop) : Prop := wX7_canMark P 0 (wl_en [.ref 47, .int a0, .int a1] 3) [] S
set_option maxRecDepth 100000 in
theorem bX7_canMark_0 {P : Int32 → St → Prop} {S : St} (a0 : Int32) (a1 : Int32) (h : ((a0 = a1 → P (0 : Int32) S) ∧ (¬ a0 = a1 → vp_in (((8 : Int32) * a0) + a1) 64 ∧ ((¬ ((S.2.2.1 24) (((8 : Int32) * a0) + a1).toNatClampNeg) = 0 → P (0 : Int32) S) ∧ (((S.2.2.1 24) (((8 : Int32) * a0) + a1).toNatClampNeg) = 0 → P (1 : Int32) S))))) : tX7_canMark a0 a1 S P := by
  show wX7_canMark P 0 [.ref 47, .int a0, .int a1] [] S
  refine wp_iload_n dX7_canMark_0 rfl rfl ?_
  refine wp_iload_n dX7_canMark_1 rfl rfl ?_
  refine wp_icmp_eq (tgt := 23) dX7_canMark_2 (by decide) (fun c => ?_) (fun c => ?_)
  · have h := h.1 c
    refine wp_iconst (v := (0 : Int32)) dX7_canMark_23 (by decide) ?_
    exact wp_iret dX7_canMark_24 rfl rfl ⟨_, _, rfl, rfl, h⟩
  · have h := h.2 c
    refine wp_aload_n dX7_canMark_5 rfl rfl ?_
    refine wp_get (q := 47) dX7_canMark_6 fX7_13 rfl rfl ?_
    refine wp_bipush (v := (8 : Int32)) dX7_canMark_9 (by decide) ?_
    refine wp_iload_n dX7_canMark_11 rfl rfl ?_
    refine wp_imul dX7_canMark_12 ?_
    refine wp_iload_n dX7_canMark_13 rfl rfl ?_
    refine wp_iadd dX7_canMark_14 ?_
    obtain ⟨q1, h⟩ := h
    refine wp_zald2 (q := 48) (j := (((8 : Int32) * a0) + a1).toNatClampNeg) dX7_canMark_15 rfl q1 rfl ?_
    refine wp_if_ne (tgt := 23) dX7_canMark_16 (by decide) (fun c => ?_) (fun c => ?_)
    · have h := h.1 c
      refine wp_iconst (v := (0 : Int32)) dX7_canMark_23 (by decide) ?_
      exact wp_iret dX7_canMark_24 rfl rfl ⟨_, _, rfl, rfl, h⟩
    · have h := h.2 c
      refine wp_iconst (v := (1 : Int32)) dX7_canMark_19 (by decide) ?_
      refine wp_goto (tgt := 24) dX7_canMark_20 (by decide) ?_
      exact wp_iret dX7_canMark_24 rfl rfl ⟨_, _, rfl, rfl, h⟩
abbrev rX7_may : Room := { frames := 2, cells := 0, slots := 0, locals := 46 }
abbrev wX7_may (P : Int32 → St → Prop) (pc : Nat) (Ls stk : List Value) (S : St) : Prop := Wp cX7_may RX7 4 rX7_may (wFI .int P) pc Ls stk (enc S)
abbrev tX7_may (a0 : Int32) (S : St) (P : Int32 → St → Prop) : Prop := wX7_may P 0 (wl_en [.ref 47, .int a0] 4) [] S
set_option maxRecDepth 100000 in
theorem bX7_may_0 {P : Int32 → St → Prop} {S : St} (a0 : Int32) (h : tX7_is a0 S (fun r2 S1 => ((¬ r2 = 0 → wX7_may P 16 [.ref 47, .int a0, .int (0 : Int32), .int (0 : Int32)] [] S1) ∧ (r2 = 0 → P (-1001 : Int32) S1)))) : tX7_may a0 S P := by
  show wX7_may P 0 [.ref 47, .int a0, .retAddr 0, .retAddr 0] [] S
  refine wp_aload_n dX7_may_0 rfl rfl ?_
  refine wp_iload_n dX7_may_1 rfl rfl ?_
  refine wp_callV (q := 47) (As := [.int a0]) (rest := []) dX7_may_2 mX7_is lX7_69 (by decide) rfl rfl rfl rfl (Nat.le_of_ble_eq_true rfl) (Nat.le_of_ble_eq_true rfl) h ?_
  rintro rv mh2 ⟨r2, S1, rfl, rfl, h⟩
  refine wp_if_ne (tgt := 12) dX7_may_5 (by decide) (fun c => ?_) (fun c => ?_)
  · have h := h.1 c
    refine wp_iconst (v := (0 : Int32)) dX7_may_12 (by decide) ?_
    refine wp_istore_n (Ms := [.ref 47, .int a0, .int (0 : Int32), .retAddr 0]) dX7_may_13 rfl (by decide) rfl ?_
    refine wp_iconst (v := (0 : Int32)) dX7_may_14 (by decide) ?_
    refine wp_istore_n (Ms := [.ref 47, .int a0, .int (0 : Int32), .int (0 : Int32)]) dX7_may_15 rfl (by decide) rfl ?_
    exact wp_le (Ms := [.ref 47, .int a0, .int (0 : Int32), .int (0 : Int32)]) ⟨Or.inr rfl, Or.inr rfl, Or.inr rfl, Or.inr rfl, trivial⟩ h
  · have h := h.2 c
    refine wp_sipush (v := (-1001 : Int32)) dX7_may_8 (by decide) ?_
    exact wp_iret dX7_may_11 rfl rfl ⟨_, _, rfl, rfl, h⟩
set_option maxRecDepth 100000 in
theorem bX7_may_16 {P : Int32 → St → Prop} {S : St} (x1 : Int32) (x2 : Int32) (x3 : Int32) (h : (((S.1 8) ≤ x3 → P x2 S) ∧ (¬ (S.1 8) ≤ x3 → tX7_canMark x1 x3 S (fun r2 S1 => ((r2 = 0 → wX7_may P 16 [.ref 47, .int x1, .int (x2 ||| (0 : Int32)), .int (x3 + (1 : Int32))] [] S1) ∧ (¬ r2 = 0 → wX7_may P 16 [.ref 47, .int x1, .int (x2 ||| ((1 : Int32) <<< (x3 &&& (31 : Int32)))), .int (x3 + (1 : Int32))] [] S1)))))) : wX7_may P 16 [.ref 47, .int x1, .int x2, .int x3] [] S := by
  refine wp_iload_n dX7_may_16 rfl rfl ?_
  refine wp_aload_n dX7_may_17 rfl rfl ?_
  refine wp_get (q := 47) dX7_may_18 fX7_7 rfl rfl ?_
  refine wp_icmp_ge (tgt := 49) dX7_may_21 (by decide) (fun c => ?_) (fun c => ?_)
  · have h := h.1 c
    refine wp_iload_n dX7_may_49 rfl rfl ?_
    exact wp_iret dX7_may_50 rfl rfl ⟨_, _, rfl, rfl, h⟩
  · have h := h.2 c
    refine wp_iload_n dX7_may_24 rfl rfl ?_
    refine wp_aload_n dX7_may_25 rfl rfl ?_
    refine wp_iload_n dX7_may_26 rfl rfl ?_
    refine wp_iload_n dX7_may_27 rfl rfl ?_
    refine wp_callV (q := 47) (As := [.int x1, .int x3]) (rest := [.int x2]) dX7_may_28 mX7_canMark lX7_77 (by decide) rfl rfl rfl rfl (Nat.le_of_ble_eq_true rfl) (Nat.le_of_ble_eq_true rfl) h ?_
    rintro rv mh2 ⟨r2, S1, rfl, rfl, h⟩
    refine wp_if_eq (tgt := 40) dX7_may_31 (by decide) (fun c => ?_) (fun c => ?_)
    · have h := h.1 c
      refine wp_iconst (v := (0 : Int32)) dX7_may_40 (by decide) ?_
      refine wp_ior dX7_may_41 ?_
      refine wp_istore_n (Ms := [.ref 47, .int x1, .int (x2 ||| (0 : Int32)), .int x3]) dX7_may_42 rfl (by decide) rfl ?_
      refine wp_iinc (Ms := [.ref 47, .int x1, .int (x2 ||| (0 : Int32)), .int (x3 + (1 : Int32))]) (v := x3 + (1 : Int32)) dX7_may_43 rfl rfl (by decide) rfl ?_
      refine wp_goto (tgt := 16) dX7_may_46 (by decide) ?_
      exact wp_le (Ms := [.ref 47, .int x1, .int (x2 ||| (0 : Int32)), .int (x3 + (1 : Int32))]) ⟨Or.inr rfl, Or.inr rfl, Or.inr rfl, Or.inr rfl, trivial⟩ h
    · have h := h.2 c
      refine wp_iconst (v := (1 : Int32)) dX7_may_34 (by decide) ?_
      refine wp_iload_n dX7_may_35 rfl rfl ?_
      refine wp_ishl dX7_may_36 ?_
      refine wp_goto (tgt := 41) dX7_may_37 (by decide) ?_
      refine wp_ior dX7_may_41 ?_
      refine wp_istore_n (Ms := [.ref 47, .int x1, .int (x2 ||| ((1 : Int32) <<< (x3 &&& (31 : Int32)))), .int x3]) dX7_may_42 rfl (by decide) rfl ?_
      refine wp_iinc (Ms := [.ref 47, .int x1, .int (x2 ||| ((1 : Int32) <<< (x3 &&& (31 : Int32)))), .int (x3 + (1 : Int32))]) (v := x3 + (1 : Int32)) dX7_may_43 rfl rfl (by decide) rfl ?_
      refine wp_goto (tgt := 16) dX7_may_46 (by decide) ?_
      exact wp_le (Ms := [.ref 47, .int x1, .int (x2 ||| ((1 : Int32) <<< (x3 &&& (31 : Int32)))), .int (x3 + (1 : Int32))]) ⟨Or.inr rfl, Or.inr rfl, Or.inr rfl, Or.inr rfl, trivial⟩ h
abbrev rX7_bits : Room := { frames := 0, cells := 0, slots := 0, locals := 0 }
abbrev wX7_bits (P : Int32 → St → Prop) (pc : Nat) (Ls stk : List Value) (S : St) : Prop := Wp cX7_bits RX7 3 rX7_bits (wFI .int P) pc Ls stk (enc S)
abbrev tX7_bits (a0 : Int32) (S : St) (P : Int32 → St → Prop) : Prop := wX7_bits P 0 (wl_en [.int a0] 3) [] S
set_option maxRecDepth 100000 in
theorem bX7_bits_0 {P : Int32 → St → Prop} {S : St} (a0 : Int32) (h : wX7_bits P 4 [.int a0, .int (0 : Int32), .int (0 : Int32)] [] S) : tX7_bits a0 S P := by
  show wX7_bits P 0 [.int a0, .retAddr 0, .retAddr 0] [] S
  refine wp_iconst (v := (0 : Int32)) dX7_bits_0 (by decide) ?_
  refine wp_istore_n (Ms := [.int a0, .int (0 : Int32), .retAddr 0]) dX7_bits_1 rfl (by decide) rfl ?_
  refine wp_iconst (v := (0 : Int32)) dX7_bits_2 (by decide) ?_
  refine wp_istore_n (Ms := [.int a0, .int (0 : Int32), .int (0 : Int32)]) dX7_bits_3 rfl (by decide) rfl ?_
  exact wp_le (Ms := [.int a0, .int (0 : Int32), .int (0 : Int32)]) ⟨Or.inr rfl, Or.inr rfl, Or.inr rfl, trivial⟩ h
set_option maxRecDepth 100000 in
theorem bX7_bits_4 {P : Int32 → St → Prop} {S : St} (x0 : Int32) (x1 : Int32) (x2 : Int32) (h : (((8 : Int32) ≤ x2 → P x1 S) ∧ (¬ (8 : Int32) ≤ x2 → wX7_bits P 4 [.int x0, .int (x1 + ((x0 >>> (x2 &&& (31 : Int32))) &&& (1 : Int32))), .int (x2 + (1 : Int32))] [] S))) : wX7_bits P 4 [.int x0, .int x1, .int x2] [] S := by
  refine wp_iload_n dX7_bits_4 rfl rfl ?_
  refine wp_bipush (v := (8 : Int32)) dX7_bits_5 (by decide) ?_
  refine wp_icmp_ge (tgt := 24) dX7_bits_7 (by decide) (fun c => ?_) (fun c => ?_)
  · have h := h.1 c
    refine wp_iload_n dX7_bits_24 rfl rfl ?_
    exact wp_iret dX7_bits_25 rfl rfl ⟨_, _, rfl, rfl, h⟩
  · have h := h.2 c
    refine wp_iload_n dX7_bits_10 rfl rfl ?_
    refine wp_iload_n dX7_bits_11 rfl rfl ?_
    refine wp_iload_n dX7_bits_12 rfl rfl ?_
    refine wp_ishr dX7_bits_13 ?_
    refine wp_iconst (v := (1 : Int32)) dX7_bits_14 (by decide) ?_
    refine wp_iand dX7_bits_15 ?_
    refine wp_iadd dX7_bits_16 ?_
    refine wp_istore_n (Ms := [.int x0, .int (x1 + ((x0 >>> (x2 &&& (31 : Int32))) &&& (1 : Int32))), .int x2]) dX7_bits_17 rfl (by decide) rfl ?_
    refine wp_iinc (Ms := [.int x0, .int (x1 + ((x0 >>> (x2 &&& (31 : Int32))) &&& (1 : Int32))), .int (x2 + (1 : Int32))]) (v := x2 + (1 : Int32)) dX7_bits_18 rfl rfl (by decide) rfl ?_
    refine wp_goto (tgt := 4) dX7_bits_21 (by decide) ?_
    exact wp_le (Ms := [.int x0, .int (x1 + ((x0 >>> (x2 &&& (31 : Int32))) &&& (1 : Int32))), .int (x2 + (1 : Int32))]) ⟨Or.inr rfl, Or.inr rfl, Or.inr rfl, trivial⟩ h
abbrev rX7_lackFrom : Room := { frames := 3, cells := 0, slots := 0, locals := 69 }
abbrev wX7_lackFrom (P : Int32 → St → Prop) (pc : Nat) (Ls stk : List Value) (S : St) : Prop := Wp cX7_lackFrom RX7 6 rX7_lackFrom (wFI .int P) pc Ls stk (enc S)
abbrev tX7_lackFrom (a0 : Int32) (S : St) (P : Int32 → St → Prop) : Prop := wX7_lackFrom P 0 (wl_en [.ref 47, .int a0] 6) [] S
set_option maxRecDepth 100000 in
theorem bX7_lackFrom_0 {P : Int32 → St → Prop} {S : St} (a0 : Int32) (h : wX7_lackFrom P 2 [.ref 47, .int a0, .int (1 : Int32), .retAddr 0, .retAddr 0, .retAddr 0] [] S) : tX7_lackFrom a0 S P := by
  show wX7_lackFrom P 0 [.ref 47, .int a0, .retAddr 0, .retAddr 0, .retAddr 0, .retAddr 0] [] S
  refine wp_iconst (v := (1 : Int32)) dX7_lackFrom_0 (by decide) ?_
  refine wp_istore_n (Ms := [.ref 47, .int a0, .int (1 : Int32), .retAddr 0, .retAddr 0, .retAddr 0]) dX7_lackFrom_1 rfl (by decide) rfl ?_
  exact wp_le (Ms := [.ref 47, .int a0, .int (1 : Int32), .retAddr 0, .retAddr 0, .retAddr 0]) ⟨Or.inr rfl, Or.inr rfl, Or.inr rfl, Or.inl rfl, Or.inl rfl, Or.inl rfl, trivial⟩ h
set_option maxRecDepth 100000 in
theorem bX7_lackFrom_2 {P : Int32 → St → Prop} {S : St} (x1 : Int32) (x2 : Int32) (h : ((((1 : Int32) <<< ((S.1 8) &&& (31 : Int32))) ≤ x2 → P (0 : Int32) S) ∧ (¬ ((1 : Int32) <<< ((S.1 8) &&& (31 : Int32))) ≤ x2 → ((¬ (x2 &&& (((1 : Int32) <<< (x1 &&& (31 : Int32))) - (1 : Int32))) = 0 → wX7_lackFrom P 2 [.ref 47, .int x1, .int (x2 + (1 : Int32)), .retAddr 0, .retAddr 0, .retAddr 0] [] S) ∧ ((x2 &&& (((1 : Int32) <<< (x1 &&& (31 : Int32))) - (1 : Int32))) = 0 → wX7_lackFrom P 27 [.ref 47, .int x1, .int x2, .int (0 : Int32), .int (0 : Int32), .retAddr 0] [] S))))) : wX7_lackFrom P 2 [.ref 47, .int x1, .int x2, .retAddr 0, .retAddr 0, .retAddr 0] [] S := by
  refine wp_iload_n dX7_lackFrom_2 rfl rfl ?_
  refine wp_iconst (v := (1 : Int32)) dX7_lackFrom_3 (by decide) ?_
  refine wp_aload_n dX7_lackFrom_4 rfl rfl ?_
  refine wp_get (q := 47) dX7_lackFrom_5 fX7_7 rfl rfl ?_
  refine wp_ishl dX7_lackFrom_8 ?_
  refine wp_icmp_ge (tgt := 105) dX7_lackFrom_9 (by decide) (fun c => ?_) (fun c => ?_)
  · have h := h.1 c
    refine wp_iconst (v := (0 : Int32)) dX7_lackFrom_105 (by decide) ?_
    exact wp_iret dX7_lackFrom_106 rfl rfl ⟨_, _, rfl, rfl, h⟩
  · have h := h.2 c
    refine wp_iload_n dX7_lackFrom_12 rfl rfl ?_
    refine wp_iconst (v := (1 : Int32)) dX7_lackFrom_13 (by decide) ?_
    refine wp_iload_n dX7_lackFrom_14 rfl rfl ?_
    refine wp_ishl dX7_lackFrom_15 ?_
    refine wp_iconst (v := (1 : Int32)) dX7_lackFrom_16 (by decide) ?_
    refine wp_isub dX7_lackFrom_17 ?_
    refine wp_iand dX7_lackFrom_18 ?_
    refine wp_if_ne (tgt := 99) dX7_lackFrom_19 (by decide) (fun c => ?_) (fun c => ?_)
    · have h := h.1 c
      refine wp_iinc (Ms := [.ref 47, .int x1, .int (x2 + (1 : Int32)), .retAddr 0, .retAddr 0, .retAddr 0]) (v := x2 + (1 : Int32)) dX7_lackFrom_99 rfl rfl (by decide) rfl ?_
      refine wp_goto (tgt := 2) dX7_lackFrom_102 (by decide) ?_
      exact wp_le (Ms := [.ref 47, .int x1, .int (x2 + (1 : Int32)), .retAddr 0, .retAddr 0, .retAddr 0]) ⟨Or.inr rfl, Or.inr rfl, Or.inr rfl, Or.inl rfl, Or.inl rfl, Or.inl rfl, trivial⟩ h
    · have h := h.2 c
      refine wp_iconst (v := (0 : Int32)) dX7_lackFrom_22 (by decide) ?_
      refine wp_istore_n (Ms := [.ref 47, .int x1, .int x2, .int (0 : Int32), .retAddr 0, .retAddr 0]) dX7_lackFrom_23 rfl (by decide) rfl ?_
      refine wp_iconst (v := (0 : Int32)) dX7_lackFrom_24 (by decide) ?_
      refine wp_istore (Ms := [.ref 47, .int x1, .int x2, .int (0 : Int32), .int (0 : Int32), .retAddr 0]) dX7_lackFrom_25 (by decide) rfl ?_
      exact wp_le (Ms := [.ref 47, .int x1, .int x2, .int (0 : Int32), .int (0 : Int32), .retAddr 0]) ⟨Or.inr rfl, Or.inr rfl, Or.inr rfl, Or.inr rfl, Or.inr rfl, Or.inl rfl, trivial⟩ h
set_option maxRecDepth 100000 in
theorem bX7_lackFrom_27 {P : Int32 → St → Prop} {S : St} (x1 : Int32) (x2 : Int32) (x3 : Int32) (x4 : Int32) (h : (((S.1 8) ≤ x4 → tX7_bits x2 S (fun r2 S1 => (((((S.2.2.1 25) 0) * r2) ≤ x3 → wX7_lackFrom P 2 [.ref 47, .int x1, .int (x2 + (1 : Int32)), .retAddr 0, .retAddr 0, .retAddr 0] [] S1) ∧ (¬ (((S.2.2.1 25) 0) * r2) ≤ x3 → P x2 S1)))) ∧ (¬ (S.1 8) ≤ x4 → tX7_may x4 S (fun r4 S3 => tX7_bits (x2 &&& r4) S3 (fun r6 S5 => vp_in x4 8 ∧ ((((S5.2.2.1 28) x4.toNatClampNeg) ≤ r6 → wX7_lackFrom P 27 [.ref 47, .int x1, .int x2, .int (x3 + ((S5.2.2.1 28) x4.toNatClampNeg)), .int (x4 + (1 : Int32)), .retAddr 0] [] S5) ∧ (¬ ((S5.2.2.1 28) x4.toNatClampNeg) ≤ r6 → wX7_lackFrom P 27 [.ref 47, .int x1, .int x2, .int (x3 + r6), .int (x4 + (1 : Int32)), .retAddr 0] [] S5))))))) : wX7_lackFrom P 27 [.ref 47, .int x1, .int x2, .int x3, .int x4, .retAddr 0] [] S := by
  refine wp_iload dX7_lackFrom_27 rfl ?_
  refine wp_aload_n dX7_lackFrom_29 rfl rfl ?_
  refine wp_get (q := 47) dX7_lackFrom_30 fX7_7 rfl rfl ?_
  refine wp_icmp_ge (tgt := 82) dX7_lackFrom_33 (by decide) (fun c => ?_) (fun c => ?_)
  · have h := h.1 c
    refine wp_aload_n dX7_lackFrom_82 rfl rfl ?_
    refine wp_get (q := 47) dX7_lackFrom_83 fX7_17 rfl rfl ?_
    refine wp_iconst (v := (0 : Int32)) dX7_lackFrom_86 (by decide) ?_
    refine wp_iald2 (q := 49) (j := 0) dX7_lackFrom_87 rfl (vpd rfl) rfl ?_
    refine wp_iload_n dX7_lackFrom_88 rfl rfl ?_
    refine wp_callS (As := [.int x2]) (rest := [.int ((S.2.2.1 25) 0)]) dX7_lackFrom_89 mX7_bits lX7_85 (by decide) rfl rfl (Nat.le_of_ble_eq_true rfl) (Nat.le_of_ble_eq_true rfl) h ?_
    rintro rv mh2 ⟨r2, S1, rfl, rfl, h⟩
    refine wp_imul dX7_lackFrom_92 ?_
    refine wp_iload_n dX7_lackFrom_93 rfl rfl ?_
    refine wp_icmp_le (tgt := 99) dX7_lackFrom_94 (by decide) (fun c => ?_) (fun c => ?_)
    · have h := h.1 c
      refine wp_iinc (Ms := [.ref 47, .int x1, .int (x2 + (1 : Int32)), .int x3, .int x4, .retAddr 0]) (v := x2 + (1 : Int32)) dX7_lackFrom_99 rfl rfl (by decide) rfl ?_
      refine wp_goto (tgt := 2) dX7_lackFrom_102 (by decide) ?_
      exact wp_le (Ms := [.ref 47, .int x1, .int (x2 + (1 : Int32)), .retAddr 0, .retAddr 0, .retAddr 0]) ⟨Or.inr rfl, Or.inr rfl, Or.inr rfl, Or.inl rfl, Or.inl rfl, Or.inl rfl, trivial⟩ h
    · have h := h.2 c
      refine wp_iload_n dX7_lackFrom_97 rfl rfl ?_
      exact wp_iret dX7_lackFrom_98 rfl rfl ⟨_, _, rfl, rfl, h⟩
  · have h := h.2 c
    refine wp_iload_n dX7_lackFrom_36 rfl rfl ?_
    refine wp_aload_n dX7_lackFrom_37 rfl rfl ?_
    refine wp_iload dX7_lackFrom_38 rfl ?_
    refine wp_callV (q := 47) (As := [.int x4]) (rest := [.int x2]) dX7_lackFrom_40 mX7_may lX7_81 (by decide) rfl rfl rfl rfl (Nat.le_of_ble_eq_true rfl) (Nat.le_of_ble_eq_true rfl) h ?_
    rintro rv mh2 ⟨r4, S3, rfl, rfl, h⟩
    refine wp_iand dX7_lackFrom_43 ?_
    refine wp_callS (As := [.int (x2 &&& r4)]) (rest := []) dX7_lackFrom_44 mX7_bits lX7_85 (by decide) rfl rfl (Nat.le_of_ble_eq_true rfl) (Nat.le_of_ble_eq_true rfl) h ?_
    rintro rv mh2 ⟨r6, S5, rfl, rfl, h⟩
    refine wp_istore (Ms := [.ref 47, .int x1, .int x2, .int x3, .int x4, .int r6]) dX7_lackFrom_47 (by decide) rfl ?_
    refine wp_iload_n dX7_lackFrom_49 rfl rfl ?_
    refine wp_iload dX7_lackFrom_50 rfl ?_
    refine wp_aload_n dX7_lackFrom_52 rfl rfl ?_
    refine wp_get (q := 47) dX7_lackFrom_53 fX7_27 rfl rfl ?_
    refine wp_iload dX7_lackFrom_56 rfl ?_
    obtain ⟨q7, h⟩ := h
    refine wp_iald2 (q := 52) (j := x4.toNatClampNeg) dX7_lackFrom_58 rfl q7 rfl ?_
    refine wp_icmp_ge (tgt := 67) dX7_lackFrom_59 (by decide) (fun c => ?_) (fun c => ?_)
    · have h := h.1 c
      refine wp_aload_n dX7_lackFrom_67 rfl rfl ?_
      refine wp_get (q := 47) dX7_lackFrom_68 fX7_27 rfl rfl ?_
      refine wp_iload dX7_lackFrom_71 rfl ?_
      refine wp_iald2 (q := 52) (j := x4.toNatClampNeg) dX7_lackFrom_73 rfl q7 rfl ?_
      refine wp_iadd dX7_lackFrom_74 ?_
      refine wp_istore_n (Ms := [.ref 47, .int x1, .int x2, .int (x3 + ((S5.2.2.1 28) x4.toNatClampNeg)), .int x4, .int r6]) dX7_lackFrom_75 rfl (by decide) rfl ?_
      refine wp_iinc (Ms := [.ref 47, .int x1, .int x2, .int (x3 + ((S5.2.2.1 28) x4.toNatClampNeg)), .int (x4 + (1 : Int32)), .int r6]) (v := x4 + (1 : Int32)) dX7_lackFrom_76 rfl rfl (by decide) rfl ?_
      refine wp_goto (tgt := 27) dX7_lackFrom_79 (by decide) ?_
      exact wp_le (Ms := [.ref 47, .int x1, .int x2, .int (x3 + ((S5.2.2.1 28) x4.toNatClampNeg)), .int (x4 + (1 : Int32)), .retAddr 0]) ⟨Or.inr rfl, Or.inr rfl, Or.inr rfl, Or.inr rfl, Or.inr rfl, Or.inl rfl, trivial⟩ h
    · have h := h.2 c
      refine wp_iload dX7_lackFrom_62 rfl ?_
      refine wp_goto (tgt := 74) dX7_lackFrom_64 (by decide) ?_
      refine wp_iadd dX7_lackFrom_74 ?_
      refine wp_istore_n (Ms := [.ref 47, .int x1, .int x2, .int (x3 + r6), .int x4, .int r6]) dX7_lackFrom_75 rfl (by decide) rfl ?_
      refine wp_iinc (Ms := [.ref 47, .int x1, .int x2, .int (x3 + r6), .int (x4 + (1 : Int32)), .int r6]) (v := x4 + (1 : Int32)) dX7_lackFrom_76 rfl rfl (by decide) rfl ?_
      refine wp_goto (tgt := 27) dX7_lackFrom_79 (by decide) ?_
      exact wp_le (Ms := [.ref 47, .int x1, .int x2, .int (x3 + r6), .int (x4 + (1 : Int32)), .retAddr 0]) ⟨Or.inr rfl, Or.inr rfl, Or.inr rfl, Or.inr rfl, Or.inr rfl, Or.inl rfl, trivial⟩ h
abbrev rX7_mayBe : Room := { frames := 1, cells := 0, slots := 0, locals := 22 }
abbrev wX7_mayBe (P : Int32 → St → Prop) (pc : Nat) (Ls stk : List Value) (S : St) : Prop := Wp cX7_mayBe RX7 5 rX7_mayBe (wFI .boolean P) pc Ls stk (enc S)
abbrev tX7_mayBe (a0 : Int32) (a1 : Int32) (S : St) (P : Int32 → St → Prop) : Prop := wX7_mayBe P 0 (wl_en [.ref 47, .int a0, .int a1] 5) [] S
set_option maxRecDepth 100000 in
theorem bX7_mayBe_0 {P : Int32 → St → Prop} {S : St} (a0 : Int32) (a1 : Int32) (h : tX7_bits a1 S (fun r2 S1 => ((¬ r2 = ((S1.2.2.1 25) 0) → wX7_mayBe P 22 [.ref 47, .int a0, .int a1, .int (0 : Int32), .int (0 : Int32)] [] S1) ∧ (r2 = ((S1.2.2.1 25) 0) → wX7_mayBe P 22 [.ref 47, .int a0, .int a1, .int (1 : Int32), .int (0 : Int32)] [] S1)))) : tX7_mayBe a0 a1 S P := by
  show wX7_mayBe P 0 [.ref 47, .int a0, .int a1, .retAddr 0, .retAddr 0] [] S
  refine wp_iload_n dX7_mayBe_0 rfl rfl ?_
  refine wp_callS (As := [.int a1]) (rest := []) dX7_mayBe_1 mX7_bits lX7_85 (by decide) rfl rfl (Nat.le_of_ble_eq_true rfl) (Nat.le_of_ble_eq_true rfl) h ?_
  rintro rv mh2 ⟨r2, S1, rfl, rfl, h⟩
  refine wp_aload_n dX7_mayBe_4 rfl rfl ?_
  refine wp_get (q := 47) dX7_mayBe_5 fX7_17 rfl rfl ?_
  refine wp_iconst (v := (0 : Int32)) dX7_mayBe_8 (by decide) ?_
  refine wp_iald2 (q := 49) (j := 0) dX7_mayBe_9 rfl (vpd rfl) rfl ?_
  refine wp_icmp_ne (tgt := 17) dX7_mayBe_10 (by decide) (fun c => ?_) (fun c => ?_)
  · have h := h.1 c
    refine wp_iconst (v := (0 : Int32)) dX7_mayBe_17 (by decide) ?_
    refine wp_istore_n (Ms := [.ref 47, .int a0, .int a1, .int (0 : Int32), .retAddr 0]) dX7_mayBe_18 rfl (by decide) rfl ?_
    refine wp_iconst (v := (0 : Int32)) dX7_mayBe_19 (by decide) ?_
    refine wp_istore (Ms := [.ref 47, .int a0, .int a1, .int (0 : Int32), .int (0 : Int32)]) dX7_mayBe_20 (by decide) rfl ?_
    exact wp_le (Ms := [.ref 47, .int a0, .int a1, .int (0 : Int32), .int (0 : Int32)]) ⟨Or.inr rfl, Or.inr rfl, Or.inr rfl, Or.inr rfl, Or.inr rfl, trivial⟩ h
  · have h := h.2 c
    refine wp_iconst (v := (1 : Int32)) dX7_mayBe_13 (by decide) ?_
    refine wp_goto (tgt := 18) dX7_mayBe_14 (by decide) ?_
    refine wp_istore_n (Ms := [.ref 47, .int a0, .int a1, .int (1 : Int32), .retAddr 0]) dX7_mayBe_18 rfl (by decide) rfl ?_
    refine wp_iconst (v := (0 : Int32)) dX7_mayBe_19 (by decide) ?_
    refine wp_istore (Ms := [.ref 47, .int a0, .int a1, .int (1 : Int32), .int (0 : Int32)]) dX7_mayBe_20 (by decide) rfl ?_
    exact wp_le (Ms := [.ref 47, .int a0, .int a1, .int (1 : Int32), .int (0 : Int32)]) ⟨Or.inr rfl, Or.inr rfl, Or.inr rfl, Or.inr rfl, Or.inr rfl, trivial⟩ h
set_option maxRecDepth 100000 in
theorem bX7_mayBe_22 {P : Int32 → St → Prop} {S : St} (x1 : Int32) (x2 : Int32) (x3 : Int32) (x4 : Int32) (h : (((S.1 8) ≤ x4 → wBo x3 ∧ P x3 S) ∧ (¬ (S.1 8) ≤ x4 → ((x3 = 0 → wX7_mayBe P 22 [.ref 47, .int x1, .int x2, .int (0 : Int32), .int (x4 + (1 : Int32))] [] S) ∧ (¬ x3 = 0 → ((((x2 >>> (x4 &&& (31 : Int32))) &&& (1 : Int32)) = 0 → wX7_mayBe P 22 [.ref 47, .int x1, .int x2, .int (1 : Int32), .int (x4 + (1 : Int32))] [] S) ∧ (¬ ((x2 >>> (x4 &&& (31 : Int32))) &&& (1 : Int32)) = 0 → tX7_canMark x4 x1 S (fun r3 S2 => ((r3 = 0 → wX7_mayBe P 22 [.ref 47, .int x1, .int x2, .int (0 : Int32), .int (x4 + (1 : Int32))] [] S2) ∧ (¬ r3 = 0 → vp_in x4 8 ∧ ((((S2.2.2.1 28) x4.toNatClampNeg) ≤ 0 → wX7_mayBe P 22 [.ref 47, .int x1, .int x2, .int (0 : Int32), .int (x4 + (1 : Int32))] [] S2) ∧ (¬ ((S2.2.2.1 28) x4.toNatClampNeg) ≤ 0 → wX7_mayBe P 22 [.ref 47, .int x1, .int x2, .int (1 : Int32), .int (x4 + (1 : Int32))] [] S2)))))))))))) : wX7_mayBe P 22 [.ref 47, .int x1, .int x2, .int x3, .int x4] [] S := by
  refine wp_iload dX7_mayBe_22 rfl ?_
  refine wp_aload_n dX7_mayBe_24 rfl rfl ?_
  refine wp_get (q := 47) dX7_mayBe_25 fX7_7 rfl rfl ?_
  refine wp_icmp_ge (tgt := 76) dX7_mayBe_28 (by decide) (fun c => ?_) (fun c => ?_)
  · have h := h.1 c
    refine wp_iload_n dX7_mayBe_76 rfl rfl ?_
    obtain ⟨q1, h⟩ := h
    exact wp_iret dX7_mayBe_77 rfl (wBo_n q1) ⟨_, _, rfl, rfl, h⟩
  · have h := h.2 c
    refine wp_iload_n dX7_mayBe_31 rfl rfl ?_
    refine wp_if_eq (tgt := 68) dX7_mayBe_32 (by decide) (fun c => ?_) (fun c => ?_)
    · have h := h.1 c
      refine wp_iconst (v := (0 : Int32)) dX7_mayBe_68 (by decide) ?_
      refine wp_istore_n (Ms := [.ref 47, .int x1, .int x2, .int (0 : Int32), .int x4]) dX7_mayBe_69 rfl (by decide) rfl ?_
      refine wp_iinc (Ms := [.ref 47, .int x1, .int x2, .int (0 : Int32), .int (x4 + (1 : Int32))]) (v := x4 + (1 : Int32)) dX7_mayBe_70 rfl rfl (by decide) rfl ?_
      refine wp_goto (tgt := 22) dX7_mayBe_73 (by decide) ?_
      exact wp_le (Ms := [.ref 47, .int x1, .int x2, .int (0 : Int32), .int (x4 + (1 : Int32))]) ⟨Or.inr rfl, Or.inr rfl, Or.inr rfl, Or.inr rfl, Or.inr rfl, trivial⟩ h
    · have h := h.2 c
      refine wp_iload_n dX7_mayBe_35 rfl rfl ?_
      refine wp_iload dX7_mayBe_36 rfl ?_
      refine wp_ishr dX7_mayBe_38 ?_
      refine wp_iconst (v := (1 : Int32)) dX7_mayBe_39 (by decide) ?_
      refine wp_iand dX7_mayBe_40 ?_
      refine wp_if_eq (tgt := 64) dX7_mayBe_41 (by decide) (fun c => ?_) (fun c => ?_)
      · have h := h.1 c
        refine wp_iconst (v := (1 : Int32)) dX7_mayBe_64 (by decide) ?_
        refine wp_goto (tgt := 69) dX7_mayBe_65 (by decide) ?_
        refine wp_istore_n (Ms := [.ref 47, .int x1, .int x2, .int (1 : Int32), .int x4]) dX7_mayBe_69 rfl (by decide) rfl ?_
        refine wp_iinc (Ms := [.ref 47, .int x1, .int x2, .int (1 : Int32), .int (x4 + (1 : Int32))]) (v := x4 + (1 : Int32)) dX7_mayBe_70 rfl rfl (by decide) rfl ?_
        refine wp_goto (tgt := 22) dX7_mayBe_73 (by decide) ?_
        exact wp_le (Ms := [.ref 47, .int x1, .int x2, .int (1 : Int32), .int (x4 + (1 : Int32))]) ⟨Or.inr rfl, Or.inr rfl, Or.inr rfl, Or.inr rfl, Or.inr rfl, trivial⟩ h
      · have h := h.2 c
        refine wp_aload_n dX7_mayBe_44 rfl rfl ?_
        refine wp_iload dX7_mayBe_45 rfl ?_
        refine wp_iload_n dX7_mayBe_47 rfl rfl ?_
        refine wp_callV (q := 47) (As := [.int x4, .int x1]) (rest := []) dX7_mayBe_48 mX7_canMark lX7_77 (by decide) rfl rfl rfl rfl (Nat.le_of_ble_eq_true rfl) (Nat.le_of_ble_eq_true rfl) h ?_
        rintro rv mh2 ⟨r3, S2, rfl, rfl, h⟩
        refine wp_if_eq (tgt := 68) dX7_mayBe_51 (by decide) (fun c => ?_) (fun c => ?_)
        · have h := h.1 c
          refine wp_iconst (v := (0 : Int32)) dX7_mayBe_68 (by decide) ?_
          refine wp_istore_n (Ms := [.ref 47, .int x1, .int x2, .int (0 : Int32), .int x4]) dX7_mayBe_69 rfl (by decide) rfl ?_
          refine wp_iinc (Ms := [.ref 47, .int x1, .int x2, .int (0 : Int32), .int (x4 + (1 : Int32))]) (v := x4 + (1 : Int32)) dX7_mayBe_70 rfl rfl (by decide) rfl ?_
          refine wp_goto (tgt := 22) dX7_mayBe_73 (by decide) ?_
          exact wp_le (Ms := [.ref 47, .int x1, .int x2, .int (0 : Int32), .int (x4 + (1 : Int32))]) ⟨Or.inr rfl, Or.inr rfl, Or.inr rfl, Or.inr rfl, Or.inr rfl, trivial⟩ h
        · have h := h.2 c
          refine wp_aload_n dX7_mayBe_54 rfl rfl ?_
          refine wp_get (q := 47) dX7_mayBe_55 fX7_27 rfl rfl ?_
          refine wp_iload dX7_mayBe_58 rfl ?_
          obtain ⟨q4, h⟩ := h
          refine wp_iald2 (q := 52) (j := x4.toNatClampNeg) dX7_mayBe_60 rfl q4 rfl ?_
          refine wp_if_le (tgt := 68) dX7_mayBe_61 (by decide) (fun c => ?_) (fun c => ?_)
          · have h := h.1 c
            refine wp_iconst (v := (0 : Int32)) dX7_mayBe_68 (by decide) ?_
            refine wp_istore_n (Ms := [.ref 47, .int x1, .int x2, .int (0 : Int32), .int x4]) dX7_mayBe_69 rfl (by decide) rfl ?_
            refine wp_iinc (Ms := [.ref 47, .int x1, .int x2, .int (0 : Int32), .int (x4 + (1 : Int32))]) (v := x4 + (1 : Int32)) dX7_mayBe_70 rfl rfl (by decide) rfl ?_
            refine wp_goto (tgt := 22) dX7_mayBe_73 (by decide) ?_
            exact wp_le (Ms := [.ref 47, .int x1, .int x2, .int (0 : Int32), .int (x4 + (1 : Int32))]) ⟨Or.inr rfl, Or.inr rfl, Or.inr rfl, Or.inr rfl, Or.inr rfl, trivial⟩ h
          · have h := h.2 c
            refine wp_iconst (v := (1 : Int32)) dX7_mayBe_64 (by decide) ?_
            refine wp_goto (tgt := 69) dX7_mayBe_65 (by decide) ?_
            refine wp_istore_n (Ms := [.ref 47, .int x1, .int x2, .int (1 : Int32), .int x4]) dX7_mayBe_69 rfl (by decide) rfl ?_
            refine wp_iinc (Ms := [.ref 47, .int x1, .int x2, .int (1 : Int32), .int (x4 + (1 : Int32))]) (v := x4 + (1 : Int32)) dX7_mayBe_70 rfl rfl (by decide) rfl ?_
            refine wp_goto (tgt := 22) dX7_mayBe_73 (by decide) ?_
            exact wp_le (Ms := [.ref 47, .int x1, .int x2, .int (1 : Int32), .int (x4 + (1 : Int32))]) ⟨Or.inr rfl, Or.inr rfl, Or.inr rfl, Or.inr rfl, Or.inr rfl, trivial⟩ h
abbrev rX7_use : Room := { frames := 0, cells := 0, slots := 0, locals := 0 }
abbrev wX7_use (P : St → Prop) (pc : Nat) (Ls stk : List Value) (S : St) : Prop := Wp cX7_use RX7 4 rX7_use (wFV P) pc Ls stk (enc S)
abbrev tX7_use (a0 : Int32) (a1 : Int32) (S : St) (P : St → Prop) : Prop := wX7_use P 0 (wl_en [.ref 47, .int a0, .int a1] 4) [] S
set_option maxRecDepth 100000 in
theorem bX7_use_0 {P : St → Prop} {S : St} (a0 : Int32) (a1 : Int32) (h : wX7_use P 2 [.ref 47, .int a0, .int a1, .int (0 : Int32)] [] S) : tX7_use a0 a1 S P := by
  show wX7_use P 0 [.ref 47, .int a0, .int a1, .retAddr 0] [] S
  refine wp_iconst (v := (0 : Int32)) dX7_use_0 (by decide) ?_
  refine wp_istore_n (Ms := [.ref 47, .int a0, .int a1, .int (0 : Int32)]) dX7_use_1 rfl (by decide) rfl ?_
  exact wp_le (Ms := [.ref 47, .int a0, .int a1, .int (0 : Int32)]) ⟨Or.inr rfl, Or.inr rfl, Or.inr rfl, Or.inr rfl, trivial⟩ h
set_option maxRecDepth 100000 in
theorem bX7_use_2 {P : St → Prop} {S : St} (x1 : Int32) (x2 : Int32) (x3 : Int32) (h : (((S.1 8) ≤ x3 → P S) ∧ (¬ (S.1 8) ≤ x3 → vp_in x3 8 ∧ wX7_use P 2 [.ref 47, .int x1, .int x2, .int (x3 + (1 : Int32))] [] (sA S 28 (upd (S.2.2.1 28) x3.toNatClampNeg (((S.2.2.1 28) x3.toNatClampNeg) - (((x1 >>> (x3 &&& (31 : Int32))) &&& (1 : Int32)) * x2))))))) : wX7_use P 2 [.ref 47, .int x1, .int x2, .int x3] [] S := by
  refine wp_iload_n dX7_use_2 rfl rfl ?_
  refine wp_aload_n dX7_use_3 rfl rfl ?_
  refine wp_get (q := 47) dX7_use_4 fX7_7 rfl rfl ?_
  refine wp_icmp_ge (tgt := 32) dX7_use_7 (by decide) (fun c => ?_) (fun c => ?_)
  · have h := h.1 c
    exact wp_vret dX7_use_32 rfl ⟨_, rfl, rfl, h⟩
  · have h := h.2 c
    refine wp_aload_n dX7_use_10 rfl rfl ?_
    refine wp_get (q := 47) dX7_use_11 fX7_27 rfl rfl ?_
    refine wp_iload_n dX7_use_14 rfl rfl ?_
    refine wp_dup2 dX7_use_15 rfl rfl ?_
    obtain ⟨q1, h⟩ := h
    refine wp_iald2 (q := 52) (j := x3.toNatClampNeg) dX7_use_16 rfl q1 rfl ?_
    refine wp_iload_n dX7_use_17 rfl rfl ?_
    refine wp_iload_n dX7_use_18 rfl rfl ?_
    refine wp_ishr dX7_use_19 ?_
    refine wp_iconst (v := (1 : Int32)) dX7_use_20 (by decide) ?_
    refine wp_iand dX7_use_21 ?_
    refine wp_iload_n dX7_use_22 rfl rfl ?_
    refine wp_imul dX7_use_23 ?_
    refine wp_isub dX7_use_24 ?_
    refine wp_iast2 (q := 52) (j := x3.toNatClampNeg) (mh2 := enc (sA S 28 (upd (S.2.2.1 28) x3.toNatClampNeg (((S.2.2.1 28) x3.toNatClampNeg) - (((x1 >>> (x3 &&& (31 : Int32))) &&& (1 : Int32)) * x2))))) dX7_use_25 rfl q1 rfl (es_52 _ _) ?_
    refine wp_iinc (Ms := [.ref 47, .int x1, .int x2, .int (x3 + (1 : Int32))]) (v := x3 + (1 : Int32)) dX7_use_26 rfl rfl (by decide) rfl ?_
    refine wp_goto (tgt := 2) dX7_use_29 (by decide) ?_
    exact wp_le (Ms := [.ref 47, .int x1, .int x2, .int (x3 + (1 : Int32))]) ⟨Or.inr rfl, Or.inr rfl, Or.inr rfl, Or.inr rfl, trivial⟩ h
abbrev rX7_isAhead : Room := { frames := 0, cells := 0, slots := 0, locals := 0 }
abbrev wX7_isAhead (P : Int32 → St → Prop) (pc : Nat) (Ls stk : List Value) (S : St) : Prop := Wp cX7_isAhead RX7 3 rX7_isAhead (wFI .boolean P) pc Ls stk (enc S)
abbrev tX7_isAhead (a0 : Int32) (a1 : Int32) (S : St) (P : Int32 → St → Prop) : Prop := wX7_isAhead P 0 (wl_en [.int a0, .int a1] 3) [] S
set_option maxRecDepth 100000 in
theorem bX7_isAhead_0 {P : Int32 → St → Prop} {S : St} (a0 : Int32) (a1 : Int32) (h : ((((a0 &&& (a0 ^^^ a1)) &&& (-(a0 ^^^ a1))) = 0 → P (0 : Int32) S) ∧ (¬ ((a0 &&& (a0 ^^^ a1)) &&& (-(a0 ^^^ a1))) = 0 → P (1 : Int32) S))) : tX7_isAhead a0 a1 S P := by
  show wX7_isAhead P 0 [.int a0, .int a1, .retAddr 0] [] S
  refine wp_iload_n dX7_isAhead_0 rfl rfl ?_
  refine wp_iload_n dX7_isAhead_1 rfl rfl ?_
  refine wp_ixor dX7_isAhead_2 ?_
  refine wp_istore_n (Ms := [.int a0, .int a1, .int (a0 ^^^ a1)]) dX7_isAhead_3 rfl (by decide) rfl ?_
  refine wp_iload_n dX7_isAhead_4 rfl rfl ?_
  refine wp_iload_n dX7_isAhead_5 rfl rfl ?_
  refine wp_iand dX7_isAhead_6 ?_
  refine wp_iload_n dX7_isAhead_7 rfl rfl ?_
  refine wp_ineg dX7_isAhead_8 ?_
  refine wp_iand dX7_isAhead_9 ?_
  refine wp_if_eq (tgt := 17) dX7_isAhead_10 (by decide) (fun c => ?_) (fun c => ?_)
  · have h := h.1 c
    refine wp_iconst (v := (0 : Int32)) dX7_isAhead_17 (by decide) ?_
    exact wp_iret dX7_isAhead_18 rfl rfl ⟨_, _, rfl, rfl, h⟩
  · have h := h.2 c
    refine wp_iconst (v := (1 : Int32)) dX7_isAhead_13 (by decide) ?_
    refine wp_goto (tgt := 18) dX7_isAhead_14 (by decide) ?_
    exact wp_iret dX7_isAhead_18 rfl rfl ⟨_, _, rfl, rfl, h⟩
abbrev rX7_findPlan : Room := { frames := 4, cells := 0, slots := 0, locals := 94 }
abbrev wX7_findPlan (P : Int32 → St → Prop) (pc : Nat) (Ls stk : List Value) (S : St) : Prop := Wp cX7_findPlan RX7 4 rX7_findPlan (wFI .boolean P) pc Ls stk (enc S)
abbrev tX7_findPlan  (S : St) (P : Int32 → St → Prop) : Prop := wX7_findPlan P 0 (wl_en [.ref 47] 4) [] S
set_option maxRecDepth 100000 in
theorem bX7_findPlan_0 {P : Int32 → St → Prop} {S : St}  (h : wX7_findPlan P 2 [.ref 47, .int (0 : Int32), .retAddr 0, .retAddr 0] [] S) : tX7_findPlan  S P := by
  show wX7_findPlan P 0 [.ref 47, .retAddr 0, .retAddr 0, .retAddr 0] [] S
  refine wp_iconst (v := (0 : Int32)) dX7_findPlan_0 (by decide) ?_
  refine wp_istore_n (Ms := [.ref 47, .int (0 : Int32), .retAddr 0, .retAddr 0]) dX7_findPlan_1 rfl (by decide) rfl ?_
  exact wp_le (Ms := [.ref 47, .int (0 : Int32), .retAddr 0, .retAddr 0]) ⟨Or.inr rfl, Or.inr rfl, Or.inl rfl, Or.inl rfl, trivial⟩ h
set_option maxRecDepth 100000 in
theorem bX7_findPlan_2 {P : Int32 → St → Prop} {S : St} (x1 : Int32) (h : (((S.1 8) ≤ x1 → tX7_lackFrom (0 : Int32) S (fun r2 S1 => ((r2 ≤ 0 → wX7_findPlan P 40 [.ref 47, .int (0 : Int32), .retAddr 0, .retAddr 0] [] S1) ∧ (¬ r2 ≤ 0 → P (0 : Int32) S1)))) ∧ (¬ (S.1 8) ≤ x1 → vp_in x1 8 ∧ wX7_findPlan P 2 [.ref 47, .int (x1 + (1 : Int32)), .retAddr 0, .retAddr 0] [] (sA S 28 (upd (S.2.2.1 28) x1.toNatClampNeg ((S.2.2.1 25) 1)))))) : wX7_findPlan P 2 [.ref 47, .int x1, .retAddr 0, .retAddr 0] [] S := by
  refine wp_iload_n dX7_findPlan_2 rfl rfl ?_
  refine wp_aload_n dX7_findPlan_3 rfl rfl ?_
  refine wp_get (q := 47) dX7_findPlan_4 fX7_7 rfl rfl ?_
  refine wp_icmp_ge (tgt := 28) dX7_findPlan_7 (by decide) (fun c => ?_) (fun c => ?_)
  · have h := h.1 c
    refine wp_aload_n dX7_findPlan_28 rfl rfl ?_
    refine wp_iconst (v := (0 : Int32)) dX7_findPlan_29 (by decide) ?_
    refine wp_callV (q := 47) (As := [.int (0 : Int32)]) (rest := []) dX7_findPlan_30 mX7_lackFrom lX7_88 (by decide) rfl rfl rfl rfl (Nat.le_of_ble_eq_true rfl) (Nat.le_of_ble_eq_true rfl) h ?_
    rintro rv mh2 ⟨r2, S1, rfl, rfl, h⟩
    refine wp_if_le (tgt := 38) dX7_findPlan_33 (by decide) (fun c => ?_) (fun c => ?_)
    · have h := h.1 c
      refine wp_iconst (v := (0 : Int32)) dX7_findPlan_38 (by decide) ?_
      refine wp_istore_n (Ms := [.ref 47, .int (0 : Int32), .retAddr 0, .retAddr 0]) dX7_findPlan_39 rfl (by decide) rfl ?_
      exact wp_le (Ms := [.ref 47, .int (0 : Int32), .retAddr 0, .retAddr 0]) ⟨Or.inr rfl, Or.inr rfl, Or.inl rfl, Or.inl rfl, trivial⟩ h
    · have h := h.2 c
      refine wp_iconst (v := (0 : Int32)) dX7_findPlan_36 (by decide) ?_
      exact wp_iret dX7_findPlan_37 rfl rfl ⟨_, _, rfl, rfl, h⟩
  · have h := h.2 c
    refine wp_aload_n dX7_findPlan_10 rfl rfl ?_
    refine wp_get (q := 47) dX7_findPlan_11 fX7_27 rfl rfl ?_
    refine wp_iload_n dX7_findPlan_14 rfl rfl ?_
    refine wp_aload_n dX7_findPlan_15 rfl rfl ?_
    refine wp_get (q := 47) dX7_findPlan_16 fX7_17 rfl rfl ?_
    refine wp_iconst (v := (1 : Int32)) dX7_findPlan_19 (by decide) ?_
    refine wp_iald2 (q := 49) (j := 1) dX7_findPlan_20 rfl (vpd rfl) rfl ?_
    obtain ⟨q3, h⟩ := h
    refine wp_iast2 (q := 52) (j := x1.toNatClampNeg) (mh2 := enc (sA S 28 (upd (S.2.2.1 28) x1.toNatClampNeg ((S.2.2.1 25) 1)))) dX7_findPlan_21 rfl q3 rfl (es_52 _ _) ?_
    refine wp_iinc (Ms := [.ref 47, .int (x1 + (1 : Int32)), .retAddr 0, .retAddr 0]) (v := x1 + (1 : Int32)) dX7_findPlan_22 rfl rfl (by decide) rfl ?_
    refine wp_goto (tgt := 2) dX7_findPlan_25 (by decide) ?_
    exact wp_le (Ms := [.ref 47, .int (x1 + (1 : Int32)), .retAddr 0, .retAddr 0]) ⟨Or.inr rfl, Or.inr rfl, Or.inl rfl, Or.inl rfl, trivial⟩ h
set_option maxRecDepth 100000 in
theorem bX7_findPlan_40 {P : Int32 → St → Prop} {S : St} (x1 : Int32) (h : (((S.1 8) ≤ x1 → P (1 : Int32) S) ∧ (¬ (S.1 8) ≤ x1 → wX7_findPlan P 52 [.ref 47, .int x1, .int (0 : Int32), .int (1 : Int32)] [] S))) : wX7_findPlan P 40 [.ref 47, .int x1, .retAddr 0, .retAddr 0] [] S := by
  refine wp_iload_n dX7_findPlan_40 rfl rfl ?_
  refine wp_aload_n dX7_findPlan_41 rfl rfl ?_
  refine wp_get (q := 47) dX7_findPlan_42 fX7_7 rfl rfl ?_
  refine wp_icmp_ge (tgt := 136) dX7_findPlan_45 (by decide) (fun c => ?_) (fun c => ?_)
  · have h := h.1 c
    refine wp_iconst (v := (1 : Int32)) dX7_findPlan_136 (by decide) ?_
    exact wp_iret dX7_findPlan_137 rfl rfl ⟨_, _, rfl, rfl, h⟩
  · have h := h.2 c
    refine wp_iconst (v := (0 : Int32)) dX7_findPlan_48 (by decide) ?_
    refine wp_istore_n (Ms := [.ref 47, .int x1, .int (0 : Int32), .retAddr 0]) dX7_findPlan_49 rfl (by decide) rfl ?_
    refine wp_iconst (v := (1 : Int32)) dX7_findPlan_50 (by decide) ?_
    refine wp_istore_n (Ms := [.ref 47, .int x1, .int (0 : Int32), .int (1 : Int32)]) dX7_findPlan_51 rfl (by decide) rfl ?_
    exact wp_le (Ms := [.ref 47, .int x1, .int (0 : Int32), .int (1 : Int32)]) ⟨Or.inr rfl, Or.inr rfl, Or.inr rfl, Or.inr rfl, trivial⟩ h
set_option maxRecDepth 100000 in
theorem bX7_findPlan_52 {P : Int32 → St → Prop} {S : St} (x1 : Int32) (x2 : Int32) (x3 : Int32) (h : ((((1 : Int32) <<< ((S.1 8) &&& (31 : Int32))) ≤ x3 → vp_in x1 8 ∧ tX7_use x2 (1 : Int32) (sA S 29 (upd (S.2.2.1 29) x1.toNatClampNeg x2)) (fun S2 => wX7_findPlan P 40 [.ref 47, .int (x1 + (1 : Int32)), .retAddr 0, .retAddr 0] [] S2)) ∧ (¬ ((1 : Int32) <<< ((S.1 8) &&& (31 : Int32))) ≤ x3 → tX7_mayBe x1 x3 S (fun r4 S3 => ((r4 = 0 → wX7_findPlan P 52 [.ref 47, .int x1, .int x2, .int (x3 + (1 : Int32))] [] S3) ∧ (¬ r4 = 0 → ((x2 = 0 → tX7_use x3 (1 : Int32) S3 (fun S5 => tX7_lackFrom (x1 + (1 : Int32)) S5 (fun r7 S6 => ((¬ r7 = 0 → tX7_use x3 (-1 : Int32) S6 (fun S8 => wX7_findPlan P 52 [.ref 47, .int x1, .int x2, .int (x3 + (1 : Int32))] [] S8)) ∧ (r7 = 0 → tX7_use x3 (-1 : Int32) S6 (fun S9 => wX7_findPlan P 52 [.ref 47, .int x1, .int x3, .int (x3 + (1 : Int32))] [] S9)))))) ∧ (¬ x2 = 0 → tX7_isAhead x3 x2 S3 (fun r11 S10 => ((r11 = 0 → wX7_findPlan P 52 [.ref 47, .int x1, .int x2, .int (x3 + (1 : Int32))] [] S10) ∧ (¬ r11 = 0 → tX7_use x3 (1 : Int32) S10 (fun S12 => tX7_lackFrom (x1 + (1 : Int32)) S12 (fun r14 S13 => ((¬ r14 = 0 → tX7_use x3 (-1 : Int32) S13 (fun S15 => wX7_findPlan P 52 [.ref 47, .int x1, .int x2, .int (x3 + (1 : Int32))] [] S15)) ∧ (r14 = 0 → tX7_use x3 (-1 : Int32) S13 (fun S16 => wX7_findPlan P 52 [.ref 47, .int x1, .int x3, .int (x3 + (1 : Int32))] [] S16)))))))))))))))) : wX7_findPlan P 52 [.ref 47, .int x1, .int x2, .int x3] [] S := by
  refine wp_iload_n dX7_findPlan_52 rfl rfl ?_
  refine wp_iconst (v := (1 : Int32)) dX7_findPlan_53 (by decide) ?_
  refine wp_aload_n dX7_findPlan_54 rfl rfl ?_
  refine wp_get (q := 47) dX7_findPlan_55 fX7_7 rfl rfl ?_
  refine wp_ishl dX7_findPlan_58 ?_
  refine wp_icmp_ge (tgt := 117) dX7_findPlan_59 (by decide) (fun c => ?_) (fun c => ?_)
  · have h := h.1 c
    refine wp_aload_n dX7_findPlan_117 rfl rfl ?_
    refine wp_get (q := 47) dX7_findPlan_118 fX7_30 rfl rfl ?_
    refine wp_iload_n dX7_findPlan_121 rfl rfl ?_
    refine wp_iload_n dX7_findPlan_122 rfl rfl ?_
    obtain ⟨q1, h⟩ := h
    refine wp_iast2 (q := 53) (j := x1.toNatClampNeg) (mh2 := enc (sA S 29 (upd (S.2.2.1 29) x1.toNatClampNeg x2))) dX7_findPlan_123 rfl q1 rfl (es_53 _ _) ?_
    refine wp_aload_n dX7_findPlan_124 rfl rfl ?_
    refine wp_iload_n dX7_findPlan_125 rfl rfl ?_
    refine wp_iconst (v := (1 : Int32)) dX7_findPlan_126 (by decide) ?_
    refine wp_callV (q := 47) (As := [.int x2, .int (1 : Int32)]) (rest := []) dX7_findPlan_127 mX7_use lX7_97 (by decide) rfl rfl rfl rfl (Nat.le_of_ble_eq_true rfl) (Nat.le_of_ble_eq_true rfl) h ?_
    rintro rv mh2 ⟨S2, rfl, rfl, h⟩
    refine wp_iinc (Ms := [.ref 47, .int (x1 + (1 : Int32)), .int x2, .int x3]) (v := x1 + (1 : Int32)) dX7_findPlan_130 rfl rfl (by decide) rfl ?_
    refine wp_goto (tgt := 40) dX7_findPlan_133 (by decide) ?_
    exact wp_le (Ms := [.ref 47, .int (x1 + (1 : Int32)), .retAddr 0, .retAddr 0]) ⟨Or.inr rfl, Or.inr rfl, Or.inl rfl, Or.inl rfl, trivial⟩ h
  · have h := h.2 c
    refine wp_aload_n dX7_findPlan_62 rfl rfl ?_
    refine wp_iload_n dX7_findPlan_63 rfl rfl ?_
    refine wp_iload_n dX7_findPlan_64 rfl rfl ?_
    refine wp_callV (q := 47) (As := [.int x1, .int x3]) (rest := []) dX7_findPlan_65 mX7_mayBe lX7_91 (by decide) rfl rfl rfl rfl (Nat.le_of_ble_eq_true rfl) (Nat.le_of_ble_eq_true rfl) h ?_
    rintro rv mh2 ⟨r4, S3, rfl, rfl, h⟩
    refine wp_if_eq (tgt := 111) dX7_findPlan_68 (by decide) (fun c => ?_) (fun c => ?_)
    · have h := h.1 c
      refine wp_iinc (Ms := [.ref 47, .int x1, .int x2, .int (x3 + (1 : Int32))]) (v := x3 + (1 : Int32)) dX7_findPlan_111 rfl rfl (by decide) rfl ?_
      refine wp_goto (tgt := 52) dX7_findPlan_114 (by decide) ?_
      exact wp_le (Ms := [.ref 47, .int x1, .int x2, .int (x3 + (1 : Int32))]) ⟨Or.inr rfl, Or.inr rfl, Or.inr rfl, Or.inr rfl, trivial⟩ h
    · have h := h.2 c
      refine wp_iload_n dX7_findPlan_71 rfl rfl ?_
      refine wp_if_eq (tgt := 83) dX7_findPlan_72 (by decide) (fun c => ?_) (fun c => ?_)
      · have h := h.1 c
        refine wp_aload_n dX7_findPlan_83 rfl rfl ?_
        refine wp_iload_n dX7_findPlan_84 rfl rfl ?_
        refine wp_iconst (v := (1 : Int32)) dX7_findPlan_85 (by decide) ?_
        refine wp_callV (q := 47) (As := [.int x3, .int (1 : Int32)]) (rest := []) dX7_findPlan_86 mX7_use lX7_97 (by decide) rfl rfl rfl rfl (Nat.le_of_ble_eq_true rfl) (Nat.le_of_ble_eq_true rfl) h ?_
        rintro rv mh2 ⟨S5, rfl, rfl, h⟩
        refine wp_aload_n dX7_findPlan_89 rfl rfl ?_
        refine wp_iload_n dX7_findPlan_90 rfl rfl ?_
        refine wp_iconst (v := (1 : Int32)) dX7_findPlan_91 (by decide) ?_
        refine wp_iadd dX7_findPlan_92 ?_
        refine wp_callV (q := 47) (As := [.int (x1 + (1 : Int32))]) (rest := []) dX7_findPlan_93 mX7_lackFrom lX7_88 (by decide) rfl rfl rfl rfl (Nat.le_of_ble_eq_true rfl) (Nat.le_of_ble_eq_true rfl) h ?_
        rintro rv mh2 ⟨r7, S6, rfl, rfl, h⟩
        refine wp_if_ne (tgt := 103) dX7_findPlan_96 (by decide) (fun c => ?_) (fun c => ?_)
        · have h := h.1 c
          refine wp_iload_n dX7_findPlan_103 rfl rfl ?_
          refine wp_istore_n (Ms := [.ref 47, .int x1, .int x2, .int x3]) dX7_findPlan_104 rfl (by decide) rfl ?_
          refine wp_aload_n dX7_findPlan_105 rfl rfl ?_
          refine wp_iload_n dX7_findPlan_106 rfl rfl ?_
          refine wp_iconst (v := (-1 : Int32)) dX7_findPlan_107 (by decide) ?_
          refine wp_callV (q := 47) (As := [.int x3, .int (-1 : Int32)]) (rest := []) dX7_findPlan_108 mX7_use lX7_97 (by decide) rfl rfl rfl rfl (Nat.le_of_ble_eq_true rfl) (Nat.le_of_ble_eq_true rfl) h ?_
          rintro rv mh2 ⟨S8, rfl, rfl, h⟩
          refine wp_iinc (Ms := [.ref 47, .int x1, .int x2, .int (x3 + (1 : Int32))]) (v := x3 + (1 : Int32)) dX7_findPlan_111 rfl rfl (by decide) rfl ?_
          refine wp_goto (tgt := 52) dX7_findPlan_114 (by decide) ?_
          exact wp_le (Ms := [.ref 47, .int x1, .int x2, .int (x3 + (1 : Int32))]) ⟨Or.inr rfl, Or.inr rfl, Or.inr rfl, Or.inr rfl, trivial⟩ h
        · have h := h.2 c
          refine wp_iload_n dX7_findPlan_99 rfl rfl ?_
          refine wp_goto (tgt := 104) dX7_findPlan_100 (by decide) ?_
          refine wp_istore_n (Ms := [.ref 47, .int x1, .int x3, .int x3]) dX7_findPlan_104 rfl (by decide) rfl ?_
          refine wp_aload_n dX7_findPlan_105 rfl rfl ?_
          refine wp_iload_n dX7_findPlan_106 rfl rfl ?_
          refine wp_iconst (v := (-1 : Int32)) dX7_findPlan_107 (by decide) ?_
          refine wp_callV (q := 47) (As := [.int x3, .int (-1 : Int32)]) (rest := []) dX7_findPlan_108 mX7_use lX7_97 (by decide) rfl rfl rfl rfl (Nat.le_of_ble_eq_true rfl) (Nat.le_of_ble_eq_true rfl) h ?_
          rintro rv mh2 ⟨S9, rfl, rfl, h⟩
          refine wp_iinc (Ms := [.ref 47, .int x1, .int x3, .int (x3 + (1 : Int32))]) (v := x3 + (1 : Int32)) dX7_findPlan_111 rfl rfl (by decide) rfl ?_
          refine wp_goto (tgt := 52) dX7_findPlan_114 (by decide) ?_
          exact wp_le (Ms := [.ref 47, .int x1, .int x3, .int (x3 + (1 : Int32))]) ⟨Or.inr rfl, Or.inr rfl, Or.inr rfl, Or.inr rfl, trivial⟩ h
      · have h := h.2 c
        refine wp_iload_n dX7_findPlan_75 rfl rfl ?_
        refine wp_iload_n dX7_findPlan_76 rfl rfl ?_
        refine wp_callS (As := [.int x3, .int x2]) (rest := []) dX7_findPlan_77 mX7_isAhead lX7_94 (by decide) rfl rfl (Nat.le_of_ble_eq_true rfl) (Nat.le_of_ble_eq_true rfl) h ?_
        rintro rv mh2 ⟨r11, S10, rfl, rfl, h⟩
        refine wp_if_eq (tgt := 111) dX7_findPlan_80 (by decide) (fun c => ?_) (fun c => ?_)
        · have h := h.1 c
          refine wp_iinc (Ms := [.ref 47, .int x1, .int x2, .int (x3 + (1 : Int32))]) (v := x3 + (1 : Int32)) dX7_findPlan_111 rfl rfl (by decide) rfl ?_
          refine wp_goto (tgt := 52) dX7_findPlan_114 (by decide) ?_
          exact wp_le (Ms := [.ref 47, .int x1, .int x2, .int (x3 + (1 : Int32))]) ⟨Or.inr rfl, Or.inr rfl, Or.inr rfl, Or.inr rfl, trivial⟩ h
        · have h := h.2 c
          refine wp_aload_n dX7_findPlan_83 rfl rfl ?_
          refine wp_iload_n dX7_findPlan_84 rfl rfl ?_
          refine wp_iconst (v := (1 : Int32)) dX7_findPlan_85 (by decide) ?_
          refine wp_callV (q := 47) (As := [.int x3, .int (1 : Int32)]) (rest := []) dX7_findPlan_86 mX7_use lX7_97 (by decide) rfl rfl rfl rfl (Nat.le_of_ble_eq_true rfl) (Nat.le_of_ble_eq_true rfl) h ?_
          rintro rv mh2 ⟨S12, rfl, rfl, h⟩
          refine wp_aload_n dX7_findPlan_89 rfl rfl ?_
          refine wp_iload_n dX7_findPlan_90 rfl rfl ?_
          refine wp_iconst (v := (1 : Int32)) dX7_findPlan_91 (by decide) ?_
          refine wp_iadd dX7_findPlan_92 ?_
          refine wp_callV (q := 47) (As := [.int (x1 + (1 : Int32))]) (rest := []) dX7_findPlan_93 mX7_lackFrom lX7_88 (by decide) rfl rfl rfl rfl (Nat.le_of_ble_eq_true rfl) (Nat.le_of_ble_eq_true rfl) h ?_
          rintro rv mh2 ⟨r14, S13, rfl, rfl, h⟩
          refine wp_if_ne (tgt := 103) dX7_findPlan_96 (by decide) (fun c => ?_) (fun c => ?_)
          · have h := h.1 c
            refine wp_iload_n dX7_findPlan_103 rfl rfl ?_
            refine wp_istore_n (Ms := [.ref 47, .int x1, .int x2, .int x3]) dX7_findPlan_104 rfl (by decide) rfl ?_
            refine wp_aload_n dX7_findPlan_105 rfl rfl ?_
            refine wp_iload_n dX7_findPlan_106 rfl rfl ?_
            refine wp_iconst (v := (-1 : Int32)) dX7_findPlan_107 (by decide) ?_
            refine wp_callV (q := 47) (As := [.int x3, .int (-1 : Int32)]) (rest := []) dX7_findPlan_108 mX7_use lX7_97 (by decide) rfl rfl rfl rfl (Nat.le_of_ble_eq_true rfl) (Nat.le_of_ble_eq_true rfl) h ?_
            rintro rv mh2 ⟨S15, rfl, rfl, h⟩
            refine wp_iinc (Ms := [.ref 47, .int x1, .int x2, .int (x3 + (1 : Int32))]) (v := x3 + (1 : Int32)) dX7_findPlan_111 rfl rfl (by decide) rfl ?_
            refine wp_goto (tgt := 52) dX7_findPlan_114 (by decide) ?_
            exact wp_le (Ms := [.ref 47, .int x1, .int x2, .int (x3 + (1 : Int32))]) ⟨Or.inr rfl, Or.inr rfl, Or.inr rfl, Or.inr rfl, trivial⟩ h
          · have h := h.2 c
            refine wp_iload_n dX7_findPlan_99 rfl rfl ?_
            refine wp_goto (tgt := 104) dX7_findPlan_100 (by decide) ?_
            refine wp_istore_n (Ms := [.ref 47, .int x1, .int x3, .int x3]) dX7_findPlan_104 rfl (by decide) rfl ?_
            refine wp_aload_n dX7_findPlan_105 rfl rfl ?_
            refine wp_iload_n dX7_findPlan_106 rfl rfl ?_
            refine wp_iconst (v := (-1 : Int32)) dX7_findPlan_107 (by decide) ?_
            refine wp_callV (q := 47) (As := [.int x3, .int (-1 : Int32)]) (rest := []) dX7_findPlan_108 mX7_use lX7_97 (by decide) rfl rfl rfl rfl (Nat.le_of_ble_eq_true rfl) (Nat.le_of_ble_eq_true rfl) h ?_
            rintro rv mh2 ⟨S16, rfl, rfl, h⟩
            refine wp_iinc (Ms := [.ref 47, .int x1, .int x3, .int (x3 + (1 : Int32))]) (v := x3 + (1 : Int32)) dX7_findPlan_111 rfl rfl (by decide) rfl ?_
            refine wp_goto (tgt := 52) dX7_findPlan_114 (by decide) ?_
            exact wp_le (Ms := [.ref 47, .int x1, .int x3, .int (x3 + (1 : Int32))]) ⟨Or.inr rfl, Or.inr rfl, Or.inr rfl, Or.inr rfl, trivial⟩ h
abbrev rX7_plan : Room := { frames := 5, cells := 0, slots := 0, locals := 117 }
abbrev wX7_plan (P : Int32 → St → Prop) (pc : Nat) (Ls stk : List Value) (S : St) : Prop := Wp cX7_plan RX7 2 rX7_plan (wFI .int P) pc Ls stk (enc S)
abbrev tX7_plan (a0 : Int32) (S : St) (P : Int32 → St → Prop) : Prop := wX7_plan P 0 (wl_en [.ref 47, .int a0] 2) [] S
set_option maxRecDepth 100000 in
theorem bX7_plan_0 {P : Int32 → St → Prop} {S : St} (a0 : Int32) (h : tX7_is a0 S (fun r2 S1 => ((¬ r2 = 0 → tX7_findPlan  S1 (fun r4 S3 => ((r4 = 0 → P (-1003 : Int32) S3) ∧ (¬ r4 = 0 → vp_in a0 8 ∧ P ((S3.2.2.1 29) a0.toNatClampNeg) S3)))) ∧ (r2 = 0 → P (-1001 : Int32) S1)))) : tX7_plan a0 S P := by
  show wX7_plan P 0 [.ref 47, .int a0] [] S
  refine wp_aload_n dX7_plan_0 rfl rfl ?_
  refine wp_iload_n dX7_plan_1 rfl rfl ?_
  refine wp_callV (q := 47) (As := [.int a0]) (rest := []) dX7_plan_2 mX7_is lX7_69 (by decide) rfl rfl rfl rfl (Nat.le_of_ble_eq_true rfl) (Nat.le_of_ble_eq_true rfl) h ?_
  rintro rv mh2 ⟨r2, S1, rfl, rfl, h⟩
  refine wp_if_ne (tgt := 14) dX7_plan_5 (by decide) (fun c => ?_) (fun c => ?_)
  · have h := h.1 c
    refine wp_aload_n dX7_plan_14 rfl rfl ?_
    refine wp_callV (q := 47) (As := []) (rest := []) dX7_plan_15 mX7_findPlan lX7_101 (by decide) rfl rfl rfl rfl (Nat.le_of_ble_eq_true rfl) (Nat.le_of_ble_eq_true rfl) h ?_
    rintro rv mh2 ⟨r4, S3, rfl, rfl, h⟩
    refine wp_if_eq (tgt := 30) dX7_plan_18 (by decide) (fun c => ?_) (fun c => ?_)
    · have h := h.1 c
      refine wp_sipush (v := (-1003 : Int32)) dX7_plan_30 (by decide) ?_
      exact wp_iret dX7_plan_33 rfl rfl ⟨_, _, rfl, rfl, h⟩
    · have h := h.2 c
      refine wp_aload_n dX7_plan_21 rfl rfl ?_
      refine wp_get (q := 47) dX7_plan_22 fX7_30 rfl rfl ?_
      refine wp_iload_n dX7_plan_25 rfl rfl ?_
      obtain ⟨q5, h⟩ := h
      refine wp_iald2 (q := 53) (j := a0.toNatClampNeg) dX7_plan_26 rfl q5 rfl ?_
      refine wp_goto (tgt := 33) dX7_plan_27 (by decide) ?_
      exact wp_iret dX7_plan_33 rfl rfl ⟨_, _, rfl, rfl, h⟩
  · have h := h.2 c
    refine wp_sipush (v := (-1001 : Int32)) dX7_plan_8 (by decide) ?_
    refine wp_goto (tgt := 33) dX7_plan_11 (by decide) ?_
    exact wp_iret dX7_plan_33 rfl rfl ⟨_, _, rfl, rfl, h⟩
abbrev rX7_shared : Room := { frames := 5, cells := 0, slots := 0, locals := 117 }
abbrev wX7_shared (P : Int32 → St → Prop) (pc : Nat) (Ls stk : List Value) (S : St) : Prop := Wp cX7_shared RX7 2 rX7_shared (wFI .int P) pc Ls stk (enc S)
abbrev tX7_shared (a0 : Int32) (S : St) (P : Int32 → St → Prop) : Prop := wX7_shared P 0 (wl_en [.ref 47, .int a0] 2) [] S
set_option maxRecDepth 100000 in
theorem bX7_shared_0 {P : Int32 → St → Prop} {S : St} (a0 : Int32) (h : tX7_is a0 S (fun r2 S1 => ((¬ r2 = 0 → tX7_findPlan  S1 (fun r4 S3 => ((r4 = 0 → P (-1003 : Int32) S3) ∧ (¬ r4 = 0 → vp_in a0 8 ∧ P (((S3.2.2.1 25) 1) - ((S3.2.2.1 28) a0.toNatClampNeg)) S3)))) ∧ (r2 = 0 → P (-1001 : Int32) S1)))) : tX7_shared a0 S P := by
  show wX7_shared P 0 [.ref 47, .int a0] [] S
  refine wp_aload_n dX7_shared_0 rfl rfl ?_
  refine wp_iload_n dX7_shared_1 rfl rfl ?_
  refine wp_callV (q := 47) (As := [.int a0]) (rest := []) dX7_shared_2 mX7_is lX7_69 (by decide) rfl rfl rfl rfl (Nat.le_of_ble_eq_true rfl) (Nat.le_of_ble_eq_true rfl) h ?_
  rintro rv mh2 ⟨r2, S1, rfl, rfl, h⟩
  refine wp_if_ne (tgt := 14) dX7_shared_5 (by decide) (fun c => ?_) (fun c => ?_)
  · have h := h.1 c
    refine wp_aload_n dX7_shared_14 rfl rfl ?_
    refine wp_callV (q := 47) (As := []) (rest := []) dX7_shared_15 mX7_findPlan lX7_101 (by decide) rfl rfl rfl rfl (Nat.le_of_ble_eq_true rfl) (Nat.le_of_ble_eq_true rfl) h ?_
    rintro rv mh2 ⟨r4, S3, rfl, rfl, h⟩
    refine wp_if_eq (tgt := 37) dX7_shared_18 (by decide) (fun c => ?_) (fun c => ?_)
    · have h := h.1 c
      refine wp_sipush (v := (-1003 : Int32)) dX7_shared_37 (by decide) ?_
      exact wp_iret dX7_shared_40 rfl rfl ⟨_, _, rfl, rfl, h⟩
    · have h := h.2 c
      refine wp_aload_n dX7_shared_21 rfl rfl ?_
      refine wp_get (q := 47) dX7_shared_22 fX7_17 rfl rfl ?_
      refine wp_iconst (v := (1 : Int32)) dX7_shared_25 (by decide) ?_
      refine wp_iald2 (q := 49) (j := 1) dX7_shared_26 rfl (vpd rfl) rfl ?_
      refine wp_aload_n dX7_shared_27 rfl rfl ?_
      refine wp_get (q := 47) dX7_shared_28 fX7_27 rfl rfl ?_
      refine wp_iload_n dX7_shared_31 rfl rfl ?_
      obtain ⟨q5, h⟩ := h
      refine wp_iald2 (q := 52) (j := a0.toNatClampNeg) dX7_shared_32 rfl q5 rfl ?_
      refine wp_isub dX7_shared_33 ?_
      refine wp_goto (tgt := 40) dX7_shared_34 (by decide) ?_
      exact wp_iret dX7_shared_40 rfl rfl ⟨_, _, rfl, rfl, h⟩
  · have h := h.2 c
    refine wp_sipush (v := (-1001 : Int32)) dX7_shared_8 (by decide) ?_
    refine wp_goto (tgt := 40) dX7_shared_11 (by decide) ?_
    exact wp_iret dX7_shared_40 rfl rfl ⟨_, _, rfl, rfl, h⟩
abbrev rX7_lack : Room := { frames := 4, cells := 0, slots := 0, locals := 94 }
abbrev wX7_lack (P : Int32 → St → Prop) (pc : Nat) (Ls stk : List Value) (S : St) : Prop := Wp cX7_lack RX7 2 rX7_lack (wFI .int P) pc Ls stk (enc S)
abbrev tX7_lack  (S : St) (P : Int32 → St → Prop) : Prop := wX7_lack P 0 (wl_en [.ref 47] 2) [] S
set_option maxRecDepth 100000 in
theorem bX7_lack_0 {P : Int32 → St → Prop} {S : St}  (h : wX7_lack P 2 [.ref 47, .int (0 : Int32)] [] S) : tX7_lack  S P := by
  show wX7_lack P 0 [.ref 47, .retAddr 0] [] S
  refine wp_iconst (v := (0 : Int32)) dX7_lack_0 (by decide) ?_
  refine wp_istore_n (Ms := [.ref 47, .int (0 : Int32)]) dX7_lack_1 rfl (by decide) rfl ?_
  exact wp_le (Ms := [.ref 47, .int (0 : Int32)]) ⟨Or.inr rfl, Or.inr rfl, trivial⟩ h
set_option maxRecDepth 100000 in
theorem bX7_lack_2 {P : Int32 → St → Prop} {S : St} (x1 : Int32) (h : (((S.1 8) ≤ x1 → tX7_lackFrom (0 : Int32) S (fun r2 S1 => P r2 S1)) ∧ (¬ (S.1 8) ≤ x1 → vp_in x1 8 ∧ wX7_lack P 2 [.ref 47, .int (x1 + (1 : Int32))] [] (sA S 28 (upd (S.2.2.1 28) x1.toNatClampNeg ((S.2.2.1 25) 1)))))) : wX7_lack P 2 [.ref 47, .int x1] [] S := by
  refine wp_iload_n dX7_lack_2 rfl rfl ?_
  refine wp_aload_n dX7_lack_3 rfl rfl ?_
  refine wp_get (q := 47) dX7_lack_4 fX7_7 rfl rfl ?_
  refine wp_icmp_ge (tgt := 28) dX7_lack_7 (by decide) (fun c => ?_) (fun c => ?_)
  · have h := h.1 c
    refine wp_aload_n dX7_lack_28 rfl rfl ?_
    refine wp_iconst (v := (0 : Int32)) dX7_lack_29 (by decide) ?_
    refine wp_callV (q := 47) (As := [.int (0 : Int32)]) (rest := []) dX7_lack_30 mX7_lackFrom lX7_88 (by decide) rfl rfl rfl rfl (Nat.le_of_ble_eq_true rfl) (Nat.le_of_ble_eq_true rfl) h ?_
    rintro rv mh2 ⟨r2, S1, rfl, rfl, h⟩
    exact wp_iret dX7_lack_33 rfl rfl ⟨_, _, rfl, rfl, h⟩
  · have h := h.2 c
    refine wp_aload_n dX7_lack_10 rfl rfl ?_
    refine wp_get (q := 47) dX7_lack_11 fX7_27 rfl rfl ?_
    refine wp_iload_n dX7_lack_14 rfl rfl ?_
    refine wp_aload_n dX7_lack_15 rfl rfl ?_
    refine wp_get (q := 47) dX7_lack_16 fX7_17 rfl rfl ?_
    refine wp_iconst (v := (1 : Int32)) dX7_lack_19 (by decide) ?_
    refine wp_iald2 (q := 49) (j := 1) dX7_lack_20 rfl (vpd rfl) rfl ?_
    obtain ⟨q3, h⟩ := h
    refine wp_iast2 (q := 52) (j := x1.toNatClampNeg) (mh2 := enc (sA S 28 (upd (S.2.2.1 28) x1.toNatClampNeg ((S.2.2.1 25) 1)))) dX7_lack_21 rfl q3 rfl (es_52 _ _) ?_
    refine wp_iinc (Ms := [.ref 47, .int (x1 + (1 : Int32))]) (v := x1 + (1 : Int32)) dX7_lack_22 rfl rfl (by decide) rfl ?_
    refine wp_goto (tgt := 2) dX7_lack_25 (by decide) ?_
    exact wp_le (Ms := [.ref 47, .int (x1 + (1 : Int32))]) ⟨Or.inr rfl, Or.inr rfl, trivial⟩ h
abbrev rX7_spread : Room := { frames := 0, cells := 0, slots := 0, locals := 0 }
abbrev wX7_spread (P : St → Prop) (pc : Nat) (Ls stk : List Value) (S : St) : Prop := Wp cX7_spread RX7 4 rX7_spread (wFV P) pc Ls stk (enc S)
abbrev tX7_spread (a0 : Int32) (a1 : Int32) (S : St) (P : St → Prop) : Prop := wX7_spread P 0 (wl_en [.ref 47, .int a0, .int a1] 4) [] S
set_option maxRecDepth 100000 in
theorem bX7_spread_0 {P : St → Prop} {S : St} (a0 : Int32) (a1 : Int32) (h : wX7_spread P 2 [.ref 47, .int a0, .int a1, .int (0 : Int32)] [] S) : tX7_spread a0 a1 S P := by
  show wX7_spread P 0 [.ref 47, .int a0, .int a1, .retAddr 0] [] S
  refine wp_iconst (v := (0 : Int32)) dX7_spread_0 (by decide) ?_
  refine wp_istore_n (Ms := [.ref 47, .int a0, .int a1, .int (0 : Int32)]) dX7_spread_1 rfl (by decide) rfl ?_
  exact wp_le (Ms := [.ref 47, .int a0, .int a1, .int (0 : Int32)]) ⟨Or.inr rfl, Or.inr rfl, Or.inr rfl, Or.inr rfl, trivial⟩ h
set_option maxRecDepth 100000 in
theorem bX7_spread_2 {P : St → Prop} {S : St} (x1 : Int32) (x2 : Int32) (x3 : Int32) (h : (((16 : Int32) ≤ x3 → P S) ∧ (¬ (16 : Int32) ≤ x3 → vp_in x3 16 ∧ ((¬ ((S.2.2.1 30) x3.toNatClampNeg) = x1 → wX7_spread P 2 [.ref 47, .int x1, .int x2, .int (x3 + (1 : Int32))] [] (sA S 30 (upd (S.2.2.1 30) x3.toNatClampNeg ((S.2.2.1 30) x3.toNatClampNeg)))) ∧ (((S.2.2.1 30) x3.toNatClampNeg) = x1 → wX7_spread P 2 [.ref 47, .int x1, .int x2, .int (x3 + (1 : Int32))] [] (sA S 30 (upd (S.2.2.1 30) x3.toNatClampNeg x2))))))) : wX7_spread P 2 [.ref 47, .int x1, .int x2, .int x3] [] S := by
  refine wp_iload_n dX7_spread_2 rfl rfl ?_
  refine wp_bipush (v := (16 : Int32)) dX7_spread_3 (by decide) ?_
  refine wp_icmp_ge (tgt := 40) dX7_spread_5 (by decide) (fun c => ?_) (fun c => ?_)
  · have h := h.1 c
    exact wp_vret dX7_spread_40 rfl ⟨_, rfl, rfl, h⟩
  · have h := h.2 c
    refine wp_aload_n dX7_spread_8 rfl rfl ?_
    refine wp_get (q := 47) dX7_spread_9 fX7_33 rfl rfl ?_
    refine wp_iload_n dX7_spread_12 rfl rfl ?_
    refine wp_aload_n dX7_spread_13 rfl rfl ?_
    refine wp_get (q := 47) dX7_spread_14 fX7_33 rfl rfl ?_
    refine wp_iload_n dX7_spread_17 rfl rfl ?_
    obtain ⟨q1, h⟩ := h
    refine wp_iald2 (q := 54) (j := x3.toNatClampNeg) dX7_spread_18 rfl q1 rfl ?_
    refine wp_iload_n dX7_spread_19 rfl rfl ?_
    refine wp_icmp_ne (tgt := 27) dX7_spread_20 (by decide) (fun c => ?_) (fun c => ?_)
    · have h := h.1 c
      refine wp_aload_n dX7_spread_27 rfl rfl ?_
      refine wp_get (q := 47) dX7_spread_28 fX7_33 rfl rfl ?_
      refine wp_iload_n dX7_spread_31 rfl rfl ?_
      refine wp_iald2 (q := 54) (j := x3.toNatClampNeg) dX7_spread_32 rfl q1 rfl ?_
      refine wp_iast2 (q := 54) (j := x3.toNatClampNeg) (mh2 := enc (sA S 30 (upd (S.2.2.1 30) x3.toNatClampNeg ((S.2.2.1 30) x3.toNatClampNeg)))) dX7_spread_33 rfl q1 rfl (es_54 _ _) ?_
      refine wp_iinc (Ms := [.ref 47, .int x1, .int x2, .int (x3 + (1 : Int32))]) (v := x3 + (1 : Int32)) dX7_spread_34 rfl rfl (by decide) rfl ?_
      refine wp_goto (tgt := 2) dX7_spread_37 (by decide) ?_
      exact wp_le (Ms := [.ref 47, .int x1, .int x2, .int (x3 + (1 : Int32))]) ⟨Or.inr rfl, Or.inr rfl, Or.inr rfl, Or.inr rfl, trivial⟩ h
    · have h := h.2 c
      refine wp_iload_n dX7_spread_23 rfl rfl ?_
      refine wp_goto (tgt := 33) dX7_spread_24 (by decide) ?_
      refine wp_iast2 (q := 54) (j := x3.toNatClampNeg) (mh2 := enc (sA S 30 (upd (S.2.2.1 30) x3.toNatClampNeg x2))) dX7_spread_33 rfl q1 rfl (es_54 _ _) ?_
      refine wp_iinc (Ms := [.ref 47, .int x1, .int x2, .int (x3 + (1 : Int32))]) (v := x3 + (1 : Int32)) dX7_spread_34 rfl rfl (by decide) rfl ?_
      refine wp_goto (tgt := 2) dX7_spread_37 (by decide) ?_
      exact wp_le (Ms := [.ref 47, .int x1, .int x2, .int (x3 + (1 : Int32))]) ⟨Or.inr rfl, Or.inr rfl, Or.inr rfl, Or.inr rfl, trivial⟩ h
abbrev rX7_join : Room := { frames := 1, cells := 0, slots := 0, locals := 23 }
abbrev wX7_join (P : St → Prop) (pc : Nat) (Ls stk : List Value) (S : St) : Prop := Wp cX7_join RX7 5 rX7_join (wFV P) pc Ls stk (enc S)
abbrev tX7_join (a0 : Int32) (a1 : Int32) (S : St) (P : St → Prop) : Prop := wX7_join P 0 (wl_en [.ref 47, .int a0, .int a1] 5) [] S
set_option maxRecDepth 100000 in
theorem bX7_join_0 {P : St → Prop} {S : St} (a0 : Int32) (a1 : Int32) (h : vp_in a1 16 ∧ vp_in ((8 : Int32) + a0) 16 ∧ ((((S.2.2.1 30) a1.toNatClampNeg) ≤ ((S.2.2.1 30) ((8 : Int32) + a0).toNatClampNeg) → ((((S.2.2.1 30) a1.toNatClampNeg) ≤ ((S.2.2.1 30) ((8 : Int32) + a0).toNatClampNeg) → tX7_spread ((S.2.2.1 30) ((8 : Int32) + a0).toNatClampNeg) ((S.2.2.1 30) a1.toNatClampNeg) S (fun S3 => P S3)) ∧ (¬ ((S.2.2.1 30) a1.toNatClampNeg) ≤ ((S.2.2.1 30) ((8 : Int32) + a0).toNatClampNeg) → tX7_spread ((S.2.2.1 30) ((8 : Int32) + a0).toNatClampNeg) ((S.2.2.1 30) ((8 : Int32) + a0).toNatClampNeg) S (fun S4 => P S4)))) ∧ (¬ ((S.2.2.1 30) a1.toNatClampNeg) ≤ ((S.2.2.1 30) ((8 : Int32) + a0).toNatClampNeg) → ((((S.2.2.1 30) a1.toNatClampNeg) ≤ ((S.2.2.1 30) ((8 : Int32) + a0).toNatClampNeg) → tX7_spread ((S.2.2.1 30) a1.toNatClampNeg) ((S.2.2.1 30) a1.toNatClampNeg) S (fun S5 => P S5)) ∧ (¬ ((S.2.2.1 30) a1.toNatClampNeg) ≤ ((S.2.2.1 30) ((8 : Int32) + a0).toNatClampNeg) → tX7_spread ((S.2.2.1 30) a1.toNatClampNeg) ((S.2.2.1 30) ((8 : Int32) + a0).toNatClampNeg) S (fun S6 => P S6)))))) : tX7_join a0 a1 S P := by
  show wX7_join P 0 [.ref 47, .int a0, .int a1, .retAddr 0, .retAddr 0] [] S
  refine wp_aload_n dX7_join_0 rfl rfl ?_
  refine wp_get (q := 47) dX7_join_1 fX7_33 rfl rfl ?_
  refine wp_iload_n dX7_join_4 rfl rfl ?_
  obtain ⟨q1, h⟩ := h
  refine wp_iald2 (q := 54) (j := a1.toNatClampNeg) dX7_join_5 rfl q1 rfl ?_
  refine wp_istore_n (Ms := [.ref 47, .int a0, .int a1, .int ((S.2.2.1 30) a1.toNatClampNeg), .retAddr 0]) dX7_join_6 rfl (by decide) rfl ?_
  refine wp_aload_n dX7_join_7 rfl rfl ?_
  refine wp_get (q := 47) dX7_join_8 fX7_33 rfl rfl ?_
  refine wp_bipush (v := (8 : Int32)) dX7_join_11 (by decide) ?_
  refine wp_iload_n dX7_join_13 rfl rfl ?_
  refine wp_iadd dX7_join_14 ?_
  obtain ⟨q2, h⟩ := h
  refine wp_iald2 (q := 54) (j := ((8 : Int32) + a0).toNatClampNeg) dX7_join_15 rfl q2 rfl ?_
  refine wp_istore (Ms := [.ref 47, .int a0, .int a1, .int ((S.2.2.1 30) a1.toNatClampNeg), .int ((S.2.2.1 30) ((8 : Int32) + a0).toNatClampNeg)]) dX7_join_16 (by decide) rfl ?_
  refine wp_aload_n dX7_join_18 rfl rfl ?_
  refine wp_iload_n dX7_join_19 rfl rfl ?_
  refine wp_iload dX7_join_20 rfl ?_
  refine wp_icmp_le (tgt := 29) dX7_join_22 (by decide) (fun c => ?_) (fun c => ?_)
  · have h := h.1 c
    refine wp_iload dX7_join_29 rfl ?_
    refine wp_iload_n dX7_join_31 rfl rfl ?_
    refine wp_iload dX7_join_32 rfl ?_
    refine wp_icmp_le (tgt := 42) dX7_join_34 (by decide) (fun c => ?_) (fun c => ?_)
    · have h := h.1 c
      refine wp_iload_n dX7_join_42 rfl rfl ?_
      refine wp_callV (q := 47) (As := [.int ((S.2.2.1 30) ((8 : Int32) + a0).toNatClampNeg), .int ((S.2.2.1 30) a1.toNatClampNeg)]) (rest := []) dX7_join_43 mX7_spread lX7_105 (by decide) rfl rfl rfl rfl (Nat.le_of_ble_eq_true rfl) (Nat.le_of_ble_eq_true rfl) h ?_
      rintro rv mh2 ⟨S3, rfl, rfl, h⟩
      exact wp_vret dX7_join_46 rfl ⟨_, rfl, rfl, h⟩
    · have h := h.2 c
      refine wp_iload dX7_join_37 rfl ?_
      refine wp_goto (tgt := 43) dX7_join_39 (by decide) ?_
      refine wp_callV (q := 47) (As := [.int ((S.2.2.1 30) ((8 : Int32) + a0).toNatClampNeg), .int ((S.2.2.1 30) ((8 : Int32) + a0).toNatClampNeg)]) (rest := []) dX7_join_43 mX7_spread lX7_105 (by decide) rfl rfl rfl rfl (Nat.le_of_ble_eq_true rfl) (Nat.le_of_ble_eq_true rfl) h ?_
      rintro rv mh2 ⟨S4, rfl, rfl, h⟩
      exact wp_vret dX7_join_46 rfl ⟨_, rfl, rfl, h⟩
  · have h := h.2 c
    refine wp_iload_n dX7_join_25 rfl rfl ?_
    refine wp_goto (tgt := 31) dX7_join_26 (by decide) ?_
    refine wp_iload_n dX7_join_31 rfl rfl ?_
    refine wp_iload dX7_join_32 rfl ?_
    refine wp_icmp_le (tgt := 42) dX7_join_34 (by decide) (fun c => ?_) (fun c => ?_)
    · have h := h.1 c
      refine wp_iload_n dX7_join_42 rfl rfl ?_
      refine wp_callV (q := 47) (As := [.int ((S.2.2.1 30) a1.toNatClampNeg), .int ((S.2.2.1 30) a1.toNatClampNeg)]) (rest := []) dX7_join_43 mX7_spread lX7_105 (by decide) rfl rfl rfl rfl (Nat.le_of_ble_eq_true rfl) (Nat.le_of_ble_eq_true rfl) h ?_
      rintro rv mh2 ⟨S5, rfl, rfl, h⟩
      exact wp_vret dX7_join_46 rfl ⟨_, rfl, rfl, h⟩
    · have h := h.2 c
      refine wp_iload dX7_join_37 rfl ?_
      refine wp_goto (tgt := 43) dX7_join_39 (by decide) ?_
      refine wp_callV (q := 47) (As := [.int ((S.2.2.1 30) a1.toNatClampNeg), .int ((S.2.2.1 30) ((8 : Int32) + a0).toNatClampNeg)]) (rest := []) dX7_join_43 mX7_spread lX7_105 (by decide) rfl rfl rfl rfl (Nat.le_of_ble_eq_true rfl) (Nat.le_of_ble_eq_true rfl) h ?_
      rintro rv mh2 ⟨S6, rfl, rfl, h⟩
      exact wp_vret dX7_join_46 rfl ⟨_, rfl, rfl, h⟩
abbrev rX7_parts : Room := { frames := 5, cells := 0, slots := 0, locals := 117 }
abbrev wX7_parts (P : Int32 → St → Prop) (pc : Nat) (Ls stk : List Value) (S : St) : Prop := Wp cX7_parts RX7 3 rX7_parts (wFI .int P) pc Ls stk (enc S)
abbrev tX7_parts  (S : St) (P : Int32 → St → Prop) : Prop := wX7_parts P 0 (wl_en [.ref 47] 3) [] S
set_option maxRecDepth 100000 in
theorem bX7_parts_0 {P : Int32 → St → Prop} {S : St}  (h : tX7_findPlan  S (fun r2 S1 => ((¬ r2 = 0 → wX7_parts P 13 [.ref 47, .int (0 : Int32), .retAddr 0] [] S1) ∧ (r2 = 0 → P (-1003 : Int32) S1)))) : tX7_parts  S P := by
  show wX7_parts P 0 [.ref 47, .retAddr 0, .retAddr 0] [] S
  refine wp_aload_n dX7_parts_0 rfl rfl ?_
  refine wp_callV (q := 47) (As := []) (rest := []) dX7_parts_1 mX7_findPlan lX7_101 (by decide) rfl rfl rfl rfl (Nat.le_of_ble_eq_true rfl) (Nat.le_of_ble_eq_true rfl) h ?_
  rintro rv mh2 ⟨r2, S1, rfl, rfl, h⟩
  refine wp_if_ne (tgt := 11) dX7_parts_4 (by decide) (fun c => ?_) (fun c => ?_)
  · have h := h.1 c
    refine wp_iconst (v := (0 : Int32)) dX7_parts_11 (by decide) ?_
    refine wp_istore_n (Ms := [.ref 47, .int (0 : Int32), .retAddr 0]) dX7_parts_12 rfl (by decide) rfl ?_
    exact wp_le (Ms := [.ref 47, .int (0 : Int32), .retAddr 0]) ⟨Or.inr rfl, Or.inr rfl, Or.inl rfl, trivial⟩ h
  · have h := h.2 c
    refine wp_sipush (v := (-1003 : Int32)) dX7_parts_7 (by decide) ?_
    exact wp_iret dX7_parts_10 rfl rfl ⟨_, _, rfl, rfl, h⟩
set_option maxRecDepth 100000 in
theorem bX7_parts_13 {P : Int32 → St → Prop} {S : St} (x1 : Int32) (h : (((16 : Int32) ≤ x1 → wX7_parts P 34 [.ref 47, .int (0 : Int32), .retAddr 0] [] S) ∧ (¬ (16 : Int32) ≤ x1 → vp_in x1 16 ∧ wX7_parts P 13 [.ref 47, .int (x1 + (1 : Int32)), .retAddr 0] [] (sA S 30 (upd (S.2.2.1 30) x1.toNatClampNeg x1))))) : wX7_parts P 13 [.ref 47, .int x1, .retAddr 0] [] S := by
  refine wp_iload_n dX7_parts_13 rfl rfl ?_
  refine wp_bipush (v := (16 : Int32)) dX7_parts_14 (by decide) ?_
  refine wp_icmp_ge (tgt := 32) dX7_parts_16 (by decide) (fun c => ?_) (fun c => ?_)
  · have h := h.1 c
    refine wp_iconst (v := (0 : Int32)) dX7_parts_32 (by decide) ?_
    refine wp_istore_n (Ms := [.ref 47, .int (0 : Int32), .retAddr 0]) dX7_parts_33 rfl (by decide) rfl ?_
    exact wp_le (Ms := [.ref 47, .int (0 : Int32), .retAddr 0]) ⟨Or.inr rfl, Or.inr rfl, Or.inl rfl, trivial⟩ h
  · have h := h.2 c
    refine wp_aload_n dX7_parts_19 rfl rfl ?_
    refine wp_get (q := 47) dX7_parts_20 fX7_33 rfl rfl ?_
    refine wp_iload_n dX7_parts_23 rfl rfl ?_
    refine wp_iload_n dX7_parts_24 rfl rfl ?_
    obtain ⟨q1, h⟩ := h
    refine wp_iast2 (q := 54) (j := x1.toNatClampNeg) (mh2 := enc (sA S 30 (upd (S.2.2.1 30) x1.toNatClampNeg x1))) dX7_parts_25 rfl q1 rfl (es_54 _ _) ?_
    refine wp_iinc (Ms := [.ref 47, .int (x1 + (1 : Int32)), .retAddr 0]) (v := x1 + (1 : Int32)) dX7_parts_26 rfl rfl (by decide) rfl ?_
    refine wp_goto (tgt := 13) dX7_parts_29 (by decide) ?_
    exact wp_le (Ms := [.ref 47, .int (x1 + (1 : Int32)), .retAddr 0]) ⟨Or.inr rfl, Or.inr rfl, Or.inl rfl, trivial⟩ h
set_option maxRecDepth 100000 in
theorem bX7_parts_34 {P : Int32 → St → Prop} {S : St} (x1 : Int32) (h : (((S.1 8) ≤ x1 → wX7_parts P 88 [.ref 47, .int (0 : Int32), .int (0 : Int32)] [] S) ∧ (¬ (S.1 8) ≤ x1 → wX7_parts P 44 [.ref 47, .int x1, .int (0 : Int32)] [] S))) : wX7_parts P 34 [.ref 47, .int x1, .retAddr 0] [] S := by
  refine wp_iload_n dX7_parts_34 rfl rfl ?_
  refine wp_aload_n dX7_parts_35 rfl rfl ?_
  refine wp_get (q := 47) dX7_parts_36 fX7_7 rfl rfl ?_
  refine wp_icmp_ge (tgt := 84) dX7_parts_39 (by decide) (fun c => ?_) (fun c => ?_)
  · have h := h.1 c
    refine wp_iconst (v := (0 : Int32)) dX7_parts_84 (by decide) ?_
    refine wp_istore_n (Ms := [.ref 47, .int (0 : Int32), .retAddr 0]) dX7_parts_85 rfl (by decide) rfl ?_
    refine wp_iconst (v := (0 : Int32)) dX7_parts_86 (by decide) ?_
    refine wp_istore_n (Ms := [.ref 47, .int (0 : Int32), .int (0 : Int32)]) dX7_parts_87 rfl (by decide) rfl ?_
    exact wp_le (Ms := [.ref 47, .int (0 : Int32), .int (0 : Int32)]) ⟨Or.inr rfl, Or.inr rfl, Or.inr rfl, trivial⟩ h
  · have h := h.2 c
    refine wp_iconst (v := (0 : Int32)) dX7_parts_42 (by decide) ?_
    refine wp_istore_n (Ms := [.ref 47, .int x1, .int (0 : Int32)]) dX7_parts_43 rfl (by decide) rfl ?_
    exact wp_le (Ms := [.ref 47, .int x1, .int (0 : Int32)]) ⟨Or.inr rfl, Or.inr rfl, Or.inr rfl, trivial⟩ h
set_option maxRecDepth 100000 in
theorem bX7_parts_44 {P : Int32 → St → Prop} {S : St} (x1 : Int32) (x2 : Int32) (h : (((S.1 8) ≤ x2 → wX7_parts P 34 [.ref 47, .int (x1 + (1 : Int32)), .retAddr 0] [] S) ∧ (¬ (S.1 8) ≤ x2 → vp_in x1 8 ∧ ((¬ ((((S.2.2.1 29) x1.toNatClampNeg) >>> (x2 &&& (31 : Int32))) &&& (1 : Int32)) = (1 : Int32) → wX7_parts P 44 [.ref 47, .int x1, .int (x2 + (1 : Int32))] [] S) ∧ (((((S.2.2.1 29) x1.toNatClampNeg) >>> (x2 &&& (31 : Int32))) &&& (1 : Int32)) = (1 : Int32) → tX7_join x2 x1 S (fun S2 => wX7_parts P 44 [.ref 47, .int x1, .int (x2 + (1 : Int32))] [] S2)))))) : wX7_parts P 44 [.ref 47, .int x1, .int x2] [] S := by
  refine wp_iload_n dX7_parts_44 rfl rfl ?_
  refine wp_aload_n dX7_parts_45 rfl rfl ?_
  refine wp_get (q := 47) dX7_parts_46 fX7_7 rfl rfl ?_
  refine wp_icmp_ge (tgt := 78) dX7_parts_49 (by decide) (fun c => ?_) (fun c => ?_)
  · have h := h.1 c
    refine wp_iinc (Ms := [.ref 47, .int (x1 + (1 : Int32)), .int x2]) (v := x1 + (1 : Int32)) dX7_parts_78 rfl rfl (by decide) rfl ?_
    refine wp_goto (tgt := 34) dX7_parts_81 (by decide) ?_
    exact wp_le (Ms := [.ref 47, .int (x1 + (1 : Int32)), .retAddr 0]) ⟨Or.inr rfl, Or.inr rfl, Or.inl rfl, trivial⟩ h
  · have h := h.2 c
    refine wp_aload_n dX7_parts_52 rfl rfl ?_
    refine wp_get (q := 47) dX7_parts_53 fX7_30 rfl rfl ?_
    refine wp_iload_n dX7_parts_56 rfl rfl ?_
    obtain ⟨q1, h⟩ := h
    refine wp_iald2 (q := 53) (j := x1.toNatClampNeg) dX7_parts_57 rfl q1 rfl ?_
    refine wp_iload_n dX7_parts_58 rfl rfl ?_
    refine wp_ishr dX7_parts_59 ?_
    refine wp_iconst (v := (1 : Int32)) dX7_parts_60 (by decide) ?_
    refine wp_iand dX7_parts_61 ?_
    refine wp_iconst (v := (1 : Int32)) dX7_parts_62 (by decide) ?_
    refine wp_icmp_ne (tgt := 72) dX7_parts_63 (by decide) (fun c => ?_) (fun c => ?_)
    · have h := h.1 c
      refine wp_iinc (Ms := [.ref 47, .int x1, .int (x2 + (1 : Int32))]) (v := x2 + (1 : Int32)) dX7_parts_72 rfl rfl (by decide) rfl ?_
      refine wp_goto (tgt := 44) dX7_parts_75 (by decide) ?_
      exact wp_le (Ms := [.ref 47, .int x1, .int (x2 + (1 : Int32))]) ⟨Or.inr rfl, Or.inr rfl, Or.inr rfl, trivial⟩ h
    · have h := h.2 c
      refine wp_aload_n dX7_parts_66 rfl rfl ?_
      refine wp_iload_n dX7_parts_67 rfl rfl ?_
      refine wp_iload_n dX7_parts_68 rfl rfl ?_
      refine wp_callV (q := 47) (As := [.int x2, .int x1]) (rest := []) dX7_parts_69 mX7_join lX7_108 (by decide) rfl rfl rfl rfl (Nat.le_of_ble_eq_true rfl) (Nat.le_of_ble_eq_true rfl) h ?_
      rintro rv mh2 ⟨S2, rfl, rfl, h⟩
      refine wp_iinc (Ms := [.ref 47, .int x1, .int (x2 + (1 : Int32))]) (v := x2 + (1 : Int32)) dX7_parts_72 rfl rfl (by decide) rfl ?_
      refine wp_goto (tgt := 44) dX7_parts_75 (by decide) ?_
      exact wp_le (Ms := [.ref 47, .int x1, .int (x2 + (1 : Int32))]) ⟨Or.inr rfl, Or.inr rfl, Or.inr rfl, trivial⟩ h
set_option maxRecDepth 100000 in
theorem bX7_parts_88 {P : Int32 → St → Prop} {S : St} (x1 : Int32) (x2 : Int32) (h : (((S.1 8) ≤ x2 → P x1 S) ∧ (¬ (S.1 8) ≤ x2 → vp_in x2 16 ∧ ((¬ ((S.2.2.1 30) x2.toNatClampNeg) = x2 → wX7_parts P 88 [.ref 47, .int (x1 + (0 : Int32)), .int (x2 + (1 : Int32))] [] S) ∧ (((S.2.2.1 30) x2.toNatClampNeg) = x2 → wX7_parts P 88 [.ref 47, .int (x1 + (1 : Int32)), .int (x2 + (1 : Int32))] [] S))))) : wX7_parts P 88 [.ref 47, .int x1, .int x2] [] S := by
  refine wp_iload_n dX7_parts_88 rfl rfl ?_
  refine wp_aload_n dX7_parts_89 rfl rfl ?_
  refine wp_get (q := 47) dX7_parts_90 fX7_7 rfl rfl ?_
  refine wp_icmp_ge (tgt := 120) dX7_parts_93 (by decide) (fun c => ?_) (fun c => ?_)
  · have h := h.1 c
    refine wp_iload_n dX7_parts_120 rfl rfl ?_
    exact wp_iret dX7_parts_121 rfl rfl ⟨_, _, rfl, rfl, h⟩
  · have h := h.2 c
    refine wp_iload_n dX7_parts_96 rfl rfl ?_
    refine wp_aload_n dX7_parts_97 rfl rfl ?_
    refine wp_get (q := 47) dX7_parts_98 fX7_33 rfl rfl ?_
    refine wp_iload_n dX7_parts_101 rfl rfl ?_
    obtain ⟨q1, h⟩ := h
    refine wp_iald2 (q := 54) (j := x2.toNatClampNeg) dX7_parts_102 rfl q1 rfl ?_
    refine wp_iload_n dX7_parts_103 rfl rfl ?_
    refine wp_icmp_ne (tgt := 111) dX7_parts_104 (by decide) (fun c => ?_) (fun c => ?_)
    · have h := h.1 c
      refine wp_iconst (v := (0 : Int32)) dX7_parts_111 (by decide) ?_
      refine wp_iadd dX7_parts_112 ?_
      refine wp_istore_n (Ms := [.ref 47, .int (x1 + (0 : Int32)), .int x2]) dX7_parts_113 rfl (by decide) rfl ?_
      refine wp_iinc (Ms := [.ref 47, .int (x1 + (0 : Int32)), .int (x2 + (1 : Int32))]) (v := x2 + (1 : Int32)) dX7_parts_114 rfl rfl (by decide) rfl ?_
      refine wp_goto (tgt := 88) dX7_parts_117 (by decide) ?_
      exact wp_le (Ms := [.ref 47, .int (x1 + (0 : Int32)), .int (x2 + (1 : Int32))]) ⟨Or.inr rfl, Or.inr rfl, Or.inr rfl, trivial⟩ h
    · have h := h.2 c
      refine wp_iconst (v := (1 : Int32)) dX7_parts_107 (by decide) ?_
      refine wp_goto (tgt := 112) dX7_parts_108 (by decide) ?_
      refine wp_iadd dX7_parts_112 ?_
      refine wp_istore_n (Ms := [.ref 47, .int (x1 + (1 : Int32)), .int x2]) dX7_parts_113 rfl (by decide) rfl ?_
      refine wp_iinc (Ms := [.ref 47, .int (x1 + (1 : Int32)), .int (x2 + (1 : Int32))]) (v := x2 + (1 : Int32)) dX7_parts_114 rfl rfl (by decide) rfl ?_
      refine wp_goto (tgt := 88) dX7_parts_117 (by decide) ?_
      exact wp_le (Ms := [.ref 47, .int (x1 + (1 : Int32)), .int (x2 + (1 : Int32))]) ⟨Or.inr rfl, Or.inr rfl, Or.inr rfl, trivial⟩ h
abbrev rX7_mark : Room := { frames := 2, cells := 0, slots := 0, locals := 46 }
abbrev wX7_mark (P : Int32 → St → Prop) (pc : Nat) (Ls stk : List Value) (S : St) : Prop := Wp cX7_mark RX7 5 rX7_mark (wFI .int P) pc Ls stk (enc S)
abbrev tX7_mark (a0 : Int32) (a1 : Int32) (a2 : Int32) (S : St) (P : Int32 → St → Prop) : Prop := wX7_mark P 0 (wl_en [.ref 47, .int a0, .int a1, .int a2] 5) [] S
set_option maxRecDepth 100000 in
theorem bX7_mark_0 {P : Int32 → St → Prop} {S : St} (a0 : Int32) (a1 : Int32) (a2 : Int32) (h : tX7_is a0 S (fun r2 S1 => ((r2 = 0 → P (-1001 : Int32) S1) ∧ (¬ r2 = 0 → tX7_is a1 S1 (fun r4 S3 => ((¬ r4 = 0 → tX7_in a2.toInt64 (-1 : Int64) (100 : Int64) S3 (fun r6 S5 => ((¬ r6 = 0 → ((¬ a0 = a1 → vp_in (((8 : Int32) * a0) + a1) 64 ∧ P ((S5.2.2.1 26) (((8 : Int32) * a0) + a1).toNatClampNeg) (sA S5 26 (upd (S5.2.2.1 26) (((8 : Int32) * a0) + a1).toNatClampNeg a2))) ∧ (a0 = a1 → P (-1003 : Int32) S5))) ∧ (r6 = 0 → P (-1002 : Int32) S5)))) ∧ (r4 = 0 → P (-1001 : Int32) S3))))))) : tX7_mark a0 a1 a2 S P := by
  show wX7_mark P 0 [.ref 47, .int a0, .int a1, .int a2, .retAddr 0] [] S
  refine wp_aload_n dX7_mark_0 rfl rfl ?_
  refine wp_iload_n dX7_mark_1 rfl rfl ?_
  refine wp_callV (q := 47) (As := [.int a0]) (rest := []) dX7_mark_2 mX7_is lX7_69 (by decide) rfl rfl rfl rfl (Nat.le_of_ble_eq_true rfl) (Nat.le_of_ble_eq_true rfl) h ?_
  rintro rv mh2 ⟨r2, S1, rfl, rfl, h⟩
  refine wp_if_eq (tgt := 16) dX7_mark_5 (by decide) (fun c => ?_) (fun c => ?_)
  · have h := h.1 c
    refine wp_sipush (v := (-1001 : Int32)) dX7_mark_16 (by decide) ?_
    exact wp_iret dX7_mark_19 rfl rfl ⟨_, _, rfl, rfl, h⟩
  · have h := h.2 c
    refine wp_aload_n dX7_mark_8 rfl rfl ?_
    refine wp_iload_n dX7_mark_9 rfl rfl ?_
    refine wp_callV (q := 47) (As := [.int a1]) (rest := []) dX7_mark_10 mX7_is lX7_69 (by decide) rfl rfl rfl rfl (Nat.le_of_ble_eq_true rfl) (Nat.le_of_ble_eq_true rfl) h ?_
    rintro rv mh2 ⟨r4, S3, rfl, rfl, h⟩
    refine wp_if_ne (tgt := 20) dX7_mark_13 (by decide) (fun c => ?_) (fun c => ?_)
    · have h := h.1 c
      refine wp_iload_n dX7_mark_20 rfl rfl ?_
      refine wp_i2l dX7_mark_21 ?_
      refine wp_ldc2 dX7_mark_22 kX7_111 ?_
      refine wp_ldc2 dX7_mark_25 kX7_75 ?_
      refine wp_callS (As := [.long a2.toInt64, .long (-1 : Int64), .long (100 : Int64)]) (rest := []) dX7_mark_28 mX7_in lX7_61 (by decide) rfl rfl (Nat.le_of_ble_eq_true rfl) (Nat.le_of_ble_eq_true rfl) h ?_
      rintro rv mh2 ⟨r6, S5, rfl, rfl, h⟩
      refine wp_if_ne (tgt := 38) dX7_mark_31 (by decide) (fun c => ?_) (fun c => ?_)
      · have h := h.1 c
        refine wp_iload_n dX7_mark_38 rfl rfl ?_
        refine wp_iload_n dX7_mark_39 rfl rfl ?_
        refine wp_icmp_ne (tgt := 47) dX7_mark_40 (by decide) (fun c => ?_) (fun c => ?_)
        · have h := h.1 c
          refine wp_aload_n dX7_mark_47 rfl rfl ?_
          refine wp_get (q := 47) dX7_mark_48 fX7_21 rfl rfl ?_
          refine wp_bipush (v := (8 : Int32)) dX7_mark_51 (by decide) ?_
          refine wp_iload_n dX7_mark_53 rfl rfl ?_
          refine wp_imul dX7_mark_54 ?_
          refine wp_iload_n dX7_mark_55 rfl rfl ?_
          refine wp_iadd dX7_mark_56 ?_
          obtain ⟨q7, h⟩ := h
          refine wp_iald2 (q := 50) (j := (((8 : Int32) * a0) + a1).toNatClampNeg) dX7_mark_57 rfl q7 rfl ?_
          refine wp_istore (Ms := [.ref 47, .int a0, .int a1, .int a2, .int ((S5.2.2.1 26) (((8 : Int32) * a0) + a1).toNatClampNeg)]) dX7_mark_58 (by decide) rfl ?_
          refine wp_aload_n dX7_mark_60 rfl rfl ?_
          refine wp_get (q := 47) dX7_mark_61 fX7_21 rfl rfl ?_
          refine wp_bipush (v := (8 : Int32)) dX7_mark_64 (by decide) ?_
          refine wp_iload_n dX7_mark_66 rfl rfl ?_
          refine wp_imul dX7_mark_67 ?_
          refine wp_iload_n dX7_mark_68 rfl rfl ?_
          refine wp_iadd dX7_mark_69 ?_
          refine wp_iload_n dX7_mark_70 rfl rfl ?_
          refine wp_iast2 (q := 50) (j := (((8 : Int32) * a0) + a1).toNatClampNeg) (mh2 := enc (sA S5 26 (upd (S5.2.2.1 26) (((8 : Int32) * a0) + a1).toNatClampNeg a2))) dX7_mark_71 rfl q7 rfl (es_50 _ _) ?_
          refine wp_iload dX7_mark_72 rfl ?_
          exact wp_iret dX7_mark_74 rfl rfl ⟨_, _, rfl, rfl, h⟩
        · have h := h.2 c
          refine wp_sipush (v := (-1003 : Int32)) dX7_mark_43 (by decide) ?_
          exact wp_iret dX7_mark_46 rfl rfl ⟨_, _, rfl, rfl, h⟩
      · have h := h.2 c
        refine wp_sipush (v := (-1002 : Int32)) dX7_mark_34 (by decide) ?_
        exact wp_iret dX7_mark_37 rfl rfl ⟨_, _, rfl, rfl, h⟩
    · have h := h.2 c
      refine wp_sipush (v := (-1001 : Int32)) dX7_mark_16 (by decide) ?_
      exact wp_iret dX7_mark_19 rfl rfl ⟨_, _, rfl, rfl, h⟩
abbrev rX7_staff : Room := { frames := 2, cells := 0, slots := 0, locals := 46 }
abbrev wX7_staff (P : Int32 → St → Prop) (pc : Nat) (Ls stk : List Value) (S : St) : Prop := Wp cX7_staff RX7 4 rX7_staff (wFI .int P) pc Ls stk (enc S)
abbrev tX7_staff (a0 : Int32) (a1 : Int32) (S : St) (P : Int32 → St → Prop) : Prop := wX7_staff P 0 (wl_en [.ref 47, .int a0, .int a1] 4) [] S
set_option maxRecDepth 100000 in
theorem bX7_staff_0 {P : Int32 → St → Prop} {S : St} (a0 : Int32) (a1 : Int32) (h : tX7_is a0 S (fun r2 S1 => ((¬ r2 = 0 → tX7_in a1.toInt64 (-1 : Int64) (100 : Int64) S1 (fun r4 S3 => ((¬ r4 = 0 → vp_in a0 8 ∧ P ((S3.2.2.1 27) a0.toNatClampNeg) (sA S3 27 (upd (S3.2.2.1 27) a0.toNatClampNeg a1))) ∧ (r4 = 0 → P (-1002 : Int32) S3)))) ∧ (r2 = 0 → P (-1001 : Int32) S1)))) : tX7_staff a0 a1 S P := by
  show wX7_staff P 0 [.ref 47, .int a0, .int a1, .retAddr 0] [] S
  refine wp_aload_n dX7_staff_0 rfl rfl ?_
  refine wp_iload_n dX7_staff_1 rfl rfl ?_
  refine wp_callV (q := 47) (As := [.int a0]) (rest := []) dX7_staff_2 mX7_is lX7_69 (by decide) rfl rfl rfl rfl (Nat.le_of_ble_eq_true rfl) (Nat.le_of_ble_eq_true rfl) h ?_
  rintro rv mh2 ⟨r2, S1, rfl, rfl, h⟩
  refine wp_if_ne (tgt := 12) dX7_staff_5 (by decide) (fun c => ?_) (fun c => ?_)
  · have h := h.1 c
    refine wp_iload_n dX7_staff_12 rfl rfl ?_
    refine wp_i2l dX7_staff_13 ?_
    refine wp_ldc2 dX7_staff_14 kX7_111 ?_
    refine wp_ldc2 dX7_staff_17 kX7_75 ?_
    refine wp_callS (As := [.long a1.toInt64, .long (-1 : Int64), .long (100 : Int64)]) (rest := []) dX7_staff_20 mX7_in lX7_61 (by decide) rfl rfl (Nat.le_of_ble_eq_true rfl) (Nat.le_of_ble_eq_true rfl) h ?_
    rintro rv mh2 ⟨r4, S3, rfl, rfl, h⟩
    refine wp_if_ne (tgt := 30) dX7_staff_23 (by decide) (fun c => ?_) (fun c => ?_)
    · have h := h.1 c
      refine wp_aload_n dX7_staff_30 rfl rfl ?_
      refine wp_get (q := 47) dX7_staff_31 fX7_24 rfl rfl ?_
      refine wp_iload_n dX7_staff_34 rfl rfl ?_
      obtain ⟨q5, h⟩ := h
      refine wp_iald2 (q := 51) (j := a0.toNatClampNeg) dX7_staff_35 rfl q5 rfl ?_
      refine wp_istore_n (Ms := [.ref 47, .int a0, .int a1, .int ((S3.2.2.1 27) a0.toNatClampNeg)]) dX7_staff_36 rfl (by decide) rfl ?_
      refine wp_aload_n dX7_staff_37 rfl rfl ?_
      refine wp_get (q := 47) dX7_staff_38 fX7_24 rfl rfl ?_
      refine wp_iload_n dX7_staff_41 rfl rfl ?_
      refine wp_iload_n dX7_staff_42 rfl rfl ?_
      refine wp_iast2 (q := 51) (j := a0.toNatClampNeg) (mh2 := enc (sA S3 27 (upd (S3.2.2.1 27) a0.toNatClampNeg a1))) dX7_staff_43 rfl q5 rfl (es_51 _ _) ?_
      refine wp_iload_n dX7_staff_44 rfl rfl ?_
      exact wp_iret dX7_staff_45 rfl rfl ⟨_, _, rfl, rfl, h⟩
    · have h := h.2 c
      refine wp_sipush (v := (-1002 : Int32)) dX7_staff_26 (by decide) ?_
      exact wp_iret dX7_staff_29 rfl rfl ⟨_, _, rfl, rfl, h⟩
  · have h := h.2 c
    refine wp_sipush (v := (-1001 : Int32)) dX7_staff_8 (by decide) ?_
    exact wp_iret dX7_staff_11 rfl rfl ⟨_, _, rfl, rfl, h⟩
abbrev rX7_findParts : Room := { frames := 2, cells := 0, slots := 0, locals := 47 }
abbrev wX7_findParts (P : St → Prop) (pc : Nat) (Ls stk : List Value) (S : St) : Prop := Wp cX7_findParts RX7 3 rX7_findParts (wFV P) pc Ls stk (enc S)
abbrev tX7_findParts  (S : St) (P : St → Prop) : Prop := wX7_findParts P 0 (wl_en [.ref 47] 3) [] S
set_option maxRecDepth 100000 in
theorem bX7_findParts_0 {P : St → Prop} {S : St}  (h : wX7_findParts P 2 [.ref 47, .int (0 : Int32), .retAddr 0] [] S) : tX7_findParts  S P := by
  show wX7_findParts P 0 [.ref 47, .retAddr 0, .retAddr 0] [] S
  refine wp_iconst (v := (0 : Int32)) dX7_findParts_0 (by decide) ?_
  refine wp_istore_n (Ms := [.ref 47, .int (0 : Int32), .retAddr 0]) dX7_findParts_1 rfl (by decide) rfl ?_
  exact wp_le (Ms := [.ref 47, .int (0 : Int32), .retAddr 0]) ⟨Or.inr rfl, Or.inr rfl, Or.inl rfl, trivial⟩ h
set_option maxRecDepth 100000 in
theorem bX7_findParts_2 {P : St → Prop} {S : St} (x1 : Int32) (h : (((16 : Int32) ≤ x1 → wX7_findParts P 23 [.ref 47, .int (0 : Int32), .retAddr 0] [] S) ∧ (¬ (16 : Int32) ≤ x1 → vp_in x1 16 ∧ wX7_findParts P 2 [.ref 47, .int (x1 + (1 : Int32)), .retAddr 0] [] (sA S 30 (upd (S.2.2.1 30) x1.toNatClampNeg x1))))) : wX7_findParts P 2 [.ref 47, .int x1, .retAddr 0] [] S := by
  refine wp_iload_n dX7_findParts_2 rfl rfl ?_
  refine wp_bipush (v := (16 : Int32)) dX7_findParts_3 (by decide) ?_
  refine wp_icmp_ge (tgt := 21) dX7_findParts_5 (by decide) (fun c => ?_) (fun c => ?_)
  · have h := h.1 c
    refine wp_iconst (v := (0 : Int32)) dX7_findParts_21 (by decide) ?_
    refine wp_istore_n (Ms := [.ref 47, .int (0 : Int32), .retAddr 0]) dX7_findParts_22 rfl (by decide) rfl ?_
    exact wp_le (Ms := [.ref 47, .int (0 : Int32), .retAddr 0]) ⟨Or.inr rfl, Or.inr rfl, Or.inl rfl, trivial⟩ h
  · have h := h.2 c
    refine wp_aload_n dX7_findParts_8 rfl rfl ?_
    refine wp_get (q := 47) dX7_findParts_9 fX7_33 rfl rfl ?_
    refine wp_iload_n dX7_findParts_12 rfl rfl ?_
    refine wp_iload_n dX7_findParts_13 rfl rfl ?_
    obtain ⟨q1, h⟩ := h
    refine wp_iast2 (q := 54) (j := x1.toNatClampNeg) (mh2 := enc (sA S 30 (upd (S.2.2.1 30) x1.toNatClampNeg x1))) dX7_findParts_14 rfl q1 rfl (es_54 _ _) ?_
    refine wp_iinc (Ms := [.ref 47, .int (x1 + (1 : Int32)), .retAddr 0]) (v := x1 + (1 : Int32)) dX7_findParts_15 rfl rfl (by decide) rfl ?_
    refine wp_goto (tgt := 2) dX7_findParts_18 (by decide) ?_
    exact wp_le (Ms := [.ref 47, .int (x1 + (1 : Int32)), .retAddr 0]) ⟨Or.inr rfl, Or.inr rfl, Or.inl rfl, trivial⟩ h
set_option maxRecDepth 100000 in
theorem bX7_findParts_23 {P : St → Prop} {S : St} (x1 : Int32) (h : (((S.1 8) ≤ x1 → P S) ∧ (¬ (S.1 8) ≤ x1 → wX7_findParts P 33 [.ref 47, .int x1, .int (0 : Int32)] [] S))) : wX7_findParts P 23 [.ref 47, .int x1, .retAddr 0] [] S := by
  refine wp_iload_n dX7_findParts_23 rfl rfl ?_
  refine wp_aload_n dX7_findParts_24 rfl rfl ?_
  refine wp_get (q := 47) dX7_findParts_25 fX7_7 rfl rfl ?_
  refine wp_icmp_ge (tgt := 73) dX7_findParts_28 (by decide) (fun c => ?_) (fun c => ?_)
  · have h := h.1 c
    exact wp_vret dX7_findParts_73 rfl ⟨_, rfl, rfl, h⟩
  · have h := h.2 c
    refine wp_iconst (v := (0 : Int32)) dX7_findParts_31 (by decide) ?_
    refine wp_istore_n (Ms := [.ref 47, .int x1, .int (0 : Int32)]) dX7_findParts_32 rfl (by decide) rfl ?_
    exact wp_le (Ms := [.ref 47, .int x1, .int (0 : Int32)]) ⟨Or.inr rfl, Or.inr rfl, Or.inr rfl, trivial⟩ h
set_option maxRecDepth 100000 in
theorem bX7_findParts_33 {P : St → Prop} {S : St} (x1 : Int32) (x2 : Int32) (h : (((S.1 8) ≤ x2 → wX7_findParts P 23 [.ref 47, .int (x1 + (1 : Int32)), .retAddr 0] [] S) ∧ (¬ (S.1 8) ≤ x2 → vp_in (((8 : Int32) * x2) + x1) 64 ∧ ((((S.2.2.1 26) (((8 : Int32) * x2) + x1).toNatClampNeg) < 0 → wX7_findParts P 33 [.ref 47, .int x1, .int (x2 + (1 : Int32))] [] S) ∧ (¬ ((S.2.2.1 26) (((8 : Int32) * x2) + x1).toNatClampNeg) < 0 → tX7_join x2 x1 S (fun S2 => wX7_findParts P 33 [.ref 47, .int x1, .int (x2 + (1 : Int32))] [] S2)))))) : wX7_findParts P 33 [.ref 47, .int x1, .int x2] [] S := by
  refine wp_iload_n dX7_findParts_33 rfl rfl ?_
  refine wp_aload_n dX7_findParts_34 rfl rfl ?_
  refine wp_get (q := 47) dX7_findParts_35 fX7_7 rfl rfl ?_
  refine wp_icmp_ge (tgt := 67) dX7_findParts_38 (by decide) (fun c => ?_) (fun c => ?_)
  · have h := h.1 c
    refine wp_iinc (Ms := [.ref 47, .int (x1 + (1 : Int32)), .int x2]) (v := x1 + (1 : Int32)) dX7_findParts_67 rfl rfl (by decide) rfl ?_
    refine wp_goto (tgt := 23) dX7_findParts_70 (by decide) ?_
    exact wp_le (Ms := [.ref 47, .int (x1 + (1 : Int32)), .retAddr 0]) ⟨Or.inr rfl, Or.inr rfl, Or.inl rfl, trivial⟩ h
  · have h := h.2 c
    refine wp_aload_n dX7_findParts_41 rfl rfl ?_
    refine wp_get (q := 47) dX7_findParts_42 fX7_21 rfl rfl ?_
    refine wp_bipush (v := (8 : Int32)) dX7_findParts_45 (by decide) ?_
    refine wp_iload_n dX7_findParts_47 rfl rfl ?_
    refine wp_imul dX7_findParts_48 ?_
    refine wp_iload_n dX7_findParts_49 rfl rfl ?_
    refine wp_iadd dX7_findParts_50 ?_
    obtain ⟨q1, h⟩ := h
    refine wp_iald2 (q := 50) (j := (((8 : Int32) * x2) + x1).toNatClampNeg) dX7_findParts_51 rfl q1 rfl ?_
    refine wp_if_lt (tgt := 61) dX7_findParts_52 (by decide) (fun c => ?_) (fun c => ?_)
    · have h := h.1 c
      refine wp_iinc (Ms := [.ref 47, .int x1, .int (x2 + (1 : Int32))]) (v := x2 + (1 : Int32)) dX7_findParts_61 rfl rfl (by decide) rfl ?_
      refine wp_goto (tgt := 33) dX7_findParts_64 (by decide) ?_
      exact wp_le (Ms := [.ref 47, .int x1, .int (x2 + (1 : Int32))]) ⟨Or.inr rfl, Or.inr rfl, Or.inr rfl, trivial⟩ h
    · have h := h.2 c
      refine wp_aload_n dX7_findParts_55 rfl rfl ?_
      refine wp_iload_n dX7_findParts_56 rfl rfl ?_
      refine wp_iload_n dX7_findParts_57 rfl rfl ?_
      refine wp_callV (q := 47) (As := [.int x2, .int x1]) (rest := []) dX7_findParts_58 mX7_join lX7_108 (by decide) rfl rfl rfl rfl (Nat.le_of_ble_eq_true rfl) (Nat.le_of_ble_eq_true rfl) h ?_
      rintro rv mh2 ⟨S2, rfl, rfl, h⟩
      refine wp_iinc (Ms := [.ref 47, .int x1, .int (x2 + (1 : Int32))]) (v := x2 + (1 : Int32)) dX7_findParts_61 rfl rfl (by decide) rfl ?_
      refine wp_goto (tgt := 33) dX7_findParts_64 (by decide) ?_
      exact wp_le (Ms := [.ref 47, .int x1, .int (x2 + (1 : Int32))]) ⟨Or.inr rfl, Or.inr rfl, Or.inr rfl, trivial⟩ h
abbrev rX7_sizeOf : Room := { frames := 0, cells := 0, slots := 0, locals := 0 }
abbrev wX7_sizeOf (P : Int32 → St → Prop) (pc : Nat) (Ls stk : List Value) (S : St) : Prop := Wp cX7_sizeOf RX7 4 rX7_sizeOf (wFI .int P) pc Ls stk (enc S)
abbrev tX7_sizeOf (a0 : Int32) (S : St) (P : Int32 → St → Prop) : Prop := wX7_sizeOf P 0 (wl_en [.ref 47, .int a0] 4) [] S
set_option maxRecDepth 100000 in
theorem bX7_sizeOf_0 {P : Int32 → St → Prop} {S : St} (a0 : Int32) (h : wX7_sizeOf P 4 [.ref 47, .int a0, .int (0 : Int32), .int (0 : Int32)] [] S) : tX7_sizeOf a0 S P := by
  show wX7_sizeOf P 0 [.ref 47, .int a0, .retAddr 0, .retAddr 0] [] S
  refine wp_iconst (v := (0 : Int32)) dX7_sizeOf_0 (by decide) ?_
  refine wp_istore_n (Ms := [.ref 47, .int a0, .int (0 : Int32), .retAddr 0]) dX7_sizeOf_1 rfl (by decide) rfl ?_
  refine wp_iconst (v := (0 : Int32)) dX7_sizeOf_2 (by decide) ?_
  refine wp_istore_n (Ms := [.ref 47, .int a0, .int (0 : Int32), .int (0 : Int32)]) dX7_sizeOf_3 rfl (by decide) rfl ?_
  exact wp_le (Ms := [.ref 47, .int a0, .int (0 : Int32), .int (0 : Int32)]) ⟨Or.inr rfl, Or.inr rfl, Or.inr rfl, Or.inr rfl, trivial⟩ h
set_option maxRecDepth 100000 in
theorem bX7_sizeOf_4 {P : Int32 → St → Prop} {S : St} (x1 : Int32) (x2 : Int32) (x3 : Int32) (h : (((16 : Int32) ≤ x3 → P x2 S) ∧ (¬ (16 : Int32) ≤ x3 → vp_in x3 16 ∧ ((¬ ((S.2.2.1 30) x3.toNatClampNeg) = x1 → wX7_sizeOf P 4 [.ref 47, .int x1, .int (x2 + (0 : Int32)), .int (x3 + (1 : Int32))] [] S) ∧ (((S.2.2.1 30) x3.toNatClampNeg) = x1 → wX7_sizeOf P 4 [.ref 47, .int x1, .int (x2 + (1 : Int32)), .int (x3 + (1 : Int32))] [] S))))) : wX7_sizeOf P 4 [.ref 47, .int x1, .int x2, .int x3] [] S := by
  refine wp_iload_n dX7_sizeOf_4 rfl rfl ?_
  refine wp_bipush (v := (16 : Int32)) dX7_sizeOf_5 (by decide) ?_
  refine wp_icmp_ge (tgt := 34) dX7_sizeOf_7 (by decide) (fun c => ?_) (fun c => ?_)
  · have h := h.1 c
    refine wp_iload_n dX7_sizeOf_34 rfl rfl ?_
    exact wp_iret dX7_sizeOf_35 rfl rfl ⟨_, _, rfl, rfl, h⟩
  · have h := h.2 c
    refine wp_iload_n dX7_sizeOf_10 rfl rfl ?_
    refine wp_aload_n dX7_sizeOf_11 rfl rfl ?_
    refine wp_get (q := 47) dX7_sizeOf_12 fX7_33 rfl rfl ?_
    refine wp_iload_n dX7_sizeOf_15 rfl rfl ?_
    obtain ⟨q1, h⟩ := h
    refine wp_iald2 (q := 54) (j := x3.toNatClampNeg) dX7_sizeOf_16 rfl q1 rfl ?_
    refine wp_iload_n dX7_sizeOf_17 rfl rfl ?_
    refine wp_icmp_ne (tgt := 25) dX7_sizeOf_18 (by decide) (fun c => ?_) (fun c => ?_)
    · have h := h.1 c
      refine wp_iconst (v := (0 : Int32)) dX7_sizeOf_25 (by decide) ?_
      refine wp_iadd dX7_sizeOf_26 ?_
      refine wp_istore_n (Ms := [.ref 47, .int x1, .int (x2 + (0 : Int32)), .int x3]) dX7_sizeOf_27 rfl (by decide) rfl ?_
      refine wp_iinc (Ms := [.ref 47, .int x1, .int (x2 + (0 : Int32)), .int (x3 + (1 : Int32))]) (v := x3 + (1 : Int32)) dX7_sizeOf_28 rfl rfl (by decide) rfl ?_
      refine wp_goto (tgt := 4) dX7_sizeOf_31 (by decide) ?_
      exact wp_le (Ms := [.ref 47, .int x1, .int (x2 + (0 : Int32)), .int (x3 + (1 : Int32))]) ⟨Or.inr rfl, Or.inr rfl, Or.inr rfl, Or.inr rfl, trivial⟩ h
    · have h := h.2 c
      refine wp_iconst (v := (1 : Int32)) dX7_sizeOf_21 (by decide) ?_
      refine wp_goto (tgt := 26) dX7_sizeOf_22 (by decide) ?_
      refine wp_iadd dX7_sizeOf_26 ?_
      refine wp_istore_n (Ms := [.ref 47, .int x1, .int (x2 + (1 : Int32)), .int x3]) dX7_sizeOf_27 rfl (by decide) rfl ?_
      refine wp_iinc (Ms := [.ref 47, .int x1, .int (x2 + (1 : Int32)), .int (x3 + (1 : Int32))]) (v := x3 + (1 : Int32)) dX7_sizeOf_28 rfl rfl (by decide) rfl ?_
      refine wp_goto (tgt := 4) dX7_sizeOf_31 (by decide) ?_
      exact wp_le (Ms := [.ref 47, .int x1, .int (x2 + (1 : Int32)), .int (x3 + (1 : Int32))]) ⟨Or.inr rfl, Or.inr rfl, Or.inr rfl, Or.inr rfl, trivial⟩ h
abbrev rX7_numberOf : Room := { frames := 1, cells := 0, slots := 0, locals := 23 }
abbrev wX7_numberOf (P : Int32 → St → Prop) (pc : Nat) (Ls stk : List Value) (S : St) : Prop := Wp cX7_numberOf RX7 4 rX7_numberOf (wFI .int P) pc Ls stk (enc S)
abbrev tX7_numberOf (a0 : Int32) (S : St) (P : Int32 → St → Prop) : Prop := wX7_numberOf P 0 (wl_en [.ref 47, .int a0] 4) [] S
set_option maxRecDepth 100000 in
theorem bX7_numberOf_0 {P : Int32 → St → Prop} {S : St} (a0 : Int32) (h : wX7_numberOf P 4 [.ref 47, .int a0, .int (0 : Int32), .int (0 : Int32)] [] S) : tX7_numberOf a0 S P := by
  show wX7_numberOf P 0 [.ref 47, .int a0, .retAddr 0, .retAddr 0] [] S
  refine wp_iconst (v := (0 : Int32)) dX7_numberOf_0 (by decide) ?_
  refine wp_istore_n (Ms := [.ref 47, .int a0, .int (0 : Int32), .retAddr 0]) dX7_numberOf_1 rfl (by decide) rfl ?_
  refine wp_iconst (v := (0 : Int32)) dX7_numberOf_2 (by decide) ?_
  refine wp_istore_n (Ms := [.ref 47, .int a0, .int (0 : Int32), .int (0 : Int32)]) dX7_numberOf_3 rfl (by decide) rfl ?_
  exact wp_le (Ms := [.ref 47, .int a0, .int (0 : Int32), .int (0 : Int32)]) ⟨Or.inr rfl, Or.inr rfl, Or.inr rfl, Or.inr rfl, trivial⟩ h
set_option maxRecDepth 100000 in
theorem bX7_numberOf_4 {P : Int32 → St → Prop} {S : St} (x1 : Int32) (x2 : Int32) (x3 : Int32) (h : ((x1 ≤ x3 → tX7_sizeOf x1 S (fun r2 S1 => ((r2 ≤ (1 : Int32) → P (-1 : Int32) S1) ∧ (¬ r2 ≤ (1 : Int32) → P x2 S1)))) ∧ (¬ x1 ≤ x3 → vp_in x3 16 ∧ ((¬ ((S.2.2.1 30) x3.toNatClampNeg) = x3 → wX7_numberOf P 4 [.ref 47, .int x1, .int (x2 + (0 : Int32)), .int (x3 + (1 : Int32))] [] S) ∧ (((S.2.2.1 30) x3.toNatClampNeg) = x3 → tX7_sizeOf x3 S (fun r5 S4 => ((r5 ≤ (1 : Int32) → wX7_numberOf P 4 [.ref 47, .int x1, .int (x2 + (0 : Int32)), .int (x3 + (1 : Int32))] [] S4) ∧ (¬ r5 ≤ (1 : Int32) → wX7_numberOf P 4 [.ref 47, .int x1, .int (x2 + (1 : Int32)), .int (x3 + (1 : Int32))] [] S4)))))))) : wX7_numberOf P 4 [.ref 47, .int x1, .int x2, .int x3] [] S := by
  refine wp_iload_n dX7_numberOf_4 rfl rfl ?_
  refine wp_iload_n dX7_numberOf_5 rfl rfl ?_
  refine wp_icmp_ge (tgt := 42) dX7_numberOf_6 (by decide) (fun c => ?_) (fun c => ?_)
  · have h := h.1 c
    refine wp_aload_n dX7_numberOf_42 rfl rfl ?_
    refine wp_iload_n dX7_numberOf_43 rfl rfl ?_
    refine wp_callV (q := 47) (As := [.int x1]) (rest := []) dX7_numberOf_44 mX7_sizeOf lX7_113 (by decide) rfl rfl rfl rfl (Nat.le_of_ble_eq_true rfl) (Nat.le_of_ble_eq_true rfl) h ?_
    rintro rv mh2 ⟨r2, S1, rfl, rfl, h⟩
    refine wp_iconst (v := (1 : Int32)) dX7_numberOf_47 (by decide) ?_
    refine wp_icmp_le (tgt := 55) dX7_numberOf_48 (by decide) (fun c => ?_) (fun c => ?_)
    · have h := h.1 c
      refine wp_iconst (v := (-1 : Int32)) dX7_numberOf_55 (by decide) ?_
      exact wp_iret dX7_numberOf_56 rfl rfl ⟨_, _, rfl, rfl, h⟩
    · have h := h.2 c
      refine wp_iload_n dX7_numberOf_51 rfl rfl ?_
      refine wp_goto (tgt := 56) dX7_numberOf_52 (by decide) ?_
      exact wp_iret dX7_numberOf_56 rfl rfl ⟨_, _, rfl, rfl, h⟩
  · have h := h.2 c
    refine wp_iload_n dX7_numberOf_9 rfl rfl ?_
    refine wp_aload_n dX7_numberOf_10 rfl rfl ?_
    refine wp_get (q := 47) dX7_numberOf_11 fX7_33 rfl rfl ?_
    refine wp_iload_n dX7_numberOf_14 rfl rfl ?_
    obtain ⟨q3, h⟩ := h
    refine wp_iald2 (q := 54) (j := x3.toNatClampNeg) dX7_numberOf_15 rfl q3 rfl ?_
    refine wp_iload_n dX7_numberOf_16 rfl rfl ?_
    refine wp_icmp_ne (tgt := 33) dX7_numberOf_17 (by decide) (fun c => ?_) (fun c => ?_)
    · have h := h.1 c
      refine wp_iconst (v := (0 : Int32)) dX7_numberOf_33 (by decide) ?_
      refine wp_iadd dX7_numberOf_34 ?_
      refine wp_istore_n (Ms := [.ref 47, .int x1, .int (x2 + (0 : Int32)), .int x3]) dX7_numberOf_35 rfl (by decide) rfl ?_
      refine wp_iinc (Ms := [.ref 47, .int x1, .int (x2 + (0 : Int32)), .int (x3 + (1 : Int32))]) (v := x3 + (1 : Int32)) dX7_numberOf_36 rfl rfl (by decide) rfl ?_
      refine wp_goto (tgt := 4) dX7_numberOf_39 (by decide) ?_
      exact wp_le (Ms := [.ref 47, .int x1, .int (x2 + (0 : Int32)), .int (x3 + (1 : Int32))]) ⟨Or.inr rfl, Or.inr rfl, Or.inr rfl, Or.inr rfl, trivial⟩ h
    · have h := h.2 c
      refine wp_aload_n dX7_numberOf_20 rfl rfl ?_
      refine wp_iload_n dX7_numberOf_21 rfl rfl ?_
      refine wp_callV (q := 47) (As := [.int x3]) (rest := [.int x2]) dX7_numberOf_22 mX7_sizeOf lX7_113 (by decide) rfl rfl rfl rfl (Nat.le_of_ble_eq_true rfl) (Nat.le_of_ble_eq_true rfl) h ?_
      rintro rv mh2 ⟨r5, S4, rfl, rfl, h⟩
      refine wp_iconst (v := (1 : Int32)) dX7_numberOf_25 (by decide) ?_
      refine wp_icmp_le (tgt := 33) dX7_numberOf_26 (by decide) (fun c => ?_) (fun c => ?_)
      · have h := h.1 c
        refine wp_iconst (v := (0 : Int32)) dX7_numberOf_33 (by decide) ?_
        refine wp_iadd dX7_numberOf_34 ?_
        refine wp_istore_n (Ms := [.ref 47, .int x1, .int (x2 + (0 : Int32)), .int x3]) dX7_numberOf_35 rfl (by decide) rfl ?_
        refine wp_iinc (Ms := [.ref 47, .int x1, .int (x2 + (0 : Int32)), .int (x3 + (1 : Int32))]) (v := x3 + (1 : Int32)) dX7_numberOf_36 rfl rfl (by decide) rfl ?_
        refine wp_goto (tgt := 4) dX7_numberOf_39 (by decide) ?_
        exact wp_le (Ms := [.ref 47, .int x1, .int (x2 + (0 : Int32)), .int (x3 + (1 : Int32))]) ⟨Or.inr rfl, Or.inr rfl, Or.inr rfl, Or.inr rfl, trivial⟩ h
      · have h := h.2 c
        refine wp_iconst (v := (1 : Int32)) dX7_numberOf_29 (by decide) ?_
        refine wp_goto (tgt := 34) dX7_numberOf_30 (by decide) ?_
        refine wp_iadd dX7_numberOf_34 ?_
        refine wp_istore_n (Ms := [.ref 47, .int x1, .int (x2 + (1 : Int32)), .int x3]) dX7_numberOf_35 rfl (by decide) rfl ?_
        refine wp_iinc (Ms := [.ref 47, .int x1, .int (x2 + (1 : Int32)), .int (x3 + (1 : Int32))]) (v := x3 + (1 : Int32)) dX7_numberOf_36 rfl rfl (by decide) rfl ?_
        refine wp_goto (tgt := 4) dX7_numberOf_39 (by decide) ?_
        exact wp_le (Ms := [.ref 47, .int x1, .int (x2 + (1 : Int32)), .int (x3 + (1 : Int32))]) ⟨Or.inr rfl, Or.inr rfl, Or.inr rfl, Or.inr rfl, trivial⟩ h
