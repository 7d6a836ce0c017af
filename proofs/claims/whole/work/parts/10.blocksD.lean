abbrev rX7_pieces : Room := { frames := 1, cells := 0, slots := 0, locals := 23 }
abbrev wX7_pieces (P : Int32 → St → Prop) (pc : Nat) (Ls stk : List Value) (S : St) : Prop := Wp cX7_pieces RX7 4 rX7_pieces (wFI .int P) pc Ls stk (enc S)
abbrev tX7_pieces (a0 : Int32) (S : St) (P : Int32 → St → Prop) : Prop := wX7_pieces P 0 (wl_en [.ref 47, .int a0] 4) [] S
set_option maxRecDepth 100000 in
theorem bX7_pieces_0 {P : Int32 → St → Prop} {S : St} (a0 : Int32) (h : wX7_pieces P 4 [.ref 47, .int a0, .int (0 : Int32), .int (0 : Int32)] [] S) : tX7_pieces a0 S P := by
  show wX7_pieces P 0 [.ref 47, .int a0, .retAddr 0, .retAddr 0] [] S
  refine wp_iconst (v := (0 : Int32)) dX7_pieces_0 (by decide) ?_
  refine wp_istore_n (Ms := [.ref 47, .int a0, .int (0 : Int32), .retAddr 0]) dX7_pieces_1 rfl (by decide) rfl ?_
  refine wp_iconst (v := (0 : Int32)) dX7_pieces_2 (by decide) ?_
  refine wp_istore_n (Ms := [.ref 47, .int a0, .int (0 : Int32), .int (0 : Int32)]) dX7_pieces_3 rfl (by decide) rfl ?_
  exact wp_le (Ms := [.ref 47, .int a0, .int (0 : Int32), .int (0 : Int32)]) ⟨Or.inr rfl, Or.inr rfl, Or.inr rfl, Or.inr rfl, trivial⟩ h
set_option maxRecDepth 100000 in
theorem bX7_pieces_4 {P : Int32 → St → Prop} {S : St} (x1 : Int32) (x2 : Int32) (x3 : Int32) (h : (((S.1 8) ≤ x3 → P x2 S) ∧ (¬ (S.1 8) ≤ x3 → vp_in x3 16 ∧ ((¬ ((S.2.2.1 30) x3.toNatClampNeg) = x3 → wX7_pieces P 4 [.ref 47, .int x1, .int (x2 + (0 : Int32)), .int (x3 + (1 : Int32))] [] S) ∧ (((S.2.2.1 30) x3.toNatClampNeg) = x3 → tX7_sizeOf x3 S (fun r3 S2 => ((r3 ≤ x1 → wX7_pieces P 4 [.ref 47, .int x1, .int (x2 + (0 : Int32)), .int (x3 + (1 : Int32))] [] S2) ∧ (¬ r3 ≤ x1 → wX7_pieces P 4 [.ref 47, .int x1, .int (x2 + (1 : Int32)), .int (x3 + (1 : Int32))] [] S2)))))))) : wX7_pieces P 4 [.ref 47, .int x1, .int x2, .int x3] [] S := by
  refine wp_iload_n dX7_pieces_4 rfl rfl ?_
  refine wp_aload_n dX7_pieces_5 rfl rfl ?_
  refine wp_get (q := 47) dX7_pieces_6 fX7_7 rfl rfl ?_
  refine wp_icmp_ge (tgt := 45) dX7_pieces_9 (by decide) (fun c => ?_) (fun c => ?_)
  · have h := h.1 c
    refine wp_iload_n dX7_pieces_45 rfl rfl ?_
    exact wp_iret dX7_pieces_46 rfl rfl ⟨_, _, rfl, rfl, h⟩
  · have h := h.2 c
    refine wp_iload_n dX7_pieces_12 rfl rfl ?_
    refine wp_aload_n dX7_pieces_13 rfl rfl ?_
    refine wp_get (q := 47) dX7_pieces_14 fX7_33 rfl rfl ?_
    refine wp_iload_n dX7_pieces_17 rfl rfl ?_
    obtain ⟨q1, h⟩ := h
    refine wp_iald2 (q := 54) (j := x3.toNatClampNeg) dX7_pieces_18 rfl q1 rfl ?_
    refine wp_iload_n dX7_pieces_19 rfl rfl ?_
    refine wp_icmp_ne (tgt := 36) dX7_pieces_20 (by decide) (fun c => ?_) (fun c => ?_)
    · have h := h.1 c
      refine wp_iconst (v := (0 : Int32)) dX7_pieces_36 (by decide) ?_
      refine wp_iadd dX7_pieces_37 ?_
      refine wp_istore_n (Ms := [.ref 47, .int x1, .int (x2 + (0 : Int32)), .int x3]) dX7_pieces_38 rfl (by decide) rfl ?_
      refine wp_iinc (Ms := [.ref 47, .int x1, .int (x2 + (0 : Int32)), .int (x3 + (1 : Int32))]) (v := x3 + (1 : Int32)) dX7_pieces_39 rfl rfl (by decide) rfl ?_
      refine wp_goto (tgt := 4) dX7_pieces_42 (by decide) ?_
      exact wp_le (Ms := [.ref 47, .int x1, .int (x2 + (0 : Int32)), .int (x3 + (1 : Int32))]) ⟨Or.inr rfl, Or.inr rfl, Or.inr rfl, Or.inr rfl, trivial⟩ h
    · have h := h.2 c
      refine wp_aload_n dX7_pieces_23 rfl rfl ?_
      refine wp_iload_n dX7_pieces_24 rfl rfl ?_
      refine wp_callV (q := 47) (As := [.int x3]) (rest := [.int x2]) dX7_pieces_25 mX7_sizeOf lX7_113 (by decide) rfl rfl rfl rfl (Nat.le_of_ble_eq_true rfl) (Nat.le_of_ble_eq_true rfl) h ?_
      rintro rv mh2 ⟨r3, S2, rfl, rfl, h⟩
      refine wp_iload_n dX7_pieces_28 rfl rfl ?_
      refine wp_icmp_le (tgt := 36) dX7_pieces_29 (by decide) (fun c => ?_) (fun c => ?_)
      · have h := h.1 c
        refine wp_iconst (v := (0 : Int32)) dX7_pieces_36 (by decide) ?_
        refine wp_iadd dX7_pieces_37 ?_
        refine wp_istore_n (Ms := [.ref 47, .int x1, .int (x2 + (0 : Int32)), .int x3]) dX7_pieces_38 rfl (by decide) rfl ?_
        refine wp_iinc (Ms := [.ref 47, .int x1, .int (x2 + (0 : Int32)), .int (x3 + (1 : Int32))]) (v := x3 + (1 : Int32)) dX7_pieces_39 rfl rfl (by decide) rfl ?_
        refine wp_goto (tgt := 4) dX7_pieces_42 (by decide) ?_
        exact wp_le (Ms := [.ref 47, .int x1, .int (x2 + (0 : Int32)), .int (x3 + (1 : Int32))]) ⟨Or.inr rfl, Or.inr rfl, Or.inr rfl, Or.inr rfl, trivial⟩ h
      · have h := h.2 c
        refine wp_iconst (v := (1 : Int32)) dX7_pieces_32 (by decide) ?_
        refine wp_goto (tgt := 37) dX7_pieces_33 (by decide) ?_
        refine wp_iadd dX7_pieces_37 ?_
        refine wp_istore_n (Ms := [.ref 47, .int x1, .int (x2 + (1 : Int32)), .int x3]) dX7_pieces_38 rfl (by decide) rfl ?_
        refine wp_iinc (Ms := [.ref 47, .int x1, .int (x2 + (1 : Int32)), .int (x3 + (1 : Int32))]) (v := x3 + (1 : Int32)) dX7_pieces_39 rfl rfl (by decide) rfl ?_
        refine wp_goto (tgt := 4) dX7_pieces_42 (by decide) ?_
        exact wp_le (Ms := [.ref 47, .int x1, .int (x2 + (1 : Int32)), .int (x3 + (1 : Int32))]) ⟨Or.inr rfl, Or.inr rfl, Or.inr rfl, Or.inr rfl, trivial⟩ h
abbrev rX7_spreadOf : Room := { frames := 0, cells := 0, slots := 0, locals := 0 }
abbrev wX7_spreadOf (P : Int32 → St → Prop) (pc : Nat) (Ls stk : List Value) (S : St) : Prop := Wp cX7_spreadOf RX7 6 rX7_spreadOf (wFI .int P) pc Ls stk (enc S)
abbrev tX7_spreadOf (a0 : Int32) (S : St) (P : Int32 → St → Prop) : Prop := wX7_spreadOf P 0 (wl_en [.ref 47, .int a0] 6) [] S
set_option maxRecDepth 100000 in
theorem bX7_spreadOf_0 {P : Int32 → St → Prop} {S : St} (a0 : Int32) (h : wX7_spreadOf P 8 [.ref 47, .int a0, .int (101 : Int32), .int (-1 : Int32), .int (0 : Int32), .retAddr 0] [] S) : tX7_spreadOf a0 S P := by
  show wX7_spreadOf P 0 [.ref 47, .int a0, .retAddr 0, .retAddr 0, .retAddr 0, .retAddr 0] [] S
  refine wp_bipush (v := (101 : Int32)) dX7_spreadOf_0 (by decide) ?_
  refine wp_istore_n (Ms := [.ref 47, .int a0, .int (101 : Int32), .retAddr 0, .retAddr 0, .retAddr 0]) dX7_spreadOf_2 rfl (by decide) rfl ?_
  refine wp_iconst (v := (-1 : Int32)) dX7_spreadOf_3 (by decide) ?_
  refine wp_istore_n (Ms := [.ref 47, .int a0, .int (101 : Int32), .int (-1 : Int32), .retAddr 0, .retAddr 0]) dX7_spreadOf_4 rfl (by decide) rfl ?_
  refine wp_iconst (v := (0 : Int32)) dX7_spreadOf_5 (by decide) ?_
  refine wp_istore (Ms := [.ref 47, .int a0, .int (101 : Int32), .int (-1 : Int32), .int (0 : Int32), .retAddr 0]) dX7_spreadOf_6 (by decide) rfl ?_
  exact wp_le (Ms := [.ref 47, .int a0, .int (101 : Int32), .int (-1 : Int32), .int (0 : Int32), .retAddr 0]) ⟨Or.inr rfl, Or.inr rfl, Or.inr rfl, Or.inr rfl, Or.inr rfl, Or.inl rfl, trivial⟩ h
set_option maxRecDepth 100000 in
theorem bX7_spreadOf_8 {P : Int32 → St → Prop} {S : St} (x1 : Int32) (x2 : Int32) (x3 : Int32) (x4 : Int32) (h : (((S.1 8) ≤ x4 → ((0 ≤ x3 → P (x3 - x2) S) ∧ (¬ 0 ≤ x3 → P (0 : Int32) S))) ∧ (¬ (S.1 8) ≤ x4 → vp_in (((8 : Int32) * x4) + x1) 64 ∧ ((((S.2.2.1 26) (((8 : Int32) * x4) + x1).toNatClampNeg) < 0 → ((((S.2.2.1 26) (((8 : Int32) * x4) + x1).toNatClampNeg) ≤ x3 → wX7_spreadOf P 8 [.ref 47, .int x1, .int x2, .int x3, .int (x4 + (1 : Int32)), .retAddr 0] [] S) ∧ (¬ ((S.2.2.1 26) (((8 : Int32) * x4) + x1).toNatClampNeg) ≤ x3 → wX7_spreadOf P 8 [.ref 47, .int x1, .int x2, .int ((S.2.2.1 26) (((8 : Int32) * x4) + x1).toNatClampNeg), .int (x4 + (1 : Int32)), .retAddr 0] [] S))) ∧ (¬ ((S.2.2.1 26) (((8 : Int32) * x4) + x1).toNatClampNeg) < 0 → ((x2 ≤ ((S.2.2.1 26) (((8 : Int32) * x4) + x1).toNatClampNeg) → ((((S.2.2.1 26) (((8 : Int32) * x4) + x1).toNatClampNeg) ≤ x3 → wX7_spreadOf P 8 [.ref 47, .int x1, .int x2, .int x3, .int (x4 + (1 : Int32)), .retAddr 0] [] S) ∧ (¬ ((S.2.2.1 26) (((8 : Int32) * x4) + x1).toNatClampNeg) ≤ x3 → wX7_spreadOf P 8 [.ref 47, .int x1, .int x2, .int ((S.2.2.1 26) (((8 : Int32) * x4) + x1).toNatClampNeg), .int (x4 + (1 : Int32)), .retAddr 0] [] S))) ∧ (¬ x2 ≤ ((S.2.2.1 26) (((8 : Int32) * x4) + x1).toNatClampNeg) → ((((S.2.2.1 26) (((8 : Int32) * x4) + x1).toNatClampNeg) ≤ x3 → wX7_spreadOf P 8 [.ref 47, .int x1, .int ((S.2.2.1 26) (((8 : Int32) * x4) + x1).toNatClampNeg), .int x3, .int (x4 + (1 : Int32)), .retAddr 0] [] S) ∧ (¬ ((S.2.2.1 26) (((8 : Int32) * x4) + x1).toNatClampNeg) ≤ x3 → wX7_spreadOf P 8 [.ref 47, .int x1, .int ((S.2.2.1 26) (((8 : Int32) * x4) + x1).toNatClampNeg), .int ((S.2.2.1 26) (((8 : Int32) * x4) + x1).toNatClampNeg), .int (x4 + (1 : Int32)), .retAddr 0] [] S))))))))) : wX7_spreadOf P 8 [.ref 47, .int x1, .int x2, .int x3, .int x4, .retAddr 0] [] S := by
  refine wp_iload dX7_spreadOf_8 rfl ?_
  refine wp_aload_n dX7_spreadOf_10 rfl rfl ?_
  refine wp_get (q := 47) dX7_spreadOf_11 fX7_7 rfl rfl ?_
  refine wp_icmp_ge (tgt := 68) dX7_spreadOf_14 (by decide) (fun c => ?_) (fun c => ?_)
  · have h := h.1 c
    refine wp_iload_n dX7_spreadOf_68 rfl rfl ?_
    refine wp_if_ge (tgt := 76) dX7_spreadOf_69 (by decide) (fun c => ?_) (fun c => ?_)
    · have h := h.1 c
      refine wp_iload_n dX7_spreadOf_76 rfl rfl ?_
      refine wp_iload_n dX7_spreadOf_77 rfl rfl ?_
      refine wp_isub dX7_spreadOf_78 ?_
      exact wp_iret dX7_spreadOf_79 rfl rfl ⟨_, _, rfl, rfl, h⟩
    · have h := h.2 c
      refine wp_iconst (v := (0 : Int32)) dX7_spreadOf_72 (by decide) ?_
      refine wp_goto (tgt := 79) dX7_spreadOf_73 (by decide) ?_
      exact wp_iret dX7_spreadOf_79 rfl rfl ⟨_, _, rfl, rfl, h⟩
  · have h := h.2 c
    refine wp_aload_n dX7_spreadOf_17 rfl rfl ?_
    refine wp_get (q := 47) dX7_spreadOf_18 fX7_21 rfl rfl ?_
    refine wp_bipush (v := (8 : Int32)) dX7_spreadOf_21 (by decide) ?_
    refine wp_iload dX7_spreadOf_23 rfl ?_
    refine wp_imul dX7_spreadOf_25 ?_
    refine wp_iload_n dX7_spreadOf_26 rfl rfl ?_
    refine wp_iadd dX7_spreadOf_27 ?_
    obtain ⟨q1, h⟩ := h
    refine wp_iald2 (q := 50) (j := (((8 : Int32) * x4) + x1).toNatClampNeg) dX7_spreadOf_28 rfl q1 rfl ?_
    refine wp_istore (Ms := [.ref 47, .int x1, .int x2, .int x3, .int x4, .int ((S.2.2.1 26) (((8 : Int32) * x4) + x1).toNatClampNeg)]) dX7_spreadOf_29 (by decide) rfl ?_
    refine wp_iload dX7_spreadOf_31 rfl ?_
    refine wp_if_lt (tgt := 47) dX7_spreadOf_33 (by decide) (fun c => ?_) (fun c => ?_)
    · have h := h.1 c
      refine wp_iload_n dX7_spreadOf_47 rfl rfl ?_
      refine wp_istore_n (Ms := [.ref 47, .int x1, .int x2, .int x3, .int x4, .int ((S.2.2.1 26) (((8 : Int32) * x4) + x1).toNatClampNeg)]) dX7_spreadOf_48 rfl (by decide) rfl ?_
      refine wp_iload dX7_spreadOf_49 rfl ?_
      refine wp_iload_n dX7_spreadOf_51 rfl rfl ?_
      refine wp_icmp_le (tgt := 60) dX7_spreadOf_52 (by decide) (fun c => ?_) (fun c => ?_)
      · have h := h.1 c
        refine wp_iload_n dX7_spreadOf_60 rfl rfl ?_
        refine wp_istore_n (Ms := [.ref 47, .int x1, .int x2, .int x3, .int x4, .int ((S.2.2.1 26) (((8 : Int32) * x4) + x1).toNatClampNeg)]) dX7_spreadOf_61 rfl (by decide) rfl ?_
        refine wp_iinc (Ms := [.ref 47, .int x1, .int x2, .int x3, .int (x4 + (1 : Int32)), .int ((S.2.2.1 26) (((8 : Int32) * x4) + x1).toNatClampNeg)]) (v := x4 + (1 : Int32)) dX7_spreadOf_62 rfl rfl (by decide) rfl ?_
        refine wp_goto (tgt := 8) dX7_spreadOf_65 (by decide) ?_
        exact wp_le (Ms := [.ref 47, .int x1, .int x2, .int x3, .int (x4 + (1 : Int32)), .retAddr 0]) ⟨Or.inr rfl, Or.inr rfl, Or.inr rfl, Or.inr rfl, Or.inr rfl, Or.inl rfl, trivial⟩ h
      · have h := h.2 c
        refine wp_iload dX7_spreadOf_55 rfl ?_
        refine wp_goto (tgt := 61) dX7_spreadOf_57 (by decide) ?_
        refine wp_istore_n (Ms := [.ref 47, .int x1, .int x2, .int ((S.2.2.1 26) (((8 : Int32) * x4) + x1).toNatClampNeg), .int x4, .int ((S.2.2.1 26) (((8 : Int32) * x4) + x1).toNatClampNeg)]) dX7_spreadOf_61 rfl (by decide) rfl ?_
        refine wp_iinc (Ms := [.ref 47, .int x1, .int x2, .int ((S.2.2.1 26) (((8 : Int32) * x4) + x1).toNatClampNeg), .int (x4 + (1 : Int32)), .int ((S.2.2.1 26) (((8 : Int32) * x4) + x1).toNatClampNeg)]) (v := x4 + (1 : Int32)) dX7_spreadOf_62 rfl rfl (by decide) rfl ?_
        refine wp_goto (tgt := 8) dX7_spreadOf_65 (by decide) ?_
        exact wp_le (Ms := [.ref 47, .int x1, .int x2, .int ((S.2.2.1 26) (((8 : Int32) * x4) + x1).toNatClampNeg), .int (x4 + (1 : Int32)), .retAddr 0]) ⟨Or.inr rfl, Or.inr rfl, Or.inr rfl, Or.inr rfl, Or.inr rfl, Or.inl rfl, trivial⟩ h
    · have h := h.2 c
      refine wp_iload dX7_spreadOf_36 rfl ?_
      refine wp_iload_n dX7_spreadOf_38 rfl rfl ?_
      refine wp_icmp_ge (tgt := 47) dX7_spreadOf_39 (by decide) (fun c => ?_) (fun c => ?_)
      · have h := h.1 c
        refine wp_iload_n dX7_spreadOf_47 rfl rfl ?_
        refine wp_istore_n (Ms := [.ref 47, .int x1, .int x2, .int x3, .int x4, .int ((S.2.2.1 26) (((8 : Int32) * x4) + x1).toNatClampNeg)]) dX7_spreadOf_48 rfl (by decide) rfl ?_
        refine wp_iload dX7_spreadOf_49 rfl ?_
        refine wp_iload_n dX7_spreadOf_51 rfl rfl ?_
        refine wp_icmp_le (tgt := 60) dX7_spreadOf_52 (by decide) (fun c => ?_) (fun c => ?_)
        · have h := h.1 c
          refine wp_iload_n dX7_spreadOf_60 rfl rfl ?_
          refine wp_istore_n (Ms := [.ref 47, .int x1, .int x2, .int x3, .int x4, .int ((S.2.2.1 26) (((8 : Int32) * x4) + x1).toNatClampNeg)]) dX7_spreadOf_61 rfl (by decide) rfl ?_
          refine wp_iinc (Ms := [.ref 47, .int x1, .int x2, .int x3, .int (x4 + (1 : Int32)), .int ((S.2.2.1 26) (((8 : Int32) * x4) + x1).toNatClampNeg)]) (v := x4 + (1 : Int32)) dX7_spreadOf_62 rfl rfl (by decide) rfl ?_
          refine wp_goto (tgt := 8) dX7_spreadOf_65 (by decide) ?_
          exact wp_le (Ms := [.ref 47, .int x1, .int x2, .int x3, .int (x4 + (1 : Int32)), .retAddr 0]) ⟨Or.inr rfl, Or.inr rfl, Or.inr rfl, Or.inr rfl, Or.inr rfl, Or.inl rfl, trivial⟩ h
        · have h := h.2 c
          refine wp_iload dX7_spreadOf_55 rfl ?_
          refine wp_goto (tgt := 61) dX7_spreadOf_57 (by decide) ?_
          refine wp_istore_n (Ms := [.ref 47, .int x1, .int x2, .int ((S.2.2.1 26) (((8 : Int32) * x4) + x1).toNatClampNeg), .int x4, .int ((S.2.2.1 26) (((8 : Int32) * x4) + x1).toNatClampNeg)]) dX7_spreadOf_61 rfl (by decide) rfl ?_
          refine wp_iinc (Ms := [.ref 47, .int x1, .int x2, .int ((S.2.2.1 26) (((8 : Int32) * x4) + x1).toNatClampNeg), .int (x4 + (1 : Int32)), .int ((S.2.2.1 26) (((8 : Int32) * x4) + x1).toNatClampNeg)]) (v := x4 + (1 : Int32)) dX7_spreadOf_62 rfl rfl (by decide) rfl ?_
          refine wp_goto (tgt := 8) dX7_spreadOf_65 (by decide) ?_
          exact wp_le (Ms := [.ref 47, .int x1, .int x2, .int ((S.2.2.1 26) (((8 : Int32) * x4) + x1).toNatClampNeg), .int (x4 + (1 : Int32)), .retAddr 0]) ⟨Or.inr rfl, Or.inr rfl, Or.inr rfl, Or.inr rfl, Or.inr rfl, Or.inl rfl, trivial⟩ h
      · have h := h.2 c
        refine wp_iload dX7_spreadOf_42 rfl ?_
        refine wp_goto (tgt := 48) dX7_spreadOf_44 (by decide) ?_
        refine wp_istore_n (Ms := [.ref 47, .int x1, .int ((S.2.2.1 26) (((8 : Int32) * x4) + x1).toNatClampNeg), .int x3, .int x4, .int ((S.2.2.1 26) (((8 : Int32) * x4) + x1).toNatClampNeg)]) dX7_spreadOf_48 rfl (by decide) rfl ?_
        refine wp_iload dX7_spreadOf_49 rfl ?_
        refine wp_iload_n dX7_spreadOf_51 rfl rfl ?_
        refine wp_icmp_le (tgt := 60) dX7_spreadOf_52 (by decide) (fun c => ?_) (fun c => ?_)
        · have h := h.1 c
          refine wp_iload_n dX7_spreadOf_60 rfl rfl ?_
          refine wp_istore_n (Ms := [.ref 47, .int x1, .int ((S.2.2.1 26) (((8 : Int32) * x4) + x1).toNatClampNeg), .int x3, .int x4, .int ((S.2.2.1 26) (((8 : Int32) * x4) + x1).toNatClampNeg)]) dX7_spreadOf_61 rfl (by decide) rfl ?_
          refine wp_iinc (Ms := [.ref 47, .int x1, .int ((S.2.2.1 26) (((8 : Int32) * x4) + x1).toNatClampNeg), .int x3, .int (x4 + (1 : Int32)), .int ((S.2.2.1 26) (((8 : Int32) * x4) + x1).toNatClampNeg)]) (v := x4 + (1 : Int32)) dX7_spreadOf_62 rfl rfl (by decide) rfl ?_
          refine wp_goto (tgt := 8) dX7_spreadOf_65 (by decide) ?_
          exact wp_le (Ms := [.ref 47, .int x1, .int ((S.2.2.1 26) (((8 : Int32) * x4) + x1).toNatClampNeg), .int x3, .int (x4 + (1 : Int32)), .retAddr 0]) ⟨Or.inr rfl, Or.inr rfl, Or.inr rfl, Or.inr rfl, Or.inr rfl, Or.inl rfl, trivial⟩ h
        · have h := h.2 c
          refine wp_iload dX7_spreadOf_55 rfl ?_
          refine wp_goto (tgt := 61) dX7_spreadOf_57 (by decide) ?_
          refine wp_istore_n (Ms := [.ref 47, .int x1, .int ((S.2.2.1 26) (((8 : Int32) * x4) + x1).toNatClampNeg), .int ((S.2.2.1 26) (((8 : Int32) * x4) + x1).toNatClampNeg), .int x4, .int ((S.2.2.1 26) (((8 : Int32) * x4) + x1).toNatClampNeg)]) dX7_spreadOf_61 rfl (by decide) rfl ?_
          refine wp_iinc (Ms := [.ref 47, .int x1, .int ((S.2.2.1 26) (((8 : Int32) * x4) + x1).toNatClampNeg), .int ((S.2.2.1 26) (((8 : Int32) * x4) + x1).toNatClampNeg), .int (x4 + (1 : Int32)), .int ((S.2.2.1 26) (((8 : Int32) * x4) + x1).toNatClampNeg)]) (v := x4 + (1 : Int32)) dX7_spreadOf_62 rfl rfl (by decide) rfl ?_
          refine wp_goto (tgt := 8) dX7_spreadOf_65 (by decide) ?_
          exact wp_le (Ms := [.ref 47, .int x1, .int ((S.2.2.1 26) (((8 : Int32) * x4) + x1).toNatClampNeg), .int ((S.2.2.1 26) (((8 : Int32) * x4) + x1).toNatClampNeg), .int (x4 + (1 : Int32)), .retAddr 0]) ⟨Or.inr rfl, Or.inr rfl, Or.inr rfl, Or.inr rfl, Or.inr rfl, Or.inl rfl, trivial⟩ h
abbrev rX7_count : Room := { frames := 3, cells := 0, slots := 0, locals := 69 }
abbrev wX7_count (P : Int32 → St → Prop) (pc : Nat) (Ls stk : List Value) (S : St) : Prop := Wp cX7_count RX7 4 rX7_count (wFI .int P) pc Ls stk (enc S)
abbrev tX7_count (a0 : Int32) (S : St) (P : Int32 → St → Prop) : Prop := wX7_count P 0 (wl_en [.ref 47, .int a0] 4) [] S
set_option maxRecDepth 100000 in
theorem bX7_count_0 {P : Int32 → St → Prop} {S : St} (a0 : Int32) (h : tX7_findParts  S (fun S1 => wX7_count P 8 [.ref 47, .int a0, .int (0 : Int32), .int (0 : Int32)] [] S1)) : tX7_count a0 S P := by
  show wX7_count P 0 [.ref 47, .int a0, .retAddr 0, .retAddr 0] [] S
  refine wp_aload_n dX7_count_0 rfl rfl ?_
  refine wp_callV (q := 47) (As := []) (rest := []) dX7_count_1 mX7_findParts lX7_116 (by decide) rfl rfl rfl rfl (Nat.le_of_ble_eq_true rfl) (Nat.le_of_ble_eq_true rfl) h ?_
  rintro rv mh2 ⟨S1, rfl, rfl, h⟩
  refine wp_iconst (v := (0 : Int32)) dX7_count_4 (by decide) ?_
  refine wp_istore_n (Ms := [.ref 47, .int a0, .int (0 : Int32), .retAddr 0]) dX7_count_5 rfl (by decide) rfl ?_
  refine wp_iconst (v := (0 : Int32)) dX7_count_6 (by decide) ?_
  refine wp_istore_n (Ms := [.ref 47, .int a0, .int (0 : Int32), .int (0 : Int32)]) dX7_count_7 rfl (by decide) rfl ?_
  exact wp_le (Ms := [.ref 47, .int a0, .int (0 : Int32), .int (0 : Int32)]) ⟨Or.inr rfl, Or.inr rfl, Or.inr rfl, Or.inr rfl, trivial⟩ h
set_option maxRecDepth 100000 in
theorem bX7_count_8 {P : Int32 → St → Prop} {S : St} (x1 : Int32) (x2 : Int32) (x3 : Int32) (h : (((64 : Int32) ≤ x3 → wX7_count P 70 [.ref 47, .int x1, .int x2, .int (0 : Int32)] [] S) ∧ (¬ (64 : Int32) ≤ x3 → ((¬ x1 = (1 : Int32) → ((¬ x1 = (6 : Int32) → wX7_count P 8 [.ref 47, .int x1, .int (x2 + (0 : Int32)), .int (x3 + (1 : Int32))] [] S) ∧ (x1 = (6 : Int32) → (((x3 - x3 / (8 : Int32) * (8 : Int32)) ≤ (x3 / (8 : Int32)) → wX7_count P 8 [.ref 47, .int x1, .int (x2 + (0 : Int32)), .int (x3 + (1 : Int32))] [] S) ∧ (¬ (x3 - x3 / (8 : Int32) * (8 : Int32)) ≤ (x3 / (8 : Int32)) → vp_in x3 64 ∧ ((((S.2.2.1 24) x3.toNatClampNeg) = 0 → wX7_count P 8 [.ref 47, .int x1, .int (x2 + (0 : Int32)), .int (x3 + (1 : Int32))] [] S) ∧ (¬ ((S.2.2.1 24) x3.toNatClampNeg) = 0 → wX7_count P 8 [.ref 47, .int x1, .int (x2 + (1 : Int32)), .int (x3 + (1 : Int32))] [] S))))))) ∧ (x1 = (1 : Int32) → vp_in x3 64 ∧ ((0 ≤ ((S.2.2.1 26) x3.toNatClampNeg) → wX7_count P 8 [.ref 47, .int x1, .int (x2 + (1 : Int32)), .int (x3 + (1 : Int32))] [] S) ∧ (¬ 0 ≤ ((S.2.2.1 26) x3.toNatClampNeg) → ((¬ x1 = (6 : Int32) → wX7_count P 8 [.ref 47, .int x1, .int (x2 + (0 : Int32)), .int (x3 + (1 : Int32))] [] S) ∧ (x1 = (6 : Int32) → (((x3 - x3 / (8 : Int32) * (8 : Int32)) ≤ (x3 / (8 : Int32)) → wX7_count P 8 [.ref 47, .int x1, .int (x2 + (0 : Int32)), .int (x3 + (1 : Int32))] [] S) ∧ (¬ (x3 - x3 / (8 : Int32) * (8 : Int32)) ≤ (x3 / (8 : Int32)) → ((((S.2.2.1 24) x3.toNatClampNeg) = 0 → wX7_count P 8 [.ref 47, .int x1, .int (x2 + (0 : Int32)), .int (x3 + (1 : Int32))] [] S) ∧ (¬ ((S.2.2.1 24) x3.toNatClampNeg) = 0 → wX7_count P 8 [.ref 47, .int x1, .int (x2 + (1 : Int32)), .int (x3 + (1 : Int32))] [] S))))))))))))) : wX7_count P 8 [.ref 47, .int x1, .int x2, .int x3] [] S := by
  refine wp_iload_n dX7_count_8 rfl rfl ?_
  refine wp_bipush (v := (64 : Int32)) dX7_count_9 (by decide) ?_
  refine wp_icmp_ge (tgt := 68) dX7_count_11 (by decide) (fun c => ?_) (fun c => ?_)
  · have h := h.1 c
    refine wp_iconst (v := (0 : Int32)) dX7_count_68 (by decide) ?_
    refine wp_istore_n (Ms := [.ref 47, .int x1, .int x2, .int (0 : Int32)]) dX7_count_69 rfl (by decide) rfl ?_
    exact wp_le (Ms := [.ref 47, .int x1, .int x2, .int (0 : Int32)]) ⟨Or.inr rfl, Or.inr rfl, Or.inr rfl, Or.inr rfl, trivial⟩ h
  · have h := h.2 c
    refine wp_iload_n dX7_count_14 rfl rfl ?_
    refine wp_iload_n dX7_count_15 rfl rfl ?_
    refine wp_iconst (v := (1 : Int32)) dX7_count_16 (by decide) ?_
    refine wp_icmp_ne (tgt := 29) dX7_count_17 (by decide) (fun c => ?_) (fun c => ?_)
    · have h := h.1 c
      refine wp_iload_n dX7_count_29 rfl rfl ?_
      refine wp_bipush (v := (6 : Int32)) dX7_count_30 (by decide) ?_
      refine wp_icmp_ne (tgt := 59) dX7_count_32 (by decide) (fun c => ?_) (fun c => ?_)
      · have h := h.1 c
        refine wp_iconst (v := (0 : Int32)) dX7_count_59 (by decide) ?_
        refine wp_iadd dX7_count_60 ?_
        refine wp_istore_n (Ms := [.ref 47, .int x1, .int (x2 + (0 : Int32)), .int x3]) dX7_count_61 rfl (by decide) rfl ?_
        refine wp_iinc (Ms := [.ref 47, .int x1, .int (x2 + (0 : Int32)), .int (x3 + (1 : Int32))]) (v := x3 + (1 : Int32)) dX7_count_62 rfl rfl (by decide) rfl ?_
        refine wp_goto (tgt := 8) dX7_count_65 (by decide) ?_
        exact wp_le (Ms := [.ref 47, .int x1, .int (x2 + (0 : Int32)), .int (x3 + (1 : Int32))]) ⟨Or.inr rfl, Or.inr rfl, Or.inr rfl, Or.inr rfl, trivial⟩ h
      · have h := h.2 c
        refine wp_iload_n dX7_count_35 rfl rfl ?_
        refine wp_bipush (v := (8 : Int32)) dX7_count_36 (by decide) ?_
        refine wp_idiv dX7_count_38 (by decide) ?_
        refine wp_iload_n dX7_count_39 rfl rfl ?_
        refine wp_bipush (v := (8 : Int32)) dX7_count_40 (by decide) ?_
        refine wp_irem dX7_count_42 (by decide) ?_
        refine wp_icmp_ge (tgt := 59) dX7_count_43 (by decide) (fun c => ?_) (fun c => ?_)
        · have h := h.1 c
          refine wp_iconst (v := (0 : Int32)) dX7_count_59 (by decide) ?_
          refine wp_iadd dX7_count_60 ?_
          refine wp_istore_n (Ms := [.ref 47, .int x1, .int (x2 + (0 : Int32)), .int x3]) dX7_count_61 rfl (by decide) rfl ?_
          refine wp_iinc (Ms := [.ref 47, .int x1, .int (x2 + (0 : Int32)), .int (x3 + (1 : Int32))]) (v := x3 + (1 : Int32)) dX7_count_62 rfl rfl (by decide) rfl ?_
          refine wp_goto (tgt := 8) dX7_count_65 (by decide) ?_
          exact wp_le (Ms := [.ref 47, .int x1, .int (x2 + (0 : Int32)), .int (x3 + (1 : Int32))]) ⟨Or.inr rfl, Or.inr rfl, Or.inr rfl, Or.inr rfl, trivial⟩ h
        · have h := h.2 c
          refine wp_aload_n dX7_count_46 rfl rfl ?_
          refine wp_get (q := 47) dX7_count_47 fX7_13 rfl rfl ?_
          refine wp_iload_n dX7_count_50 rfl rfl ?_
          obtain ⟨q1, h⟩ := h
          refine wp_zald2 (q := 48) (j := x3.toNatClampNeg) dX7_count_51 rfl q1 rfl ?_
          refine wp_if_eq (tgt := 59) dX7_count_52 (by decide) (fun c => ?_) (fun c => ?_)
          · have h := h.1 c
            refine wp_iconst (v := (0 : Int32)) dX7_count_59 (by decide) ?_
            refine wp_iadd dX7_count_60 ?_
            refine wp_istore_n (Ms := [.ref 47, .int x1, .int (x2 + (0 : Int32)), .int x3]) dX7_count_61 rfl (by decide) rfl ?_
            refine wp_iinc (Ms := [.ref 47, .int x1, .int (x2 + (0 : Int32)), .int (x3 + (1 : Int32))]) (v := x3 + (1 : Int32)) dX7_count_62 rfl rfl (by decide) rfl ?_
            refine wp_goto (tgt := 8) dX7_count_65 (by decide) ?_
            exact wp_le (Ms := [.ref 47, .int x1, .int (x2 + (0 : Int32)), .int (x3 + (1 : Int32))]) ⟨Or.inr rfl, Or.inr rfl, Or.inr rfl, Or.inr rfl, trivial⟩ h
          · have h := h.2 c
            refine wp_iconst (v := (1 : Int32)) dX7_count_55 (by decide) ?_
            refine wp_goto (tgt := 60) dX7_count_56 (by decide) ?_
            refine wp_iadd dX7_count_60 ?_
            refine wp_istore_n (Ms := [.ref 47, .int x1, .int (x2 + (1 : Int32)), .int x3]) dX7_count_61 rfl (by decide) rfl ?_
            refine wp_iinc (Ms := [.ref 47, .int x1, .int (x2 + (1 : Int32)), .int (x3 + (1 : Int32))]) (v := x3 + (1 : Int32)) dX7_count_62 rfl rfl (by decide) rfl ?_
            refine wp_goto (tgt := 8) dX7_count_65 (by decide) ?_
            exact wp_le (Ms := [.ref 47, .int x1, .int (x2 + (1 : Int32)), .int (x3 + (1 : Int32))]) ⟨Or.inr rfl, Or.inr rfl, Or.inr rfl, Or.inr rfl, trivial⟩ h
    · have h := h.2 c
      refine wp_aload_n dX7_count_20 rfl rfl ?_
      refine wp_get (q := 47) dX7_count_21 fX7_21 rfl rfl ?_
      refine wp_iload_n dX7_count_24 rfl rfl ?_
      obtain ⟨q2, h⟩ := h
      refine wp_iald2 (q := 50) (j := x3.toNatClampNeg) dX7_count_25 rfl q2 rfl ?_
      refine wp_if_ge (tgt := 55) dX7_count_26 (by decide) (fun c => ?_) (fun c => ?_)
      · have h := h.1 c
        refine wp_iconst (v := (1 : Int32)) dX7_count_55 (by decide) ?_
        refine wp_goto (tgt := 60) dX7_count_56 (by decide) ?_
        refine wp_iadd dX7_count_60 ?_
        refine wp_istore_n (Ms := [.ref 47, .int x1, .int (x2 + (1 : Int32)), .int x3]) dX7_count_61 rfl (by decide) rfl ?_
        refine wp_iinc (Ms := [.ref 47, .int x1, .int (x2 + (1 : Int32)), .int (x3 + (1 : Int32))]) (v := x3 + (1 : Int32)) dX7_count_62 rfl rfl (by decide) rfl ?_
        refine wp_goto (tgt := 8) dX7_count_65 (by decide) ?_
        exact wp_le (Ms := [.ref 47, .int x1, .int (x2 + (1 : Int32)), .int (x3 + (1 : Int32))]) ⟨Or.inr rfl, Or.inr rfl, Or.inr rfl, Or.inr rfl, trivial⟩ h
      · have h := h.2 c
        refine wp_iload_n dX7_count_29 rfl rfl ?_
        refine wp_bipush (v := (6 : Int32)) dX7_count_30 (by decide) ?_
        refine wp_icmp_ne (tgt := 59) dX7_count_32 (by decide) (fun c => ?_) (fun c => ?_)
        · have h := h.1 c
          refine wp_iconst (v := (0 : Int32)) dX7_count_59 (by decide) ?_
          refine wp_iadd dX7_count_60 ?_
          refine wp_istore_n (Ms := [.ref 47, .int x1, .int (x2 + (0 : Int32)), .int x3]) dX7_count_61 rfl (by decide) rfl ?_
          refine wp_iinc (Ms := [.ref 47, .int x1, .int (x2 + (0 : Int32)), .int (x3 + (1 : Int32))]) (v := x3 + (1 : Int32)) dX7_count_62 rfl rfl (by decide) rfl ?_
          refine wp_goto (tgt := 8) dX7_count_65 (by decide) ?_
          exact wp_le (Ms := [.ref 47, .int x1, .int (x2 + (0 : Int32)), .int (x3 + (1 : Int32))]) ⟨Or.inr rfl, Or.inr rfl, Or.inr rfl, Or.inr rfl, trivial⟩ h
        · have h := h.2 c
          refine wp_iload_n dX7_count_35 rfl rfl ?_
          refine wp_bipush (v := (8 : Int32)) dX7_count_36 (by decide) ?_
          refine wp_idiv dX7_count_38 (by decide) ?_
          refine wp_iload_n dX7_count_39 rfl rfl ?_
          refine wp_bipush (v := (8 : Int32)) dX7_count_40 (by decide) ?_
          refine wp_irem dX7_count_42 (by decide) ?_
          refine wp_icmp_ge (tgt := 59) dX7_count_43 (by decide) (fun c => ?_) (fun c => ?_)
          · have h := h.1 c
            refine wp_iconst (v := (0 : Int32)) dX7_count_59 (by decide) ?_
            refine wp_iadd dX7_count_60 ?_
            refine wp_istore_n (Ms := [.ref 47, .int x1, .int (x2 + (0 : Int32)), .int x3]) dX7_count_61 rfl (by decide) rfl ?_
            refine wp_iinc (Ms := [.ref 47, .int x1, .int (x2 + (0 : Int32)), .int (x3 + (1 : Int32))]) (v := x3 + (1 : Int32)) dX7_count_62 rfl rfl (by decide) rfl ?_
            refine wp_goto (tgt := 8) dX7_count_65 (by decide) ?_
            exact wp_le (Ms := [.ref 47, .int x1, .int (x2 + (0 : Int32)), .int (x3 + (1 : Int32))]) ⟨Or.inr rfl, Or.inr rfl, Or.inr rfl, Or.inr rfl, trivial⟩ h
          · have h := h.2 c
            refine wp_aload_n dX7_count_46 rfl rfl ?_
            refine wp_get (q := 47) dX7_count_47 fX7_13 rfl rfl ?_
            refine wp_iload_n dX7_count_50 rfl rfl ?_
            refine wp_zald2 (q := 48) (j := x3.toNatClampNeg) dX7_count_51 rfl q2 rfl ?_
            refine wp_if_eq (tgt := 59) dX7_count_52 (by decide) (fun c => ?_) (fun c => ?_)
            · have h := h.1 c
              refine wp_iconst (v := (0 : Int32)) dX7_count_59 (by decide) ?_
              refine wp_iadd dX7_count_60 ?_
              refine wp_istore_n (Ms := [.ref 47, .int x1, .int (x2 + (0 : Int32)), .int x3]) dX7_count_61 rfl (by decide) rfl ?_
              refine wp_iinc (Ms := [.ref 47, .int x1, .int (x2 + (0 : Int32)), .int (x3 + (1 : Int32))]) (v := x3 + (1 : Int32)) dX7_count_62 rfl rfl (by decide) rfl ?_
              refine wp_goto (tgt := 8) dX7_count_65 (by decide) ?_
              exact wp_le (Ms := [.ref 47, .int x1, .int (x2 + (0 : Int32)), .int (x3 + (1 : Int32))]) ⟨Or.inr rfl, Or.inr rfl, Or.inr rfl, Or.inr rfl, trivial⟩ h
            · have h := h.2 c
              refine wp_iconst (v := (1 : Int32)) dX7_count_55 (by decide) ?_
              refine wp_goto (tgt := 60) dX7_count_56 (by decide) ?_
              refine wp_iadd dX7_count_60 ?_
              refine wp_istore_n (Ms := [.ref 47, .int x1, .int (x2 + (1 : Int32)), .int x3]) dX7_count_61 rfl (by decide) rfl ?_
              refine wp_iinc (Ms := [.ref 47, .int x1, .int (x2 + (1 : Int32)), .int (x3 + (1 : Int32))]) (v := x3 + (1 : Int32)) dX7_count_62 rfl rfl (by decide) rfl ?_
              refine wp_goto (tgt := 8) dX7_count_65 (by decide) ?_
              exact wp_le (Ms := [.ref 47, .int x1, .int (x2 + (1 : Int32)), .int (x3 + (1 : Int32))]) ⟨Or.inr rfl, Or.inr rfl, Or.inr rfl, Or.inr rfl, trivial⟩ h
set_option maxRecDepth 100000 in
theorem bX7_count_70 {P : Int32 → St → Prop} {S : St} (x1 : Int32) (x2 : Int32) (x3 : Int32) (h : (((S.1 8) ≤ x3 → ((x1.toInt < 0 ∨ 6 < x1.toInt → P (-1002 : Int32) S) ∧ (x1.toInt = 0 → P (S.1 8) S) ∧ (x1.toInt = 1 → P x2 S) ∧ (x1.toInt = 2 → P x2 S) ∧ (x1.toInt = 3 → tX7_pieces (1 : Int32) S (fun r2 S1 => P r2 S1)) ∧ (x1.toInt = 4 → tX7_pieces (10 : Int32) S (fun r4 S3 => P r4 S3)) ∧ (x1.toInt = 5 → P x2 S) ∧ (x1.toInt = 6 → P x2 S))) ∧ (¬ (S.1 8) ≤ x3 → ((¬ x1 = (2 : Int32) → ((¬ x1 = (5 : Int32) → wX7_count P 70 [.ref 47, .int x1, .int (x2 + (0 : Int32)), .int (x3 + (1 : Int32))] [] S) ∧ (x1 = (5 : Int32) → tX7_spreadOf x3 S (fun r6 S5 => ((r6 ≤ ((S5.2.2.1 25) 2) → wX7_count P 70 [.ref 47, .int x1, .int (x2 + (0 : Int32)), .int (x3 + (1 : Int32))] [] S5) ∧ (¬ r6 ≤ ((S5.2.2.1 25) 2) → wX7_count P 70 [.ref 47, .int x1, .int (x2 + (1 : Int32)), .int (x3 + (1 : Int32))] [] S5)))))) ∧ (x1 = (2 : Int32) → vp_in x3 8 ∧ ((0 ≤ ((S.2.2.1 27) x3.toNatClampNeg) → wX7_count P 70 [.ref 47, .int x1, .int (x2 + (1 : Int32)), .int (x3 + (1 : Int32))] [] S) ∧ (¬ 0 ≤ ((S.2.2.1 27) x3.toNatClampNeg) → ((¬ x1 = (5 : Int32) → wX7_count P 70 [.ref 47, .int x1, .int (x2 + (0 : Int32)), .int (x3 + (1 : Int32))] [] S) ∧ (x1 = (5 : Int32) → tX7_spreadOf x3 S (fun r9 S8 => ((r9 ≤ ((S8.2.2.1 25) 2) → wX7_count P 70 [.ref 47, .int x1, .int (x2 + (0 : Int32)), .int (x3 + (1 : Int32))] [] S8) ∧ (¬ r9 ≤ ((S8.2.2.1 25) 2) → wX7_count P 70 [.ref 47, .int x1, .int (x2 + (1 : Int32)), .int (x3 + (1 : Int32))] [] S8)))))))))))) : wX7_count P 70 [.ref 47, .int x1, .int x2, .int x3] [] S := by
  refine wp_iload_n dX7_count_70 rfl rfl ?_
  refine wp_aload_n dX7_count_71 rfl rfl ?_
  refine wp_get (q := 47) dX7_count_72 fX7_7 rfl rfl ?_
  refine wp_icmp_ge (tgt := 125) dX7_count_75 (by decide) (fun c => ?_) (fun c => ?_)
  · have h := h.1 c
    refine wp_iload_n dX7_count_125 rfl rfl ?_
    by_cases hb : x1.toInt < 0 ∨ 6 < x1.toInt
    · have h := h.1 hb
      refine wp_tableOut (tgt := 188) dX7_count_126 hb (by decide) ?_
      refine wp_sipush (v := (-1002 : Int32)) dX7_count_188 (by decide) ?_
      exact wp_iret dX7_count_191 rfl rfl ⟨_, _, rfl, rfl, h⟩
    · have h := h.2
      have hx : x1.toInt = 0 ∨ x1.toInt = 1 ∨ x1.toInt = 2 ∨ x1.toInt = 3 ∨ x1.toInt = 4 ∨ x1.toInt = 5 ∨ x1.toInt = 6 := by omega
      rcases hx with hx | hx | hx | hx | hx | hx | hx
      · have h := h.1 hx
        refine wp_tableIn (off := 42) (tgt := 168) dX7_count_126 (by omega) (by omega) (by rw [hx]; rfl) (by decide) ?_
        refine wp_aload_n dX7_count_168 rfl rfl ?_
        refine wp_get (q := 47) dX7_count_169 fX7_7 rfl rfl ?_
        exact wp_iret dX7_count_172 rfl rfl ⟨_, _, rfl, rfl, h⟩
      · have h := h.2.1 hx
        refine wp_tableIn (off := 60) (tgt := 186) dX7_count_126 (by omega) (by omega) (by rw [hx]; rfl) (by decide) ?_
        refine wp_iload_n dX7_count_186 rfl rfl ?_
        exact wp_iret dX7_count_187 rfl rfl ⟨_, _, rfl, rfl, h⟩
      · have h := h.2.2.1 hx
        refine wp_tableIn (off := 60) (tgt := 186) dX7_count_126 (by omega) (by omega) (by rw [hx]; rfl) (by decide) ?_
        refine wp_iload_n dX7_count_186 rfl rfl ?_
        exact wp_iret dX7_count_187 rfl rfl ⟨_, _, rfl, rfl, h⟩
      · have h := h.2.2.2.1 hx
        refine wp_tableIn (off := 47) (tgt := 173) dX7_count_126 (by omega) (by omega) (by rw [hx]; rfl) (by decide) ?_
        refine wp_aload_n dX7_count_173 rfl rfl ?_
        refine wp_iconst (v := (1 : Int32)) dX7_count_174 (by decide) ?_
        refine wp_callV (q := 47) (As := [.int (1 : Int32)]) (rest := []) dX7_count_175 mX7_pieces lX7_122 (by decide) rfl rfl rfl rfl (Nat.le_of_ble_eq_true rfl) (Nat.le_of_ble_eq_true rfl) h ?_
        rintro rv mh2 ⟨r2, S1, rfl, rfl, h⟩
        exact wp_iret dX7_count_178 rfl rfl ⟨_, _, rfl, rfl, h⟩
      · have h := h.2.2.2.2.1 hx
        refine wp_tableIn (off := 53) (tgt := 179) dX7_count_126 (by omega) (by omega) (by rw [hx]; rfl) (by decide) ?_
        refine wp_aload_n dX7_count_179 rfl rfl ?_
        refine wp_bipush (v := (10 : Int32)) dX7_count_180 (by decide) ?_
        refine wp_callV (q := 47) (As := [.int (10 : Int32)]) (rest := []) dX7_count_182 mX7_pieces lX7_122 (by decide) rfl rfl rfl rfl (Nat.le_of_ble_eq_true rfl) (Nat.le_of_ble_eq_true rfl) h ?_
        rintro rv mh2 ⟨r4, S3, rfl, rfl, h⟩
        exact wp_iret dX7_count_185 rfl rfl ⟨_, _, rfl, rfl, h⟩
      · have h := h.2.2.2.2.2.1 hx
        refine wp_tableIn (off := 60) (tgt := 186) dX7_count_126 (by omega) (by omega) (by rw [hx]; rfl) (by decide) ?_
        refine wp_iload_n dX7_count_186 rfl rfl ?_
        exact wp_iret dX7_count_187 rfl rfl ⟨_, _, rfl, rfl, h⟩
      · have h := h.2.2.2.2.2.2 hx
        refine wp_tableIn (off := 60) (tgt := 186) dX7_count_126 (by omega) (by omega) (by rw [hx]; rfl) (by decide) ?_
        refine wp_iload_n dX7_count_186 rfl rfl ?_
        exact wp_iret dX7_count_187 rfl rfl ⟨_, _, rfl, rfl, h⟩
  · have h := h.2 c
    refine wp_iload_n dX7_count_78 rfl rfl ?_
    refine wp_iload_n dX7_count_79 rfl rfl ?_
    refine wp_iconst (v := (2 : Int32)) dX7_count_80 (by decide) ?_
    refine wp_icmp_ne (tgt := 93) dX7_count_81 (by decide) (fun c => ?_) (fun c => ?_)
    · have h := h.1 c
      refine wp_iload_n dX7_count_93 rfl rfl ?_
      refine wp_iconst (v := (5 : Int32)) dX7_count_94 (by decide) ?_
      refine wp_icmp_ne (tgt := 116) dX7_count_95 (by decide) (fun c => ?_) (fun c => ?_)
      · have h := h.1 c
        refine wp_iconst (v := (0 : Int32)) dX7_count_116 (by decide) ?_
        refine wp_iadd dX7_count_117 ?_
        refine wp_istore_n (Ms := [.ref 47, .int x1, .int (x2 + (0 : Int32)), .int x3]) dX7_count_118 rfl (by decide) rfl ?_
        refine wp_iinc (Ms := [.ref 47, .int x1, .int (x2 + (0 : Int32)), .int (x3 + (1 : Int32))]) (v := x3 + (1 : Int32)) dX7_count_119 rfl rfl (by decide) rfl ?_
        refine wp_goto (tgt := 70) dX7_count_122 (by decide) ?_
        exact wp_le (Ms := [.ref 47, .int x1, .int (x2 + (0 : Int32)), .int (x3 + (1 : Int32))]) ⟨Or.inr rfl, Or.inr rfl, Or.inr rfl, Or.inr rfl, trivial⟩ h
      · have h := h.2 c
        refine wp_aload_n dX7_count_98 rfl rfl ?_
        refine wp_iload_n dX7_count_99 rfl rfl ?_
        refine wp_callV (q := 47) (As := [.int x3]) (rest := [.int x2]) dX7_count_100 mX7_spreadOf lX7_119 (by decide) rfl rfl rfl rfl (Nat.le_of_ble_eq_true rfl) (Nat.le_of_ble_eq_true rfl) h ?_
        rintro rv mh2 ⟨r6, S5, rfl, rfl, h⟩
        refine wp_aload_n dX7_count_103 rfl rfl ?_
        refine wp_get (q := 47) dX7_count_104 fX7_17 rfl rfl ?_
        refine wp_iconst (v := (2 : Int32)) dX7_count_107 (by decide) ?_
        refine wp_iald2 (q := 49) (j := 2) dX7_count_108 rfl (vpd rfl) rfl ?_
        refine wp_icmp_le (tgt := 116) dX7_count_109 (by decide) (fun c => ?_) (fun c => ?_)
        · have h := h.1 c
          refine wp_iconst (v := (0 : Int32)) dX7_count_116 (by decide) ?_
          refine wp_iadd dX7_count_117 ?_
          refine wp_istore_n (Ms := [.ref 47, .int x1, .int (x2 + (0 : Int32)), .int x3]) dX7_count_118 rfl (by decide) rfl ?_
          refine wp_iinc (Ms := [.ref 47, .int x1, .int (x2 + (0 : Int32)), .int (x3 + (1 : Int32))]) (v := x3 + (1 : Int32)) dX7_count_119 rfl rfl (by decide) rfl ?_
          refine wp_goto (tgt := 70) dX7_count_122 (by decide) ?_
          exact wp_le (Ms := [.ref 47, .int x1, .int (x2 + (0 : Int32)), .int (x3 + (1 : Int32))]) ⟨Or.inr rfl, Or.inr rfl, Or.inr rfl, Or.inr rfl, trivial⟩ h
        · have h := h.2 c
          refine wp_iconst (v := (1 : Int32)) dX7_count_112 (by decide) ?_
          refine wp_goto (tgt := 117) dX7_count_113 (by decide) ?_
          refine wp_iadd dX7_count_117 ?_
          refine wp_istore_n (Ms := [.ref 47, .int x1, .int (x2 + (1 : Int32)), .int x3]) dX7_count_118 rfl (by decide) rfl ?_
          refine wp_iinc (Ms := [.ref 47, .int x1, .int (x2 + (1 : Int32)), .int (x3 + (1 : Int32))]) (v := x3 + (1 : Int32)) dX7_count_119 rfl rfl (by decide) rfl ?_
          refine wp_goto (tgt := 70) dX7_count_122 (by decide) ?_
          exact wp_le (Ms := [.ref 47, .int x1, .int (x2 + (1 : Int32)), .int (x3 + (1 : Int32))]) ⟨Or.inr rfl, Or.inr rfl, Or.inr rfl, Or.inr rfl, trivial⟩ h
    · have h := h.2 c
      refine wp_aload_n dX7_count_84 rfl rfl ?_
      refine wp_get (q := 47) dX7_count_85 fX7_24 rfl rfl ?_
      refine wp_iload_n dX7_count_88 rfl rfl ?_
      obtain ⟨q7, h⟩ := h
      refine wp_iald2 (q := 51) (j := x3.toNatClampNeg) dX7_count_89 rfl q7 rfl ?_
      refine wp_if_ge (tgt := 112) dX7_count_90 (by decide) (fun c => ?_) (fun c => ?_)
      · have h := h.1 c
        refine wp_iconst (v := (1 : Int32)) dX7_count_112 (by decide) ?_
        refine wp_goto (tgt := 117) dX7_count_113 (by decide) ?_
        refine wp_iadd dX7_count_117 ?_
        refine wp_istore_n (Ms := [.ref 47, .int x1, .int (x2 + (1 : Int32)), .int x3]) dX7_count_118 rfl (by decide) rfl ?_
        refine wp_iinc (Ms := [.ref 47, .int x1, .int (x2 + (1 : Int32)), .int (x3 + (1 : Int32))]) (v := x3 + (1 : Int32)) dX7_count_119 rfl rfl (by decide) rfl ?_
        refine wp_goto (tgt := 70) dX7_count_122 (by decide) ?_
        exact wp_le (Ms := [.ref 47, .int x1, .int (x2 + (1 : Int32)), .int (x3 + (1 : Int32))]) ⟨Or.inr rfl, Or.inr rfl, Or.inr rfl, Or.inr rfl, trivial⟩ h
      · have h := h.2 c
        refine wp_iload_n dX7_count_93 rfl rfl ?_
        refine wp_iconst (v := (5 : Int32)) dX7_count_94 (by decide) ?_
        refine wp_icmp_ne (tgt := 116) dX7_count_95 (by decide) (fun c => ?_) (fun c => ?_)
        · have h := h.1 c
          refine wp_iconst (v := (0 : Int32)) dX7_count_116 (by decide) ?_
          refine wp_iadd dX7_count_117 ?_
          refine wp_istore_n (Ms := [.ref 47, .int x1, .int (x2 + (0 : Int32)), .int x3]) dX7_count_118 rfl (by decide) rfl ?_
          refine wp_iinc (Ms := [.ref 47, .int x1, .int (x2 + (0 : Int32)), .int (x3 + (1 : Int32))]) (v := x3 + (1 : Int32)) dX7_count_119 rfl rfl (by decide) rfl ?_
          refine wp_goto (tgt := 70) dX7_count_122 (by decide) ?_
          exact wp_le (Ms := [.ref 47, .int x1, .int (x2 + (0 : Int32)), .int (x3 + (1 : Int32))]) ⟨Or.inr rfl, Or.inr rfl, Or.inr rfl, Or.inr rfl, trivial⟩ h
        · have h := h.2 c
          refine wp_aload_n dX7_count_98 rfl rfl ?_
          refine wp_iload_n dX7_count_99 rfl rfl ?_
          refine wp_callV (q := 47) (As := [.int x3]) (rest := [.int x2]) dX7_count_100 mX7_spreadOf lX7_119 (by decide) rfl rfl rfl rfl (Nat.le_of_ble_eq_true rfl) (Nat.le_of_ble_eq_true rfl) h ?_
          rintro rv mh2 ⟨r9, S8, rfl, rfl, h⟩
          refine wp_aload_n dX7_count_103 rfl rfl ?_
          refine wp_get (q := 47) dX7_count_104 fX7_17 rfl rfl ?_
          refine wp_iconst (v := (2 : Int32)) dX7_count_107 (by decide) ?_
          refine wp_iald2 (q := 49) (j := 2) dX7_count_108 rfl (vpd rfl) rfl ?_
          refine wp_icmp_le (tgt := 116) dX7_count_109 (by decide) (fun c => ?_) (fun c => ?_)
          · have h := h.1 c
            refine wp_iconst (v := (0 : Int32)) dX7_count_116 (by decide) ?_
            refine wp_iadd dX7_count_117 ?_
            refine wp_istore_n (Ms := [.ref 47, .int x1, .int (x2 + (0 : Int32)), .int x3]) dX7_count_118 rfl (by decide) rfl ?_
            refine wp_iinc (Ms := [.ref 47, .int x1, .int (x2 + (0 : Int32)), .int (x3 + (1 : Int32))]) (v := x3 + (1 : Int32)) dX7_count_119 rfl rfl (by decide) rfl ?_
            refine wp_goto (tgt := 70) dX7_count_122 (by decide) ?_
            exact wp_le (Ms := [.ref 47, .int x1, .int (x2 + (0 : Int32)), .int (x3 + (1 : Int32))]) ⟨Or.inr rfl, Or.inr rfl, Or.inr rfl, Or.inr rfl, trivial⟩ h
          · have h := h.2 c
            refine wp_iconst (v := (1 : Int32)) dX7_count_112 (by decide) ?_
            refine wp_goto (tgt := 117) dX7_count_113 (by decide) ?_
            refine wp_iadd dX7_count_117 ?_
            refine wp_istore_n (Ms := [.ref 47, .int x1, .int (x2 + (1 : Int32)), .int x3]) dX7_count_118 rfl (by decide) rfl ?_
            refine wp_iinc (Ms := [.ref 47, .int x1, .int (x2 + (1 : Int32)), .int (x3 + (1 : Int32))]) (v := x3 + (1 : Int32)) dX7_count_119 rfl rfl (by decide) rfl ?_
            refine wp_goto (tgt := 70) dX7_count_122 (by decide) ?_
            exact wp_le (Ms := [.ref 47, .int x1, .int (x2 + (1 : Int32)), .int (x3 + (1 : Int32))]) ⟨Or.inr rfl, Or.inr rfl, Or.inr rfl, Or.inr rfl, trivial⟩ h
abbrev rX7_piece : Room := { frames := 3, cells := 0, slots := 0, locals := 69 }
abbrev wX7_piece (P : Int32 → St → Prop) (pc : Nat) (Ls stk : List Value) (S : St) : Prop := Wp cX7_piece RX7 3 rX7_piece (wFI .int P) pc Ls stk (enc S)
abbrev tX7_piece (a0 : Int32) (a1 : Int32) (S : St) (P : Int32 → St → Prop) : Prop := wX7_piece P 0 (wl_en [.ref 47, .int a0, .int a1] 3) [] S
set_option maxRecDepth 100000 in
theorem bX7_piece_0 {P : Int32 → St → Prop} {S : St} (a0 : Int32) (a1 : Int32) (h : tX7_is a0 S (fun r2 S1 => ((¬ r2 = 0 → tX7_in a1.toInt64 (0 : Int64) (1 : Int64) S1 (fun r4 S3 => ((¬ r4 = 0 → tX7_findParts  S3 (fun S5 => vp_in (((8 : Int32) * a1) + a0) 16 ∧ tX7_numberOf ((S5.2.2.1 30) (((8 : Int32) * a1) + a0).toNatClampNeg) S5 (fun r8 S7 => P r8 S7))) ∧ (r4 = 0 → P (-1002 : Int32) S3)))) ∧ (r2 = 0 → P (-1001 : Int32) S1)))) : tX7_piece a0 a1 S P := by
  show wX7_piece P 0 [.ref 47, .int a0, .int a1] [] S
  refine wp_aload_n dX7_piece_0 rfl rfl ?_
  refine wp_iload_n dX7_piece_1 rfl rfl ?_
  refine wp_callV (q := 47) (As := [.int a0]) (rest := []) dX7_piece_2 mX7_is lX7_69 (by decide) rfl rfl rfl rfl (Nat.le_of_ble_eq_true rfl) (Nat.le_of_ble_eq_true rfl) h ?_
  rintro rv mh2 ⟨r2, S1, rfl, rfl, h⟩
  refine wp_if_ne (tgt := 12) dX7_piece_5 (by decide) (fun c => ?_) (fun c => ?_)
  · have h := h.1 c
    refine wp_iload_n dX7_piece_12 rfl rfl ?_
    refine wp_i2l dX7_piece_13 ?_
    refine wp_lconst (v := (0 : Int64)) dX7_piece_14 (by decide) ?_
    refine wp_lconst (v := (1 : Int64)) dX7_piece_15 (by decide) ?_
    refine wp_callS (As := [.long a1.toInt64, .long (0 : Int64), .long (1 : Int64)]) (rest := []) dX7_piece_16 mX7_in lX7_61 (by decide) rfl rfl (Nat.le_of_ble_eq_true rfl) (Nat.le_of_ble_eq_true rfl) h ?_
    rintro rv mh2 ⟨r4, S3, rfl, rfl, h⟩
    refine wp_if_ne (tgt := 26) dX7_piece_19 (by decide) (fun c => ?_) (fun c => ?_)
    · have h := h.1 c
      refine wp_aload_n dX7_piece_26 rfl rfl ?_
      refine wp_callV (q := 47) (As := []) (rest := []) dX7_piece_27 mX7_findParts lX7_116 (by decide) rfl rfl rfl rfl (Nat.le_of_ble_eq_true rfl) (Nat.le_of_ble_eq_true rfl) h ?_
      rintro rv mh2 ⟨S5, rfl, rfl, h⟩
      refine wp_aload_n dX7_piece_30 rfl rfl ?_
      refine wp_aload_n dX7_piece_31 rfl rfl ?_
      refine wp_get (q := 47) dX7_piece_32 fX7_33 rfl rfl ?_
      refine wp_bipush (v := (8 : Int32)) dX7_piece_35 (by decide) ?_
      refine wp_iload_n dX7_piece_37 rfl rfl ?_
      refine wp_imul dX7_piece_38 ?_
      refine wp_iload_n dX7_piece_39 rfl rfl ?_
      refine wp_iadd dX7_piece_40 ?_
      obtain ⟨q6, h⟩ := h
      refine wp_iald2 (q := 54) (j := (((8 : Int32) * a1) + a0).toNatClampNeg) dX7_piece_41 rfl q6 rfl ?_
      refine wp_callV (q := 47) (As := [.int ((S5.2.2.1 30) (((8 : Int32) * a1) + a0).toNatClampNeg)]) (rest := []) dX7_piece_42 mX7_numberOf lX7_125 (by decide) rfl rfl rfl rfl (Nat.le_of_ble_eq_true rfl) (Nat.le_of_ble_eq_true rfl) h ?_
      rintro rv mh2 ⟨r8, S7, rfl, rfl, h⟩
      exact wp_iret dX7_piece_45 rfl rfl ⟨_, _, rfl, rfl, h⟩
    · have h := h.2 c
      refine wp_sipush (v := (-1002 : Int32)) dX7_piece_22 (by decide) ?_
      exact wp_iret dX7_piece_25 rfl rfl ⟨_, _, rfl, rfl, h⟩
  · have h := h.2 c
    refine wp_sipush (v := (-1001 : Int32)) dX7_piece_8 (by decide) ?_
    exact wp_iret dX7_piece_11 rfl rfl ⟨_, _, rfl, rfl, h⟩
abbrev rX7_place : Room := { frames := 0, cells := 0, slots := 0, locals := 0 }
abbrev wX7_place (P : St → Prop) (pc : Nat) (Ls stk : List Value) (S : St) : Prop := Wp cX7_place RX7 2 rX7_place (wFV P) pc Ls stk (enc S)
abbrev tX7_place (a0 : Int32) (S : St) (P : St → Prop) : Prop := wX7_place P 0 (wl_en [.ref 47, .int a0] 2) [] S
set_option maxRecDepth 100000 in
theorem bX7_place_0 {P : St → Prop} {S : St} (a0 : Int32) (h : vp_in a0 16 ∧ P (sI (sA S 31 (upd (S.2.2.1 31) a0.toNatClampNeg (S.1 9))) 9 ((S.1 9) + (1 : Int32)))) : tX7_place a0 S P := by
  show wX7_place P 0 [.ref 47, .int a0] [] S
  refine wp_aload_n dX7_place_0 rfl rfl ?_
  refine wp_get (q := 47) dX7_place_1 fX7_36 rfl rfl ?_
  refine wp_iload_n dX7_place_4 rfl rfl ?_
  refine wp_aload_n dX7_place_5 rfl rfl ?_
  refine wp_get (q := 47) dX7_place_6 fX7_128 rfl rfl ?_
  obtain ⟨q1, h⟩ := h
  refine wp_iast2 (q := 55) (j := a0.toNatClampNeg) (mh2 := enc (sA S 31 (upd (S.2.2.1 31) a0.toNatClampNeg (S.1 9)))) dX7_place_9 rfl q1 rfl (es_55 _ _) ?_
  refine wp_aload_n dX7_place_10 rfl rfl ?_
  refine wp_dup dX7_place_11 rfl ?_
  refine wp_get (q := 47) dX7_place_12 fX7_128 rfl rfl ?_
  refine wp_iconst (v := (1 : Int32)) dX7_place_15 (by decide) ?_
  refine wp_iadd dX7_place_16 ?_
  refine wp_put (q := 47) (mh2 := enc (sI (sA S 31 (upd (S.2.2.1 31) a0.toNatClampNeg (S.1 9))) 9 ((S.1 9) + (1 : Int32)))) dX7_place_17 fX7_128 (by decide) rfl (Nat.le_of_ble_eq_true rfl) (fun _ _ => rfl) rfl rfl (eo_47_9 _ _) ?_
  exact wp_vret dX7_place_20 rfl ⟨_, rfl, rfl, h⟩
abbrev rX7_add : Room := { frames := 0, cells := 0, slots := 0, locals := 0 }
abbrev wX7_add (P : St → Prop) (pc : Nat) (Ls stk : List Value) (S : St) : Prop := Wp cX7_add RX7 5 rX7_add (wFV P) pc Ls stk (enc S)
abbrev tX7_add (a0 : Int32) (a1 : Int32) (a2 : Int64) (S : St) (P : St → Prop) : Prop := wX7_add P 0 (wl_en [.ref 47, .int a0, .int a1, .long a2] 5) [] S
set_option maxRecDepth 100000 in
theorem bX7_add_0 {P : St → Prop} {S : St} (a0 : Int32) (a1 : Int32) (a2 : Int64) (h : vp_in (((11 : Int32) * a0) + a1) 110 ∧ P (sB S 14 (vp_updL (S.2.2.2 14) (((11 : Int32) * a0) + a1).toNatClampNeg (((S.2.2.2 14) (((11 : Int32) * a0) + a1).toNatClampNeg) + a2)))) : tX7_add a0 a1 a2 S P := by
  show wX7_add P 0 [.ref 47, .int a0, .int a1, .long a2, .retAddr 0] [] S
  refine wp_aload_n dX7_add_0 rfl rfl ?_
  refine wp_get (q := 47) dX7_add_1 fX7_39 rfl rfl ?_
  refine wp_bipush (v := (11 : Int32)) dX7_add_4 (by decide) ?_
  refine wp_iload_n dX7_add_6 rfl rfl ?_
  refine wp_imul dX7_add_7 ?_
  refine wp_iload_n dX7_add_8 rfl rfl ?_
  refine wp_iadd dX7_add_9 ?_
  refine wp_dup2 dX7_add_10 rfl rfl ?_
  obtain ⟨q1, h⟩ := h
  refine wp_lald2 (q := 56) (j := (((11 : Int32) * a0) + a1).toNatClampNeg) dX7_add_11 rfl q1 rfl ?_
  refine wp_lload_n dX7_add_12 rfl rfl ?_
  refine wp_ladd dX7_add_13 ?_
  refine wp_last2 (q := 56) (j := (((11 : Int32) * a0) + a1).toNatClampNeg) (mh2 := enc (sB S 14 (vp_updL (S.2.2.2 14) (((11 : Int32) * a0) + a1).toNatClampNeg (((S.2.2.2 14) (((11 : Int32) * a0) + a1).toNatClampNeg) + a2)))) dX7_add_14 rfl q1 rfl (es_56 _ _) ?_
  exact wp_vret dX7_add_15 rfl ⟨_, rfl, rfl, h⟩
abbrev rX7_setUp : Room := { frames := 1, cells := 0, slots := 0, locals := 24 }
abbrev wX7_setUp (P : St → Prop) (pc : Nat) (Ls stk : List Value) (S : St) : Prop := Wp cX7_setUp RX7 9 rX7_setUp (wFV P) pc Ls stk (enc S)
abbrev tX7_setUp (a0 : Int32) (S : St) (P : St → Prop) : Prop := wX7_setUp P 0 (wl_en [.ref 47, .int a0] 9) [] S
set_option maxRecDepth 100000 in
theorem bX7_setUp_0 {P : St → Prop} {S : St} (a0 : Int32) (h : wX7_setUp P 2 [.ref 47, .int a0, .int (0 : Int32), .retAddr 0, .retAddr 0, .retAddr 0, .retAddr 0, .retAddr 0, .retAddr 0] [] S) : tX7_setUp a0 S P := by
  show wX7_setUp P 0 [.ref 47, .int a0, .retAddr 0, .retAddr 0, .retAddr 0, .retAddr 0, .retAddr 0, .retAddr 0, .retAddr 0] [] S
  refine wp_iconst (v := (0 : Int32)) dX7_setUp_0 (by decide) ?_
  refine wp_istore_n (Ms := [.ref 47, .int a0, .int (0 : Int32), .retAddr 0, .retAddr 0, .retAddr 0, .retAddr 0, .retAddr 0, .retAddr 0]) dX7_setUp_1 rfl (by decide) rfl ?_
  exact wp_le (Ms := [.ref 47, .int a0, .int (0 : Int32), .retAddr 0, .retAddr 0, .retAddr 0, .retAddr 0, .retAddr 0, .retAddr 0]) ⟨Or.inr rfl, Or.inr rfl, Or.inr rfl, Or.inl rfl, Or.inl rfl, Or.inl rfl, Or.inl rfl, Or.inl rfl, Or.inl rfl, trivial⟩ h
set_option maxRecDepth 100000 in
theorem bX7_setUp_2 {P : St → Prop} {S : St} (x1 : Int32) (x2 : Int32) (h : (((110 : Int32) ≤ x2 → wX7_setUp P 23 [.ref 47, .int x1, .int (0 : Int32), .retAddr 0, .retAddr 0, .retAddr 0, .retAddr 0, .retAddr 0, .retAddr 0] [] S) ∧ (¬ (110 : Int32) ≤ x2 → vp_in x2 110 ∧ wX7_setUp P 2 [.ref 47, .int x1, .int (x2 + (1 : Int32)), .retAddr 0, .retAddr 0, .retAddr 0, .retAddr 0, .retAddr 0, .retAddr 0] [] (sB S 14 (vp_updL (S.2.2.2 14) x2.toNatClampNeg (0 : Int64)))))) : wX7_setUp P 2 [.ref 47, .int x1, .int x2, .retAddr 0, .retAddr 0, .retAddr 0, .retAddr 0, .retAddr 0, .retAddr 0] [] S := by
  refine wp_iload_n dX7_setUp_2 rfl rfl ?_
  refine wp_bipush (v := (110 : Int32)) dX7_setUp_3 (by decide) ?_
  refine wp_icmp_ge (tgt := 21) dX7_setUp_5 (by decide) (fun c => ?_) (fun c => ?_)
  · have h := h.1 c
    refine wp_iconst (v := (0 : Int32)) dX7_setUp_21 (by decide) ?_
    refine wp_istore_n (Ms := [.ref 47, .int x1, .int (0 : Int32), .retAddr 0, .retAddr 0, .retAddr 0, .retAddr 0, .retAddr 0, .retAddr 0]) dX7_setUp_22 rfl (by decide) rfl ?_
    exact wp_le (Ms := [.ref 47, .int x1, .int (0 : Int32), .retAddr 0, .retAddr 0, .retAddr 0, .retAddr 0, .retAddr 0, .retAddr 0]) ⟨Or.inr rfl, Or.inr rfl, Or.inr rfl, Or.inl rfl, Or.inl rfl, Or.inl rfl, Or.inl rfl, Or.inl rfl, Or.inl rfl, trivial⟩ h
  · have h := h.2 c
    refine wp_aload_n dX7_setUp_8 rfl rfl ?_
    refine wp_get (q := 47) dX7_setUp_9 fX7_39 rfl rfl ?_
    refine wp_iload_n dX7_setUp_12 rfl rfl ?_
    refine wp_lconst (v := (0 : Int64)) dX7_setUp_13 (by decide) ?_
    obtain ⟨q1, h⟩ := h
    refine wp_last2 (q := 56) (j := x2.toNatClampNeg) (mh2 := enc (sB S 14 (vp_updL (S.2.2.2 14) x2.toNatClampNeg (0 : Int64)))) dX7_setUp_14 rfl q1 rfl (es_56 _ _) ?_
    refine wp_iinc (Ms := [.ref 47, .int x1, .int (x2 + (1 : Int32)), .retAddr 0, .retAddr 0, .retAddr 0, .retAddr 0, .retAddr 0, .retAddr 0]) (v := x2 + (1 : Int32)) dX7_setUp_15 rfl rfl (by decide) rfl ?_
    refine wp_goto (tgt := 2) dX7_setUp_18 (by decide) ?_
    exact wp_le (Ms := [.ref 47, .int x1, .int (x2 + (1 : Int32)), .retAddr 0, .retAddr 0, .retAddr 0, .retAddr 0, .retAddr 0, .retAddr 0]) ⟨Or.inr rfl, Or.inr rfl, Or.inr rfl, Or.inl rfl, Or.inl rfl, Or.inl rfl, Or.inl rfl, Or.inl rfl, Or.inl rfl, trivial⟩ h
set_option maxRecDepth 100000 in
theorem bX7_setUp_23 {P : St → Prop} {S : St} (x1 : Int32) (x2 : Int32) (h : (((S.1 8) ≤ x2 → P S) ∧ (¬ (S.1 8) ≤ x2 → wX7_setUp P 33 [.ref 47, .int x1, .int x2, .int (0 : Int32), .retAddr 0, .retAddr 0, .retAddr 0, .retAddr 0, .retAddr 0] [] S))) : wX7_setUp P 23 [.ref 47, .int x1, .int x2, .retAddr 0, .retAddr 0, .retAddr 0, .retAddr 0, .retAddr 0, .retAddr 0] [] S := by
  refine wp_iload_n dX7_setUp_23 rfl rfl ?_
  refine wp_aload_n dX7_setUp_24 rfl rfl ?_
  refine wp_get (q := 47) dX7_setUp_25 fX7_7 rfl rfl ?_
  refine wp_icmp_ge (tgt := 197) dX7_setUp_28 (by decide) (fun c => ?_) (fun c => ?_)
  · have h := h.1 c
    exact wp_vret dX7_setUp_197 rfl ⟨_, rfl, rfl, h⟩
  · have h := h.2 c
    refine wp_iconst (v := (0 : Int32)) dX7_setUp_31 (by decide) ?_
    refine wp_istore_n (Ms := [.ref 47, .int x1, .int x2, .int (0 : Int32), .retAddr 0, .retAddr 0, .retAddr 0, .retAddr 0, .retAddr 0]) dX7_setUp_32 rfl (by decide) rfl ?_
    exact wp_le (Ms := [.ref 47, .int x1, .int x2, .int (0 : Int32), .retAddr 0, .retAddr 0, .retAddr 0, .retAddr 0, .retAddr 0]) ⟨Or.inr rfl, Or.inr rfl, Or.inr rfl, Or.inr rfl, Or.inl rfl, Or.inl rfl, Or.inl rfl, Or.inl rfl, Or.inl rfl, trivial⟩ h
set_option maxRecDepth 100000 in
theorem bX7_setUp_33 {P : St → Prop} {S : St} (x1 : Int32) (x2 : Int32) (x3 : Int32) (h : (((S.1 8) ≤ x3 → wX7_setUp P 23 [.ref 47, .int x1, .int (x2 + (1 : Int32)), .retAddr 0, .retAddr 0, .retAddr 0, .retAddr 0, .retAddr 0, .retAddr 0] [] S) ∧ (¬ (S.1 8) ≤ x3 → vp_in (((8 : Int32) * x3) + x2) 64 ∧ ((((S.2.2.1 26) (((8 : Int32) * x3) + x2).toNatClampNeg) < 0 → wX7_setUp P 33 [.ref 47, .int x1, .int x2, .int (x3 + (1 : Int32)), .retAddr 0, .retAddr 0, .retAddr 0, .retAddr 0, .retAddr 0] [] S) ∧ (¬ ((S.2.2.1 26) (((8 : Int32) * x3) + x2).toNatClampNeg) < 0 → vp_in x2 16 ∧ ((¬ ((S.2.2.1 30) x2.toNatClampNeg) = x1 → wX7_setUp P 33 [.ref 47, .int x1, .int x2, .int (x3 + (1 : Int32)), .retAddr 0, .retAddr 0, .retAddr 0, .retAddr 0, .retAddr 0] [] S) ∧ (((S.2.2.1 30) x2.toNatClampNeg) = x1 → vp_in ((8 : Int32) + x3) 16 ∧ ((0 ≤ ((S.2.2.1 31) x2.toNatClampNeg) → ((((S.2.2.1 31) x2.toNatClampNeg) < 0 → ((((S.2.2.1 31) ((8 : Int32) + x3).toNatClampNeg) < 0 → ((((S.2.2.1 31) x2.toNatClampNeg) < 0 → wX7_setUp P 33 [.ref 47, .int x1, .int x2, .int (x3 + (1 : Int32)), .retAddr 0, .retAddr 0, .retAddr 0, .retAddr 0, .retAddr 0] [] S) ∧ (¬ ((S.2.2.1 31) x2.toNatClampNeg) < 0 → ((((S.2.2.1 31) ((8 : Int32) + x3).toNatClampNeg) < 0 → wX7_setUp P 33 [.ref 47, .int x1, .int x2, .int (x3 + (1 : Int32)), .retAddr 0, .retAddr 0, .retAddr 0, .retAddr 0, .retAddr 0] [] S) ∧ (¬ ((S.2.2.1 31) ((8 : Int32) + x3).toNatClampNeg) < 0 → tX7_add ((S.2.2.1 31) x2.toNatClampNeg) ((S.2.2.1 31) ((8 : Int32) + x3).toNatClampNeg) (1 : Int64) S (fun S4 => tX7_add ((S.2.2.1 31) ((8 : Int32) + x3).toNatClampNeg) ((S.2.2.1 31) x2.toNatClampNeg) (1 : Int64) S4 (fun S5 => wX7_setUp P 33 [.ref 47, .int x1, .int x2, .int (x3 + (1 : Int32)), .retAddr 0, .retAddr 0, .retAddr 0, .retAddr 0, .retAddr 0] [] S5))))))) ∧ (¬ ((S.2.2.1 31) ((8 : Int32) + x3).toNatClampNeg) < 0 → tX7_add ((S.2.2.1 31) ((8 : Int32) + x3).toNatClampNeg) ((S.2.2.1 31) ((8 : Int32) + x3).toNatClampNeg) (1 : Int64) S (fun S6 => tX7_add ((S.2.2.1 31) ((8 : Int32) + x3).toNatClampNeg) (10 : Int32) ((((S.2.2.1 26) (((8 : Int32) * x3) + x2).toNatClampNeg) - (0 : Int32)).toInt64) S6 (fun S7 => ((((S.2.2.1 31) x2.toNatClampNeg) < 0 → wX7_setUp P 33 [.ref 47, .int x1, .int x2, .int (x3 + (1 : Int32)), .retAddr 0, .retAddr 0, .retAddr 0, .retAddr 0, .retAddr 0] [] S7) ∧ (¬ ((S.2.2.1 31) x2.toNatClampNeg) < 0 → ((((S.2.2.1 31) ((8 : Int32) + x3).toNatClampNeg) < 0 → wX7_setUp P 33 [.ref 47, .int x1, .int x2, .int (x3 + (1 : Int32)), .retAddr 0, .retAddr 0, .retAddr 0, .retAddr 0, .retAddr 0] [] S7) ∧ (¬ ((S.2.2.1 31) ((8 : Int32) + x3).toNatClampNeg) < 0 → tX7_add ((S.2.2.1 31) x2.toNatClampNeg) ((S.2.2.1 31) ((8 : Int32) + x3).toNatClampNeg) (1 : Int64) S7 (fun S8 => tX7_add ((S.2.2.1 31) ((8 : Int32) + x3).toNatClampNeg) ((S.2.2.1 31) x2.toNatClampNeg) (1 : Int64) S8 (fun S9 => wX7_setUp P 33 [.ref 47, .int x1, .int x2, .int (x3 + (1 : Int32)), .retAddr 0, .retAddr 0, .retAddr 0, .retAddr 0, .retAddr 0] [] S9))))))))))) ∧ (¬ ((S.2.2.1 31) x2.toNatClampNeg) < 0 → tX7_add ((S.2.2.1 31) x2.toNatClampNeg) ((S.2.2.1 31) x2.toNatClampNeg) (1 : Int64) S (fun S10 => tX7_add ((S.2.2.1 31) x2.toNatClampNeg) (10 : Int32) ((((S.2.2.1 26) (((8 : Int32) * x3) + x2).toNatClampNeg) - (0 : Int32)).toInt64) S10 (fun S11 => ((((S.2.2.1 31) ((8 : Int32) + x3).toNatClampNeg) < 0 → ((((S.2.2.1 31) x2.toNatClampNeg) < 0 → wX7_setUp P 33 [.ref 47, .int x1, .int x2, .int (x3 + (1 : Int32)), .retAddr 0, .retAddr 0, .retAddr 0, .retAddr 0, .retAddr 0] [] S11) ∧ (¬ ((S.2.2.1 31) x2.toNatClampNeg) < 0 → ((((S.2.2.1 31) ((8 : Int32) + x3).toNatClampNeg) < 0 → wX7_setUp P 33 [.ref 47, .int x1, .int x2, .int (x3 + (1 : Int32)), .retAddr 0, .retAddr 0, .retAddr 0, .retAddr 0, .retAddr 0] [] S11) ∧ (¬ ((S.2.2.1 31) ((8 : Int32) + x3).toNatClampNeg) < 0 → tX7_add ((S.2.2.1 31) x2.toNatClampNeg) ((S.2.2.1 31) ((8 : Int32) + x3).toNatClampNeg) (1 : Int64) S11 (fun S12 => tX7_add ((S.2.2.1 31) ((8 : Int32) + x3).toNatClampNeg) ((S.2.2.1 31) x2.toNatClampNeg) (1 : Int64) S12 (fun S13 => wX7_setUp P 33 [.ref 47, .int x1, .int x2, .int (x3 + (1 : Int32)), .retAddr 0, .retAddr 0, .retAddr 0, .retAddr 0, .retAddr 0] [] S13))))))) ∧ (¬ ((S.2.2.1 31) ((8 : Int32) + x3).toNatClampNeg) < 0 → tX7_add ((S.2.2.1 31) ((8 : Int32) + x3).toNatClampNeg) ((S.2.2.1 31) ((8 : Int32) + x3).toNatClampNeg) (1 : Int64) S11 (fun S14 => tX7_add ((S.2.2.1 31) ((8 : Int32) + x3).toNatClampNeg) (10 : Int32) ((((S.2.2.1 26) (((8 : Int32) * x3) + x2).toNatClampNeg) - (0 : Int32)).toInt64) S14 (fun S15 => ((((S.2.2.1 31) x2.toNatClampNeg) < 0 → wX7_setUp P 33 [.ref 47, .int x1, .int x2, .int (x3 + (1 : Int32)), .retAddr 0, .retAddr 0, .retAddr 0, .retAddr 0, .retAddr 0] [] S15) ∧ (¬ ((S.2.2.1 31) x2.toNatClampNeg) < 0 → ((((S.2.2.1 31) ((8 : Int32) + x3).toNatClampNeg) < 0 → wX7_setUp P 33 [.ref 47, .int x1, .int x2, .int (x3 + (1 : Int32)), .retAddr 0, .retAddr 0, .retAddr 0, .retAddr 0, .retAddr 0] [] S15) ∧ (¬ ((S.2.2.1 31) ((8 : Int32) + x3).toNatClampNeg) < 0 → tX7_add ((S.2.2.1 31) x2.toNatClampNeg) ((S.2.2.1 31) ((8 : Int32) + x3).toNatClampNeg) (1 : Int64) S15 (fun S16 => tX7_add ((S.2.2.1 31) ((8 : Int32) + x3).toNatClampNeg) ((S.2.2.1 31) x2.toNatClampNeg) (1 : Int64) S16 (fun S17 => wX7_setUp P 33 [.ref 47, .int x1, .int x2, .int (x3 + (1 : Int32)), .retAddr 0, .retAddr 0, .retAddr 0, .retAddr 0, .retAddr 0] [] S17))))))))))))))) ∧ (¬ 0 ≤ ((S.2.2.1 31) x2.toNatClampNeg) → vp_in x2 8 ∧ ((((S.2.2.1 31) x2.toNatClampNeg) < 0 → ((((S.2.2.1 31) ((8 : Int32) + x3).toNatClampNeg) < 0 → ((((S.2.2.1 31) x2.toNatClampNeg) < 0 → wX7_setUp P 33 [.ref 47, .int x1, .int x2, .int (x3 + (1 : Int32)), .retAddr 0, .retAddr 0, .retAddr 0, .retAddr 0, .retAddr 0] [] S) ∧ (¬ ((S.2.2.1 31) x2.toNatClampNeg) < 0 → ((((S.2.2.1 31) ((8 : Int32) + x3).toNatClampNeg) < 0 → wX7_setUp P 33 [.ref 47, .int x1, .int x2, .int (x3 + (1 : Int32)), .retAddr 0, .retAddr 0, .retAddr 0, .retAddr 0, .retAddr 0] [] S) ∧ (¬ ((S.2.2.1 31) ((8 : Int32) + x3).toNatClampNeg) < 0 → tX7_add ((S.2.2.1 31) x2.toNatClampNeg) ((S.2.2.1 31) ((8 : Int32) + x3).toNatClampNeg) (1 : Int64) S (fun S19 => tX7_add ((S.2.2.1 31) ((8 : Int32) + x3).toNatClampNeg) ((S.2.2.1 31) x2.toNatClampNeg) (1 : Int64) S19 (fun S20 => wX7_setUp P 33 [.ref 47, .int x1, .int x2, .int (x3 + (1 : Int32)), .retAddr 0, .retAddr 0, .retAddr 0, .retAddr 0, .retAddr 0] [] S20))))))) ∧ (¬ ((S.2.2.1 31) ((8 : Int32) + x3).toNatClampNeg) < 0 → tX7_add ((S.2.2.1 31) ((8 : Int32) + x3).toNatClampNeg) ((S.2.2.1 31) ((8 : Int32) + x3).toNatClampNeg) (1 : Int64) S (fun S21 => tX7_add ((S.2.2.1 31) ((8 : Int32) + x3).toNatClampNeg) (10 : Int32) ((((S.2.2.1 26) (((8 : Int32) * x3) + x2).toNatClampNeg) - ((S.2.2.1 27) x2.toNatClampNeg)).toInt64) S21 (fun S22 => ((((S.2.2.1 31) x2.toNatClampNeg) < 0 → wX7_setUp P 33 [.ref 47, .int x1, .int x2, .int (x3 + (1 : Int32)), .retAddr 0, .retAddr 0, .retAddr 0, .retAddr 0, .retAddr 0] [] S22) ∧ (¬ ((S.2.2.1 31) x2.toNatClampNeg) < 0 → ((((S.2.2.1 31) ((8 : Int32) + x3).toNatClampNeg) < 0 → wX7_setUp P 33 [.ref 47, .int x1, .int x2, .int (x3 + (1 : Int32)), .retAddr 0, .retAddr 0, .retAddr 0, .retAddr 0, .retAddr 0] [] S22) ∧ (¬ ((S.2.2.1 31) ((8 : Int32) + x3).toNatClampNeg) < 0 → tX7_add ((S.2.2.1 31) x2.toNatClampNeg) ((S.2.2.1 31) ((8 : Int32) + x3).toNatClampNeg) (1 : Int64) S22 (fun S23 => tX7_add ((S.2.2.1 31) ((8 : Int32) + x3).toNatClampNeg) ((S.2.2.1 31) x2.toNatClampNeg) (1 : Int64) S23 (fun S24 => wX7_setUp P 33 [.ref 47, .int x1, .int x2, .int (x3 + (1 : Int32)), .retAddr 0, .retAddr 0, .retAddr 0, .retAddr 0, .retAddr 0] [] S24))))))))))) ∧ (¬ ((S.2.2.1 31) x2.toNatClampNeg) < 0 → tX7_add ((S.2.2.1 31) x2.toNatClampNeg) ((S.2.2.1 31) x2.toNatClampNeg) (1 : Int64) S (fun S25 => tX7_add ((S.2.2.1 31) x2.toNatClampNeg) (10 : Int32) ((((S.2.2.1 26) (((8 : Int32) * x3) + x2).toNatClampNeg) - ((S.2.2.1 27) x2.toNatClampNeg)).toInt64) S25 (fun S26 => ((((S.2.2.1 31) ((8 : Int32) + x3).toNatClampNeg) < 0 → ((((S.2.2.1 31) x2.toNatClampNeg) < 0 → wX7_setUp P 33 [.ref 47, .int x1, .int x2, .int (x3 + (1 : Int32)), .retAddr 0, .retAddr 0, .retAddr 0, .retAddr 0, .retAddr 0] [] S26) ∧ (¬ ((S.2.2.1 31) x2.toNatClampNeg) < 0 → ((((S.2.2.1 31) ((8 : Int32) + x3).toNatClampNeg) < 0 → wX7_setUp P 33 [.ref 47, .int x1, .int x2, .int (x3 + (1 : Int32)), .retAddr 0, .retAddr 0, .retAddr 0, .retAddr 0, .retAddr 0] [] S26) ∧ (¬ ((S.2.2.1 31) ((8 : Int32) + x3).toNatClampNeg) < 0 → tX7_add ((S.2.2.1 31) x2.toNatClampNeg) ((S.2.2.1 31) ((8 : Int32) + x3).toNatClampNeg) (1 : Int64) S26 (fun S27 => tX7_add ((S.2.2.1 31) ((8 : Int32) + x3).toNatClampNeg) ((S.2.2.1 31) x2.toNatClampNeg) (1 : Int64) S27 (fun S28 => wX7_setUp P 33 [.ref 47, .int x1, .int x2, .int (x3 + (1 : Int32)), .retAddr 0, .retAddr 0, .retAddr 0, .retAddr 0, .retAddr 0] [] S28))))))) ∧ (¬ ((S.2.2.1 31) ((8 : Int32) + x3).toNatClampNeg) < 0 → tX7_add ((S.2.2.1 31) ((8 : Int32) + x3).toNatClampNeg) ((S.2.2.1 31) ((8 : Int32) + x3).toNatClampNeg) (1 : Int64) S26 (fun S29 => tX7_add ((S.2.2.1 31) ((8 : Int32) + x3).toNatClampNeg) (10 : Int32) ((((S.2.2.1 26) (((8 : Int32) * x3) + x2).toNatClampNeg) - ((S.2.2.1 27) x2.toNatClampNeg)).toInt64) S29 (fun S30 => ((((S.2.2.1 31) x2.toNatClampNeg) < 0 → wX7_setUp P 33 [.ref 47, .int x1, .int x2, .int (x3 + (1 : Int32)), .retAddr 0, .retAddr 0, .retAddr 0, .retAddr 0, .retAddr 0] [] S30) ∧ (¬ ((S.2.2.1 31) x2.toNatClampNeg) < 0 → ((((S.2.2.1 31) ((8 : Int32) + x3).toNatClampNeg) < 0 → wX7_setUp P 33 [.ref 47, .int x1, .int x2, .int (x3 + (1 : Int32)), .retAddr 0, .retAddr 0, .retAddr 0, .retAddr 0, .retAddr 0] [] S30) ∧ (¬ ((S.2.2.1 31) ((8 : Int32) + x3).toNatClampNeg) < 0 → tX7_add ((S.2.2.1 31) x2.toNatClampNeg) ((S.2.2.1 31) ((8 : Int32) + x3).toNatClampNeg) (1 : Int64) S30 (fun S31 => tX7_add ((S.2.2.1 31) ((8 : Int32) + x3).toNatClampNeg) ((S.2.2.1 31) x2.toNatClampNeg) (1 : Int64) S31 (fun S32 => wX7_setUp P 33 [.ref 47, .int x1, .int x2, .int (x3 + (1 : Int32)), .retAddr 0, .retAddr 0, .retAddr 0, .retAddr 0, .retAddr 0] [] S32))))))))))))))))))))))) : wX7_setUp P 33 [.ref 47, .int x1, .int x2, .int x3, .retAddr 0, .retAddr 0, .retAddr 0, .retAddr 0, .retAddr 0] [] S := by
  refine wp_iload_n dX7_setUp_33 rfl rfl ?_
  refine wp_aload_n dX7_setUp_34 rfl rfl ?_
  refine wp_get (q := 47) dX7_setUp_35 fX7_7 rfl rfl ?_
  refine wp_icmp_ge (tgt := 191) dX7_setUp_38 (by decide) (fun c => ?_) (fun c => ?_)
  · have h := h.1 c
    refine wp_iinc (Ms := [.ref 47, .int x1, .int (x2 + (1 : Int32)), .int x3, .retAddr 0, .retAddr 0, .retAddr 0, .retAddr 0, .retAddr 0]) (v := x2 + (1 : Int32)) dX7_setUp_191 rfl rfl (by decide) rfl ?_
    refine wp_goto (tgt := 23) dX7_setUp_194 (by decide) ?_
    exact wp_le (Ms := [.ref 47, .int x1, .int (x2 + (1 : Int32)), .retAddr 0, .retAddr 0, .retAddr 0, .retAddr 0, .retAddr 0, .retAddr 0]) ⟨Or.inr rfl, Or.inr rfl, Or.inr rfl, Or.inl rfl, Or.inl rfl, Or.inl rfl, Or.inl rfl, Or.inl rfl, Or.inl rfl, trivial⟩ h
  · have h := h.2 c
    refine wp_aload_n dX7_setUp_41 rfl rfl ?_
    refine wp_get (q := 47) dX7_setUp_42 fX7_21 rfl rfl ?_
    refine wp_bipush (v := (8 : Int32)) dX7_setUp_45 (by decide) ?_
    refine wp_iload_n dX7_setUp_47 rfl rfl ?_
    refine wp_imul dX7_setUp_48 ?_
    refine wp_iload_n dX7_setUp_49 rfl rfl ?_
    refine wp_iadd dX7_setUp_50 ?_
    obtain ⟨q1, h⟩ := h
    refine wp_iald2 (q := 50) (j := (((8 : Int32) * x3) + x2).toNatClampNeg) dX7_setUp_51 rfl q1 rfl ?_
    refine wp_istore (Ms := [.ref 47, .int x1, .int x2, .int x3, .int ((S.2.2.1 26) (((8 : Int32) * x3) + x2).toNatClampNeg), .retAddr 0, .retAddr 0, .retAddr 0, .retAddr 0]) dX7_setUp_52 (by decide) rfl ?_
    refine wp_iload dX7_setUp_54 rfl ?_
    refine wp_if_lt (tgt := 185) dX7_setUp_56 (by decide) (fun c => ?_) (fun c => ?_)
    · have h := h.1 c
      refine wp_iinc (Ms := [.ref 47, .int x1, .int x2, .int (x3 + (1 : Int32)), .int ((S.2.2.1 26) (((8 : Int32) * x3) + x2).toNatClampNeg), .retAddr 0, .retAddr 0, .retAddr 0, .retAddr 0]) (v := x3 + (1 : Int32)) dX7_setUp_185 rfl rfl (by decide) rfl ?_
      refine wp_goto (tgt := 33) dX7_setUp_188 (by decide) ?_
      exact wp_le (Ms := [.ref 47, .int x1, .int x2, .int (x3 + (1 : Int32)), .retAddr 0, .retAddr 0, .retAddr 0, .retAddr 0, .retAddr 0]) ⟨Or.inr rfl, Or.inr rfl, Or.inr rfl, Or.inr rfl, Or.inl rfl, Or.inl rfl, Or.inl rfl, Or.inl rfl, Or.inl rfl, trivial⟩ h
    · have h := h.2 c
      refine wp_aload_n dX7_setUp_59 rfl rfl ?_
      refine wp_get (q := 47) dX7_setUp_60 fX7_33 rfl rfl ?_
      refine wp_iload_n dX7_setUp_63 rfl rfl ?_
      obtain ⟨q2, h⟩ := h
      refine wp_iald2 (q := 54) (j := x2.toNatClampNeg) dX7_setUp_64 rfl q2 rfl ?_
      refine wp_iload_n dX7_setUp_65 rfl rfl ?_
      refine wp_icmp_ne (tgt := 185) dX7_setUp_66 (by decide) (fun c => ?_) (fun c => ?_)
      · have h := h.1 c
        refine wp_iinc (Ms := [.ref 47, .int x1, .int x2, .int (x3 + (1 : Int32)), .int ((S.2.2.1 26) (((8 : Int32) * x3) + x2).toNatClampNeg), .retAddr 0, .retAddr 0, .retAddr 0, .retAddr 0]) (v := x3 + (1 : Int32)) dX7_setUp_185 rfl rfl (by decide) rfl ?_
        refine wp_goto (tgt := 33) dX7_setUp_188 (by decide) ?_
        exact wp_le (Ms := [.ref 47, .int x1, .int x2, .int (x3 + (1 : Int32)), .retAddr 0, .retAddr 0, .retAddr 0, .retAddr 0, .retAddr 0]) ⟨Or.inr rfl, Or.inr rfl, Or.inr rfl, Or.inr rfl, Or.inl rfl, Or.inl rfl, Or.inl rfl, Or.inl rfl, Or.inl rfl, trivial⟩ h
      · have h := h.2 c
        refine wp_aload_n dX7_setUp_69 rfl rfl ?_
        refine wp_get (q := 47) dX7_setUp_70 fX7_36 rfl rfl ?_
        refine wp_iload_n dX7_setUp_73 rfl rfl ?_
        refine wp_iald2 (q := 55) (j := x2.toNatClampNeg) dX7_setUp_74 rfl q2 rfl ?_
        refine wp_istore (Ms := [.ref 47, .int x1, .int x2, .int x3, .int ((S.2.2.1 26) (((8 : Int32) * x3) + x2).toNatClampNeg), .int ((S.2.2.1 31) x2.toNatClampNeg), .retAddr 0, .retAddr 0, .retAddr 0]) dX7_setUp_75 (by decide) rfl ?_
        refine wp_aload_n dX7_setUp_77 rfl rfl ?_
        refine wp_get (q := 47) dX7_setUp_78 fX7_36 rfl rfl ?_
        refine wp_bipush (v := (8 : Int32)) dX7_setUp_81 (by decide) ?_
        refine wp_iload_n dX7_setUp_83 rfl rfl ?_
        refine wp_iadd dX7_setUp_84 ?_
        obtain ⟨q3, h⟩ := h
        refine wp_iald2 (q := 55) (j := ((8 : Int32) + x3).toNatClampNeg) dX7_setUp_85 rfl q3 rfl ?_
        refine wp_istore (Ms := [.ref 47, .int x1, .int x2, .int x3, .int ((S.2.2.1 26) (((8 : Int32) * x3) + x2).toNatClampNeg), .int ((S.2.2.1 31) x2.toNatClampNeg), .int ((S.2.2.1 31) ((8 : Int32) + x3).toNatClampNeg), .retAddr 0, .retAddr 0]) dX7_setUp_86 (by decide) rfl ?_
        refine wp_iload dX7_setUp_88 rfl ?_
        refine wp_iload dX7_setUp_90 rfl ?_
        refine wp_if_ge (tgt := 104) dX7_setUp_92 (by decide) (fun c => ?_) (fun c => ?_)
        · have h := h.1 c
          refine wp_iconst (v := (0 : Int32)) dX7_setUp_104 (by decide) ?_
          refine wp_isub dX7_setUp_105 ?_
          refine wp_i2l dX7_setUp_106 ?_
          refine wp_lstore (Ms := [.ref 47, .int x1, .int x2, .int x3, .int ((S.2.2.1 26) (((8 : Int32) * x3) + x2).toNatClampNeg), .int ((S.2.2.1 31) x2.toNatClampNeg), .int ((S.2.2.1 31) ((8 : Int32) + x3).toNatClampNeg), .long ((((S.2.2.1 26) (((8 : Int32) * x3) + x2).toNatClampNeg) - (0 : Int32)).toInt64), .retAddr 0]) dX7_setUp_107 (by decide) rfl ?_
          refine wp_iload dX7_setUp_109 rfl ?_
          refine wp_if_lt (tgt := 133) dX7_setUp_111 (by decide) (fun c => ?_) (fun c => ?_)
          · have h := h.1 c
            refine wp_iload dX7_setUp_133 rfl ?_
            refine wp_if_lt (tgt := 157) dX7_setUp_135 (by decide) (fun c => ?_) (fun c => ?_)
            · have h := h.1 c
              refine wp_iload dX7_setUp_157 rfl ?_
              refine wp_if_lt (tgt := 185) dX7_setUp_159 (by decide) (fun c => ?_) (fun c => ?_)
              · have h := h.1 c
                refine wp_iinc (Ms := [.ref 47, .int x1, .int x2, .int (x3 + (1 : Int32)), .int ((S.2.2.1 26) (((8 : Int32) * x3) + x2).toNatClampNeg), .int ((S.2.2.1 31) x2.toNatClampNeg), .int ((S.2.2.1 31) ((8 : Int32) + x3).toNatClampNeg), .long ((((S.2.2.1 26) (((8 : Int32) * x3) + x2).toNatClampNeg) - (0 : Int32)).toInt64), .retAddr 0]) (v := x3 + (1 : Int32)) dX7_setUp_185 rfl rfl (by decide) rfl ?_
                refine wp_goto (tgt := 33) dX7_setUp_188 (by decide) ?_
                exact wp_le (Ms := [.ref 47, .int x1, .int x2, .int (x3 + (1 : Int32)), .retAddr 0, .retAddr 0, .retAddr 0, .retAddr 0, .retAddr 0]) ⟨Or.inr rfl, Or.inr rfl, Or.inr rfl, Or.inr rfl, Or.inl rfl, Or.inl rfl, Or.inl rfl, Or.inl rfl, Or.inl rfl, trivial⟩ h
              · have h := h.2 c
                refine wp_iload dX7_setUp_162 rfl ?_
                refine wp_if_lt (tgt := 185) dX7_setUp_164 (by decide) (fun c => ?_) (fun c => ?_)
                · have h := h.1 c
                  refine wp_iinc (Ms := [.ref 47, .int x1, .int x2, .int (x3 + (1 : Int32)), .int ((S.2.2.1 26) (((8 : Int32) * x3) + x2).toNatClampNeg), .int ((S.2.2.1 31) x2.toNatClampNeg), .int ((S.2.2.1 31) ((8 : Int32) + x3).toNatClampNeg), .long ((((S.2.2.1 26) (((8 : Int32) * x3) + x2).toNatClampNeg) - (0 : Int32)).toInt64), .retAddr 0]) (v := x3 + (1 : Int32)) dX7_setUp_185 rfl rfl (by decide) rfl ?_
                  refine wp_goto (tgt := 33) dX7_setUp_188 (by decide) ?_
                  exact wp_le (Ms := [.ref 47, .int x1, .int x2, .int (x3 + (1 : Int32)), .retAddr 0, .retAddr 0, .retAddr 0, .retAddr 0, .retAddr 0]) ⟨Or.inr rfl, Or.inr rfl, Or.inr rfl, Or.inr rfl, Or.inl rfl, Or.inl rfl, Or.inl rfl, Or.inl rfl, Or.inl rfl, trivial⟩ h
                · have h := h.2 c
                  refine wp_aload_n dX7_setUp_167 rfl rfl ?_
                  refine wp_iload dX7_setUp_168 rfl ?_
                  refine wp_iload dX7_setUp_170 rfl ?_
                  refine wp_lconst (v := (1 : Int64)) dX7_setUp_172 (by decide) ?_
                  refine wp_callV (q := 47) (As := [.int ((S.2.2.1 31) x2.toNatClampNeg), .int ((S.2.2.1 31) ((8 : Int32) + x3).toNatClampNeg), .long (1 : Int64)]) (rest := []) dX7_setUp_173 mX7_add lX7_131 (by decide) rfl rfl rfl rfl (Nat.le_of_ble_eq_true rfl) (Nat.le_of_ble_eq_true rfl) h ?_
                  rintro rv mh2 ⟨S4, rfl, rfl, h⟩
                  refine wp_aload_n dX7_setUp_176 rfl rfl ?_
                  refine wp_iload dX7_setUp_177 rfl ?_
                  refine wp_iload dX7_setUp_179 rfl ?_
                  refine wp_lconst (v := (1 : Int64)) dX7_setUp_181 (by decide) ?_
                  refine wp_callV (q := 47) (As := [.int ((S.2.2.1 31) ((8 : Int32) + x3).toNatClampNeg), .int ((S.2.2.1 31) x2.toNatClampNeg), .long (1 : Int64)]) (rest := []) dX7_setUp_182 mX7_add lX7_131 (by decide) rfl rfl rfl rfl (Nat.le_of_ble_eq_true rfl) (Nat.le_of_ble_eq_true rfl) h ?_
                  rintro rv mh2 ⟨S5, rfl, rfl, h⟩
                  refine wp_iinc (Ms := [.ref 47, .int x1, .int x2, .int (x3 + (1 : Int32)), .int ((S.2.2.1 26) (((8 : Int32) * x3) + x2).toNatClampNeg), .int ((S.2.2.1 31) x2.toNatClampNeg), .int ((S.2.2.1 31) ((8 : Int32) + x3).toNatClampNeg), .long ((((S.2.2.1 26) (((8 : Int32) * x3) + x2).toNatClampNeg) - (0 : Int32)).toInt64), .retAddr 0]) (v := x3 + (1 : Int32)) dX7_setUp_185 rfl rfl (by decide) rfl ?_
                  refine wp_goto (tgt := 33) dX7_setUp_188 (by decide) ?_
                  exact wp_le (Ms := [.ref 47, .int x1, .int x2, .int (x3 + (1 : Int32)), .retAddr 0, .retAddr 0, .retAddr 0, .retAddr 0, .retAddr 0]) ⟨Or.inr rfl, Or.inr rfl, Or.inr rfl, Or.inr rfl, Or.inl rfl, Or.inl rfl, Or.inl rfl, Or.inl rfl, Or.inl rfl, trivial⟩ h
            · have h := h.2 c
              refine wp_aload_n dX7_setUp_138 rfl rfl ?_
              refine wp_iload dX7_setUp_139 rfl ?_
              refine wp_iload dX7_setUp_141 rfl ?_
              refine wp_lconst (v := (1 : Int64)) dX7_setUp_143 (by decide) ?_
              refine wp_callV (q := 47) (As := [.int ((S.2.2.1 31) ((8 : Int32) + x3).toNatClampNeg), .int ((S.2.2.1 31) ((8 : Int32) + x3).toNatClampNeg), .long (1 : Int64)]) (rest := []) dX7_setUp_144 mX7_add lX7_131 (by decide) rfl rfl rfl rfl (Nat.le_of_ble_eq_true rfl) (Nat.le_of_ble_eq_true rfl) h ?_
              rintro rv mh2 ⟨S6, rfl, rfl, h⟩
              refine wp_aload_n dX7_setUp_147 rfl rfl ?_
              refine wp_iload dX7_setUp_148 rfl ?_
              refine wp_bipush (v := (10 : Int32)) dX7_setUp_150 (by decide) ?_
              refine wp_lload dX7_setUp_152 rfl ?_
              refine wp_callV (q := 47) (As := [.int ((S.2.2.1 31) ((8 : Int32) + x3).toNatClampNeg), .int (10 : Int32), .long ((((S.2.2.1 26) (((8 : Int32) * x3) + x2).toNatClampNeg) - (0 : Int32)).toInt64)]) (rest := []) dX7_setUp_154 mX7_add lX7_131 (by decide) rfl rfl rfl rfl (Nat.le_of_ble_eq_true rfl) (Nat.le_of_ble_eq_true rfl) h ?_
              rintro rv mh2 ⟨S7, rfl, rfl, h⟩
              refine wp_iload dX7_setUp_157 rfl ?_
              refine wp_if_lt (tgt := 185) dX7_setUp_159 (by decide) (fun c => ?_) (fun c => ?_)
              · have h := h.1 c
                refine wp_iinc (Ms := [.ref 47, .int x1, .int x2, .int (x3 + (1 : Int32)), .int ((S.2.2.1 26) (((8 : Int32) * x3) + x2).toNatClampNeg), .int ((S.2.2.1 31) x2.toNatClampNeg), .int ((S.2.2.1 31) ((8 : Int32) + x3).toNatClampNeg), .long ((((S.2.2.1 26) (((8 : Int32) * x3) + x2).toNatClampNeg) - (0 : Int32)).toInt64), .retAddr 0]) (v := x3 + (1 : Int32)) dX7_setUp_185 rfl rfl (by decide) rfl ?_
                refine wp_goto (tgt := 33) dX7_setUp_188 (by decide) ?_
                exact wp_le (Ms := [.ref 47, .int x1, .int x2, .int (x3 + (1 : Int32)), .retAddr 0, .retAddr 0, .retAddr 0, .retAddr 0, .retAddr 0]) ⟨Or.inr rfl, Or.inr rfl, Or.inr rfl, Or.inr rfl, Or.inl rfl, Or.inl rfl, Or.inl rfl, Or.inl rfl, Or.inl rfl, trivial⟩ h
              · have h := h.2 c
                refine wp_iload dX7_setUp_162 rfl ?_
                refine wp_if_lt (tgt := 185) dX7_setUp_164 (by decide) (fun c => ?_) (fun c => ?_)
                · have h := h.1 c
                  refine wp_iinc (Ms := [.ref 47, .int x1, .int x2, .int (x3 + (1 : Int32)), .int ((S.2.2.1 26) (((8 : Int32) * x3) + x2).toNatClampNeg), .int ((S.2.2.1 31) x2.toNatClampNeg), .int ((S.2.2.1 31) ((8 : Int32) + x3).toNatClampNeg), .long ((((S.2.2.1 26) (((8 : Int32) * x3) + x2).toNatClampNeg) - (0 : Int32)).toInt64), .retAddr 0]) (v := x3 + (1 : Int32)) dX7_setUp_185 rfl rfl (by decide) rfl ?_
                  refine wp_goto (tgt := 33) dX7_setUp_188 (by decide) ?_
                  exact wp_le (Ms := [.ref 47, .int x1, .int x2, .int (x3 + (1 : Int32)), .retAddr 0, .retAddr 0, .retAddr 0, .retAddr 0, .retAddr 0]) ⟨Or.inr rfl, Or.inr rfl, Or.inr rfl, Or.inr rfl, Or.inl rfl, Or.inl rfl, Or.inl rfl, Or.inl rfl, Or.inl rfl, trivial⟩ h
                · have h := h.2 c
                  refine wp_aload_n dX7_setUp_167 rfl rfl ?_
                  refine wp_iload dX7_setUp_168 rfl ?_
                  refine wp_iload dX7_setUp_170 rfl ?_
                  refine wp_lconst (v := (1 : Int64)) dX7_setUp_172 (by decide) ?_
                  refine wp_callV (q := 47) (As := [.int ((S.2.2.1 31) x2.toNatClampNeg), .int ((S.2.2.1 31) ((8 : Int32) + x3).toNatClampNeg), .long (1 : Int64)]) (rest := []) dX7_setUp_173 mX7_add lX7_131 (by decide) rfl rfl rfl rfl (Nat.le_of_ble_eq_true rfl) (Nat.le_of_ble_eq_true rfl) h ?_
                  rintro rv mh2 ⟨S8, rfl, rfl, h⟩
                  refine wp_aload_n dX7_setUp_176 rfl rfl ?_
                  refine wp_iload dX7_setUp_177 rfl ?_
                  refine wp_iload dX7_setUp_179 rfl ?_
                  refine wp_lconst (v := (1 : Int64)) dX7_setUp_181 (by decide) ?_
                  refine wp_callV (q := 47) (As := [.int ((S.2.2.1 31) ((8 : Int32) + x3).toNatClampNeg), .int ((S.2.2.1 31) x2.toNatClampNeg), .long (1 : Int64)]) (rest := []) dX7_setUp_182 mX7_add lX7_131 (by decide) rfl rfl rfl rfl (Nat.le_of_ble_eq_true rfl) (Nat.le_of_ble_eq_true rfl) h ?_
                  rintro rv mh2 ⟨S9, rfl, rfl, h⟩
                  refine wp_iinc (Ms := [.ref 47, .int x1, .int x2, .int (x3 + (1 : Int32)), .int ((S.2.2.1 26) (((8 : Int32) * x3) + x2).toNatClampNeg), .int ((S.2.2.1 31) x2.toNatClampNeg), .int ((S.2.2.1 31) ((8 : Int32) + x3).toNatClampNeg), .long ((((S.2.2.1 26) (((8 : Int32) * x3) + x2).toNatClampNeg) - (0 : Int32)).toInt64), .retAddr 0]) (v := x3 + (1 : Int32)) dX7_setUp_185 rfl rfl (by decide) rfl ?_
                  refine wp_goto (tgt := 33) dX7_setUp_188 (by decide) ?_
                  exact wp_le (Ms := [.ref 47, .int x1, .int x2, .int (x3 + (1 : Int32)), .retAddr 0, .retAddr 0, .retAddr 0, .retAddr 0, .retAddr 0]) ⟨Or.inr rfl, Or.inr rfl, Or.inr rfl, Or.inr rfl, Or.inl rfl, Or.inl rfl, Or.inl rfl, Or.inl rfl, Or.inl rfl, trivial⟩ h
          · have h := h.2 c
            refine wp_aload_n dX7_setUp_114 rfl rfl ?_
            refine wp_iload dX7_setUp_115 rfl ?_
            refine wp_iload dX7_setUp_117 rfl ?_
            refine wp_lconst (v := (1 : Int64)) dX7_setUp_119 (by decide) ?_
            refine wp_callV (q := 47) (As := [.int ((S.2.2.1 31) x2.toNatClampNeg), .int ((S.2.2.1 31) x2.toNatClampNeg), .long (1 : Int64)]) (rest := []) dX7_setUp_120 mX7_add lX7_131 (by decide) rfl rfl rfl rfl (Nat.le_of_ble_eq_true rfl) (Nat.le_of_ble_eq_true rfl) h ?_
            rintro rv mh2 ⟨S10, rfl, rfl, h⟩
            refine wp_aload_n dX7_setUp_123 rfl rfl ?_
            refine wp_iload dX7_setUp_124 rfl ?_
            refine wp_bipush (v := (10 : Int32)) dX7_setUp_126 (by decide) ?_
            refine wp_lload dX7_setUp_128 rfl ?_
            refine wp_callV (q := 47) (As := [.int ((S.2.2.1 31) x2.toNatClampNeg), .int (10 : Int32), .long ((((S.2.2.1 26) (((8 : Int32) * x3) + x2).toNatClampNeg) - (0 : Int32)).toInt64)]) (rest := []) dX7_setUp_130 mX7_add lX7_131 (by decide) rfl rfl rfl rfl (Nat.le_of_ble_eq_true rfl) (Nat.le_of_ble_eq_true rfl) h ?_
            rintro rv mh2 ⟨S11, rfl, rfl, h⟩
            refine wp_iload dX7_setUp_133 rfl ?_
            refine wp_if_lt (tgt := 157) dX7_setUp_135 (by decide) (fun c => ?_) (fun c => ?_)
            · have h := h.1 c
              refine wp_iload dX7_setUp_157 rfl ?_
              refine wp_if_lt (tgt := 185) dX7_setUp_159 (by decide) (fun c => ?_) (fun c => ?_)
              · have h := h.1 c
                refine wp_iinc (Ms := [.ref 47, .int x1, .int x2, .int (x3 + (1 : Int32)), .int ((S.2.2.1 26) (((8 : Int32) * x3) + x2).toNatClampNeg), .int ((S.2.2.1 31) x2.toNatClampNeg), .int ((S.2.2.1 31) ((8 : Int32) + x3).toNatClampNeg), .long ((((S.2.2.1 26) (((8 : Int32) * x3) + x2).toNatClampNeg) - (0 : Int32)).toInt64), .retAddr 0]) (v := x3 + (1 : Int32)) dX7_setUp_185 rfl rfl (by decide) rfl ?_
                refine wp_goto (tgt := 33) dX7_setUp_188 (by decide) ?_
                exact wp_le (Ms := [.ref 47, .int x1, .int x2, .int (x3 + (1 : Int32)), .retAddr 0, .retAddr 0, .retAddr 0, .retAddr 0, .retAddr 0]) ⟨Or.inr rfl, Or.inr rfl, Or.inr rfl, Or.inr rfl, Or.inl rfl, Or.inl rfl, Or.inl rfl, Or.inl rfl, Or.inl rfl, trivial⟩ h
              · have h := h.2 c
                refine wp_iload dX7_setUp_162 rfl ?_
                refine wp_if_lt (tgt := 185) dX7_setUp_164 (by decide) (fun c => ?_) (fun c => ?_)
                · have h := h.1 c
                  refine wp_iinc (Ms := [.ref 47, .int x1, .int x2, .int (x3 + (1 : Int32)), .int ((S.2.2.1 26) (((8 : Int32) * x3) + x2).toNatClampNeg), .int ((S.2.2.1 31) x2.toNatClampNeg), .int ((S.2.2.1 31) ((8 : Int32) + x3).toNatClampNeg), .long ((((S.2.2.1 26) (((8 : Int32) * x3) + x2).toNatClampNeg) - (0 : Int32)).toInt64), .retAddr 0]) (v := x3 + (1 : Int32)) dX7_setUp_185 rfl rfl (by decide) rfl ?_
                  refine wp_goto (tgt := 33) dX7_setUp_188 (by decide) ?_
                  exact wp_le (Ms := [.ref 47, .int x1, .int x2, .int (x3 + (1 : Int32)), .retAddr 0, .retAddr 0, .retAddr 0, .retAddr 0, .retAddr 0]) ⟨Or.inr rfl, Or.inr rfl, Or.inr rfl, Or.inr rfl, Or.inl rfl, Or.inl rfl, Or.inl rfl, Or.inl rfl, Or.inl rfl, trivial⟩ h
                · have h := h.2 c
                  refine wp_aload_n dX7_setUp_167 rfl rfl ?_
                  refine wp_iload dX7_setUp_168 rfl ?_
                  refine wp_iload dX7_setUp_170 rfl ?_
                  refine wp_lconst (v := (1 : Int64)) dX7_setUp_172 (by decide) ?_
                  refine wp_callV (q := 47) (As := [.int ((S.2.2.1 31) x2.toNatClampNeg), .int ((S.2.2.1 31) ((8 : Int32) + x3).toNatClampNeg), .long (1 : Int64)]) (rest := []) dX7_setUp_173 mX7_add lX7_131 (by decide) rfl rfl rfl rfl (Nat.le_of_ble_eq_true rfl) (Nat.le_of_ble_eq_true rfl) h ?_
                  rintro rv mh2 ⟨S12, rfl, rfl, h⟩
                  refine wp_aload_n dX7_setUp_176 rfl rfl ?_
                  refine wp_iload dX7_setUp_177 rfl ?_
                  refine wp_iload dX7_setUp_179 rfl ?_
                  refine wp_lconst (v := (1 : Int64)) dX7_setUp_181 (by decide) ?_
                  refine wp_callV (q := 47) (As := [.int ((S.2.2.1 31) ((8 : Int32) + x3).toNatClampNeg), .int ((S.2.2.1 31) x2.toNatClampNeg), .long (1 : Int64)]) (rest := []) dX7_setUp_182 mX7_add lX7_131 (by decide) rfl rfl rfl rfl (Nat.le_of_ble_eq_true rfl) (Nat.le_of_ble_eq_true rfl) h ?_
                  rintro rv mh2 ⟨S13, rfl, rfl, h⟩
                  refine wp_iinc (Ms := [.ref 47, .int x1, .int x2, .int (x3 + (1 : Int32)), .int ((S.2.2.1 26) (((8 : Int32) * x3) + x2).toNatClampNeg), .int ((S.2.2.1 31) x2.toNatClampNeg), .int ((S.2.2.1 31) ((8 : Int32) + x3).toNatClampNeg), .long ((((S.2.2.1 26) (((8 : Int32) * x3) + x2).toNatClampNeg) - (0 : Int32)).toInt64), .retAddr 0]) (v := x3 + (1 : Int32)) dX7_setUp_185 rfl rfl (by decide) rfl ?_
                  refine wp_goto (tgt := 33) dX7_setUp_188 (by decide) ?_
                  exact wp_le (Ms := [.ref 47, .int x1, .int x2, .int (x3 + (1 : Int32)), .retAddr 0, .retAddr 0, .retAddr 0, .retAddr 0, .retAddr 0]) ⟨Or.inr rfl, Or.inr rfl, Or.inr rfl, Or.inr rfl, Or.inl rfl, Or.inl rfl, Or.inl rfl, Or.inl rfl, Or.inl rfl, trivial⟩ h
            · have h := h.2 c
              refine wp_aload_n dX7_setUp_138 rfl rfl ?_
              refine wp_iload dX7_setUp_139 rfl ?_
              refine wp_iload dX7_setUp_141 rfl ?_
              refine wp_lconst (v := (1 : Int64)) dX7_setUp_143 (by decide) ?_
              refine wp_callV (q := 47) (As := [.int ((S.2.2.1 31) ((8 : Int32) + x3).toNatClampNeg), .int ((S.2.2.1 31) ((8 : Int32) + x3).toNatClampNeg), .long (1 : Int64)]) (rest := []) dX7_setUp_144 mX7_add lX7_131 (by decide) rfl rfl rfl rfl (Nat.le_of_ble_eq_true rfl) (Nat.le_of_ble_eq_true rfl) h ?_
              rintro rv mh2 ⟨S14, rfl, rfl, h⟩
              refine wp_aload_n dX7_setUp_147 rfl rfl ?_
              refine wp_iload dX7_setUp_148 rfl ?_
              refine wp_bipush (v := (10 : Int32)) dX7_setUp_150 (by decide) ?_
              refine wp_lload dX7_setUp_152 rfl ?_
              refine wp_callV (q := 47) (As := [.int ((S.2.2.1 31) ((8 : Int32) + x3).toNatClampNeg), .int (10 : Int32), .long ((((S.2.2.1 26) (((8 : Int32) * x3) + x2).toNatClampNeg) - (0 : Int32)).toInt64)]) (rest := []) dX7_setUp_154 mX7_add lX7_131 (by decide) rfl rfl rfl rfl (Nat.le_of_ble_eq_true rfl) (Nat.le_of_ble_eq_true rfl) h ?_
              rintro rv mh2 ⟨S15, rfl, rfl, h⟩
              refine wp_iload dX7_setUp_157 rfl ?_
              refine wp_if_lt (tgt := 185) dX7_setUp_159 (by decide) (fun c => ?_) (fun c => ?_)
              · have h := h.1 c
                refine wp_iinc (Ms := [.ref 47, .int x1, .int x2, .int (x3 + (1 : Int32)), .int ((S.2.2.1 26) (((8 : Int32) * x3) + x2).toNatClampNeg), .int ((S.2.2.1 31) x2.toNatClampNeg), .int ((S.2.2.1 31) ((8 : Int32) + x3).toNatClampNeg), .long ((((S.2.2.1 26) (((8 : Int32) * x3) + x2).toNatClampNeg) - (0 : Int32)).toInt64), .retAddr 0]) (v := x3 + (1 : Int32)) dX7_setUp_185 rfl rfl (by decide) rfl ?_
                refine wp_goto (tgt := 33) dX7_setUp_188 (by decide) ?_
                exact wp_le (Ms := [.ref 47, .int x1, .int x2, .int (x3 + (1 : Int32)), .retAddr 0, .retAddr 0, .retAddr 0, .retAddr 0, .retAddr 0]) ⟨Or.inr rfl, Or.inr rfl, Or.inr rfl, Or.inr rfl, Or.inl rfl, Or.inl rfl, Or.inl rfl, Or.inl rfl, Or.inl rfl, trivial⟩ h
              · have h := h.2 c
                refine wp_iload dX7_setUp_162 rfl ?_
                refine wp_if_lt (tgt := 185) dX7_setUp_164 (by decide) (fun c => ?_) (fun c => ?_)
                · have h := h.1 c
                  refine wp_iinc (Ms := [.ref 47, .int x1, .int x2, .int (x3 + (1 : Int32)), .int ((S.2.2.1 26) (((8 : Int32) * x3) + x2).toNatClampNeg), .int ((S.2.2.1 31) x2.toNatClampNeg), .int ((S.2.2.1 31) ((8 : Int32) + x3).toNatClampNeg), .long ((((S.2.2.1 26) (((8 : Int32) * x3) + x2).toNatClampNeg) - (0 : Int32)).toInt64), .retAddr 0]) (v := x3 + (1 : Int32)) dX7_setUp_185 rfl rfl (by decide) rfl ?_
                  refine wp_goto (tgt := 33) dX7_setUp_188 (by decide) ?_
                  exact wp_le (Ms := [.ref 47, .int x1, .int x2, .int (x3 + (1 : Int32)), .retAddr 0, .retAddr 0, .retAddr 0, .retAddr 0, .retAddr 0]) ⟨Or.inr rfl, Or.inr rfl, Or.inr rfl, Or.inr rfl, Or.inl rfl, Or.inl rfl, Or.inl rfl, Or.inl rfl, Or.inl rfl, trivial⟩ h
                · have h := h.2 c
                  refine wp_aload_n dX7_setUp_167 rfl rfl ?_
                  refine wp_iload dX7_setUp_168 rfl ?_
                  refine wp_iload dX7_setUp_170 rfl ?_
                  refine wp_lconst (v := (1 : Int64)) dX7_setUp_172 (by decide) ?_
                  refine wp_callV (q := 47) (As := [.int ((S.2.2.1 31) x2.toNatClampNeg), .int ((S.2.2.1 31) ((8 : Int32) + x3).toNatClampNeg), .long (1 : Int64)]) (rest := []) dX7_setUp_173 mX7_add lX7_131 (by decide) rfl rfl rfl rfl (Nat.le_of_ble_eq_true rfl) (Nat.le_of_ble_eq_true rfl) h ?_
                  rintro rv mh2 ⟨S16, rfl, rfl, h⟩
                  refine wp_aload_n dX7_setUp_176 rfl rfl ?_
                  refine wp_iload dX7_setUp_177 rfl ?_
                  refine wp_iload dX7_setUp_179 rfl ?_
                  refine wp_lconst (v := (1 : Int64)) dX7_setUp_181 (by decide) ?_
                  refine wp_callV (q := 47) (As := [.int ((S.2.2.1 31) ((8 : Int32) + x3).toNatClampNeg), .int ((S.2.2.1 31) x2.toNatClampNeg), .long (1 : Int64)]) (rest := []) dX7_setUp_182 mX7_add lX7_131 (by decide) rfl rfl rfl rfl (Nat.le_of_ble_eq_true rfl) (Nat.le_of_ble_eq_true rfl) h ?_
                  rintro rv mh2 ⟨S17, rfl, rfl, h⟩
                  refine wp_iinc (Ms := [.ref 47, .int x1, .int x2, .int (x3 + (1 : Int32)), .int ((S.2.2.1 26) (((8 : Int32) * x3) + x2).toNatClampNeg), .int ((S.2.2.1 31) x2.toNatClampNeg), .int ((S.2.2.1 31) ((8 : Int32) + x3).toNatClampNeg), .long ((((S.2.2.1 26) (((8 : Int32) * x3) + x2).toNatClampNeg) - (0 : Int32)).toInt64), .retAddr 0]) (v := x3 + (1 : Int32)) dX7_setUp_185 rfl rfl (by decide) rfl ?_
                  refine wp_goto (tgt := 33) dX7_setUp_188 (by decide) ?_
                  exact wp_le (Ms := [.ref 47, .int x1, .int x2, .int (x3 + (1 : Int32)), .retAddr 0, .retAddr 0, .retAddr 0, .retAddr 0, .retAddr 0]) ⟨Or.inr rfl, Or.inr rfl, Or.inr rfl, Or.inr rfl, Or.inl rfl, Or.inl rfl, Or.inl rfl, Or.inl rfl, Or.inl rfl, trivial⟩ h
        · have h := h.2 c
          refine wp_aload_n dX7_setUp_95 rfl rfl ?_
          refine wp_get (q := 47) dX7_setUp_96 fX7_24 rfl rfl ?_
          refine wp_iload_n dX7_setUp_99 rfl rfl ?_
          obtain ⟨q18, h⟩ := h
          refine wp_iald2 (q := 51) (j := x2.toNatClampNeg) dX7_setUp_100 rfl q18 rfl ?_
          refine wp_goto (tgt := 105) dX7_setUp_101 (by decide) ?_
          refine wp_isub dX7_setUp_105 ?_
          refine wp_i2l dX7_setUp_106 ?_
          refine wp_lstore (Ms := [.ref 47, .int x1, .int x2, .int x3, .int ((S.2.2.1 26) (((8 : Int32) * x3) + x2).toNatClampNeg), .int ((S.2.2.1 31) x2.toNatClampNeg), .int ((S.2.2.1 31) ((8 : Int32) + x3).toNatClampNeg), .long ((((S.2.2.1 26) (((8 : Int32) * x3) + x2).toNatClampNeg) - ((S.2.2.1 27) x2.toNatClampNeg)).toInt64), .retAddr 0]) dX7_setUp_107 (by decide) rfl ?_
          refine wp_iload dX7_setUp_109 rfl ?_
          refine wp_if_lt (tgt := 133) dX7_setUp_111 (by decide) (fun c => ?_) (fun c => ?_)
          · have h := h.1 c
            refine wp_iload dX7_setUp_133 rfl ?_
            refine wp_if_lt (tgt := 157) dX7_setUp_135 (by decide) (fun c => ?_) (fun c => ?_)
            · have h := h.1 c
              refine wp_iload dX7_setUp_157 rfl ?_
              refine wp_if_lt (tgt := 185) dX7_setUp_159 (by decide) (fun c => ?_) (fun c => ?_)
              · have h := h.1 c
                refine wp_iinc (Ms := [.ref 47, .int x1, .int x2, .int (x3 + (1 : Int32)), .int ((S.2.2.1 26) (((8 : Int32) * x3) + x2).toNatClampNeg), .int ((S.2.2.1 31) x2.toNatClampNeg), .int ((S.2.2.1 31) ((8 : Int32) + x3).toNatClampNeg), .long ((((S.2.2.1 26) (((8 : Int32) * x3) + x2).toNatClampNeg) - ((S.2.2.1 27) x2.toNatClampNeg)).toInt64), .retAddr 0]) (v := x3 + (1 : Int32)) dX7_setUp_185 rfl rfl (by decide) rfl ?_
                refine wp_goto (tgt := 33) dX7_setUp_188 (by decide) ?_
                exact wp_le (Ms := [.ref 47, .int x1, .int x2, .int (x3 + (1 : Int32)), .retAddr 0, .retAddr 0, .retAddr 0, .retAddr 0, .retAddr 0]) ⟨Or.inr rfl, Or.inr rfl, Or.inr rfl, Or.inr rfl, Or.inl rfl, Or.inl rfl, Or.inl rfl, Or.inl rfl, Or.inl rfl, trivial⟩ h
              · have h := h.2 c
                refine wp_iload dX7_setUp_162 rfl ?_
                refine wp_if_lt (tgt := 185) dX7_setUp_164 (by decide) (fun c => ?_) (fun c => ?_)
                · have h := h.1 c
                  refine wp_iinc (Ms := [.ref 47, .int x1, .int x2, .int (x3 + (1 : Int32)), .int ((S.2.2.1 26) (((8 : Int32) * x3) + x2).toNatClampNeg), .int ((S.2.2.1 31) x2.toNatClampNeg), .int ((S.2.2.1 31) ((8 : Int32) + x3).toNatClampNeg), .long ((((S.2.2.1 26) (((8 : Int32) * x3) + x2).toNatClampNeg) - ((S.2.2.1 27) x2.toNatClampNeg)).toInt64), .retAddr 0]) (v := x3 + (1 : Int32)) dX7_setUp_185 rfl rfl (by decide) rfl ?_
                  refine wp_goto (tgt := 33) dX7_setUp_188 (by decide) ?_
                  exact wp_le (Ms := [.ref 47, .int x1, .int x2, .int (x3 + (1 : Int32)), .retAddr 0, .retAddr 0, .retAddr 0, .retAddr 0, .retAddr 0]) ⟨Or.inr rfl, Or.inr rfl, Or.inr rfl, Or.inr rfl, Or.inl rfl, Or.inl rfl, Or.inl rfl, Or.inl rfl, Or.inl rfl, trivial⟩ h
                · have h := h.2 c
                  refine wp_aload_n dX7_setUp_167 rfl rfl ?_
                  refine wp_iload dX7_setUp_168 rfl ?_
                  refine wp_iload dX7_setUp_170 rfl ?_
                  refine wp_lconst (v := (1 : Int64)) dX7_setUp_172 (by decide) ?_
                  refine wp_callV (q := 47) (As := [.int ((S.2.2.1 31) x2.toNatClampNeg), .int ((S.2.2.1 31) ((8 : Int32) + x3).toNatClampNeg), .long (1 : Int64)]) (rest := []) dX7_setUp_173 mX7_add lX7_131 (by decide) rfl rfl rfl rfl (Nat.le_of_ble_eq_true rfl) (Nat.le_of_ble_eq_true rfl) h ?_
                  rintro rv mh2 ⟨S19, rfl, rfl, h⟩
                  refine wp_aload_n dX7_setUp_176 rfl rfl ?_
                  refine wp_iload dX7_setUp_177 rfl ?_
                  refine wp_iload dX7_setUp_179 rfl ?_
                  refine wp_lconst (v := (1 : Int64)) dX7_setUp_181 (by decide) ?_
                  refine wp_callV (q := 47) (As := [.int ((S.2.2.1 31) ((8 : Int32) + x3).toNatClampNeg), .int ((S.2.2.1 31) x2.toNatClampNeg), .long (1 : Int64)]) (rest := []) dX7_setUp_182 mX7_add lX7_131 (by decide) rfl rfl rfl rfl (Nat.le_of_ble_eq_true rfl) (Nat.le_of_ble_eq_true rfl) h ?_
                  rintro rv mh2 ⟨S20, rfl, rfl, h⟩
                  refine wp_iinc (Ms := [.ref 47, .int x1, .int x2, .int (x3 + (1 : Int32)), .int ((S.2.2.1 26) (((8 : Int32) * x3) + x2).toNatClampNeg), .int ((S.2.2.1 31) x2.toNatClampNeg), .int ((S.2.2.1 31) ((8 : Int32) + x3).toNatClampNeg), .long ((((S.2.2.1 26) (((8 : Int32) * x3) + x2).toNatClampNeg) - ((S.2.2.1 27) x2.toNatClampNeg)).toInt64), .retAddr 0]) (v := x3 + (1 : Int32)) dX7_setUp_185 rfl rfl (by decide) rfl ?_
                  refine wp_goto (tgt := 33) dX7_setUp_188 (by decide) ?_
                  exact wp_le (Ms := [.ref 47, .int x1, .int x2, .int (x3 + (1 : Int32)), .retAddr 0, .retAddr 0, .retAddr 0, .retAddr 0, .retAddr 0]) ⟨Or.inr rfl, Or.inr rfl, Or.inr rfl, Or.inr rfl, Or.inl rfl, Or.inl rfl, Or.inl rfl, Or.inl rfl, Or.inl rfl, trivial⟩ h
            · have h := h.2 c
              refine wp_aload_n dX7_setUp_138 rfl rfl ?_
              refine wp_iload dX7_setUp_139 rfl ?_
              refine wp_iload dX7_setUp_141 rfl ?_
              refine wp_lconst (v := (1 : Int64)) dX7_setUp_143 (by decide) ?_
              refine wp_callV (q := 47) (As := [.int ((S.2.2.1 31) ((8 : Int32) + x3).toNatClampNeg), .int ((S.2.2.1 31) ((8 : Int32) + x3).toNatClampNeg), .long (1 : Int64)]) (rest := []) dX7_setUp_144 mX7_add lX7_131 (by decide) rfl rfl rfl rfl (Nat.le_of_ble_eq_true rfl) (Nat.le_of_ble_eq_true rfl) h ?_
              rintro rv mh2 ⟨S21, rfl, rfl, h⟩
              refine wp_aload_n dX7_setUp_147 rfl rfl ?_
              refine wp_iload dX7_setUp_148 rfl ?_
              refine wp_bipush (v := (10 : Int32)) dX7_setUp_150 (by decide) ?_
              refine wp_lload dX7_setUp_152 rfl ?_
              refine wp_callV (q := 47) (As := [.int ((S.2.2.1 31) ((8 : Int32) + x3).toNatClampNeg), .int (10 : Int32), .long ((((S.2.2.1 26) (((8 : Int32) * x3) + x2).toNatClampNeg) - ((S.2.2.1 27) x2.toNatClampNeg)).toInt64)]) (rest := []) dX7_setUp_154 mX7_add lX7_131 (by decide) rfl rfl rfl rfl (Nat.le_of_ble_eq_true rfl) (Nat.le_of_ble_eq_true rfl) h ?_
              rintro rv mh2 ⟨S22, rfl, rfl, h⟩
              refine wp_iload dX7_setUp_157 rfl ?_
              refine wp_if_lt (tgt := 185) dX7_setUp_159 (by decide) (fun c => ?_) (fun c => ?_)
              · have h := h.1 c
                refine wp_iinc (Ms := [.ref 47, .int x1, .int x2, .int (x3 + (1 : Int32)), .int ((S.2.2.1 26) (((8 : Int32) * x3) + x2).toNatClampNeg), .int ((S.2.2.1 31) x2.toNatClampNeg), .int ((S.2.2.1 31) ((8 : Int32) + x3).toNatClampNeg), .long ((((S.2.2.1 26) (((8 : Int32) * x3) + x2).toNatClampNeg) - ((S.2.2.1 27) x2.toNatClampNeg)).toInt64), .retAddr 0]) (v := x3 + (1 : Int32)) dX7_setUp_185 rfl rfl (by decide) rfl ?_
                refine wp_goto (tgt := 33) dX7_setUp_188 (by decide) ?_
                exact wp_le (Ms := [.ref 47, .int x1, .int x2, .int (x3 + (1 : Int32)), .retAddr 0, .retAddr 0, .retAddr 0, .retAddr 0, .retAddr 0]) ⟨Or.inr rfl, Or.inr rfl, Or.inr rfl, Or.inr rfl, Or.inl rfl, Or.inl rfl, Or.inl rfl, Or.inl rfl, Or.inl rfl, trivial⟩ h
              · have h := h.2 c
                refine wp_iload dX7_setUp_162 rfl ?_
                refine wp_if_lt (tgt := 185) dX7_setUp_164 (by decide) (fun c => ?_) (fun c => ?_)
                · have h := h.1 c
                  refine wp_iinc (Ms := [.ref 47, .int x1, .int x2, .int (x3 + (1 : Int32)), .int ((S.2.2.1 26) (((8 : Int32) * x3) + x2).toNatClampNeg), .int ((S.2.2.1 31) x2.toNatClampNeg), .int ((S.2.2.1 31) ((8 : Int32) + x3).toNatClampNeg), .long ((((S.2.2.1 26) (((8 : Int32) * x3) + x2).toNatClampNeg) - ((S.2.2.1 27) x2.toNatClampNeg)).toInt64), .retAddr 0]) (v := x3 + (1 : Int32)) dX7_setUp_185 rfl rfl (by decide) rfl ?_
                  refine wp_goto (tgt := 33) dX7_setUp_188 (by decide) ?_
                  exact wp_le (Ms := [.ref 47, .int x1, .int x2, .int (x3 + (1 : Int32)), .retAddr 0, .retAddr 0, .retAddr 0, .retAddr 0, .retAddr 0]) ⟨Or.inr rfl, Or.inr rfl, Or.inr rfl, Or.inr rfl, Or.inl rfl, Or.inl rfl, Or.inl rfl, Or.inl rfl, Or.inl rfl, trivial⟩ h
                · have h := h.2 c
                  refine wp_aload_n dX7_setUp_167 rfl rfl ?_
                  refine wp_iload dX7_setUp_168 rfl ?_
                  refine wp_iload dX7_setUp_170 rfl ?_
                  refine wp_lconst (v := (1 : Int64)) dX7_setUp_172 (by decide) ?_
                  refine wp_callV (q := 47) (As := [.int ((S.2.2.1 31) x2.toNatClampNeg), .int ((S.2.2.1 31) ((8 : Int32) + x3).toNatClampNeg), .long (1 : Int64)]) (rest := []) dX7_setUp_173 mX7_add lX7_131 (by decide) rfl rfl rfl rfl (Nat.le_of_ble_eq_true rfl) (Nat.le_of_ble_eq_true rfl) h ?_
                  rintro rv mh2 ⟨S23, rfl, rfl, h⟩
                  refine wp_aload_n dX7_setUp_176 rfl rfl ?_
                  refine wp_iload dX7_setUp_177 rfl ?_
                  refine wp_iload dX7_setUp_179 rfl ?_
                  refine wp_lconst (v := (1 : Int64)) dX7_setUp_181 (by decide) ?_
                  refine wp_callV (q := 47) (As := [.int ((S.2.2.1 31) ((8 : Int32) + x3).toNatClampNeg), .int ((S.2.2.1 31) x2.toNatClampNeg), .long (1 : Int64)]) (rest := []) dX7_setUp_182 mX7_add lX7_131 (by decide) rfl rfl rfl rfl (Nat.le_of_ble_eq_true rfl) (Nat.le_of_ble_eq_true rfl) h ?_
                  rintro rv mh2 ⟨S24, rfl, rfl, h⟩
                  refine wp_iinc (Ms := [.ref 47, .int x1, .int x2, .int (x3 + (1 : Int32)), .int ((S.2.2.1 26) (((8 : Int32) * x3) + x2).toNatClampNeg), .int ((S.2.2.1 31) x2.toNatClampNeg), .int ((S.2.2.1 31) ((8 : Int32) + x3).toNatClampNeg), .long ((((S.2.2.1 26) (((8 : Int32) * x3) + x2).toNatClampNeg) - ((S.2.2.1 27) x2.toNatClampNeg)).toInt64), .retAddr 0]) (v := x3 + (1 : Int32)) dX7_setUp_185 rfl rfl (by decide) rfl ?_
                  refine wp_goto (tgt := 33) dX7_setUp_188 (by decide) ?_
                  exact wp_le (Ms := [.ref 47, .int x1, .int x2, .int (x3 + (1 : Int32)), .retAddr 0, .retAddr 0, .retAddr 0, .retAddr 0, .retAddr 0]) ⟨Or.inr rfl, Or.inr rfl, Or.inr rfl, Or.inr rfl, Or.inl rfl, Or.inl rfl, Or.inl rfl, Or.inl rfl, Or.inl rfl, trivial⟩ h
          · have h := h.2 c
            refine wp_aload_n dX7_setUp_114 rfl rfl ?_
            refine wp_iload dX7_setUp_115 rfl ?_
            refine wp_iload dX7_setUp_117 rfl ?_
            refine wp_lconst (v := (1 : Int64)) dX7_setUp_119 (by decide) ?_
            refine wp_callV (q := 47) (As := [.int ((S.2.2.1 31) x2.toNatClampNeg), .int ((S.2.2.1 31) x2.toNatClampNeg), .long (1 : Int64)]) (rest := []) dX7_setUp_120 mX7_add lX7_131 (by decide) rfl rfl rfl rfl (Nat.le_of_ble_eq_true rfl) (Nat.le_of_ble_eq_true rfl) h ?_
            rintro rv mh2 ⟨S25, rfl, rfl, h⟩
            refine wp_aload_n dX7_setUp_123 rfl rfl ?_
            refine wp_iload dX7_setUp_124 rfl ?_
            refine wp_bipush (v := (10 : Int32)) dX7_setUp_126 (by decide) ?_
            refine wp_lload dX7_setUp_128 rfl ?_
            refine wp_callV (q := 47) (As := [.int ((S.2.2.1 31) x2.toNatClampNeg), .int (10 : Int32), .long ((((S.2.2.1 26) (((8 : Int32) * x3) + x2).toNatClampNeg) - ((S.2.2.1 27) x2.toNatClampNeg)).toInt64)]) (rest := []) dX7_setUp_130 mX7_add lX7_131 (by decide) rfl rfl rfl rfl (Nat.le_of_ble_eq_true rfl) (Nat.le_of_ble_eq_true rfl) h ?_
            rintro rv mh2 ⟨S26, rfl, rfl, h⟩
            refine wp_iload dX7_setUp_133 rfl ?_
            refine wp_if_lt (tgt := 157) dX7_setUp_135 (by decide) (fun c => ?_) (fun c => ?_)
            · have h := h.1 c
              refine wp_iload dX7_setUp_157 rfl ?_
              refine wp_if_lt (tgt := 185) dX7_setUp_159 (by decide) (fun c => ?_) (fun c => ?_)
              · have h := h.1 c
                refine wp_iinc (Ms := [.ref 47, .int x1, .int x2, .int (x3 + (1 : Int32)), .int ((S.2.2.1 26) (((8 : Int32) * x3) + x2).toNatClampNeg), .int ((S.2.2.1 31) x2.toNatClampNeg), .int ((S.2.2.1 31) ((8 : Int32) + x3).toNatClampNeg), .long ((((S.2.2.1 26) (((8 : Int32) * x3) + x2).toNatClampNeg) - ((S.2.2.1 27) x2.toNatClampNeg)).toInt64), .retAddr 0]) (v := x3 + (1 : Int32)) dX7_setUp_185 rfl rfl (by decide) rfl ?_
                refine wp_goto (tgt := 33) dX7_setUp_188 (by decide) ?_
                exact wp_le (Ms := [.ref 47, .int x1, .int x2, .int (x3 + (1 : Int32)), .retAddr 0, .retAddr 0, .retAddr 0, .retAddr 0, .retAddr 0]) ⟨Or.inr rfl, Or.inr rfl, Or.inr rfl, Or.inr rfl, Or.inl rfl, Or.inl rfl, Or.inl rfl, Or.inl rfl, Or.inl rfl, trivial⟩ h
              · have h := h.2 c
                refine wp_iload dX7_setUp_162 rfl ?_
                refine wp_if_lt (tgt := 185) dX7_setUp_164 (by decide) (fun c => ?_) (fun c => ?_)
                · have h := h.1 c
                  refine wp_iinc (Ms := [.ref 47, .int x1, .int x2, .int (x3 + (1 : Int32)), .int ((S.2.2.1 26) (((8 : Int32) * x3) + x2).toNatClampNeg), .int ((S.2.2.1 31) x2.toNatClampNeg), .int ((S.2.2.1 31) ((8 : Int32) + x3).toNatClampNeg), .long ((((S.2.2.1 26) (((8 : Int32) * x3) + x2).toNatClampNeg) - ((S.2.2.1 27) x2.toNatClampNeg)).toInt64), .retAddr 0]) (v := x3 + (1 : Int32)) dX7_setUp_185 rfl rfl (by decide) rfl ?_
                  refine wp_goto (tgt := 33) dX7_setUp_188 (by decide) ?_
                  exact wp_le (Ms := [.ref 47, .int x1, .int x2, .int (x3 + (1 : Int32)), .retAddr 0, .retAddr 0, .retAddr 0, .retAddr 0, .retAddr 0]) ⟨Or.inr rfl, Or.inr rfl, Or.inr rfl, Or.inr rfl, Or.inl rfl, Or.inl rfl, Or.inl rfl, Or.inl rfl, Or.inl rfl, trivial⟩ h
                · have h := h.2 c
                  refine wp_aload_n dX7_setUp_167 rfl rfl ?_
                  refine wp_iload dX7_setUp_168 rfl ?_
                  refine wp_iload dX7_setUp_170 rfl ?_
                  refine wp_lconst (v := (1 : Int64)) dX7_setUp_172 (by decide) ?_
                  refine wp_callV (q := 47) (As := [.int ((S.2.2.1 31) x2.toNatClampNeg), .int ((S.2.2.1 31) ((8 : Int32) + x3).toNatClampNeg), .long (1 : Int64)]) (rest := []) dX7_setUp_173 mX7_add lX7_131 (by decide) rfl rfl rfl rfl (Nat.le_of_ble_eq_true rfl) (Nat.le_of_ble_eq_true rfl) h ?_
                  rintro rv mh2 ⟨S27, rfl, rfl, h⟩
                  refine wp_aload_n dX7_setUp_176 rfl rfl ?_
                  refine wp_iload dX7_setUp_177 rfl ?_
                  refine wp_iload dX7_setUp_179 rfl ?_
                  refine wp_lconst (v := (1 : Int64)) dX7_setUp_181 (by decide) ?_
                  refine wp_callV (q := 47) (As := [.int ((S.2.2.1 31) ((8 : Int32) + x3).toNatClampNeg), .int ((S.2.2.1 31) x2.toNatClampNeg), .long (1 : Int64)]) (rest := []) dX7_setUp_182 mX7_add lX7_131 (by decide) rfl rfl rfl rfl (Nat.le_of_ble_eq_true rfl) (Nat.le_of_ble_eq_true rfl) h ?_
                  rintro rv mh2 ⟨S28, rfl, rfl, h⟩
                  refine wp_iinc (Ms := [.ref 47, .int x1, .int x2, .int (x3 + (1 : Int32)), .int ((S.2.2.1 26) (((8 : Int32) * x3) + x2).toNatClampNeg), .int ((S.2.2.1 31) x2.toNatClampNeg), .int ((S.2.2.1 31) ((8 : Int32) + x3).toNatClampNeg), .long ((((S.2.2.1 26) (((8 : Int32) * x3) + x2).toNatClampNeg) - ((S.2.2.1 27) x2.toNatClampNeg)).toInt64), .retAddr 0]) (v := x3 + (1 : Int32)) dX7_setUp_185 rfl rfl (by decide) rfl ?_
                  refine wp_goto (tgt := 33) dX7_setUp_188 (by decide) ?_
                  exact wp_le (Ms := [.ref 47, .int x1, .int x2, .int (x3 + (1 : Int32)), .retAddr 0, .retAddr 0, .retAddr 0, .retAddr 0, .retAddr 0]) ⟨Or.inr rfl, Or.inr rfl, Or.inr rfl, Or.inr rfl, Or.inl rfl, Or.inl rfl, Or.inl rfl, Or.inl rfl, Or.inl rfl, trivial⟩ h
            · have h := h.2 c
              refine wp_aload_n dX7_setUp_138 rfl rfl ?_
              refine wp_iload dX7_setUp_139 rfl ?_
              refine wp_iload dX7_setUp_141 rfl ?_
              refine wp_lconst (v := (1 : Int64)) dX7_setUp_143 (by decide) ?_
              refine wp_callV (q := 47) (As := [.int ((S.2.2.1 31) ((8 : Int32) + x3).toNatClampNeg), .int ((S.2.2.1 31) ((8 : Int32) + x3).toNatClampNeg), .long (1 : Int64)]) (rest := []) dX7_setUp_144 mX7_add lX7_131 (by decide) rfl rfl rfl rfl (Nat.le_of_ble_eq_true rfl) (Nat.le_of_ble_eq_true rfl) h ?_
              rintro rv mh2 ⟨S29, rfl, rfl, h⟩
              refine wp_aload_n dX7_setUp_147 rfl rfl ?_
              refine wp_iload dX7_setUp_148 rfl ?_
              refine wp_bipush (v := (10 : Int32)) dX7_setUp_150 (by decide) ?_
              refine wp_lload dX7_setUp_152 rfl ?_
              refine wp_callV (q := 47) (As := [.int ((S.2.2.1 31) ((8 : Int32) + x3).toNatClampNeg), .int (10 : Int32), .long ((((S.2.2.1 26) (((8 : Int32) * x3) + x2).toNatClampNeg) - ((S.2.2.1 27) x2.toNatClampNeg)).toInt64)]) (rest := []) dX7_setUp_154 mX7_add lX7_131 (by decide) rfl rfl rfl rfl (Nat.le_of_ble_eq_true rfl) (Nat.le_of_ble_eq_true rfl) h ?_
              rintro rv mh2 ⟨S30, rfl, rfl, h⟩
              refine wp_iload dX7_setUp_157 rfl ?_
              refine wp_if_lt (tgt := 185) dX7_setUp_159 (by decide) (fun c => ?_) (fun c => ?_)
              · have h := h.1 c
                refine wp_iinc (Ms := [.ref 47, .int x1, .int x2, .int (x3 + (1 : Int32)), .int ((S.2.2.1 26) (((8 : Int32) * x3) + x2).toNatClampNeg), .int ((S.2.2.1 31) x2.toNatClampNeg), .int ((S.2.2.1 31) ((8 : Int32) + x3).toNatClampNeg), .long ((((S.2.2.1 26) (((8 : Int32) * x3) + x2).toNatClampNeg) - ((S.2.2.1 27) x2.toNatClampNeg)).toInt64), .retAddr 0]) (v := x3 + (1 : Int32)) dX7_setUp_185 rfl rfl (by decide) rfl ?_
                refine wp_goto (tgt := 33) dX7_setUp_188 (by decide) ?_
                exact wp_le (Ms := [.ref 47, .int x1, .int x2, .int (x3 + (1 : Int32)), .retAddr 0, .retAddr 0, .retAddr 0, .retAddr 0, .retAddr 0]) ⟨Or.inr rfl, Or.inr rfl, Or.inr rfl, Or.inr rfl, Or.inl rfl, Or.inl rfl, Or.inl rfl, Or.inl rfl, Or.inl rfl, trivial⟩ h
              · have h := h.2 c
                refine wp_iload dX7_setUp_162 rfl ?_
                refine wp_if_lt (tgt := 185) dX7_setUp_164 (by decide) (fun c => ?_) (fun c => ?_)
                · have h := h.1 c
                  refine wp_iinc (Ms := [.ref 47, .int x1, .int x2, .int (x3 + (1 : Int32)), .int ((S.2.2.1 26) (((8 : Int32) * x3) + x2).toNatClampNeg), .int ((S.2.2.1 31) x2.toNatClampNeg), .int ((S.2.2.1 31) ((8 : Int32) + x3).toNatClampNeg), .long ((((S.2.2.1 26) (((8 : Int32) * x3) + x2).toNatClampNeg) - ((S.2.2.1 27) x2.toNatClampNeg)).toInt64), .retAddr 0]) (v := x3 + (1 : Int32)) dX7_setUp_185 rfl rfl (by decide) rfl ?_
                  refine wp_goto (tgt := 33) dX7_setUp_188 (by decide) ?_
                  exact wp_le (Ms := [.ref 47, .int x1, .int x2, .int (x3 + (1 : Int32)), .retAddr 0, .retAddr 0, .retAddr 0, .retAddr 0, .retAddr 0]) ⟨Or.inr rfl, Or.inr rfl, Or.inr rfl, Or.inr rfl, Or.inl rfl, Or.inl rfl, Or.inl rfl, Or.inl rfl, Or.inl rfl, trivial⟩ h
                · have h := h.2 c
                  refine wp_aload_n dX7_setUp_167 rfl rfl ?_
                  refine wp_iload dX7_setUp_168 rfl ?_
                  refine wp_iload dX7_setUp_170 rfl ?_
                  refine wp_lconst (v := (1 : Int64)) dX7_setUp_172 (by decide) ?_
                  refine wp_callV (q := 47) (As := [.int ((S.2.2.1 31) x2.toNatClampNeg), .int ((S.2.2.1 31) ((8 : Int32) + x3).toNatClampNeg), .long (1 : Int64)]) (rest := []) dX7_setUp_173 mX7_add lX7_131 (by decide) rfl rfl rfl rfl (Nat.le_of_ble_eq_true rfl) (Nat.le_of_ble_eq_true rfl) h ?_
                  rintro rv mh2 ⟨S31, rfl, rfl, h⟩
                  refine wp_aload_n dX7_setUp_176 rfl rfl ?_
                  refine wp_iload dX7_setUp_177 rfl ?_
                  refine wp_iload dX7_setUp_179 rfl ?_
                  refine wp_lconst (v := (1 : Int64)) dX7_setUp_181 (by decide) ?_
                  refine wp_callV (q := 47) (As := [.int ((S.2.2.1 31) ((8 : Int32) + x3).toNatClampNeg), .int ((S.2.2.1 31) x2.toNatClampNeg), .long (1 : Int64)]) (rest := []) dX7_setUp_182 mX7_add lX7_131 (by decide) rfl rfl rfl rfl (Nat.le_of_ble_eq_true rfl) (Nat.le_of_ble_eq_true rfl) h ?_
                  rintro rv mh2 ⟨S32, rfl, rfl, h⟩
                  refine wp_iinc (Ms := [.ref 47, .int x1, .int x2, .int (x3 + (1 : Int32)), .int ((S.2.2.1 26) (((8 : Int32) * x3) + x2).toNatClampNeg), .int ((S.2.2.1 31) x2.toNatClampNeg), .int ((S.2.2.1 31) ((8 : Int32) + x3).toNatClampNeg), .long ((((S.2.2.1 26) (((8 : Int32) * x3) + x2).toNatClampNeg) - ((S.2.2.1 27) x2.toNatClampNeg)).toInt64), .retAddr 0]) (v := x3 + (1 : Int32)) dX7_setUp_185 rfl rfl (by decide) rfl ?_
                  refine wp_goto (tgt := 33) dX7_setUp_188 (by decide) ?_
                  exact wp_le (Ms := [.ref 47, .int x1, .int x2, .int (x3 + (1 : Int32)), .retAddr 0, .retAddr 0, .retAddr 0, .retAddr 0, .retAddr 0]) ⟨Or.inr rfl, Or.inr rfl, Or.inr rfl, Or.inr rfl, Or.inl rfl, Or.inl rfl, Or.inl rfl, Or.inl rfl, Or.inl rfl, trivial⟩ h
abbrev rX7_solveCells : Room := { frames := 0, cells := 0, slots := 0, locals := 0 }
abbrev wX7_solveCells (P : St → Prop) (pc : Nat) (Ls stk : List Value) (S : St) : Prop := Wp cX7_solveCells RX7 10 rX7_solveCells (wFV P) pc Ls stk (enc S)
abbrev tX7_solveCells  (S : St) (P : St → Prop) : Prop := wX7_solveCells P 0 (wl_en [.ref 47] 10) [] S
set_option maxRecDepth 100000 in
theorem bX7_solveCells_0 {P : St → Prop} {S : St}  (h : wX7_solveCells P 4 [.ref 47, .long (1 : Int64), .retAddr 0, .int (0 : Int32), .retAddr 0, .retAddr 0, .retAddr 0, .retAddr 0, .retAddr 0, .retAddr 0] [] S) : tX7_solveCells  S P := by
  show wX7_solveCells P 0 [.ref 47, .retAddr 0, .retAddr 0, .retAddr 0, .retAddr 0, .retAddr 0, .retAddr 0, .retAddr 0, .retAddr 0, .retAddr 0] [] S
  refine wp_lconst (v := (1 : Int64)) dX7_solveCells_0 (by decide) ?_
  refine wp_lstore_n (Ms := [.ref 47, .long (1 : Int64), .retAddr 0, .retAddr 0, .retAddr 0, .retAddr 0, .retAddr 0, .retAddr 0, .retAddr 0, .retAddr 0]) dX7_solveCells_1 rfl (by decide) rfl ?_
  refine wp_iconst (v := (0 : Int32)) dX7_solveCells_2 (by decide) ?_
  refine wp_istore_n (Ms := [.ref 47, .long (1 : Int64), .retAddr 0, .int (0 : Int32), .retAddr 0, .retAddr 0, .retAddr 0, .retAddr 0, .retAddr 0, .retAddr 0]) dX7_solveCells_3 rfl (by decide) rfl ?_
  exact wp_le (Ms := [.ref 47, .long (1 : Int64), .retAddr 0, .int (0 : Int32), .retAddr 0, .retAddr 0, .retAddr 0, .retAddr 0, .retAddr 0, .retAddr 0]) ⟨Or.inr rfl, Or.inr rfl, Or.inl rfl, Or.inr rfl, Or.inl rfl, Or.inl rfl, Or.inl rfl, Or.inl rfl, Or.inl rfl, Or.inl rfl, trivial⟩ h
set_option maxRecDepth 100000 in
theorem bX7_solveCells_4 {P : St → Prop} {S : St} (x1 : Int64) (x3 : Int32) (h : (((S.1 9) ≤ x3 → P (sJ S 0 x1)) ∧ (¬ (S.1 9) ≤ x3 → vp_in ((12 : Int32) * x3) 110 ∧ wX7_solveCells P 26 [.ref 47, .long x1, .retAddr 0, .int x3, .long ((S.2.2.2 14) ((12 : Int32) * x3).toNatClampNeg), .retAddr 0, .int (0 : Int32), .retAddr 0, .retAddr 0, .retAddr 0] [] S))) : wX7_solveCells P 4 [.ref 47, .long x1, .retAddr 0, .int x3, .retAddr 0, .retAddr 0, .retAddr 0, .retAddr 0, .retAddr 0, .retAddr 0] [] S := by
  refine wp_iload_n dX7_solveCells_4 rfl rfl ?_
  refine wp_aload_n dX7_solveCells_5 rfl rfl ?_
  refine wp_get (q := 47) dX7_solveCells_6 fX7_128 rfl rfl ?_
  refine wp_icmp_ge (tgt := 133) dX7_solveCells_9 (by decide) (fun c => ?_) (fun c => ?_)
  · have h := h.1 c
    refine wp_aload_n dX7_solveCells_133 rfl rfl ?_
    refine wp_lload_n dX7_solveCells_134 rfl rfl ?_
    refine wp_put (q := 47) (mh2 := enc (sJ S 0 x1)) dX7_solveCells_135 fX7_135 (by decide) rfl (Nat.le_of_ble_eq_true rfl) (fun _ _ => rfl) rfl rfl (eo_47_12 _ _) ?_
    exact wp_vret dX7_solveCells_138 rfl ⟨_, rfl, rfl, h⟩
  · have h := h.2 c
    refine wp_aload_n dX7_solveCells_12 rfl rfl ?_
    refine wp_get (q := 47) dX7_solveCells_13 fX7_39 rfl rfl ?_
    refine wp_bipush (v := (12 : Int32)) dX7_solveCells_16 (by decide) ?_
    refine wp_iload_n dX7_solveCells_18 rfl rfl ?_
    refine wp_imul dX7_solveCells_19 ?_
    obtain ⟨q1, h⟩ := h
    refine wp_lald2 (q := 56) (j := ((12 : Int32) * x3).toNatClampNeg) dX7_solveCells_20 rfl q1 rfl ?_
    refine wp_lstore (Ms := [.ref 47, .long x1, .retAddr 0, .int x3, .long ((S.2.2.2 14) ((12 : Int32) * x3).toNatClampNeg), .retAddr 0, .retAddr 0, .retAddr 0, .retAddr 0, .retAddr 0]) dX7_solveCells_21 (by decide) rfl ?_
    refine wp_iconst (v := (0 : Int32)) dX7_solveCells_23 (by decide) ?_
    refine wp_istore (Ms := [.ref 47, .long x1, .retAddr 0, .int x3, .long ((S.2.2.2 14) ((12 : Int32) * x3).toNatClampNeg), .retAddr 0, .int (0 : Int32), .retAddr 0, .retAddr 0, .retAddr 0]) dX7_solveCells_24 (by decide) rfl ?_
    exact wp_le (Ms := [.ref 47, .long x1, .retAddr 0, .int x3, .long ((S.2.2.2 14) ((12 : Int32) * x3).toNatClampNeg), .retAddr 0, .int (0 : Int32), .retAddr 0, .retAddr 0, .retAddr 0]) ⟨Or.inr rfl, Or.inr rfl, Or.inl rfl, Or.inr rfl, Or.inr rfl, Or.inl rfl, Or.inr rfl, Or.inl rfl, Or.inl rfl, Or.inl rfl, trivial⟩ h
set_option maxRecDepth 100000 in
theorem bX7_solveCells_26 {P : St → Prop} {S : St} (x1 : Int64) (x3 : Int32) (x4 : Int64) (x6 : Int32) (h : (((S.1 9) ≤ x6 → wX7_solveCells P 4 [.ref 47, .long x4, .retAddr 0, .int (x3 + (1 : Int32)), .retAddr 0, .retAddr 0, .retAddr 0, .retAddr 0, .retAddr 0, .retAddr 0] [] S) ∧ (¬ (S.1 9) ≤ x6 → vp_in (((11 : Int32) * x6) + x3) 110 ∧ wX7_solveCells P 52 [.ref 47, .long x1, .retAddr 0, .int x3, .long x4, .retAddr 0, .int x6, .long ((S.2.2.2 14) (((11 : Int32) * x6) + x3).toNatClampNeg), .retAddr 0, .int (0 : Int32)] [] S))) : wX7_solveCells P 26 [.ref 47, .long x1, .retAddr 0, .int x3, .long x4, .retAddr 0, .int x6, .retAddr 0, .retAddr 0, .retAddr 0] [] S := by
  refine wp_iload dX7_solveCells_26 rfl ?_
  refine wp_aload_n dX7_solveCells_28 rfl rfl ?_
  refine wp_get (q := 47) dX7_solveCells_29 fX7_128 rfl rfl ?_
  refine wp_icmp_ge (tgt := 124) dX7_solveCells_32 (by decide) (fun c => ?_) (fun c => ?_)
  · have h := h.1 c
    refine wp_lload dX7_solveCells_124 rfl ?_
    refine wp_lstore_n (Ms := [.ref 47, .long x4, .retAddr 0, .int x3, .long x4, .retAddr 0, .int x6, .retAddr 0, .retAddr 0, .retAddr 0]) dX7_solveCells_126 rfl (by decide) rfl ?_
    refine wp_iinc (Ms := [.ref 47, .long x4, .retAddr 0, .int (x3 + (1 : Int32)), .long x4, .retAddr 0, .int x6, .retAddr 0, .retAddr 0, .retAddr 0]) (v := x3 + (1 : Int32)) dX7_solveCells_127 rfl rfl (by decide) rfl ?_
    refine wp_goto (tgt := 4) dX7_solveCells_130 (by decide) ?_
    exact wp_le (Ms := [.ref 47, .long x4, .retAddr 0, .int (x3 + (1 : Int32)), .retAddr 0, .retAddr 0, .retAddr 0, .retAddr 0, .retAddr 0, .retAddr 0]) ⟨Or.inr rfl, Or.inr rfl, Or.inl rfl, Or.inr rfl, Or.inl rfl, Or.inl rfl, Or.inl rfl, Or.inl rfl, Or.inl rfl, Or.inl rfl, trivial⟩ h
  · have h := h.2 c
    refine wp_aload_n dX7_solveCells_35 rfl rfl ?_
    refine wp_get (q := 47) dX7_solveCells_36 fX7_39 rfl rfl ?_
    refine wp_bipush (v := (11 : Int32)) dX7_solveCells_39 (by decide) ?_
    refine wp_iload dX7_solveCells_41 rfl ?_
    refine wp_imul dX7_solveCells_43 ?_
    refine wp_iload_n dX7_solveCells_44 rfl rfl ?_
    refine wp_iadd dX7_solveCells_45 ?_
    obtain ⟨q1, h⟩ := h
    refine wp_lald2 (q := 56) (j := (((11 : Int32) * x6) + x3).toNatClampNeg) dX7_solveCells_46 rfl q1 rfl ?_
    refine wp_lstore (Ms := [.ref 47, .long x1, .retAddr 0, .int x3, .long x4, .retAddr 0, .int x6, .long ((S.2.2.2 14) (((11 : Int32) * x6) + x3).toNatClampNeg), .retAddr 0, .retAddr 0]) dX7_solveCells_47 (by decide) rfl ?_
    refine wp_iconst (v := (0 : Int32)) dX7_solveCells_49 (by decide) ?_
    refine wp_istore (Ms := [.ref 47, .long x1, .retAddr 0, .int x3, .long x4, .retAddr 0, .int x6, .long ((S.2.2.2 14) (((11 : Int32) * x6) + x3).toNatClampNeg), .retAddr 0, .int (0 : Int32)]) dX7_solveCells_50 (by decide) rfl ?_
    exact wp_le (Ms := [.ref 47, .long x1, .retAddr 0, .int x3, .long x4, .retAddr 0, .int x6, .long ((S.2.2.2 14) (((11 : Int32) * x6) + x3).toNatClampNeg), .retAddr 0, .int (0 : Int32)]) ⟨Or.inr rfl, Or.inr rfl, Or.inl rfl, Or.inr rfl, Or.inr rfl, Or.inl rfl, Or.inr rfl, Or.inr rfl, Or.inl rfl, Or.inr rfl, trivial⟩ h
set_option maxRecDepth 100000 in
theorem bX7_solveCells_52 {P : St → Prop} {S : St} (x1 : Int64) (x3 : Int32) (x4 : Int64) (x6 : Int32) (x7 : Int64) (x9 : Int32) (h : (((11 : Int32) ≤ x9 → wX7_solveCells P 26 [.ref 47, .long x1, .retAddr 0, .int x3, .long x4, .retAddr 0, .int (x6 + (1 : Int32)), .retAddr 0, .retAddr 0, .retAddr 0] [] S) ∧ (¬ (11 : Int32) ≤ x9 → ((x6 = x3 → wX7_solveCells P 26 [.ref 47, .long x1, .retAddr 0, .int x3, .long x4, .retAddr 0, .int (x6 + (1 : Int32)), .retAddr 0, .retAddr 0, .retAddr 0] [] S) ∧ (¬ x6 = x3 → vp_in (((11 : Int32) * x6) + x9) 110 ∧ vp_in (((11 : Int32) * x3) + x9) 110 ∧ ¬ x1 = 0 ∧ wX7_solveCells P 52 [.ref 47, .long x1, .retAddr 0, .int x3, .long x4, .retAddr 0, .int x6, .long x7, .retAddr 0, .int (x9 + (1 : Int32))] [] (sB S 14 (vp_updL (S.2.2.2 14) (((11 : Int32) * x6) + x9).toNatClampNeg (((x4 * ((S.2.2.2 14) (((11 : Int32) * x6) + x9).toNatClampNeg)) - (x7 * ((S.2.2.2 14) (((11 : Int32) * x3) + x9).toNatClampNeg))) / x1)))))))) : wX7_solveCells P 52 [.ref 47, .long x1, .retAddr 0, .int x3, .long x4, .retAddr 0, .int x6, .long x7, .retAddr 0, .int x9] [] S := by
  refine wp_iload dX7_solveCells_52 rfl ?_
  refine wp_bipush (v := (11 : Int32)) dX7_solveCells_54 (by decide) ?_
  refine wp_icmp_ge (tgt := 118) dX7_solveCells_56 (by decide) (fun c => ?_) (fun c => ?_)
  · have h := h.1 c
    refine wp_iinc (Ms := [.ref 47, .long x1, .retAddr 0, .int x3, .long x4, .retAddr 0, .int (x6 + (1 : Int32)), .long x7, .retAddr 0, .int x9]) (v := x6 + (1 : Int32)) dX7_solveCells_118 rfl rfl (by decide) rfl ?_
    refine wp_goto (tgt := 26) dX7_solveCells_121 (by decide) ?_
    exact wp_le (Ms := [.ref 47, .long x1, .retAddr 0, .int x3, .long x4, .retAddr 0, .int (x6 + (1 : Int32)), .retAddr 0, .retAddr 0, .retAddr 0]) ⟨Or.inr rfl, Or.inr rfl, Or.inl rfl, Or.inr rfl, Or.inr rfl, Or.inl rfl, Or.inr rfl, Or.inl rfl, Or.inl rfl, Or.inl rfl, trivial⟩ h
  · have h := h.2 c
    refine wp_iload dX7_solveCells_59 rfl ?_
    refine wp_iload_n dX7_solveCells_61 rfl rfl ?_
    refine wp_icmp_eq (tgt := 118) dX7_solveCells_62 (by decide) (fun c => ?_) (fun c => ?_)
    · have h := h.1 c
      refine wp_iinc (Ms := [.ref 47, .long x1, .retAddr 0, .int x3, .long x4, .retAddr 0, .int (x6 + (1 : Int32)), .long x7, .retAddr 0, .int x9]) (v := x6 + (1 : Int32)) dX7_solveCells_118 rfl rfl (by decide) rfl ?_
      refine wp_goto (tgt := 26) dX7_solveCells_121 (by decide) ?_
      exact wp_le (Ms := [.ref 47, .long x1, .retAddr 0, .int x3, .long x4, .retAddr 0, .int (x6 + (1 : Int32)), .retAddr 0, .retAddr 0, .retAddr 0]) ⟨Or.inr rfl, Or.inr rfl, Or.inl rfl, Or.inr rfl, Or.inr rfl, Or.inl rfl, Or.inr rfl, Or.inl rfl, Or.inl rfl, Or.inl rfl, trivial⟩ h
    · have h := h.2 c
      refine wp_aload_n dX7_solveCells_65 rfl rfl ?_
      refine wp_get (q := 47) dX7_solveCells_66 fX7_39 rfl rfl ?_
      refine wp_bipush (v := (11 : Int32)) dX7_solveCells_69 (by decide) ?_
      refine wp_iload dX7_solveCells_71 rfl ?_
      refine wp_imul dX7_solveCells_73 ?_
      refine wp_iload dX7_solveCells_74 rfl ?_
      refine wp_iadd dX7_solveCells_76 ?_
      refine wp_lload dX7_solveCells_77 rfl ?_
      refine wp_aload_n dX7_solveCells_79 rfl rfl ?_
      refine wp_get (q := 47) dX7_solveCells_80 fX7_39 rfl rfl ?_
      refine wp_bipush (v := (11 : Int32)) dX7_solveCells_83 (by decide) ?_
      refine wp_iload dX7_solveCells_85 rfl ?_
      refine wp_imul dX7_solveCells_87 ?_
      refine wp_iload dX7_solveCells_88 rfl ?_
      refine wp_iadd dX7_solveCells_90 ?_
      obtain ⟨q1, h⟩ := h
      refine wp_lald2 (q := 56) (j := (((11 : Int32) * x6) + x9).toNatClampNeg) dX7_solveCells_91 rfl q1 rfl ?_
      refine wp_lmul dX7_solveCells_92 ?_
      refine wp_lload dX7_solveCells_93 rfl ?_
      refine wp_aload_n dX7_solveCells_95 rfl rfl ?_
      refine wp_get (q := 47) dX7_solveCells_96 fX7_39 rfl rfl ?_
      refine wp_bipush (v := (11 : Int32)) dX7_solveCells_99 (by decide) ?_
      refine wp_iload_n dX7_solveCells_101 rfl rfl ?_
      refine wp_imul dX7_solveCells_102 ?_
      refine wp_iload dX7_solveCells_103 rfl ?_
      refine wp_iadd dX7_solveCells_105 ?_
      obtain ⟨q2, h⟩ := h
      refine wp_lald2 (q := 56) (j := (((11 : Int32) * x3) + x9).toNatClampNeg) dX7_solveCells_106 rfl q2 rfl ?_
      refine wp_lmul dX7_solveCells_107 ?_
      refine wp_lsub dX7_solveCells_108 ?_
      refine wp_lload_n dX7_solveCells_109 rfl rfl ?_
      obtain ⟨q3, h⟩ := h
      refine wp_ldiv dX7_solveCells_110 q3 ?_
      refine wp_last2 (q := 56) (j := (((11 : Int32) * x6) + x9).toNatClampNeg) (mh2 := enc (sB S 14 (vp_updL (S.2.2.2 14) (((11 : Int32) * x6) + x9).toNatClampNeg (((x4 * ((S.2.2.2 14) (((11 : Int32) * x6) + x9).toNatClampNeg)) - (x7 * ((S.2.2.2 14) (((11 : Int32) * x3) + x9).toNatClampNeg))) / x1)))) dX7_solveCells_111 rfl q1 rfl (es_56 _ _) ?_
      refine wp_iinc (Ms := [.ref 47, .long x1, .retAddr 0, .int x3, .long x4, .retAddr 0, .int x6, .long x7, .retAddr 0, .int (x9 + (1 : Int32))]) (v := x9 + (1 : Int32)) dX7_solveCells_112 rfl rfl (by decide) rfl ?_
      refine wp_goto (tgt := 52) dX7_solveCells_115 (by decide) ?_
      exact wp_le (Ms := [.ref 47, .long x1, .retAddr 0, .int x3, .long x4, .retAddr 0, .int x6, .long x7, .retAddr 0, .int (x9 + (1 : Int32))]) ⟨Or.inr rfl, Or.inr rfl, Or.inl rfl, Or.inr rfl, Or.inr rfl, Or.inl rfl, Or.inr rfl, Or.inr rfl, Or.inl rfl, Or.inr rfl, trivial⟩ h
abbrev rX7_solve : Room := { frames := 3, cells := 0, slots := 0, locals := 69 }
abbrev wX7_solve (P : Int32 → St → Prop) (pc : Nat) (Ls stk : List Value) (S : St) : Prop := Wp cX7_solve RX7 8 rX7_solve (wFI .boolean P) pc Ls stk (enc S)
abbrev tX7_solve (a0 : Int32) (S : St) (P : Int32 → St → Prop) : Prop := wX7_solve P 0 (wl_en [.ref 47, .int a0] 8) [] S
set_option maxRecDepth 100000 in
theorem bX7_solve_0 {P : Int32 → St → Prop} {S : St} (a0 : Int32) (h : tX7_findParts  S (fun S1 => tX7_sizeOf a0 S1 (fun r3 S2 => ((r3 ≤ (10 : Int32) → wX7_solve P 31 [.ref 47, .int a0, .int (0 : Int32), .int (0 : Int32), .int (-1 : Int32), .int (0 : Int32), .retAddr 0, .retAddr 0] [] (sI S2 9 (0 : Int32))) ∧ (¬ r3 ≤ (10 : Int32) → P (0 : Int32) S2))))) : tX7_solve a0 S P := by
  show wX7_solve P 0 [.ref 47, .int a0, .retAddr 0, .retAddr 0, .retAddr 0, .retAddr 0, .retAddr 0, .retAddr 0] [] S
  refine wp_aload_n dX7_solve_0 rfl rfl ?_
  refine wp_callV (q := 47) (As := []) (rest := []) dX7_solve_1 mX7_findParts lX7_116 (by decide) rfl rfl rfl rfl (Nat.le_of_ble_eq_true rfl) (Nat.le_of_ble_eq_true rfl) h ?_
  rintro rv mh2 ⟨S1, rfl, rfl, h⟩
  refine wp_aload_n dX7_solve_4 rfl rfl ?_
  refine wp_iload_n dX7_solve_5 rfl rfl ?_
  refine wp_callV (q := 47) (As := [.int a0]) (rest := []) dX7_solve_6 mX7_sizeOf lX7_113 (by decide) rfl rfl rfl rfl (Nat.le_of_ble_eq_true rfl) (Nat.le_of_ble_eq_true rfl) h ?_
  rintro rv mh2 ⟨r3, S2, rfl, rfl, h⟩
  refine wp_bipush (v := (10 : Int32)) dX7_solve_9 (by decide) ?_
  refine wp_icmp_le (tgt := 16) dX7_solve_11 (by decide) (fun c => ?_) (fun c => ?_)
  · have h := h.1 c
    refine wp_iconst (v := (0 : Int32)) dX7_solve_16 (by decide) ?_
    refine wp_istore_n (Ms := [.ref 47, .int a0, .int (0 : Int32), .retAddr 0, .retAddr 0, .retAddr 0, .retAddr 0, .retAddr 0]) dX7_solve_17 rfl (by decide) rfl ?_
    refine wp_iconst (v := (0 : Int32)) dX7_solve_18 (by decide) ?_
    refine wp_istore_n (Ms := [.ref 47, .int a0, .int (0 : Int32), .int (0 : Int32), .retAddr 0, .retAddr 0, .retAddr 0, .retAddr 0]) dX7_solve_19 rfl (by decide) rfl ?_
    refine wp_iconst (v := (-1 : Int32)) dX7_solve_20 (by decide) ?_
    refine wp_istore (Ms := [.ref 47, .int a0, .int (0 : Int32), .int (0 : Int32), .int (-1 : Int32), .retAddr 0, .retAddr 0, .retAddr 0]) dX7_solve_21 (by decide) rfl ?_
    refine wp_aload_n dX7_solve_23 rfl rfl ?_
    refine wp_iconst (v := (0 : Int32)) dX7_solve_24 (by decide) ?_
    refine wp_put (q := 47) (mh2 := enc (sI S2 9 (0 : Int32))) dX7_solve_25 fX7_128 (by decide) rfl (Nat.le_of_ble_eq_true rfl) (fun _ _ => rfl) rfl rfl (eo_47_9 _ _) ?_
    refine wp_iconst (v := (0 : Int32)) dX7_solve_28 (by decide) ?_
    refine wp_istore (Ms := [.ref 47, .int a0, .int (0 : Int32), .int (0 : Int32), .int (-1 : Int32), .int (0 : Int32), .retAddr 0, .retAddr 0]) dX7_solve_29 (by decide) rfl ?_
    exact wp_le (Ms := [.ref 47, .int a0, .int (0 : Int32), .int (0 : Int32), .int (-1 : Int32), .int (0 : Int32), .retAddr 0, .retAddr 0]) ⟨Or.inr rfl, Or.inr rfl, Or.inr rfl, Or.inr rfl, Or.inr rfl, Or.inr rfl, Or.inl rfl, Or.inl rfl, trivial⟩ h
  · have h := h.2 c
    refine wp_iconst (v := (0 : Int32)) dX7_solve_14 (by decide) ?_
    exact wp_iret dX7_solve_15 rfl rfl ⟨_, _, rfl, rfl, h⟩
set_option maxRecDepth 100000 in
theorem bX7_solve_31 {P : Int32 → St → Prop} {S : St} (x1 : Int32) (x2 : Int32) (x3 : Int32) (x4 : Int32) (x5 : Int32) (h : (((16 : Int32) ≤ x5 → wX7_solve P 146 [.ref 47, .int x1, .int x2, .int x3, .int x4, .int (0 : Int32), .retAddr 0, .retAddr 0] [] S) ∧ (¬ (16 : Int32) ≤ x5 → vp_in x5 16 ∧ ((¬ ((S.2.2.1 30) x5.toNatClampNeg) = x1 → ((¬ x2 = 0 → wX7_solve P 31 [.ref 47, .int x1, .int (1 : Int32), .int (x3 + (0 : Int32)), .int x4, .int (x5 + (1 : Int32)), .retAddr 0, .retAddr 0] [] (sA S 31 (upd (S.2.2.1 31) x5.toNatClampNeg (-1 : Int32)))) ∧ (x2 = 0 → wX7_solve P 31 [.ref 47, .int x1, .int (0 : Int32), .int (x3 + (0 : Int32)), .int x4, .int (x5 + (1 : Int32)), .retAddr 0, .retAddr 0] [] (sA S 31 (upd (S.2.2.1 31) x5.toNatClampNeg (-1 : Int32)))))) ∧ (((S.2.2.1 30) x5.toNatClampNeg) = x1 → ((¬ x2 = 0 → ((x5 < (8 : Int32) → ((x5 < (8 : Int32) → wX7_solve P 31 [.ref 47, .int x1, .int (1 : Int32), .int (x3 + (0 : Int32)), .int x4, .int (x5 + (1 : Int32)), .retAddr 0, .retAddr 0] [] (sA S 31 (upd (S.2.2.1 31) x5.toNatClampNeg (-1 : Int32)))) ∧ (¬ x5 < (8 : Int32) → wX7_solve P 31 [.ref 47, .int x1, .int (1 : Int32), .int (x3 + (0 : Int32)), .int x5, .int (x5 + (1 : Int32)), .retAddr 0, .retAddr 0] [] (sA S 31 (upd (S.2.2.1 31) x5.toNatClampNeg (-1 : Int32)))))) ∧ (¬ x5 < (8 : Int32) → ((x5 < (8 : Int32) → wX7_solve P 31 [.ref 47, .int x1, .int (1 : Int32), .int (x3 + (1 : Int32)), .int x4, .int (x5 + (1 : Int32)), .retAddr 0, .retAddr 0] [] (sA S 31 (upd (S.2.2.1 31) x5.toNatClampNeg (-1 : Int32)))) ∧ (¬ x5 < (8 : Int32) → wX7_solve P 31 [.ref 47, .int x1, .int (1 : Int32), .int (x3 + (1 : Int32)), .int x5, .int (x5 + (1 : Int32)), .retAddr 0, .retAddr 0] [] (sA S 31 (upd (S.2.2.1 31) x5.toNatClampNeg (-1 : Int32)))))))) ∧ (x2 = 0 → (((8 : Int32) ≤ x5 → ((x5 < (8 : Int32) → ((x5 < (8 : Int32) → wX7_solve P 31 [.ref 47, .int x1, .int (0 : Int32), .int (x3 + (0 : Int32)), .int x4, .int (x5 + (1 : Int32)), .retAddr 0, .retAddr 0] [] (sA S 31 (upd (S.2.2.1 31) x5.toNatClampNeg (-1 : Int32)))) ∧ (¬ x5 < (8 : Int32) → wX7_solve P 31 [.ref 47, .int x1, .int (0 : Int32), .int (x3 + (0 : Int32)), .int x5, .int (x5 + (1 : Int32)), .retAddr 0, .retAddr 0] [] (sA S 31 (upd (S.2.2.1 31) x5.toNatClampNeg (-1 : Int32)))))) ∧ (¬ x5 < (8 : Int32) → ((x5 < (8 : Int32) → wX7_solve P 31 [.ref 47, .int x1, .int (0 : Int32), .int (x3 + (1 : Int32)), .int x4, .int (x5 + (1 : Int32)), .retAddr 0, .retAddr 0] [] (sA S 31 (upd (S.2.2.1 31) x5.toNatClampNeg (-1 : Int32)))) ∧ (¬ x5 < (8 : Int32) → wX7_solve P 31 [.ref 47, .int x1, .int (0 : Int32), .int (x3 + (1 : Int32)), .int x5, .int (x5 + (1 : Int32)), .retAddr 0, .retAddr 0] [] (sA S 31 (upd (S.2.2.1 31) x5.toNatClampNeg (-1 : Int32)))))))) ∧ (¬ (8 : Int32) ≤ x5 → vp_in x5 8 ∧ ((((S.2.2.1 27) x5.toNatClampNeg) < 0 → ((x5 < (8 : Int32) → ((x5 < (8 : Int32) → wX7_solve P 31 [.ref 47, .int x1, .int (0 : Int32), .int (x3 + (0 : Int32)), .int x4, .int (x5 + (1 : Int32)), .retAddr 0, .retAddr 0] [] (sA S 31 (upd (S.2.2.1 31) x5.toNatClampNeg (-1 : Int32)))) ∧ (¬ x5 < (8 : Int32) → wX7_solve P 31 [.ref 47, .int x1, .int (0 : Int32), .int (x3 + (0 : Int32)), .int x5, .int (x5 + (1 : Int32)), .retAddr 0, .retAddr 0] [] (sA S 31 (upd (S.2.2.1 31) x5.toNatClampNeg (-1 : Int32)))))) ∧ (¬ x5 < (8 : Int32) → ((x5 < (8 : Int32) → wX7_solve P 31 [.ref 47, .int x1, .int (0 : Int32), .int (x3 + (1 : Int32)), .int x4, .int (x5 + (1 : Int32)), .retAddr 0, .retAddr 0] [] (sA S 31 (upd (S.2.2.1 31) x5.toNatClampNeg (-1 : Int32)))) ∧ (¬ x5 < (8 : Int32) → wX7_solve P 31 [.ref 47, .int x1, .int (0 : Int32), .int (x3 + (1 : Int32)), .int x5, .int (x5 + (1 : Int32)), .retAddr 0, .retAddr 0] [] (sA S 31 (upd (S.2.2.1 31) x5.toNatClampNeg (-1 : Int32)))))))) ∧ (¬ ((S.2.2.1 27) x5.toNatClampNeg) < 0 → ((x5 < (8 : Int32) → ((x5 < (8 : Int32) → wX7_solve P 31 [.ref 47, .int x1, .int (1 : Int32), .int (x3 + (0 : Int32)), .int x4, .int (x5 + (1 : Int32)), .retAddr 0, .retAddr 0] [] (sA S 31 (upd (S.2.2.1 31) x5.toNatClampNeg (-1 : Int32)))) ∧ (¬ x5 < (8 : Int32) → wX7_solve P 31 [.ref 47, .int x1, .int (1 : Int32), .int (x3 + (0 : Int32)), .int x5, .int (x5 + (1 : Int32)), .retAddr 0, .retAddr 0] [] (sA S 31 (upd (S.2.2.1 31) x5.toNatClampNeg (-1 : Int32)))))) ∧ (¬ x5 < (8 : Int32) → ((x5 < (8 : Int32) → wX7_solve P 31 [.ref 47, .int x1, .int (1 : Int32), .int (x3 + (1 : Int32)), .int x4, .int (x5 + (1 : Int32)), .retAddr 0, .retAddr 0] [] (sA S 31 (upd (S.2.2.1 31) x5.toNatClampNeg (-1 : Int32)))) ∧ (¬ x5 < (8 : Int32) → wX7_solve P 31 [.ref 47, .int x1, .int (1 : Int32), .int (x3 + (1 : Int32)), .int x5, .int (x5 + (1 : Int32)), .retAddr 0, .retAddr 0] [] (sA S 31 (upd (S.2.2.1 31) x5.toNatClampNeg (-1 : Int32)))))))))))))))))) : wX7_solve P 31 [.ref 47, .int x1, .int x2, .int x3, .int x4, .int x5, .retAddr 0, .retAddr 0] [] S := by
  refine wp_iload dX7_solve_31 rfl ?_
  refine wp_bipush (v := (16 : Int32)) dX7_solve_33 (by decide) ?_
  refine wp_icmp_ge (tgt := 143) dX7_solve_35 (by decide) (fun c => ?_) (fun c => ?_)
  · have h := h.1 c
    refine wp_iconst (v := (0 : Int32)) dX7_solve_143 (by decide) ?_
    refine wp_istore (Ms := [.ref 47, .int x1, .int x2, .int x3, .int x4, .int (0 : Int32), .retAddr 0, .retAddr 0]) dX7_solve_144 (by decide) rfl ?_
    exact wp_le (Ms := [.ref 47, .int x1, .int x2, .int x3, .int x4, .int (0 : Int32), .retAddr 0, .retAddr 0]) ⟨Or.inr rfl, Or.inr rfl, Or.inr rfl, Or.inr rfl, Or.inr rfl, Or.inr rfl, Or.inl rfl, Or.inl rfl, trivial⟩ h
  · have h := h.2 c
    refine wp_aload_n dX7_solve_38 rfl rfl ?_
    refine wp_get (q := 47) dX7_solve_39 fX7_36 rfl rfl ?_
    refine wp_iload dX7_solve_42 rfl ?_
    refine wp_iconst (v := (-1 : Int32)) dX7_solve_44 (by decide) ?_
    obtain ⟨q1, h⟩ := h
    refine wp_iast2 (q := 55) (j := x5.toNatClampNeg) (mh2 := enc (sA S 31 (upd (S.2.2.1 31) x5.toNatClampNeg (-1 : Int32)))) dX7_solve_45 rfl q1 rfl (es_55 _ _) ?_
    refine wp_aload_n dX7_solve_46 rfl rfl ?_
    refine wp_get (q := 47) dX7_solve_47 fX7_33 rfl rfl ?_
    refine wp_iload dX7_solve_50 rfl ?_
    refine wp_iald2 (q := 54) (j := x5.toNatClampNeg) dX7_solve_52 rfl q1 rfl ?_
    refine wp_iload_n dX7_solve_53 rfl rfl ?_
    refine wp_icmp_ne (tgt := 61) dX7_solve_54 (by decide) (fun c => ?_) (fun c => ?_)
    · have h := h.1 c
      refine wp_iconst (v := (0 : Int32)) dX7_solve_61 (by decide) ?_
      refine wp_istore (Ms := [.ref 47, .int x1, .int x2, .int x3, .int x4, .int x5, .int (0 : Int32), .retAddr 0]) dX7_solve_62 (by decide) rfl ?_
      refine wp_iload_n dX7_solve_64 rfl rfl ?_
      refine wp_if_ne (tgt := 90) dX7_solve_65 (by decide) (fun c => ?_) (fun c => ?_)
      · have h := h.1 c
        refine wp_iconst (v := (1 : Int32)) dX7_solve_90 (by decide) ?_
        refine wp_goto (tgt := 95) dX7_solve_91 (by decide) ?_
        refine wp_istore_n (Ms := [.ref 47, .int x1, .int (1 : Int32), .int x3, .int x4, .int x5, .int (0 : Int32), .retAddr 0]) dX7_solve_95 rfl (by decide) rfl ?_
        refine wp_iload_n dX7_solve_96 rfl rfl ?_
        refine wp_iload dX7_solve_97 rfl ?_
        refine wp_if_eq (tgt := 113) dX7_solve_99 (by decide) (fun c => ?_) (fun c => ?_)
        rotate_left
        · exact absurd (by decide) c
        refine wp_iconst (v := (0 : Int32)) dX7_solve_113 (by decide) ?_
        refine wp_iadd dX7_solve_114 ?_
        refine wp_istore_n (Ms := [.ref 47, .int x1, .int (1 : Int32), .int (x3 + (0 : Int32)), .int x4, .int x5, .int (0 : Int32), .retAddr 0]) dX7_solve_115 rfl (by decide) rfl ?_
        refine wp_iload dX7_solve_116 rfl ?_
        refine wp_if_eq (tgt := 133) dX7_solve_118 (by decide) (fun c => ?_) (fun c => ?_)
        rotate_left
        · exact absurd (by decide) c
        refine wp_iload dX7_solve_133 rfl ?_
        refine wp_istore (Ms := [.ref 47, .int x1, .int (1 : Int32), .int (x3 + (0 : Int32)), .int x4, .int x5, .int (0 : Int32), .retAddr 0]) dX7_solve_135 (by decide) rfl ?_
        refine wp_iinc (Ms := [.ref 47, .int x1, .int (1 : Int32), .int (x3 + (0 : Int32)), .int x4, .int (x5 + (1 : Int32)), .int (0 : Int32), .retAddr 0]) (v := x5 + (1 : Int32)) dX7_solve_137 rfl rfl (by decide) rfl ?_
        refine wp_goto (tgt := 31) dX7_solve_140 (by decide) ?_
        exact wp_le (Ms := [.ref 47, .int x1, .int (1 : Int32), .int (x3 + (0 : Int32)), .int x4, .int (x5 + (1 : Int32)), .retAddr 0, .retAddr 0]) ⟨Or.inr rfl, Or.inr rfl, Or.inr rfl, Or.inr rfl, Or.inr rfl, Or.inr rfl, Or.inl rfl, Or.inl rfl, trivial⟩ h
      · have h := h.2 c
        refine wp_iload dX7_solve_68 rfl ?_
        refine wp_if_eq (tgt := 94) dX7_solve_70 (by decide) (fun c => ?_) (fun c => ?_)
        rotate_left
        · exact absurd (by decide) c
        refine wp_iconst (v := (0 : Int32)) dX7_solve_94 (by decide) ?_
        refine wp_istore_n (Ms := [.ref 47, .int x1, .int (0 : Int32), .int x3, .int x4, .int x5, .int (0 : Int32), .retAddr 0]) dX7_solve_95 rfl (by decide) rfl ?_
        refine wp_iload_n dX7_solve_96 rfl rfl ?_
        refine wp_iload dX7_solve_97 rfl ?_
        refine wp_if_eq (tgt := 113) dX7_solve_99 (by decide) (fun c => ?_) (fun c => ?_)
        rotate_left
        · exact absurd (by decide) c
        refine wp_iconst (v := (0 : Int32)) dX7_solve_113 (by decide) ?_
        refine wp_iadd dX7_solve_114 ?_
        refine wp_istore_n (Ms := [.ref 47, .int x1, .int (0 : Int32), .int (x3 + (0 : Int32)), .int x4, .int x5, .int (0 : Int32), .retAddr 0]) dX7_solve_115 rfl (by decide) rfl ?_
        refine wp_iload dX7_solve_116 rfl ?_
        refine wp_if_eq (tgt := 133) dX7_solve_118 (by decide) (fun c => ?_) (fun c => ?_)
        rotate_left
        · exact absurd (by decide) c
        refine wp_iload dX7_solve_133 rfl ?_
        refine wp_istore (Ms := [.ref 47, .int x1, .int (0 : Int32), .int (x3 + (0 : Int32)), .int x4, .int x5, .int (0 : Int32), .retAddr 0]) dX7_solve_135 (by decide) rfl ?_
        refine wp_iinc (Ms := [.ref 47, .int x1, .int (0 : Int32), .int (x3 + (0 : Int32)), .int x4, .int (x5 + (1 : Int32)), .int (0 : Int32), .retAddr 0]) (v := x5 + (1 : Int32)) dX7_solve_137 rfl rfl (by decide) rfl ?_
        refine wp_goto (tgt := 31) dX7_solve_140 (by decide) ?_
        exact wp_le (Ms := [.ref 47, .int x1, .int (0 : Int32), .int (x3 + (0 : Int32)), .int x4, .int (x5 + (1 : Int32)), .retAddr 0, .retAddr 0]) ⟨Or.inr rfl, Or.inr rfl, Or.inr rfl, Or.inr rfl, Or.inr rfl, Or.inr rfl, Or.inl rfl, Or.inl rfl, trivial⟩ h
    · have h := h.2 c
      refine wp_iconst (v := (1 : Int32)) dX7_solve_57 (by decide) ?_
      refine wp_goto (tgt := 62) dX7_solve_58 (by decide) ?_
      refine wp_istore (Ms := [.ref 47, .int x1, .int x2, .int x3, .int x4, .int x5, .int (1 : Int32), .retAddr 0]) dX7_solve_62 (by decide) rfl ?_
      refine wp_iload_n dX7_solve_64 rfl rfl ?_
      refine wp_if_ne (tgt := 90) dX7_solve_65 (by decide) (fun c => ?_) (fun c => ?_)
      · have h := h.1 c
        refine wp_iconst (v := (1 : Int32)) dX7_solve_90 (by decide) ?_
        refine wp_goto (tgt := 95) dX7_solve_91 (by decide) ?_
        refine wp_istore_n (Ms := [.ref 47, .int x1, .int (1 : Int32), .int x3, .int x4, .int x5, .int (1 : Int32), .retAddr 0]) dX7_solve_95 rfl (by decide) rfl ?_
        refine wp_iload_n dX7_solve_96 rfl rfl ?_
        refine wp_iload dX7_solve_97 rfl ?_
        refine wp_if_eq (tgt := 113) dX7_solve_99 (by decide) (fun c => ?_) (fun c => ?_)
        · exact absurd c (by decide)
        refine wp_iload dX7_solve_102 rfl ?_
        refine wp_bipush (v := (8 : Int32)) dX7_solve_104 (by decide) ?_
        refine wp_icmp_lt (tgt := 113) dX7_solve_106 (by decide) (fun c => ?_) (fun c => ?_)
        · have h := h.1 c
          refine wp_iconst (v := (0 : Int32)) dX7_solve_113 (by decide) ?_
          refine wp_iadd dX7_solve_114 ?_
          refine wp_istore_n (Ms := [.ref 47, .int x1, .int (1 : Int32), .int (x3 + (0 : Int32)), .int x4, .int x5, .int (1 : Int32), .retAddr 0]) dX7_solve_115 rfl (by decide) rfl ?_
          refine wp_iload dX7_solve_116 rfl ?_
          refine wp_if_eq (tgt := 133) dX7_solve_118 (by decide) (fun c => ?_) (fun c => ?_)
          · exact absurd c (by decide)
          refine wp_iload dX7_solve_121 rfl ?_
          refine wp_bipush (v := (8 : Int32)) dX7_solve_123 (by decide) ?_
          refine wp_icmp_lt (tgt := 133) dX7_solve_125 (by decide) (fun c => ?_) (fun c => ?_)
          · have h := h.1 c
            refine wp_iload dX7_solve_133 rfl ?_
            refine wp_istore (Ms := [.ref 47, .int x1, .int (1 : Int32), .int (x3 + (0 : Int32)), .int x4, .int x5, .int (1 : Int32), .retAddr 0]) dX7_solve_135 (by decide) rfl ?_
            refine wp_iinc (Ms := [.ref 47, .int x1, .int (1 : Int32), .int (x3 + (0 : Int32)), .int x4, .int (x5 + (1 : Int32)), .int (1 : Int32), .retAddr 0]) (v := x5 + (1 : Int32)) dX7_solve_137 rfl rfl (by decide) rfl ?_
            refine wp_goto (tgt := 31) dX7_solve_140 (by decide) ?_
            exact wp_le (Ms := [.ref 47, .int x1, .int (1 : Int32), .int (x3 + (0 : Int32)), .int x4, .int (x5 + (1 : Int32)), .retAddr 0, .retAddr 0]) ⟨Or.inr rfl, Or.inr rfl, Or.inr rfl, Or.inr rfl, Or.inr rfl, Or.inr rfl, Or.inl rfl, Or.inl rfl, trivial⟩ h
          · have h := h.2 c
            refine wp_iload dX7_solve_128 rfl ?_
            refine wp_goto (tgt := 135) dX7_solve_130 (by decide) ?_
            refine wp_istore (Ms := [.ref 47, .int x1, .int (1 : Int32), .int (x3 + (0 : Int32)), .int x5, .int x5, .int (1 : Int32), .retAddr 0]) dX7_solve_135 (by decide) rfl ?_
            refine wp_iinc (Ms := [.ref 47, .int x1, .int (1 : Int32), .int (x3 + (0 : Int32)), .int x5, .int (x5 + (1 : Int32)), .int (1 : Int32), .retAddr 0]) (v := x5 + (1 : Int32)) dX7_solve_137 rfl rfl (by decide) rfl ?_
            refine wp_goto (tgt := 31) dX7_solve_140 (by decide) ?_
            exact wp_le (Ms := [.ref 47, .int x1, .int (1 : Int32), .int (x3 + (0 : Int32)), .int x5, .int (x5 + (1 : Int32)), .retAddr 0, .retAddr 0]) ⟨Or.inr rfl, Or.inr rfl, Or.inr rfl, Or.inr rfl, Or.inr rfl, Or.inr rfl, Or.inl rfl, Or.inl rfl, trivial⟩ h
        · have h := h.2 c
          refine wp_iconst (v := (1 : Int32)) dX7_solve_109 (by decide) ?_
          refine wp_goto (tgt := 114) dX7_solve_110 (by decide) ?_
          refine wp_iadd dX7_solve_114 ?_
          refine wp_istore_n (Ms := [.ref 47, .int x1, .int (1 : Int32), .int (x3 + (1 : Int32)), .int x4, .int x5, .int (1 : Int32), .retAddr 0]) dX7_solve_115 rfl (by decide) rfl ?_
          refine wp_iload dX7_solve_116 rfl ?_
          refine wp_if_eq (tgt := 133) dX7_solve_118 (by decide) (fun c => ?_) (fun c => ?_)
          · exact absurd c (by decide)
          refine wp_iload dX7_solve_121 rfl ?_
          refine wp_bipush (v := (8 : Int32)) dX7_solve_123 (by decide) ?_
          refine wp_icmp_lt (tgt := 133) dX7_solve_125 (by decide) (fun c => ?_) (fun c => ?_)
          · have h := h.1 c
            refine wp_iload dX7_solve_133 rfl ?_
            refine wp_istore (Ms := [.ref 47, .int x1, .int (1 : Int32), .int (x3 + (1 : Int32)), .int x4, .int x5, .int (1 : Int32), .retAddr 0]) dX7_solve_135 (by decide) rfl ?_
            refine wp_iinc (Ms := [.ref 47, .int x1, .int (1 : Int32), .int (x3 + (1 : Int32)), .int x4, .int (x5 + (1 : Int32)), .int (1 : Int32), .retAddr 0]) (v := x5 + (1 : Int32)) dX7_solve_137 rfl rfl (by decide) rfl ?_
            refine wp_goto (tgt := 31) dX7_solve_140 (by decide) ?_
            exact wp_le (Ms := [.ref 47, .int x1, .int (1 : Int32), .int (x3 + (1 : Int32)), .int x4, .int (x5 + (1 : Int32)), .retAddr 0, .retAddr 0]) ⟨Or.inr rfl, Or.inr rfl, Or.inr rfl, Or.inr rfl, Or.inr rfl, Or.inr rfl, Or.inl rfl, Or.inl rfl, trivial⟩ h
          · have h := h.2 c
            refine wp_iload dX7_solve_128 rfl ?_
            refine wp_goto (tgt := 135) dX7_solve_130 (by decide) ?_
            refine wp_istore (Ms := [.ref 47, .int x1, .int (1 : Int32), .int (x3 + (1 : Int32)), .int x5, .int x5, .int (1 : Int32), .retAddr 0]) dX7_solve_135 (by decide) rfl ?_
            refine wp_iinc (Ms := [.ref 47, .int x1, .int (1 : Int32), .int (x3 + (1 : Int32)), .int x5, .int (x5 + (1 : Int32)), .int (1 : Int32), .retAddr 0]) (v := x5 + (1 : Int32)) dX7_solve_137 rfl rfl (by decide) rfl ?_
            refine wp_goto (tgt := 31) dX7_solve_140 (by decide) ?_
            exact wp_le (Ms := [.ref 47, .int x1, .int (1 : Int32), .int (x3 + (1 : Int32)), .int x5, .int (x5 + (1 : Int32)), .retAddr 0, .retAddr 0]) ⟨Or.inr rfl, Or.inr rfl, Or.inr rfl, Or.inr rfl, Or.inr rfl, Or.inr rfl, Or.inl rfl, Or.inl rfl, trivial⟩ h
      · have h := h.2 c
        refine wp_iload dX7_solve_68 rfl ?_
        refine wp_if_eq (tgt := 94) dX7_solve_70 (by decide) (fun c => ?_) (fun c => ?_)
        · exact absurd c (by decide)
        refine wp_iload dX7_solve_73 rfl ?_
        refine wp_bipush (v := (8 : Int32)) dX7_solve_75 (by decide) ?_
        refine wp_icmp_ge (tgt := 94) dX7_solve_77 (by decide) (fun c => ?_) (fun c => ?_)
        · have h := h.1 c
          refine wp_iconst (v := (0 : Int32)) dX7_solve_94 (by decide) ?_
          refine wp_istore_n (Ms := [.ref 47, .int x1, .int (0 : Int32), .int x3, .int x4, .int x5, .int (1 : Int32), .retAddr 0]) dX7_solve_95 rfl (by decide) rfl ?_
          refine wp_iload_n dX7_solve_96 rfl rfl ?_
          refine wp_iload dX7_solve_97 rfl ?_
          refine wp_if_eq (tgt := 113) dX7_solve_99 (by decide) (fun c => ?_) (fun c => ?_)
          · exact absurd c (by decide)
          refine wp_iload dX7_solve_102 rfl ?_
          refine wp_bipush (v := (8 : Int32)) dX7_solve_104 (by decide) ?_
          refine wp_icmp_lt (tgt := 113) dX7_solve_106 (by decide) (fun c => ?_) (fun c => ?_)
          · have h := h.1 c
            refine wp_iconst (v := (0 : Int32)) dX7_solve_113 (by decide) ?_
            refine wp_iadd dX7_solve_114 ?_
            refine wp_istore_n (Ms := [.ref 47, .int x1, .int (0 : Int32), .int (x3 + (0 : Int32)), .int x4, .int x5, .int (1 : Int32), .retAddr 0]) dX7_solve_115 rfl (by decide) rfl ?_
            refine wp_iload dX7_solve_116 rfl ?_
            refine wp_if_eq (tgt := 133) dX7_solve_118 (by decide) (fun c => ?_) (fun c => ?_)
            · exact absurd c (by decide)
            refine wp_iload dX7_solve_121 rfl ?_
            refine wp_bipush (v := (8 : Int32)) dX7_solve_123 (by decide) ?_
            refine wp_icmp_lt (tgt := 133) dX7_solve_125 (by decide) (fun c => ?_) (fun c => ?_)
            · have h := h.1 c
              refine wp_iload dX7_solve_133 rfl ?_
              refine wp_istore (Ms := [.ref 47, .int x1, .int (0 : Int32), .int (x3 + (0 : Int32)), .int x4, .int x5, .int (1 : Int32), .retAddr 0]) dX7_solve_135 (by decide) rfl ?_
              refine wp_iinc (Ms := [.ref 47, .int x1, .int (0 : Int32), .int (x3 + (0 : Int32)), .int x4, .int (x5 + (1 : Int32)), .int (1 : Int32), .retAddr 0]) (v := x5 + (1 : Int32)) dX7_solve_137 rfl rfl (by decide) rfl ?_
              refine wp_goto (tgt := 31) dX7_solve_140 (by decide) ?_
              exact wp_le (Ms := [.ref 47, .int x1, .int (0 : Int32), .int (x3 + (0 : Int32)), .int x4, .int (x5 + (1 : Int32)), .retAddr 0, .retAddr 0]) ⟨Or.inr rfl, Or.inr rfl, Or.inr rfl, Or.inr rfl, Or.inr rfl, Or.inr rfl, Or.inl rfl, Or.inl rfl, trivial⟩ h
            · have h := h.2 c
              refine wp_iload dX7_solve_128 rfl ?_
              refine wp_goto (tgt := 135) dX7_solve_130 (by decide) ?_
              refine wp_istore (Ms := [.ref 47, .int x1, .int (0 : Int32), .int (x3 + (0 : Int32)), .int x5, .int x5, .int (1 : Int32), .retAddr 0]) dX7_solve_135 (by decide) rfl ?_
              refine wp_iinc (Ms := [.ref 47, .int x1, .int (0 : Int32), .int (x3 + (0 : Int32)), .int x5, .int (x5 + (1 : Int32)), .int (1 : Int32), .retAddr 0]) (v := x5 + (1 : Int32)) dX7_solve_137 rfl rfl (by decide) rfl ?_
              refine wp_goto (tgt := 31) dX7_solve_140 (by decide) ?_
              exact wp_le (Ms := [.ref 47, .int x1, .int (0 : Int32), .int (x3 + (0 : Int32)), .int x5, .int (x5 + (1 : Int32)), .retAddr 0, .retAddr 0]) ⟨Or.inr rfl, Or.inr rfl, Or.inr rfl, Or.inr rfl, Or.inr rfl, Or.inr rfl, Or.inl rfl, Or.inl rfl, trivial⟩ h
          · have h := h.2 c
            refine wp_iconst (v := (1 : Int32)) dX7_solve_109 (by decide) ?_
            refine wp_goto (tgt := 114) dX7_solve_110 (by decide) ?_
            refine wp_iadd dX7_solve_114 ?_
            refine wp_istore_n (Ms := [.ref 47, .int x1, .int (0 : Int32), .int (x3 + (1 : Int32)), .int x4, .int x5, .int (1 : Int32), .retAddr 0]) dX7_solve_115 rfl (by decide) rfl ?_
            refine wp_iload dX7_solve_116 rfl ?_
            refine wp_if_eq (tgt := 133) dX7_solve_118 (by decide) (fun c => ?_) (fun c => ?_)
            · exact absurd c (by decide)
            refine wp_iload dX7_solve_121 rfl ?_
            refine wp_bipush (v := (8 : Int32)) dX7_solve_123 (by decide) ?_
            refine wp_icmp_lt (tgt := 133) dX7_solve_125 (by decide) (fun c => ?_) (fun c => ?_)
            · have h := h.1 c
              refine wp_iload dX7_solve_133 rfl ?_
              refine wp_istore (Ms := [.ref 47, .int x1, .int (0 : Int32), .int (x3 + (1 : Int32)), .int x4, .int x5, .int (1 : Int32), .retAddr 0]) dX7_solve_135 (by decide) rfl ?_
              refine wp_iinc (Ms := [.ref 47, .int x1, .int (0 : Int32), .int (x3 + (1 : Int32)), .int x4, .int (x5 + (1 : Int32)), .int (1 : Int32), .retAddr 0]) (v := x5 + (1 : Int32)) dX7_solve_137 rfl rfl (by decide) rfl ?_
              refine wp_goto (tgt := 31) dX7_solve_140 (by decide) ?_
              exact wp_le (Ms := [.ref 47, .int x1, .int (0 : Int32), .int (x3 + (1 : Int32)), .int x4, .int (x5 + (1 : Int32)), .retAddr 0, .retAddr 0]) ⟨Or.inr rfl, Or.inr rfl, Or.inr rfl, Or.inr rfl, Or.inr rfl, Or.inr rfl, Or.inl rfl, Or.inl rfl, trivial⟩ h
            · have h := h.2 c
              refine wp_iload dX7_solve_128 rfl ?_
              refine wp_goto (tgt := 135) dX7_solve_130 (by decide) ?_
              refine wp_istore (Ms := [.ref 47, .int x1, .int (0 : Int32), .int (x3 + (1 : Int32)), .int x5, .int x5, .int (1 : Int32), .retAddr 0]) dX7_solve_135 (by decide) rfl ?_
              refine wp_iinc (Ms := [.ref 47, .int x1, .int (0 : Int32), .int (x3 + (1 : Int32)), .int x5, .int (x5 + (1 : Int32)), .int (1 : Int32), .retAddr 0]) (v := x5 + (1 : Int32)) dX7_solve_137 rfl rfl (by decide) rfl ?_
              refine wp_goto (tgt := 31) dX7_solve_140 (by decide) ?_
              exact wp_le (Ms := [.ref 47, .int x1, .int (0 : Int32), .int (x3 + (1 : Int32)), .int x5, .int (x5 + (1 : Int32)), .retAddr 0, .retAddr 0]) ⟨Or.inr rfl, Or.inr rfl, Or.inr rfl, Or.inr rfl, Or.inr rfl, Or.inr rfl, Or.inl rfl, Or.inl rfl, trivial⟩ h
        · have h := h.2 c
          refine wp_aload_n dX7_solve_80 rfl rfl ?_
          refine wp_get (q := 47) dX7_solve_81 fX7_24 rfl rfl ?_
          refine wp_iload dX7_solve_84 rfl ?_
          obtain ⟨q2, h⟩ := h
          refine wp_iald2 (q := 51) (j := x5.toNatClampNeg) dX7_solve_86 rfl q2 rfl ?_
          refine wp_if_lt (tgt := 94) dX7_solve_87 (by decide) (fun c => ?_) (fun c => ?_)
          · have h := h.1 c
            refine wp_iconst (v := (0 : Int32)) dX7_solve_94 (by decide) ?_
            refine wp_istore_n (Ms := [.ref 47, .int x1, .int (0 : Int32), .int x3, .int x4, .int x5, .int (1 : Int32), .retAddr 0]) dX7_solve_95 rfl (by decide) rfl ?_
            refine wp_iload_n dX7_solve_96 rfl rfl ?_
            refine wp_iload dX7_solve_97 rfl ?_
            refine wp_if_eq (tgt := 113) dX7_solve_99 (by decide) (fun c => ?_) (fun c => ?_)
            · exact absurd c (by decide)
            refine wp_iload dX7_solve_102 rfl ?_
            refine wp_bipush (v := (8 : Int32)) dX7_solve_104 (by decide) ?_
            refine wp_icmp_lt (tgt := 113) dX7_solve_106 (by decide) (fun c => ?_) (fun c => ?_)
            · have h := h.1 c
              refine wp_iconst (v := (0 : Int32)) dX7_solve_113 (by decide) ?_
              refine wp_iadd dX7_solve_114 ?_
              refine wp_istore_n (Ms := [.ref 47, .int x1, .int (0 : Int32), .int (x3 + (0 : Int32)), .int x4, .int x5, .int (1 : Int32), .retAddr 0]) dX7_solve_115 rfl (by decide) rfl ?_
              refine wp_iload dX7_solve_116 rfl ?_
              refine wp_if_eq (tgt := 133) dX7_solve_118 (by decide) (fun c => ?_) (fun c => ?_)
              · exact absurd c (by decide)
              refine wp_iload dX7_solve_121 rfl ?_
              refine wp_bipush (v := (8 : Int32)) dX7_solve_123 (by decide) ?_
              refine wp_icmp_lt (tgt := 133) dX7_solve_125 (by decide) (fun c => ?_) (fun c => ?_)
              · have h := h.1 c
                refine wp_iload dX7_solve_133 rfl ?_
                refine wp_istore (Ms := [.ref 47, .int x1, .int (0 : Int32), .int (x3 + (0 : Int32)), .int x4, .int x5, .int (1 : Int32), .retAddr 0]) dX7_solve_135 (by decide) rfl ?_
                refine wp_iinc (Ms := [.ref 47, .int x1, .int (0 : Int32), .int (x3 + (0 : Int32)), .int x4, .int (x5 + (1 : Int32)), .int (1 : Int32), .retAddr 0]) (v := x5 + (1 : Int32)) dX7_solve_137 rfl rfl (by decide) rfl ?_
                refine wp_goto (tgt := 31) dX7_solve_140 (by decide) ?_
                exact wp_le (Ms := [.ref 47, .int x1, .int (0 : Int32), .int (x3 + (0 : Int32)), .int x4, .int (x5 + (1 : Int32)), .retAddr 0, .retAddr 0]) ⟨Or.inr rfl, Or.inr rfl, Or.inr rfl, Or.inr rfl, Or.inr rfl, Or.inr rfl, Or.inl rfl, Or.inl rfl, trivial⟩ h
              · have h := h.2 c
                refine wp_iload dX7_solve_128 rfl ?_
                refine wp_goto (tgt := 135) dX7_solve_130 (by decide) ?_
                refine wp_istore (Ms := [.ref 47, .int x1, .int (0 : Int32), .int (x3 + (0 : Int32)), .int x5, .int x5, .int (1 : Int32), .retAddr 0]) dX7_solve_135 (by decide) rfl ?_
                refine wp_iinc (Ms := [.ref 47, .int x1, .int (0 : Int32), .int (x3 + (0 : Int32)), .int x5, .int (x5 + (1 : Int32)), .int (1 : Int32), .retAddr 0]) (v := x5 + (1 : Int32)) dX7_solve_137 rfl rfl (by decide) rfl ?_
                refine wp_goto (tgt := 31) dX7_solve_140 (by decide) ?_
                exact wp_le (Ms := [.ref 47, .int x1, .int (0 : Int32), .int (x3 + (0 : Int32)), .int x5, .int (x5 + (1 : Int32)), .retAddr 0, .retAddr 0]) ⟨Or.inr rfl, Or.inr rfl, Or.inr rfl, Or.inr rfl, Or.inr rfl, Or.inr rfl, Or.inl rfl, Or.inl rfl, trivial⟩ h
            · have h := h.2 c
              refine wp_iconst (v := (1 : Int32)) dX7_solve_109 (by decide) ?_
              refine wp_goto (tgt := 114) dX7_solve_110 (by decide) ?_
              refine wp_iadd dX7_solve_114 ?_
              refine wp_istore_n (Ms := [.ref 47, .int x1, .int (0 : Int32), .int (x3 + (1 : Int32)), .int x4, .int x5, .int (1 : Int32), .retAddr 0]) dX7_solve_115 rfl (by decide) rfl ?_
              refine wp_iload dX7_solve_116 rfl ?_
              refine wp_if_eq (tgt := 133) dX7_solve_118 (by decide) (fun c => ?_) (fun c => ?_)
              · exact absurd c (by decide)
              refine wp_iload dX7_solve_121 rfl ?_
              refine wp_bipush (v := (8 : Int32)) dX7_solve_123 (by decide) ?_
              refine wp_icmp_lt (tgt := 133) dX7_solve_125 (by decide) (fun c => ?_) (fun c => ?_)
              · have h := h.1 c
                refine wp_iload dX7_solve_133 rfl ?_
                refine wp_istore (Ms := [.ref 47, .int x1, .int (0 : Int32), .int (x3 + (1 : Int32)), .int x4, .int x5, .int (1 : Int32), .retAddr 0]) dX7_solve_135 (by decide) rfl ?_
                refine wp_iinc (Ms := [.ref 47, .int x1, .int (0 : Int32), .int (x3 + (1 : Int32)), .int x4, .int (x5 + (1 : Int32)), .int (1 : Int32), .retAddr 0]) (v := x5 + (1 : Int32)) dX7_solve_137 rfl rfl (by decide) rfl ?_
                refine wp_goto (tgt := 31) dX7_solve_140 (by decide) ?_
                exact wp_le (Ms := [.ref 47, .int x1, .int (0 : Int32), .int (x3 + (1 : Int32)), .int x4, .int (x5 + (1 : Int32)), .retAddr 0, .retAddr 0]) ⟨Or.inr rfl, Or.inr rfl, Or.inr rfl, Or.inr rfl, Or.inr rfl, Or.inr rfl, Or.inl rfl, Or.inl rfl, trivial⟩ h
              · have h := h.2 c
                refine wp_iload dX7_solve_128 rfl ?_
                refine wp_goto (tgt := 135) dX7_solve_130 (by decide) ?_
                refine wp_istore (Ms := [.ref 47, .int x1, .int (0 : Int32), .int (x3 + (1 : Int32)), .int x5, .int x5, .int (1 : Int32), .retAddr 0]) dX7_solve_135 (by decide) rfl ?_
                refine wp_iinc (Ms := [.ref 47, .int x1, .int (0 : Int32), .int (x3 + (1 : Int32)), .int x5, .int (x5 + (1 : Int32)), .int (1 : Int32), .retAddr 0]) (v := x5 + (1 : Int32)) dX7_solve_137 rfl rfl (by decide) rfl ?_
                refine wp_goto (tgt := 31) dX7_solve_140 (by decide) ?_
                exact wp_le (Ms := [.ref 47, .int x1, .int (0 : Int32), .int (x3 + (1 : Int32)), .int x5, .int (x5 + (1 : Int32)), .retAddr 0, .retAddr 0]) ⟨Or.inr rfl, Or.inr rfl, Or.inr rfl, Or.inr rfl, Or.inr rfl, Or.inr rfl, Or.inl rfl, Or.inl rfl, trivial⟩ h
          · have h := h.2 c
            refine wp_iconst (v := (1 : Int32)) dX7_solve_90 (by decide) ?_
            refine wp_goto (tgt := 95) dX7_solve_91 (by decide) ?_
            refine wp_istore_n (Ms := [.ref 47, .int x1, .int (1 : Int32), .int x3, .int x4, .int x5, .int (1 : Int32), .retAddr 0]) dX7_solve_95 rfl (by decide) rfl ?_
            refine wp_iload_n dX7_solve_96 rfl rfl ?_
            refine wp_iload dX7_solve_97 rfl ?_
            refine wp_if_eq (tgt := 113) dX7_solve_99 (by decide) (fun c => ?_) (fun c => ?_)
            · exact absurd c (by decide)
            refine wp_iload dX7_solve_102 rfl ?_
            refine wp_bipush (v := (8 : Int32)) dX7_solve_104 (by decide) ?_
            refine wp_icmp_lt (tgt := 113) dX7_solve_106 (by decide) (fun c => ?_) (fun c => ?_)
            · have h := h.1 c
              refine wp_iconst (v := (0 : Int32)) dX7_solve_113 (by decide) ?_
              refine wp_iadd dX7_solve_114 ?_
              refine wp_istore_n (Ms := [.ref 47, .int x1, .int (1 : Int32), .int (x3 + (0 : Int32)), .int x4, .int x5, .int (1 : Int32), .retAddr 0]) dX7_solve_115 rfl (by decide) rfl ?_
              refine wp_iload dX7_solve_116 rfl ?_
              refine wp_if_eq (tgt := 133) dX7_solve_118 (by decide) (fun c => ?_) (fun c => ?_)
              · exact absurd c (by decide)
              refine wp_iload dX7_solve_121 rfl ?_
              refine wp_bipush (v := (8 : Int32)) dX7_solve_123 (by decide) ?_
              refine wp_icmp_lt (tgt := 133) dX7_solve_125 (by decide) (fun c => ?_) (fun c => ?_)
              · have h := h.1 c
                refine wp_iload dX7_solve_133 rfl ?_
                refine wp_istore (Ms := [.ref 47, .int x1, .int (1 : Int32), .int (x3 + (0 : Int32)), .int x4, .int x5, .int (1 : Int32), .retAddr 0]) dX7_solve_135 (by decide) rfl ?_
                refine wp_iinc (Ms := [.ref 47, .int x1, .int (1 : Int32), .int (x3 + (0 : Int32)), .int x4, .int (x5 + (1 : Int32)), .int (1 : Int32), .retAddr 0]) (v := x5 + (1 : Int32)) dX7_solve_137 rfl rfl (by decide) rfl ?_
                refine wp_goto (tgt := 31) dX7_solve_140 (by decide) ?_
                exact wp_le (Ms := [.ref 47, .int x1, .int (1 : Int32), .int (x3 + (0 : Int32)), .int x4, .int (x5 + (1 : Int32)), .retAddr 0, .retAddr 0]) ⟨Or.inr rfl, Or.inr rfl, Or.inr rfl, Or.inr rfl, Or.inr rfl, Or.inr rfl, Or.inl rfl, Or.inl rfl, trivial⟩ h
              · have h := h.2 c
                refine wp_iload dX7_solve_128 rfl ?_
                refine wp_goto (tgt := 135) dX7_solve_130 (by decide) ?_
                refine wp_istore (Ms := [.ref 47, .int x1, .int (1 : Int32), .int (x3 + (0 : Int32)), .int x5, .int x5, .int (1 : Int32), .retAddr 0]) dX7_solve_135 (by decide) rfl ?_
                refine wp_iinc (Ms := [.ref 47, .int x1, .int (1 : Int32), .int (x3 + (0 : Int32)), .int x5, .int (x5 + (1 : Int32)), .int (1 : Int32), .retAddr 0]) (v := x5 + (1 : Int32)) dX7_solve_137 rfl rfl (by decide) rfl ?_
                refine wp_goto (tgt := 31) dX7_solve_140 (by decide) ?_
                exact wp_le (Ms := [.ref 47, .int x1, .int (1 : Int32), .int (x3 + (0 : Int32)), .int x5, .int (x5 + (1 : Int32)), .retAddr 0, .retAddr 0]) ⟨Or.inr rfl, Or.inr rfl, Or.inr rfl, Or.inr rfl, Or.inr rfl, Or.inr rfl, Or.inl rfl, Or.inl rfl, trivial⟩ h
            · have h := h.2 c
              refine wp_iconst (v := (1 : Int32)) dX7_solve_109 (by decide) ?_
              refine wp_goto (tgt := 114) dX7_solve_110 (by decide) ?_
              refine wp_iadd dX7_solve_114 ?_
              refine wp_istore_n (Ms := [.ref 47, .int x1, .int (1 : Int32), .int (x3 + (1 : Int32)), .int x4, .int x5, .int (1 : Int32), .retAddr 0]) dX7_solve_115 rfl (by decide) rfl ?_
              refine wp_iload dX7_solve_116 rfl ?_
              refine wp_if_eq (tgt := 133) dX7_solve_118 (by decide) (fun c => ?_) (fun c => ?_)
              · exact absurd c (by decide)
              refine wp_iload dX7_solve_121 rfl ?_
              refine wp_bipush (v := (8 : Int32)) dX7_solve_123 (by decide) ?_
              refine wp_icmp_lt (tgt := 133) dX7_solve_125 (by decide) (fun c => ?_) (fun c => ?_)
              · have h := h.1 c
                refine wp_iload dX7_solve_133 rfl ?_
                refine wp_istore (Ms := [.ref 47, .int x1, .int (1 : Int32), .int (x3 + (1 : Int32)), .int x4, .int x5, .int (1 : Int32), .retAddr 0]) dX7_solve_135 (by decide) rfl ?_
                refine wp_iinc (Ms := [.ref 47, .int x1, .int (1 : Int32), .int (x3 + (1 : Int32)), .int x4, .int (x5 + (1 : Int32)), .int (1 : Int32), .retAddr 0]) (v := x5 + (1 : Int32)) dX7_solve_137 rfl rfl (by decide) rfl ?_
                refine wp_goto (tgt := 31) dX7_solve_140 (by decide) ?_
                exact wp_le (Ms := [.ref 47, .int x1, .int (1 : Int32), .int (x3 + (1 : Int32)), .int x4, .int (x5 + (1 : Int32)), .retAddr 0, .retAddr 0]) ⟨Or.inr rfl, Or.inr rfl, Or.inr rfl, Or.inr rfl, Or.inr rfl, Or.inr rfl, Or.inl rfl, Or.inl rfl, trivial⟩ h
              · have h := h.2 c
                refine wp_iload dX7_solve_128 rfl ?_
                refine wp_goto (tgt := 135) dX7_solve_130 (by decide) ?_
                refine wp_istore (Ms := [.ref 47, .int x1, .int (1 : Int32), .int (x3 + (1 : Int32)), .int x5, .int x5, .int (1 : Int32), .retAddr 0]) dX7_solve_135 (by decide) rfl ?_
                refine wp_iinc (Ms := [.ref 47, .int x1, .int (1 : Int32), .int (x3 + (1 : Int32)), .int x5, .int (x5 + (1 : Int32)), .int (1 : Int32), .retAddr 0]) (v := x5 + (1 : Int32)) dX7_solve_137 rfl rfl (by decide) rfl ?_
                refine wp_goto (tgt := 31) dX7_solve_140 (by decide) ?_
                exact wp_le (Ms := [.ref 47, .int x1, .int (1 : Int32), .int (x3 + (1 : Int32)), .int x5, .int (x5 + (1 : Int32)), .retAddr 0, .retAddr 0]) ⟨Or.inr rfl, Or.inr rfl, Or.inr rfl, Or.inr rfl, Or.inr rfl, Or.inr rfl, Or.inl rfl, Or.inl rfl, trivial⟩ h
set_option maxRecDepth 100000 in
theorem bX7_solve_146 {P : Int32 → St → Prop} {S : St} (x1 : Int32) (x2 : Int32) (x3 : Int32) (x4 : Int32) (x5 : Int32) (h : (((16 : Int32) ≤ x5 → tX7_setUp x1 S (fun S1 => tX7_solveCells  S1 (fun S2 => wX7_solve P 234 [.ref 47, .int x1, .int x2, .int x3, .int x4, .long (0 : Int64), .retAddr 0, .int (0 : Int32)] [] S2))) ∧ (¬ (16 : Int32) ≤ x5 → vp_in x5 16 ∧ ((¬ ((S.2.2.1 30) x5.toNatClampNeg) = x1 → wX7_solve P 146 [.ref 47, .int x1, .int x2, .int x3, .int x4, .int (x5 + (1 : Int32)), .retAddr 0, .retAddr 0] [] S) ∧ (((S.2.2.1 30) x5.toNatClampNeg) = x1 → (((8 : Int32) ≤ x5 → ((¬ x2 = 0 → tX7_place x5 S (fun S4 => wX7_solve P 146 [.ref 47, .int x1, .int x2, .int x3, .int x4, .int (x5 + (1 : Int32)), .retAddr 0, .retAddr 0] [] S4)) ∧ (x2 = 0 → ((x5 = x4 → wX7_solve P 146 [.ref 47, .int x1, .int x2, .int x3, .int x4, .int (x5 + (1 : Int32)), .retAddr 0, .retAddr 0] [] S) ∧ (¬ x5 = x4 → tX7_place x5 S (fun S5 => wX7_solve P 146 [.ref 47, .int x1, .int x2, .int x3, .int x4, .int (x5 + (1 : Int32)), .retAddr 0, .retAddr 0] [] S5)))))) ∧ (¬ (8 : Int32) ≤ x5 → vp_in x5 8 ∧ ((0 ≤ ((S.2.2.1 27) x5.toNatClampNeg) → wX7_solve P 146 [.ref 47, .int x1, .int x2, .int x3, .int x4, .int (x5 + (1 : Int32)), .retAddr 0, .retAddr 0] [] S) ∧ (¬ 0 ≤ ((S.2.2.1 27) x5.toNatClampNeg) → tX7_place x5 S (fun S7 => wX7_solve P 146 [.ref 47, .int x1, .int x2, .int x3, .int x4, .int (x5 + (1 : Int32)), .retAddr 0, .retAddr 0] [] S7)))))))))) : wX7_solve P 146 [.ref 47, .int x1, .int x2, .int x3, .int x4, .int x5, .retAddr 0, .retAddr 0] [] S := by
  refine wp_iload dX7_solve_146 rfl ?_
  refine wp_bipush (v := (16 : Int32)) dX7_solve_148 (by decide) ?_
  refine wp_icmp_ge (tgt := 219) dX7_solve_150 (by decide) (fun c => ?_) (fun c => ?_)
  · have h := h.1 c
    refine wp_aload_n dX7_solve_219 rfl rfl ?_
    refine wp_iload_n dX7_solve_220 rfl rfl ?_
    refine wp_callV (q := 47) (As := [.int x1]) (rest := []) dX7_solve_221 mX7_setUp lX7_143 (by decide) rfl rfl rfl rfl (Nat.le_of_ble_eq_true rfl) (Nat.le_of_ble_eq_true rfl) h ?_
    rintro rv mh2 ⟨S1, rfl, rfl, h⟩
    refine wp_aload_n dX7_solve_224 rfl rfl ?_
    refine wp_callV (q := 47) (As := []) (rest := []) dX7_solve_225 mX7_solveCells lX7_146 (by decide) rfl rfl rfl rfl (Nat.le_of_ble_eq_true rfl) (Nat.le_of_ble_eq_true rfl) h ?_
    rintro rv mh2 ⟨S2, rfl, rfl, h⟩
    refine wp_lconst (v := (0 : Int64)) dX7_solve_228 (by decide) ?_
    refine wp_lstore (Ms := [.ref 47, .int x1, .int x2, .int x3, .int x4, .long (0 : Int64), .retAddr 0, .retAddr 0]) dX7_solve_229 (by decide) rfl ?_
    refine wp_iconst (v := (0 : Int32)) dX7_solve_231 (by decide) ?_
    refine wp_istore (Ms := [.ref 47, .int x1, .int x2, .int x3, .int x4, .long (0 : Int64), .retAddr 0, .int (0 : Int32)]) dX7_solve_232 (by decide) rfl ?_
    exact wp_le (Ms := [.ref 47, .int x1, .int x2, .int x3, .int x4, .long (0 : Int64), .retAddr 0, .int (0 : Int32)]) ⟨Or.inr rfl, Or.inr rfl, Or.inr rfl, Or.inr rfl, Or.inr rfl, Or.inr rfl, Or.inl rfl, Or.inr rfl, trivial⟩ h
  · have h := h.2 c
    refine wp_aload_n dX7_solve_153 rfl rfl ?_
    refine wp_get (q := 47) dX7_solve_154 fX7_33 rfl rfl ?_
    refine wp_iload dX7_solve_157 rfl ?_
    obtain ⟨q3, h⟩ := h
    refine wp_iald2 (q := 54) (j := x5.toNatClampNeg) dX7_solve_159 rfl q3 rfl ?_
    refine wp_iload_n dX7_solve_160 rfl rfl ?_
    refine wp_icmp_ne (tgt := 168) dX7_solve_161 (by decide) (fun c => ?_) (fun c => ?_)
    · have h := h.1 c
      refine wp_iconst (v := (0 : Int32)) dX7_solve_168 (by decide) ?_
      refine wp_istore (Ms := [.ref 47, .int x1, .int x2, .int x3, .int x4, .int x5, .int (0 : Int32), .retAddr 0]) dX7_solve_169 (by decide) rfl ?_
      refine wp_iload dX7_solve_171 rfl ?_
      refine wp_if_eq (tgt := 213) dX7_solve_173 (by decide) (fun c => ?_) (fun c => ?_)
      rotate_left
      · exact absurd (by decide) c
      refine wp_iinc (Ms := [.ref 47, .int x1, .int x2, .int x3, .int x4, .int (x5 + (1 : Int32)), .int (0 : Int32), .retAddr 0]) (v := x5 + (1 : Int32)) dX7_solve_213 rfl rfl (by decide) rfl ?_
      refine wp_goto (tgt := 146) dX7_solve_216 (by decide) ?_
      exact wp_le (Ms := [.ref 47, .int x1, .int x2, .int x3, .int x4, .int (x5 + (1 : Int32)), .retAddr 0, .retAddr 0]) ⟨Or.inr rfl, Or.inr rfl, Or.inr rfl, Or.inr rfl, Or.inr rfl, Or.inr rfl, Or.inl rfl, Or.inl rfl, trivial⟩ h
    · have h := h.2 c
      refine wp_iconst (v := (1 : Int32)) dX7_solve_164 (by decide) ?_
      refine wp_goto (tgt := 169) dX7_solve_165 (by decide) ?_
      refine wp_istore (Ms := [.ref 47, .int x1, .int x2, .int x3, .int x4, .int x5, .int (1 : Int32), .retAddr 0]) dX7_solve_169 (by decide) rfl ?_
      refine wp_iload dX7_solve_171 rfl ?_
      refine wp_if_eq (tgt := 213) dX7_solve_173 (by decide) (fun c => ?_) (fun c => ?_)
      · exact absurd c (by decide)
      refine wp_iload dX7_solve_176 rfl ?_
      refine wp_bipush (v := (8 : Int32)) dX7_solve_178 (by decide) ?_
      refine wp_icmp_ge (tgt := 196) dX7_solve_180 (by decide) (fun c => ?_) (fun c => ?_)
      · have h := h.1 c
        refine wp_iload_n dX7_solve_196 rfl rfl ?_
        refine wp_if_ne (tgt := 207) dX7_solve_197 (by decide) (fun c => ?_) (fun c => ?_)
        · have h := h.1 c
          refine wp_aload_n dX7_solve_207 rfl rfl ?_
          refine wp_iload dX7_solve_208 rfl ?_
          refine wp_callV (q := 47) (As := [.int x5]) (rest := []) dX7_solve_210 mX7_place lX7_139 (by decide) rfl rfl rfl rfl (Nat.le_of_ble_eq_true rfl) (Nat.le_of_ble_eq_true rfl) h ?_
          rintro rv mh2 ⟨S4, rfl, rfl, h⟩
          refine wp_iinc (Ms := [.ref 47, .int x1, .int x2, .int x3, .int x4, .int (x5 + (1 : Int32)), .int (1 : Int32), .retAddr 0]) (v := x5 + (1 : Int32)) dX7_solve_213 rfl rfl (by decide) rfl ?_
          refine wp_goto (tgt := 146) dX7_solve_216 (by decide) ?_
          exact wp_le (Ms := [.ref 47, .int x1, .int x2, .int x3, .int x4, .int (x5 + (1 : Int32)), .retAddr 0, .retAddr 0]) ⟨Or.inr rfl, Or.inr rfl, Or.inr rfl, Or.inr rfl, Or.inr rfl, Or.inr rfl, Or.inl rfl, Or.inl rfl, trivial⟩ h
        · have h := h.2 c
          refine wp_iload dX7_solve_200 rfl ?_
          refine wp_iload dX7_solve_202 rfl ?_
          refine wp_icmp_eq (tgt := 213) dX7_solve_204 (by decide) (fun c => ?_) (fun c => ?_)
          · have h := h.1 c
            refine wp_iinc (Ms := [.ref 47, .int x1, .int x2, .int x3, .int x4, .int (x5 + (1 : Int32)), .int (1 : Int32), .retAddr 0]) (v := x5 + (1 : Int32)) dX7_solve_213 rfl rfl (by decide) rfl ?_
            refine wp_goto (tgt := 146) dX7_solve_216 (by decide) ?_
            exact wp_le (Ms := [.ref 47, .int x1, .int x2, .int x3, .int x4, .int (x5 + (1 : Int32)), .retAddr 0, .retAddr 0]) ⟨Or.inr rfl, Or.inr rfl, Or.inr rfl, Or.inr rfl, Or.inr rfl, Or.inr rfl, Or.inl rfl, Or.inl rfl, trivial⟩ h
          · have h := h.2 c
            refine wp_aload_n dX7_solve_207 rfl rfl ?_
            refine wp_iload dX7_solve_208 rfl ?_
            refine wp_callV (q := 47) (As := [.int x5]) (rest := []) dX7_solve_210 mX7_place lX7_139 (by decide) rfl rfl rfl rfl (Nat.le_of_ble_eq_true rfl) (Nat.le_of_ble_eq_true rfl) h ?_
            rintro rv mh2 ⟨S5, rfl, rfl, h⟩
            refine wp_iinc (Ms := [.ref 47, .int x1, .int x2, .int x3, .int x4, .int (x5 + (1 : Int32)), .int (1 : Int32), .retAddr 0]) (v := x5 + (1 : Int32)) dX7_solve_213 rfl rfl (by decide) rfl ?_
            refine wp_goto (tgt := 146) dX7_solve_216 (by decide) ?_
            exact wp_le (Ms := [.ref 47, .int x1, .int x2, .int x3, .int x4, .int (x5 + (1 : Int32)), .retAddr 0, .retAddr 0]) ⟨Or.inr rfl, Or.inr rfl, Or.inr rfl, Or.inr rfl, Or.inr rfl, Or.inr rfl, Or.inl rfl, Or.inl rfl, trivial⟩ h
      · have h := h.2 c
        refine wp_aload_n dX7_solve_183 rfl rfl ?_
        refine wp_get (q := 47) dX7_solve_184 fX7_24 rfl rfl ?_
        refine wp_iload dX7_solve_187 rfl ?_
        obtain ⟨q6, h⟩ := h
        refine wp_iald2 (q := 51) (j := x5.toNatClampNeg) dX7_solve_189 rfl q6 rfl ?_
        refine wp_if_ge (tgt := 213) dX7_solve_190 (by decide) (fun c => ?_) (fun c => ?_)
        · have h := h.1 c
          refine wp_iinc (Ms := [.ref 47, .int x1, .int x2, .int x3, .int x4, .int (x5 + (1 : Int32)), .int (1 : Int32), .retAddr 0]) (v := x5 + (1 : Int32)) dX7_solve_213 rfl rfl (by decide) rfl ?_
          refine wp_goto (tgt := 146) dX7_solve_216 (by decide) ?_
          exact wp_le (Ms := [.ref 47, .int x1, .int x2, .int x3, .int x4, .int (x5 + (1 : Int32)), .retAddr 0, .retAddr 0]) ⟨Or.inr rfl, Or.inr rfl, Or.inr rfl, Or.inr rfl, Or.inr rfl, Or.inr rfl, Or.inl rfl, Or.inl rfl, trivial⟩ h
        · have h := h.2 c
          refine wp_goto (tgt := 207) dX7_solve_193 (by decide) ?_
          refine wp_aload_n dX7_solve_207 rfl rfl ?_
          refine wp_iload dX7_solve_208 rfl ?_
          refine wp_callV (q := 47) (As := [.int x5]) (rest := []) dX7_solve_210 mX7_place lX7_139 (by decide) rfl rfl rfl rfl (Nat.le_of_ble_eq_true rfl) (Nat.le_of_ble_eq_true rfl) h ?_
          rintro rv mh2 ⟨S7, rfl, rfl, h⟩
          refine wp_iinc (Ms := [.ref 47, .int x1, .int x2, .int x3, .int x4, .int (x5 + (1 : Int32)), .int (1 : Int32), .retAddr 0]) (v := x5 + (1 : Int32)) dX7_solve_213 rfl rfl (by decide) rfl ?_
          refine wp_goto (tgt := 146) dX7_solve_216 (by decide) ?_
          exact wp_le (Ms := [.ref 47, .int x1, .int x2, .int x3, .int x4, .int (x5 + (1 : Int32)), .retAddr 0, .retAddr 0]) ⟨Or.inr rfl, Or.inr rfl, Or.inr rfl, Or.inr rfl, Or.inr rfl, Or.inr rfl, Or.inl rfl, Or.inl rfl, trivial⟩ h
set_option maxRecDepth 100000 in
theorem bX7_solve_234 {P : Int32 → St → Prop} {S : St} (x1 : Int32) (x2 : Int32) (x3 : Int32) (x4 : Int32) (x5 : Int64) (x7 : Int32) (h : (((16 : Int32) ≤ x7 → ((¬ x2 = 0 → P (1 : Int32) S) ∧ (x2 = 0 → wX7_solve P 360 [.ref 47, .int x1, .int x2, .int x3, .int x4, .long x5, .retAddr 0, .int (0 : Int32)] [] S))) ∧ (¬ (16 : Int32) ≤ x7 → vp_in x7 16 ∧ ((((S.2.2.1 31) x7.toNatClampNeg) < 0 → (((8 : Int32) ≤ x7 → ((x7 < (8 : Int32) → wX7_solve P 234 [.ref 47, .int x1, .int x2, .int x3, .int x4, .long (x5 + (0 : Int64)), .retAddr 0, .int (x7 + (1 : Int32))] [] (sB S 15 (vp_updL (S.2.2.2 15) x7.toNatClampNeg (0 : Int64)))) ∧ (¬ x7 < (8 : Int32) → ((¬ ((S.2.2.1 30) x7.toNatClampNeg) = x1 → wX7_solve P 234 [.ref 47, .int x1, .int x2, .int x3, .int x4, .long (x5 + (0 : Int64)), .retAddr 0, .int (x7 + (1 : Int32))] [] (sB S 15 (vp_updL (S.2.2.2 15) x7.toNatClampNeg (0 : Int64)))) ∧ (((S.2.2.1 30) x7.toNatClampNeg) = x1 → wX7_solve P 234 [.ref 47, .int x1, .int x2, .int x3, .int x4, .long (x5 + ((vp_updL (S.2.2.2 15) x7.toNatClampNeg (0 : Int64)) x7.toNatClampNeg)), .retAddr 0, .int (x7 + (1 : Int32))] [] (sB S 15 (vp_updL (S.2.2.2 15) x7.toNatClampNeg (0 : Int64)))))))) ∧ (¬ (8 : Int32) ≤ x7 → vp_in x7 8 ∧ ((((S.2.2.1 27) x7.toNatClampNeg) < 0 → ((x7 < (8 : Int32) → wX7_solve P 234 [.ref 47, .int x1, .int x2, .int x3, .int x4, .long (x5 + (0 : Int64)), .retAddr 0, .int (x7 + (1 : Int32))] [] (sB S 15 (vp_updL (S.2.2.2 15) x7.toNatClampNeg (0 : Int64)))) ∧ (¬ x7 < (8 : Int32) → ((¬ ((S.2.2.1 30) x7.toNatClampNeg) = x1 → wX7_solve P 234 [.ref 47, .int x1, .int x2, .int x3, .int x4, .long (x5 + (0 : Int64)), .retAddr 0, .int (x7 + (1 : Int32))] [] (sB S 15 (vp_updL (S.2.2.2 15) x7.toNatClampNeg (0 : Int64)))) ∧ (((S.2.2.1 30) x7.toNatClampNeg) = x1 → wX7_solve P 234 [.ref 47, .int x1, .int x2, .int x3, .int x4, .long (x5 + ((vp_updL (S.2.2.2 15) x7.toNatClampNeg (0 : Int64)) x7.toNatClampNeg)), .retAddr 0, .int (x7 + (1 : Int32))] [] (sB S 15 (vp_updL (S.2.2.2 15) x7.toNatClampNeg (0 : Int64)))))))) ∧ (¬ ((S.2.2.1 27) x7.toNatClampNeg) < 0 → ((x7 < (8 : Int32) → wX7_solve P 234 [.ref 47, .int x1, .int x2, .int x3, .int x4, .long (x5 + (0 : Int64)), .retAddr 0, .int (x7 + (1 : Int32))] [] (sB S 15 (vp_updL (S.2.2.2 15) x7.toNatClampNeg ((((S.2.2.1 27) x7.toNatClampNeg).toInt64) * (S.2.1 0))))) ∧ (¬ x7 < (8 : Int32) → ((¬ ((S.2.2.1 30) x7.toNatClampNeg) = x1 → wX7_solve P 234 [.ref 47, .int x1, .int x2, .int x3, .int x4, .long (x5 + (0 : Int64)), .retAddr 0, .int (x7 + (1 : Int32))] [] (sB S 15 (vp_updL (S.2.2.2 15) x7.toNatClampNeg ((((S.2.2.1 27) x7.toNatClampNeg).toInt64) * (S.2.1 0))))) ∧ (((S.2.2.1 30) x7.toNatClampNeg) = x1 → wX7_solve P 234 [.ref 47, .int x1, .int x2, .int x3, .int x4, .long (x5 + ((vp_updL (S.2.2.2 15) x7.toNatClampNeg ((((S.2.2.1 27) x7.toNatClampNeg).toInt64) * (S.2.1 0))) x7.toNatClampNeg)), .retAddr 0, .int (x7 + (1 : Int32))] [] (sB S 15 (vp_updL (S.2.2.2 15) x7.toNatClampNeg ((((S.2.2.1 27) x7.toNatClampNeg).toInt64) * (S.2.1 0))))))))))))) ∧ (¬ ((S.2.2.1 31) x7.toNatClampNeg) < 0 → vp_in (((11 : Int32) * ((S.2.2.1 31) x7.toNatClampNeg)) + (10 : Int32)) 110 ∧ ((x7 < (8 : Int32) → wX7_solve P 234 [.ref 47, .int x1, .int x2, .int x3, .int x4, .long (x5 + (0 : Int64)), .retAddr 0, .int (x7 + (1 : Int32))] [] (sB S 15 (vp_updL (S.2.2.2 15) x7.toNatClampNeg ((S.2.2.2 14) (((11 : Int32) * ((S.2.2.1 31) x7.toNatClampNeg)) + (10 : Int32)).toNatClampNeg)))) ∧ (¬ x7 < (8 : Int32) → ((¬ ((S.2.2.1 30) x7.toNatClampNeg) = x1 → wX7_solve P 234 [.ref 47, .int x1, .int x2, .int x3, .int x4, .long (x5 + (0 : Int64)), .retAddr 0, .int (x7 + (1 : Int32))] [] (sB S 15 (vp_updL (S.2.2.2 15) x7.toNatClampNeg ((S.2.2.2 14) (((11 : Int32) * ((S.2.2.1 31) x7.toNatClampNeg)) + (10 : Int32)).toNatClampNeg)))) ∧ (((S.2.2.1 30) x7.toNatClampNeg) = x1 → wX7_solve P 234 [.ref 47, .int x1, .int x2, .int x3, .int x4, .long (x5 + ((vp_updL (S.2.2.2 15) x7.toNatClampNeg ((S.2.2.2 14) (((11 : Int32) * ((S.2.2.1 31) x7.toNatClampNeg)) + (10 : Int32)).toNatClampNeg)) x7.toNatClampNeg)), .retAddr 0, .int (x7 + (1 : Int32))] [] (sB S 15 (vp_updL (S.2.2.2 15) x7.toNatClampNeg ((S.2.2.2 14) (((11 : Int32) * ((S.2.2.1 31) x7.toNatClampNeg)) + (10 : Int32)).toNatClampNeg)))))))))))) : wX7_solve P 234 [.ref 47, .int x1, .int x2, .int x3, .int x4, .long x5, .retAddr 0, .int x7] [] S := by
  refine wp_iload dX7_solve_234 rfl ?_
  refine wp_bipush (v := (16 : Int32)) dX7_solve_236 (by decide) ?_
  refine wp_icmp_ge (tgt := 353) dX7_solve_238 (by decide) (fun c => ?_) (fun c => ?_)
  · have h := h.1 c
    refine wp_iload_n dX7_solve_353 rfl rfl ?_
    refine wp_if_ne (tgt := 428) dX7_solve_354 (by decide) (fun c => ?_) (fun c => ?_)
    · have h := h.1 c
      refine wp_iconst (v := (1 : Int32)) dX7_solve_428 (by decide) ?_
      exact wp_iret dX7_solve_429 rfl rfl ⟨_, _, rfl, rfl, h⟩
    · have h := h.2 c
      refine wp_iconst (v := (0 : Int32)) dX7_solve_357 (by decide) ?_
      refine wp_istore (Ms := [.ref 47, .int x1, .int x2, .int x3, .int x4, .long x5, .retAddr 0, .int (0 : Int32)]) dX7_solve_358 (by decide) rfl ?_
      exact wp_le (Ms := [.ref 47, .int x1, .int x2, .int x3, .int x4, .long x5, .retAddr 0, .int (0 : Int32)]) ⟨Or.inr rfl, Or.inr rfl, Or.inr rfl, Or.inr rfl, Or.inr rfl, Or.inr rfl, Or.inl rfl, Or.inr rfl, trivial⟩ h
  · have h := h.2 c
    refine wp_aload_n dX7_solve_241 rfl rfl ?_
    refine wp_get (q := 47) dX7_solve_242 fX7_43 rfl rfl ?_
    refine wp_iload dX7_solve_245 rfl ?_
    refine wp_aload_n dX7_solve_247 rfl rfl ?_
    refine wp_get (q := 47) dX7_solve_248 fX7_36 rfl rfl ?_
    refine wp_iload dX7_solve_251 rfl ?_
    obtain ⟨q1, h⟩ := h
    refine wp_iald2 (q := 55) (j := x7.toNatClampNeg) dX7_solve_253 rfl q1 rfl ?_
    refine wp_if_lt (tgt := 278) dX7_solve_254 (by decide) (fun c => ?_) (fun c => ?_)
    · have h := h.1 c
      refine wp_iload dX7_solve_278 rfl ?_
      refine wp_bipush (v := (8 : Int32)) dX7_solve_280 (by decide) ?_
      refine wp_icmp_ge (tgt := 311) dX7_solve_282 (by decide) (fun c => ?_) (fun c => ?_)
      · have h := h.1 c
        refine wp_lconst (v := (0 : Int64)) dX7_solve_311 (by decide) ?_
        refine wp_last2 (q := 57) (j := x7.toNatClampNeg) (mh2 := enc (sB S 15 (vp_updL (S.2.2.2 15) x7.toNatClampNeg (0 : Int64)))) dX7_solve_312 rfl q1 rfl (es_57 _ _) ?_
        refine wp_lload dX7_solve_313 rfl ?_
        refine wp_iload dX7_solve_315 rfl ?_
        refine wp_bipush (v := (8 : Int32)) dX7_solve_317 (by decide) ?_
        refine wp_icmp_lt (tgt := 343) dX7_solve_319 (by decide) (fun c => ?_) (fun c => ?_)
        · have h := h.1 c
          refine wp_lconst (v := (0 : Int64)) dX7_solve_343 (by decide) ?_
          refine wp_ladd dX7_solve_344 ?_
          refine wp_lstore (Ms := [.ref 47, .int x1, .int x2, .int x3, .int x4, .long (x5 + (0 : Int64)), .retAddr 0, .int x7]) dX7_solve_345 (by decide) rfl ?_
          refine wp_iinc (Ms := [.ref 47, .int x1, .int x2, .int x3, .int x4, .long (x5 + (0 : Int64)), .retAddr 0, .int (x7 + (1 : Int32))]) (v := x7 + (1 : Int32)) dX7_solve_347 rfl rfl (by decide) rfl ?_
          refine wp_goto (tgt := 234) dX7_solve_350 (by decide) ?_
          exact wp_le (Ms := [.ref 47, .int x1, .int x2, .int x3, .int x4, .long (x5 + (0 : Int64)), .retAddr 0, .int (x7 + (1 : Int32))]) ⟨Or.inr rfl, Or.inr rfl, Or.inr rfl, Or.inr rfl, Or.inr rfl, Or.inr rfl, Or.inl rfl, Or.inr rfl, trivial⟩ h
        · have h := h.2 c
          refine wp_aload_n dX7_solve_322 rfl rfl ?_
          refine wp_get (q := 47) dX7_solve_323 fX7_33 rfl rfl ?_
          refine wp_iload dX7_solve_326 rfl ?_
          refine wp_iald2 (q := 54) (j := x7.toNatClampNeg) dX7_solve_328 rfl q1 rfl ?_
          refine wp_iload_n dX7_solve_329 rfl rfl ?_
          refine wp_icmp_ne (tgt := 343) dX7_solve_330 (by decide) (fun c => ?_) (fun c => ?_)
          · have h := h.1 c
            refine wp_lconst (v := (0 : Int64)) dX7_solve_343 (by decide) ?_
            refine wp_ladd dX7_solve_344 ?_
            refine wp_lstore (Ms := [.ref 47, .int x1, .int x2, .int x3, .int x4, .long (x5 + (0 : Int64)), .retAddr 0, .int x7]) dX7_solve_345 (by decide) rfl ?_
            refine wp_iinc (Ms := [.ref 47, .int x1, .int x2, .int x3, .int x4, .long (x5 + (0 : Int64)), .retAddr 0, .int (x7 + (1 : Int32))]) (v := x7 + (1 : Int32)) dX7_solve_347 rfl rfl (by decide) rfl ?_
            refine wp_goto (tgt := 234) dX7_solve_350 (by decide) ?_
            exact wp_le (Ms := [.ref 47, .int x1, .int x2, .int x3, .int x4, .long (x5 + (0 : Int64)), .retAddr 0, .int (x7 + (1 : Int32))]) ⟨Or.inr rfl, Or.inr rfl, Or.inr rfl, Or.inr rfl, Or.inr rfl, Or.inr rfl, Or.inl rfl, Or.inr rfl, trivial⟩ h
          · have h := h.2 c
            refine wp_aload_n dX7_solve_333 rfl rfl ?_
            refine wp_get (q := 47) dX7_solve_334 fX7_43 rfl rfl ?_
            refine wp_iload dX7_solve_337 rfl ?_
            refine wp_lald2 (q := 57) (j := x7.toNatClampNeg) dX7_solve_339 rfl q1 rfl ?_
            refine wp_goto (tgt := 344) dX7_solve_340 (by decide) ?_
            refine wp_ladd dX7_solve_344 ?_
            refine wp_lstore (Ms := [.ref 47, .int x1, .int x2, .int x3, .int x4, .long (x5 + ((vp_updL (S.2.2.2 15) x7.toNatClampNeg (0 : Int64)) x7.toNatClampNeg)), .retAddr 0, .int x7]) dX7_solve_345 (by decide) rfl ?_
            refine wp_iinc (Ms := [.ref 47, .int x1, .int x2, .int x3, .int x4, .long (x5 + ((vp_updL (S.2.2.2 15) x7.toNatClampNeg (0 : Int64)) x7.toNatClampNeg)), .retAddr 0, .int (x7 + (1 : Int32))]) (v := x7 + (1 : Int32)) dX7_solve_347 rfl rfl (by decide) rfl ?_
            refine wp_goto (tgt := 234) dX7_solve_350 (by decide) ?_
            exact wp_le (Ms := [.ref 47, .int x1, .int x2, .int x3, .int x4, .long (x5 + ((vp_updL (S.2.2.2 15) x7.toNatClampNeg (0 : Int64)) x7.toNatClampNeg)), .retAddr 0, .int (x7 + (1 : Int32))]) ⟨Or.inr rfl, Or.inr rfl, Or.inr rfl, Or.inr rfl, Or.inr rfl, Or.inr rfl, Or.inl rfl, Or.inr rfl, trivial⟩ h
      · have h := h.2 c
        refine wp_aload_n dX7_solve_285 rfl rfl ?_
        refine wp_get (q := 47) dX7_solve_286 fX7_24 rfl rfl ?_
        refine wp_iload dX7_solve_289 rfl ?_
        obtain ⟨q2, h⟩ := h
        refine wp_iald2 (q := 51) (j := x7.toNatClampNeg) dX7_solve_291 rfl q2 rfl ?_
        refine wp_if_lt (tgt := 311) dX7_solve_292 (by decide) (fun c => ?_) (fun c => ?_)
        · have h := h.1 c
          refine wp_lconst (v := (0 : Int64)) dX7_solve_311 (by decide) ?_
          refine wp_last2 (q := 57) (j := x7.toNatClampNeg) (mh2 := enc (sB S 15 (vp_updL (S.2.2.2 15) x7.toNatClampNeg (0 : Int64)))) dX7_solve_312 rfl q1 rfl (es_57 _ _) ?_
          refine wp_lload dX7_solve_313 rfl ?_
          refine wp_iload dX7_solve_315 rfl ?_
          refine wp_bipush (v := (8 : Int32)) dX7_solve_317 (by decide) ?_
          refine wp_icmp_lt (tgt := 343) dX7_solve_319 (by decide) (fun c => ?_) (fun c => ?_)
          · have h := h.1 c
            refine wp_lconst (v := (0 : Int64)) dX7_solve_343 (by decide) ?_
            refine wp_ladd dX7_solve_344 ?_
            refine wp_lstore (Ms := [.ref 47, .int x1, .int x2, .int x3, .int x4, .long (x5 + (0 : Int64)), .retAddr 0, .int x7]) dX7_solve_345 (by decide) rfl ?_
            refine wp_iinc (Ms := [.ref 47, .int x1, .int x2, .int x3, .int x4, .long (x5 + (0 : Int64)), .retAddr 0, .int (x7 + (1 : Int32))]) (v := x7 + (1 : Int32)) dX7_solve_347 rfl rfl (by decide) rfl ?_
            refine wp_goto (tgt := 234) dX7_solve_350 (by decide) ?_
            exact wp_le (Ms := [.ref 47, .int x1, .int x2, .int x3, .int x4, .long (x5 + (0 : Int64)), .retAddr 0, .int (x7 + (1 : Int32))]) ⟨Or.inr rfl, Or.inr rfl, Or.inr rfl, Or.inr rfl, Or.inr rfl, Or.inr rfl, Or.inl rfl, Or.inr rfl, trivial⟩ h
          · have h := h.2 c
            refine wp_aload_n dX7_solve_322 rfl rfl ?_
            refine wp_get (q := 47) dX7_solve_323 fX7_33 rfl rfl ?_
            refine wp_iload dX7_solve_326 rfl ?_
            refine wp_iald2 (q := 54) (j := x7.toNatClampNeg) dX7_solve_328 rfl q1 rfl ?_
            refine wp_iload_n dX7_solve_329 rfl rfl ?_
            refine wp_icmp_ne (tgt := 343) dX7_solve_330 (by decide) (fun c => ?_) (fun c => ?_)
            · have h := h.1 c
              refine wp_lconst (v := (0 : Int64)) dX7_solve_343 (by decide) ?_
              refine wp_ladd dX7_solve_344 ?_
              refine wp_lstore (Ms := [.ref 47, .int x1, .int x2, .int x3, .int x4, .long (x5 + (0 : Int64)), .retAddr 0, .int x7]) dX7_solve_345 (by decide) rfl ?_
              refine wp_iinc (Ms := [.ref 47, .int x1, .int x2, .int x3, .int x4, .long (x5 + (0 : Int64)), .retAddr 0, .int (x7 + (1 : Int32))]) (v := x7 + (1 : Int32)) dX7_solve_347 rfl rfl (by decide) rfl ?_
              refine wp_goto (tgt := 234) dX7_solve_350 (by decide) ?_
              exact wp_le (Ms := [.ref 47, .int x1, .int x2, .int x3, .int x4, .long (x5 + (0 : Int64)), .retAddr 0, .int (x7 + (1 : Int32))]) ⟨Or.inr rfl, Or.inr rfl, Or.inr rfl, Or.inr rfl, Or.inr rfl, Or.inr rfl, Or.inl rfl, Or.inr rfl, trivial⟩ h
            · have h := h.2 c
              refine wp_aload_n dX7_solve_333 rfl rfl ?_
              refine wp_get (q := 47) dX7_solve_334 fX7_43 rfl rfl ?_
              refine wp_iload dX7_solve_337 rfl ?_
              refine wp_lald2 (q := 57) (j := x7.toNatClampNeg) dX7_solve_339 rfl q1 rfl ?_
              refine wp_goto (tgt := 344) dX7_solve_340 (by decide) ?_
              refine wp_ladd dX7_solve_344 ?_
              refine wp_lstore (Ms := [.ref 47, .int x1, .int x2, .int x3, .int x4, .long (x5 + ((vp_updL (S.2.2.2 15) x7.toNatClampNeg (0 : Int64)) x7.toNatClampNeg)), .retAddr 0, .int x7]) dX7_solve_345 (by decide) rfl ?_
              refine wp_iinc (Ms := [.ref 47, .int x1, .int x2, .int x3, .int x4, .long (x5 + ((vp_updL (S.2.2.2 15) x7.toNatClampNeg (0 : Int64)) x7.toNatClampNeg)), .retAddr 0, .int (x7 + (1 : Int32))]) (v := x7 + (1 : Int32)) dX7_solve_347 rfl rfl (by decide) rfl ?_
              refine wp_goto (tgt := 234) dX7_solve_350 (by decide) ?_
              exact wp_le (Ms := [.ref 47, .int x1, .int x2, .int x3, .int x4, .long (x5 + ((vp_updL (S.2.2.2 15) x7.toNatClampNeg (0 : Int64)) x7.toNatClampNeg)), .retAddr 0, .int (x7 + (1 : Int32))]) ⟨Or.inr rfl, Or.inr rfl, Or.inr rfl, Or.inr rfl, Or.inr rfl, Or.inr rfl, Or.inl rfl, Or.inr rfl, trivial⟩ h
        · have h := h.2 c
          refine wp_aload_n dX7_solve_295 rfl rfl ?_
          refine wp_get (q := 47) dX7_solve_296 fX7_24 rfl rfl ?_
          refine wp_iload dX7_solve_299 rfl ?_
          refine wp_iald2 (q := 51) (j := x7.toNatClampNeg) dX7_solve_301 rfl q2 rfl ?_
          refine wp_i2l dX7_solve_302 ?_
          refine wp_aload_n dX7_solve_303 rfl rfl ?_
          refine wp_get (q := 47) dX7_solve_304 fX7_135 rfl rfl ?_
          refine wp_lmul dX7_solve_307 ?_
          refine wp_goto (tgt := 312) dX7_solve_308 (by decide) ?_
          refine wp_last2 (q := 57) (j := x7.toNatClampNeg) (mh2 := enc (sB S 15 (vp_updL (S.2.2.2 15) x7.toNatClampNeg ((((S.2.2.1 27) x7.toNatClampNeg).toInt64) * (S.2.1 0))))) dX7_solve_312 rfl q1 rfl (es_57 _ _) ?_
          refine wp_lload dX7_solve_313 rfl ?_
          refine wp_iload dX7_solve_315 rfl ?_
          refine wp_bipush (v := (8 : Int32)) dX7_solve_317 (by decide) ?_
          refine wp_icmp_lt (tgt := 343) dX7_solve_319 (by decide) (fun c => ?_) (fun c => ?_)
          · have h := h.1 c
            refine wp_lconst (v := (0 : Int64)) dX7_solve_343 (by decide) ?_
            refine wp_ladd dX7_solve_344 ?_
            refine wp_lstore (Ms := [.ref 47, .int x1, .int x2, .int x3, .int x4, .long (x5 + (0 : Int64)), .retAddr 0, .int x7]) dX7_solve_345 (by decide) rfl ?_
            refine wp_iinc (Ms := [.ref 47, .int x1, .int x2, .int x3, .int x4, .long (x5 + (0 : Int64)), .retAddr 0, .int (x7 + (1 : Int32))]) (v := x7 + (1 : Int32)) dX7_solve_347 rfl rfl (by decide) rfl ?_
            refine wp_goto (tgt := 234) dX7_solve_350 (by decide) ?_
            exact wp_le (Ms := [.ref 47, .int x1, .int x2, .int x3, .int x4, .long (x5 + (0 : Int64)), .retAddr 0, .int (x7 + (1 : Int32))]) ⟨Or.inr rfl, Or.inr rfl, Or.inr rfl, Or.inr rfl, Or.inr rfl, Or.inr rfl, Or.inl rfl, Or.inr rfl, trivial⟩ h
          · have h := h.2 c
            refine wp_aload_n dX7_solve_322 rfl rfl ?_
            refine wp_get (q := 47) dX7_solve_323 fX7_33 rfl rfl ?_
            refine wp_iload dX7_solve_326 rfl ?_
            refine wp_iald2 (q := 54) (j := x7.toNatClampNeg) dX7_solve_328 rfl q1 rfl ?_
            refine wp_iload_n dX7_solve_329 rfl rfl ?_
            refine wp_icmp_ne (tgt := 343) dX7_solve_330 (by decide) (fun c => ?_) (fun c => ?_)
            · have h := h.1 c
              refine wp_lconst (v := (0 : Int64)) dX7_solve_343 (by decide) ?_
              refine wp_ladd dX7_solve_344 ?_
              refine wp_lstore (Ms := [.ref 47, .int x1, .int x2, .int x3, .int x4, .long (x5 + (0 : Int64)), .retAddr 0, .int x7]) dX7_solve_345 (by decide) rfl ?_
              refine wp_iinc (Ms := [.ref 47, .int x1, .int x2, .int x3, .int x4, .long (x5 + (0 : Int64)), .retAddr 0, .int (x7 + (1 : Int32))]) (v := x7 + (1 : Int32)) dX7_solve_347 rfl rfl (by decide) rfl ?_
              refine wp_goto (tgt := 234) dX7_solve_350 (by decide) ?_
              exact wp_le (Ms := [.ref 47, .int x1, .int x2, .int x3, .int x4, .long (x5 + (0 : Int64)), .retAddr 0, .int (x7 + (1 : Int32))]) ⟨Or.inr rfl, Or.inr rfl, Or.inr rfl, Or.inr rfl, Or.inr rfl, Or.inr rfl, Or.inl rfl, Or.inr rfl, trivial⟩ h
            · have h := h.2 c
              refine wp_aload_n dX7_solve_333 rfl rfl ?_
              refine wp_get (q := 47) dX7_solve_334 fX7_43 rfl rfl ?_
              refine wp_iload dX7_solve_337 rfl ?_
              refine wp_lald2 (q := 57) (j := x7.toNatClampNeg) dX7_solve_339 rfl q1 rfl ?_
              refine wp_goto (tgt := 344) dX7_solve_340 (by decide) ?_
              refine wp_ladd dX7_solve_344 ?_
              refine wp_lstore (Ms := [.ref 47, .int x1, .int x2, .int x3, .int x4, .long (x5 + ((vp_updL (S.2.2.2 15) x7.toNatClampNeg ((((S.2.2.1 27) x7.toNatClampNeg).toInt64) * (S.2.1 0))) x7.toNatClampNeg)), .retAddr 0, .int x7]) dX7_solve_345 (by decide) rfl ?_
              refine wp_iinc (Ms := [.ref 47, .int x1, .int x2, .int x3, .int x4, .long (x5 + ((vp_updL (S.2.2.2 15) x7.toNatClampNeg ((((S.2.2.1 27) x7.toNatClampNeg).toInt64) * (S.2.1 0))) x7.toNatClampNeg)), .retAddr 0, .int (x7 + (1 : Int32))]) (v := x7 + (1 : Int32)) dX7_solve_347 rfl rfl (by decide) rfl ?_
              refine wp_goto (tgt := 234) dX7_solve_350 (by decide) ?_
              exact wp_le (Ms := [.ref 47, .int x1, .int x2, .int x3, .int x4, .long (x5 + ((vp_updL (S.2.2.2 15) x7.toNatClampNeg ((((S.2.2.1 27) x7.toNatClampNeg).toInt64) * (S.2.1 0))) x7.toNatClampNeg)), .retAddr 0, .int (x7 + (1 : Int32))]) ⟨Or.inr rfl, Or.inr rfl, Or.inr rfl, Or.inr rfl, Or.inr rfl, Or.inr rfl, Or.inl rfl, Or.inr rfl, trivial⟩ h
    · have h := h.2 c
      refine wp_aload_n dX7_solve_257 rfl rfl ?_
      refine wp_get (q := 47) dX7_solve_258 fX7_39 rfl rfl ?_
      refine wp_bipush (v := (11 : Int32)) dX7_solve_261 (by decide) ?_
      refine wp_aload_n dX7_solve_263 rfl rfl ?_
      refine wp_get (q := 47) dX7_solve_264 fX7_36 rfl rfl ?_
      refine wp_iload dX7_solve_267 rfl ?_
      refine wp_iald2 (q := 55) (j := x7.toNatClampNeg) dX7_solve_269 rfl q1 rfl ?_
      refine wp_imul dX7_solve_270 ?_
      refine wp_bipush (v := (10 : Int32)) dX7_solve_271 (by decide) ?_
      refine wp_iadd dX7_solve_273 ?_
      obtain ⟨q3, h⟩ := h
      refine wp_lald2 (q := 56) (j := (((11 : Int32) * ((S.2.2.1 31) x7.toNatClampNeg)) + (10 : Int32)).toNatClampNeg) dX7_solve_274 rfl q3 rfl ?_
      refine wp_goto (tgt := 312) dX7_solve_275 (by decide) ?_
      refine wp_last2 (q := 57) (j := x7.toNatClampNeg) (mh2 := enc (sB S 15 (vp_updL (S.2.2.2 15) x7.toNatClampNeg ((S.2.2.2 14) (((11 : Int32) * ((S.2.2.1 31) x7.toNatClampNeg)) + (10 : Int32)).toNatClampNeg)))) dX7_solve_312 rfl q1 rfl (es_57 _ _) ?_
      refine wp_lload dX7_solve_313 rfl ?_
      refine wp_iload dX7_solve_315 rfl ?_
      refine wp_bipush (v := (8 : Int32)) dX7_solve_317 (by decide) ?_
      refine wp_icmp_lt (tgt := 343) dX7_solve_319 (by decide) (fun c => ?_) (fun c => ?_)
      · have h := h.1 c
        refine wp_lconst (v := (0 : Int64)) dX7_solve_343 (by decide) ?_
        refine wp_ladd dX7_solve_344 ?_
        refine wp_lstore (Ms := [.ref 47, .int x1, .int x2, .int x3, .int x4, .long (x5 + (0 : Int64)), .retAddr 0, .int x7]) dX7_solve_345 (by decide) rfl ?_
        refine wp_iinc (Ms := [.ref 47, .int x1, .int x2, .int x3, .int x4, .long (x5 + (0 : Int64)), .retAddr 0, .int (x7 + (1 : Int32))]) (v := x7 + (1 : Int32)) dX7_solve_347 rfl rfl (by decide) rfl ?_
        refine wp_goto (tgt := 234) dX7_solve_350 (by decide) ?_
        exact wp_le (Ms := [.ref 47, .int x1, .int x2, .int x3, .int x4, .long (x5 + (0 : Int64)), .retAddr 0, .int (x7 + (1 : Int32))]) ⟨Or.inr rfl, Or.inr rfl, Or.inr rfl, Or.inr rfl, Or.inr rfl, Or.inr rfl, Or.inl rfl, Or.inr rfl, trivial⟩ h
      · have h := h.2 c
        refine wp_aload_n dX7_solve_322 rfl rfl ?_
        refine wp_get (q := 47) dX7_solve_323 fX7_33 rfl rfl ?_
        refine wp_iload dX7_solve_326 rfl ?_
        refine wp_iald2 (q := 54) (j := x7.toNatClampNeg) dX7_solve_328 rfl q1 rfl ?_
        refine wp_iload_n dX7_solve_329 rfl rfl ?_
        refine wp_icmp_ne (tgt := 343) dX7_solve_330 (by decide) (fun c => ?_) (fun c => ?_)
        · have h := h.1 c
          refine wp_lconst (v := (0 : Int64)) dX7_solve_343 (by decide) ?_
          refine wp_ladd dX7_solve_344 ?_
          refine wp_lstore (Ms := [.ref 47, .int x1, .int x2, .int x3, .int x4, .long (x5 + (0 : Int64)), .retAddr 0, .int x7]) dX7_solve_345 (by decide) rfl ?_
          refine wp_iinc (Ms := [.ref 47, .int x1, .int x2, .int x3, .int x4, .long (x5 + (0 : Int64)), .retAddr 0, .int (x7 + (1 : Int32))]) (v := x7 + (1 : Int32)) dX7_solve_347 rfl rfl (by decide) rfl ?_
          refine wp_goto (tgt := 234) dX7_solve_350 (by decide) ?_
          exact wp_le (Ms := [.ref 47, .int x1, .int x2, .int x3, .int x4, .long (x5 + (0 : Int64)), .retAddr 0, .int (x7 + (1 : Int32))]) ⟨Or.inr rfl, Or.inr rfl, Or.inr rfl, Or.inr rfl, Or.inr rfl, Or.inr rfl, Or.inl rfl, Or.inr rfl, trivial⟩ h
        · have h := h.2 c
          refine wp_aload_n dX7_solve_333 rfl rfl ?_
          refine wp_get (q := 47) dX7_solve_334 fX7_43 rfl rfl ?_
          refine wp_iload dX7_solve_337 rfl ?_
          refine wp_lald2 (q := 57) (j := x7.toNatClampNeg) dX7_solve_339 rfl q1 rfl ?_
          refine wp_goto (tgt := 344) dX7_solve_340 (by decide) ?_
          refine wp_ladd dX7_solve_344 ?_
          refine wp_lstore (Ms := [.ref 47, .int x1, .int x2, .int x3, .int x4, .long (x5 + ((vp_updL (S.2.2.2 15) x7.toNatClampNeg ((S.2.2.2 14) (((11 : Int32) * ((S.2.2.1 31) x7.toNatClampNeg)) + (10 : Int32)).toNatClampNeg)) x7.toNatClampNeg)), .retAddr 0, .int x7]) dX7_solve_345 (by decide) rfl ?_
          refine wp_iinc (Ms := [.ref 47, .int x1, .int x2, .int x3, .int x4, .long (x5 + ((vp_updL (S.2.2.2 15) x7.toNatClampNeg ((S.2.2.2 14) (((11 : Int32) * ((S.2.2.1 31) x7.toNatClampNeg)) + (10 : Int32)).toNatClampNeg)) x7.toNatClampNeg)), .retAddr 0, .int (x7 + (1 : Int32))]) (v := x7 + (1 : Int32)) dX7_solve_347 rfl rfl (by decide) rfl ?_
          refine wp_goto (tgt := 234) dX7_solve_350 (by decide) ?_
          exact wp_le (Ms := [.ref 47, .int x1, .int x2, .int x3, .int x4, .long (x5 + ((vp_updL (S.2.2.2 15) x7.toNatClampNeg ((S.2.2.2 14) (((11 : Int32) * ((S.2.2.1 31) x7.toNatClampNeg)) + (10 : Int32)).toNatClampNeg)) x7.toNatClampNeg)), .retAddr 0, .int (x7 + (1 : Int32))]) ⟨Or.inr rfl, Or.inr rfl, Or.inr rfl, Or.inr rfl, Or.inr rfl, Or.inr rfl, Or.inl rfl, Or.inr rfl, trivial⟩ h
set_option maxRecDepth 100000 in
theorem bX7_solve_360 {P : Int32 → St → Prop} {S : St} (x1 : Int32) (x2 : Int32) (x3 : Int32) (x4 : Int32) (x5 : Int64) (x7 : Int32) (h : (((16 : Int32) ≤ x7 → P (1 : Int32) (sJ S 0 ((S.2.1 0) * x3.toInt64))) ∧ (¬ (16 : Int32) ≤ x7 → vp_in x7 16 ∧ ((¬ ((S.2.2.1 30) x7.toNatClampNeg) = x1 → wX7_solve P 360 [.ref 47, .int x1, .int x2, .int x3, .int x4, .long x5, .retAddr 0, .int (x7 + (1 : Int32))] [] S) ∧ (((S.2.2.1 30) x7.toNatClampNeg) = x1 → (((8 : Int32) ≤ x7 → wX7_solve P 360 [.ref 47, .int x1, .int x2, .int x3, .int x4, .long x5, .retAddr 0, .int (x7 + (1 : Int32))] [] (sB S 15 (vp_updL (S.2.2.2 15) x7.toNatClampNeg ((((S.2.2.2 15) x7.toNatClampNeg) * x3.toInt64) + (-x5))))) ∧ (¬ (8 : Int32) ≤ x7 → wX7_solve P 360 [.ref 47, .int x1, .int x2, .int x3, .int x4, .long x5, .retAddr 0, .int (x7 + (1 : Int32))] [] (sB S 15 (vp_updL (S.2.2.2 15) x7.toNatClampNeg ((((S.2.2.2 15) x7.toNatClampNeg) * x3.toInt64) + x5)))))))))) : wX7_solve P 360 [.ref 47, .int x1, .int x2, .int x3, .int x4, .long x5, .retAddr 0, .int x7] [] S := by
  refine wp_iload dX7_solve_360 rfl ?_
  refine wp_bipush (v := (16 : Int32)) dX7_solve_362 (by decide) ?_
  refine wp_icmp_ge (tgt := 417) dX7_solve_364 (by decide) (fun c => ?_) (fun c => ?_)
  · have h := h.1 c
    refine wp_aload_n dX7_solve_417 rfl rfl ?_
    refine wp_dup dX7_solve_418 rfl ?_
    refine wp_get (q := 47) dX7_solve_419 fX7_135 rfl rfl ?_
    refine wp_iload_n dX7_solve_422 rfl rfl ?_
    refine wp_i2l dX7_solve_423 ?_
    refine wp_lmul dX7_solve_424 ?_
    refine wp_put (q := 47) (mh2 := enc (sJ S 0 ((S.2.1 0) * x3.toInt64))) dX7_solve_425 fX7_135 (by decide) rfl (Nat.le_of_ble_eq_true rfl) (fun _ _ => rfl) rfl rfl (eo_47_12 _ _) ?_
    refine wp_iconst (v := (1 : Int32)) dX7_solve_428 (by decide) ?_
    exact wp_iret dX7_solve_429 rfl rfl ⟨_, _, rfl, rfl, h⟩
  · have h := h.2 c
    refine wp_aload_n dX7_solve_367 rfl rfl ?_
    refine wp_get (q := 47) dX7_solve_368 fX7_33 rfl rfl ?_
    refine wp_iload dX7_solve_371 rfl ?_
    obtain ⟨q1, h⟩ := h
    refine wp_iald2 (q := 54) (j := x7.toNatClampNeg) dX7_solve_373 rfl q1 rfl ?_
    refine wp_iload_n dX7_solve_374 rfl rfl ?_
    refine wp_icmp_ne (tgt := 411) dX7_solve_375 (by decide) (fun c => ?_) (fun c => ?_)
    · have h := h.1 c
      refine wp_iinc (Ms := [.ref 47, .int x1, .int x2, .int x3, .int x4, .long x5, .retAddr 0, .int (x7 + (1 : Int32))]) (v := x7 + (1 : Int32)) dX7_solve_411 rfl rfl (by decide) rfl ?_
      refine wp_goto (tgt := 360) dX7_solve_414 (by decide) ?_
      exact wp_le (Ms := [.ref 47, .int x1, .int x2, .int x3, .int x4, .long x5, .retAddr 0, .int (x7 + (1 : Int32))]) ⟨Or.inr rfl, Or.inr rfl, Or.inr rfl, Or.inr rfl, Or.inr rfl, Or.inr rfl, Or.inl rfl, Or.inr rfl, trivial⟩ h
    · have h := h.2 c
      refine wp_aload_n dX7_solve_378 rfl rfl ?_
      refine wp_get (q := 47) dX7_solve_379 fX7_43 rfl rfl ?_
      refine wp_iload dX7_solve_382 rfl ?_
      refine wp_aload_n dX7_solve_384 rfl rfl ?_
      refine wp_get (q := 47) dX7_solve_385 fX7_43 rfl rfl ?_
      refine wp_iload dX7_solve_388 rfl ?_
      refine wp_lald2 (q := 57) (j := x7.toNatClampNeg) dX7_solve_390 rfl q1 rfl ?_
      refine wp_iload_n dX7_solve_391 rfl rfl ?_
      refine wp_i2l dX7_solve_392 ?_
      refine wp_lmul dX7_solve_393 ?_
      refine wp_iload dX7_solve_394 rfl ?_
      refine wp_bipush (v := (8 : Int32)) dX7_solve_396 (by decide) ?_
      refine wp_icmp_ge (tgt := 406) dX7_solve_398 (by decide) (fun c => ?_) (fun c => ?_)
      · have h := h.1 c
        refine wp_lload dX7_solve_406 rfl ?_
        refine wp_lneg dX7_solve_408 ?_
        refine wp_ladd dX7_solve_409 ?_
        refine wp_last2 (q := 57) (j := x7.toNatClampNeg) (mh2 := enc (sB S 15 (vp_updL (S.2.2.2 15) x7.toNatClampNeg ((((S.2.2.2 15) x7.toNatClampNeg) * x3.toInt64) + (-x5))))) dX7_solve_410 rfl q1 rfl (es_57 _ _) ?_
        refine wp_iinc (Ms := [.ref 47, .int x1, .int x2, .int x3, .int x4, .long x5, .retAddr 0, .int (x7 + (1 : Int32))]) (v := x7 + (1 : Int32)) dX7_solve_411 rfl rfl (by decide) rfl ?_
        refine wp_goto (tgt := 360) dX7_solve_414 (by decide) ?_
        exact wp_le (Ms := [.ref 47, .int x1, .int x2, .int x3, .int x4, .long x5, .retAddr 0, .int (x7 + (1 : Int32))]) ⟨Or.inr rfl, Or.inr rfl, Or.inr rfl, Or.inr rfl, Or.inr rfl, Or.inr rfl, Or.inl rfl, Or.inr rfl, trivial⟩ h
      · have h := h.2 c
        refine wp_lload dX7_solve_401 rfl ?_
        refine wp_goto (tgt := 409) dX7_solve_403 (by decide) ?_
        refine wp_ladd dX7_solve_409 ?_
        refine wp_last2 (q := 57) (j := x7.toNatClampNeg) (mh2 := enc (sB S 15 (vp_updL (S.2.2.2 15) x7.toNatClampNeg ((((S.2.2.2 15) x7.toNatClampNeg) * x3.toInt64) + x5)))) dX7_solve_410 rfl q1 rfl (es_57 _ _) ?_
        refine wp_iinc (Ms := [.ref 47, .int x1, .int x2, .int x3, .int x4, .long x5, .retAddr 0, .int (x7 + (1 : Int32))]) (v := x7 + (1 : Int32)) dX7_solve_411 rfl rfl (by decide) rfl ?_
        refine wp_goto (tgt := 360) dX7_solve_414 (by decide) ?_
        exact wp_le (Ms := [.ref 47, .int x1, .int x2, .int x3, .int x4, .long x5, .retAddr 0, .int (x7 + (1 : Int32))]) ⟨Or.inr rfl, Or.inr rfl, Or.inr rfl, Or.inr rfl, Or.inr rfl, Or.inr rfl, Or.inl rfl, Or.inr rfl, trivial⟩ h
abbrev rX7_common : Room := { frames := 0, cells := 0, slots := 0, locals := 0 }
abbrev wX7_common (P : Int64 → St → Prop) (pc : Nat) (Ls stk : List Value) (S : St) : Prop := Wp cX7_common RX7 10 rX7_common (wFL P) pc Ls stk (enc S)
abbrev tX7_common (a0 : Int64) (a1 : Int64) (S : St) (P : Int64 → St → Prop) : Prop := wX7_common P 0 (wl_en [.long a0, .long a1] 10) [] S
set_option maxRecDepth 100000 in
theorem bX7_common_0 {P : Int64 → St → Prop} {S : St} (a0 : Int64) (a1 : Int64) (h : ((0 ≤ (lg_cmp a0 (0 : Int64)) → wX7_common P 17 [.long a0, .retAddr 0, .long a1, .retAddr 0, .long a0, .retAddr 0, .long a1, .retAddr 0, .retAddr 0, .retAddr 0] [] S) ∧ (¬ 0 ≤ (lg_cmp a0 (0 : Int64)) → wX7_common P 17 [.long a0, .retAddr 0, .long a1, .retAddr 0, .long (-a0), .retAddr 0, .long a1, .retAddr 0, .retAddr 0, .retAddr 0] [] S))) : tX7_common a0 a1 S P := by
  show wX7_common P 0 [.long a0, .retAddr 0, .long a1, .retAddr 0, .retAddr 0, .retAddr 0, .retAddr 0, .retAddr 0, .retAddr 0, .retAddr 0] [] S
  refine wp_lload_n dX7_common_0 rfl rfl ?_
  refine wp_lconst (v := (0 : Int64)) dX7_common_1 (by decide) ?_
  refine wp_lcmp dX7_common_2 ?_
  refine wp_if_ge (tgt := 11) dX7_common_3 (by decide) (fun c => ?_) (fun c => ?_)
  · have h := h.1 c
    refine wp_lload_n dX7_common_11 rfl rfl ?_
    refine wp_lstore (Ms := [.long a0, .retAddr 0, .long a1, .retAddr 0, .long a0, .retAddr 0, .retAddr 0, .retAddr 0, .retAddr 0, .retAddr 0]) dX7_common_12 (by decide) rfl ?_
    refine wp_lload_n dX7_common_14 rfl rfl ?_
    refine wp_lstore (Ms := [.long a0, .retAddr 0, .long a1, .retAddr 0, .long a0, .retAddr 0, .long a1, .retAddr 0, .retAddr 0, .retAddr 0]) dX7_common_15 (by decide) rfl ?_
    exact wp_le (Ms := [.long a0, .retAddr 0, .long a1, .retAddr 0, .long a0, .retAddr 0, .long a1, .retAddr 0, .retAddr 0, .retAddr 0]) ⟨Or.inr rfl, Or.inl rfl, Or.inr rfl, Or.inl rfl, Or.inr rfl, Or.inl rfl, Or.inr rfl, Or.inl rfl, Or.inl rfl, Or.inl rfl, trivial⟩ h
  · have h := h.2 c
    refine wp_lload_n dX7_common_6 rfl rfl ?_
    refine wp_lneg dX7_common_7 ?_
    refine wp_goto (tgt := 12) dX7_common_8 (by decide) ?_
    refine wp_lstore (Ms := [.long a0, .retAddr 0, .long a1, .retAddr 0, .long (-a0), .retAddr 0, .retAddr 0, .retAddr 0, .retAddr 0, .retAddr 0]) dX7_common_12 (by decide) rfl ?_
    refine wp_lload_n dX7_common_14 rfl rfl ?_
    refine wp_lstore (Ms := [.long a0, .retAddr 0, .long a1, .retAddr 0, .long (-a0), .retAddr 0, .long a1, .retAddr 0, .retAddr 0, .retAddr 0]) dX7_common_15 (by decide) rfl ?_
    exact wp_le (Ms := [.long a0, .retAddr 0, .long a1, .retAddr 0, .long (-a0), .retAddr 0, .long a1, .retAddr 0, .retAddr 0, .retAddr 0]) ⟨Or.inr rfl, Or.inl rfl, Or.inr rfl, Or.inl rfl, Or.inr rfl, Or.inl rfl, Or.inr rfl, Or.inl rfl, Or.inl rfl, Or.inl rfl, trivial⟩ h
set_option maxRecDepth 100000 in
theorem bX7_common_17 {P : Int64 → St → Prop} {S : St} (x0 : Int64) (x2 : Int64) (x4 : Int64) (x6 : Int64) (h : (((lg_cmp x6 (0 : Int64)) = 0 → P x4 S) ∧ (¬ (lg_cmp x6 (0 : Int64)) = 0 → ¬ x6 = 0 ∧ wX7_common P 17 [.long x0, .retAddr 0, .long x2, .retAddr 0, .long x6, .retAddr 0, .long (x4 - x4 / x6 * x6), .retAddr 0, .retAddr 0, .retAddr 0] [] S))) : wX7_common P 17 [.long x0, .retAddr 0, .long x2, .retAddr 0, .long x4, .retAddr 0, .long x6, .retAddr 0, .retAddr 0, .retAddr 0] [] S := by
  refine wp_lload dX7_common_17 rfl ?_
  refine wp_lconst (v := (0 : Int64)) dX7_common_19 (by decide) ?_
  refine wp_lcmp dX7_common_20 ?_
  refine wp_if_eq (tgt := 42) dX7_common_21 (by decide) (fun c => ?_) (fun c => ?_)
  · have h := h.1 c
    refine wp_lload dX7_common_42 rfl ?_
    exact wp_lret dX7_common_44 rfl ⟨_, _, rfl, rfl, h⟩
  · have h := h.2 c
    refine wp_lload dX7_common_24 rfl ?_
    refine wp_lload dX7_common_26 rfl ?_
    obtain ⟨q1, h⟩ := h
    refine wp_lrem dX7_common_28 q1 ?_
    refine wp_lstore (Ms := [.long x0, .retAddr 0, .long x2, .retAddr 0, .long x4, .retAddr 0, .long x6, .retAddr 0, .long (x4 - x4 / x6 * x6), .retAddr 0]) dX7_common_29 (by decide) rfl ?_
    refine wp_lload dX7_common_31 rfl ?_
    refine wp_lstore (Ms := [.long x0, .retAddr 0, .long x2, .retAddr 0, .long x6, .retAddr 0, .long x6, .retAddr 0, .long (x4 - x4 / x6 * x6), .retAddr 0]) dX7_common_33 (by decide) rfl ?_
    refine wp_lload dX7_common_35 rfl ?_
    refine wp_lstore (Ms := [.long x0, .retAddr 0, .long x2, .retAddr 0, .long x6, .retAddr 0, .long (x4 - x4 / x6 * x6), .retAddr 0, .long (x4 - x4 / x6 * x6), .retAddr 0]) dX7_common_37 (by decide) rfl ?_
    refine wp_goto (tgt := 17) dX7_common_39 (by decide) ?_
    exact wp_le (Ms := [.long x0, .retAddr 0, .long x2, .retAddr 0, .long x6, .retAddr 0, .long (x4 - x4 / x6 * x6), .retAddr 0, .retAddr 0, .retAddr 0]) ⟨Or.inr rfl, Or.inl rfl, Or.inr rfl, Or.inl rfl, Or.inr rfl, Or.inl rfl, Or.inr rfl, Or.inl rfl, Or.inl rfl, Or.inl rfl, trivial⟩ h
abbrev rX7_told : Room := { frames := 1, cells := 0, slots := 0, locals := 29 }
abbrev wX7_told (P : Int64 → St → Prop) (pc : Nat) (Ls stk : List Value) (S : St) : Prop := Wp cX7_told RX7 6 rX7_told (wFL P) pc Ls stk (enc S)
abbrev tX7_told (a0 : Int64) (a1 : Int32) (S : St) (P : Int64 → St → Prop) : Prop := wX7_told P 0 (wl_en [.ref 47, .long a0, .int a1] 6) [] S
set_option maxRecDepth 100000 in
theorem bX7_told_0 {P : Int64 → St → Prop} {S : St} (a0 : Int64) (a1 : Int32) (h : tX7_common a0 (S.2.1 0) S (fun r2 S1 => ((¬ a1 = 0 → ¬ r2 = 0 ∧ P ((S1.2.1 0) / r2) S1) ∧ (a1 = 0 → ¬ r2 = 0 ∧ P (a0 / r2) S1)))) : tX7_told a0 a1 S P := by
  show wX7_told P 0 [.ref 47, .long a0, .retAddr 0, .int a1, .retAddr 0, .retAddr 0] [] S
  refine wp_lload_n dX7_told_0 rfl rfl ?_
  refine wp_aload_n dX7_told_1 rfl rfl ?_
  refine wp_get (q := 47) dX7_told_2 fX7_135 rfl rfl ?_
  refine wp_callS (As := [.long a0, .long (S.2.1 0)]) (rest := []) dX7_told_5 mX7_common lX7_149 (by decide) rfl rfl (Nat.le_of_ble_eq_true rfl) (Nat.le_of_ble_eq_true rfl) h ?_
  rintro rv mh2 ⟨r2, S1, rfl, rfl, h⟩
  refine wp_lstore (Ms := [.ref 47, .long a0, .retAddr 0, .int a1, .long r2, .retAddr 0]) dX7_told_8 (by decide) rfl ?_
  refine wp_iload_n dX7_told_10 rfl rfl ?_
  refine wp_if_ne (tgt := 21) dX7_told_11 (by decide) (fun c => ?_) (fun c => ?_)
  · have h := h.1 c
    refine wp_aload_n dX7_told_21 rfl rfl ?_
    refine wp_get (q := 47) dX7_told_22 fX7_135 rfl rfl ?_
    refine wp_lload dX7_told_25 rfl ?_
    obtain ⟨q3, h⟩ := h
    refine wp_ldiv dX7_told_27 q3 ?_
    exact wp_lret dX7_told_28 rfl ⟨_, _, rfl, rfl, h⟩
  · have h := h.2 c
    refine wp_lload_n dX7_told_14 rfl rfl ?_
    refine wp_lload dX7_told_15 rfl ?_
    obtain ⟨q4, h⟩ := h
    refine wp_ldiv dX7_told_17 q4 ?_
    refine wp_goto (tgt := 28) dX7_told_18 (by decide) ?_
    exact wp_lret dX7_told_28 rfl ⟨_, _, rfl, rfl, h⟩
abbrev rX7_worth : Room := { frames := 4, cells := 0, slots := 0, locals := 96 }
abbrev wX7_worth (P : Int64 → St → Prop) (pc : Nat) (Ls stk : List Value) (S : St) : Prop := Wp cX7_worth RX7 4 rX7_worth (wFL P) pc Ls stk (enc S)
abbrev tX7_worth (a0 : Int32) (a1 : Int32) (S : St) (P : Int64 → St → Prop) : Prop := wX7_worth P 0 (wl_en [.ref 47, .int a0, .int a1] 4) [] S
set_option maxRecDepth 100000 in
theorem bX7_worth_0 {P : Int64 → St → Prop} {S : St} (a0 : Int32) (a1 : Int32) (h : tX7_is a0 S (fun r2 S1 => ((¬ r2 = 0 → tX7_in a1.toInt64 (0 : Int64) (1 : Int64) S1 (fun r4 S3 => ((¬ r4 = 0 → tX7_findParts  S3 (fun S5 => vp_in a0 16 ∧ tX7_sizeOf ((S5.2.2.1 30) a0.toNatClampNeg) S5 (fun r8 S7 => ((¬ r8 = (1 : Int32) → tX7_solve ((S5.2.2.1 30) a0.toNatClampNeg) S7 (fun r10 S9 => ((r10 = 0 → P (-1003 : Int64) S9) ∧ (¬ r10 = 0 → tX7_told ((S9.2.2.2 15) a0.toNatClampNeg) a1 S9 (fun r12 S11 => P r12 S11))))) ∧ (r8 = (1 : Int32) → vp_in a0 8 ∧ ((0 ≤ ((S7.2.2.1 27) a0.toNatClampNeg) → ((¬ a1 = 0 → P (1 : Int64) S7) ∧ (a1 = 0 → P (((S7.2.2.1 27) a0.toNatClampNeg).toInt64) S7))) ∧ (¬ 0 ≤ ((S7.2.2.1 27) a0.toNatClampNeg) → P (-1003 : Int64) S7))))))) ∧ (r4 = 0 → P (-1002 : Int64) S3)))) ∧ (r2 = 0 → P (-1001 : Int64) S1)))) : tX7_worth a0 a1 S P := by
  show wX7_worth P 0 [.ref 47, .int a0, .int a1, .retAddr 0] [] S
  refine wp_aload_n dX7_worth_0 rfl rfl ?_
  refine wp_iload_n dX7_worth_1 rfl rfl ?_
  refine wp_callV (q := 47) (As := [.int a0]) (rest := []) dX7_worth_2 mX7_is lX7_69 (by decide) rfl rfl rfl rfl (Nat.le_of_ble_eq_true rfl) (Nat.le_of_ble_eq_true rfl) h ?_
  rintro rv mh2 ⟨r2, S1, rfl, rfl, h⟩
  refine wp_if_ne (tgt := 12) dX7_worth_5 (by decide) (fun c => ?_) (fun c => ?_)
  · have h := h.1 c
    refine wp_iload_n dX7_worth_12 rfl rfl ?_
    refine wp_i2l dX7_worth_13 ?_
    refine wp_lconst (v := (0 : Int64)) dX7_worth_14 (by decide) ?_
    refine wp_lconst (v := (1 : Int64)) dX7_worth_15 (by decide) ?_
    refine wp_callS (As := [.long a1.toInt64, .long (0 : Int64), .long (1 : Int64)]) (rest := []) dX7_worth_16 mX7_in lX7_61 (by decide) rfl rfl (Nat.le_of_ble_eq_true rfl) (Nat.le_of_ble_eq_true rfl) h ?_
    rintro rv mh2 ⟨r4, S3, rfl, rfl, h⟩
    refine wp_if_ne (tgt := 26) dX7_worth_19 (by decide) (fun c => ?_) (fun c => ?_)
    · have h := h.1 c
      refine wp_aload_n dX7_worth_26 rfl rfl ?_
      refine wp_callV (q := 47) (As := []) (rest := []) dX7_worth_27 mX7_findParts lX7_116 (by decide) rfl rfl rfl rfl (Nat.le_of_ble_eq_true rfl) (Nat.le_of_ble_eq_true rfl) h ?_
      rintro rv mh2 ⟨S5, rfl, rfl, h⟩
      refine wp_aload_n dX7_worth_30 rfl rfl ?_
      refine wp_get (q := 47) dX7_worth_31 fX7_33 rfl rfl ?_
      refine wp_iload_n dX7_worth_34 rfl rfl ?_
      obtain ⟨q6, h⟩ := h
      refine wp_iald2 (q := 54) (j := a0.toNatClampNeg) dX7_worth_35 rfl q6 rfl ?_
      refine wp_istore_n (Ms := [.ref 47, .int a0, .int a1, .int ((S5.2.2.1 30) a0.toNatClampNeg)]) dX7_worth_36 rfl (by decide) rfl ?_
      refine wp_aload_n dX7_worth_37 rfl rfl ?_
      refine wp_iload_n dX7_worth_38 rfl rfl ?_
      refine wp_callV (q := 47) (As := [.int ((S5.2.2.1 30) a0.toNatClampNeg)]) (rest := []) dX7_worth_39 mX7_sizeOf lX7_113 (by decide) rfl rfl rfl rfl (Nat.le_of_ble_eq_true rfl) (Nat.le_of_ble_eq_true rfl) h ?_
      rintro rv mh2 ⟨r8, S7, rfl, rfl, h⟩
      refine wp_iconst (v := (1 : Int32)) dX7_worth_42 (by decide) ?_
      refine wp_icmp_ne (tgt := 77) dX7_worth_43 (by decide) (fun c => ?_) (fun c => ?_)
      · have h := h.1 c
        refine wp_aload_n dX7_worth_77 rfl rfl ?_
        refine wp_iload_n dX7_worth_78 rfl rfl ?_
        refine wp_callV (q := 47) (As := [.int ((S5.2.2.1 30) a0.toNatClampNeg)]) (rest := []) dX7_worth_79 mX7_solve lX7_159 (by decide) rfl rfl rfl rfl (Nat.le_of_ble_eq_true rfl) (Nat.le_of_ble_eq_true rfl) h ?_
        rintro rv mh2 ⟨r10, S9, rfl, rfl, h⟩
        refine wp_if_eq (tgt := 99) dX7_worth_82 (by decide) (fun c => ?_) (fun c => ?_)
        · have h := h.1 c
          refine wp_ldc2 dX7_worth_99 kX7_157 ?_
          exact wp_lret dX7_worth_102 rfl ⟨_, _, rfl, rfl, h⟩
        · have h := h.2 c
          refine wp_aload_n dX7_worth_85 rfl rfl ?_
          refine wp_aload_n dX7_worth_86 rfl rfl ?_
          refine wp_get (q := 47) dX7_worth_87 fX7_43 rfl rfl ?_
          refine wp_iload_n dX7_worth_90 rfl rfl ?_
          refine wp_lald2 (q := 57) (j := a0.toNatClampNeg) dX7_worth_91 rfl q6 rfl ?_
          refine wp_iload_n dX7_worth_92 rfl rfl ?_
          refine wp_callV (q := 47) (As := [.long ((S9.2.2.2 15) a0.toNatClampNeg), .int a1]) (rest := []) dX7_worth_93 mX7_told lX7_162 (by decide) rfl rfl rfl rfl (Nat.le_of_ble_eq_true rfl) (Nat.le_of_ble_eq_true rfl) h ?_
          rintro rv mh2 ⟨r12, S11, rfl, rfl, h⟩
          refine wp_goto (tgt := 102) dX7_worth_96 (by decide) ?_
          exact wp_lret dX7_worth_102 rfl ⟨_, _, rfl, rfl, h⟩
      · have h := h.2 c
        refine wp_aload_n dX7_worth_46 rfl rfl ?_
        refine wp_get (q := 47) dX7_worth_47 fX7_24 rfl rfl ?_
        refine wp_iload_n dX7_worth_50 rfl rfl ?_
        obtain ⟨q13, h⟩ := h
        refine wp_iald2 (q := 51) (j := a0.toNatClampNeg) dX7_worth_51 rfl q13 rfl ?_
        refine wp_if_ge (tgt := 61) dX7_worth_52 (by decide) (fun c => ?_) (fun c => ?_)
        · have h := h.1 c
          refine wp_iload_n dX7_worth_61 rfl rfl ?_
          refine wp_if_ne (tgt := 75) dX7_worth_62 (by decide) (fun c => ?_) (fun c => ?_)
          · have h := h.1 c
            refine wp_lconst (v := (1 : Int64)) dX7_worth_75 (by decide) ?_
            exact wp_lret dX7_worth_76 rfl ⟨_, _, rfl, rfl, h⟩
          · have h := h.2 c
            refine wp_aload_n dX7_worth_65 rfl rfl ?_
            refine wp_get (q := 47) dX7_worth_66 fX7_24 rfl rfl ?_
            refine wp_iload_n dX7_worth_69 rfl rfl ?_
            refine wp_iald2 (q := 51) (j := a0.toNatClampNeg) dX7_worth_70 rfl q13 rfl ?_
            refine wp_i2l dX7_worth_71 ?_
            refine wp_goto (tgt := 76) dX7_worth_72 (by decide) ?_
            exact wp_lret dX7_worth_76 rfl ⟨_, _, rfl, rfl, h⟩
        · have h := h.2 c
          refine wp_ldc2 dX7_worth_55 kX7_157 ?_
          refine wp_goto (tgt := 76) dX7_worth_58 (by decide) ?_
          exact wp_lret dX7_worth_76 rfl ⟨_, _, rfl, rfl, h⟩
    · have h := h.2 c
      refine wp_ldc2 dX7_worth_22 kX7_155 ?_
      exact wp_lret dX7_worth_25 rfl ⟨_, _, rfl, rfl, h⟩
  · have h := h.2 c
    refine wp_ldc2 dX7_worth_8 kX7_153 ?_
    exact wp_lret dX7_worth_11 rfl ⟨_, _, rfl, rfl, h⟩
abbrev rX7_lean : Room := { frames := 4, cells := 0, slots := 0, locals := 96 }
abbrev wX7_lean (P : Int64 → St → Prop) (pc : Nat) (Ls stk : List Value) (S : St) : Prop := Wp cX7_lean RX7 4 rX7_lean (wFL P) pc Ls stk (enc S)
abbrev tX7_lean (a0 : Int32) (a1 : Int32) (S : St) (P : Int64 → St → Prop) : Prop := wX7_lean P 0 (wl_en [.ref 47, .int a0, .int a1] 4) [] S
set_option maxRecDepth 100000 in
theorem bX7_lean_0 {P : Int64 → St → Prop} {S : St} (a0 : Int32) (a1 : Int32) (h : tX7_is a0 S (fun r2 S1 => ((¬ r2 = 0 → tX7_in a1.toInt64 (0 : Int64) (1 : Int64) S1 (fun r4 S3 => ((¬ r4 = 0 → tX7_findParts  S3 (fun S5 => vp_in ((8 : Int32) + a0) 16 ∧ tX7_sizeOf ((S5.2.2.1 30) ((8 : Int32) + a0).toNatClampNeg) S5 (fun r8 S7 => ((r8 ≤ (1 : Int32) → P (-1003 : Int64) S7) ∧ (¬ r8 ≤ (1 : Int32) → tX7_solve ((S5.2.2.1 30) ((8 : Int32) + a0).toNatClampNeg) S7 (fun r10 S9 => ((r10 = 0 → P (-1003 : Int64) S9) ∧ (¬ r10 = 0 → tX7_told ((S9.2.2.2 15) ((8 : Int32) + a0).toNatClampNeg) a1 S9 (fun r12 S11 => P r12 S11))))))))) ∧ (r4 = 0 → P (-1002 : Int64) S3)))) ∧ (r2 = 0 → P (-1001 : Int64) S1)))) : tX7_lean a0 a1 S P := by
  show wX7_lean P 0 [.ref 47, .int a0, .int a1, .retAddr 0] [] S
  refine wp_aload_n dX7_lean_0 rfl rfl ?_
  refine wp_iload_n dX7_lean_1 rfl rfl ?_
  refine wp_callV (q := 47) (As := [.int a0]) (rest := []) dX7_lean_2 mX7_is lX7_69 (by decide) rfl rfl rfl rfl (Nat.le_of_ble_eq_true rfl) (Nat.le_of_ble_eq_true rfl) h ?_
  rintro rv mh2 ⟨r2, S1, rfl, rfl, h⟩
  refine wp_if_ne (tgt := 12) dX7_lean_5 (by decide) (fun c => ?_) (fun c => ?_)
  · have h := h.1 c
    refine wp_iload_n dX7_lean_12 rfl rfl ?_
    refine wp_i2l dX7_lean_13 ?_
    refine wp_lconst (v := (0 : Int64)) dX7_lean_14 (by decide) ?_
    refine wp_lconst (v := (1 : Int64)) dX7_lean_15 (by decide) ?_
    refine wp_callS (As := [.long a1.toInt64, .long (0 : Int64), .long (1 : Int64)]) (rest := []) dX7_lean_16 mX7_in lX7_61 (by decide) rfl rfl (Nat.le_of_ble_eq_true rfl) (Nat.le_of_ble_eq_true rfl) h ?_
    rintro rv mh2 ⟨r4, S3, rfl, rfl, h⟩
    refine wp_if_ne (tgt := 26) dX7_lean_19 (by decide) (fun c => ?_) (fun c => ?_)
    · have h := h.1 c
      refine wp_aload_n dX7_lean_26 rfl rfl ?_
      refine wp_callV (q := 47) (As := []) (rest := []) dX7_lean_27 mX7_findParts lX7_116 (by decide) rfl rfl rfl rfl (Nat.le_of_ble_eq_true rfl) (Nat.le_of_ble_eq_true rfl) h ?_
      rintro rv mh2 ⟨S5, rfl, rfl, h⟩
      refine wp_aload_n dX7_lean_30 rfl rfl ?_
      refine wp_get (q := 47) dX7_lean_31 fX7_33 rfl rfl ?_
      refine wp_bipush (v := (8 : Int32)) dX7_lean_34 (by decide) ?_
      refine wp_iload_n dX7_lean_36 rfl rfl ?_
      refine wp_iadd dX7_lean_37 ?_
      obtain ⟨q6, h⟩ := h
      refine wp_iald2 (q := 54) (j := ((8 : Int32) + a0).toNatClampNeg) dX7_lean_38 rfl q6 rfl ?_
      refine wp_istore_n (Ms := [.ref 47, .int a0, .int a1, .int ((S5.2.2.1 30) ((8 : Int32) + a0).toNatClampNeg)]) dX7_lean_39 rfl (by decide) rfl ?_
      refine wp_aload_n dX7_lean_40 rfl rfl ?_
      refine wp_iload_n dX7_lean_41 rfl rfl ?_
      refine wp_callV (q := 47) (As := [.int ((S5.2.2.1 30) ((8 : Int32) + a0).toNatClampNeg)]) (rest := []) dX7_lean_42 mX7_sizeOf lX7_113 (by decide) rfl rfl rfl rfl (Nat.le_of_ble_eq_true rfl) (Nat.le_of_ble_eq_true rfl) h ?_
      rintro rv mh2 ⟨r8, S7, rfl, rfl, h⟩
      refine wp_iconst (v := (1 : Int32)) dX7_lean_45 (by decide) ?_
      refine wp_icmp_le (tgt := 74) dX7_lean_46 (by decide) (fun c => ?_) (fun c => ?_)
      · have h := h.1 c
        refine wp_ldc2 dX7_lean_74 kX7_157 ?_
        exact wp_lret dX7_lean_77 rfl ⟨_, _, rfl, rfl, h⟩
      · have h := h.2 c
        refine wp_aload_n dX7_lean_49 rfl rfl ?_
        refine wp_iload_n dX7_lean_50 rfl rfl ?_
        refine wp_callV (q := 47) (As := [.int ((S5.2.2.1 30) ((8 : Int32) + a0).toNatClampNeg)]) (rest := []) dX7_lean_51 mX7_solve lX7_159 (by decide) rfl rfl rfl rfl (Nat.le_of_ble_eq_true rfl) (Nat.le_of_ble_eq_true rfl) h ?_
        rintro rv mh2 ⟨r10, S9, rfl, rfl, h⟩
        refine wp_if_eq (tgt := 74) dX7_lean_54 (by decide) (fun c => ?_) (fun c => ?_)
        · have h := h.1 c
          refine wp_ldc2 dX7_lean_74 kX7_157 ?_
          exact wp_lret dX7_lean_77 rfl ⟨_, _, rfl, rfl, h⟩
        · have h := h.2 c
          refine wp_aload_n dX7_lean_57 rfl rfl ?_
          refine wp_aload_n dX7_lean_58 rfl rfl ?_
          refine wp_get (q := 47) dX7_lean_59 fX7_43 rfl rfl ?_
          refine wp_bipush (v := (8 : Int32)) dX7_lean_62 (by decide) ?_
          refine wp_iload_n dX7_lean_64 rfl rfl ?_
          refine wp_iadd dX7_lean_65 ?_
          refine wp_lald2 (q := 57) (j := ((8 : Int32) + a0).toNatClampNeg) dX7_lean_66 rfl q6 rfl ?_
          refine wp_iload_n dX7_lean_67 rfl rfl ?_
          refine wp_callV (q := 47) (As := [.long ((S9.2.2.2 15) ((8 : Int32) + a0).toNatClampNeg), .int a1]) (rest := []) dX7_lean_68 mX7_told lX7_162 (by decide) rfl rfl rfl rfl (Nat.le_of_ble_eq_true rfl) (Nat.le_of_ble_eq_true rfl) h ?_
          rintro rv mh2 ⟨r12, S11, rfl, rfl, h⟩
          refine wp_goto (tgt := 77) dX7_lean_71 (by decide) ?_
          exact wp_lret dX7_lean_77 rfl ⟨_, _, rfl, rfl, h⟩
    · have h := h.2 c
      refine wp_ldc2 dX7_lean_22 kX7_155 ?_
      exact wp_lret dX7_lean_25 rfl ⟨_, _, rfl, rfl, h⟩
  · have h := h.2 c
    refine wp_ldc2 dX7_lean_8 kX7_153 ?_
    exact wp_lret dX7_lean_11 rfl ⟨_, _, rfl, rfl, h⟩
abbrev rX7_left : Room := { frames := 4, cells := 0, slots := 0, locals := 96 }
abbrev wX7_left (P : Int64 → St → Prop) (pc : Nat) (Ls stk : List Value) (S : St) : Prop := Wp cX7_left RX7 5 rX7_left (wFL P) pc Ls stk (enc S)
abbrev tX7_left (a0 : Int32) (a1 : Int32) (a2 : Int32) (S : St) (P : Int64 → St → Prop) : Prop := wX7_left P 0 (wl_en [.ref 47, .int a0, .int a1, .int a2] 5) [] S
set_option maxRecDepth 100000 in
theorem bX7_left_0 {P : Int64 → St → Prop} {S : St} (a0 : Int32) (a1 : Int32) (a2 : Int32) (h : tX7_is a0 S (fun r2 S1 => ((r2 = 0 → P (-1001 : Int64) S1) ∧ (¬ r2 = 0 → tX7_is a1 S1 (fun r4 S3 => ((¬ r4 = 0 → tX7_in a2.toInt64 (0 : Int64) (1 : Int64) S3 (fun r6 S5 => ((¬ r6 = 0 → vp_in (((8 : Int32) * a0) + a1) 64 ∧ tX7_findParts  S5 (fun S8 => ((((S5.2.2.1 26) (((8 : Int32) * a0) + a1).toNatClampNeg) < 0 → P (-1003 : Int64) S8) ∧ (¬ ((S5.2.2.1 26) (((8 : Int32) * a0) + a1).toNatClampNeg) < 0 → vp_in a1 16 ∧ tX7_solve ((S8.2.2.1 30) a1.toNatClampNeg) S8 (fun r11 S10 => ((r11 = 0 → P (-1003 : Int64) S10) ∧ (¬ r11 = 0 → vp_in ((8 : Int32) + a0) 16 ∧ tX7_told ((((((S5.2.2.1 26) (((8 : Int32) * a0) + a1).toNatClampNeg).toInt64) * (S10.2.1 0)) - ((S10.2.2.2 15) a1.toNatClampNeg)) - ((S10.2.2.2 15) ((8 : Int32) + a0).toNatClampNeg)) a2 S10 (fun r14 S13 => P r14 S13)))))))) ∧ (r6 = 0 → P (-1002 : Int64) S5)))) ∧ (r4 = 0 → P (-1001 : Int64) S3))))))) : tX7_left a0 a1 a2 S P := by
  show wX7_left P 0 [.ref 47, .int a0, .int a1, .int a2, .retAddr 0] [] S
  refine wp_aload_n dX7_left_0 rfl rfl ?_
  refine wp_iload_n dX7_left_1 rfl rfl ?_
  refine wp_callV (q := 47) (As := [.int a0]) (rest := []) dX7_left_2 mX7_is lX7_69 (by decide) rfl rfl rfl rfl (Nat.le_of_ble_eq_true rfl) (Nat.le_of_ble_eq_true rfl) h ?_
  rintro rv mh2 ⟨r2, S1, rfl, rfl, h⟩
  refine wp_if_eq (tgt := 16) dX7_left_5 (by decide) (fun c => ?_) (fun c => ?_)
  · have h := h.1 c
    refine wp_ldc2 dX7_left_16 kX7_153 ?_
    exact wp_lret dX7_left_19 rfl ⟨_, _, rfl, rfl, h⟩
  · have h := h.2 c
    refine wp_aload_n dX7_left_8 rfl rfl ?_
    refine wp_iload_n dX7_left_9 rfl rfl ?_
    refine wp_callV (q := 47) (As := [.int a1]) (rest := []) dX7_left_10 mX7_is lX7_69 (by decide) rfl rfl rfl rfl (Nat.le_of_ble_eq_true rfl) (Nat.le_of_ble_eq_true rfl) h ?_
    rintro rv mh2 ⟨r4, S3, rfl, rfl, h⟩
    refine wp_if_ne (tgt := 20) dX7_left_13 (by decide) (fun c => ?_) (fun c => ?_)
    · have h := h.1 c
      refine wp_iload_n dX7_left_20 rfl rfl ?_
      refine wp_i2l dX7_left_21 ?_
      refine wp_lconst (v := (0 : Int64)) dX7_left_22 (by decide) ?_
      refine wp_lconst (v := (1 : Int64)) dX7_left_23 (by decide) ?_
      refine wp_callS (As := [.long a2.toInt64, .long (0 : Int64), .long (1 : Int64)]) (rest := []) dX7_left_24 mX7_in lX7_61 (by decide) rfl rfl (Nat.le_of_ble_eq_true rfl) (Nat.le_of_ble_eq_true rfl) h ?_
      rintro rv mh2 ⟨r6, S5, rfl, rfl, h⟩
      refine wp_if_ne (tgt := 34) dX7_left_27 (by decide) (fun c => ?_) (fun c => ?_)
      · have h := h.1 c
        refine wp_aload_n dX7_left_34 rfl rfl ?_
        refine wp_get (q := 47) dX7_left_35 fX7_21 rfl rfl ?_
        refine wp_bipush (v := (8 : Int32)) dX7_left_38 (by decide) ?_
        refine wp_iload_n dX7_left_40 rfl rfl ?_
        refine wp_imul dX7_left_41 ?_
        refine wp_iload_n dX7_left_42 rfl rfl ?_
        refine wp_iadd dX7_left_43 ?_
        obtain ⟨q7, h⟩ := h
        refine wp_iald2 (q := 50) (j := (((8 : Int32) * a0) + a1).toNatClampNeg) dX7_left_44 rfl q7 rfl ?_
        refine wp_istore (Ms := [.ref 47, .int a0, .int a1, .int a2, .int ((S5.2.2.1 26) (((8 : Int32) * a0) + a1).toNatClampNeg)]) dX7_left_45 (by decide) rfl ?_
        refine wp_aload_n dX7_left_47 rfl rfl ?_
        refine wp_callV (q := 47) (As := []) (rest := []) dX7_left_48 mX7_findParts lX7_116 (by decide) rfl rfl rfl rfl (Nat.le_of_ble_eq_true rfl) (Nat.le_of_ble_eq_true rfl) h ?_
        rintro rv mh2 ⟨S8, rfl, rfl, h⟩
        refine wp_iload dX7_left_51 rfl ?_
        refine wp_if_lt (tgt := 102) dX7_left_53 (by decide) (fun c => ?_) (fun c => ?_)
        · have h := h.1 c
          refine wp_ldc2 dX7_left_102 kX7_157 ?_
          exact wp_lret dX7_left_105 rfl ⟨_, _, rfl, rfl, h⟩
        · have h := h.2 c
          refine wp_aload_n dX7_left_56 rfl rfl ?_
          refine wp_aload_n dX7_left_57 rfl rfl ?_
          refine wp_get (q := 47) dX7_left_58 fX7_33 rfl rfl ?_
          refine wp_iload_n dX7_left_61 rfl rfl ?_
          obtain ⟨q9, h⟩ := h
          refine wp_iald2 (q := 54) (j := a1.toNatClampNeg) dX7_left_62 rfl q9 rfl ?_
          refine wp_callV (q := 47) (As := [.int ((S8.2.2.1 30) a1.toNatClampNeg)]) (rest := []) dX7_left_63 mX7_solve lX7_159 (by decide) rfl rfl rfl rfl (Nat.le_of_ble_eq_true rfl) (Nat.le_of_ble_eq_true rfl) h ?_
          rintro rv mh2 ⟨r11, S10, rfl, rfl, h⟩
          refine wp_if_eq (tgt := 102) dX7_left_66 (by decide) (fun c => ?_) (fun c => ?_)
          · have h := h.1 c
            refine wp_ldc2 dX7_left_102 kX7_157 ?_
            exact wp_lret dX7_left_105 rfl ⟨_, _, rfl, rfl, h⟩
          · have h := h.2 c
            refine wp_aload_n dX7_left_69 rfl rfl ?_
            refine wp_iload dX7_left_70 rfl ?_
            refine wp_i2l dX7_left_72 ?_
            refine wp_aload_n dX7_left_73 rfl rfl ?_
            refine wp_get (q := 47) dX7_left_74 fX7_135 rfl rfl ?_
            refine wp_lmul dX7_left_77 ?_
            refine wp_aload_n dX7_left_78 rfl rfl ?_
            refine wp_get (q := 47) dX7_left_79 fX7_43 rfl rfl ?_
            refine wp_iload_n dX7_left_82 rfl rfl ?_
            refine wp_lald2 (q := 57) (j := a1.toNatClampNeg) dX7_left_83 rfl q9 rfl ?_
            refine wp_lsub dX7_left_84 ?_
            refine wp_aload_n dX7_left_85 rfl rfl ?_
            refine wp_get (q := 47) dX7_left_86 fX7_43 rfl rfl ?_
            refine wp_bipush (v := (8 : Int32)) dX7_left_89 (by decide) ?_
            refine wp_iload_n dX7_left_91 rfl rfl ?_
            refine wp_iadd dX7_left_92 ?_
            obtain ⟨q12, h⟩ := h
            refine wp_lald2 (q := 57) (j := ((8 : Int32) + a0).toNatClampNeg) dX7_left_93 rfl q12 rfl ?_
            refine wp_lsub dX7_left_94 ?_
            refine wp_iload_n dX7_left_95 rfl rfl ?_
            refine wp_callV (q := 47) (As := [.long ((((((S5.2.2.1 26) (((8 : Int32) * a0) + a1).toNatClampNeg).toInt64) * (S10.2.1 0)) - ((S10.2.2.2 15) a1.toNatClampNeg)) - ((S10.2.2.2 15) ((8 : Int32) + a0).toNatClampNeg)), .int a2]) (rest := []) dX7_left_96 mX7_told lX7_162 (by decide) rfl rfl rfl rfl (Nat.le_of_ble_eq_true rfl) (Nat.le_of_ble_eq_true rfl) h ?_
            rintro rv mh2 ⟨r14, S13, rfl, rfl, h⟩
            refine wp_goto (tgt := 105) dX7_left_99 (by decide) ?_
            exact wp_lret dX7_left_105 rfl ⟨_, _, rfl, rfl, h⟩
      · have h := h.2 c
        refine wp_ldc2 dX7_left_30 kX7_155 ?_
        exact wp_lret dX7_left_33 rfl ⟨_, _, rfl, rfl, h⟩
    · have h := h.2 c
      refine wp_ldc2 dX7_left_16 kX7_153 ?_
      exact wp_lret dX7_left_19 rfl ⟨_, _, rfl, rfl, h⟩
abbrev rX7_turns : Room := { frames := 0, cells := 0, slots := 0, locals := 0 }
abbrev wX7_turns (P : Int32 → St → Prop) (pc : Nat) (Ls stk : List Value) (S : St) : Prop := Wp cX7_turns RX7 4 rX7_turns (wFI .boolean P) pc Ls stk (enc S)
abbrev tX7_turns (a0 : Int32) (a1 : Int32) (a2 : Int32) (S : St) (P : Int32 → St → Prop) : Prop := wX7_turns P 0 (wl_en [.ref 47, .int a0, .int a1, .int a2] 4) [] S
set_option maxRecDepth 100000 in
theorem bX7_turns_0 {P : Int32 → St → Prop} {S : St} (a0 : Int32) (a1 : Int32) (a2 : Int32) (h : vp_in (((8 : Int32) * a0) + a1) 64 ∧ ((((S.2.2.1 26) (((8 : Int32) * a0) + a1).toNatClampNeg) < 0 → P (0 : Int32) S) ∧ (¬ ((S.2.2.1 26) (((8 : Int32) * a0) + a1).toNatClampNeg) < 0 → vp_in (((8 : Int32) * a0) + a2) 64 ∧ ((((S.2.2.1 26) (((8 : Int32) * a0) + a2).toNatClampNeg) < 0 → P (0 : Int32) S) ∧ (¬ ((S.2.2.1 26) (((8 : Int32) * a0) + a2).toNatClampNeg) < 0 → ((((S.2.2.1 26) (((8 : Int32) * a0) + a2).toNatClampNeg) ≤ ((S.2.2.1 26) (((8 : Int32) * a0) + a1).toNatClampNeg) → P (0 : Int32) S) ∧ (¬ ((S.2.2.1 26) (((8 : Int32) * a0) + a2).toNatClampNeg) ≤ ((S.2.2.1 26) (((8 : Int32) * a0) + a1).toNatClampNeg) → P (1 : Int32) S))))))) : tX7_turns a0 a1 a2 S P := by
  show wX7_turns P 0 [.ref 47, .int a0, .int a1, .int a2] [] S
  refine wp_aload_n dX7_turns_0 rfl rfl ?_
  refine wp_get (q := 47) dX7_turns_1 fX7_21 rfl rfl ?_
  refine wp_bipush (v := (8 : Int32)) dX7_turns_4 (by decide) ?_
  refine wp_iload_n dX7_turns_6 rfl rfl ?_
  refine wp_imul dX7_turns_7 ?_
  refine wp_iload_n dX7_turns_8 rfl rfl ?_
  refine wp_iadd dX7_turns_9 ?_
  obtain ⟨q1, h⟩ := h
  refine wp_iald2 (q := 50) (j := (((8 : Int32) * a0) + a1).toNatClampNeg) dX7_turns_10 rfl q1 rfl ?_
  refine wp_if_lt (tgt := 57) dX7_turns_11 (by decide) (fun c => ?_) (fun c => ?_)
  · have h := h.1 c
    refine wp_iconst (v := (0 : Int32)) dX7_turns_57 (by decide) ?_
    exact wp_iret dX7_turns_58 rfl rfl ⟨_, _, rfl, rfl, h⟩
  · have h := h.2 c
    refine wp_aload_n dX7_turns_14 rfl rfl ?_
    refine wp_get (q := 47) dX7_turns_15 fX7_21 rfl rfl ?_
    refine wp_bipush (v := (8 : Int32)) dX7_turns_18 (by decide) ?_
    refine wp_iload_n dX7_turns_20 rfl rfl ?_
    refine wp_imul dX7_turns_21 ?_
    refine wp_iload_n dX7_turns_22 rfl rfl ?_
    refine wp_iadd dX7_turns_23 ?_
    obtain ⟨q2, h⟩ := h
    refine wp_iald2 (q := 50) (j := (((8 : Int32) * a0) + a2).toNatClampNeg) dX7_turns_24 rfl q2 rfl ?_
    refine wp_if_lt (tgt := 57) dX7_turns_25 (by decide) (fun c => ?_) (fun c => ?_)
    · have h := h.1 c
      refine wp_iconst (v := (0 : Int32)) dX7_turns_57 (by decide) ?_
      exact wp_iret dX7_turns_58 rfl rfl ⟨_, _, rfl, rfl, h⟩
    · have h := h.2 c
      refine wp_aload_n dX7_turns_28 rfl rfl ?_
      refine wp_get (q := 47) dX7_turns_29 fX7_21 rfl rfl ?_
      refine wp_bipush (v := (8 : Int32)) dX7_turns_32 (by decide) ?_
      refine wp_iload_n dX7_turns_34 rfl rfl ?_
      refine wp_imul dX7_turns_35 ?_
      refine wp_iload_n dX7_turns_36 rfl rfl ?_
      refine wp_iadd dX7_turns_37 ?_
      refine wp_iald2 (q := 50) (j := (((8 : Int32) * a0) + a1).toNatClampNeg) dX7_turns_38 rfl q1 rfl ?_
      refine wp_aload_n dX7_turns_39 rfl rfl ?_
      refine wp_get (q := 47) dX7_turns_40 fX7_21 rfl rfl ?_
      refine wp_bipush (v := (8 : Int32)) dX7_turns_43 (by decide) ?_
      refine wp_iload_n dX7_turns_45 rfl rfl ?_
      refine wp_imul dX7_turns_46 ?_
      refine wp_iload_n dX7_turns_47 rfl rfl ?_
      refine wp_iadd dX7_turns_48 ?_
      refine wp_iald2 (q := 50) (j := (((8 : Int32) * a0) + a2).toNatClampNeg) dX7_turns_49 rfl q2 rfl ?_
      refine wp_icmp_ge (tgt := 57) dX7_turns_50 (by decide) (fun c => ?_) (fun c => ?_)
      · have h := h.1 c
        refine wp_iconst (v := (0 : Int32)) dX7_turns_57 (by decide) ?_
        exact wp_iret dX7_turns_58 rfl rfl ⟨_, _, rfl, rfl, h⟩
      · have h := h.2 c
        refine wp_iconst (v := (1 : Int32)) dX7_turns_53 (by decide) ?_
        refine wp_goto (tgt := 58) dX7_turns_54 (by decide) ?_
        exact wp_iret dX7_turns_58 rfl rfl ⟨_, _, rfl, rfl, h⟩
abbrev rX7_cost : Room := { frames := 0, cells := 0, slots := 0, locals := 0 }
abbrev wX7_cost (P : Int32 → St → Prop) (pc : Nat) (Ls stk : List Value) (S : St) : Prop := Wp cX7_cost RX7 5 rX7_cost (wFI .int P) pc Ls stk (enc S)
abbrev tX7_cost (a0 : Int32) (a1 : Int32) (S : St) (P : Int32 → St → Prop) : Prop := wX7_cost P 0 (wl_en [.ref 47, .int a0, .int a1] 5) [] S
set_option maxRecDepth 100000 in
theorem bX7_cost_0 {P : Int32 → St → Prop} {S : St} (a0 : Int32) (a1 : Int32) (h : wX7_cost P 5 [.ref 47, .int a0, .int a1, .int (0 : Int32), .int (0 : Int32)] [] S) : tX7_cost a0 a1 S P := by
  show wX7_cost P 0 [.ref 47, .int a0, .int a1, .retAddr 0, .retAddr 0] [] S
  refine wp_iconst (v := (0 : Int32)) dX7_cost_0 (by decide) ?_
  refine wp_istore_n (Ms := [.ref 47, .int a0, .int a1, .int (0 : Int32), .retAddr 0]) dX7_cost_1 rfl (by decide) rfl ?_
  refine wp_iconst (v := (0 : Int32)) dX7_cost_2 (by decide) ?_
  refine wp_istore (Ms := [.ref 47, .int a0, .int a1, .int (0 : Int32), .int (0 : Int32)]) dX7_cost_3 (by decide) rfl ?_
  exact wp_le (Ms := [.ref 47, .int a0, .int a1, .int (0 : Int32), .int (0 : Int32)]) ⟨Or.inr rfl, Or.inr rfl, Or.inr rfl, Or.inr rfl, Or.inr rfl, trivial⟩ h
set_option maxRecDepth 100000 in
theorem bX7_cost_5 {P : Int32 → St → Prop} {S : St} (x1 : Int32) (x2 : Int32) (x3 : Int32) (x4 : Int32) (h : (((S.1 8) ≤ x4 → vp_in x2 256 ∧ P (x3 + ((S.2.2.1 33) x2.toNatClampNeg)) S) ∧ (¬ (S.1 8) ≤ x4 → ((¬ ((x2 >>> (x4 &&& (31 : Int32))) &&& (1 : Int32)) = (1 : Int32) → wX7_cost P 5 [.ref 47, .int x1, .int x2, .int (x3 + (0 : Int32)), .int (x4 + (1 : Int32))] [] S) ∧ (((x2 >>> (x4 &&& (31 : Int32))) &&& (1 : Int32)) = (1 : Int32) → vp_in (((8 : Int32) * x1) + x4) 64 ∧ wX7_cost P 5 [.ref 47, .int x1, .int x2, .int (x3 + ((S.2.2.1 32) (((8 : Int32) * x1) + x4).toNatClampNeg)), .int (x4 + (1 : Int32))] [] S))))) : wX7_cost P 5 [.ref 47, .int x1, .int x2, .int x3, .int x4] [] S := by
  refine wp_iload dX7_cost_5 rfl ?_
  refine wp_aload_n dX7_cost_7 rfl rfl ?_
  refine wp_get (q := 47) dX7_cost_8 fX7_7 rfl rfl ?_
  refine wp_icmp_ge (tgt := 49) dX7_cost_11 (by decide) (fun c => ?_) (fun c => ?_)
  · have h := h.1 c
    refine wp_iload_n dX7_cost_49 rfl rfl ?_
    refine wp_aload_n dX7_cost_50 rfl rfl ?_
    refine wp_get (q := 47) dX7_cost_51 fX7_49 rfl rfl ?_
    refine wp_iload_n dX7_cost_54 rfl rfl ?_
    obtain ⟨q1, h⟩ := h
    refine wp_iald2 (q := 59) (j := x2.toNatClampNeg) dX7_cost_55 rfl q1 rfl ?_
    refine wp_iadd dX7_cost_56 ?_
    exact wp_iret dX7_cost_57 rfl rfl ⟨_, _, rfl, rfl, h⟩
  · have h := h.2 c
    refine wp_iload_n dX7_cost_14 rfl rfl ?_
    refine wp_iload_n dX7_cost_15 rfl rfl ?_
    refine wp_iload dX7_cost_16 rfl ?_
    refine wp_ishr dX7_cost_18 ?_
    refine wp_iconst (v := (1 : Int32)) dX7_cost_19 (by decide) ?_
    refine wp_iand dX7_cost_20 ?_
    refine wp_iconst (v := (1 : Int32)) dX7_cost_21 (by decide) ?_
    refine wp_icmp_ne (tgt := 40) dX7_cost_22 (by decide) (fun c => ?_) (fun c => ?_)
    · have h := h.1 c
      refine wp_iconst (v := (0 : Int32)) dX7_cost_40 (by decide) ?_
      refine wp_iadd dX7_cost_41 ?_
      refine wp_istore_n (Ms := [.ref 47, .int x1, .int x2, .int (x3 + (0 : Int32)), .int x4]) dX7_cost_42 rfl (by decide) rfl ?_
      refine wp_iinc (Ms := [.ref 47, .int x1, .int x2, .int (x3 + (0 : Int32)), .int (x4 + (1 : Int32))]) (v := x4 + (1 : Int32)) dX7_cost_43 rfl rfl (by decide) rfl ?_
      refine wp_goto (tgt := 5) dX7_cost_46 (by decide) ?_
      exact wp_le (Ms := [.ref 47, .int x1, .int x2, .int (x3 + (0 : Int32)), .int (x4 + (1 : Int32))]) ⟨Or.inr rfl, Or.inr rfl, Or.inr rfl, Or.inr rfl, Or.inr rfl, trivial⟩ h
    · have h := h.2 c
      refine wp_aload_n dX7_cost_25 rfl rfl ?_
      refine wp_get (q := 47) dX7_cost_26 fX7_46 rfl rfl ?_
      refine wp_bipush (v := (8 : Int32)) dX7_cost_29 (by decide) ?_
      refine wp_iload_n dX7_cost_31 rfl rfl ?_
      refine wp_imul dX7_cost_32 ?_
      refine wp_iload dX7_cost_33 rfl ?_
      refine wp_iadd dX7_cost_35 ?_
      obtain ⟨q2, h⟩ := h
      refine wp_iald2 (q := 58) (j := (((8 : Int32) * x1) + x4).toNatClampNeg) dX7_cost_36 rfl q2 rfl ?_
      refine wp_goto (tgt := 41) dX7_cost_37 (by decide) ?_
      refine wp_iadd dX7_cost_41 ?_
      refine wp_istore_n (Ms := [.ref 47, .int x1, .int x2, .int (x3 + ((S.2.2.1 32) (((8 : Int32) * x1) + x4).toNatClampNeg)), .int x4]) dX7_cost_42 rfl (by decide) rfl ?_
      refine wp_iinc (Ms := [.ref 47, .int x1, .int x2, .int (x3 + ((S.2.2.1 32) (((8 : Int32) * x1) + x4).toNatClampNeg)), .int (x4 + (1 : Int32))]) (v := x4 + (1 : Int32)) dX7_cost_43 rfl rfl (by decide) rfl ?_
      refine wp_goto (tgt := 5) dX7_cost_46 (by decide) ?_
      exact wp_le (Ms := [.ref 47, .int x1, .int x2, .int (x3 + ((S.2.2.1 32) (((8 : Int32) * x1) + x4).toNatClampNeg)), .int (x4 + (1 : Int32))]) ⟨Or.inr rfl, Or.inr rfl, Or.inr rfl, Or.inr rfl, Or.inr rfl, trivial⟩ h
abbrev rX7_findOrder : Room := { frames := 1, cells := 0, slots := 0, locals := 24 }
abbrev wX7_findOrder (P : St → Prop) (pc : Nat) (Ls stk : List Value) (S : St) : Prop := Wp cX7_findOrder RX7 6 rX7_findOrder (wFV P) pc Ls stk (enc S)
abbrev tX7_findOrder (a0 : Int32) (S : St) (P : St → Prop) : Prop := wX7_findOrder P 0 (wl_en [.ref 47, .int a0] 6) [] S
set_option maxRecDepth 100000 in
theorem bX7_findOrder_0 {P : St → Prop} {S : St} (a0 : Int32) (h : wX7_findOrder P 2 [.ref 47, .int a0, .int (0 : Int32), .retAddr 0, .retAddr 0, .retAddr 0] [] S) : tX7_findOrder a0 S P := by
  show wX7_findOrder P 0 [.ref 47, .int a0, .retAddr 0, .retAddr 0, .retAddr 0, .retAddr 0] [] S
  refine wp_iconst (v := (0 : Int32)) dX7_findOrder_0 (by decide) ?_
  refine wp_istore_n (Ms := [.ref 47, .int a0, .int (0 : Int32), .retAddr 0, .retAddr 0, .retAddr 0]) dX7_findOrder_1 rfl (by decide) rfl ?_
  exact wp_le (Ms := [.ref 47, .int a0, .int (0 : Int32), .retAddr 0, .retAddr 0, .retAddr 0]) ⟨Or.inr rfl, Or.inr rfl, Or.inr rfl, Or.inl rfl, Or.inl rfl, Or.inl rfl, trivial⟩ h
set_option maxRecDepth 100000 in
theorem bX7_findOrder_2 {P : St → Prop} {S : St} (x1 : Int32) (x2 : Int32) (h : (((64 : Int32) ≤ x2 → wX7_findOrder P 23 [.ref 47, .int x1, .int (0 : Int32), .retAddr 0, .retAddr 0, .retAddr 0] [] S) ∧ (¬ (64 : Int32) ≤ x2 → vp_in x2 64 ∧ wX7_findOrder P 2 [.ref 47, .int x1, .int (x2 + (1 : Int32)), .retAddr 0, .retAddr 0, .retAddr 0] [] (sA S 32 (upd (S.2.2.1 32) x2.toNatClampNeg (0 : Int32)))))) : wX7_findOrder P 2 [.ref 47, .int x1, .int x2, .retAddr 0, .retAddr 0, .retAddr 0] [] S := by
  refine wp_iload_n dX7_findOrder_2 rfl rfl ?_
  refine wp_bipush (v := (64 : Int32)) dX7_findOrder_3 (by decide) ?_
  refine wp_icmp_ge (tgt := 21) dX7_findOrder_5 (by decide) (fun c => ?_) (fun c => ?_)
  · have h := h.1 c
    refine wp_iconst (v := (0 : Int32)) dX7_findOrder_21 (by decide) ?_
    refine wp_istore_n (Ms := [.ref 47, .int x1, .int (0 : Int32), .retAddr 0, .retAddr 0, .retAddr 0]) dX7_findOrder_22 rfl (by decide) rfl ?_
    exact wp_le (Ms := [.ref 47, .int x1, .int (0 : Int32), .retAddr 0, .retAddr 0, .retAddr 0]) ⟨Or.inr rfl, Or.inr rfl, Or.inr rfl, Or.inl rfl, Or.inl rfl, Or.inl rfl, trivial⟩ h
  · have h := h.2 c
    refine wp_aload_n dX7_findOrder_8 rfl rfl ?_
    refine wp_get (q := 47) dX7_findOrder_9 fX7_46 rfl rfl ?_
    refine wp_iload_n dX7_findOrder_12 rfl rfl ?_
    refine wp_iconst (v := (0 : Int32)) dX7_findOrder_13 (by decide) ?_
    obtain ⟨q1, h⟩ := h
    refine wp_iast2 (q := 58) (j := x2.toNatClampNeg) (mh2 := enc (sA S 32 (upd (S.2.2.1 32) x2.toNatClampNeg (0 : Int32)))) dX7_findOrder_14 rfl q1 rfl (es_58 _ _) ?_
    refine wp_iinc (Ms := [.ref 47, .int x1, .int (x2 + (1 : Int32)), .retAddr 0, .retAddr 0, .retAddr 0]) (v := x2 + (1 : Int32)) dX7_findOrder_15 rfl rfl (by decide) rfl ?_
    refine wp_goto (tgt := 2) dX7_findOrder_18 (by decide) ?_
    exact wp_le (Ms := [.ref 47, .int x1, .int (x2 + (1 : Int32)), .retAddr 0, .retAddr 0, .retAddr 0]) ⟨Or.inr rfl, Or.inr rfl, Or.inr rfl, Or.inl rfl, Or.inl rfl, Or.inl rfl, trivial⟩ h
set_option maxRecDepth 100000 in
theorem bX7_findOrder_23 {P : St → Prop} {S : St} (x1 : Int32) (x2 : Int32) (h : (((S.1 8) ≤ x2 → wX7_findOrder P 117 [.ref 47, .int x1, .int (1 : Int32), .retAddr 0, .retAddr 0, .retAddr 0] [] (sA S 33 (upd (S.2.2.1 33) 0 (0 : Int32)))) ∧ (¬ (S.1 8) ≤ x2 → wX7_findOrder P 33 [.ref 47, .int x1, .int x2, .int (0 : Int32), .retAddr 0, .retAddr 0] [] S))) : wX7_findOrder P 23 [.ref 47, .int x1, .int x2, .retAddr 0, .retAddr 0, .retAddr 0] [] S := by
  refine wp_iload_n dX7_findOrder_23 rfl rfl ?_
  refine wp_aload_n dX7_findOrder_24 rfl rfl ?_
  refine wp_get (q := 47) dX7_findOrder_25 fX7_7 rfl rfl ?_
  refine wp_icmp_ge (tgt := 108) dX7_findOrder_28 (by decide) (fun c => ?_) (fun c => ?_)
  · have h := h.1 c
    refine wp_aload_n dX7_findOrder_108 rfl rfl ?_
    refine wp_get (q := 47) dX7_findOrder_109 fX7_49 rfl rfl ?_
    refine wp_iconst (v := (0 : Int32)) dX7_findOrder_112 (by decide) ?_
    refine wp_iconst (v := (0 : Int32)) dX7_findOrder_113 (by decide) ?_
    refine wp_iast2 (q := 59) (j := 0) (mh2 := enc (sA S 33 (upd (S.2.2.1 33) 0 (0 : Int32)))) dX7_findOrder_114 rfl (vpd rfl) rfl (es_59 _ _) ?_
    refine wp_iconst (v := (1 : Int32)) dX7_findOrder_115 (by decide) ?_
    refine wp_istore_n (Ms := [.ref 47, .int x1, .int (1 : Int32), .retAddr 0, .retAddr 0, .retAddr 0]) dX7_findOrder_116 rfl (by decide) rfl ?_
    exact wp_le (Ms := [.ref 47, .int x1, .int (1 : Int32), .retAddr 0, .retAddr 0, .retAddr 0]) ⟨Or.inr rfl, Or.inr rfl, Or.inr rfl, Or.inl rfl, Or.inl rfl, Or.inl rfl, trivial⟩ h
  · have h := h.2 c
    refine wp_iconst (v := (0 : Int32)) dX7_findOrder_31 (by decide) ?_
    refine wp_istore_n (Ms := [.ref 47, .int x1, .int x2, .int (0 : Int32), .retAddr 0, .retAddr 0]) dX7_findOrder_32 rfl (by decide) rfl ?_
    exact wp_le (Ms := [.ref 47, .int x1, .int x2, .int (0 : Int32), .retAddr 0, .retAddr 0]) ⟨Or.inr rfl, Or.inr rfl, Or.inr rfl, Or.inr rfl, Or.inl rfl, Or.inl rfl, trivial⟩ h
set_option maxRecDepth 100000 in
theorem bX7_findOrder_33 {P : St → Prop} {S : St} (x1 : Int32) (x2 : Int32) (x3 : Int32) (h : (((64 : Int32) ≤ x3 → wX7_findOrder P 23 [.ref 47, .int x1, .int (x2 + (1 : Int32)), .retAddr 0, .retAddr 0, .retAddr 0] [] S) ∧ (¬ (64 : Int32) ≤ x3 → ((x2 = x1 → wX7_findOrder P 23 [.ref 47, .int x1, .int (x2 + (1 : Int32)), .retAddr 0, .retAddr 0, .retAddr 0] [] S) ∧ (¬ x2 = x1 → vp_in x3 64 ∧ (((S.1 8) ≤ (x3 / (8 : Int32)) → wX7_findOrder P 33 [.ref 47, .int x1, .int x2, .int (x3 + (1 : Int32)), .retAddr 0, .retAddr 0] [] (sA S 32 (upd (S.2.2.1 32) x3.toNatClampNeg (((S.2.2.1 32) x3.toNatClampNeg) + (0 : Int32))))) ∧ (¬ (S.1 8) ≤ (x3 / (8 : Int32)) → (((S.1 8) ≤ (x3 - x3 / (8 : Int32) * (8 : Int32)) → wX7_findOrder P 33 [.ref 47, .int x1, .int x2, .int (x3 + (1 : Int32)), .retAddr 0, .retAddr 0] [] (sA S 32 (upd (S.2.2.1 32) x3.toNatClampNeg (((S.2.2.1 32) x3.toNatClampNeg) + (0 : Int32))))) ∧ (¬ (S.1 8) ≤ (x3 - x3 / (8 : Int32) * (8 : Int32)) → tX7_turns x2 (x3 / (8 : Int32)) (x3 - x3 / (8 : Int32) * (8 : Int32)) S (fun r3 S2 => ((r3 = 0 → wX7_findOrder P 33 [.ref 47, .int x1, .int x2, .int (x3 + (1 : Int32)), .retAddr 0, .retAddr 0] [] (sA S2 32 (upd (S2.2.2.1 32) x3.toNatClampNeg (((S.2.2.1 32) x3.toNatClampNeg) + (0 : Int32))))) ∧ (¬ r3 = 0 → wX7_findOrder P 33 [.ref 47, .int x1, .int x2, .int (x3 + (1 : Int32)), .retAddr 0, .retAddr 0] [] (sA S2 32 (upd (S2.2.2.1 32) x3.toNatClampNeg (((S.2.2.1 32) x3.toNatClampNeg) + (1 : Int32)))))))))))))))) : wX7_findOrder P 33 [.ref 47, .int x1, .int x2, .int x3, .retAddr 0, .retAddr 0] [] S := by
  refine wp_iload_n dX7_findOrder_33 rfl rfl ?_
  refine wp_bipush (v := (64 : Int32)) dX7_findOrder_34 (by decide) ?_
  refine wp_icmp_ge (tgt := 102) dX7_findOrder_36 (by decide) (fun c => ?_) (fun c => ?_)
  · have h := h.1 c
    refine wp_iinc (Ms := [.ref 47, .int x1, .int (x2 + (1 : Int32)), .int x3, .retAddr 0, .retAddr 0]) (v := x2 + (1 : Int32)) dX7_findOrder_102 rfl rfl (by decide) rfl ?_
    refine wp_goto (tgt := 23) dX7_findOrder_105 (by decide) ?_
    exact wp_le (Ms := [.ref 47, .int x1, .int (x2 + (1 : Int32)), .retAddr 0, .retAddr 0, .retAddr 0]) ⟨Or.inr rfl, Or.inr rfl, Or.inr rfl, Or.inl rfl, Or.inl rfl, Or.inl rfl, trivial⟩ h
  · have h := h.2 c
    refine wp_iload_n dX7_findOrder_39 rfl rfl ?_
    refine wp_iload_n dX7_findOrder_40 rfl rfl ?_
    refine wp_icmp_eq (tgt := 102) dX7_findOrder_41 (by decide) (fun c => ?_) (fun c => ?_)
    · have h := h.1 c
      refine wp_iinc (Ms := [.ref 47, .int x1, .int (x2 + (1 : Int32)), .int x3, .retAddr 0, .retAddr 0]) (v := x2 + (1 : Int32)) dX7_findOrder_102 rfl rfl (by decide) rfl ?_
      refine wp_goto (tgt := 23) dX7_findOrder_105 (by decide) ?_
      exact wp_le (Ms := [.ref 47, .int x1, .int (x2 + (1 : Int32)), .retAddr 0, .retAddr 0, .retAddr 0]) ⟨Or.inr rfl, Or.inr rfl, Or.inr rfl, Or.inl rfl, Or.inl rfl, Or.inl rfl, trivial⟩ h
    · have h := h.2 c
      refine wp_aload_n dX7_findOrder_44 rfl rfl ?_
      refine wp_get (q := 47) dX7_findOrder_45 fX7_46 rfl rfl ?_
      refine wp_iload_n dX7_findOrder_48 rfl rfl ?_
      refine wp_dup2 dX7_findOrder_49 rfl rfl ?_
      obtain ⟨q1, h⟩ := h
      refine wp_iald2 (q := 58) (j := x3.toNatClampNeg) dX7_findOrder_50 rfl q1 rfl ?_
      refine wp_iload_n dX7_findOrder_51 rfl rfl ?_
      refine wp_bipush (v := (8 : Int32)) dX7_findOrder_52 (by decide) ?_
      refine wp_idiv dX7_findOrder_54 (by decide) ?_
      refine wp_aload_n dX7_findOrder_55 rfl rfl ?_
      refine wp_get (q := 47) dX7_findOrder_56 fX7_7 rfl rfl ?_
      refine wp_icmp_ge (tgt := 93) dX7_findOrder_59 (by decide) (fun c => ?_) (fun c => ?_)
      · have h := h.1 c
        refine wp_iconst (v := (0 : Int32)) dX7_findOrder_93 (by decide) ?_
        refine wp_iadd dX7_findOrder_94 ?_
        refine wp_iast2 (q := 58) (j := x3.toNatClampNeg) (mh2 := enc (sA S 32 (upd (S.2.2.1 32) x3.toNatClampNeg (((S.2.2.1 32) x3.toNatClampNeg) + (0 : Int32))))) dX7_findOrder_95 rfl q1 rfl (es_58 _ _) ?_
        refine wp_iinc (Ms := [.ref 47, .int x1, .int x2, .int (x3 + (1 : Int32)), .retAddr 0, .retAddr 0]) (v := x3 + (1 : Int32)) dX7_findOrder_96 rfl rfl (by decide) rfl ?_
        refine wp_goto (tgt := 33) dX7_findOrder_99 (by decide) ?_
        exact wp_le (Ms := [.ref 47, .int x1, .int x2, .int (x3 + (1 : Int32)), .retAddr 0, .retAddr 0]) ⟨Or.inr rfl, Or.inr rfl, Or.inr rfl, Or.inr rfl, Or.inl rfl, Or.inl rfl, trivial⟩ h
      · have h := h.2 c
        refine wp_iload_n dX7_findOrder_62 rfl rfl ?_
        refine wp_bipush (v := (8 : Int32)) dX7_findOrder_63 (by decide) ?_
        refine wp_irem dX7_findOrder_65 (by decide) ?_
        refine wp_aload_n dX7_findOrder_66 rfl rfl ?_
        refine wp_get (q := 47) dX7_findOrder_67 fX7_7 rfl rfl ?_
        refine wp_icmp_ge (tgt := 93) dX7_findOrder_70 (by decide) (fun c => ?_) (fun c => ?_)
        · have h := h.1 c
          refine wp_iconst (v := (0 : Int32)) dX7_findOrder_93 (by decide) ?_
          refine wp_iadd dX7_findOrder_94 ?_
          refine wp_iast2 (q := 58) (j := x3.toNatClampNeg) (mh2 := enc (sA S 32 (upd (S.2.2.1 32) x3.toNatClampNeg (((S.2.2.1 32) x3.toNatClampNeg) + (0 : Int32))))) dX7_findOrder_95 rfl q1 rfl (es_58 _ _) ?_
          refine wp_iinc (Ms := [.ref 47, .int x1, .int x2, .int (x3 + (1 : Int32)), .retAddr 0, .retAddr 0]) (v := x3 + (1 : Int32)) dX7_findOrder_96 rfl rfl (by decide) rfl ?_
          refine wp_goto (tgt := 33) dX7_findOrder_99 (by decide) ?_
          exact wp_le (Ms := [.ref 47, .int x1, .int x2, .int (x3 + (1 : Int32)), .retAddr 0, .retAddr 0]) ⟨Or.inr rfl, Or.inr rfl, Or.inr rfl, Or.inr rfl, Or.inl rfl, Or.inl rfl, trivial⟩ h
        · have h := h.2 c
          refine wp_aload_n dX7_findOrder_73 rfl rfl ?_
          refine wp_iload_n dX7_findOrder_74 rfl rfl ?_
          refine wp_iload_n dX7_findOrder_75 rfl rfl ?_
          refine wp_bipush (v := (8 : Int32)) dX7_findOrder_76 (by decide) ?_
          refine wp_idiv dX7_findOrder_78 (by decide) ?_
          refine wp_iload_n dX7_findOrder_79 rfl rfl ?_
          refine wp_bipush (v := (8 : Int32)) dX7_findOrder_80 (by decide) ?_
          refine wp_irem dX7_findOrder_82 (by decide) ?_
          refine wp_callV (q := 47) (As := [.int x2, .int (x3 / (8 : Int32)), .int (x3 - x3 / (8 : Int32) * (8 : Int32))]) (rest := [.int ((S.2.2.1 32) x3.toNatClampNeg), .int x3, .ref 58]) dX7_findOrder_83 mX7_turns lX7_166 (by decide) rfl rfl rfl rfl (Nat.le_of_ble_eq_true rfl) (Nat.le_of_ble_eq_true rfl) h ?_
          rintro rv mh2 ⟨r3, S2, rfl, rfl, h⟩
          refine wp_if_eq (tgt := 93) dX7_findOrder_86 (by decide) (fun c => ?_) (fun c => ?_)
          · have h := h.1 c
            refine wp_iconst (v := (0 : Int32)) dX7_findOrder_93 (by decide) ?_
            refine wp_iadd dX7_findOrder_94 ?_
            refine wp_iast2 (q := 58) (j := x3.toNatClampNeg) (mh2 := enc (sA S2 32 (upd (S2.2.2.1 32) x3.toNatClampNeg (((S.2.2.1 32) x3.toNatClampNeg) + (0 : Int32))))) dX7_findOrder_95 rfl q1 rfl (es_58 _ _) ?_
            refine wp_iinc (Ms := [.ref 47, .int x1, .int x2, .int (x3 + (1 : Int32)), .retAddr 0, .retAddr 0]) (v := x3 + (1 : Int32)) dX7_findOrder_96 rfl rfl (by decide) rfl ?_
            refine wp_goto (tgt := 33) dX7_findOrder_99 (by decide) ?_
            exact wp_le (Ms := [.ref 47, .int x1, .int x2, .int (x3 + (1 : Int32)), .retAddr 0, .retAddr 0]) ⟨Or.inr rfl, Or.inr rfl, Or.inr rfl, Or.inr rfl, Or.inl rfl, Or.inl rfl, trivial⟩ h
          · have h := h.2 c
            refine wp_iconst (v := (1 : Int32)) dX7_findOrder_89 (by decide) ?_
            refine wp_goto (tgt := 94) dX7_findOrder_90 (by decide) ?_
            refine wp_iadd dX7_findOrder_94 ?_
            refine wp_iast2 (q := 58) (j := x3.toNatClampNeg) (mh2 := enc (sA S2 32 (upd (S2.2.2.1 32) x3.toNatClampNeg (((S.2.2.1 32) x3.toNatClampNeg) + (1 : Int32))))) dX7_findOrder_95 rfl q1 rfl (es_58 _ _) ?_
            refine wp_iinc (Ms := [.ref 47, .int x1, .int x2, .int (x3 + (1 : Int32)), .retAddr 0, .retAddr 0]) (v := x3 + (1 : Int32)) dX7_findOrder_96 rfl rfl (by decide) rfl ?_
            refine wp_goto (tgt := 33) dX7_findOrder_99 (by decide) ?_
            exact wp_le (Ms := [.ref 47, .int x1, .int x2, .int (x3 + (1 : Int32)), .retAddr 0, .retAddr 0]) ⟨Or.inr rfl, Or.inr rfl, Or.inr rfl, Or.inr rfl, Or.inl rfl, Or.inl rfl, trivial⟩ h
set_option maxRecDepth 100000 in
theorem bX7_findOrder_117 {P : St → Prop} {S : St} (x1 : Int32) (x2 : Int32) (h : ((((1 : Int32) <<< ((S.1 8) &&& (31 : Int32))) ≤ x2 → wX7_findOrder P 236 [.ref 47, .int x1, .int (((1 : Int32) <<< ((S.1 8) &&& (31 : Int32))) - (1 : Int32)), .int (0 : Int32), .retAddr 0, .retAddr 0] [] S) ∧ (¬ ((1 : Int32) <<< ((S.1 8) &&& (31 : Int32))) ≤ x2 → vp_in x2 256 ∧ wX7_findOrder P 137 [.ref 47, .int x1, .int x2, .int (0 : Int32), .retAddr 0, .retAddr 0] [] (sA S 33 (upd (S.2.2.1 33) x2.toNatClampNeg (1000000 : Int32)))))) : wX7_findOrder P 117 [.ref 47, .int x1, .int x2, .retAddr 0, .retAddr 0, .retAddr 0] [] S := by
  refine wp_iload_n dX7_findOrder_117 rfl rfl ?_
  refine wp_iconst (v := (1 : Int32)) dX7_findOrder_118 (by decide) ?_
  refine wp_aload_n dX7_findOrder_119 rfl rfl ?_
  refine wp_get (q := 47) dX7_findOrder_120 fX7_7 rfl rfl ?_
  refine wp_ishl dX7_findOrder_123 ?_
  refine wp_icmp_ge (tgt := 225) dX7_findOrder_124 (by decide) (fun c => ?_) (fun c => ?_)
  · have h := h.1 c
    refine wp_iconst (v := (1 : Int32)) dX7_findOrder_225 (by decide) ?_
    refine wp_aload_n dX7_findOrder_226 rfl rfl ?_
    refine wp_get (q := 47) dX7_findOrder_227 fX7_7 rfl rfl ?_
    refine wp_ishl dX7_findOrder_230 ?_
    refine wp_iconst (v := (1 : Int32)) dX7_findOrder_231 (by decide) ?_
    refine wp_isub dX7_findOrder_232 ?_
    refine wp_istore_n (Ms := [.ref 47, .int x1, .int (((1 : Int32) <<< ((S.1 8) &&& (31 : Int32))) - (1 : Int32)), .retAddr 0, .retAddr 0, .retAddr 0]) dX7_findOrder_233 rfl (by decide) rfl ?_
    refine wp_iconst (v := (0 : Int32)) dX7_findOrder_234 (by decide) ?_
    refine wp_istore_n (Ms := [.ref 47, .int x1, .int (((1 : Int32) <<< ((S.1 8) &&& (31 : Int32))) - (1 : Int32)), .int (0 : Int32), .retAddr 0, .retAddr 0]) dX7_findOrder_235 rfl (by decide) rfl ?_
    exact wp_le (Ms := [.ref 47, .int x1, .int (((1 : Int32) <<< ((S.1 8) &&& (31 : Int32))) - (1 : Int32)), .int (0 : Int32), .retAddr 0, .retAddr 0]) ⟨Or.inr rfl, Or.inr rfl, Or.inr rfl, Or.inr rfl, Or.inl rfl, Or.inl rfl, trivial⟩ h
  · have h := h.2 c
    refine wp_aload_n dX7_findOrder_127 rfl rfl ?_
    refine wp_get (q := 47) dX7_findOrder_128 fX7_49 rfl rfl ?_
    refine wp_iload_n dX7_findOrder_131 rfl rfl ?_
    refine wp_ldc dX7_findOrder_132 kX7_170 ?_
    obtain ⟨q1, h⟩ := h
    refine wp_iast2 (q := 59) (j := x2.toNatClampNeg) (mh2 := enc (sA S 33 (upd (S.2.2.1 33) x2.toNatClampNeg (1000000 : Int32)))) dX7_findOrder_134 rfl q1 rfl (es_59 _ _) ?_
    refine wp_iconst (v := (0 : Int32)) dX7_findOrder_135 (by decide) ?_
    refine wp_istore_n (Ms := [.ref 47, .int x1, .int x2, .int (0 : Int32), .retAddr 0, .retAddr 0]) dX7_findOrder_136 rfl (by decide) rfl ?_
    exact wp_le (Ms := [.ref 47, .int x1, .int x2, .int (0 : Int32), .retAddr 0, .retAddr 0]) ⟨Or.inr rfl, Or.inr rfl, Or.inr rfl, Or.inr rfl, Or.inl rfl, Or.inl rfl, trivial⟩ h
set_option maxRecDepth 100000 in
theorem bX7_findOrder_137 {P : St → Prop} {S : St} (x1 : Int32) (x2 : Int32) (x3 : Int32) (h : (((S.1 8) ≤ x3 → wX7_findOrder P 117 [.ref 47, .int x1, .int (x2 + (1 : Int32)), .retAddr 0, .retAddr 0, .retAddr 0] [] S) ∧ (¬ (S.1 8) ≤ x3 → ((¬ ((x2 >>> (x3 &&& (31 : Int32))) &&& (1 : Int32)) = (1 : Int32) → vp_in x2 256 ∧ wX7_findOrder P 137 [.ref 47, .int x1, .int x2, .int (x3 + (1 : Int32)), .retAddr 0, .retAddr 0] [] (sA S 33 (upd (S.2.2.1 33) x2.toNatClampNeg ((S.2.2.1 33) x2.toNatClampNeg)))) ∧ (((x2 >>> (x3 &&& (31 : Int32))) &&& (1 : Int32)) = (1 : Int32) → tX7_cost x3 (x2 &&& (((1 : Int32) <<< (x3 &&& (31 : Int32))) ^^^ (-1 : Int32))) S (fun r3 S2 => vp_in x2 256 ∧ ((((S2.2.2.1 33) x2.toNatClampNeg) ≤ r3 → wX7_findOrder P 137 [.ref 47, .int x1, .int x2, .int (x3 + (1 : Int32)), .retAddr 0, .retAddr 0] [] (sA S2 33 (upd (S2.2.2.1 33) x2.toNatClampNeg ((S2.2.2.1 33) x2.toNatClampNeg)))) ∧ (¬ ((S2.2.2.1 33) x2.toNatClampNeg) ≤ r3 → tX7_cost x3 (x2 &&& (((1 : Int32) <<< (x3 &&& (31 : Int32))) ^^^ (-1 : Int32))) S2 (fun r6 S5 => wX7_findOrder P 137 [.ref 47, .int x1, .int x2, .int (x3 + (1 : Int32)), .retAddr 0, .retAddr 0] [] (sA S5 33 (upd (S5.2.2.1 33) x2.toNatClampNeg r6))))))))))) : wX7_findOrder P 137 [.ref 47, .int x1, .int x2, .int x3, .retAddr 0, .retAddr 0] [] S := by
  refine wp_iload_n dX7_findOrder_137 rfl rfl ?_
  refine wp_aload_n dX7_findOrder_138 rfl rfl ?_
  refine wp_get (q := 47) dX7_findOrder_139 fX7_7 rfl rfl ?_
  refine wp_icmp_ge (tgt := 219) dX7_findOrder_142 (by decide) (fun c => ?_) (fun c => ?_)
  · have h := h.1 c
    refine wp_iinc (Ms := [.ref 47, .int x1, .int (x2 + (1 : Int32)), .int x3, .retAddr 0, .retAddr 0]) (v := x2 + (1 : Int32)) dX7_findOrder_219 rfl rfl (by decide) rfl ?_
    refine wp_goto (tgt := 117) dX7_findOrder_222 (by decide) ?_
    exact wp_le (Ms := [.ref 47, .int x1, .int (x2 + (1 : Int32)), .retAddr 0, .retAddr 0, .retAddr 0]) ⟨Or.inr rfl, Or.inr rfl, Or.inr rfl, Or.inl rfl, Or.inl rfl, Or.inl rfl, trivial⟩ h
  · have h := h.2 c
    refine wp_iload_n dX7_findOrder_145 rfl rfl ?_
    refine wp_iconst (v := (1 : Int32)) dX7_findOrder_146 (by decide) ?_
    refine wp_iload_n dX7_findOrder_147 rfl rfl ?_
    refine wp_ishl dX7_findOrder_148 ?_
    refine wp_iconst (v := (-1 : Int32)) dX7_findOrder_149 (by decide) ?_
    refine wp_ixor dX7_findOrder_150 ?_
    refine wp_iand dX7_findOrder_151 ?_
    refine wp_istore (Ms := [.ref 47, .int x1, .int x2, .int x3, .int (x2 &&& (((1 : Int32) <<< (x3 &&& (31 : Int32))) ^^^ (-1 : Int32))), .retAddr 0]) dX7_findOrder_152 (by decide) rfl ?_
    refine wp_iload_n dX7_findOrder_154 rfl rfl ?_
    refine wp_iload_n dX7_findOrder_155 rfl rfl ?_
    refine wp_ishr dX7_findOrder_156 ?_
    refine wp_iconst (v := (1 : Int32)) dX7_findOrder_157 (by decide) ?_
    refine wp_iand dX7_findOrder_158 ?_
    refine wp_iconst (v := (1 : Int32)) dX7_findOrder_159 (by decide) ?_
    refine wp_icmp_ne (tgt := 183) dX7_findOrder_160 (by decide) (fun c => ?_) (fun c => ?_)
    · have h := h.1 c
      refine wp_iconst (v := (0 : Int32)) dX7_findOrder_183 (by decide) ?_
      refine wp_istore (Ms := [.ref 47, .int x1, .int x2, .int x3, .int (x2 &&& (((1 : Int32) <<< (x3 &&& (31 : Int32))) ^^^ (-1 : Int32))), .int (0 : Int32)]) dX7_findOrder_184 (by decide) rfl ?_
      refine wp_aload_n dX7_findOrder_186 rfl rfl ?_
      refine wp_get (q := 47) dX7_findOrder_187 fX7_49 rfl rfl ?_
      refine wp_iload_n dX7_findOrder_190 rfl rfl ?_
      refine wp_iload dX7_findOrder_191 rfl ?_
      refine wp_if_eq (tgt := 206) dX7_findOrder_193 (by decide) (fun c => ?_) (fun c => ?_)
      rotate_left
      · exact absurd (by decide) c
      refine wp_aload_n dX7_findOrder_206 rfl rfl ?_
      refine wp_get (q := 47) dX7_findOrder_207 fX7_49 rfl rfl ?_
      refine wp_iload_n dX7_findOrder_210 rfl rfl ?_
      obtain ⟨q1, h⟩ := h
      refine wp_iald2 (q := 59) (j := x2.toNatClampNeg) dX7_findOrder_211 rfl q1 rfl ?_
      refine wp_iast2 (q := 59) (j := x2.toNatClampNeg) (mh2 := enc (sA S 33 (upd (S.2.2.1 33) x2.toNatClampNeg ((S.2.2.1 33) x2.toNatClampNeg)))) dX7_findOrder_212 rfl q1 rfl (es_59 _ _) ?_
      refine wp_iinc (Ms := [.ref 47, .int x1, .int x2, .int (x3 + (1 : Int32)), .int (x2 &&& (((1 : Int32) <<< (x3 &&& (31 : Int32))) ^^^ (-1 : Int32))), .int (0 : Int32)]) (v := x3 + (1 : Int32)) dX7_findOrder_213 rfl rfl (by decide) rfl ?_
      refine wp_goto (tgt := 137) dX7_findOrder_216 (by decide) ?_
      exact wp_le (Ms := [.ref 47, .int x1, .int x2, .int (x3 + (1 : Int32)), .retAddr 0, .retAddr 0]) ⟨Or.inr rfl, Or.inr rfl, Or.inr rfl, Or.inr rfl, Or.inl rfl, Or.inl rfl, trivial⟩ h
    · have h := h.2 c
      refine wp_aload_n dX7_findOrder_163 rfl rfl ?_
      refine wp_iload_n dX7_findOrder_164 rfl rfl ?_
      refine wp_iload dX7_findOrder_165 rfl ?_
      refine wp_callV (q := 47) (As := [.int x3, .int (x2 &&& (((1 : Int32) <<< (x3 &&& (31 : Int32))) ^^^ (-1 : Int32)))]) (rest := []) dX7_findOrder_167 mX7_cost lX7_171 (by decide) rfl rfl rfl rfl (Nat.le_of_ble_eq_true rfl) (Nat.le_of_ble_eq_true rfl) h ?_
      rintro rv mh2 ⟨r3, S2, rfl, rfl, h⟩
      refine wp_aload_n dX7_findOrder_170 rfl rfl ?_
      refine wp_get (q := 47) dX7_findOrder_171 fX7_49 rfl rfl ?_
      refine wp_iload_n dX7_findOrder_174 rfl rfl ?_
      obtain ⟨q4, h⟩ := h
      refine wp_iald2 (q := 59) (j := x2.toNatClampNeg) dX7_findOrder_175 rfl q4 rfl ?_
      refine wp_icmp_ge (tgt := 183) dX7_findOrder_176 (by decide) (fun c => ?_) (fun c => ?_)
      · have h := h.1 c
        refine wp_iconst (v := (0 : Int32)) dX7_findOrder_183 (by decide) ?_
        refine wp_istore (Ms := [.ref 47, .int x1, .int x2, .int x3, .int (x2 &&& (((1 : Int32) <<< (x3 &&& (31 : Int32))) ^^^ (-1 : Int32))), .int (0 : Int32)]) dX7_findOrder_184 (by decide) rfl ?_
        refine wp_aload_n dX7_findOrder_186 rfl rfl ?_
        refine wp_get (q := 47) dX7_findOrder_187 fX7_49 rfl rfl ?_
        refine wp_iload_n dX7_findOrder_190 rfl rfl ?_
        refine wp_iload dX7_findOrder_191 rfl ?_
        refine wp_if_eq (tgt := 206) dX7_findOrder_193 (by decide) (fun c => ?_) (fun c => ?_)
        rotate_left
        · exact absurd (by decide) c
        refine wp_aload_n dX7_findOrder_206 rfl rfl ?_
        refine wp_get (q := 47) dX7_findOrder_207 fX7_49 rfl rfl ?_
        refine wp_iload_n dX7_findOrder_210 rfl rfl ?_
        refine wp_iald2 (q := 59) (j := x2.toNatClampNeg) dX7_findOrder_211 rfl q4 rfl ?_
        refine wp_iast2 (q := 59) (j := x2.toNatClampNeg) (mh2 := enc (sA S2 33 (upd (S2.2.2.1 33) x2.toNatClampNeg ((S2.2.2.1 33) x2.toNatClampNeg)))) dX7_findOrder_212 rfl q4 rfl (es_59 _ _) ?_
        refine wp_iinc (Ms := [.ref 47, .int x1, .int x2, .int (x3 + (1 : Int32)), .int (x2 &&& (((1 : Int32) <<< (x3 &&& (31 : Int32))) ^^^ (-1 : Int32))), .int (0 : Int32)]) (v := x3 + (1 : Int32)) dX7_findOrder_213 rfl rfl (by decide) rfl ?_
        refine wp_goto (tgt := 137) dX7_findOrder_216 (by decide) ?_
        exact wp_le (Ms := [.ref 47, .int x1, .int x2, .int (x3 + (1 : Int32)), .retAddr 0, .retAddr 0]) ⟨Or.inr rfl, Or.inr rfl, Or.inr rfl, Or.inr rfl, Or.inl rfl, Or.inl rfl, trivial⟩ h
      · have h := h.2 c
        refine wp_iconst (v := (1 : Int32)) dX7_findOrder_179 (by decide) ?_
        refine wp_goto (tgt := 184) dX7_findOrder_180 (by decide) ?_
        refine wp_istore (Ms := [.ref 47, .int x1, .int x2, .int x3, .int (x2 &&& (((1 : Int32) <<< (x3 &&& (31 : Int32))) ^^^ (-1 : Int32))), .int (1 : Int32)]) dX7_findOrder_184 (by decide) rfl ?_
        refine wp_aload_n dX7_findOrder_186 rfl rfl ?_
        refine wp_get (q := 47) dX7_findOrder_187 fX7_49 rfl rfl ?_
        refine wp_iload_n dX7_findOrder_190 rfl rfl ?_
        refine wp_iload dX7_findOrder_191 rfl ?_
        refine wp_if_eq (tgt := 206) dX7_findOrder_193 (by decide) (fun c => ?_) (fun c => ?_)
        · exact absurd c (by decide)
        refine wp_aload_n dX7_findOrder_196 rfl rfl ?_
        refine wp_iload_n dX7_findOrder_197 rfl rfl ?_
        refine wp_iload dX7_findOrder_198 rfl ?_
        refine wp_callV (q := 47) (As := [.int x3, .int (x2 &&& (((1 : Int32) <<< (x3 &&& (31 : Int32))) ^^^ (-1 : Int32)))]) (rest := [.int x2, .ref 59]) dX7_findOrder_200 mX7_cost lX7_171 (by decide) rfl rfl rfl rfl (Nat.le_of_ble_eq_true rfl) (Nat.le_of_ble_eq_true rfl) h ?_
        rintro rv mh2 ⟨r6, S5, rfl, rfl, h⟩
        refine wp_goto (tgt := 212) dX7_findOrder_203 (by decide) ?_
        refine wp_iast2 (q := 59) (j := x2.toNatClampNeg) (mh2 := enc (sA S5 33 (upd (S5.2.2.1 33) x2.toNatClampNeg r6))) dX7_findOrder_212 rfl q4 rfl (es_59 _ _) ?_
        refine wp_iinc (Ms := [.ref 47, .int x1, .int x2, .int (x3 + (1 : Int32)), .int (x2 &&& (((1 : Int32) <<< (x3 &&& (31 : Int32))) ^^^ (-1 : Int32))), .int (1 : Int32)]) (v := x3 + (1 : Int32)) dX7_findOrder_213 rfl rfl (by decide) rfl ?_
        refine wp_goto (tgt := 137) dX7_findOrder_216 (by decide) ?_
        exact wp_le (Ms := [.ref 47, .int x1, .int x2, .int (x3 + (1 : Int32)), .retAddr 0, .retAddr 0]) ⟨Or.inr rfl, Or.inr rfl, Or.inr rfl, Or.inr rfl, Or.inl rfl, Or.inl rfl, trivial⟩ h
set_option maxRecDepth 100000 in
theorem bX7_findOrder_236 {P : St → Prop} {S : St} (x1 : Int32) (x2 : Int32) (x3 : Int32) (h : (((S.1 8) ≤ x3 → P S) ∧ (¬ (S.1 8) ≤ x3 → wX7_findOrder P 247 [.ref 47, .int x1, .int x2, .int x3, .int (0 : Int32), .retAddr 0] [] S))) : wX7_findOrder P 236 [.ref 47, .int x1, .int x2, .int x3, .retAddr 0, .retAddr 0] [] S := by
  refine wp_iload_n dX7_findOrder_236 rfl rfl ?_
  refine wp_aload_n dX7_findOrder_237 rfl rfl ?_
  refine wp_get (q := 47) dX7_findOrder_238 fX7_7 rfl rfl ?_
  refine wp_icmp_ge (tgt := 308) dX7_findOrder_241 (by decide) (fun c => ?_) (fun c => ?_)
  · have h := h.1 c
    exact wp_vret dX7_findOrder_308 rfl ⟨_, rfl, rfl, h⟩
  · have h := h.2 c
    refine wp_iconst (v := (0 : Int32)) dX7_findOrder_244 (by decide) ?_
    refine wp_istore (Ms := [.ref 47, .int x1, .int x2, .int x3, .int (0 : Int32), .retAddr 0]) dX7_findOrder_245 (by decide) rfl ?_
    exact wp_le (Ms := [.ref 47, .int x1, .int x2, .int x3, .int (0 : Int32), .retAddr 0]) ⟨Or.inr rfl, Or.inr rfl, Or.inr rfl, Or.inr rfl, Or.inr rfl, Or.inl rfl, trivial⟩ h
set_option maxRecDepth 100000 in
theorem bX7_findOrder_247 {P : St → Prop} {S : St} (x1 : Int32) (x2 : Int32) (x3 : Int32) (x4 : Int32) (h : ((((x2 >>> (x4 &&& (31 : Int32))) &&& (1 : Int32)) = 0 → wX7_findOrder P 247 [.ref 47, .int x1, .int x2, .int x3, .int (x4 + (1 : Int32)), .retAddr 0] [] S) ∧ (¬ ((x2 >>> (x4 &&& (31 : Int32))) &&& (1 : Int32)) = 0 → tX7_cost x4 (x2 &&& (((1 : Int32) <<< (x4 &&& (31 : Int32))) ^^^ (-1 : Int32))) S (fun r2 S1 => vp_in x2 256 ∧ ((r2 = ((S1.2.2.1 33) x2.toNatClampNeg) → vp_in x4 8 ∧ wX7_findOrder P 236 [.ref 47, .int x1, .int (x2 &&& (((1 : Int32) <<< (x4 &&& (31 : Int32))) ^^^ (-1 : Int32))), .int (x3 + (1 : Int32)), .retAddr 0, .retAddr 0] [] (sA S1 34 (upd (S1.2.2.1 34) x4.toNatClampNeg x3))) ∧ (¬ r2 = ((S1.2.2.1 33) x2.toNatClampNeg) → wX7_findOrder P 247 [.ref 47, .int x1, .int x2, .int x3, .int (x4 + (1 : Int32)), .retAddr 0] [] S1)))))) : wX7_findOrder P 247 [.ref 47, .int x1, .int x2, .int x3, .int x4, .retAddr 0] [] S := by
  refine wp_iload_n dX7_findOrder_247 rfl rfl ?_
  refine wp_iload dX7_findOrder_248 rfl ?_
  refine wp_ishr dX7_findOrder_250 ?_
  refine wp_iconst (v := (1 : Int32)) dX7_findOrder_251 (by decide) ?_
  refine wp_iand dX7_findOrder_252 ?_
  refine wp_if_eq (tgt := 279) dX7_findOrder_253 (by decide) (fun c => ?_) (fun c => ?_)
  · have h := h.1 c
    refine wp_iinc (Ms := [.ref 47, .int x1, .int x2, .int x3, .int (x4 + (1 : Int32)), .retAddr 0]) (v := x4 + (1 : Int32)) dX7_findOrder_279 rfl rfl (by decide) rfl ?_
    refine wp_goto (tgt := 247) dX7_findOrder_282 (by decide) ?_
    exact wp_le (Ms := [.ref 47, .int x1, .int x2, .int x3, .int (x4 + (1 : Int32)), .retAddr 0]) ⟨Or.inr rfl, Or.inr rfl, Or.inr rfl, Or.inr rfl, Or.inr rfl, Or.inl rfl, trivial⟩ h
  · have h := h.2 c
    refine wp_aload_n dX7_findOrder_256 rfl rfl ?_
    refine wp_iload dX7_findOrder_257 rfl ?_
    refine wp_iload_n dX7_findOrder_259 rfl rfl ?_
    refine wp_iconst (v := (1 : Int32)) dX7_findOrder_260 (by decide) ?_
    refine wp_iload dX7_findOrder_261 rfl ?_
    refine wp_ishl dX7_findOrder_263 ?_
    refine wp_iconst (v := (-1 : Int32)) dX7_findOrder_264 (by decide) ?_
    refine wp_ixor dX7_findOrder_265 ?_
    refine wp_iand dX7_findOrder_266 ?_
    refine wp_callV (q := 47) (As := [.int x4, .int (x2 &&& (((1 : Int32) <<< (x4 &&& (31 : Int32))) ^^^ (-1 : Int32)))]) (rest := []) dX7_findOrder_267 mX7_cost lX7_171 (by decide) rfl rfl rfl rfl (Nat.le_of_ble_eq_true rfl) (Nat.le_of_ble_eq_true rfl) h ?_
    rintro rv mh2 ⟨r2, S1, rfl, rfl, h⟩
    refine wp_aload_n dX7_findOrder_270 rfl rfl ?_
    refine wp_get (q := 47) dX7_findOrder_271 fX7_49 rfl rfl ?_
    refine wp_iload_n dX7_findOrder_274 rfl rfl ?_
    obtain ⟨q3, h⟩ := h
    refine wp_iald2 (q := 59) (j := x2.toNatClampNeg) dX7_findOrder_275 rfl q3 rfl ?_
    refine wp_icmp_eq (tgt := 285) dX7_findOrder_276 (by decide) (fun c => ?_) (fun c => ?_)
    · have h := h.1 c
      refine wp_aload_n dX7_findOrder_285 rfl rfl ?_
      refine wp_get (q := 47) dX7_findOrder_286 fX7_52 rfl rfl ?_
      refine wp_iload dX7_findOrder_289 rfl ?_
      refine wp_iload_n dX7_findOrder_291 rfl rfl ?_
      obtain ⟨q4, h⟩ := h
      refine wp_iast2 (q := 60) (j := x4.toNatClampNeg) (mh2 := enc (sA S1 34 (upd (S1.2.2.1 34) x4.toNatClampNeg x3))) dX7_findOrder_292 rfl q4 rfl (es_60 _ _) ?_
      refine wp_iload_n dX7_findOrder_293 rfl rfl ?_
      refine wp_iconst (v := (1 : Int32)) dX7_findOrder_294 (by decide) ?_
      refine wp_iload dX7_findOrder_295 rfl ?_
      refine wp_ishl dX7_findOrder_297 ?_
      refine wp_iconst (v := (-1 : Int32)) dX7_findOrder_298 (by decide) ?_
      refine wp_ixor dX7_findOrder_299 ?_
      refine wp_iand dX7_findOrder_300 ?_
      refine wp_istore_n (Ms := [.ref 47, .int x1, .int (x2 &&& (((1 : Int32) <<< (x4 &&& (31 : Int32))) ^^^ (-1 : Int32))), .int x3, .int x4, .retAddr 0]) dX7_findOrder_301 rfl (by decide) rfl ?_
      refine wp_iinc (Ms := [.ref 47, .int x1, .int (x2 &&& (((1 : Int32) <<< (x4 &&& (31 : Int32))) ^^^ (-1 : Int32))), .int (x3 + (1 : Int32)), .int x4, .retAddr 0]) (v := x3 + (1 : Int32)) dX7_findOrder_302 rfl rfl (by decide) rfl ?_
      refine wp_goto (tgt := 236) dX7_findOrder_305 (by decide) ?_
      exact wp_le (Ms := [.ref 47, .int x1, .int (x2 &&& (((1 : Int32) <<< (x4 &&& (31 : Int32))) ^^^ (-1 : Int32))), .int (x3 + (1 : Int32)), .retAddr 0, .retAddr 0]) ⟨Or.inr rfl, Or.inr rfl, Or.inr rfl, Or.inr rfl, Or.inl rfl, Or.inl rfl, trivial⟩ h
    · have h := h.2 c
      refine wp_iinc (Ms := [.ref 47, .int x1, .int x2, .int x3, .int (x4 + (1 : Int32)), .retAddr 0]) (v := x4 + (1 : Int32)) dX7_findOrder_279 rfl rfl (by decide) rfl ?_
      refine wp_goto (tgt := 247) dX7_findOrder_282 (by decide) ?_
      exact wp_le (Ms := [.ref 47, .int x1, .int x2, .int x3, .int (x4 + (1 : Int32)), .retAddr 0]) ⟨Or.inr rfl, Or.inr rfl, Or.inr rfl, Or.inr rfl, Or.inr rfl, Or.inl rfl, trivial⟩ h
abbrev rX7_order : Room := { frames := 2, cells := 0, slots := 0, locals := 49 }
abbrev wX7_order (P : Int32 → St → Prop) (pc : Nat) (Ls stk : List Value) (S : St) : Prop := Wp cX7_order RX7 4 rX7_order (wFI .int P) pc Ls stk (enc S)
abbrev tX7_order (a0 : Int32) (S : St) (P : Int32 → St → Prop) : Prop := wX7_order P 0 (wl_en [.ref 47, .int a0] 4) [] S
set_option maxRecDepth 100000 in
theorem bX7_order_0 {P : Int32 → St → Prop} {S : St} (a0 : Int32) (h : tX7_is a0 S (fun r2 S1 => ((¬ r2 = 0 → tX7_findOrder (-1 : Int32) S1 (fun S3 => wX7_order P 21 [.ref 47, .int a0, .int (-1 : Int32), .int (0 : Int32)] [] S3)) ∧ (r2 = 0 → P (-1002 : Int32) S1)))) : tX7_order a0 S P := by
  show wX7_order P 0 [.ref 47, .int a0, .retAddr 0, .retAddr 0] [] S
  refine wp_aload_n dX7_order_0 rfl rfl ?_
  refine wp_iload_n dX7_order_1 rfl rfl ?_
  refine wp_callV (q := 47) (As := [.int a0]) (rest := []) dX7_order_2 mX7_is lX7_69 (by decide) rfl rfl rfl rfl (Nat.le_of_ble_eq_true rfl) (Nat.le_of_ble_eq_true rfl) h ?_
  rintro rv mh2 ⟨r2, S1, rfl, rfl, h⟩
  refine wp_if_ne (tgt := 12) dX7_order_5 (by decide) (fun c => ?_) (fun c => ?_)
  · have h := h.1 c
    refine wp_aload_n dX7_order_12 rfl rfl ?_
    refine wp_iconst (v := (-1 : Int32)) dX7_order_13 (by decide) ?_
    refine wp_callV (q := 47) (As := [.int (-1 : Int32)]) (rest := []) dX7_order_14 mX7_findOrder lX7_175 (by decide) rfl rfl rfl rfl (Nat.le_of_ble_eq_true rfl) (Nat.le_of_ble_eq_true rfl) h ?_
    rintro rv mh2 ⟨S3, rfl, rfl, h⟩
    refine wp_iconst (v := (-1 : Int32)) dX7_order_17 (by decide) ?_
    refine wp_istore_n (Ms := [.ref 47, .int a0, .int (-1 : Int32), .retAddr 0]) dX7_order_18 rfl (by decide) rfl ?_
    refine wp_iconst (v := (0 : Int32)) dX7_order_19 (by decide) ?_
    refine wp_istore_n (Ms := [.ref 47, .int a0, .int (-1 : Int32), .int (0 : Int32)]) dX7_order_20 rfl (by decide) rfl ?_
    exact wp_le (Ms := [.ref 47, .int a0, .int (-1 : Int32), .int (0 : Int32)]) ⟨Or.inr rfl, Or.inr rfl, Or.inr rfl, Or.inr rfl, trivial⟩ h
  · have h := h.2 c
    refine wp_sipush (v := (-1002 : Int32)) dX7_order_8 (by decide) ?_
    exact wp_iret dX7_order_11 rfl rfl ⟨_, _, rfl, rfl, h⟩
set_option maxRecDepth 100000 in
theorem bX7_order_21 {P : Int32 → St → Prop} {S : St} (x1 : Int32) (x2 : Int32) (x3 : Int32) (h : (((S.1 8) ≤ x3 → P x2 S) ∧ (¬ (S.1 8) ≤ x3 → vp_in x3 8 ∧ ((¬ ((S.2.2.1 34) x3.toNatClampNeg) = x1 → wX7_order P 21 [.ref 47, .int x1, .int x2, .int (x3 + (1 : Int32))] [] S) ∧ (((S.2.2.1 34) x3.toNatClampNeg) = x1 → wX7_order P 21 [.ref 47, .int x1, .int x3, .int (x3 + (1 : Int32))] [] S))))) : wX7_order P 21 [.ref 47, .int x1, .int x2, .int x3] [] S := by
  refine wp_iload_n dX7_order_21 rfl rfl ?_
  refine wp_aload_n dX7_order_22 rfl rfl ?_
  refine wp_get (q := 47) dX7_order_23 fX7_7 rfl rfl ?_
  refine wp_icmp_ge (tgt := 51) dX7_order_26 (by decide) (fun c => ?_) (fun c => ?_)
  · have h := h.1 c
    refine wp_iload_n dX7_order_51 rfl rfl ?_
    exact wp_iret dX7_order_52 rfl rfl ⟨_, _, rfl, rfl, h⟩
  · have h := h.2 c
    refine wp_aload_n dX7_order_29 rfl rfl ?_
    refine wp_get (q := 47) dX7_order_30 fX7_52 rfl rfl ?_
    refine wp_iload_n dX7_order_33 rfl rfl ?_
    obtain ⟨q1, h⟩ := h
    refine wp_iald2 (q := 60) (j := x3.toNatClampNeg) dX7_order_34 rfl q1 rfl ?_
    refine wp_iload_n dX7_order_35 rfl rfl ?_
    refine wp_icmp_ne (tgt := 43) dX7_order_36 (by decide) (fun c => ?_) (fun c => ?_)
    · have h := h.1 c
      refine wp_iload_n dX7_order_43 rfl rfl ?_
      refine wp_istore_n (Ms := [.ref 47, .int x1, .int x2, .int x3]) dX7_order_44 rfl (by decide) rfl ?_
      refine wp_iinc (Ms := [.ref 47, .int x1, .int x2, .int (x3 + (1 : Int32))]) (v := x3 + (1 : Int32)) dX7_order_45 rfl rfl (by decide) rfl ?_
      refine wp_goto (tgt := 21) dX7_order_48 (by decide) ?_
      exact wp_le (Ms := [.ref 47, .int x1, .int x2, .int (x3 + (1 : Int32))]) ⟨Or.inr rfl, Or.inr rfl, Or.inr rfl, Or.inr rfl, trivial⟩ h
    · have h := h.2 c
      refine wp_iload_n dX7_order_39 rfl rfl ?_
      refine wp_goto (tgt := 44) dX7_order_40 (by decide) ?_
      refine wp_istore_n (Ms := [.ref 47, .int x1, .int x3, .int x3]) dX7_order_44 rfl (by decide) rfl ?_
      refine wp_iinc (Ms := [.ref 47, .int x1, .int x3, .int (x3 + (1 : Int32))]) (v := x3 + (1 : Int32)) dX7_order_45 rfl rfl (by decide) rfl ?_
      refine wp_goto (tgt := 21) dX7_order_48 (by decide) ?_
      exact wp_le (Ms := [.ref 47, .int x1, .int x3, .int (x3 + (1 : Int32))]) ⟨Or.inr rfl, Or.inr rfl, Or.inr rfl, Or.inr rfl, trivial⟩ h
abbrev rX7_quarrel : Room := { frames := 2, cells := 0, slots := 0, locals := 49 }
abbrev wX7_quarrel (P : Int32 → St → Prop) (pc : Nat) (Ls stk : List Value) (S : St) : Prop := Wp cX7_quarrel RX7 1 rX7_quarrel (wFI .int P) pc Ls stk (enc S)
abbrev tX7_quarrel  (S : St) (P : Int32 → St → Prop) : Prop := wX7_quarrel P 0 (wl_en [.ref 47] 1) [] S
set_option maxRecDepth 100000 in
theorem bX7_quarrel_0 {P : Int32 → St → Prop} {S : St}  (h : tX7_findOrder (-1 : Int32) S (fun S1 => vp_in (((1 : Int32) <<< ((S1.1 8) &&& (31 : Int32))) - (1 : Int32)) 256 ∧ P ((S1.2.2.1 33) (((1 : Int32) <<< ((S1.1 8) &&& (31 : Int32))) - (1 : Int32)).toNatClampNeg) S1)) : tX7_quarrel  S P := by
  show wX7_quarrel P 0 [.ref 47] [] S
  refine wp_aload_n dX7_quarrel_0 rfl rfl ?_
  refine wp_iconst (v := (-1 : Int32)) dX7_quarrel_1 (by decide) ?_
  refine wp_callV (q := 47) (As := [.int (-1 : Int32)]) (rest := []) dX7_quarrel_2 mX7_findOrder lX7_175 (by decide) rfl rfl rfl rfl (Nat.le_of_ble_eq_true rfl) (Nat.le_of_ble_eq_true rfl) h ?_
  rintro rv mh2 ⟨S1, rfl, rfl, h⟩
  refine wp_aload_n dX7_quarrel_5 rfl rfl ?_
  refine wp_get (q := 47) dX7_quarrel_6 fX7_49 rfl rfl ?_
  refine wp_iconst (v := (1 : Int32)) dX7_quarrel_9 (by decide) ?_
  refine wp_aload_n dX7_quarrel_10 rfl rfl ?_
  refine wp_get (q := 47) dX7_quarrel_11 fX7_7 rfl rfl ?_
  refine wp_ishl dX7_quarrel_14 ?_
  refine wp_iconst (v := (1 : Int32)) dX7_quarrel_15 (by decide) ?_
  refine wp_isub dX7_quarrel_16 ?_
  obtain ⟨q2, h⟩ := h
  refine wp_iald2 (q := 59) (j := (((1 : Int32) <<< ((S1.1 8) &&& (31 : Int32))) - (1 : Int32)).toNatClampNeg) dX7_quarrel_17 rfl q2 rfl ?_
  exact wp_iret dX7_quarrel_18 rfl rfl ⟨_, _, rfl, rfl, h⟩
abbrev rX7_turned : Room := { frames := 2, cells := 0, slots := 0, locals := 49 }
abbrev wX7_turned (P : Int32 → St → Prop) (pc : Nat) (Ls stk : List Value) (S : St) : Prop := Wp cX7_turned RX7 5 rX7_turned (wFI .int P) pc Ls stk (enc S)
abbrev tX7_turned (a0 : Int32) (S : St) (P : Int32 → St → Prop) : Prop := wX7_turned P 0 (wl_en [.ref 47, .int a0] 5) [] S
set_option maxRecDepth 100000 in
theorem bX7_turned_0 {P : Int32 → St → Prop} {S : St} (a0 : Int32) (h : tX7_is a0 S (fun r2 S1 => ((¬ r2 = 0 → tX7_findOrder (-1 : Int32) S1 (fun S3 => wX7_turned P 21 [.ref 47, .int a0, .int (0 : Int32), .int (0 : Int32), .retAddr 0] [] S3)) ∧ (r2 = 0 → P (-1001 : Int32) S1)))) : tX7_turned a0 S P := by
  show wX7_turned P 0 [.ref 47, .int a0, .retAddr 0, .retAddr 0, .retAddr 0] [] S
  refine wp_aload_n dX7_turned_0 rfl rfl ?_
  refine wp_iload_n dX7_turned_1 rfl rfl ?_
  refine wp_callV (q := 47) (As := [.int a0]) (rest := []) dX7_turned_2 mX7_is lX7_69 (by decide) rfl rfl rfl rfl (Nat.le_of_ble_eq_true rfl) (Nat.le_of_ble_eq_true rfl) h ?_
  rintro rv mh2 ⟨r2, S1, rfl, rfl, h⟩
  refine wp_if_ne (tgt := 12) dX7_turned_5 (by decide) (fun c => ?_) (fun c => ?_)
  · have h := h.1 c
    refine wp_aload_n dX7_turned_12 rfl rfl ?_
    refine wp_iconst (v := (-1 : Int32)) dX7_turned_13 (by decide) ?_
    refine wp_callV (q := 47) (As := [.int (-1 : Int32)]) (rest := []) dX7_turned_14 mX7_findOrder lX7_175 (by decide) rfl rfl rfl rfl (Nat.le_of_ble_eq_true rfl) (Nat.le_of_ble_eq_true rfl) h ?_
    rintro rv mh2 ⟨S3, rfl, rfl, h⟩
    refine wp_iconst (v := (0 : Int32)) dX7_turned_17 (by decide) ?_
    refine wp_istore_n (Ms := [.ref 47, .int a0, .int (0 : Int32), .retAddr 0, .retAddr 0]) dX7_turned_18 rfl (by decide) rfl ?_
    refine wp_iconst (v := (0 : Int32)) dX7_turned_19 (by decide) ?_
    refine wp_istore_n (Ms := [.ref 47, .int a0, .int (0 : Int32), .int (0 : Int32), .retAddr 0]) dX7_turned_20 rfl (by decide) rfl ?_
    exact wp_le (Ms := [.ref 47, .int a0, .int (0 : Int32), .int (0 : Int32), .retAddr 0]) ⟨Or.inr rfl, Or.inr rfl, Or.inr rfl, Or.inr rfl, Or.inl rfl, trivial⟩ h
  · have h := h.2 c
    refine wp_sipush (v := (-1001 : Int32)) dX7_turned_8 (by decide) ?_
    exact wp_iret dX7_turned_11 rfl rfl ⟨_, _, rfl, rfl, h⟩
set_option maxRecDepth 100000 in
theorem bX7_turned_21 {P : Int32 → St → Prop} {S : St} (x1 : Int32) (x2 : Int32) (x3 : Int32) (h : (((S.1 8) ≤ x3 → P x2 S) ∧ (¬ (S.1 8) ≤ x3 → wX7_turned P 32 [.ref 47, .int x1, .int x2, .int x3, .int (0 : Int32)] [] S))) : wX7_turned P 21 [.ref 47, .int x1, .int x2, .int x3, .retAddr 0] [] S := by
  refine wp_iload_n dX7_turned_21 rfl rfl ?_
  refine wp_aload_n dX7_turned_22 rfl rfl ?_
  refine wp_get (q := 47) dX7_turned_23 fX7_7 rfl rfl ?_
  refine wp_icmp_ge (tgt := 88) dX7_turned_26 (by decide) (fun c => ?_) (fun c => ?_)
  · have h := h.1 c
    refine wp_iload_n dX7_turned_88 rfl rfl ?_
    exact wp_iret dX7_turned_89 rfl rfl ⟨_, _, rfl, rfl, h⟩
  · have h := h.2 c
    refine wp_iconst (v := (0 : Int32)) dX7_turned_29 (by decide) ?_
    refine wp_istore (Ms := [.ref 47, .int x1, .int x2, .int x3, .int (0 : Int32)]) dX7_turned_30 (by decide) rfl ?_
    exact wp_le (Ms := [.ref 47, .int x1, .int x2, .int x3, .int (0 : Int32)]) ⟨Or.inr rfl, Or.inr rfl, Or.inr rfl, Or.inr rfl, Or.inr rfl, trivial⟩ h
set_option maxRecDepth 100000 in
theorem bX7_turned_32 {P : Int32 → St → Prop} {S : St} (x1 : Int32) (x2 : Int32) (x3 : Int32) (x4 : Int32) (h : (((S.1 8) ≤ x4 → wX7_turned P 21 [.ref 47, .int x1, .int x2, .int (x3 + (1 : Int32)), .retAddr 0] [] S) ∧ (¬ (S.1 8) ≤ x4 → vp_in x3 8 ∧ vp_in x4 8 ∧ ((((S.2.2.1 34) x4.toNatClampNeg) ≤ ((S.2.2.1 34) x3.toNatClampNeg) → wX7_turned P 32 [.ref 47, .int x1, .int (x2 + (0 : Int32)), .int x3, .int (x4 + (1 : Int32))] [] S) ∧ (¬ ((S.2.2.1 34) x4.toNatClampNeg) ≤ ((S.2.2.1 34) x3.toNatClampNeg) → tX7_turns x1 x3 x4 S (fun r4 S3 => ((r4 = 0 → wX7_turned P 32 [.ref 47, .int x1, .int (x2 + (0 : Int32)), .int x3, .int (x4 + (1 : Int32))] [] S3) ∧ (¬ r4 = 0 → wX7_turned P 32 [.ref 47, .int x1, .int (x2 + (1 : Int32)), .int x3, .int (x4 + (1 : Int32))] [] S3)))))))) : wX7_turned P 32 [.ref 47, .int x1, .int x2, .int x3, .int x4] [] S := by
  refine wp_iload dX7_turned_32 rfl ?_
  refine wp_aload_n dX7_turned_34 rfl rfl ?_
  refine wp_get (q := 47) dX7_turned_35 fX7_7 rfl rfl ?_
  refine wp_icmp_ge (tgt := 82) dX7_turned_38 (by decide) (fun c => ?_) (fun c => ?_)
  · have h := h.1 c
    refine wp_iinc (Ms := [.ref 47, .int x1, .int x2, .int (x3 + (1 : Int32)), .int x4]) (v := x3 + (1 : Int32)) dX7_turned_82 rfl rfl (by decide) rfl ?_
    refine wp_goto (tgt := 21) dX7_turned_85 (by decide) ?_
    exact wp_le (Ms := [.ref 47, .int x1, .int x2, .int (x3 + (1 : Int32)), .retAddr 0]) ⟨Or.inr rfl, Or.inr rfl, Or.inr rfl, Or.inr rfl, Or.inl rfl, trivial⟩ h
  · have h := h.2 c
    refine wp_iload_n dX7_turned_41 rfl rfl ?_
    refine wp_aload_n dX7_turned_42 rfl rfl ?_
    refine wp_get (q := 47) dX7_turned_43 fX7_52 rfl rfl ?_
    refine wp_iload_n dX7_turned_46 rfl rfl ?_
    obtain ⟨q1, h⟩ := h
    refine wp_iald2 (q := 60) (j := x3.toNatClampNeg) dX7_turned_47 rfl q1 rfl ?_
    refine wp_aload_n dX7_turned_48 rfl rfl ?_
    refine wp_get (q := 47) dX7_turned_49 fX7_52 rfl rfl ?_
    refine wp_iload dX7_turned_52 rfl ?_
    obtain ⟨q2, h⟩ := h
    refine wp_iald2 (q := 60) (j := x4.toNatClampNeg) dX7_turned_54 rfl q2 rfl ?_
    refine wp_icmp_ge (tgt := 73) dX7_turned_55 (by decide) (fun c => ?_) (fun c => ?_)
    · have h := h.1 c
      refine wp_iconst (v := (0 : Int32)) dX7_turned_73 (by decide) ?_
      refine wp_iadd dX7_turned_74 ?_
      refine wp_istore_n (Ms := [.ref 47, .int x1, .int (x2 + (0 : Int32)), .int x3, .int x4]) dX7_turned_75 rfl (by decide) rfl ?_
      refine wp_iinc (Ms := [.ref 47, .int x1, .int (x2 + (0 : Int32)), .int x3, .int (x4 + (1 : Int32))]) (v := x4 + (1 : Int32)) dX7_turned_76 rfl rfl (by decide) rfl ?_
      refine wp_goto (tgt := 32) dX7_turned_79 (by decide) ?_
      exact wp_le (Ms := [.ref 47, .int x1, .int (x2 + (0 : Int32)), .int x3, .int (x4 + (1 : Int32))]) ⟨Or.inr rfl, Or.inr rfl, Or.inr rfl, Or.inr rfl, Or.inr rfl, trivial⟩ h
    · have h := h.2 c
      refine wp_aload_n dX7_turned_58 rfl rfl ?_
      refine wp_iload_n dX7_turned_59 rfl rfl ?_
      refine wp_iload_n dX7_turned_60 rfl rfl ?_
      refine wp_iload dX7_turned_61 rfl ?_
      refine wp_callV (q := 47) (As := [.int x1, .int x3, .int x4]) (rest := [.int x2]) dX7_turned_63 mX7_turns lX7_166 (by decide) rfl rfl rfl rfl (Nat.le_of_ble_eq_true rfl) (Nat.le_of_ble_eq_true rfl) h ?_
      rintro rv mh2 ⟨r4, S3, rfl, rfl, h⟩
      refine wp_if_eq (tgt := 73) dX7_turned_66 (by decide) (fun c => ?_) (fun c => ?_)
      · have h := h.1 c
        refine wp_iconst (v := (0 : Int32)) dX7_turned_73 (by decide) ?_
        refine wp_iadd dX7_turned_74 ?_
        refine wp_istore_n (Ms := [.ref 47, .int x1, .int (x2 + (0 : Int32)), .int x3, .int x4]) dX7_turned_75 rfl (by decide) rfl ?_
        refine wp_iinc (Ms := [.ref 47, .int x1, .int (x2 + (0 : Int32)), .int x3, .int (x4 + (1 : Int32))]) (v := x4 + (1 : Int32)) dX7_turned_76 rfl rfl (by decide) rfl ?_
        refine wp_goto (tgt := 32) dX7_turned_79 (by decide) ?_
        exact wp_le (Ms := [.ref 47, .int x1, .int (x2 + (0 : Int32)), .int x3, .int (x4 + (1 : Int32))]) ⟨Or.inr rfl, Or.inr rfl, Or.inr rfl, Or.inr rfl, Or.inr rfl, trivial⟩ h
      · have h := h.2 c
        refine wp_iconst (v := (1 : Int32)) dX7_turned_69 (by decide) ?_
        refine wp_goto (tgt := 74) dX7_turned_70 (by decide) ?_
        refine wp_iadd dX7_turned_74 ?_
        refine wp_istore_n (Ms := [.ref 47, .int x1, .int (x2 + (1 : Int32)), .int x3, .int x4]) dX7_turned_75 rfl (by decide) rfl ?_
        refine wp_iinc (Ms := [.ref 47, .int x1, .int (x2 + (1 : Int32)), .int x3, .int (x4 + (1 : Int32))]) (v := x4 + (1 : Int32)) dX7_turned_76 rfl rfl (by decide) rfl ?_
        refine wp_goto (tgt := 32) dX7_turned_79 (by decide) ?_
        exact wp_le (Ms := [.ref 47, .int x1, .int (x2 + (1 : Int32)), .int x3, .int (x4 + (1 : Int32))]) ⟨Or.inr rfl, Or.inr rfl, Or.inr rfl, Or.inr rfl, Or.inr rfl, trivial⟩ h
abbrev rX7_moves : Room := { frames := 2, cells := 0, slots := 0, locals := 49 }
abbrev wX7_moves (P : Int32 → St → Prop) (pc : Nat) (Ls stk : List Value) (S : St) : Prop := Wp cX7_moves RX7 5 rX7_moves (wFI .int P) pc Ls stk (enc S)
abbrev tX7_moves (a0 : Int32) (S : St) (P : Int32 → St → Prop) : Prop := wX7_moves P 0 (wl_en [.ref 47, .int a0] 5) [] S
set_option maxRecDepth 100000 in
theorem bX7_moves_0 {P : Int32 → St → Prop} {S : St} (a0 : Int32) (h : tX7_is a0 S (fun r2 S1 => ((¬ r2 = 0 → tX7_findOrder a0 S1 (fun S3 => wX7_moves P 19 [.ref 47, .int a0, .int (0 : Int32), .retAddr 0, .retAddr 0] [] S3)) ∧ (r2 = 0 → P (-1001 : Int32) S1)))) : tX7_moves a0 S P := by
  show wX7_moves P 0 [.ref 47, .int a0, .retAddr 0, .retAddr 0, .retAddr 0] [] S
  refine wp_aload_n dX7_moves_0 rfl rfl ?_
  refine wp_iload_n dX7_moves_1 rfl rfl ?_
  refine wp_callV (q := 47) (As := [.int a0]) (rest := []) dX7_moves_2 mX7_is lX7_69 (by decide) rfl rfl rfl rfl (Nat.le_of_ble_eq_true rfl) (Nat.le_of_ble_eq_true rfl) h ?_
  rintro rv mh2 ⟨r2, S1, rfl, rfl, h⟩
  refine wp_if_ne (tgt := 12) dX7_moves_5 (by decide) (fun c => ?_) (fun c => ?_)
  · have h := h.1 c
    refine wp_aload_n dX7_moves_12 rfl rfl ?_
    refine wp_iload_n dX7_moves_13 rfl rfl ?_
    refine wp_callV (q := 47) (As := [.int a0]) (rest := []) dX7_moves_14 mX7_findOrder lX7_175 (by decide) rfl rfl rfl rfl (Nat.le_of_ble_eq_true rfl) (Nat.le_of_ble_eq_true rfl) h ?_
    rintro rv mh2 ⟨S3, rfl, rfl, h⟩
    refine wp_iconst (v := (0 : Int32)) dX7_moves_17 (by decide) ?_
    refine wp_istore_n (Ms := [.ref 47, .int a0, .int (0 : Int32), .retAddr 0, .retAddr 0]) dX7_moves_18 rfl (by decide) rfl ?_
    exact wp_le (Ms := [.ref 47, .int a0, .int (0 : Int32), .retAddr 0, .retAddr 0]) ⟨Or.inr rfl, Or.inr rfl, Or.inr rfl, Or.inl rfl, Or.inl rfl, trivial⟩ h
  · have h := h.2 c
    refine wp_sipush (v := (-1001 : Int32)) dX7_moves_8 (by decide) ?_
    exact wp_iret dX7_moves_11 rfl rfl ⟨_, _, rfl, rfl, h⟩
set_option maxRecDepth 100000 in
theorem bX7_moves_19 {P : Int32 → St → Prop} {S : St} (x1 : Int32) (x2 : Int32) (h : (((S.1 8) ≤ x2 → tX7_findOrder (-1 : Int32) S (fun S1 => wX7_moves P 54 [.ref 47, .int x1, .int (0 : Int32), .int (0 : Int32), .retAddr 0] [] S1)) ∧ (¬ (S.1 8) ≤ x2 → vp_in x2 8 ∧ wX7_moves P 19 [.ref 47, .int x1, .int (x2 + (1 : Int32)), .retAddr 0, .retAddr 0] [] (sA S 35 (upd (S.2.2.1 35) x2.toNatClampNeg ((S.2.2.1 34) x2.toNatClampNeg)))))) : wX7_moves P 19 [.ref 47, .int x1, .int x2, .retAddr 0, .retAddr 0] [] S := by
  refine wp_iload_n dX7_moves_19 rfl rfl ?_
  refine wp_aload_n dX7_moves_20 rfl rfl ?_
  refine wp_get (q := 47) dX7_moves_21 fX7_7 rfl rfl ?_
  refine wp_icmp_ge (tgt := 45) dX7_moves_24 (by decide) (fun c => ?_) (fun c => ?_)
  · have h := h.1 c
    refine wp_aload_n dX7_moves_45 rfl rfl ?_
    refine wp_iconst (v := (-1 : Int32)) dX7_moves_46 (by decide) ?_
    refine wp_callV (q := 47) (As := [.int (-1 : Int32)]) (rest := []) dX7_moves_47 mX7_findOrder lX7_175 (by decide) rfl rfl rfl rfl (Nat.le_of_ble_eq_true rfl) (Nat.le_of_ble_eq_true rfl) h ?_
    rintro rv mh2 ⟨S1, rfl, rfl, h⟩
    refine wp_iconst (v := (0 : Int32)) dX7_moves_50 (by decide) ?_
    refine wp_istore_n (Ms := [.ref 47, .int x1, .int (0 : Int32), .retAddr 0, .retAddr 0]) dX7_moves_51 rfl (by decide) rfl ?_
    refine wp_iconst (v := (0 : Int32)) dX7_moves_52 (by decide) ?_
    refine wp_istore_n (Ms := [.ref 47, .int x1, .int (0 : Int32), .int (0 : Int32), .retAddr 0]) dX7_moves_53 rfl (by decide) rfl ?_
    exact wp_le (Ms := [.ref 47, .int x1, .int (0 : Int32), .int (0 : Int32), .retAddr 0]) ⟨Or.inr rfl, Or.inr rfl, Or.inr rfl, Or.inr rfl, Or.inl rfl, trivial⟩ h
  · have h := h.2 c
    refine wp_aload_n dX7_moves_27 rfl rfl ?_
    refine wp_get (q := 47) dX7_moves_28 fX7_55 rfl rfl ?_
    refine wp_iload_n dX7_moves_31 rfl rfl ?_
    refine wp_aload_n dX7_moves_32 rfl rfl ?_
    refine wp_get (q := 47) dX7_moves_33 fX7_52 rfl rfl ?_
    refine wp_iload_n dX7_moves_36 rfl rfl ?_
    obtain ⟨q2, h⟩ := h
    refine wp_iald2 (q := 60) (j := x2.toNatClampNeg) dX7_moves_37 rfl q2 rfl ?_
    refine wp_iast2 (q := 61) (j := x2.toNatClampNeg) (mh2 := enc (sA S 35 (upd (S.2.2.1 35) x2.toNatClampNeg ((S.2.2.1 34) x2.toNatClampNeg)))) dX7_moves_38 rfl q2 rfl (es_61 _ _) ?_
    refine wp_iinc (Ms := [.ref 47, .int x1, .int (x2 + (1 : Int32)), .retAddr 0, .retAddr 0]) (v := x2 + (1 : Int32)) dX7_moves_39 rfl rfl (by decide) rfl ?_
    refine wp_goto (tgt := 19) dX7_moves_42 (by decide) ?_
    exact wp_le (Ms := [.ref 47, .int x1, .int (x2 + (1 : Int32)), .retAddr 0, .retAddr 0]) ⟨Or.inr rfl, Or.inr rfl, Or.inr rfl, Or.inl rfl, Or.inl rfl, trivial⟩ h
set_option maxRecDepth 100000 in
theorem bX7_moves_54 {P : Int32 → St → Prop} {S : St} (x1 : Int32) (x2 : Int32) (x3 : Int32) (h : (((S.1 8) ≤ x3 → P x2 S) ∧ (¬ (S.1 8) ≤ x3 → vp_in x3 8 ∧ ((0 ≤ (((S.2.2.1 34) x3.toNatClampNeg) - ((S.2.2.1 35) x3.toNatClampNeg)) → (((((S.2.2.1 34) x3.toNatClampNeg) - ((S.2.2.1 35) x3.toNatClampNeg)) ≤ x2 → wX7_moves P 54 [.ref 47, .int x1, .int x2, .int (x3 + (1 : Int32)), .retAddr 0] [] S) ∧ (¬ (((S.2.2.1 34) x3.toNatClampNeg) - ((S.2.2.1 35) x3.toNatClampNeg)) ≤ x2 → wX7_moves P 54 [.ref 47, .int x1, .int (((S.2.2.1 34) x3.toNatClampNeg) - ((S.2.2.1 35) x3.toNatClampNeg)), .int (x3 + (1 : Int32)), .retAddr 0] [] S))) ∧ (¬ 0 ≤ (((S.2.2.1 34) x3.toNatClampNeg) - ((S.2.2.1 35) x3.toNatClampNeg)) → (((-(((S.2.2.1 34) x3.toNatClampNeg) - ((S.2.2.1 35) x3.toNatClampNeg))) ≤ x2 → wX7_moves P 54 [.ref 47, .int x1, .int x2, .int (x3 + (1 : Int32)), .retAddr 0] [] S) ∧ (¬ (-(((S.2.2.1 34) x3.toNatClampNeg) - ((S.2.2.1 35) x3.toNatClampNeg))) ≤ x2 → wX7_moves P 54 [.ref 47, .int x1, .int (-(((S.2.2.1 34) x3.toNatClampNeg) - ((S.2.2.1 35) x3.toNatClampNeg))), .int (x3 + (1 : Int32)), .retAddr 0] [] S))))))) : wX7_moves P 54 [.ref 47, .int x1, .int x2, .int x3, .retAddr 0] [] S := by
  refine wp_iload_n dX7_moves_54 rfl rfl ?_
  refine wp_aload_n dX7_moves_55 rfl rfl ?_
  refine wp_get (q := 47) dX7_moves_56 fX7_7 rfl rfl ?_
  refine wp_icmp_ge (tgt := 111) dX7_moves_59 (by decide) (fun c => ?_) (fun c => ?_)
  · have h := h.1 c
    refine wp_iload_n dX7_moves_111 rfl rfl ?_
    exact wp_iret dX7_moves_112 rfl rfl ⟨_, _, rfl, rfl, h⟩
  · have h := h.2 c
    refine wp_aload_n dX7_moves_62 rfl rfl ?_
    refine wp_get (q := 47) dX7_moves_63 fX7_52 rfl rfl ?_
    refine wp_iload_n dX7_moves_66 rfl rfl ?_
    obtain ⟨q1, h⟩ := h
    refine wp_iald2 (q := 60) (j := x3.toNatClampNeg) dX7_moves_67 rfl q1 rfl ?_
    refine wp_aload_n dX7_moves_68 rfl rfl ?_
    refine wp_get (q := 47) dX7_moves_69 fX7_55 rfl rfl ?_
    refine wp_iload_n dX7_moves_72 rfl rfl ?_
    refine wp_iald2 (q := 61) (j := x3.toNatClampNeg) dX7_moves_73 rfl q1 rfl ?_
    refine wp_isub dX7_moves_74 ?_
    refine wp_istore (Ms := [.ref 47, .int x1, .int x2, .int x3, .int (((S.2.2.1 34) x3.toNatClampNeg) - ((S.2.2.1 35) x3.toNatClampNeg))]) dX7_moves_75 (by decide) rfl ?_
    refine wp_iload dX7_moves_77 rfl ?_
    refine wp_if_ge (tgt := 88) dX7_moves_79 (by decide) (fun c => ?_) (fun c => ?_)
    · have h := h.1 c
      refine wp_iload dX7_moves_88 rfl ?_
      refine wp_istore (Ms := [.ref 47, .int x1, .int x2, .int x3, .int (((S.2.2.1 34) x3.toNatClampNeg) - ((S.2.2.1 35) x3.toNatClampNeg))]) dX7_moves_90 (by decide) rfl ?_
      refine wp_iload dX7_moves_92 rfl ?_
      refine wp_iload_n dX7_moves_94 rfl rfl ?_
      refine wp_icmp_le (tgt := 103) dX7_moves_95 (by decide) (fun c => ?_) (fun c => ?_)
      · have h := h.1 c
        refine wp_iload_n dX7_moves_103 rfl rfl ?_
        refine wp_istore_n (Ms := [.ref 47, .int x1, .int x2, .int x3, .int (((S.2.2.1 34) x3.toNatClampNeg) - ((S.2.2.1 35) x3.toNatClampNeg))]) dX7_moves_104 rfl (by decide) rfl ?_
        refine wp_iinc (Ms := [.ref 47, .int x1, .int x2, .int (x3 + (1 : Int32)), .int (((S.2.2.1 34) x3.toNatClampNeg) - ((S.2.2.1 35) x3.toNatClampNeg))]) (v := x3 + (1 : Int32)) dX7_moves_105 rfl rfl (by decide) rfl ?_
        refine wp_goto (tgt := 54) dX7_moves_108 (by decide) ?_
        exact wp_le (Ms := [.ref 47, .int x1, .int x2, .int (x3 + (1 : Int32)), .retAddr 0]) ⟨Or.inr rfl, Or.inr rfl, Or.inr rfl, Or.inr rfl, Or.inl rfl, trivial⟩ h
      · have h := h.2 c
        refine wp_iload dX7_moves_98 rfl ?_
        refine wp_goto (tgt := 104) dX7_moves_100 (by decide) ?_
        refine wp_istore_n (Ms := [.ref 47, .int x1, .int (((S.2.2.1 34) x3.toNatClampNeg) - ((S.2.2.1 35) x3.toNatClampNeg)), .int x3, .int (((S.2.2.1 34) x3.toNatClampNeg) - ((S.2.2.1 35) x3.toNatClampNeg))]) dX7_moves_104 rfl (by decide) rfl ?_
        refine wp_iinc (Ms := [.ref 47, .int x1, .int (((S.2.2.1 34) x3.toNatClampNeg) - ((S.2.2.1 35) x3.toNatClampNeg)), .int (x3 + (1 : Int32)), .int (((S.2.2.1 34) x3.toNatClampNeg) - ((S.2.2.1 35) x3.toNatClampNeg))]) (v := x3 + (1 : Int32)) dX7_moves_105 rfl rfl (by decide) rfl ?_
        refine wp_goto (tgt := 54) dX7_moves_108 (by decide) ?_
        exact wp_le (Ms := [.ref 47, .int x1, .int (((S.2.2.1 34) x3.toNatClampNeg) - ((S.2.2.1 35) x3.toNatClampNeg)), .int (x3 + (1 : Int32)), .retAddr 0]) ⟨Or.inr rfl, Or.inr rfl, Or.inr rfl, Or.inr rfl, Or.inl rfl, trivial⟩ h
    · have h := h.2 c
      refine wp_iload dX7_moves_82 rfl ?_
      refine wp_ineg dX7_moves_84 ?_
      refine wp_goto (tgt := 90) dX7_moves_85 (by decide) ?_
      refine wp_istore (Ms := [.ref 47, .int x1, .int x2, .int x3, .int (-(((S.2.2.1 34) x3.toNatClampNeg) - ((S.2.2.1 35) x3.toNatClampNeg)))]) dX7_moves_90 (by decide) rfl ?_
      refine wp_iload dX7_moves_92 rfl ?_
      refine wp_iload_n dX7_moves_94 rfl rfl ?_
      refine wp_icmp_le (tgt := 103) dX7_moves_95 (by decide) (fun c => ?_) (fun c => ?_)
      · have h := h.1 c
        refine wp_iload_n dX7_moves_103 rfl rfl ?_
        refine wp_istore_n (Ms := [.ref 47, .int x1, .int x2, .int x3, .int (-(((S.2.2.1 34) x3.toNatClampNeg) - ((S.2.2.1 35) x3.toNatClampNeg)))]) dX7_moves_104 rfl (by decide) rfl ?_
        refine wp_iinc (Ms := [.ref 47, .int x1, .int x2, .int (x3 + (1 : Int32)), .int (-(((S.2.2.1 34) x3.toNatClampNeg) - ((S.2.2.1 35) x3.toNatClampNeg)))]) (v := x3 + (1 : Int32)) dX7_moves_105 rfl rfl (by decide) rfl ?_
        refine wp_goto (tgt := 54) dX7_moves_108 (by decide) ?_
        exact wp_le (Ms := [.ref 47, .int x1, .int x2, .int (x3 + (1 : Int32)), .retAddr 0]) ⟨Or.inr rfl, Or.inr rfl, Or.inr rfl, Or.inr rfl, Or.inl rfl, trivial⟩ h
      · have h := h.2 c
        refine wp_iload dX7_moves_98 rfl ?_
        refine wp_goto (tgt := 104) dX7_moves_100 (by decide) ?_
        refine wp_istore_n (Ms := [.ref 47, .int x1, .int (-(((S.2.2.1 34) x3.toNatClampNeg) - ((S.2.2.1 35) x3.toNatClampNeg))), .int x3, .int (-(((S.2.2.1 34) x3.toNatClampNeg) - ((S.2.2.1 35) x3.toNatClampNeg)))]) dX7_moves_104 rfl (by decide) rfl ?_
        refine wp_iinc (Ms := [.ref 47, .int x1, .int (-(((S.2.2.1 34) x3.toNatClampNeg) - ((S.2.2.1 35) x3.toNatClampNeg))), .int (x3 + (1 : Int32)), .int (-(((S.2.2.1 34) x3.toNatClampNeg) - ((S.2.2.1 35) x3.toNatClampNeg)))]) (v := x3 + (1 : Int32)) dX7_moves_105 rfl rfl (by decide) rfl ?_
        refine wp_goto (tgt := 54) dX7_moves_108 (by decide) ?_
        exact wp_le (Ms := [.ref 47, .int x1, .int (-(((S.2.2.1 34) x3.toNatClampNeg) - ((S.2.2.1 35) x3.toNatClampNeg))), .int (x3 + (1 : Int32)), .retAddr 0]) ⟨Or.inr rfl, Or.inr rfl, Or.inr rfl, Or.inr rfl, Or.inl rfl, trivial⟩ h
abbrev rX7_spread_ : Room := { frames := 2, cells := 0, slots := 0, locals := 46 }
abbrev wX7_spread_ (P : Int32 → St → Prop) (pc : Nat) (Ls stk : List Value) (S : St) : Prop := Wp cX7_spread_ RX7 2 rX7_spread_ (wFI .int P) pc Ls stk (enc S)
abbrev tX7_spread_ (a0 : Int32) (S : St) (P : Int32 → St → Prop) : Prop := wX7_spread_ P 0 (wl_en [.ref 47, .int a0] 2) [] S
set_option maxRecDepth 100000 in
theorem bX7_spread__0 {P : Int32 → St → Prop} {S : St} (a0 : Int32) (h : tX7_is a0 S (fun r2 S1 => ((r2 = 0 → P (-1001 : Int32) S1) ∧ (¬ r2 = 0 → tX7_spreadOf a0 S1 (fun r4 S3 => P r4 S3))))) : tX7_spread_ a0 S P := by
  show wX7_spread_ P 0 [.ref 47, .int a0] [] S
  refine wp_aload_n dX7_spread__0 rfl rfl ?_
  refine wp_iload_n dX7_spread__1 rfl rfl ?_
  refine wp_callV (q := 47) (As := [.int a0]) (rest := []) dX7_spread__2 mX7_is lX7_69 (by decide) rfl rfl rfl rfl (Nat.le_of_ble_eq_true rfl) (Nat.le_of_ble_eq_true rfl) h ?_
  rintro rv mh2 ⟨r2, S1, rfl, rfl, h⟩
  refine wp_if_eq (tgt := 16) dX7_spread__5 (by decide) (fun c => ?_) (fun c => ?_)
  · have h := h.1 c
    refine wp_sipush (v := (-1001 : Int32)) dX7_spread__16 (by decide) ?_
    exact wp_iret dX7_spread__19 rfl rfl ⟨_, _, rfl, rfl, h⟩
  · have h := h.2 c
    refine wp_aload_n dX7_spread__8 rfl rfl ?_
    refine wp_iload_n dX7_spread__9 rfl rfl ?_
    refine wp_callV (q := 47) (As := [.int a0]) (rest := []) dX7_spread__10 mX7_spreadOf lX7_119 (by decide) rfl rfl rfl rfl (Nat.le_of_ble_eq_true rfl) (Nat.le_of_ble_eq_true rfl) h ?_
    rintro rv mh2 ⟨r4, S3, rfl, rfl, h⟩
    refine wp_goto (tgt := 19) dX7_spread__13 (by decide) ?_
    exact wp_iret dX7_spread__19 rfl rfl ⟨_, _, rfl, rfl, h⟩
abbrev rX7_marksOf : Room := { frames := 0, cells := 0, slots := 0, locals := 0 }
abbrev wX7_marksOf (P : Int32 → St → Prop) (pc : Nat) (Ls stk : List Value) (S : St) : Prop := Wp cX7_marksOf RX7 4 rX7_marksOf (wFI .int P) pc Ls stk (enc S)
abbrev tX7_marksOf (a0 : Int32) (S : St) (P : Int32 → St → Prop) : Prop := wX7_marksOf P 0 (wl_en [.ref 47, .int a0] 4) [] S
set_option maxRecDepth 100000 in
theorem bX7_marksOf_0 {P : Int32 → St → Prop} {S : St} (a0 : Int32) (h : wX7_marksOf P 4 [.ref 47, .int a0, .int (0 : Int32), .int (0 : Int32)] [] S) : tX7_marksOf a0 S P := by
  show wX7_marksOf P 0 [.ref 47, .int a0, .retAddr 0, .retAddr 0] [] S
  refine wp_iconst (v := (0 : Int32)) dX7_marksOf_0 (by decide) ?_
  refine wp_istore_n (Ms := [.ref 47, .int a0, .int (0 : Int32), .retAddr 0]) dX7_marksOf_1 rfl (by decide) rfl ?_
  refine wp_iconst (v := (0 : Int32)) dX7_marksOf_2 (by decide) ?_
  refine wp_istore_n (Ms := [.ref 47, .int a0, .int (0 : Int32), .int (0 : Int32)]) dX7_marksOf_3 rfl (by decide) rfl ?_
  exact wp_le (Ms := [.ref 47, .int a0, .int (0 : Int32), .int (0 : Int32)]) ⟨Or.inr rfl, Or.inr rfl, Or.inr rfl, Or.inr rfl, trivial⟩ h
set_option maxRecDepth 100000 in
theorem bX7_marksOf_4 {P : Int32 → St → Prop} {S : St} (x1 : Int32) (x2 : Int32) (x3 : Int32) (h : (((S.1 8) ≤ x3 → P x2 S) ∧ (¬ (S.1 8) ≤ x3 → vp_in (((8 : Int32) * x1) + x3) 64 ∧ ((((S.2.2.1 26) (((8 : Int32) * x1) + x3).toNatClampNeg) < 0 → wX7_marksOf P 4 [.ref 47, .int x1, .int (x2 + (0 : Int32)), .int (x3 + (1 : Int32))] [] S) ∧ (¬ ((S.2.2.1 26) (((8 : Int32) * x1) + x3).toNatClampNeg) < 0 → wX7_marksOf P 4 [.ref 47, .int x1, .int (x2 + (1 : Int32)), .int (x3 + (1 : Int32))] [] S))))) : wX7_marksOf P 4 [.ref 47, .int x1, .int x2, .int x3] [] S := by
  refine wp_iload_n dX7_marksOf_4 rfl rfl ?_
  refine wp_aload_n dX7_marksOf_5 rfl rfl ?_
  refine wp_get (q := 47) dX7_marksOf_6 fX7_7 rfl rfl ?_
  refine wp_icmp_ge (tgt := 40) dX7_marksOf_9 (by decide) (fun c => ?_) (fun c => ?_)
  · have h := h.1 c
    refine wp_iload_n dX7_marksOf_40 rfl rfl ?_
    exact wp_iret dX7_marksOf_41 rfl rfl ⟨_, _, rfl, rfl, h⟩
  · have h := h.2 c
    refine wp_iload_n dX7_marksOf_12 rfl rfl ?_
    refine wp_aload_n dX7_marksOf_13 rfl rfl ?_
    refine wp_get (q := 47) dX7_marksOf_14 fX7_21 rfl rfl ?_
    refine wp_bipush (v := (8 : Int32)) dX7_marksOf_17 (by decide) ?_
    refine wp_iload_n dX7_marksOf_19 rfl rfl ?_
    refine wp_imul dX7_marksOf_20 ?_
    refine wp_iload_n dX7_marksOf_21 rfl rfl ?_
    refine wp_iadd dX7_marksOf_22 ?_
    obtain ⟨q1, h⟩ := h
    refine wp_iald2 (q := 50) (j := (((8 : Int32) * x1) + x3).toNatClampNeg) dX7_marksOf_23 rfl q1 rfl ?_
    refine wp_if_lt (tgt := 31) dX7_marksOf_24 (by decide) (fun c => ?_) (fun c => ?_)
    · have h := h.1 c
      refine wp_iconst (v := (0 : Int32)) dX7_marksOf_31 (by decide) ?_
      refine wp_iadd dX7_marksOf_32 ?_
      refine wp_istore_n (Ms := [.ref 47, .int x1, .int (x2 + (0 : Int32)), .int x3]) dX7_marksOf_33 rfl (by decide) rfl ?_
      refine wp_iinc (Ms := [.ref 47, .int x1, .int (x2 + (0 : Int32)), .int (x3 + (1 : Int32))]) (v := x3 + (1 : Int32)) dX7_marksOf_34 rfl rfl (by decide) rfl ?_
      refine wp_goto (tgt := 4) dX7_marksOf_37 (by decide) ?_
      exact wp_le (Ms := [.ref 47, .int x1, .int (x2 + (0 : Int32)), .int (x3 + (1 : Int32))]) ⟨Or.inr rfl, Or.inr rfl, Or.inr rfl, Or.inr rfl, trivial⟩ h
    · have h := h.2 c
      refine wp_iconst (v := (1 : Int32)) dX7_marksOf_27 (by decide) ?_
      refine wp_goto (tgt := 32) dX7_marksOf_28 (by decide) ?_
      refine wp_iadd dX7_marksOf_32 ?_
      refine wp_istore_n (Ms := [.ref 47, .int x1, .int (x2 + (1 : Int32)), .int x3]) dX7_marksOf_33 rfl (by decide) rfl ?_
      refine wp_iinc (Ms := [.ref 47, .int x1, .int (x2 + (1 : Int32)), .int (x3 + (1 : Int32))]) (v := x3 + (1 : Int32)) dX7_marksOf_34 rfl rfl (by decide) rfl ?_
      refine wp_goto (tgt := 4) dX7_marksOf_37 (by decide) ?_
      exact wp_le (Ms := [.ref 47, .int x1, .int (x2 + (1 : Int32)), .int (x3 + (1 : Int32))]) ⟨Or.inr rfl, Or.inr rfl, Or.inr rfl, Or.inr rfl, trivial⟩ h
abbrev rX7_next : Room := { frames := 2, cells := 0, slots := 0, locals := 46 }
abbrev wX7_next (P : Int32 → St → Prop) (pc : Nat) (Ls stk : List Value) (S : St) : Prop := Wp cX7_next RX7 4 rX7_next (wFI .int P) pc Ls stk (enc S)
abbrev tX7_next (a0 : Int32) (S : St) (P : Int32 → St → Prop) : Prop := wX7_next P 0 (wl_en [.ref 47, .int a0] 4) [] S
set_option maxRecDepth 100000 in
theorem bX7_next_0 {P : Int32 → St → Prop} {S : St} (a0 : Int32) (h : tX7_is a0 S (fun r2 S1 => ((¬ r2 = 0 → wX7_next P 16 [.ref 47, .int a0, .int (-1 : Int32), .int (0 : Int32)] [] S1) ∧ (r2 = 0 → P (-1001 : Int32) S1)))) : tX7_next a0 S P := by
  show wX7_next P 0 [.ref 47, .int a0, .retAddr 0, .retAddr 0] [] S
  refine wp_aload_n dX7_next_0 rfl rfl ?_
  refine wp_iload_n dX7_next_1 rfl rfl ?_
  refine wp_callV (q := 47) (As := [.int a0]) (rest := []) dX7_next_2 mX7_is lX7_69 (by decide) rfl rfl rfl rfl (Nat.le_of_ble_eq_true rfl) (Nat.le_of_ble_eq_true rfl) h ?_
  rintro rv mh2 ⟨r2, S1, rfl, rfl, h⟩
  refine wp_if_ne (tgt := 12) dX7_next_5 (by decide) (fun c => ?_) (fun c => ?_)
  · have h := h.1 c
    refine wp_iconst (v := (-1 : Int32)) dX7_next_12 (by decide) ?_
    refine wp_istore_n (Ms := [.ref 47, .int a0, .int (-1 : Int32), .retAddr 0]) dX7_next_13 rfl (by decide) rfl ?_
    refine wp_iconst (v := (0 : Int32)) dX7_next_14 (by decide) ?_
    refine wp_istore_n (Ms := [.ref 47, .int a0, .int (-1 : Int32), .int (0 : Int32)]) dX7_next_15 rfl (by decide) rfl ?_
    exact wp_le (Ms := [.ref 47, .int a0, .int (-1 : Int32), .int (0 : Int32)]) ⟨Or.inr rfl, Or.inr rfl, Or.inr rfl, Or.inr rfl, trivial⟩ h
  · have h := h.2 c
    refine wp_sipush (v := (-1001 : Int32)) dX7_next_8 (by decide) ?_
    exact wp_iret dX7_next_11 rfl rfl ⟨_, _, rfl, rfl, h⟩
set_option maxRecDepth 100000 in
theorem bX7_next_16 {P : Int32 → St → Prop} {S : St} (x1 : Int32) (x2 : Int32) (x3 : Int32) (h : (((S.1 8) ≤ x3 → P x2 S) ∧ (¬ (S.1 8) ≤ x3 → tX7_canMark x3 x1 S (fun r2 S1 => ((r2 = 0 → wX7_next P 16 [.ref 47, .int x1, .int x2, .int (x3 + (1 : Int32))] [] S1) ∧ (¬ r2 = 0 → vp_in (((8 : Int32) * x3) + x1) 64 ∧ ((0 ≤ ((S1.2.2.1 26) (((8 : Int32) * x3) + x1).toNatClampNeg) → wX7_next P 16 [.ref 47, .int x1, .int x2, .int (x3 + (1 : Int32))] [] S1) ∧ (¬ 0 ≤ ((S1.2.2.1 26) (((8 : Int32) * x3) + x1).toNatClampNeg) → ((x2 < 0 → wX7_next P 16 [.ref 47, .int x1, .int x3, .int (x3 + (1 : Int32))] [] S1) ∧ (¬ x2 < 0 → tX7_marksOf x3 S1 (fun r5 S4 => tX7_marksOf x2 S4 (fun r7 S6 => ((r7 ≤ r5 → wX7_next P 16 [.ref 47, .int x1, .int x2, .int (x3 + (1 : Int32))] [] S6) ∧ (¬ r7 ≤ r5 → wX7_next P 16 [.ref 47, .int x1, .int x3, .int (x3 + (1 : Int32))] [] S6)))))))))))))) : wX7_next P 16 [.ref 47, .int x1, .int x2, .int x3] [] S := by
  refine wp_iload_n dX7_next_16 rfl rfl ?_
  refine wp_aload_n dX7_next_17 rfl rfl ?_
  refine wp_get (q := 47) dX7_next_18 fX7_7 rfl rfl ?_
  refine wp_icmp_ge (tgt := 72) dX7_next_21 (by decide) (fun c => ?_) (fun c => ?_)
  · have h := h.1 c
    refine wp_iload_n dX7_next_72 rfl rfl ?_
    exact wp_iret dX7_next_73 rfl rfl ⟨_, _, rfl, rfl, h⟩
  · have h := h.2 c
    refine wp_aload_n dX7_next_24 rfl rfl ?_
    refine wp_iload_n dX7_next_25 rfl rfl ?_
    refine wp_iload_n dX7_next_26 rfl rfl ?_
    refine wp_callV (q := 47) (As := [.int x3, .int x1]) (rest := []) dX7_next_27 mX7_canMark lX7_77 (by decide) rfl rfl rfl rfl (Nat.le_of_ble_eq_true rfl) (Nat.le_of_ble_eq_true rfl) h ?_
    rintro rv mh2 ⟨r2, S1, rfl, rfl, h⟩
    refine wp_if_eq (tgt := 66) dX7_next_30 (by decide) (fun c => ?_) (fun c => ?_)
    · have h := h.1 c
      refine wp_iinc (Ms := [.ref 47, .int x1, .int x2, .int (x3 + (1 : Int32))]) (v := x3 + (1 : Int32)) dX7_next_66 rfl rfl (by decide) rfl ?_
      refine wp_goto (tgt := 16) dX7_next_69 (by decide) ?_
      exact wp_le (Ms := [.ref 47, .int x1, .int x2, .int (x3 + (1 : Int32))]) ⟨Or.inr rfl, Or.inr rfl, Or.inr rfl, Or.inr rfl, trivial⟩ h
    · have h := h.2 c
      refine wp_aload_n dX7_next_33 rfl rfl ?_
      refine wp_get (q := 47) dX7_next_34 fX7_21 rfl rfl ?_
      refine wp_bipush (v := (8 : Int32)) dX7_next_37 (by decide) ?_
      refine wp_iload_n dX7_next_39 rfl rfl ?_
      refine wp_imul dX7_next_40 ?_
      refine wp_iload_n dX7_next_41 rfl rfl ?_
      refine wp_iadd dX7_next_42 ?_
      obtain ⟨q3, h⟩ := h
      refine wp_iald2 (q := 50) (j := (((8 : Int32) * x3) + x1).toNatClampNeg) dX7_next_43 rfl q3 rfl ?_
      refine wp_if_ge (tgt := 66) dX7_next_44 (by decide) (fun c => ?_) (fun c => ?_)
      · have h := h.1 c
        refine wp_iinc (Ms := [.ref 47, .int x1, .int x2, .int (x3 + (1 : Int32))]) (v := x3 + (1 : Int32)) dX7_next_66 rfl rfl (by decide) rfl ?_
        refine wp_goto (tgt := 16) dX7_next_69 (by decide) ?_
        exact wp_le (Ms := [.ref 47, .int x1, .int x2, .int (x3 + (1 : Int32))]) ⟨Or.inr rfl, Or.inr rfl, Or.inr rfl, Or.inr rfl, trivial⟩ h
      · have h := h.2 c
        refine wp_iload_n dX7_next_47 rfl rfl ?_
        refine wp_if_lt (tgt := 64) dX7_next_48 (by decide) (fun c => ?_) (fun c => ?_)
        · have h := h.1 c
          refine wp_iload_n dX7_next_64 rfl rfl ?_
          refine wp_istore_n (Ms := [.ref 47, .int x1, .int x3, .int x3]) dX7_next_65 rfl (by decide) rfl ?_
          refine wp_iinc (Ms := [.ref 47, .int x1, .int x3, .int (x3 + (1 : Int32))]) (v := x3 + (1 : Int32)) dX7_next_66 rfl rfl (by decide) rfl ?_
          refine wp_goto (tgt := 16) dX7_next_69 (by decide) ?_
          exact wp_le (Ms := [.ref 47, .int x1, .int x3, .int (x3 + (1 : Int32))]) ⟨Or.inr rfl, Or.inr rfl, Or.inr rfl, Or.inr rfl, trivial⟩ h
        · have h := h.2 c
          refine wp_aload_n dX7_next_51 rfl rfl ?_
          refine wp_iload_n dX7_next_52 rfl rfl ?_
          refine wp_callV (q := 47) (As := [.int x3]) (rest := []) dX7_next_53 mX7_marksOf lX7_178 (by decide) rfl rfl rfl rfl (Nat.le_of_ble_eq_true rfl) (Nat.le_of_ble_eq_true rfl) h ?_
          rintro rv mh2 ⟨r5, S4, rfl, rfl, h⟩
          refine wp_aload_n dX7_next_56 rfl rfl ?_
          refine wp_iload_n dX7_next_57 rfl rfl ?_
          refine wp_callV (q := 47) (As := [.int x2]) (rest := [.int r5]) dX7_next_58 mX7_marksOf lX7_178 (by decide) rfl rfl rfl rfl (Nat.le_of_ble_eq_true rfl) (Nat.le_of_ble_eq_true rfl) h ?_
          rintro rv mh2 ⟨r7, S6, rfl, rfl, h⟩
          refine wp_icmp_ge (tgt := 66) dX7_next_61 (by decide) (fun c => ?_) (fun c => ?_)
          · have h := h.1 c
            refine wp_iinc (Ms := [.ref 47, .int x1, .int x2, .int (x3 + (1 : Int32))]) (v := x3 + (1 : Int32)) dX7_next_66 rfl rfl (by decide) rfl ?_
            refine wp_goto (tgt := 16) dX7_next_69 (by decide) ?_
            exact wp_le (Ms := [.ref 47, .int x1, .int x2, .int (x3 + (1 : Int32))]) ⟨Or.inr rfl, Or.inr rfl, Or.inr rfl, Or.inr rfl, trivial⟩ h
          · have h := h.2 c
            refine wp_iload_n dX7_next_64 rfl rfl ?_
            refine wp_istore_n (Ms := [.ref 47, .int x1, .int x3, .int x3]) dX7_next_65 rfl (by decide) rfl ?_
            refine wp_iinc (Ms := [.ref 47, .int x1, .int x3, .int (x3 + (1 : Int32))]) (v := x3 + (1 : Int32)) dX7_next_66 rfl rfl (by decide) rfl ?_
            refine wp_goto (tgt := 16) dX7_next_69 (by decide) ?_
            exact wp_le (Ms := [.ref 47, .int x1, .int x3, .int (x3 + (1 : Int32))]) ⟨Or.inr rfl, Or.inr rfl, Or.inr rfl, Or.inr rfl, trivial⟩ h
abbrev rX7_digest : Room := { frames := 0, cells := 0, slots := 0, locals := 0 }
abbrev wX7_digest (P : Int32 → St → Prop) (pc : Nat) (Ls stk : List Value) (S : St) : Prop := Wp cX7_digest RX7 4 rX7_digest (wFI .int P) pc Ls stk (enc S)
abbrev tX7_digest  (S : St) (P : Int32 → St → Prop) : Prop := wX7_digest P 0 (wl_en [.ref 47] 4) [] S
set_option maxRecDepth 100000 in
theorem bX7_digest_0 {P : Int32 → St → Prop} {S : St}  (h : wX7_digest P 5 [.ref 47, .int (7 : Int32), .int (0 : Int32), .retAddr 0] [] S) : tX7_digest  S P := by
  show wX7_digest P 0 [.ref 47, .retAddr 0, .retAddr 0, .retAddr 0] [] S
  refine wp_bipush (v := (7 : Int32)) dX7_digest_0 (by decide) ?_
  refine wp_istore_n (Ms := [.ref 47, .int (7 : Int32), .retAddr 0, .retAddr 0]) dX7_digest_2 rfl (by decide) rfl ?_
  refine wp_iconst (v := (0 : Int32)) dX7_digest_3 (by decide) ?_
  refine wp_istore_n (Ms := [.ref 47, .int (7 : Int32), .int (0 : Int32), .retAddr 0]) dX7_digest_4 rfl (by decide) rfl ?_
  exact wp_le (Ms := [.ref 47, .int (7 : Int32), .int (0 : Int32), .retAddr 0]) ⟨Or.inr rfl, Or.inr rfl, Or.inr rfl, Or.inl rfl, trivial⟩ h
set_option maxRecDepth 100000 in
theorem bX7_digest_5 {P : Int32 → St → Prop} {S : St} (x1 : Int32) (x2 : Int32) (h : (((S.1 8) ≤ x2 → P x1 S) ∧ (¬ (S.1 8) ≤ x2 → wX7_digest P 15 [.ref 47, .int x1, .int x2, .int (0 : Int32)] [] S))) : wX7_digest P 5 [.ref 47, .int x1, .int x2, .retAddr 0] [] S := by
  refine wp_iload_n dX7_digest_5 rfl rfl ?_
  refine wp_aload_n dX7_digest_6 rfl rfl ?_
  refine wp_get (q := 47) dX7_digest_7 fX7_7 rfl rfl ?_
  refine wp_icmp_ge (tgt := 64) dX7_digest_10 (by decide) (fun c => ?_) (fun c => ?_)
  · have h := h.1 c
    refine wp_iload_n dX7_digest_64 rfl rfl ?_
    exact wp_iret dX7_digest_65 rfl rfl ⟨_, _, rfl, rfl, h⟩
  · have h := h.2 c
    refine wp_iconst (v := (0 : Int32)) dX7_digest_13 (by decide) ?_
    refine wp_istore_n (Ms := [.ref 47, .int x1, .int x2, .int (0 : Int32)]) dX7_digest_14 rfl (by decide) rfl ?_
    exact wp_le (Ms := [.ref 47, .int x1, .int x2, .int (0 : Int32)]) ⟨Or.inr rfl, Or.inr rfl, Or.inr rfl, Or.inr rfl, trivial⟩ h
set_option maxRecDepth 100000 in
theorem bX7_digest_15 {P : Int32 → St → Prop} {S : St} (x1 : Int32) (x2 : Int32) (x3 : Int32) (h : (((S.1 8) ≤ x3 → vp_in x2 8 ∧ wX7_digest P 5 [.ref 47, .int (((31 : Int32) * x1) + ((S.2.2.1 27) x2.toNatClampNeg)), .int (x2 + (1 : Int32)), .retAddr 0] [] S) ∧ (¬ (S.1 8) ≤ x3 → vp_in (((8 : Int32) * x3) + x2) 64 ∧ wX7_digest P 15 [.ref 47, .int (((31 : Int32) * x1) + ((S.2.2.1 26) (((8 : Int32) * x3) + x2).toNatClampNeg)), .int x2, .int (x3 + (1 : Int32))] [] S))) : wX7_digest P 15 [.ref 47, .int x1, .int x2, .int x3] [] S := by
  refine wp_iload_n dX7_digest_15 rfl rfl ?_
  refine wp_aload_n dX7_digest_16 rfl rfl ?_
  refine wp_get (q := 47) dX7_digest_17 fX7_7 rfl rfl ?_
  refine wp_icmp_ge (tgt := 46) dX7_digest_20 (by decide) (fun c => ?_) (fun c => ?_)
  · have h := h.1 c
    refine wp_bipush (v := (31 : Int32)) dX7_digest_46 (by decide) ?_
    refine wp_iload_n dX7_digest_48 rfl rfl ?_
    refine wp_imul dX7_digest_49 ?_
    refine wp_aload_n dX7_digest_50 rfl rfl ?_
    refine wp_get (q := 47) dX7_digest_51 fX7_24 rfl rfl ?_
    refine wp_iload_n dX7_digest_54 rfl rfl ?_
    obtain ⟨q1, h⟩ := h
    refine wp_iald2 (q := 51) (j := x2.toNatClampNeg) dX7_digest_55 rfl q1 rfl ?_
    refine wp_iadd dX7_digest_56 ?_
    refine wp_istore_n (Ms := [.ref 47, .int (((31 : Int32) * x1) + ((S.2.2.1 27) x2.toNatClampNeg)), .int x2, .int x3]) dX7_digest_57 rfl (by decide) rfl ?_
    refine wp_iinc (Ms := [.ref 47, .int (((31 : Int32) * x1) + ((S.2.2.1 27) x2.toNatClampNeg)), .int (x2 + (1 : Int32)), .int x3]) (v := x2 + (1 : Int32)) dX7_digest_58 rfl rfl (by decide) rfl ?_
    refine wp_goto (tgt := 5) dX7_digest_61 (by decide) ?_
    exact wp_le (Ms := [.ref 47, .int (((31 : Int32) * x1) + ((S.2.2.1 27) x2.toNatClampNeg)), .int (x2 + (1 : Int32)), .retAddr 0]) ⟨Or.inr rfl, Or.inr rfl, Or.inr rfl, Or.inl rfl, trivial⟩ h
  · have h := h.2 c
    refine wp_bipush (v := (31 : Int32)) dX7_digest_23 (by decide) ?_
    refine wp_iload_n dX7_digest_25 rfl rfl ?_
    refine wp_imul dX7_digest_26 ?_
    refine wp_aload_n dX7_digest_27 rfl rfl ?_
    refine wp_get (q := 47) dX7_digest_28 fX7_21 rfl rfl ?_
    refine wp_bipush (v := (8 : Int32)) dX7_digest_31 (by decide) ?_
    refine wp_iload_n dX7_digest_33 rfl rfl ?_
    refine wp_imul dX7_digest_34 ?_
    refine wp_iload_n dX7_digest_35 rfl rfl ?_
    refine wp_iadd dX7_digest_36 ?_
    obtain ⟨q2, h⟩ := h
    refine wp_iald2 (q := 50) (j := (((8 : Int32) * x3) + x2).toNatClampNeg) dX7_digest_37 rfl q2 rfl ?_
    refine wp_iadd dX7_digest_38 ?_
    refine wp_istore_n (Ms := [.ref 47, .int (((31 : Int32) * x1) + ((S.2.2.1 26) (((8 : Int32) * x3) + x2).toNatClampNeg)), .int x2, .int x3]) dX7_digest_39 rfl (by decide) rfl ?_
    refine wp_iinc (Ms := [.ref 47, .int (((31 : Int32) * x1) + ((S.2.2.1 26) (((8 : Int32) * x3) + x2).toNatClampNeg)), .int x2, .int (x3 + (1 : Int32))]) (v := x3 + (1 : Int32)) dX7_digest_40 rfl rfl (by decide) rfl ?_
    refine wp_goto (tgt := 15) dX7_digest_43 (by decide) ?_
    exact wp_le (Ms := [.ref 47, .int (((31 : Int32) * x1) + ((S.2.2.1 26) (((8 : Int32) * x3) + x2).toNatClampNeg)), .int x2, .int (x3 + (1 : Int32))]) ⟨Or.inr rfl, Or.inr rfl, Or.inr rfl, Or.inr rfl, trivial⟩ h
