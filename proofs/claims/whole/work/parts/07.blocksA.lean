abbrev rX0_start : Room := { frames := 1, cells := 0, slots := 0, locals := 24 }
abbrev wX0_start (P : St → Prop) (pc : Nat) (Ls stk : List Value) (S : St) : Prop := Wp cX0_start RX0 3 rX0_start (wFV P) pc Ls stk (enc S)
abbrev tX0_start (a0 : Int32) (S : St) (P : St → Prop) : Prop := wX0_start P 0 (wl_en [.ref 21, .int a0] 3) [] S
set_option maxRecDepth 100000 in
theorem bX0_start_0 {P : St → Prop} {S : St} (a0 : Int32) (h : wX0_start P 16 [.ref 21, .int a0, .int (0 : Int32)] [] (sI S 5 (if (0 : Int32) < (if (10 : Int32) < a0 then (10 : Int32) else a0) then if (10 : Int32) < a0 then (10 : Int32) else a0 else (0 : Int32)))) : tX0_start a0 S P := by
  show wX0_start P 0 [.ref 21, .int a0, .retAddr 0] [] S
  refine wp_aload_n dX0_start_0 rfl rfl ?_
  refine wp_iconst (v := (0 : Int32)) dX0_start_1 (by decide) ?_
  refine wp_iload_n dX0_start_2 rfl rfl ?_
  refine wp_bipush (v := (10 : Int32)) dX0_start_3 (by decide) ?_
  refine wp_mmin dX0_start_5 lX0_20 (by decide) (Nat.le_of_ble_eq_true rfl) ?_
  refine wp_mmax dX0_start_8 lX0_26 (by decide) (Nat.le_of_ble_eq_true rfl) ?_
  refine wp_put (q := 21) (mh2 := enc (sI S 5 (if (0 : Int32) < (if (10 : Int32) < a0 then (10 : Int32) else a0) then if (10 : Int32) < a0 then (10 : Int32) else a0 else (0 : Int32)))) dX0_start_11 fX0_16 (by decide) rfl (Nat.le_of_ble_eq_true rfl) (fun _ _ => rfl) rfl rfl (eo_21_1 _ _) ?_
  refine wp_iconst (v := (0 : Int32)) dX0_start_14 (by decide) ?_
  refine wp_istore_n (Ms := [.ref 21, .int a0, .int (0 : Int32)]) dX0_start_15 rfl (by decide) rfl ?_
  exact wp_le (Ms := [.ref 21, .int a0, .int (0 : Int32)]) ⟨Or.inr rfl, Or.inr rfl, Or.inr rfl, trivial⟩ h
set_option maxRecDepth 100000 in
theorem bX0_start_16 {P : St → Prop} {S : St} (x1 : Int32) (x2 : Int32) (h : (((S.1 5) ≤ x2 → P S) ∧ (¬ (S.1 5) ≤ x2 → vp_in x2 10 ∧ wX0_start P 16 [.ref 21, .int x1, .int (x2 + (1 : Int32))] [] (sB S (3 + x2.toNatClampNeg) (wfill (S.2.2.2 (3 + x2.toNatClampNeg)) 11 (0 : Int64)))))) : wX0_start P 16 [.ref 21, .int x1, .int x2] [] S := by
  refine wp_iload_n dX0_start_16 rfl rfl ?_
  refine wp_aload_n dX0_start_17 rfl rfl ?_
  refine wp_get (q := 21) dX0_start_18 fX0_16 rfl rfl ?_
  refine wp_icmp_ge (tgt := 40) dX0_start_21 (by decide) (fun c => ?_) (fun c => ?_)
  · have h := h.1 c
    exact wp_vret dX0_start_40 rfl ⟨_, rfl, rfl, h⟩
  · have h := h.2 c
    refine wp_aload_n dX0_start_24 rfl rfl ?_
    refine wp_get (q := 21) dX0_start_25 fX0_11 rfl rfl ?_
    refine wp_iload_n dX0_start_28 rfl rfl ?_
    obtain ⟨q1, h⟩ := h
    refine wp_aald (q := 22) dX0_start_29 rfl rfl q1 (encR q1) ?_
    refine wp_lconst (v := (0 : Int64)) dX0_start_30 (by decide) ?_
    refine wp_fillL (mh2 := enc (sB S (3 + x2.toNatClampNeg) (wfill (S.2.2.2 (3 + x2.toNatClampNeg)) 11 (0 : Int64)))) dX0_start_31 lX0_29 (by decide) (encE _ q1) (by decide) (encEs _ q1 _) (Nat.le_of_ble_eq_true rfl) ?_
    refine wp_iinc (Ms := [.ref 21, .int x1, .int (x2 + (1 : Int32))]) (v := x2 + (1 : Int32)) dX0_start_34 rfl rfl (by decide) rfl ?_
    refine wp_goto (tgt := 16) dX0_start_37 (by decide) ?_
    exact wp_le (Ms := [.ref 21, .int x1, .int (x2 + (1 : Int32))]) ⟨Or.inr rfl, Or.inr rfl, Or.inr rfl, trivial⟩ h
abbrev rX0_holds : Room := { frames := 0, cells := 0, slots := 0, locals := 0 }
abbrev wX0_holds (P : Int32 → St → Prop) (pc : Nat) (Ls stk : List Value) (S : St) : Prop := Wp cX0_holds RX0 2 rX0_holds (wFI .boolean P) pc Ls stk (enc S)
abbrev tX0_holds (a0 : Int32) (S : St) (P : Int32 → St → Prop) : Prop := wX0_holds P 0 (wl_en [.ref 21, .int a0] 2) [] S
set_option maxRecDepth 100000 in
theorem bX0_holds_0 {P : Int32 → St → Prop} {S : St} (a0 : Int32) (h : ((a0 < 0 → P (0 : Int32) S) ∧ (¬ a0 < 0 → (((S.1 5) ≤ a0 → P (0 : Int32) S) ∧ (¬ (S.1 5) ≤ a0 → P (1 : Int32) S))))) : tX0_holds a0 S P := by
  show wX0_holds P 0 [.ref 21, .int a0] [] S
  refine wp_iload_n dX0_holds_0 rfl rfl ?_
  refine wp_if_lt (tgt := 16) dX0_holds_1 (by decide) (fun c => ?_) (fun c => ?_)
  · have h := h.1 c
    refine wp_iconst (v := (0 : Int32)) dX0_holds_16 (by decide) ?_
    exact wp_iret dX0_holds_17 rfl rfl ⟨_, _, rfl, rfl, h⟩
  · have h := h.2 c
    refine wp_iload_n dX0_holds_4 rfl rfl ?_
    refine wp_aload_n dX0_holds_5 rfl rfl ?_
    refine wp_get (q := 21) dX0_holds_6 fX0_16 rfl rfl ?_
    refine wp_icmp_ge (tgt := 16) dX0_holds_9 (by decide) (fun c => ?_) (fun c => ?_)
    · have h := h.1 c
      refine wp_iconst (v := (0 : Int32)) dX0_holds_16 (by decide) ?_
      exact wp_iret dX0_holds_17 rfl rfl ⟨_, _, rfl, rfl, h⟩
    · have h := h.2 c
      refine wp_iconst (v := (1 : Int32)) dX0_holds_12 (by decide) ?_
      refine wp_goto (tgt := 17) dX0_holds_13 (by decide) ?_
      exact wp_iret dX0_holds_17 rfl rfl ⟨_, _, rfl, rfl, h⟩
abbrev rX0_addSquare : Room := { frames := 1, cells := 0, slots := 0, locals := 21 }
abbrev wX0_addSquare (P : St → Prop) (pc : Nat) (Ls stk : List Value) (S : St) : Prop := Wp cX0_addSquare RX0 3 rX0_addSquare (wFV P) pc Ls stk (enc S)
abbrev tX0_addSquare (a0 : Int32) (a1 : Int32) (S : St) (P : St → Prop) : Prop := wX0_addSquare P 0 (wl_en [.ref 21, .int a0, .int a1] 3) [] S
set_option maxRecDepth 100000 in
theorem bX0_addSquare_0 {P : St → Prop} {S : St} (a0 : Int32) (a1 : Int32) (h : tX0_holds a0 S (fun r2 S1 => ((r2 = 0 → P S1) ∧ (¬ r2 = 0 → vp_in a0 10 ∧ vp_in a0 11 ∧ vp_in (S1.1 5) 11 ∧ P (sB (sB S1 (3 + a0.toNatClampNeg) (vp_updL (S1.2.2.2 (3 + a0.toNatClampNeg)) a0.toNatClampNeg (((S1.2.2.2 (3 + a0.toNatClampNeg)) a0.toNatClampNeg) + (1 : Int64)))) (3 + a0.toNatClampNeg) (vp_updL ((sB S1 (3 + a0.toNatClampNeg) (vp_updL (S1.2.2.2 (3 + a0.toNatClampNeg)) a0.toNatClampNeg (((S1.2.2.2 (3 + a0.toNatClampNeg)) a0.toNatClampNeg) + (1 : Int64)))).2.2.2 (3 + a0.toNatClampNeg)) (S1.1 5).toNatClampNeg ((((sB S1 (3 + a0.toNatClampNeg) (vp_updL (S1.2.2.2 (3 + a0.toNatClampNeg)) a0.toNatClampNeg (((S1.2.2.2 (3 + a0.toNatClampNeg)) a0.toNatClampNeg) + (1 : Int64)))).2.2.2 (3 + a0.toNatClampNeg)) (S1.1 5).toNatClampNeg) + a1.toInt64))))))) : tX0_addSquare a0 a1 S P := by
  show wX0_addSquare P 0 [.ref 21, .int a0, .int a1] [] S
  refine wp_aload_n dX0_addSquare_0 rfl rfl ?_
  refine wp_iload_n dX0_addSquare_1 rfl rfl ?_
  refine wp_callV (q := 21) (As := [.int a0]) (rest := []) dX0_addSquare_2 mX0_holds lX0_35 (by decide) rfl rfl rfl rfl (Nat.le_of_ble_eq_true rfl) (Nat.le_of_ble_eq_true rfl) h ?_
  rintro rv mh2 ⟨r2, S1, rfl, rfl, h⟩
  refine wp_if_eq (tgt := 36) dX0_addSquare_5 (by decide) (fun c => ?_) (fun c => ?_)
  · have h := h.1 c
    exact wp_vret dX0_addSquare_36 rfl ⟨_, rfl, rfl, h⟩
  · have h := h.2 c
    refine wp_aload_n dX0_addSquare_8 rfl rfl ?_
    refine wp_get (q := 21) dX0_addSquare_9 fX0_11 rfl rfl ?_
    refine wp_iload_n dX0_addSquare_12 rfl rfl ?_
    obtain ⟨q3, h⟩ := h
    refine wp_aald (q := 22) dX0_addSquare_13 rfl rfl q3 (encR q3) ?_
    refine wp_iload_n dX0_addSquare_14 rfl rfl ?_
    refine wp_dup2 dX0_addSquare_15 rfl rfl ?_
    obtain ⟨q4, h⟩ := h
    refine wp_lald2 (j := a0.toNatClampNeg) dX0_addSquare_16 (encE _ q3) q4 rfl ?_
    refine wp_lconst (v := (1 : Int64)) dX0_addSquare_17 (by decide) ?_
    refine wp_ladd dX0_addSquare_18 ?_
    refine wp_last2 (j := a0.toNatClampNeg) (mh2 := enc (sB S1 (3 + a0.toNatClampNeg) (vp_updL (S1.2.2.2 (3 + a0.toNatClampNeg)) a0.toNatClampNeg (((S1.2.2.2 (3 + a0.toNatClampNeg)) a0.toNatClampNeg) + (1 : Int64))))) dX0_addSquare_19 (encE _ q3) q4 rfl (encEs _ q3 _) ?_
    refine wp_aload_n dX0_addSquare_20 rfl rfl ?_
    refine wp_get (q := 21) dX0_addSquare_21 fX0_11 rfl rfl ?_
    refine wp_iload_n dX0_addSquare_24 rfl rfl ?_
    refine wp_aald (q := 22) dX0_addSquare_25 rfl rfl q3 (encR q3) ?_
    refine wp_aload_n dX0_addSquare_26 rfl rfl ?_
    refine wp_get (q := 21) dX0_addSquare_27 fX0_16 rfl rfl ?_
    refine wp_dup2 dX0_addSquare_30 rfl rfl ?_
    obtain ⟨q5, h⟩ := h
    refine wp_lald2 (j := (S1.1 5).toNatClampNeg) dX0_addSquare_31 (encE _ q3) q5 rfl ?_
    refine wp_iload_n dX0_addSquare_32 rfl rfl ?_
    refine wp_i2l dX0_addSquare_33 ?_
    refine wp_ladd dX0_addSquare_34 ?_
    refine wp_last2 (j := (S1.1 5).toNatClampNeg) (mh2 := enc (sB (sB S1 (3 + a0.toNatClampNeg) (vp_updL (S1.2.2.2 (3 + a0.toNatClampNeg)) a0.toNatClampNeg (((S1.2.2.2 (3 + a0.toNatClampNeg)) a0.toNatClampNeg) + (1 : Int64)))) (3 + a0.toNatClampNeg) (vp_updL ((sB S1 (3 + a0.toNatClampNeg) (vp_updL (S1.2.2.2 (3 + a0.toNatClampNeg)) a0.toNatClampNeg (((S1.2.2.2 (3 + a0.toNatClampNeg)) a0.toNatClampNeg) + (1 : Int64)))).2.2.2 (3 + a0.toNatClampNeg)) (S1.1 5).toNatClampNeg ((((sB S1 (3 + a0.toNatClampNeg) (vp_updL (S1.2.2.2 (3 + a0.toNatClampNeg)) a0.toNatClampNeg (((S1.2.2.2 (3 + a0.toNatClampNeg)) a0.toNatClampNeg) + (1 : Int64)))).2.2.2 (3 + a0.toNatClampNeg)) (S1.1 5).toNatClampNeg) + a1.toInt64)))) dX0_addSquare_35 (encE _ q3) q5 rfl (encEs _ q3 _) ?_
    exact wp_vret dX0_addSquare_36 rfl ⟨_, rfl, rfl, h⟩
abbrev rX0_addFactor : Room := { frames := 1, cells := 0, slots := 0, locals := 21 }
abbrev wX0_addFactor (P : St → Prop) (pc : Nat) (Ls stk : List Value) (S : St) : Prop := Wp cX0_addFactor RX0 3 rX0_addFactor (wFV P) pc Ls stk (enc S)
abbrev tX0_addFactor (a0 : Int32) (a1 : Int32) (S : St) (P : St → Prop) : Prop := wX0_addFactor P 0 (wl_en [.ref 21, .int a0, .int a1] 3) [] S
set_option maxRecDepth 100000 in
theorem bX0_addFactor_0 {P : St → Prop} {S : St} (a0 : Int32) (a1 : Int32) (h : tX0_holds a0 S (fun r2 S1 => ((r2 = 0 → P S1) ∧ (¬ r2 = 0 → tX0_holds a1 S1 (fun r4 S3 => ((r4 = 0 → P S3) ∧ (¬ r4 = 0 → vp_in a0 10 ∧ vp_in a1 11 ∧ P (sB S3 (3 + a0.toNatClampNeg) (vp_updL (S3.2.2.2 (3 + a0.toNatClampNeg)) a1.toNatClampNeg (((S3.2.2.2 (3 + a0.toNatClampNeg)) a1.toNatClampNeg) + (1 : Int64))))))))))) : tX0_addFactor a0 a1 S P := by
  show wX0_addFactor P 0 [.ref 21, .int a0, .int a1] [] S
  refine wp_aload_n dX0_addFactor_0 rfl rfl ?_
  refine wp_iload_n dX0_addFactor_1 rfl rfl ?_
  refine wp_callV (q := 21) (As := [.int a0]) (rest := []) dX0_addFactor_2 mX0_holds lX0_35 (by decide) rfl rfl rfl rfl (Nat.le_of_ble_eq_true rfl) (Nat.le_of_ble_eq_true rfl) h ?_
  rintro rv mh2 ⟨r2, S1, rfl, rfl, h⟩
  refine wp_if_eq (tgt := 28) dX0_addFactor_5 (by decide) (fun c => ?_) (fun c => ?_)
  · have h := h.1 c
    exact wp_vret dX0_addFactor_28 rfl ⟨_, rfl, rfl, h⟩
  · have h := h.2 c
    refine wp_aload_n dX0_addFactor_8 rfl rfl ?_
    refine wp_iload_n dX0_addFactor_9 rfl rfl ?_
    refine wp_callV (q := 21) (As := [.int a1]) (rest := []) dX0_addFactor_10 mX0_holds lX0_35 (by decide) rfl rfl rfl rfl (Nat.le_of_ble_eq_true rfl) (Nat.le_of_ble_eq_true rfl) h ?_
    rintro rv mh2 ⟨r4, S3, rfl, rfl, h⟩
    refine wp_if_eq (tgt := 28) dX0_addFactor_13 (by decide) (fun c => ?_) (fun c => ?_)
    · have h := h.1 c
      exact wp_vret dX0_addFactor_28 rfl ⟨_, rfl, rfl, h⟩
    · have h := h.2 c
      refine wp_aload_n dX0_addFactor_16 rfl rfl ?_
      refine wp_get (q := 21) dX0_addFactor_17 fX0_11 rfl rfl ?_
      refine wp_iload_n dX0_addFactor_20 rfl rfl ?_
      obtain ⟨q5, h⟩ := h
      refine wp_aald (q := 22) dX0_addFactor_21 rfl rfl q5 (encR q5) ?_
      refine wp_iload_n dX0_addFactor_22 rfl rfl ?_
      refine wp_dup2 dX0_addFactor_23 rfl rfl ?_
      obtain ⟨q6, h⟩ := h
      refine wp_lald2 (j := a1.toNatClampNeg) dX0_addFactor_24 (encE _ q5) q6 rfl ?_
      refine wp_lconst (v := (1 : Int64)) dX0_addFactor_25 (by decide) ?_
      refine wp_ladd dX0_addFactor_26 ?_
      refine wp_last2 (j := a1.toNatClampNeg) (mh2 := enc (sB S3 (3 + a0.toNatClampNeg) (vp_updL (S3.2.2.2 (3 + a0.toNatClampNeg)) a1.toNatClampNeg (((S3.2.2.2 (3 + a0.toNatClampNeg)) a1.toNatClampNeg) + (1 : Int64))))) dX0_addFactor_27 (encE _ q5) q6 rfl (encEs _ q5 _) ?_
      exact wp_vret dX0_addFactor_28 rfl ⟨_, rfl, rfl, h⟩
abbrev rX0_addSquareOfSum : Room := { frames := 2, cells := 0, slots := 0, locals := 43 }
abbrev wX0_addSquareOfSum (P : St → Prop) (pc : Nat) (Ls stk : List Value) (S : St) : Prop := Wp cX0_addSquareOfSum RX0 4 rX0_addSquareOfSum (wFV P) pc Ls stk (enc S)
abbrev tX0_addSquareOfSum (a0 : Int32) (a1 : Int32) (a2 : Int32) (S : St) (P : St → Prop) : Prop := wX0_addSquareOfSum P 0 (wl_en [.ref 21, .int a0, .int a1, .int a2] 4) [] S
set_option maxRecDepth 100000 in
theorem bX0_addSquareOfSum_0 {P : St → Prop} {S : St} (a0 : Int32) (a1 : Int32) (a2 : Int32) (h : tX0_addSquare a0 a2 S (fun S1 => tX0_addSquare a1 a2 S1 (fun S2 => tX0_addFactor a0 a1 S2 (fun S3 => tX0_addFactor a1 a0 S3 (fun S4 => P S4))))) : tX0_addSquareOfSum a0 a1 a2 S P := by
  show wX0_addSquareOfSum P 0 [.ref 21, .int a0, .int a1, .int a2] [] S
  refine wp_aload_n dX0_addSquareOfSum_0 rfl rfl ?_
  refine wp_iload_n dX0_addSquareOfSum_1 rfl rfl ?_
  refine wp_iload_n dX0_addSquareOfSum_2 rfl rfl ?_
  refine wp_callV (q := 21) (As := [.int a0, .int a2]) (rest := []) dX0_addSquareOfSum_3 mX0_addSquare lX0_39 (by decide) rfl rfl rfl rfl (Nat.le_of_ble_eq_true rfl) (Nat.le_of_ble_eq_true rfl) h ?_
  rintro rv mh2 ⟨S1, rfl, rfl, h⟩
  refine wp_aload_n dX0_addSquareOfSum_6 rfl rfl ?_
  refine wp_iload_n dX0_addSquareOfSum_7 rfl rfl ?_
  refine wp_iload_n dX0_addSquareOfSum_8 rfl rfl ?_
  refine wp_callV (q := 21) (As := [.int a1, .int a2]) (rest := []) dX0_addSquareOfSum_9 mX0_addSquare lX0_39 (by decide) rfl rfl rfl rfl (Nat.le_of_ble_eq_true rfl) (Nat.le_of_ble_eq_true rfl) h ?_
  rintro rv mh2 ⟨S2, rfl, rfl, h⟩
  refine wp_aload_n dX0_addSquareOfSum_12 rfl rfl ?_
  refine wp_iload_n dX0_addSquareOfSum_13 rfl rfl ?_
  refine wp_iload_n dX0_addSquareOfSum_14 rfl rfl ?_
  refine wp_callV (q := 21) (As := [.int a0, .int a1]) (rest := []) dX0_addSquareOfSum_15 mX0_addFactor lX0_43 (by decide) rfl rfl rfl rfl (Nat.le_of_ble_eq_true rfl) (Nat.le_of_ble_eq_true rfl) h ?_
  rintro rv mh2 ⟨S3, rfl, rfl, h⟩
  refine wp_aload_n dX0_addSquareOfSum_18 rfl rfl ?_
  refine wp_iload_n dX0_addSquareOfSum_19 rfl rfl ?_
  refine wp_iload_n dX0_addSquareOfSum_20 rfl rfl ?_
  refine wp_callV (q := 21) (As := [.int a1, .int a0]) (rest := []) dX0_addSquareOfSum_21 mX0_addFactor lX0_43 (by decide) rfl rfl rfl rfl (Nat.le_of_ble_eq_true rfl) (Nat.le_of_ble_eq_true rfl) h ?_
  rintro rv mh2 ⟨S4, rfl, rfl, h⟩
  exact wp_vret dX0_addSquareOfSum_24 rfl ⟨_, rfl, rfl, h⟩
abbrev rX0_clearFactor : Room := { frames := 0, cells := 0, slots := 0, locals := 0 }
abbrev wX0_clearFactor (P : St → Prop) (pc : Nat) (Ls stk : List Value) (S : St) : Prop := Wp cX0_clearFactor RX0 12 rX0_clearFactor (wFV P) pc Ls stk (enc S)
abbrev tX0_clearFactor (a0 : Int32) (a1 : Int32) (a2 : Int64) (S : St) (P : St → Prop) : Prop := wX0_clearFactor P 0 (wl_en [.ref 21, .int a0, .int a1, .long a2] 12) [] S
set_option maxRecDepth 100000 in
theorem bX0_clearFactor_0 {P : St → Prop} {S : St} (a0 : Int32) (a1 : Int32) (a2 : Int64) (h : ((¬ (lg_cmp a2 (0 : Int64)) = 0 → vp_in a0 10 ∧ vp_in a1 10 ∧ vp_in a1 11 ∧ wX0_clearFactor P 38 [.ref 21, .int a0, .int a1, .long a2, .retAddr 0, .ref (23 + a0.toNatClampNeg), .ref (23 + a1.toNatClampNeg), .long ((S.2.2.2 (3 + a1.toNatClampNeg)) a1.toNatClampNeg), .retAddr 0, .long ((S.2.2.2 (3 + a0.toNatClampNeg)) a1.toNatClampNeg), .retAddr 0, .int a1] [] S) ∧ ((lg_cmp a2 (0 : Int64)) = 0 → P S))) : tX0_clearFactor a0 a1 a2 S P := by
  show wX0_clearFactor P 0 [.ref 21, .int a0, .int a1, .long a2, .retAddr 0, .retAddr 0, .retAddr 0, .retAddr 0, .retAddr 0, .retAddr 0, .retAddr 0, .retAddr 0] [] S
  refine wp_lload_n dX0_clearFactor_0 rfl rfl ?_
  refine wp_lconst (v := (0 : Int64)) dX0_clearFactor_1 (by decide) ?_
  refine wp_lcmp dX0_clearFactor_2 ?_
  refine wp_if_ne (tgt := 7) dX0_clearFactor_3 (by decide) (fun c => ?_) (fun c => ?_)
  · have h := h.1 c
    refine wp_aload_n dX0_clearFactor_7 rfl rfl ?_
    refine wp_get (q := 21) dX0_clearFactor_8 fX0_11 rfl rfl ?_
    refine wp_iload_n dX0_clearFactor_11 rfl rfl ?_
    obtain ⟨q1, h⟩ := h
    refine wp_aald (q := 22) dX0_clearFactor_12 rfl rfl q1 (encR q1) ?_
    refine wp_astore (Ms := [.ref 21, .int a0, .int a1, .long a2, .retAddr 0, .ref (23 + a0.toNatClampNeg), .retAddr 0, .retAddr 0, .retAddr 0, .retAddr 0, .retAddr 0, .retAddr 0]) dX0_clearFactor_13 (by decide) rfl ?_
    refine wp_aload_n dX0_clearFactor_15 rfl rfl ?_
    refine wp_get (q := 21) dX0_clearFactor_16 fX0_11 rfl rfl ?_
    refine wp_iload_n dX0_clearFactor_19 rfl rfl ?_
    obtain ⟨q2, h⟩ := h
    refine wp_aald (q := 22) dX0_clearFactor_20 rfl rfl q2 (encR q2) ?_
    refine wp_astore (Ms := [.ref 21, .int a0, .int a1, .long a2, .retAddr 0, .ref (23 + a0.toNatClampNeg), .ref (23 + a1.toNatClampNeg), .retAddr 0, .retAddr 0, .retAddr 0, .retAddr 0, .retAddr 0]) dX0_clearFactor_21 (by decide) rfl ?_
    refine wp_aload dX0_clearFactor_23 rfl ?_
    refine wp_iload_n dX0_clearFactor_25 rfl rfl ?_
    obtain ⟨q3, h⟩ := h
    refine wp_lald2 (j := a1.toNatClampNeg) dX0_clearFactor_26 (encE _ q2) q3 rfl ?_
    refine wp_lstore (Ms := [.ref 21, .int a0, .int a1, .long a2, .retAddr 0, .ref (23 + a0.toNatClampNeg), .ref (23 + a1.toNatClampNeg), .long ((S.2.2.2 (3 + a1.toNatClampNeg)) a1.toNatClampNeg), .retAddr 0, .retAddr 0, .retAddr 0, .retAddr 0]) dX0_clearFactor_27 (by decide) rfl ?_
    refine wp_aload dX0_clearFactor_29 rfl ?_
    refine wp_iload_n dX0_clearFactor_31 rfl rfl ?_
    refine wp_lald2 (j := a1.toNatClampNeg) dX0_clearFactor_32 (encE _ q1) q3 rfl ?_
    refine wp_lstore (Ms := [.ref 21, .int a0, .int a1, .long a2, .retAddr 0, .ref (23 + a0.toNatClampNeg), .ref (23 + a1.toNatClampNeg), .long ((S.2.2.2 (3 + a1.toNatClampNeg)) a1.toNatClampNeg), .retAddr 0, .long ((S.2.2.2 (3 + a0.toNatClampNeg)) a1.toNatClampNeg), .retAddr 0, .retAddr 0]) dX0_clearFactor_33 (by decide) rfl ?_
    refine wp_iload_n dX0_clearFactor_35 rfl rfl ?_
    refine wp_istore (Ms := [.ref 21, .int a0, .int a1, .long a2, .retAddr 0, .ref (23 + a0.toNatClampNeg), .ref (23 + a1.toNatClampNeg), .long ((S.2.2.2 (3 + a1.toNatClampNeg)) a1.toNatClampNeg), .retAddr 0, .long ((S.2.2.2 (3 + a0.toNatClampNeg)) a1.toNatClampNeg), .retAddr 0, .int a1]) dX0_clearFactor_36 (by decide) rfl ?_
    exact wp_le (Ms := [.ref 21, .int a0, .int a1, .long a2, .retAddr 0, .ref (23 + a0.toNatClampNeg), .ref (23 + a1.toNatClampNeg), .long ((S.2.2.2 (3 + a1.toNatClampNeg)) a1.toNatClampNeg), .retAddr 0, .long ((S.2.2.2 (3 + a0.toNatClampNeg)) a1.toNatClampNeg), .retAddr 0, .int a1]) ⟨Or.inr rfl, Or.inr rfl, Or.inr rfl, Or.inr rfl, Or.inl rfl, Or.inr rfl, Or.inr rfl, Or.inr rfl, Or.inl rfl, Or.inr rfl, Or.inl rfl, Or.inr rfl, trivial⟩ h
  · have h := h.2 c
    exact wp_vret dX0_clearFactor_6 rfl ⟨_, rfl, rfl, h⟩
set_option maxRecDepth 100000 in
theorem bX0_clearFactor_38 {P : St → Prop} {S : St} (x1 : Int32) (x2 : Int32) (x3 : Int64) (y5 : Int32) (y6 : Int32) (x7 : Int64) (x9 : Int64) (x11 : Int32) (h : (((S.1 5) < x11 → P S) ∧ (¬ (S.1 5) < x11 → vp_in y5 10 ∧ vp_in x11 11 ∧ vp_in y6 10 ∧ ¬ x3 = 0 ∧ wX0_clearFactor P 38 [.ref 21, .int x1, .int x2, .long x3, .retAddr 0, .ref (23 + y5.toNatClampNeg), .ref (23 + y6.toNatClampNeg), .long x7, .retAddr 0, .long x9, .retAddr 0, .int (x11 + (1 : Int32))] [] (sB S (3 + y5.toNatClampNeg) (vp_updL (S.2.2.2 (3 + y5.toNatClampNeg)) x11.toNatClampNeg (((((S.2.2.2 (3 + y5.toNatClampNeg)) x11.toNatClampNeg) * x7) - (x9 * ((S.2.2.2 (3 + y6.toNatClampNeg)) x11.toNatClampNeg))) / x3)))))) : wX0_clearFactor P 38 [.ref 21, .int x1, .int x2, .long x3, .retAddr 0, .ref (23 + y5.toNatClampNeg), .ref (23 + y6.toNatClampNeg), .long x7, .retAddr 0, .long x9, .retAddr 0, .int x11] [] S := by
  refine wp_iload dX0_clearFactor_38 rfl ?_
  refine wp_aload_n dX0_clearFactor_40 rfl rfl ?_
  refine wp_get (q := 21) dX0_clearFactor_41 fX0_16 rfl rfl ?_
  refine wp_icmp_gt (tgt := 77) dX0_clearFactor_44 (by decide) (fun c => ?_) (fun c => ?_)
  · have h := h.1 c
    exact wp_vret dX0_clearFactor_77 rfl ⟨_, rfl, rfl, h⟩
  · have h := h.2 c
    refine wp_aload dX0_clearFactor_47 rfl ?_
    refine wp_iload dX0_clearFactor_49 rfl ?_
    refine wp_aload dX0_clearFactor_51 rfl ?_
    refine wp_iload dX0_clearFactor_53 rfl ?_
    obtain ⟨q1, h⟩ := h
    obtain ⟨q2, h⟩ := h
    refine wp_lald2 (j := x11.toNatClampNeg) dX0_clearFactor_55 (encE _ q1) q2 rfl ?_
    refine wp_lload dX0_clearFactor_56 rfl ?_
    refine wp_lmul dX0_clearFactor_58 ?_
    refine wp_lload dX0_clearFactor_59 rfl ?_
    refine wp_aload dX0_clearFactor_61 rfl ?_
    refine wp_iload dX0_clearFactor_63 rfl ?_
    obtain ⟨q3, h⟩ := h
    refine wp_lald2 (j := x11.toNatClampNeg) dX0_clearFactor_65 (encE _ q3) q2 rfl ?_
    refine wp_lmul dX0_clearFactor_66 ?_
    refine wp_lsub dX0_clearFactor_67 ?_
    refine wp_lload_n dX0_clearFactor_68 rfl rfl ?_
    obtain ⟨q4, h⟩ := h
    refine wp_ldiv dX0_clearFactor_69 q4 ?_
    refine wp_last2 (j := x11.toNatClampNeg) (mh2 := enc (sB S (3 + y5.toNatClampNeg) (vp_updL (S.2.2.2 (3 + y5.toNatClampNeg)) x11.toNatClampNeg (((((S.2.2.2 (3 + y5.toNatClampNeg)) x11.toNatClampNeg) * x7) - (x9 * ((S.2.2.2 (3 + y6.toNatClampNeg)) x11.toNatClampNeg))) / x3)))) dX0_clearFactor_70 (encE _ q1) q2 rfl (encEs _ q1 _) ?_
    refine wp_iinc (Ms := [.ref 21, .int x1, .int x2, .long x3, .retAddr 0, .ref (23 + y5.toNatClampNeg), .ref (23 + y6.toNatClampNeg), .long x7, .retAddr 0, .long x9, .retAddr 0, .int (x11 + (1 : Int32))]) (v := x11 + (1 : Int32)) dX0_clearFactor_71 rfl rfl (by decide) rfl ?_
    refine wp_goto (tgt := 38) dX0_clearFactor_74 (by decide) ?_
    exact wp_le (Ms := [.ref 21, .int x1, .int x2, .long x3, .retAddr 0, .ref (23 + y5.toNatClampNeg), .ref (23 + y6.toNatClampNeg), .long x7, .retAddr 0, .long x9, .retAddr 0, .int (x11 + (1 : Int32))]) ⟨Or.inr rfl, Or.inr rfl, Or.inr rfl, Or.inr rfl, Or.inl rfl, Or.inr rfl, Or.inr rfl, Or.inr rfl, Or.inl rfl, Or.inr rfl, Or.inl rfl, Or.inr rfl, trivial⟩ h
abbrev rX0_solve : Room := { frames := 1, cells := 0, slots := 0, locals := 31 }
abbrev wX0_solve (P : Int64 → St → Prop) (pc : Nat) (Ls stk : List Value) (S : St) : Prop := Wp cX0_solve RX0 7 rX0_solve (wFL P) pc Ls stk (enc S)
abbrev tX0_solve  (S : St) (P : Int64 → St → Prop) : Prop := wX0_solve P 0 (wl_en [.ref 21] 7) [] S
set_option maxRecDepth 100000 in
theorem bX0_solve_0 {P : Int64 → St → Prop} {S : St}  (h : wX0_solve P 4 [.ref 21, .long (1 : Int64), .retAddr 0, .int (0 : Int32), .retAddr 0, .retAddr 0, .retAddr 0] [] S) : tX0_solve  S P := by
  show wX0_solve P 0 [.ref 21, .retAddr 0, .retAddr 0, .retAddr 0, .retAddr 0, .retAddr 0, .retAddr 0] [] S
  refine wp_lconst (v := (1 : Int64)) dX0_solve_0 (by decide) ?_
  refine wp_lstore_n (Ms := [.ref 21, .long (1 : Int64), .retAddr 0, .retAddr 0, .retAddr 0, .retAddr 0, .retAddr 0]) dX0_solve_1 rfl (by decide) rfl ?_
  refine wp_iconst (v := (0 : Int32)) dX0_solve_2 (by decide) ?_
  refine wp_istore_n (Ms := [.ref 21, .long (1 : Int64), .retAddr 0, .int (0 : Int32), .retAddr 0, .retAddr 0, .retAddr 0]) dX0_solve_3 rfl (by decide) rfl ?_
  exact wp_le (Ms := [.ref 21, .long (1 : Int64), .retAddr 0, .int (0 : Int32), .retAddr 0, .retAddr 0, .retAddr 0]) ⟨Or.inr rfl, Or.inr rfl, Or.inl rfl, Or.inr rfl, Or.inl rfl, Or.inl rfl, Or.inl rfl, trivial⟩ h
set_option maxRecDepth 100000 in
theorem bX0_solve_4 {P : Int64 → St → Prop} {S : St} (x1 : Int64) (x3 : Int32) (h : (((S.1 5) ≤ x3 → P x1 S) ∧ (¬ (S.1 5) ≤ x3 → vp_in x3 10 ∧ vp_in x3 11 ∧ ((¬ (lg_cmp ((S.2.2.2 (3 + x3.toNatClampNeg)) x3.toNatClampNeg) (0 : Int64)) = 0 → wX0_solve P 34 [.ref 21, .long x1, .retAddr 0, .int x3, .long ((S.2.2.2 (3 + x3.toNatClampNeg)) x3.toNatClampNeg), .retAddr 0, .int (0 : Int32)] [] S) ∧ ((lg_cmp ((S.2.2.2 (3 + x3.toNatClampNeg)) x3.toNatClampNeg) (0 : Int64)) = 0 → P (0 : Int64) S))))) : wX0_solve P 4 [.ref 21, .long x1, .retAddr 0, .int x3, .retAddr 0, .retAddr 0, .retAddr 0] [] S := by
  refine wp_iload_n dX0_solve_4 rfl rfl ?_
  refine wp_aload_n dX0_solve_5 rfl rfl ?_
  refine wp_get (q := 21) dX0_solve_6 fX0_16 rfl rfl ?_
  refine wp_icmp_ge (tgt := 72) dX0_solve_9 (by decide) (fun c => ?_) (fun c => ?_)
  · have h := h.1 c
    refine wp_lload_n dX0_solve_72 rfl rfl ?_
    exact wp_lret dX0_solve_73 rfl ⟨_, _, rfl, rfl, h⟩
  · have h := h.2 c
    refine wp_aload_n dX0_solve_12 rfl rfl ?_
    refine wp_get (q := 21) dX0_solve_13 fX0_11 rfl rfl ?_
    refine wp_iload_n dX0_solve_16 rfl rfl ?_
    obtain ⟨q1, h⟩ := h
    refine wp_aald (q := 22) dX0_solve_17 rfl rfl q1 (encR q1) ?_
    refine wp_iload_n dX0_solve_18 rfl rfl ?_
    obtain ⟨q2, h⟩ := h
    refine wp_lald2 (j := x3.toNatClampNeg) dX0_solve_19 (encE _ q1) q2 rfl ?_
    refine wp_lstore (Ms := [.ref 21, .long x1, .retAddr 0, .int x3, .long ((S.2.2.2 (3 + x3.toNatClampNeg)) x3.toNatClampNeg), .retAddr 0, .retAddr 0]) dX0_solve_20 (by decide) rfl ?_
    refine wp_lload dX0_solve_22 rfl ?_
    refine wp_lconst (v := (0 : Int64)) dX0_solve_24 (by decide) ?_
    refine wp_lcmp dX0_solve_25 ?_
    refine wp_if_ne (tgt := 31) dX0_solve_26 (by decide) (fun c => ?_) (fun c => ?_)
    · have h := h.1 c
      refine wp_iconst (v := (0 : Int32)) dX0_solve_31 (by decide) ?_
      refine wp_istore (Ms := [.ref 21, .long x1, .retAddr 0, .int x3, .long ((S.2.2.2 (3 + x3.toNatClampNeg)) x3.toNatClampNeg), .retAddr 0, .int (0 : Int32)]) dX0_solve_32 (by decide) rfl ?_
      exact wp_le (Ms := [.ref 21, .long x1, .retAddr 0, .int x3, .long ((S.2.2.2 (3 + x3.toNatClampNeg)) x3.toNatClampNeg), .retAddr 0, .int (0 : Int32)]) ⟨Or.inr rfl, Or.inr rfl, Or.inl rfl, Or.inr rfl, Or.inr rfl, Or.inl rfl, Or.inr rfl, trivial⟩ h
    · have h := h.2 c
      refine wp_lconst (v := (0 : Int64)) dX0_solve_29 (by decide) ?_
      exact wp_lret dX0_solve_30 rfl ⟨_, _, rfl, rfl, h⟩
set_option maxRecDepth 100000 in
theorem bX0_solve_34 {P : Int64 → St → Prop} {S : St} (x1 : Int64) (x3 : Int32) (x4 : Int64) (x6 : Int32) (h : (((S.1 5) ≤ x6 → wX0_solve P 4 [.ref 21, .long x4, .retAddr 0, .int (x3 + (1 : Int32)), .retAddr 0, .retAddr 0, .retAddr 0] [] S) ∧ (¬ (S.1 5) ≤ x6 → ((x6 = x3 → wX0_solve P 34 [.ref 21, .long x1, .retAddr 0, .int x3, .long x4, .retAddr 0, .int (x6 + (1 : Int32))] [] S) ∧ (¬ x6 = x3 → tX0_clearFactor x6 x3 x1 S (fun S1 => wX0_solve P 34 [.ref 21, .long x1, .retAddr 0, .int x3, .long x4, .retAddr 0, .int (x6 + (1 : Int32))] [] S1)))))) : wX0_solve P 34 [.ref 21, .long x1, .retAddr 0, .int x3, .long x4, .retAddr 0, .int x6] [] S := by
  refine wp_iload dX0_solve_34 rfl ?_
  refine wp_aload_n dX0_solve_36 rfl rfl ?_
  refine wp_get (q := 21) dX0_solve_37 fX0_16 rfl rfl ?_
  refine wp_icmp_ge (tgt := 63) dX0_solve_40 (by decide) (fun c => ?_) (fun c => ?_)
  · have h := h.1 c
    refine wp_lload dX0_solve_63 rfl ?_
    refine wp_lstore_n (Ms := [.ref 21, .long x4, .retAddr 0, .int x3, .long x4, .retAddr 0, .int x6]) dX0_solve_65 rfl (by decide) rfl ?_
    refine wp_iinc (Ms := [.ref 21, .long x4, .retAddr 0, .int (x3 + (1 : Int32)), .long x4, .retAddr 0, .int x6]) (v := x3 + (1 : Int32)) dX0_solve_66 rfl rfl (by decide) rfl ?_
    refine wp_goto (tgt := 4) dX0_solve_69 (by decide) ?_
    exact wp_le (Ms := [.ref 21, .long x4, .retAddr 0, .int (x3 + (1 : Int32)), .retAddr 0, .retAddr 0, .retAddr 0]) ⟨Or.inr rfl, Or.inr rfl, Or.inl rfl, Or.inr rfl, Or.inl rfl, Or.inl rfl, Or.inl rfl, trivial⟩ h
  · have h := h.2 c
    refine wp_iload dX0_solve_43 rfl ?_
    refine wp_iload_n dX0_solve_45 rfl rfl ?_
    refine wp_icmp_eq (tgt := 57) dX0_solve_46 (by decide) (fun c => ?_) (fun c => ?_)
    · have h := h.1 c
      refine wp_iinc (Ms := [.ref 21, .long x1, .retAddr 0, .int x3, .long x4, .retAddr 0, .int (x6 + (1 : Int32))]) (v := x6 + (1 : Int32)) dX0_solve_57 rfl rfl (by decide) rfl ?_
      refine wp_goto (tgt := 34) dX0_solve_60 (by decide) ?_
      exact wp_le (Ms := [.ref 21, .long x1, .retAddr 0, .int x3, .long x4, .retAddr 0, .int (x6 + (1 : Int32))]) ⟨Or.inr rfl, Or.inr rfl, Or.inl rfl, Or.inr rfl, Or.inr rfl, Or.inl rfl, Or.inr rfl, trivial⟩ h
    · have h := h.2 c
      refine wp_aload_n dX0_solve_49 rfl rfl ?_
      refine wp_iload dX0_solve_50 rfl ?_
      refine wp_iload_n dX0_solve_52 rfl rfl ?_
      refine wp_lload_n dX0_solve_53 rfl rfl ?_
      refine wp_callV (q := 21) (As := [.int x6, .int x3, .long x1]) (rest := []) dX0_solve_54 mX0_clearFactor lX0_46 (by decide) rfl rfl rfl rfl (Nat.le_of_ble_eq_true rfl) (Nat.le_of_ble_eq_true rfl) h ?_
      rintro rv mh2 ⟨S1, rfl, rfl, h⟩
      refine wp_iinc (Ms := [.ref 21, .long x1, .retAddr 0, .int x3, .long x4, .retAddr 0, .int (x6 + (1 : Int32))]) (v := x6 + (1 : Int32)) dX0_solve_57 rfl rfl (by decide) rfl ?_
      refine wp_goto (tgt := 34) dX0_solve_60 (by decide) ?_
      exact wp_le (Ms := [.ref 21, .long x1, .retAddr 0, .int x3, .long x4, .retAddr 0, .int (x6 + (1 : Int32))]) ⟨Or.inr rfl, Or.inr rfl, Or.inl rfl, Or.inr rfl, Or.inr rfl, Or.inl rfl, Or.inr rfl, trivial⟩ h
abbrev rX0_topOf : Room := { frames := 1, cells := 0, slots := 0, locals := 21 }
abbrev wX0_topOf (P : Int64 → St → Prop) (pc : Nat) (Ls stk : List Value) (S : St) : Prop := Wp cX0_topOf RX0 2 rX0_topOf (wFL P) pc Ls stk (enc S)
abbrev tX0_topOf (a0 : Int32) (S : St) (P : Int64 → St → Prop) : Prop := wX0_topOf P 0 (wl_en [.ref 21, .int a0] 2) [] S
set_option maxRecDepth 100000 in
theorem bX0_topOf_0 {P : Int64 → St → Prop} {S : St} (a0 : Int32) (h : tX0_holds a0 S (fun r2 S1 => ((r2 = 0 → P (0 : Int64) S1) ∧ (¬ r2 = 0 → vp_in a0 10 ∧ vp_in (S1.1 5) 11 ∧ P ((S1.2.2.2 (3 + a0.toNatClampNeg)) (S1.1 5).toNatClampNeg) S1)))) : tX0_topOf a0 S P := by
  show wX0_topOf P 0 [.ref 21, .int a0] [] S
  refine wp_aload_n dX0_topOf_0 rfl rfl ?_
  refine wp_iload_n dX0_topOf_1 rfl rfl ?_
  refine wp_callV (q := 21) (As := [.int a0]) (rest := []) dX0_topOf_2 mX0_holds lX0_35 (by decide) rfl rfl rfl rfl (Nat.le_of_ble_eq_true rfl) (Nat.le_of_ble_eq_true rfl) h ?_
  rintro rv mh2 ⟨r2, S1, rfl, rfl, h⟩
  refine wp_if_eq (tgt := 22) dX0_topOf_5 (by decide) (fun c => ?_) (fun c => ?_)
  · have h := h.1 c
    refine wp_lconst (v := (0 : Int64)) dX0_topOf_22 (by decide) ?_
    exact wp_lret dX0_topOf_23 rfl ⟨_, _, rfl, rfl, h⟩
  · have h := h.2 c
    refine wp_aload_n dX0_topOf_8 rfl rfl ?_
    refine wp_get (q := 21) dX0_topOf_9 fX0_11 rfl rfl ?_
    refine wp_iload_n dX0_topOf_12 rfl rfl ?_
    obtain ⟨q3, h⟩ := h
    refine wp_aald (q := 22) dX0_topOf_13 rfl rfl q3 (encR q3) ?_
    refine wp_aload_n dX0_topOf_14 rfl rfl ?_
    refine wp_get (q := 21) dX0_topOf_15 fX0_16 rfl rfl ?_
    obtain ⟨q4, h⟩ := h
    refine wp_lald2 (j := (S1.1 5).toNatClampNeg) dX0_topOf_18 (encE _ q3) q4 rfl ?_
    refine wp_goto (tgt := 23) dX0_topOf_19 (by decide) ?_
    exact wp_lret dX0_topOf_23 rfl ⟨_, _, rfl, rfl, h⟩
abbrev rX1_settle : Room := { frames := 1, cells := 0, slots := 0, locals := 23 }
abbrev wX1_settle (P : St → Prop) (pc : Nat) (Ls stk : List Value) (S : St) : Prop := Wp cX1_settle RX1 2 rX1_settle (wFV P) pc Ls stk (enc S)
abbrev tX1_settle (a0 : Int32) (S : St) (P : St → Prop) : Prop := wX1_settle P 0 (wl_en [.ref 1, .int a0] 2) [] S
set_option maxRecDepth 100000 in
theorem bX1_settle_0 {P : St → Prop} {S : St} (a0 : Int32) (h : P (sA (sI S 0 a0) 0 (wfill (S.2.2.1 0) 8 (0 : Int32)))) : tX1_settle a0 S P := by
  show wX1_settle P 0 [.ref 1, .int a0] [] S
  refine wp_aload_n dX1_settle_0 rfl rfl ?_
  refine wp_iload_n dX1_settle_1 rfl rfl ?_
  refine wp_put (q := 1) (mh2 := enc (sI S 0 a0)) dX1_settle_2 fX1_9 (by decide) rfl (Nat.le_of_ble_eq_true rfl) (fun _ _ => rfl) rfl rfl (eo_1_0 _ _) ?_
  refine wp_aload_n dX1_settle_5 rfl rfl ?_
  refine wp_get (q := 1) dX1_settle_6 fX1_15 rfl rfl ?_
  refine wp_iconst (v := (0 : Int32)) dX1_settle_9 (by decide) ?_
  refine wp_fillI (q := 2) (mh2 := enc (sA (sI S 0 a0) 0 (wfill (S.2.2.1 0) 8 (0 : Int32)))) dX1_settle_10 lX1_22 (by decide) rfl (by decide) (es_2 _ _) (Nat.le_of_ble_eq_true rfl) ?_
  exact wp_vret dX1_settle_13 rfl ⟨_, rfl, rfl, h⟩
abbrev rX1_holds : Room := { frames := 0, cells := 0, slots := 0, locals := 0 }
abbrev wX1_holds (P : Int32 → St → Prop) (pc : Nat) (Ls stk : List Value) (S : St) : Prop := Wp cX1_holds RX1 2 rX1_holds (wFI .boolean P) pc Ls stk (enc S)
abbrev tX1_holds (a0 : Int32) (S : St) (P : Int32 → St → Prop) : Prop := wX1_holds P 0 (wl_en [.ref 1, .int a0] 2) [] S
set_option maxRecDepth 100000 in
theorem bX1_holds_0 {P : Int32 → St → Prop} {S : St} (a0 : Int32) (h : ((a0 < 0 → P (0 : Int32) S) ∧ (¬ a0 < 0 → (((S.1 0) ≤ a0 → P (0 : Int32) S) ∧ (¬ (S.1 0) ≤ a0 → P (1 : Int32) S))))) : tX1_holds a0 S P := by
  show wX1_holds P 0 [.ref 1, .int a0] [] S
  refine wp_iload_n dX1_holds_0 rfl rfl ?_
  refine wp_if_lt (tgt := 16) dX1_holds_1 (by decide) (fun c => ?_) (fun c => ?_)
  · have h := h.1 c
    refine wp_iconst (v := (0 : Int32)) dX1_holds_16 (by decide) ?_
    exact wp_iret dX1_holds_17 rfl rfl ⟨_, _, rfl, rfl, h⟩
  · have h := h.2 c
    refine wp_iload_n dX1_holds_4 rfl rfl ?_
    refine wp_aload_n dX1_holds_5 rfl rfl ?_
    refine wp_get (q := 1) dX1_holds_6 fX1_9 rfl rfl ?_
    refine wp_icmp_ge (tgt := 16) dX1_holds_9 (by decide) (fun c => ?_) (fun c => ?_)
    · have h := h.1 c
      refine wp_iconst (v := (0 : Int32)) dX1_holds_16 (by decide) ?_
      exact wp_iret dX1_holds_17 rfl rfl ⟨_, _, rfl, rfl, h⟩
    · have h := h.2 c
      refine wp_iconst (v := (1 : Int32)) dX1_holds_12 (by decide) ?_
      refine wp_goto (tgt := 17) dX1_holds_13 (by decide) ?_
      exact wp_iret dX1_holds_17 rfl rfl ⟨_, _, rfl, rfl, h⟩
abbrev rX1_befriend : Room := { frames := 0, cells := 0, slots := 0, locals := 0 }
abbrev wX1_befriend (P : St → Prop) (pc : Nat) (Ls stk : List Value) (S : St) : Prop := Wp cX1_befriend RX1 4 rX1_befriend (wFV P) pc Ls stk (enc S)
abbrev tX1_befriend (a0 : Int32) (a1 : Int32) (a2 : Int32) (S : St) (P : St → Prop) : Prop := wX1_befriend P 0 (wl_en [.ref 1, .int a0, .int a1, .int a2] 4) [] S
set_option maxRecDepth 100000 in
theorem bX1_befriend_0 {P : St → Prop} {S : St} (a0 : Int32) (a1 : Int32) (a2 : Int32) (h : ((a2 = 0 → vp_in a0 8 ∧ vp_in a1 8 ∧ P (sA (sA S 0 (upd (S.2.2.1 0) a0.toNatClampNeg (((S.2.2.1 0) a0.toNatClampNeg) &&& (((1 : Int32) <<< (a1 &&& (31 : Int32))) ^^^ (-1 : Int32))))) 0 (upd (upd (S.2.2.1 0) a0.toNatClampNeg (((S.2.2.1 0) a0.toNatClampNeg) &&& (((1 : Int32) <<< (a1 &&& (31 : Int32))) ^^^ (-1 : Int32)))) a1.toNatClampNeg (((upd (S.2.2.1 0) a0.toNatClampNeg (((S.2.2.1 0) a0.toNatClampNeg) &&& (((1 : Int32) <<< (a1 &&& (31 : Int32))) ^^^ (-1 : Int32)))) a1.toNatClampNeg) &&& (((1 : Int32) <<< (a0 &&& (31 : Int32))) ^^^ (-1 : Int32)))))) ∧ (¬ a2 = 0 → vp_in a0 8 ∧ vp_in a1 8 ∧ P (sA (sA S 0 (upd (S.2.2.1 0) a0.toNatClampNeg (((S.2.2.1 0) a0.toNatClampNeg) ||| ((1 : Int32) <<< (a1 &&& (31 : Int32)))))) 0 (upd (upd (S.2.2.1 0) a0.toNatClampNeg (((S.2.2.1 0) a0.toNatClampNeg) ||| ((1 : Int32) <<< (a1 &&& (31 : Int32))))) a1.toNatClampNeg (((upd (S.2.2.1 0) a0.toNatClampNeg (((S.2.2.1 0) a0.toNatClampNeg) ||| ((1 : Int32) <<< (a1 &&& (31 : Int32))))) a1.toNatClampNeg) ||| ((1 : Int32) <<< (a0 &&& (31 : Int32))))))))) : tX1_befriend a0 a1 a2 S P := by
  show wX1_befriend P 0 [.ref 1, .int a0, .int a1, .int a2] [] S
  refine wp_iload_n dX1_befriend_0 rfl rfl ?_
  refine wp_if_eq (tgt := 31) dX1_befriend_1 (by decide) (fun c => ?_) (fun c => ?_)
  · have h := h.1 c
    refine wp_aload_n dX1_befriend_31 rfl rfl ?_
    refine wp_get (q := 1) dX1_befriend_32 fX1_15 rfl rfl ?_
    refine wp_iload_n dX1_befriend_35 rfl rfl ?_
    refine wp_dup2 dX1_befriend_36 rfl rfl ?_
    obtain ⟨q1, h⟩ := h
    refine wp_iald2 (q := 2) (j := a0.toNatClampNeg) dX1_befriend_37 rfl q1 rfl ?_
    refine wp_iconst (v := (1 : Int32)) dX1_befriend_38 (by decide) ?_
    refine wp_iload_n dX1_befriend_39 rfl rfl ?_
    refine wp_ishl dX1_befriend_40 ?_
    refine wp_iconst (v := (-1 : Int32)) dX1_befriend_41 (by decide) ?_
    refine wp_ixor dX1_befriend_42 ?_
    refine wp_iand dX1_befriend_43 ?_
    refine wp_iast2 (q := 2) (j := a0.toNatClampNeg) (mh2 := enc (sA S 0 (upd (S.2.2.1 0) a0.toNatClampNeg (((S.2.2.1 0) a0.toNatClampNeg) &&& (((1 : Int32) <<< (a1 &&& (31 : Int32))) ^^^ (-1 : Int32)))))) dX1_befriend_44 rfl q1 rfl (es_2 _ _) ?_
    refine wp_aload_n dX1_befriend_45 rfl rfl ?_
    refine wp_get (q := 1) dX1_befriend_46 fX1_15 rfl rfl ?_
    refine wp_iload_n dX1_befriend_49 rfl rfl ?_
    refine wp_dup2 dX1_befriend_50 rfl rfl ?_
    obtain ⟨q2, h⟩ := h
    refine wp_iald2 (q := 2) (j := a1.toNatClampNeg) dX1_befriend_51 rfl q2 rfl ?_
    refine wp_iconst (v := (1 : Int32)) dX1_befriend_52 (by decide) ?_
    refine wp_iload_n dX1_befriend_53 rfl rfl ?_
    refine wp_ishl dX1_befriend_54 ?_
    refine wp_iconst (v := (-1 : Int32)) dX1_befriend_55 (by decide) ?_
    refine wp_ixor dX1_befriend_56 ?_
    refine wp_iand dX1_befriend_57 ?_
    refine wp_iast2 (q := 2) (j := a1.toNatClampNeg) (mh2 := enc (sA (sA S 0 (upd (S.2.2.1 0) a0.toNatClampNeg (((S.2.2.1 0) a0.toNatClampNeg) &&& (((1 : Int32) <<< (a1 &&& (31 : Int32))) ^^^ (-1 : Int32))))) 0 (upd (upd (S.2.2.1 0) a0.toNatClampNeg (((S.2.2.1 0) a0.toNatClampNeg) &&& (((1 : Int32) <<< (a1 &&& (31 : Int32))) ^^^ (-1 : Int32)))) a1.toNatClampNeg (((upd (S.2.2.1 0) a0.toNatClampNeg (((S.2.2.1 0) a0.toNatClampNeg) &&& (((1 : Int32) <<< (a1 &&& (31 : Int32))) ^^^ (-1 : Int32)))) a1.toNatClampNeg) &&& (((1 : Int32) <<< (a0 &&& (31 : Int32))) ^^^ (-1 : Int32)))))) dX1_befriend_58 rfl q2 rfl (es_2 _ _) ?_
    exact wp_vret dX1_befriend_59 rfl ⟨_, rfl, rfl, h⟩
  · have h := h.2 c
    refine wp_aload_n dX1_befriend_4 rfl rfl ?_
    refine wp_get (q := 1) dX1_befriend_5 fX1_15 rfl rfl ?_
    refine wp_iload_n dX1_befriend_8 rfl rfl ?_
    refine wp_dup2 dX1_befriend_9 rfl rfl ?_
    obtain ⟨q3, h⟩ := h
    refine wp_iald2 (q := 2) (j := a0.toNatClampNeg) dX1_befriend_10 rfl q3 rfl ?_
    refine wp_iconst (v := (1 : Int32)) dX1_befriend_11 (by decide) ?_
    refine wp_iload_n dX1_befriend_12 rfl rfl ?_
    refine wp_ishl dX1_befriend_13 ?_
    refine wp_ior dX1_befriend_14 ?_
    refine wp_iast2 (q := 2) (j := a0.toNatClampNeg) (mh2 := enc (sA S 0 (upd (S.2.2.1 0) a0.toNatClampNeg (((S.2.2.1 0) a0.toNatClampNeg) ||| ((1 : Int32) <<< (a1 &&& (31 : Int32))))))) dX1_befriend_15 rfl q3 rfl (es_2 _ _) ?_
    refine wp_aload_n dX1_befriend_16 rfl rfl ?_
    refine wp_get (q := 1) dX1_befriend_17 fX1_15 rfl rfl ?_
    refine wp_iload_n dX1_befriend_20 rfl rfl ?_
    refine wp_dup2 dX1_befriend_21 rfl rfl ?_
    obtain ⟨q4, h⟩ := h
    refine wp_iald2 (q := 2) (j := a1.toNatClampNeg) dX1_befriend_22 rfl q4 rfl ?_
    refine wp_iconst (v := (1 : Int32)) dX1_befriend_23 (by decide) ?_
    refine wp_iload_n dX1_befriend_24 rfl rfl ?_
    refine wp_ishl dX1_befriend_25 ?_
    refine wp_ior dX1_befriend_26 ?_
    refine wp_iast2 (q := 2) (j := a1.toNatClampNeg) (mh2 := enc (sA (sA S 0 (upd (S.2.2.1 0) a0.toNatClampNeg (((S.2.2.1 0) a0.toNatClampNeg) ||| ((1 : Int32) <<< (a1 &&& (31 : Int32)))))) 0 (upd (upd (S.2.2.1 0) a0.toNatClampNeg (((S.2.2.1 0) a0.toNatClampNeg) ||| ((1 : Int32) <<< (a1 &&& (31 : Int32))))) a1.toNatClampNeg (((upd (S.2.2.1 0) a0.toNatClampNeg (((S.2.2.1 0) a0.toNatClampNeg) ||| ((1 : Int32) <<< (a1 &&& (31 : Int32))))) a1.toNatClampNeg) ||| ((1 : Int32) <<< (a0 &&& (31 : Int32))))))) dX1_befriend_27 rfl q4 rfl (es_2 _ _) ?_
    refine wp_goto (tgt := 59) dX1_befriend_28 (by decide) ?_
    exact wp_vret dX1_befriend_59 rfl ⟨_, rfl, rfl, h⟩
abbrev rX1_mayMark : Room := { frames := 0, cells := 0, slots := 0, locals := 0 }
abbrev wX1_mayMark (P : Int32 → St → Prop) (pc : Nat) (Ls stk : List Value) (S : St) : Prop := Wp cX1_mayMark RX1 2 rX1_mayMark (wFI .int P) pc Ls stk (enc S)
abbrev tX1_mayMark (a0 : Int32) (S : St) (P : Int32 → St → Prop) : Prop := wX1_mayMark P 0 (wl_en [.ref 1, .int a0] 2) [] S
set_option maxRecDepth 100000 in
theorem bX1_mayMark_0 {P : Int32 → St → Prop} {S : St} (a0 : Int32) (h : vp_in a0 8 ∧ P (((((1 : Int32) <<< ((S.1 0) &&& (31 : Int32))) - (1 : Int32)) &&& (((1 : Int32) <<< (a0 &&& (31 : Int32))) ^^^ (-1 : Int32))) &&& (((S.2.2.1 0) a0.toNatClampNeg) ^^^ (-1 : Int32))) S) : tX1_mayMark a0 S P := by
  show wX1_mayMark P 0 [.ref 1, .int a0] [] S
  refine wp_iconst (v := (1 : Int32)) dX1_mayMark_0 (by decide) ?_
  refine wp_aload_n dX1_mayMark_1 rfl rfl ?_
  refine wp_get (q := 1) dX1_mayMark_2 fX1_9 rfl rfl ?_
  refine wp_ishl dX1_mayMark_5 ?_
  refine wp_iconst (v := (1 : Int32)) dX1_mayMark_6 (by decide) ?_
  refine wp_isub dX1_mayMark_7 ?_
  refine wp_iconst (v := (1 : Int32)) dX1_mayMark_8 (by decide) ?_
  refine wp_iload_n dX1_mayMark_9 rfl rfl ?_
  refine wp_ishl dX1_mayMark_10 ?_
  refine wp_iconst (v := (-1 : Int32)) dX1_mayMark_11 (by decide) ?_
  refine wp_ixor dX1_mayMark_12 ?_
  refine wp_iand dX1_mayMark_13 ?_
  refine wp_aload_n dX1_mayMark_14 rfl rfl ?_
  refine wp_get (q := 1) dX1_mayMark_15 fX1_15 rfl rfl ?_
  refine wp_iload_n dX1_mayMark_18 rfl rfl ?_
  obtain ⟨q1, h⟩ := h
  refine wp_iald2 (q := 2) (j := a0.toNatClampNeg) dX1_mayMark_19 rfl q1 rfl ?_
  refine wp_iconst (v := (-1 : Int32)) dX1_mayMark_20 (by decide) ?_
  refine wp_ixor dX1_mayMark_21 ?_
  refine wp_iand dX1_mayMark_22 ?_
  exact wp_iret dX1_mayMark_23 rfl rfl ⟨_, _, rfl, rfl, h⟩
abbrev rX1_pairsOfFriends : Room := { frames := 1, cells := 0, slots := 0, locals := 20 }
abbrev wX1_pairsOfFriends (P : Int32 → St → Prop) (pc : Nat) (Ls stk : List Value) (S : St) : Prop := Wp cX1_pairsOfFriends RX1 3 rX1_pairsOfFriends (wFI .int P) pc Ls stk (enc S)
abbrev tX1_pairsOfFriends  (S : St) (P : Int32 → St → Prop) : Prop := wX1_pairsOfFriends P 0 (wl_en [.ref 1] 3) [] S
set_option maxRecDepth 100000 in
theorem bX1_pairsOfFriends_0 {P : Int32 → St → Prop} {S : St}  (h : wX1_pairsOfFriends P 4 [.ref 1, .int (0 : Int32), .int (0 : Int32)] [] S) : tX1_pairsOfFriends  S P := by
  show wX1_pairsOfFriends P 0 [.ref 1, .retAddr 0, .retAddr 0] [] S
  refine wp_iconst (v := (0 : Int32)) dX1_pairsOfFriends_0 (by decide) ?_
  refine wp_istore_n (Ms := [.ref 1, .int (0 : Int32), .retAddr 0]) dX1_pairsOfFriends_1 rfl (by decide) rfl ?_
  refine wp_iconst (v := (0 : Int32)) dX1_pairsOfFriends_2 (by decide) ?_
  refine wp_istore_n (Ms := [.ref 1, .int (0 : Int32), .int (0 : Int32)]) dX1_pairsOfFriends_3 rfl (by decide) rfl ?_
  exact wp_le (Ms := [.ref 1, .int (0 : Int32), .int (0 : Int32)]) ⟨Or.inr rfl, Or.inr rfl, Or.inr rfl, trivial⟩ h
set_option maxRecDepth 100000 in
theorem bX1_pairsOfFriends_4 {P : Int32 → St → Prop} {S : St} (x1 : Int32) (x2 : Int32) (h : (((S.1 0) ≤ x2 → P (x1 / (2 : Int32)) S) ∧ (¬ (S.1 0) ≤ x2 → vp_in x2 8 ∧ wX1_pairsOfFriends P 4 [.ref 1, .int (x1 + (wbc ((S.2.2.1 0) x2.toNatClampNeg))), .int (x2 + (1 : Int32))] [] S))) : wX1_pairsOfFriends P 4 [.ref 1, .int x1, .int x2] [] S := by
  refine wp_iload_n dX1_pairsOfFriends_4 rfl rfl ?_
  refine wp_aload_n dX1_pairsOfFriends_5 rfl rfl ?_
  refine wp_get (q := 1) dX1_pairsOfFriends_6 fX1_9 rfl rfl ?_
  refine wp_icmp_ge (tgt := 30) dX1_pairsOfFriends_9 (by decide) (fun c => ?_) (fun c => ?_)
  · have h := h.1 c
    refine wp_iload_n dX1_pairsOfFriends_30 rfl rfl ?_
    refine wp_iconst (v := (2 : Int32)) dX1_pairsOfFriends_31 (by decide) ?_
    refine wp_idiv dX1_pairsOfFriends_32 (by decide) ?_
    exact wp_iret dX1_pairsOfFriends_33 rfl rfl ⟨_, _, rfl, rfl, h⟩
  · have h := h.2 c
    refine wp_iload_n dX1_pairsOfFriends_12 rfl rfl ?_
    refine wp_aload_n dX1_pairsOfFriends_13 rfl rfl ?_
    refine wp_get (q := 1) dX1_pairsOfFriends_14 fX1_15 rfl rfl ?_
    refine wp_iload_n dX1_pairsOfFriends_17 rfl rfl ?_
    obtain ⟨q1, h⟩ := h
    refine wp_iald2 (q := 2) (j := x2.toNatClampNeg) dX1_pairsOfFriends_18 rfl q1 rfl ?_
    refine wp_bitc dX1_pairsOfFriends_19 lX1_28 (by decide) (Nat.le_of_ble_eq_true rfl) ?_
    refine wp_iadd dX1_pairsOfFriends_22 ?_
    refine wp_istore_n (Ms := [.ref 1, .int (x1 + (wbc ((S.2.2.1 0) x2.toNatClampNeg))), .int x2]) dX1_pairsOfFriends_23 rfl (by decide) rfl ?_
    refine wp_iinc (Ms := [.ref 1, .int (x1 + (wbc ((S.2.2.1 0) x2.toNatClampNeg))), .int (x2 + (1 : Int32))]) (v := x2 + (1 : Int32)) dX1_pairsOfFriends_24 rfl rfl (by decide) rfl ?_
    refine wp_goto (tgt := 4) dX1_pairsOfFriends_27 (by decide) ?_
    exact wp_le (Ms := [.ref 1, .int (x1 + (wbc ((S.2.2.1 0) x2.toNatClampNeg))), .int (x2 + (1 : Int32))]) ⟨Or.inr rfl, Or.inr rfl, Or.inr rfl, trivial⟩ h
abbrev rX2_wipe : Room := { frames := 1, cells := 0, slots := 0, locals := 23 }
abbrev wX2_wipe (P : St → Prop) (pc : Nat) (Ls stk : List Value) (S : St) : Prop := Wp cX2_wipe RX2 2 rX2_wipe (wFV P) pc Ls stk (enc S)
abbrev tX2_wipe  (S : St) (P : St → Prop) : Prop := wX2_wipe P 0 (wl_en [.ref 4] 2) [] S
set_option maxRecDepth 100000 in
theorem bX2_wipe_0 {P : St → Prop} {S : St}  (h : wX2_wipe P 2 [.ref 4, .int (0 : Int32)] [] S) : tX2_wipe  S P := by
  show wX2_wipe P 0 [.ref 4, .retAddr 0] [] S
  refine wp_iconst (v := (0 : Int32)) dX2_wipe_0 (by decide) ?_
  refine wp_istore_n (Ms := [.ref 4, .int (0 : Int32)]) dX2_wipe_1 rfl (by decide) rfl ?_
  exact wp_le (Ms := [.ref 4, .int (0 : Int32)]) ⟨Or.inr rfl, Or.inr rfl, trivial⟩ h
set_option maxRecDepth 100000 in
theorem bX2_wipe_2 {P : St → Prop} {S : St} (x1 : Int32) (h : (((8 : Int32) ≤ x1 → P (sA S 10 (wfill (S.2.2.1 10) 8 (-1 : Int32)))) ∧ (¬ (8 : Int32) ≤ x1 → vp_in x1 8 ∧ wX2_wipe P 2 [.ref 4, .int (x1 + (1 : Int32))] [] (sA S (2 + x1.toNatClampNeg) (wfill (S.2.2.1 (2 + x1.toNatClampNeg)) 8 (-1 : Int32)))))) : wX2_wipe P 2 [.ref 4, .int x1] [] S := by
  refine wp_iload_n dX2_wipe_2 rfl rfl ?_
  refine wp_bipush (v := (8 : Int32)) dX2_wipe_3 (by decide) ?_
  refine wp_icmp_ge (tgt := 24) dX2_wipe_5 (by decide) (fun c => ?_) (fun c => ?_)
  · have h := h.1 c
    refine wp_aload_n dX2_wipe_24 rfl rfl ?_
    refine wp_get (q := 4) dX2_wipe_25 fX2_16 rfl rfl ?_
    refine wp_iconst (v := (-1 : Int32)) dX2_wipe_28 (by decide) ?_
    refine wp_fillI (q := 14) (mh2 := enc (sA S 10 (wfill (S.2.2.1 10) 8 (-1 : Int32)))) dX2_wipe_29 lX2_27 (by decide) rfl (by decide) (es_14 _ _) (Nat.le_of_ble_eq_true rfl) ?_
    exact wp_vret dX2_wipe_32 rfl ⟨_, rfl, rfl, h⟩
  · have h := h.2 c
    refine wp_aload_n dX2_wipe_8 rfl rfl ?_
    refine wp_get (q := 4) dX2_wipe_9 fX2_11 rfl rfl ?_
    refine wp_iload_n dX2_wipe_12 rfl rfl ?_
    obtain ⟨q1, h⟩ := h
    refine wp_aald (q := 5) dX2_wipe_13 rfl rfl q1 (encR q1) ?_
    refine wp_iconst (v := (-1 : Int32)) dX2_wipe_14 (by decide) ?_
    refine wp_fillI (mh2 := enc (sA S (2 + x1.toNatClampNeg) (wfill (S.2.2.1 (2 + x1.toNatClampNeg)) 8 (-1 : Int32)))) dX2_wipe_15 lX2_27 (by decide) (encG _ q1) (by decide) (encGs _ q1 _) (Nat.le_of_ble_eq_true rfl) ?_
    refine wp_iinc (Ms := [.ref 4, .int (x1 + (1 : Int32))]) (v := x1 + (1 : Int32)) dX2_wipe_18 rfl rfl (by decide) rfl ?_
    refine wp_goto (tgt := 2) dX2_wipe_21 (by decide) ?_
    exact wp_le (Ms := [.ref 4, .int (x1 + (1 : Int32))]) ⟨Or.inr rfl, Or.inr rfl, trivial⟩ h
abbrev rX2_whoMarked : Room := { frames := 0, cells := 0, slots := 0, locals := 0 }
abbrev wX2_whoMarked (P : Int32 → St → Prop) (pc : Nat) (Ls stk : List Value) (S : St) : Prop := Wp cX2_whoMarked RX2 4 rX2_whoMarked (wFI .int P) pc Ls stk (enc S)
abbrev tX2_whoMarked (a0 : Int32) (S : St) (P : Int32 → St → Prop) : Prop := wX2_whoMarked P 0 (wl_en [.ref 4, .int a0] 4) [] S
set_option maxRecDepth 100000 in
theorem bX2_whoMarked_0 {P : Int32 → St → Prop} {S : St} (a0 : Int32) (h : wX2_whoMarked P 4 [.ref 4, .int a0, .int (0 : Int32), .int (0 : Int32)] [] S) : tX2_whoMarked a0 S P := by
  show wX2_whoMarked P 0 [.ref 4, .int a0, .retAddr 0, .retAddr 0] [] S
  refine wp_iconst (v := (0 : Int32)) dX2_whoMarked_0 (by decide) ?_
  refine wp_istore_n (Ms := [.ref 4, .int a0, .int (0 : Int32), .retAddr 0]) dX2_whoMarked_1 rfl (by decide) rfl ?_
  refine wp_iconst (v := (0 : Int32)) dX2_whoMarked_2 (by decide) ?_
  refine wp_istore_n (Ms := [.ref 4, .int a0, .int (0 : Int32), .int (0 : Int32)]) dX2_whoMarked_3 rfl (by decide) rfl ?_
  exact wp_le (Ms := [.ref 4, .int a0, .int (0 : Int32), .int (0 : Int32)]) ⟨Or.inr rfl, Or.inr rfl, Or.inr rfl, Or.inr rfl, trivial⟩ h
set_option maxRecDepth 100000 in
theorem bX2_whoMarked_4 {P : Int32 → St → Prop} {S : St} (x1 : Int32) (x2 : Int32) (x3 : Int32) (h : (((S.1 0) ≤ x3 → P x2 S) ∧ (¬ (S.1 0) ≤ x3 → vp_in x3 8 ∧ vp_in x1 8 ∧ ((((S.2.2.1 (2 + x3.toNatClampNeg)) x1.toNatClampNeg) = (-1 : Int32) → wX2_whoMarked P 4 [.ref 4, .int x1, .int x2, .int (x3 + (1 : Int32))] [] S) ∧ (¬ ((S.2.2.1 (2 + x3.toNatClampNeg)) x1.toNatClampNeg) = (-1 : Int32) → wX2_whoMarked P 4 [.ref 4, .int x1, .int (x2 ||| ((1 : Int32) <<< (x3 &&& (31 : Int32)))), .int (x3 + (1 : Int32))] [] S))))) : wX2_whoMarked P 4 [.ref 4, .int x1, .int x2, .int x3] [] S := by
  refine wp_iload_n dX2_whoMarked_4 rfl rfl ?_
  refine wp_aload_n dX2_whoMarked_5 rfl rfl ?_
  refine wp_get (q := 4) dX2_whoMarked_6 fX2_20 rfl rfl ?_
  refine wp_get (q := 1) dX2_whoMarked_9 fX2_33 rfl rfl ?_
  refine wp_icmp_ge (tgt := 39) dX2_whoMarked_12 (by decide) (fun c => ?_) (fun c => ?_)
  · have h := h.1 c
    refine wp_iload_n dX2_whoMarked_39 rfl rfl ?_
    exact wp_iret dX2_whoMarked_40 rfl rfl ⟨_, _, rfl, rfl, h⟩
  · have h := h.2 c
    refine wp_aload_n dX2_whoMarked_15 rfl rfl ?_
    refine wp_get (q := 4) dX2_whoMarked_16 fX2_11 rfl rfl ?_
    refine wp_iload_n dX2_whoMarked_19 rfl rfl ?_
    obtain ⟨q1, h⟩ := h
    refine wp_aald (q := 5) dX2_whoMarked_20 rfl rfl q1 (encR q1) ?_
    refine wp_iload_n dX2_whoMarked_21 rfl rfl ?_
    obtain ⟨q2, h⟩ := h
    refine wp_iald2 (j := x1.toNatClampNeg) dX2_whoMarked_22 (encG _ q1) q2 rfl ?_
    refine wp_iconst (v := (-1 : Int32)) dX2_whoMarked_23 (by decide) ?_
    refine wp_icmp_eq (tgt := 33) dX2_whoMarked_24 (by decide) (fun c => ?_) (fun c => ?_)
    · have h := h.1 c
      refine wp_iinc (Ms := [.ref 4, .int x1, .int x2, .int (x3 + (1 : Int32))]) (v := x3 + (1 : Int32)) dX2_whoMarked_33 rfl rfl (by decide) rfl ?_
      refine wp_goto (tgt := 4) dX2_whoMarked_36 (by decide) ?_
      exact wp_le (Ms := [.ref 4, .int x1, .int x2, .int (x3 + (1 : Int32))]) ⟨Or.inr rfl, Or.inr rfl, Or.inr rfl, Or.inr rfl, trivial⟩ h
    · have h := h.2 c
      refine wp_iload_n dX2_whoMarked_27 rfl rfl ?_
      refine wp_iconst (v := (1 : Int32)) dX2_whoMarked_28 (by decide) ?_
      refine wp_iload_n dX2_whoMarked_29 rfl rfl ?_
      refine wp_ishl dX2_whoMarked_30 ?_
      refine wp_ior dX2_whoMarked_31 ?_
      refine wp_istore_n (Ms := [.ref 4, .int x1, .int (x2 ||| ((1 : Int32) <<< (x3 &&& (31 : Int32)))), .int x3]) dX2_whoMarked_32 rfl (by decide) rfl ?_
      refine wp_iinc (Ms := [.ref 4, .int x1, .int (x2 ||| ((1 : Int32) <<< (x3 &&& (31 : Int32)))), .int (x3 + (1 : Int32))]) (v := x3 + (1 : Int32)) dX2_whoMarked_33 rfl rfl (by decide) rfl ?_
      refine wp_goto (tgt := 4) dX2_whoMarked_36 (by decide) ?_
      exact wp_le (Ms := [.ref 4, .int x1, .int (x2 ||| ((1 : Int32) <<< (x3 &&& (31 : Int32)))), .int (x3 + (1 : Int32))]) ⟨Or.inr rfl, Or.inr rfl, Or.inr rfl, Or.inr rfl, trivial⟩ h
abbrev rX2_marksBy : Room := { frames := 0, cells := 0, slots := 0, locals := 0 }
abbrev wX2_marksBy (P : Int32 → St → Prop) (pc : Nat) (Ls stk : List Value) (S : St) : Prop := Wp cX2_marksBy RX2 4 rX2_marksBy (wFI .int P) pc Ls stk (enc S)
abbrev tX2_marksBy (a0 : Int32) (S : St) (P : Int32 → St → Prop) : Prop := wX2_marksBy P 0 (wl_en [.ref 4, .int a0] 4) [] S
set_option maxRecDepth 100000 in
theorem bX2_marksBy_0 {P : Int32 → St → Prop} {S : St} (a0 : Int32) (h : wX2_marksBy P 4 [.ref 4, .int a0, .int (0 : Int32), .int (0 : Int32)] [] S) : tX2_marksBy a0 S P := by
  show wX2_marksBy P 0 [.ref 4, .int a0, .retAddr 0, .retAddr 0] [] S
  refine wp_iconst (v := (0 : Int32)) dX2_marksBy_0 (by decide) ?_
  refine wp_istore_n (Ms := [.ref 4, .int a0, .int (0 : Int32), .retAddr 0]) dX2_marksBy_1 rfl (by decide) rfl ?_
  refine wp_iconst (v := (0 : Int32)) dX2_marksBy_2 (by decide) ?_
  refine wp_istore_n (Ms := [.ref 4, .int a0, .int (0 : Int32), .int (0 : Int32)]) dX2_marksBy_3 rfl (by decide) rfl ?_
  exact wp_le (Ms := [.ref 4, .int a0, .int (0 : Int32), .int (0 : Int32)]) ⟨Or.inr rfl, Or.inr rfl, Or.inr rfl, Or.inr rfl, trivial⟩ h
set_option maxRecDepth 100000 in
theorem bX2_marksBy_4 {P : Int32 → St → Prop} {S : St} (x1 : Int32) (x2 : Int32) (x3 : Int32) (h : (((S.1 0) ≤ x3 → P x2 S) ∧ (¬ (S.1 0) ≤ x3 → vp_in x1 8 ∧ vp_in x3 8 ∧ ((((S.2.2.1 (2 + x1.toNatClampNeg)) x3.toNatClampNeg) = (-1 : Int32) → wX2_marksBy P 4 [.ref 4, .int x1, .int x2, .int (x3 + (1 : Int32))] [] S) ∧ (¬ ((S.2.2.1 (2 + x1.toNatClampNeg)) x3.toNatClampNeg) = (-1 : Int32) → wX2_marksBy P 4 [.ref 4, .int x1, .int (x2 + (1 : Int32)), .int (x3 + (1 : Int32))] [] S))))) : wX2_marksBy P 4 [.ref 4, .int x1, .int x2, .int x3] [] S := by
  refine wp_iload_n dX2_marksBy_4 rfl rfl ?_
  refine wp_aload_n dX2_marksBy_5 rfl rfl ?_
  refine wp_get (q := 4) dX2_marksBy_6 fX2_20 rfl rfl ?_
  refine wp_get (q := 1) dX2_marksBy_9 fX2_33 rfl rfl ?_
  refine wp_icmp_ge (tgt := 36) dX2_marksBy_12 (by decide) (fun c => ?_) (fun c => ?_)
  · have h := h.1 c
    refine wp_iload_n dX2_marksBy_36 rfl rfl ?_
    exact wp_iret dX2_marksBy_37 rfl rfl ⟨_, _, rfl, rfl, h⟩
  · have h := h.2 c
    refine wp_aload_n dX2_marksBy_15 rfl rfl ?_
    refine wp_get (q := 4) dX2_marksBy_16 fX2_11 rfl rfl ?_
    refine wp_iload_n dX2_marksBy_19 rfl rfl ?_
    obtain ⟨q1, h⟩ := h
    refine wp_aald (q := 5) dX2_marksBy_20 rfl rfl q1 (encR q1) ?_
    refine wp_iload_n dX2_marksBy_21 rfl rfl ?_
    obtain ⟨q2, h⟩ := h
    refine wp_iald2 (j := x3.toNatClampNeg) dX2_marksBy_22 (encG _ q1) q2 rfl ?_
    refine wp_iconst (v := (-1 : Int32)) dX2_marksBy_23 (by decide) ?_
    refine wp_icmp_eq (tgt := 30) dX2_marksBy_24 (by decide) (fun c => ?_) (fun c => ?_)
    · have h := h.1 c
      refine wp_iinc (Ms := [.ref 4, .int x1, .int x2, .int (x3 + (1 : Int32))]) (v := x3 + (1 : Int32)) dX2_marksBy_30 rfl rfl (by decide) rfl ?_
      refine wp_goto (tgt := 4) dX2_marksBy_33 (by decide) ?_
      exact wp_le (Ms := [.ref 4, .int x1, .int x2, .int (x3 + (1 : Int32))]) ⟨Or.inr rfl, Or.inr rfl, Or.inr rfl, Or.inr rfl, trivial⟩ h
    · have h := h.2 c
      refine wp_iinc (Ms := [.ref 4, .int x1, .int (x2 + (1 : Int32)), .int x3]) (v := x2 + (1 : Int32)) dX2_marksBy_27 rfl rfl (by decide) rfl ?_
      refine wp_iinc (Ms := [.ref 4, .int x1, .int (x2 + (1 : Int32)), .int (x3 + (1 : Int32))]) (v := x3 + (1 : Int32)) dX2_marksBy_30 rfl rfl (by decide) rfl ?_
      refine wp_goto (tgt := 4) dX2_marksBy_33 (by decide) ?_
      exact wp_le (Ms := [.ref 4, .int x1, .int (x2 + (1 : Int32)), .int (x3 + (1 : Int32))]) ⟨Or.inr rfl, Or.inr rfl, Or.inr rfl, Or.inr rfl, trivial⟩ h
abbrev rX2_howManyMarks : Room := { frames := 1, cells := 0, slots := 0, locals := 23 }
abbrev wX2_howManyMarks (P : Int32 → St → Prop) (pc : Nat) (Ls stk : List Value) (S : St) : Prop := Wp cX2_howManyMarks RX2 3 rX2_howManyMarks (wFI .int P) pc Ls stk (enc S)
abbrev tX2_howManyMarks  (S : St) (P : Int32 → St → Prop) : Prop := wX2_howManyMarks P 0 (wl_en [.ref 4] 3) [] S
set_option maxRecDepth 100000 in
theorem bX2_howManyMarks_0 {P : Int32 → St → Prop} {S : St}  (h : wX2_howManyMarks P 4 [.ref 4, .int (0 : Int32), .int (0 : Int32)] [] S) : tX2_howManyMarks  S P := by
  show wX2_howManyMarks P 0 [.ref 4, .retAddr 0, .retAddr 0] [] S
  refine wp_iconst (v := (0 : Int32)) dX2_howManyMarks_0 (by decide) ?_
  refine wp_istore_n (Ms := [.ref 4, .int (0 : Int32), .retAddr 0]) dX2_howManyMarks_1 rfl (by decide) rfl ?_
  refine wp_iconst (v := (0 : Int32)) dX2_howManyMarks_2 (by decide) ?_
  refine wp_istore_n (Ms := [.ref 4, .int (0 : Int32), .int (0 : Int32)]) dX2_howManyMarks_3 rfl (by decide) rfl ?_
  exact wp_le (Ms := [.ref 4, .int (0 : Int32), .int (0 : Int32)]) ⟨Or.inr rfl, Or.inr rfl, Or.inr rfl, trivial⟩ h
set_option maxRecDepth 100000 in
theorem bX2_howManyMarks_4 {P : Int32 → St → Prop} {S : St} (x1 : Int32) (x2 : Int32) (h : (((S.1 0) ≤ x2 → P x1 S) ∧ (¬ (S.1 0) ≤ x2 → tX2_marksBy x2 S (fun r2 S1 => wX2_howManyMarks P 4 [.ref 4, .int (x1 + r2), .int (x2 + (1 : Int32))] [] S1)))) : wX2_howManyMarks P 4 [.ref 4, .int x1, .int x2] [] S := by
  refine wp_iload_n dX2_howManyMarks_4 rfl rfl ?_
  refine wp_aload_n dX2_howManyMarks_5 rfl rfl ?_
  refine wp_get (q := 4) dX2_howManyMarks_6 fX2_20 rfl rfl ?_
  refine wp_get (q := 1) dX2_howManyMarks_9 fX2_33 rfl rfl ?_
  refine wp_icmp_ge (tgt := 29) dX2_howManyMarks_12 (by decide) (fun c => ?_) (fun c => ?_)
  · have h := h.1 c
    refine wp_iload_n dX2_howManyMarks_29 rfl rfl ?_
    exact wp_iret dX2_howManyMarks_30 rfl rfl ⟨_, _, rfl, rfl, h⟩
  · have h := h.2 c
    refine wp_iload_n dX2_howManyMarks_15 rfl rfl ?_
    refine wp_aload_n dX2_howManyMarks_16 rfl rfl ?_
    refine wp_iload_n dX2_howManyMarks_17 rfl rfl ?_
    refine wp_callV (q := 4) (As := [.int x2]) (rest := [.int x1]) dX2_howManyMarks_18 mX2_marksBy lX2_39 (by decide) rfl rfl rfl rfl (Nat.le_of_ble_eq_true rfl) (Nat.le_of_ble_eq_true rfl) h ?_
    rintro rv mh2 ⟨r2, S1, rfl, rfl, h⟩
    refine wp_iadd dX2_howManyMarks_21 ?_
    refine wp_istore_n (Ms := [.ref 4, .int (x1 + r2), .int x2]) dX2_howManyMarks_22 rfl (by decide) rfl ?_
    refine wp_iinc (Ms := [.ref 4, .int (x1 + r2), .int (x2 + (1 : Int32))]) (v := x2 + (1 : Int32)) dX2_howManyMarks_23 rfl rfl (by decide) rfl ?_
    refine wp_goto (tgt := 4) dX2_howManyMarks_26 (by decide) ?_
    exact wp_le (Ms := [.ref 4, .int (x1 + r2), .int (x2 + (1 : Int32))]) ⟨Or.inr rfl, Or.inr rfl, Or.inr rfl, trivial⟩ h
abbrev rX2_howManyByStaff : Room := { frames := 0, cells := 0, slots := 0, locals := 0 }
abbrev wX2_howManyByStaff (P : Int32 → St → Prop) (pc : Nat) (Ls stk : List Value) (S : St) : Prop := Wp cX2_howManyByStaff RX2 3 rX2_howManyByStaff (wFI .int P) pc Ls stk (enc S)
abbrev tX2_howManyByStaff  (S : St) (P : Int32 → St → Prop) : Prop := wX2_howManyByStaff P 0 (wl_en [.ref 4] 3) [] S
set_option maxRecDepth 100000 in
theorem bX2_howManyByStaff_0 {P : Int32 → St → Prop} {S : St}  (h : wX2_howManyByStaff P 4 [.ref 4, .int (0 : Int32), .int (0 : Int32)] [] S) : tX2_howManyByStaff  S P := by
  show wX2_howManyByStaff P 0 [.ref 4, .retAddr 0, .retAddr 0] [] S
  refine wp_iconst (v := (0 : Int32)) dX2_howManyByStaff_0 (by decide) ?_
  refine wp_istore_n (Ms := [.ref 4, .int (0 : Int32), .retAddr 0]) dX2_howManyByStaff_1 rfl (by decide) rfl ?_
  refine wp_iconst (v := (0 : Int32)) dX2_howManyByStaff_2 (by decide) ?_
  refine wp_istore_n (Ms := [.ref 4, .int (0 : Int32), .int (0 : Int32)]) dX2_howManyByStaff_3 rfl (by decide) rfl ?_
  exact wp_le (Ms := [.ref 4, .int (0 : Int32), .int (0 : Int32)]) ⟨Or.inr rfl, Or.inr rfl, Or.inr rfl, trivial⟩ h
set_option maxRecDepth 100000 in
theorem bX2_howManyByStaff_4 {P : Int32 → St → Prop} {S : St} (x1 : Int32) (x2 : Int32) (h : (((S.1 0) ≤ x2 → P x1 S) ∧ (¬ (S.1 0) ≤ x2 → vp_in x2 8 ∧ ((((S.2.2.1 10) x2.toNatClampNeg) = (-1 : Int32) → wX2_howManyByStaff P 4 [.ref 4, .int x1, .int (x2 + (1 : Int32))] [] S) ∧ (¬ ((S.2.2.1 10) x2.toNatClampNeg) = (-1 : Int32) → wX2_howManyByStaff P 4 [.ref 4, .int (x1 + (1 : Int32)), .int (x2 + (1 : Int32))] [] S))))) : wX2_howManyByStaff P 4 [.ref 4, .int x1, .int x2] [] S := by
  refine wp_iload_n dX2_howManyByStaff_4 rfl rfl ?_
  refine wp_aload_n dX2_howManyByStaff_5 rfl rfl ?_
  refine wp_get (q := 4) dX2_howManyByStaff_6 fX2_20 rfl rfl ?_
  refine wp_get (q := 1) dX2_howManyByStaff_9 fX2_33 rfl rfl ?_
  refine wp_icmp_ge (tgt := 34) dX2_howManyByStaff_12 (by decide) (fun c => ?_) (fun c => ?_)
  · have h := h.1 c
    refine wp_iload_n dX2_howManyByStaff_34 rfl rfl ?_
    exact wp_iret dX2_howManyByStaff_35 rfl rfl ⟨_, _, rfl, rfl, h⟩
  · have h := h.2 c
    refine wp_aload_n dX2_howManyByStaff_15 rfl rfl ?_
    refine wp_get (q := 4) dX2_howManyByStaff_16 fX2_16 rfl rfl ?_
    refine wp_iload_n dX2_howManyByStaff_19 rfl rfl ?_
    obtain ⟨q1, h⟩ := h
    refine wp_iald2 (q := 14) (j := x2.toNatClampNeg) dX2_howManyByStaff_20 rfl q1 rfl ?_
    refine wp_iconst (v := (-1 : Int32)) dX2_howManyByStaff_21 (by decide) ?_
    refine wp_icmp_eq (tgt := 28) dX2_howManyByStaff_22 (by decide) (fun c => ?_) (fun c => ?_)
    · have h := h.1 c
      refine wp_iinc (Ms := [.ref 4, .int x1, .int (x2 + (1 : Int32))]) (v := x2 + (1 : Int32)) dX2_howManyByStaff_28 rfl rfl (by decide) rfl ?_
      refine wp_goto (tgt := 4) dX2_howManyByStaff_31 (by decide) ?_
      exact wp_le (Ms := [.ref 4, .int x1, .int (x2 + (1 : Int32))]) ⟨Or.inr rfl, Or.inr rfl, Or.inr rfl, trivial⟩ h
    · have h := h.2 c
      refine wp_iinc (Ms := [.ref 4, .int (x1 + (1 : Int32)), .int x2]) (v := x1 + (1 : Int32)) dX2_howManyByStaff_25 rfl rfl (by decide) rfl ?_
      refine wp_iinc (Ms := [.ref 4, .int (x1 + (1 : Int32)), .int (x2 + (1 : Int32))]) (v := x2 + (1 : Int32)) dX2_howManyByStaff_28 rfl rfl (by decide) rfl ?_
      refine wp_goto (tgt := 4) dX2_howManyByStaff_31 (by decide) ?_
      exact wp_le (Ms := [.ref 4, .int (x1 + (1 : Int32)), .int (x2 + (1 : Int32))]) ⟨Or.inr rfl, Or.inr rfl, Or.inr rfl, trivial⟩ h
abbrev rX2_spreadOf : Room := { frames := 1, cells := 0, slots := 0, locals := 21 }
abbrev wX2_spreadOf (P : Int32 → St → Prop) (pc : Nat) (Ls stk : List Value) (S : St) : Prop := Wp cX2_spreadOf RX2 6 rX2_spreadOf (wFI .int P) pc Ls stk (enc S)
abbrev tX2_spreadOf (a0 : Int32) (S : St) (P : Int32 → St → Prop) : Prop := wX2_spreadOf P 0 (wl_en [.ref 4, .int a0] 6) [] S
set_option maxRecDepth 100000 in
theorem bX2_spreadOf_0 {P : Int32 → St → Prop} {S : St} (a0 : Int32) (h : wX2_spreadOf P 8 [.ref 4, .int a0, .int (100 : Int32), .int (-1 : Int32), .int (0 : Int32), .retAddr 0] [] S) : tX2_spreadOf a0 S P := by
  show wX2_spreadOf P 0 [.ref 4, .int a0, .retAddr 0, .retAddr 0, .retAddr 0, .retAddr 0] [] S
  refine wp_bipush (v := (100 : Int32)) dX2_spreadOf_0 (by decide) ?_
  refine wp_istore_n (Ms := [.ref 4, .int a0, .int (100 : Int32), .retAddr 0, .retAddr 0, .retAddr 0]) dX2_spreadOf_2 rfl (by decide) rfl ?_
  refine wp_iconst (v := (-1 : Int32)) dX2_spreadOf_3 (by decide) ?_
  refine wp_istore_n (Ms := [.ref 4, .int a0, .int (100 : Int32), .int (-1 : Int32), .retAddr 0, .retAddr 0]) dX2_spreadOf_4 rfl (by decide) rfl ?_
  refine wp_iconst (v := (0 : Int32)) dX2_spreadOf_5 (by decide) ?_
  refine wp_istore (Ms := [.ref 4, .int a0, .int (100 : Int32), .int (-1 : Int32), .int (0 : Int32), .retAddr 0]) dX2_spreadOf_6 (by decide) rfl ?_
  exact wp_le (Ms := [.ref 4, .int a0, .int (100 : Int32), .int (-1 : Int32), .int (0 : Int32), .retAddr 0]) ⟨Or.inr rfl, Or.inr rfl, Or.inr rfl, Or.inr rfl, Or.inr rfl, Or.inl rfl, trivial⟩ h
set_option maxRecDepth 100000 in
theorem bX2_spreadOf_8 {P : Int32 → St → Prop} {S : St} (x1 : Int32) (x2 : Int32) (x3 : Int32) (x4 : Int32) (h : (((S.1 0) ≤ x4 → P (if (x3 - x2) < (0 : Int32) then (0 : Int32) else x3 - x2) S) ∧ (¬ (S.1 0) ≤ x4 → vp_in x4 8 ∧ vp_in x1 8 ∧ ((((S.2.2.1 (2 + x4.toNatClampNeg)) x1.toNatClampNeg) = (-1 : Int32) → wX2_spreadOf P 8 [.ref 4, .int x1, .int x2, .int x3, .int (x4 + (1 : Int32)), .retAddr 0] [] S) ∧ (¬ ((S.2.2.1 (2 + x4.toNatClampNeg)) x1.toNatClampNeg) = (-1 : Int32) → wX2_spreadOf P 8 [.ref 4, .int x1, .int (if ((S.2.2.1 (2 + x4.toNatClampNeg)) x1.toNatClampNeg) < x2 then (S.2.2.1 (2 + x4.toNatClampNeg)) x1.toNatClampNeg else x2), .int (if x3 < ((S.2.2.1 (2 + x4.toNatClampNeg)) x1.toNatClampNeg) then (S.2.2.1 (2 + x4.toNatClampNeg)) x1.toNatClampNeg else x3), .int (x4 + (1 : Int32)), .retAddr 0] [] S))))) : wX2_spreadOf P 8 [.ref 4, .int x1, .int x2, .int x3, .int x4, .retAddr 0] [] S := by
  refine wp_iload dX2_spreadOf_8 rfl ?_
  refine wp_aload_n dX2_spreadOf_10 rfl rfl ?_
  refine wp_get (q := 4) dX2_spreadOf_11 fX2_20 rfl rfl ?_
  refine wp_get (q := 1) dX2_spreadOf_14 fX2_33 rfl rfl ?_
  refine wp_icmp_ge (tgt := 57) dX2_spreadOf_17 (by decide) (fun c => ?_) (fun c => ?_)
  · have h := h.1 c
    refine wp_iload_n dX2_spreadOf_57 rfl rfl ?_
    refine wp_iload_n dX2_spreadOf_58 rfl rfl ?_
    refine wp_isub dX2_spreadOf_59 ?_
    refine wp_iconst (v := (0 : Int32)) dX2_spreadOf_60 (by decide) ?_
    refine wp_mmax dX2_spreadOf_61 lX2_55 (by decide) (Nat.le_of_ble_eq_true rfl) ?_
    exact wp_iret dX2_spreadOf_64 rfl rfl ⟨_, _, rfl, rfl, h⟩
  · have h := h.2 c
    refine wp_aload_n dX2_spreadOf_20 rfl rfl ?_
    refine wp_get (q := 4) dX2_spreadOf_21 fX2_11 rfl rfl ?_
    refine wp_iload dX2_spreadOf_24 rfl ?_
    obtain ⟨q1, h⟩ := h
    refine wp_aald (q := 5) dX2_spreadOf_26 rfl rfl q1 (encR q1) ?_
    refine wp_iload_n dX2_spreadOf_27 rfl rfl ?_
    obtain ⟨q2, h⟩ := h
    refine wp_iald2 (j := x1.toNatClampNeg) dX2_spreadOf_28 (encG _ q1) q2 rfl ?_
    refine wp_istore (Ms := [.ref 4, .int x1, .int x2, .int x3, .int x4, .int ((S.2.2.1 (2 + x4.toNatClampNeg)) x1.toNatClampNeg)]) dX2_spreadOf_29 (by decide) rfl ?_
    refine wp_iload dX2_spreadOf_31 rfl ?_
    refine wp_iconst (v := (-1 : Int32)) dX2_spreadOf_33 (by decide) ?_
    refine wp_icmp_eq (tgt := 51) dX2_spreadOf_34 (by decide) (fun c => ?_) (fun c => ?_)
    · have h := h.1 c
      refine wp_iinc (Ms := [.ref 4, .int x1, .int x2, .int x3, .int (x4 + (1 : Int32)), .int ((S.2.2.1 (2 + x4.toNatClampNeg)) x1.toNatClampNeg)]) (v := x4 + (1 : Int32)) dX2_spreadOf_51 rfl rfl (by decide) rfl ?_
      refine wp_goto (tgt := 8) dX2_spreadOf_54 (by decide) ?_
      exact wp_le (Ms := [.ref 4, .int x1, .int x2, .int x3, .int (x4 + (1 : Int32)), .retAddr 0]) ⟨Or.inr rfl, Or.inr rfl, Or.inr rfl, Or.inr rfl, Or.inr rfl, Or.inl rfl, trivial⟩ h
    · have h := h.2 c
      refine wp_iload_n dX2_spreadOf_37 rfl rfl ?_
      refine wp_iload dX2_spreadOf_38 rfl ?_
      refine wp_mmin dX2_spreadOf_40 lX2_49 (by decide) (Nat.le_of_ble_eq_true rfl) ?_
      refine wp_istore_n (Ms := [.ref 4, .int x1, .int (if ((S.2.2.1 (2 + x4.toNatClampNeg)) x1.toNatClampNeg) < x2 then (S.2.2.1 (2 + x4.toNatClampNeg)) x1.toNatClampNeg else x2), .int x3, .int x4, .int ((S.2.2.1 (2 + x4.toNatClampNeg)) x1.toNatClampNeg)]) dX2_spreadOf_43 rfl (by decide) rfl ?_
      refine wp_iload_n dX2_spreadOf_44 rfl rfl ?_
      refine wp_iload dX2_spreadOf_45 rfl ?_
      refine wp_mmax dX2_spreadOf_47 lX2_55 (by decide) (Nat.le_of_ble_eq_true rfl) ?_
      refine wp_istore_n (Ms := [.ref 4, .int x1, .int (if ((S.2.2.1 (2 + x4.toNatClampNeg)) x1.toNatClampNeg) < x2 then (S.2.2.1 (2 + x4.toNatClampNeg)) x1.toNatClampNeg else x2), .int (if x3 < ((S.2.2.1 (2 + x4.toNatClampNeg)) x1.toNatClampNeg) then (S.2.2.1 (2 + x4.toNatClampNeg)) x1.toNatClampNeg else x3), .int x4, .int ((S.2.2.1 (2 + x4.toNatClampNeg)) x1.toNatClampNeg)]) dX2_spreadOf_50 rfl (by decide) rfl ?_
      refine wp_iinc (Ms := [.ref 4, .int x1, .int (if ((S.2.2.1 (2 + x4.toNatClampNeg)) x1.toNatClampNeg) < x2 then (S.2.2.1 (2 + x4.toNatClampNeg)) x1.toNatClampNeg else x2), .int (if x3 < ((S.2.2.1 (2 + x4.toNatClampNeg)) x1.toNatClampNeg) then (S.2.2.1 (2 + x4.toNatClampNeg)) x1.toNatClampNeg else x3), .int (x4 + (1 : Int32)), .int ((S.2.2.1 (2 + x4.toNatClampNeg)) x1.toNatClampNeg)]) (v := x4 + (1 : Int32)) dX2_spreadOf_51 rfl rfl (by decide) rfl ?_
      refine wp_goto (tgt := 8) dX2_spreadOf_54 (by decide) ?_
      exact wp_le (Ms := [.ref 4, .int x1, .int (if ((S.2.2.1 (2 + x4.toNatClampNeg)) x1.toNatClampNeg) < x2 then (S.2.2.1 (2 + x4.toNatClampNeg)) x1.toNatClampNeg else x2), .int (if x3 < ((S.2.2.1 (2 + x4.toNatClampNeg)) x1.toNatClampNeg) then (S.2.2.1 (2 + x4.toNatClampNeg)) x1.toNatClampNeg else x3), .int (x4 + (1 : Int32)), .retAddr 0]) ⟨Or.inr rfl, Or.inr rfl, Or.inr rfl, Or.inr rfl, Or.inr rfl, Or.inl rfl, trivial⟩ h
abbrev rX2_howManyAppealed : Room := { frames := 2, cells := 0, slots := 0, locals := 46 }
abbrev wX2_howManyAppealed (P : Int32 → St → Prop) (pc : Nat) (Ls stk : List Value) (S : St) : Prop := Wp cX2_howManyAppealed RX2 3 rX2_howManyAppealed (wFI .int P) pc Ls stk (enc S)
abbrev tX2_howManyAppealed  (S : St) (P : Int32 → St → Prop) : Prop := wX2_howManyAppealed P 0 (wl_en [.ref 4] 3) [] S
set_option maxRecDepth 100000 in
theorem bX2_howManyAppealed_0 {P : Int32 → St → Prop} {S : St}  (h : wX2_howManyAppealed P 4 [.ref 4, .int (0 : Int32), .int (0 : Int32)] [] S) : tX2_howManyAppealed  S P := by
  show wX2_howManyAppealed P 0 [.ref 4, .retAddr 0, .retAddr 0] [] S
  refine wp_iconst (v := (0 : Int32)) dX2_howManyAppealed_0 (by decide) ?_
  refine wp_istore_n (Ms := [.ref 4, .int (0 : Int32), .retAddr 0]) dX2_howManyAppealed_1 rfl (by decide) rfl ?_
  refine wp_iconst (v := (0 : Int32)) dX2_howManyAppealed_2 (by decide) ?_
  refine wp_istore_n (Ms := [.ref 4, .int (0 : Int32), .int (0 : Int32)]) dX2_howManyAppealed_3 rfl (by decide) rfl ?_
  exact wp_le (Ms := [.ref 4, .int (0 : Int32), .int (0 : Int32)]) ⟨Or.inr rfl, Or.inr rfl, Or.inr rfl, trivial⟩ h
set_option maxRecDepth 100000 in
theorem bX2_howManyAppealed_4 {P : Int32 → St → Prop} {S : St} (x1 : Int32) (x2 : Int32) (h : (((S.1 0) ≤ x2 → P x1 S) ∧ (¬ (S.1 0) ≤ x2 → tX2_spreadOf x2 S (fun r2 S1 => ((r2 ≤ ((S1.2.2.1 1) 2) → wX2_howManyAppealed P 4 [.ref 4, .int x1, .int (x2 + (1 : Int32))] [] S1) ∧ (¬ r2 ≤ ((S1.2.2.1 1) 2) → wX2_howManyAppealed P 4 [.ref 4, .int (x1 + (1 : Int32)), .int (x2 + (1 : Int32))] [] S1)))))) : wX2_howManyAppealed P 4 [.ref 4, .int x1, .int x2] [] S := by
  refine wp_iload_n dX2_howManyAppealed_4 rfl rfl ?_
  refine wp_aload_n dX2_howManyAppealed_5 rfl rfl ?_
  refine wp_get (q := 4) dX2_howManyAppealed_6 fX2_20 rfl rfl ?_
  refine wp_get (q := 1) dX2_howManyAppealed_9 fX2_33 rfl rfl ?_
  refine wp_icmp_ge (tgt := 41) dX2_howManyAppealed_12 (by decide) (fun c => ?_) (fun c => ?_)
  · have h := h.1 c
    refine wp_iload_n dX2_howManyAppealed_41 rfl rfl ?_
    exact wp_iret dX2_howManyAppealed_42 rfl rfl ⟨_, _, rfl, rfl, h⟩
  · have h := h.2 c
    refine wp_aload_n dX2_howManyAppealed_15 rfl rfl ?_
    refine wp_iload_n dX2_howManyAppealed_16 rfl rfl ?_
    refine wp_callV (q := 4) (As := [.int x2]) (rest := []) dX2_howManyAppealed_17 mX2_spreadOf lX2_43 (by decide) rfl rfl rfl rfl (Nat.le_of_ble_eq_true rfl) (Nat.le_of_ble_eq_true rfl) h ?_
    rintro rv mh2 ⟨r2, S1, rfl, rfl, h⟩
    refine wp_aload_n dX2_howManyAppealed_20 rfl rfl ?_
    refine wp_get (q := 4) dX2_howManyAppealed_21 fX2_20 rfl rfl ?_
    refine wp_get (q := 1) dX2_howManyAppealed_24 fX2_46 rfl rfl ?_
    refine wp_iconst (v := (2 : Int32)) dX2_howManyAppealed_27 (by decide) ?_
    refine wp_iald2 (q := 3) (j := 2) dX2_howManyAppealed_28 rfl (vpd rfl) rfl ?_
    refine wp_icmp_le (tgt := 35) dX2_howManyAppealed_29 (by decide) (fun c => ?_) (fun c => ?_)
    · have h := h.1 c
      refine wp_iinc (Ms := [.ref 4, .int x1, .int (x2 + (1 : Int32))]) (v := x2 + (1 : Int32)) dX2_howManyAppealed_35 rfl rfl (by decide) rfl ?_
      refine wp_goto (tgt := 4) dX2_howManyAppealed_38 (by decide) ?_
      exact wp_le (Ms := [.ref 4, .int x1, .int (x2 + (1 : Int32))]) ⟨Or.inr rfl, Or.inr rfl, Or.inr rfl, trivial⟩ h
    · have h := h.2 c
      refine wp_iinc (Ms := [.ref 4, .int (x1 + (1 : Int32)), .int x2]) (v := x1 + (1 : Int32)) dX2_howManyAppealed_32 rfl rfl (by decide) rfl ?_
      refine wp_iinc (Ms := [.ref 4, .int (x1 + (1 : Int32)), .int (x2 + (1 : Int32))]) (v := x2 + (1 : Int32)) dX2_howManyAppealed_35 rfl rfl (by decide) rfl ?_
      refine wp_goto (tgt := 4) dX2_howManyAppealed_38 (by decide) ?_
      exact wp_le (Ms := [.ref 4, .int (x1 + (1 : Int32)), .int (x2 + (1 : Int32))]) ⟨Or.inr rfl, Or.inr rfl, Or.inr rfl, trivial⟩ h
abbrev rX6_has : Room := { frames := 0, cells := 0, slots := 0, locals := 0 }
abbrev wX6_has (P : Int32 → St → Prop) (pc : Nat) (Ls stk : List Value) (S : St) : Prop := Wp cX6_has RX6 2 rX6_has (wFI .boolean P) pc Ls stk (enc S)
abbrev tX6_has (a0 : Int32) (a1 : Int32) (S : St) (P : Int32 → St → Prop) : Prop := wX6_has P 0 (wl_en [.int a0, .int a1] 2) [] S
set_option maxRecDepth 100000 in
theorem bX6_has_0 {P : Int32 → St → Prop} {S : St} (a0 : Int32) (a1 : Int32) (h : ((((a0 >>> (a1 &&& (31 : Int32))) &&& (1 : Int32)) = 0 → P (0 : Int32) S) ∧ (¬ ((a0 >>> (a1 &&& (31 : Int32))) &&& (1 : Int32)) = 0 → P (1 : Int32) S))) : tX6_has a0 a1 S P := by
  show wX6_has P 0 [.int a0, .int a1] [] S
  refine wp_iload_n dX6_has_0 rfl rfl ?_
  refine wp_iload_n dX6_has_1 rfl rfl ?_
  refine wp_ishr dX6_has_2 ?_
  refine wp_iconst (v := (1 : Int32)) dX6_has_3 (by decide) ?_
  refine wp_iand dX6_has_4 ?_
  refine wp_if_eq (tgt := 12) dX6_has_5 (by decide) (fun c => ?_) (fun c => ?_)
  · have h := h.1 c
    refine wp_iconst (v := (0 : Int32)) dX6_has_12 (by decide) ?_
    exact wp_iret dX6_has_13 rfl rfl ⟨_, _, rfl, rfl, h⟩
  · have h := h.2 c
    refine wp_iconst (v := (1 : Int32)) dX6_has_8 (by decide) ?_
    refine wp_goto (tgt := 13) dX6_has_9 (by decide) ?_
    exact wp_iret dX6_has_13 rfl rfl ⟨_, _, rfl, rfl, h⟩
abbrev rX2_nextMarker : Room := { frames := 1, cells := 0, slots := 0, locals := 23 }
abbrev wX2_nextMarker (P : Int32 → St → Prop) (pc : Nat) (Ls stk : List Value) (S : St) : Prop := Wp cX2_nextMarker RX2 6 rX2_nextMarker (wFI .int P) pc Ls stk (enc S)
abbrev tX2_nextMarker (a0 : Int32) (S : St) (P : Int32 → St → Prop) : Prop := wX2_nextMarker P 0 (wl_en [.ref 4, .int a0] 6) [] S
set_option maxRecDepth 100000 in
theorem bX2_nextMarker_0 {P : Int32 → St → Prop} {S : St} (a0 : Int32) (h : tX1_mayMark a0 S (fun r2 S1 => tX2_whoMarked a0 S1 (fun r4 S3 => wX2_nextMarker P 26 [.ref 4, .int a0, .int (r2 &&& (r4 ^^^ (-1 : Int32))), .int (-1 : Int32), .int (8 : Int32), .int (0 : Int32)] [] S3))) : tX2_nextMarker a0 S P := by
  show wX2_nextMarker P 0 [.ref 4, .int a0, .retAddr 0, .retAddr 0, .retAddr 0, .retAddr 0] [] S
  refine wp_aload_n dX2_nextMarker_0 rfl rfl ?_
  refine wp_get (q := 4) dX2_nextMarker_1 fX2_20 rfl rfl ?_
  refine wp_iload_n dX2_nextMarker_4 rfl rfl ?_
  refine wp_callV (q := 1) (As := [.int a0]) (rest := []) dX2_nextMarker_5 mX1_mayMark lX2_58 (by decide) rfl rfl rfl rfl (Nat.le_of_ble_eq_true rfl) (Nat.le_of_ble_eq_true rfl) h ?_
  rintro rv mh2 ⟨r2, S1, rfl, rfl, h⟩
  refine wp_aload_n dX2_nextMarker_8 rfl rfl ?_
  refine wp_iload_n dX2_nextMarker_9 rfl rfl ?_
  refine wp_callV (q := 4) (As := [.int a0]) (rest := [.int r2]) dX2_nextMarker_10 mX2_whoMarked lX2_61 (by decide) rfl rfl rfl rfl (Nat.le_of_ble_eq_true rfl) (Nat.le_of_ble_eq_true rfl) h ?_
  rintro rv mh2 ⟨r4, S3, rfl, rfl, h⟩
  refine wp_iconst (v := (-1 : Int32)) dX2_nextMarker_13 (by decide) ?_
  refine wp_ixor dX2_nextMarker_14 ?_
  refine wp_iand dX2_nextMarker_15 ?_
  refine wp_istore_n (Ms := [.ref 4, .int a0, .int (r2 &&& (r4 ^^^ (-1 : Int32))), .retAddr 0, .retAddr 0, .retAddr 0]) dX2_nextMarker_16 rfl (by decide) rfl ?_
  refine wp_iconst (v := (-1 : Int32)) dX2_nextMarker_17 (by decide) ?_
  refine wp_istore_n (Ms := [.ref 4, .int a0, .int (r2 &&& (r4 ^^^ (-1 : Int32))), .int (-1 : Int32), .retAddr 0, .retAddr 0]) dX2_nextMarker_18 rfl (by decide) rfl ?_
  refine wp_bipush (v := (8 : Int32)) dX2_nextMarker_19 (by decide) ?_
  refine wp_istore (Ms := [.ref 4, .int a0, .int (r2 &&& (r4 ^^^ (-1 : Int32))), .int (-1 : Int32), .int (8 : Int32), .retAddr 0]) dX2_nextMarker_21 (by decide) rfl ?_
  refine wp_iconst (v := (0 : Int32)) dX2_nextMarker_23 (by decide) ?_
  refine wp_istore (Ms := [.ref 4, .int a0, .int (r2 &&& (r4 ^^^ (-1 : Int32))), .int (-1 : Int32), .int (8 : Int32), .int (0 : Int32)]) dX2_nextMarker_24 (by decide) rfl ?_
  exact wp_le (Ms := [.ref 4, .int a0, .int (r2 &&& (r4 ^^^ (-1 : Int32))), .int (-1 : Int32), .int (8 : Int32), .int (0 : Int32)]) ⟨Or.inr rfl, Or.inr rfl, Or.inr rfl, Or.inr rfl, Or.inr rfl, Or.inr rfl, trivial⟩ h
set_option maxRecDepth 100000 in
theorem bX2_nextMarker_26 {P : Int32 → St → Prop} {S : St} (x1 : Int32) (x2 : Int32) (x3 : Int32) (x4 : Int32) (x5 : Int32) (h : (((S.1 0) ≤ x5 → P x3 S) ∧ (¬ (S.1 0) ≤ x5 → tX6_has x2 x5 S (fun r2 S1 => ((r2 = 0 → wX2_nextMarker P 26 [.ref 4, .int x1, .int x2, .int x3, .int x4, .int (x5 + (1 : Int32))] [] S1) ∧ (¬ r2 = 0 → tX2_marksBy x5 S1 (fun r4 S3 => ((x4 ≤ r4 → wX2_nextMarker P 26 [.ref 4, .int x1, .int x2, .int x3, .int x4, .int (x5 + (1 : Int32))] [] S3) ∧ (¬ x4 ≤ r4 → tX2_marksBy x5 S3 (fun r6 S5 => wX2_nextMarker P 26 [.ref 4, .int x1, .int x2, .int x5, .int r6, .int (x5 + (1 : Int32))] [] S5)))))))))) : wX2_nextMarker P 26 [.ref 4, .int x1, .int x2, .int x3, .int x4, .int x5] [] S := by
  refine wp_iload dX2_nextMarker_26 rfl ?_
  refine wp_aload_n dX2_nextMarker_28 rfl rfl ?_
  refine wp_get (q := 4) dX2_nextMarker_29 fX2_20 rfl rfl ?_
  refine wp_get (q := 1) dX2_nextMarker_32 fX2_33 rfl rfl ?_
  refine wp_icmp_ge (tgt := 75) dX2_nextMarker_35 (by decide) (fun c => ?_) (fun c => ?_)
  · have h := h.1 c
    refine wp_iload_n dX2_nextMarker_75 rfl rfl ?_
    exact wp_iret dX2_nextMarker_76 rfl rfl ⟨_, _, rfl, rfl, h⟩
  · have h := h.2 c
    refine wp_iload_n dX2_nextMarker_38 rfl rfl ?_
    refine wp_iload dX2_nextMarker_39 rfl ?_
    refine wp_callN (As := [.int x2, .int x5]) (rest := []) dX2_nextMarker_41 mX6_has lX2_64 (by decide) rfl rfl (Nat.le_of_ble_eq_true rfl) (Nat.le_of_ble_eq_true rfl) h ?_
    rintro rv mh2 ⟨r2, S1, rfl, rfl, h⟩
    refine wp_if_eq (tgt := 69) dX2_nextMarker_44 (by decide) (fun c => ?_) (fun c => ?_)
    · have h := h.1 c
      refine wp_iinc (Ms := [.ref 4, .int x1, .int x2, .int x3, .int x4, .int (x5 + (1 : Int32))]) (v := x5 + (1 : Int32)) dX2_nextMarker_69 rfl rfl (by decide) rfl ?_
      refine wp_goto (tgt := 26) dX2_nextMarker_72 (by decide) ?_
      exact wp_le (Ms := [.ref 4, .int x1, .int x2, .int x3, .int x4, .int (x5 + (1 : Int32))]) ⟨Or.inr rfl, Or.inr rfl, Or.inr rfl, Or.inr rfl, Or.inr rfl, Or.inr rfl, trivial⟩ h
    · have h := h.2 c
      refine wp_aload_n dX2_nextMarker_47 rfl rfl ?_
      refine wp_iload dX2_nextMarker_48 rfl ?_
      refine wp_callV (q := 4) (As := [.int x5]) (rest := []) dX2_nextMarker_50 mX2_marksBy lX2_39 (by decide) rfl rfl rfl rfl (Nat.le_of_ble_eq_true rfl) (Nat.le_of_ble_eq_true rfl) h ?_
      rintro rv mh2 ⟨r4, S3, rfl, rfl, h⟩
      refine wp_iload dX2_nextMarker_53 rfl ?_
      refine wp_icmp_ge (tgt := 69) dX2_nextMarker_55 (by decide) (fun c => ?_) (fun c => ?_)
      · have h := h.1 c
        refine wp_iinc (Ms := [.ref 4, .int x1, .int x2, .int x3, .int x4, .int (x5 + (1 : Int32))]) (v := x5 + (1 : Int32)) dX2_nextMarker_69 rfl rfl (by decide) rfl ?_
        refine wp_goto (tgt := 26) dX2_nextMarker_72 (by decide) ?_
        exact wp_le (Ms := [.ref 4, .int x1, .int x2, .int x3, .int x4, .int (x5 + (1 : Int32))]) ⟨Or.inr rfl, Or.inr rfl, Or.inr rfl, Or.inr rfl, Or.inr rfl, Or.inr rfl, trivial⟩ h
      · have h := h.2 c
        refine wp_iload dX2_nextMarker_58 rfl ?_
        refine wp_istore_n (Ms := [.ref 4, .int x1, .int x2, .int x5, .int x4, .int x5]) dX2_nextMarker_60 rfl (by decide) rfl ?_
        refine wp_aload_n dX2_nextMarker_61 rfl rfl ?_
        refine wp_iload dX2_nextMarker_62 rfl ?_
        refine wp_callV (q := 4) (As := [.int x5]) (rest := []) dX2_nextMarker_64 mX2_marksBy lX2_39 (by decide) rfl rfl rfl rfl (Nat.le_of_ble_eq_true rfl) (Nat.le_of_ble_eq_true rfl) h ?_
        rintro rv mh2 ⟨r6, S5, rfl, rfl, h⟩
        refine wp_istore (Ms := [.ref 4, .int x1, .int x2, .int x5, .int r6, .int x5]) dX2_nextMarker_67 (by decide) rfl ?_
        refine wp_iinc (Ms := [.ref 4, .int x1, .int x2, .int x5, .int r6, .int (x5 + (1 : Int32))]) (v := x5 + (1 : Int32)) dX2_nextMarker_69 rfl rfl (by decide) rfl ?_
        refine wp_goto (tgt := 26) dX2_nextMarker_72 (by decide) ?_
        exact wp_le (Ms := [.ref 4, .int x1, .int x2, .int x5, .int r6, .int (x5 + (1 : Int32))]) ⟨Or.inr rfl, Or.inr rfl, Or.inr rfl, Or.inr rfl, Or.inr rfl, Or.inr rfl, trivial⟩ h
abbrev rX2_digestAll : Room := { frames := 0, cells := 0, slots := 0, locals := 0 }
abbrev wX2_digestAll (P : Int32 → St → Prop) (pc : Nat) (Ls stk : List Value) (S : St) : Prop := Wp cX2_digestAll RX2 4 rX2_digestAll (wFI .int P) pc Ls stk (enc S)
abbrev tX2_digestAll  (S : St) (P : Int32 → St → Prop) : Prop := wX2_digestAll P 0 (wl_en [.ref 4] 4) [] S
set_option maxRecDepth 100000 in
theorem bX2_digestAll_0 {P : Int32 → St → Prop} {S : St}  (h : wX2_digestAll P 5 [.ref 4, .int (7 : Int32), .int (0 : Int32), .retAddr 0] [] S) : tX2_digestAll  S P := by
  show wX2_digestAll P 0 [.ref 4, .retAddr 0, .retAddr 0, .retAddr 0] [] S
  refine wp_bipush (v := (7 : Int32)) dX2_digestAll_0 (by decide) ?_
  refine wp_istore_n (Ms := [.ref 4, .int (7 : Int32), .retAddr 0, .retAddr 0]) dX2_digestAll_2 rfl (by decide) rfl ?_
  refine wp_iconst (v := (0 : Int32)) dX2_digestAll_3 (by decide) ?_
  refine wp_istore_n (Ms := [.ref 4, .int (7 : Int32), .int (0 : Int32), .retAddr 0]) dX2_digestAll_4 rfl (by decide) rfl ?_
  exact wp_le (Ms := [.ref 4, .int (7 : Int32), .int (0 : Int32), .retAddr 0]) ⟨Or.inr rfl, Or.inr rfl, Or.inr rfl, Or.inl rfl, trivial⟩ h
set_option maxRecDepth 100000 in
theorem bX2_digestAll_5 {P : Int32 → St → Prop} {S : St} (x1 : Int32) (x2 : Int32) (h : (((S.1 0) ≤ x2 → P x1 S) ∧ (¬ (S.1 0) ≤ x2 → wX2_digestAll P 18 [.ref 4, .int x1, .int x2, .int (0 : Int32)] [] S))) : wX2_digestAll P 5 [.ref 4, .int x1, .int x2, .retAddr 0] [] S := by
  refine wp_iload_n dX2_digestAll_5 rfl rfl ?_
  refine wp_aload_n dX2_digestAll_6 rfl rfl ?_
  refine wp_get (q := 4) dX2_digestAll_7 fX2_20 rfl rfl ?_
  refine wp_get (q := 1) dX2_digestAll_10 fX2_33 rfl rfl ?_
  refine wp_icmp_ge (tgt := 67) dX2_digestAll_13 (by decide) (fun c => ?_) (fun c => ?_)
  · have h := h.1 c
    refine wp_iload_n dX2_digestAll_67 rfl rfl ?_
    exact wp_iret dX2_digestAll_68 rfl rfl ⟨_, _, rfl, rfl, h⟩
  · have h := h.2 c
    refine wp_iconst (v := (0 : Int32)) dX2_digestAll_16 (by decide) ?_
    refine wp_istore_n (Ms := [.ref 4, .int x1, .int x2, .int (0 : Int32)]) dX2_digestAll_17 rfl (by decide) rfl ?_
    exact wp_le (Ms := [.ref 4, .int x1, .int x2, .int (0 : Int32)]) ⟨Or.inr rfl, Or.inr rfl, Or.inr rfl, Or.inr rfl, trivial⟩ h
set_option maxRecDepth 100000 in
theorem bX2_digestAll_18 {P : Int32 → St → Prop} {S : St} (x1 : Int32) (x2 : Int32) (x3 : Int32) (h : (((S.1 0) ≤ x3 → vp_in x2 8 ∧ wX2_digestAll P 5 [.ref 4, .int (((31 : Int32) * x1) + ((S.2.2.1 10) x2.toNatClampNeg)), .int (x2 + (1 : Int32)), .retAddr 0] [] S) ∧ (¬ (S.1 0) ≤ x3 → vp_in x3 8 ∧ vp_in x2 8 ∧ wX2_digestAll P 18 [.ref 4, .int (((31 : Int32) * x1) + ((S.2.2.1 (2 + x3.toNatClampNeg)) x2.toNatClampNeg)), .int x2, .int (x3 + (1 : Int32))] [] S))) : wX2_digestAll P 18 [.ref 4, .int x1, .int x2, .int x3] [] S := by
  refine wp_iload_n dX2_digestAll_18 rfl rfl ?_
  refine wp_aload_n dX2_digestAll_19 rfl rfl ?_
  refine wp_get (q := 4) dX2_digestAll_20 fX2_20 rfl rfl ?_
  refine wp_get (q := 1) dX2_digestAll_23 fX2_33 rfl rfl ?_
  refine wp_icmp_ge (tgt := 49) dX2_digestAll_26 (by decide) (fun c => ?_) (fun c => ?_)
  · have h := h.1 c
    refine wp_bipush (v := (31 : Int32)) dX2_digestAll_49 (by decide) ?_
    refine wp_iload_n dX2_digestAll_51 rfl rfl ?_
    refine wp_imul dX2_digestAll_52 ?_
    refine wp_aload_n dX2_digestAll_53 rfl rfl ?_
    refine wp_get (q := 4) dX2_digestAll_54 fX2_16 rfl rfl ?_
    refine wp_iload_n dX2_digestAll_57 rfl rfl ?_
    obtain ⟨q1, h⟩ := h
    refine wp_iald2 (q := 14) (j := x2.toNatClampNeg) dX2_digestAll_58 rfl q1 rfl ?_
    refine wp_iadd dX2_digestAll_59 ?_
    refine wp_istore_n (Ms := [.ref 4, .int (((31 : Int32) * x1) + ((S.2.2.1 10) x2.toNatClampNeg)), .int x2, .int x3]) dX2_digestAll_60 rfl (by decide) rfl ?_
    refine wp_iinc (Ms := [.ref 4, .int (((31 : Int32) * x1) + ((S.2.2.1 10) x2.toNatClampNeg)), .int (x2 + (1 : Int32)), .int x3]) (v := x2 + (1 : Int32)) dX2_digestAll_61 rfl rfl (by decide) rfl ?_
    refine wp_goto (tgt := 5) dX2_digestAll_64 (by decide) ?_
    exact wp_le (Ms := [.ref 4, .int (((31 : Int32) * x1) + ((S.2.2.1 10) x2.toNatClampNeg)), .int (x2 + (1 : Int32)), .retAddr 0]) ⟨Or.inr rfl, Or.inr rfl, Or.inr rfl, Or.inl rfl, trivial⟩ h
  · have h := h.2 c
    refine wp_bipush (v := (31 : Int32)) dX2_digestAll_29 (by decide) ?_
    refine wp_iload_n dX2_digestAll_31 rfl rfl ?_
    refine wp_imul dX2_digestAll_32 ?_
    refine wp_aload_n dX2_digestAll_33 rfl rfl ?_
    refine wp_get (q := 4) dX2_digestAll_34 fX2_11 rfl rfl ?_
    refine wp_iload_n dX2_digestAll_37 rfl rfl ?_
    obtain ⟨q2, h⟩ := h
    refine wp_aald (q := 5) dX2_digestAll_38 rfl rfl q2 (encR q2) ?_
    refine wp_iload_n dX2_digestAll_39 rfl rfl ?_
    obtain ⟨q3, h⟩ := h
    refine wp_iald2 (j := x2.toNatClampNeg) dX2_digestAll_40 (encG _ q2) q3 rfl ?_
    refine wp_iadd dX2_digestAll_41 ?_
    refine wp_istore_n (Ms := [.ref 4, .int (((31 : Int32) * x1) + ((S.2.2.1 (2 + x3.toNatClampNeg)) x2.toNatClampNeg)), .int x2, .int x3]) dX2_digestAll_42 rfl (by decide) rfl ?_
    refine wp_iinc (Ms := [.ref 4, .int (((31 : Int32) * x1) + ((S.2.2.1 (2 + x3.toNatClampNeg)) x2.toNatClampNeg)), .int x2, .int (x3 + (1 : Int32))]) (v := x3 + (1 : Int32)) dX2_digestAll_43 rfl rfl (by decide) rfl ?_
    refine wp_goto (tgt := 18) dX2_digestAll_46 (by decide) ?_
    exact wp_le (Ms := [.ref 4, .int (((31 : Int32) * x1) + ((S.2.2.1 (2 + x3.toNatClampNeg)) x2.toNatClampNeg)), .int x2, .int (x3 + (1 : Int32))]) ⟨Or.inr rfl, Or.inr rfl, Or.inr rfl, Or.inr rfl, trivial⟩ h
abbrev rX3_forget : Room := { frames := 0, cells := 0, slots := 0, locals := 0 }
abbrev wX3_forget (P : St → Prop) (pc : Nat) (Ls stk : List Value) (S : St) : Prop := Wp cX3_forget RX3 1 rX3_forget (wFV P) pc Ls stk (enc S)
abbrev tX3_forget  (S : St) (P : St → Prop) : Prop := wX3_forget P 0 (wl_en [.ref 41] 1) [] S
set_option maxRecDepth 100000 in
theorem bX3_forget_0 {P : St → Prop} {S : St}  (h : P (sI S 7 (0 : Int32))) : tX3_forget  S P := by
  show wX3_forget P 0 [.ref 41] [] S
  refine wp_aload_n dX3_forget_0 rfl rfl ?_
  refine wp_iconst (v := (0 : Int32)) dX3_forget_1 (by decide) ?_
  refine wp_put (q := 41) (mh2 := enc (sI S 7 (0 : Int32))) dX3_forget_2 fX3_32 (by decide) rfl (Nat.le_of_ble_eq_true rfl) (fun _ _ => rfl) rfl rfl (eo_41_8 _ _) ?_
  exact wp_vret dX3_forget_5 rfl ⟨_, rfl, rfl, h⟩
abbrev rX3_turnsTwo : Room := { frames := 0, cells := 0, slots := 0, locals := 0 }
abbrev wX3_turnsTwo (P : Int32 → St → Prop) (pc : Nat) (Ls stk : List Value) (S : St) : Prop := Wp cX3_turnsTwo RX3 5 rX3_turnsTwo (wFI .boolean P) pc Ls stk (enc S)
abbrev tX3_turnsTwo (a0 : Int32) (a1 : Int32) (a2 : Int32) (S : St) (P : Int32 → St → Prop) : Prop := wX3_turnsTwo P 0 (wl_en [.ref 41, .int a0, .int a1, .int a2] 5) [] S
set_option maxRecDepth 100000 in
theorem bX3_turnsTwo_0 {P : Int32 → St → Prop} {S : St} (a0 : Int32) (a1 : Int32) (a2 : Int32) (h : vp_in a0 8 ∧ vp_in a1 8 ∧ ((((S.2.2.1 (2 + a0.toNatClampNeg)) a1.toNatClampNeg) = (-1 : Int32) → P (0 : Int32) S) ∧ (¬ ((S.2.2.1 (2 + a0.toNatClampNeg)) a1.toNatClampNeg) = (-1 : Int32) → vp_in a2 8 ∧ ((((S.2.2.1 (2 + a0.toNatClampNeg)) a2.toNatClampNeg) ≤ ((S.2.2.1 (2 + a0.toNatClampNeg)) a1.toNatClampNeg) → P (0 : Int32) S) ∧ (¬ ((S.2.2.1 (2 + a0.toNatClampNeg)) a2.toNatClampNeg) ≤ ((S.2.2.1 (2 + a0.toNatClampNeg)) a1.toNatClampNeg) → P (1 : Int32) S))))) : tX3_turnsTwo a0 a1 a2 S P := by
  show wX3_turnsTwo P 0 [.ref 41, .int a0, .int a1, .int a2, .retAddr 0] [] S
  refine wp_aload_n dX3_turnsTwo_0 rfl rfl ?_
  refine wp_get (q := 41) dX3_turnsTwo_1 fX3_40 rfl rfl ?_
  refine wp_get (q := 4) dX3_turnsTwo_4 fX3_70 rfl rfl ?_
  refine wp_iload_n dX3_turnsTwo_7 rfl rfl ?_
  obtain ⟨q1, h⟩ := h
  refine wp_aald (q := 5) dX3_turnsTwo_8 rfl rfl q1 (encR q1) ?_
  refine wp_iload_n dX3_turnsTwo_9 rfl rfl ?_
  obtain ⟨q2, h⟩ := h
  refine wp_iald2 (j := a1.toNatClampNeg) dX3_turnsTwo_10 (encG _ q1) q2 rfl ?_
  refine wp_istore (Ms := [.ref 41, .int a0, .int a1, .int a2, .int ((S.2.2.1 (2 + a0.toNatClampNeg)) a1.toNatClampNeg)]) dX3_turnsTwo_11 (by decide) rfl ?_
  refine wp_iload dX3_turnsTwo_13 rfl ?_
  refine wp_iconst (v := (-1 : Int32)) dX3_turnsTwo_15 (by decide) ?_
  refine wp_icmp_eq (tgt := 39) dX3_turnsTwo_16 (by decide) (fun c => ?_) (fun c => ?_)
  · have h := h.1 c
    refine wp_iconst (v := (0 : Int32)) dX3_turnsTwo_39 (by decide) ?_
    exact wp_iret dX3_turnsTwo_40 rfl rfl ⟨_, _, rfl, rfl, h⟩
  · have h := h.2 c
    refine wp_iload dX3_turnsTwo_19 rfl ?_
    refine wp_aload_n dX3_turnsTwo_21 rfl rfl ?_
    refine wp_get (q := 41) dX3_turnsTwo_22 fX3_40 rfl rfl ?_
    refine wp_get (q := 4) dX3_turnsTwo_25 fX3_70 rfl rfl ?_
    refine wp_iload_n dX3_turnsTwo_28 rfl rfl ?_
    refine wp_aald (q := 5) dX3_turnsTwo_29 rfl rfl q1 (encR q1) ?_
    refine wp_iload_n dX3_turnsTwo_30 rfl rfl ?_
    obtain ⟨q3, h⟩ := h
    refine wp_iald2 (j := a2.toNatClampNeg) dX3_turnsTwo_31 (encG _ q1) q3 rfl ?_
    refine wp_icmp_ge (tgt := 39) dX3_turnsTwo_32 (by decide) (fun c => ?_) (fun c => ?_)
    · have h := h.1 c
      refine wp_iconst (v := (0 : Int32)) dX3_turnsTwo_39 (by decide) ?_
      exact wp_iret dX3_turnsTwo_40 rfl rfl ⟨_, _, rfl, rfl, h⟩
    · have h := h.2 c
      refine wp_iconst (v := (1 : Int32)) dX3_turnsTwo_35 (by decide) ?_
      refine wp_goto (tgt := 40) dX3_turnsTwo_36 (by decide) ?_
      exact wp_iret dX3_turnsTwo_40 rfl rfl ⟨_, _, rfl, rfl, h⟩
abbrev rX3_tollsWith : Room := { frames := 1, cells := 0, slots := 0, locals := 24 }
abbrev wX3_tollsWith (P : Int64 → St → Prop) (pc : Nat) (Ls stk : List Value) (S : St) : Prop := Wp cX3_tollsWith RX3 7 rX3_tollsWith (wFL P) pc Ls stk (enc S)
abbrev tX3_tollsWith (a0 : Int32) (a1 : Int32) (S : St) (P : Int64 → St → Prop) : Prop := wX3_tollsWith P 0 (wl_en [.ref 41, .int a0, .int a1] 7) [] S
set_option maxRecDepth 100000 in
theorem bX3_tollsWith_0 {P : Int64 → St → Prop} {S : St} (a0 : Int32) (a1 : Int32) (h : wX3_tollsWith P 5 [.ref 41, .int a0, .int a1, .long (0 : Int64), .retAddr 0, .int (0 : Int32), .retAddr 0] [] S) : tX3_tollsWith a0 a1 S P := by
  show wX3_tollsWith P 0 [.ref 41, .int a0, .int a1, .retAddr 0, .retAddr 0, .retAddr 0, .retAddr 0] [] S
  refine wp_lconst (v := (0 : Int64)) dX3_tollsWith_0 (by decide) ?_
  refine wp_lstore_n (Ms := [.ref 41, .int a0, .int a1, .long (0 : Int64), .retAddr 0, .retAddr 0, .retAddr 0]) dX3_tollsWith_1 rfl (by decide) rfl ?_
  refine wp_iconst (v := (0 : Int32)) dX3_tollsWith_2 (by decide) ?_
  refine wp_istore (Ms := [.ref 41, .int a0, .int a1, .long (0 : Int64), .retAddr 0, .int (0 : Int32), .retAddr 0]) dX3_tollsWith_3 (by decide) rfl ?_
  exact wp_le (Ms := [.ref 41, .int a0, .int a1, .long (0 : Int64), .retAddr 0, .int (0 : Int32), .retAddr 0]) ⟨Or.inr rfl, Or.inr rfl, Or.inr rfl, Or.inr rfl, Or.inl rfl, Or.inr rfl, Or.inl rfl, trivial⟩ h
set_option maxRecDepth 100000 in
theorem bX3_tollsWith_5 {P : Int64 → St → Prop} {S : St} (x1 : Int32) (x2 : Int32) (x3 : Int64) (x5 : Int32) (h : (((S.1 0) ≤ x5 → P x3 S) ∧ (¬ (S.1 0) ≤ x5 → ((x5 = x2 → wX3_tollsWith P 5 [.ref 41, .int x1, .int x2, .long x3, .retAddr 0, .int (x5 + (1 : Int32)), .retAddr 0] [] S) ∧ (¬ x5 = x2 → wX3_tollsWith P 26 [.ref 41, .int x1, .int x2, .long x3, .retAddr 0, .int x5, .int (0 : Int32)] [] S))))) : wX3_tollsWith P 5 [.ref 41, .int x1, .int x2, .long x3, .retAddr 0, .int x5, .retAddr 0] [] S := by
  refine wp_iload dX3_tollsWith_5 rfl ?_
  refine wp_aload_n dX3_tollsWith_7 rfl rfl ?_
  refine wp_get (q := 41) dX3_tollsWith_8 fX3_36 rfl rfl ?_
  refine wp_get (q := 1) dX3_tollsWith_11 fX3_47 rfl rfl ?_
  refine wp_icmp_ge (tgt := 72) dX3_tollsWith_14 (by decide) (fun c => ?_) (fun c => ?_)
  · have h := h.1 c
    refine wp_lload_n dX3_tollsWith_72 rfl rfl ?_
    exact wp_lret dX3_tollsWith_73 rfl ⟨_, _, rfl, rfl, h⟩
  · have h := h.2 c
    refine wp_iload dX3_tollsWith_17 rfl ?_
    refine wp_iload_n dX3_tollsWith_19 rfl rfl ?_
    refine wp_icmp_eq (tgt := 66) dX3_tollsWith_20 (by decide) (fun c => ?_) (fun c => ?_)
    · have h := h.1 c
      refine wp_iinc (Ms := [.ref 41, .int x1, .int x2, .long x3, .retAddr 0, .int (x5 + (1 : Int32)), .retAddr 0]) (v := x5 + (1 : Int32)) dX3_tollsWith_66 rfl rfl (by decide) rfl ?_
      refine wp_goto (tgt := 5) dX3_tollsWith_69 (by decide) ?_
      exact wp_le (Ms := [.ref 41, .int x1, .int x2, .long x3, .retAddr 0, .int (x5 + (1 : Int32)), .retAddr 0]) ⟨Or.inr rfl, Or.inr rfl, Or.inr rfl, Or.inr rfl, Or.inl rfl, Or.inr rfl, Or.inl rfl, trivial⟩ h
    · have h := h.2 c
      refine wp_iconst (v := (0 : Int32)) dX3_tollsWith_23 (by decide) ?_
      refine wp_istore (Ms := [.ref 41, .int x1, .int x2, .long x3, .retAddr 0, .int x5, .int (0 : Int32)]) dX3_tollsWith_24 (by decide) rfl ?_
      exact wp_le (Ms := [.ref 41, .int x1, .int x2, .long x3, .retAddr 0, .int x5, .int (0 : Int32)]) ⟨Or.inr rfl, Or.inr rfl, Or.inr rfl, Or.inr rfl, Or.inl rfl, Or.inr rfl, Or.inr rfl, trivial⟩ h
set_option maxRecDepth 100000 in
theorem bX3_tollsWith_26 {P : Int64 → St → Prop} {S : St} (x1 : Int32) (x2 : Int32) (x3 : Int64) (x5 : Int32) (x6 : Int32) (h : (((S.1 0) ≤ x6 → wX3_tollsWith P 5 [.ref 41, .int x1, .int x2, .long x3, .retAddr 0, .int (x5 + (1 : Int32)), .retAddr 0] [] S) ∧ (¬ (S.1 0) ≤ x6 → tX3_turnsTwo x5 x6 x1 S (fun r2 S1 => ((r2 = 0 → wX3_tollsWith P 26 [.ref 41, .int x1, .int x2, .long x3, .retAddr 0, .int x5, .int (x6 + (1 : Int32))] [] S1) ∧ (¬ r2 = 0 → wX3_tollsWith P 26 [.ref 41, .int x1, .int x2, .long (x3 + ((1 : Int64) <<< (((8 : Int32) * x6).toInt64 &&& (63 : Int64)))), .retAddr 0, .int x5, .int (x6 + (1 : Int32))] [] S1)))))) : wX3_tollsWith P 26 [.ref 41, .int x1, .int x2, .long x3, .retAddr 0, .int x5, .int x6] [] S := by
  refine wp_iload dX3_tollsWith_26 rfl ?_
  refine wp_aload_n dX3_tollsWith_28 rfl rfl ?_
  refine wp_get (q := 41) dX3_tollsWith_29 fX3_36 rfl rfl ?_
  refine wp_get (q := 1) dX3_tollsWith_32 fX3_47 rfl rfl ?_
  refine wp_icmp_ge (tgt := 66) dX3_tollsWith_35 (by decide) (fun c => ?_) (fun c => ?_)
  · have h := h.1 c
    refine wp_iinc (Ms := [.ref 41, .int x1, .int x2, .long x3, .retAddr 0, .int (x5 + (1 : Int32)), .int x6]) (v := x5 + (1 : Int32)) dX3_tollsWith_66 rfl rfl (by decide) rfl ?_
    refine wp_goto (tgt := 5) dX3_tollsWith_69 (by decide) ?_
    exact wp_le (Ms := [.ref 41, .int x1, .int x2, .long x3, .retAddr 0, .int (x5 + (1 : Int32)), .retAddr 0]) ⟨Or.inr rfl, Or.inr rfl, Or.inr rfl, Or.inr rfl, Or.inl rfl, Or.inr rfl, Or.inl rfl, trivial⟩ h
  · have h := h.2 c
    refine wp_aload_n dX3_tollsWith_38 rfl rfl ?_
    refine wp_iload dX3_tollsWith_39 rfl ?_
    refine wp_iload dX3_tollsWith_41 rfl ?_
    refine wp_iload_n dX3_tollsWith_43 rfl rfl ?_
    refine wp_callV (q := 41) (As := [.int x5, .int x6, .int x1]) (rest := []) dX3_tollsWith_44 mX3_turnsTwo lX3_52 (by decide) rfl rfl rfl rfl (Nat.le_of_ble_eq_true rfl) (Nat.le_of_ble_eq_true rfl) h ?_
    rintro rv mh2 ⟨r2, S1, rfl, rfl, h⟩
    refine wp_if_eq (tgt := 60) dX3_tollsWith_47 (by decide) (fun c => ?_) (fun c => ?_)
    · have h := h.1 c
      refine wp_iinc (Ms := [.ref 41, .int x1, .int x2, .long x3, .retAddr 0, .int x5, .int (x6 + (1 : Int32))]) (v := x6 + (1 : Int32)) dX3_tollsWith_60 rfl rfl (by decide) rfl ?_
      refine wp_goto (tgt := 26) dX3_tollsWith_63 (by decide) ?_
      exact wp_le (Ms := [.ref 41, .int x1, .int x2, .long x3, .retAddr 0, .int x5, .int (x6 + (1 : Int32))]) ⟨Or.inr rfl, Or.inr rfl, Or.inr rfl, Or.inr rfl, Or.inl rfl, Or.inr rfl, Or.inr rfl, trivial⟩ h
    · have h := h.2 c
      refine wp_lload_n dX3_tollsWith_50 rfl rfl ?_
      refine wp_lconst (v := (1 : Int64)) dX3_tollsWith_51 (by decide) ?_
      refine wp_bipush (v := (8 : Int32)) dX3_tollsWith_52 (by decide) ?_
      refine wp_iload dX3_tollsWith_54 rfl ?_
      refine wp_imul dX3_tollsWith_56 ?_
      refine wp_lshl dX3_tollsWith_57 ?_
      refine wp_ladd dX3_tollsWith_58 ?_
      refine wp_lstore_n (Ms := [.ref 41, .int x1, .int x2, .long (x3 + ((1 : Int64) <<< (((8 : Int32) * x6).toInt64 &&& (63 : Int64)))), .retAddr 0, .int x5, .int x6]) dX3_tollsWith_59 rfl (by decide) rfl ?_
      refine wp_iinc (Ms := [.ref 41, .int x1, .int x2, .long (x3 + ((1 : Int64) <<< (((8 : Int32) * x6).toInt64 &&& (63 : Int64)))), .retAddr 0, .int x5, .int (x6 + (1 : Int32))]) (v := x6 + (1 : Int32)) dX3_tollsWith_60 rfl rfl (by decide) rfl ?_
      refine wp_goto (tgt := 26) dX3_tollsWith_63 (by decide) ?_
      exact wp_le (Ms := [.ref 41, .int x1, .int x2, .long (x3 + ((1 : Int64) <<< (((8 : Int32) * x6).toInt64 &&& (63 : Int64)))), .retAddr 0, .int x5, .int (x6 + (1 : Int32))]) ⟨Or.inr rfl, Or.inr rfl, Or.inr rfl, Or.inr rfl, Or.inl rfl, Or.inr rfl, Or.inr rfl, trivial⟩ h
abbrev rX3_countTolls : Room := { frames := 2, cells := 0, slots := 0, locals := 50 }
abbrev wX3_countTolls (P : St → Prop) (pc : Nat) (Ls stk : List Value) (S : St) : Prop := Wp cX3_countTolls RX3 7 rX3_countTolls (wFV P) pc Ls stk (enc S)
abbrev tX3_countTolls (a0 : Int32) (S : St) (P : St → Prop) : Prop := wX3_countTolls P 0 (wl_en [.ref 41, .int a0] 7) [] S
set_option maxRecDepth 100000 in
theorem bX3_countTolls_0 {P : St → Prop} {S : St} (a0 : Int32) (h : wX3_countTolls P 9 [.ref 41, .int a0, .int (0 : Int32), .retAddr 0, .retAddr 0, .retAddr 0, .retAddr 0] [] (sB S 13 (vp_updL (S.2.2.2 13) 0 (0 : Int64)))) : tX3_countTolls a0 S P := by
  show wX3_countTolls P 0 [.ref 41, .int a0, .retAddr 0, .retAddr 0, .retAddr 0, .retAddr 0, .retAddr 0] [] S
  refine wp_aload_n dX3_countTolls_0 rfl rfl ?_
  refine wp_get (q := 41) dX3_countTolls_1 fX3_11 rfl rfl ?_
  refine wp_iconst (v := (0 : Int32)) dX3_countTolls_4 (by decide) ?_
  refine wp_lconst (v := (0 : Int64)) dX3_countTolls_5 (by decide) ?_
  refine wp_last2 (q := 42) (j := 0) (mh2 := enc (sB S 13 (vp_updL (S.2.2.2 13) 0 (0 : Int64)))) dX3_countTolls_6 rfl (vpd rfl) rfl (es_42 _ _) ?_
  refine wp_iconst (v := (0 : Int32)) dX3_countTolls_7 (by decide) ?_
  refine wp_istore_n (Ms := [.ref 41, .int a0, .int (0 : Int32), .retAddr 0, .retAddr 0, .retAddr 0, .retAddr 0]) dX3_countTolls_8 rfl (by decide) rfl ?_
  exact wp_le (Ms := [.ref 41, .int a0, .int (0 : Int32), .retAddr 0, .retAddr 0, .retAddr 0, .retAddr 0]) ⟨Or.inr rfl, Or.inr rfl, Or.inr rfl, Or.inl rfl, Or.inl rfl, Or.inl rfl, Or.inl rfl, trivial⟩ h
set_option maxRecDepth 100000 in
theorem bX3_countTolls_9 {P : St → Prop} {S : St} (x1 : Int32) (x2 : Int32) (h : (((S.1 0) ≤ x2 → P S) ∧ (¬ (S.1 0) ≤ x2 → tX3_tollsWith x2 x1 S (fun r2 S1 => wX3_countTolls P 35 [.ref 41, .int x1, .int x2, .int ((1 : Int32) <<< (x2 &&& (31 : Int32))), .long r2, .retAddr 0, .int (0 : Int32)] [] S1)))) : wX3_countTolls P 9 [.ref 41, .int x1, .int x2, .retAddr 0, .retAddr 0, .retAddr 0, .retAddr 0] [] S := by
  refine wp_iload_n dX3_countTolls_9 rfl rfl ?_
  refine wp_aload_n dX3_countTolls_10 rfl rfl ?_
  refine wp_get (q := 41) dX3_countTolls_11 fX3_36 rfl rfl ?_
  refine wp_get (q := 1) dX3_countTolls_14 fX3_47 rfl rfl ?_
  refine wp_icmp_ge (tgt := 72) dX3_countTolls_17 (by decide) (fun c => ?_) (fun c => ?_)
  · have h := h.1 c
    exact wp_vret dX3_countTolls_72 rfl ⟨_, rfl, rfl, h⟩
  · have h := h.2 c
    refine wp_iconst (v := (1 : Int32)) dX3_countTolls_20 (by decide) ?_
    refine wp_iload_n dX3_countTolls_21 rfl rfl ?_
    refine wp_ishl dX3_countTolls_22 ?_
    refine wp_istore_n (Ms := [.ref 41, .int x1, .int x2, .int ((1 : Int32) <<< (x2 &&& (31 : Int32))), .retAddr 0, .retAddr 0, .retAddr 0]) dX3_countTolls_23 rfl (by decide) rfl ?_
    refine wp_aload_n dX3_countTolls_24 rfl rfl ?_
    refine wp_iload_n dX3_countTolls_25 rfl rfl ?_
    refine wp_iload_n dX3_countTolls_26 rfl rfl ?_
    refine wp_callV (q := 41) (As := [.int x2, .int x1]) (rest := []) dX3_countTolls_27 mX3_tollsWith lX3_96 (by decide) rfl rfl rfl rfl (Nat.le_of_ble_eq_true rfl) (Nat.le_of_ble_eq_true rfl) h ?_
    rintro rv mh2 ⟨r2, S1, rfl, rfl, h⟩
    refine wp_lstore (Ms := [.ref 41, .int x1, .int x2, .int ((1 : Int32) <<< (x2 &&& (31 : Int32))), .long r2, .retAddr 0, .retAddr 0]) dX3_countTolls_30 (by decide) rfl ?_
    refine wp_iconst (v := (0 : Int32)) dX3_countTolls_32 (by decide) ?_
    refine wp_istore (Ms := [.ref 41, .int x1, .int x2, .int ((1 : Int32) <<< (x2 &&& (31 : Int32))), .long r2, .retAddr 0, .int (0 : Int32)]) dX3_countTolls_33 (by decide) rfl ?_
    exact wp_le (Ms := [.ref 41, .int x1, .int x2, .int ((1 : Int32) <<< (x2 &&& (31 : Int32))), .long r2, .retAddr 0, .int (0 : Int32)]) ⟨Or.inr rfl, Or.inr rfl, Or.inr rfl, Or.inr rfl, Or.inr rfl, Or.inl rfl, Or.inr rfl, trivial⟩ h
set_option maxRecDepth 100000 in
theorem bX3_countTolls_35 {P : St → Prop} {S : St} (x1 : Int32) (x2 : Int32) (x3 : Int32) (x4 : Int64) (x6 : Int32) (h : ((x3 ≤ x6 → wX3_countTolls P 9 [.ref 41, .int x1, .int (x2 + (1 : Int32)), .retAddr 0, .retAddr 0, .retAddr 0, .retAddr 0] [] S) ∧ (¬ x3 ≤ x6 → vp_in x6 256 ∧ vp_in (x3 ||| x6) 256 ∧ wX3_countTolls P 35 [.ref 41, .int x1, .int x2, .int x3, .long x4, .retAddr 0, .int (x6 + (1 : Int32))] [] (sB S 13 (vp_updL (S.2.2.2 13) (x3 ||| x6).toNatClampNeg (((S.2.2.2 13) x6.toNatClampNeg) + x4)))))) : wX3_countTolls P 35 [.ref 41, .int x1, .int x2, .int x3, .long x4, .retAddr 0, .int x6] [] S := by
  refine wp_iload dX3_countTolls_35 rfl ?_
  refine wp_iload_n dX3_countTolls_37 rfl rfl ?_
  refine wp_icmp_ge (tgt := 66) dX3_countTolls_38 (by decide) (fun c => ?_) (fun c => ?_)
  · have h := h.1 c
    refine wp_iinc (Ms := [.ref 41, .int x1, .int (x2 + (1 : Int32)), .int x3, .long x4, .retAddr 0, .int x6]) (v := x2 + (1 : Int32)) dX3_countTolls_66 rfl rfl (by decide) rfl ?_
    refine wp_goto (tgt := 9) dX3_countTolls_69 (by decide) ?_
    exact wp_le (Ms := [.ref 41, .int x1, .int (x2 + (1 : Int32)), .retAddr 0, .retAddr 0, .retAddr 0, .retAddr 0]) ⟨Or.inr rfl, Or.inr rfl, Or.inr rfl, Or.inl rfl, Or.inl rfl, Or.inl rfl, Or.inl rfl, trivial⟩ h
  · have h := h.2 c
    refine wp_aload_n dX3_countTolls_41 rfl rfl ?_
    refine wp_get (q := 41) dX3_countTolls_42 fX3_11 rfl rfl ?_
    refine wp_iload_n dX3_countTolls_45 rfl rfl ?_
    refine wp_iload dX3_countTolls_46 rfl ?_
    refine wp_ior dX3_countTolls_48 ?_
    refine wp_aload_n dX3_countTolls_49 rfl rfl ?_
    refine wp_get (q := 41) dX3_countTolls_50 fX3_11 rfl rfl ?_
    refine wp_iload dX3_countTolls_53 rfl ?_
    obtain ⟨q1, h⟩ := h
    refine wp_lald2 (q := 42) (j := x6.toNatClampNeg) dX3_countTolls_55 rfl q1 rfl ?_
    refine wp_lload dX3_countTolls_56 rfl ?_
    refine wp_ladd dX3_countTolls_58 ?_
    obtain ⟨q2, h⟩ := h
    refine wp_last2 (q := 42) (j := (x3 ||| x6).toNatClampNeg) (mh2 := enc (sB S 13 (vp_updL (S.2.2.2 13) (x3 ||| x6).toNatClampNeg (((S.2.2.2 13) x6.toNatClampNeg) + x4)))) dX3_countTolls_59 rfl q2 rfl (es_42 _ _) ?_
    refine wp_iinc (Ms := [.ref 41, .int x1, .int x2, .int x3, .long x4, .retAddr 0, .int (x6 + (1 : Int32))]) (v := x6 + (1 : Int32)) dX3_countTolls_60 rfl rfl (by decide) rfl ?_
    refine wp_goto (tgt := 35) dX3_countTolls_63 (by decide) ?_
    exact wp_le (Ms := [.ref 41, .int x1, .int x2, .int x3, .long x4, .retAddr 0, .int (x6 + (1 : Int32))]) ⟨Or.inr rfl, Or.inr rfl, Or.inr rfl, Or.inr rfl, Or.inr rfl, Or.inl rfl, Or.inr rfl, trivial⟩ h
abbrev rX3_quarrelIfAhead : Room := { frames := 0, cells := 0, slots := 0, locals := 0 }
abbrev wX3_quarrelIfAhead (P : Int32 → St → Prop) (pc : Nat) (Ls stk : List Value) (S : St) : Prop := Wp cX3_quarrelIfAhead RX3 4 rX3_quarrelIfAhead (wFI .int P) pc Ls stk (enc S)
abbrev tX3_quarrelIfAhead (a0 : Int32) (a1 : Int32) (S : St) (P : Int32 → St → Prop) : Prop := wX3_quarrelIfAhead P 0 (wl_en [.ref 41, .int a0, .int a1] 4) [] S
set_option maxRecDepth 100000 in
theorem bX3_quarrelIfAhead_0 {P : Int32 → St → Prop} {S : St} (a0 : Int32) (a1 : Int32) (h : vp_in (a1 &&& (((1 : Int32) <<< (a0 &&& (31 : Int32))) ^^^ (-1 : Int32))) 256 ∧ P (((S.2.2.1 20) (a1 &&& (((1 : Int32) <<< (a0 &&& (31 : Int32))) ^^^ (-1 : Int32))).toNatClampNeg) + (((((S.2.2.2 13) (a1 &&& (((1 : Int32) <<< (a0 &&& (31 : Int32))) ^^^ (-1 : Int32))).toNatClampNeg) >>> (((8 : Int32) * a0).toInt64 &&& (63 : Int64))) &&& (255 : Int64)).toInt32)) S) : tX3_quarrelIfAhead a0 a1 S P := by
  show wX3_quarrelIfAhead P 0 [.ref 41, .int a0, .int a1, .retAddr 0] [] S
  refine wp_iload_n dX3_quarrelIfAhead_0 rfl rfl ?_
  refine wp_iconst (v := (1 : Int32)) dX3_quarrelIfAhead_1 (by decide) ?_
  refine wp_iload_n dX3_quarrelIfAhead_2 rfl rfl ?_
  refine wp_ishl dX3_quarrelIfAhead_3 ?_
  refine wp_iconst (v := (-1 : Int32)) dX3_quarrelIfAhead_4 (by decide) ?_
  refine wp_ixor dX3_quarrelIfAhead_5 ?_
  refine wp_iand dX3_quarrelIfAhead_6 ?_
  refine wp_istore_n (Ms := [.ref 41, .int a0, .int a1, .int (a1 &&& (((1 : Int32) <<< (a0 &&& (31 : Int32))) ^^^ (-1 : Int32)))]) dX3_quarrelIfAhead_7 rfl (by decide) rfl ?_
  refine wp_aload_n dX3_quarrelIfAhead_8 rfl rfl ?_
  refine wp_get (q := 41) dX3_quarrelIfAhead_9 fX3_15 rfl rfl ?_
  refine wp_iload_n dX3_quarrelIfAhead_12 rfl rfl ?_
  obtain ⟨q1, h⟩ := h
  refine wp_iald2 (q := 43) (j := (a1 &&& (((1 : Int32) <<< (a0 &&& (31 : Int32))) ^^^ (-1 : Int32))).toNatClampNeg) dX3_quarrelIfAhead_13 rfl q1 rfl ?_
  refine wp_aload_n dX3_quarrelIfAhead_14 rfl rfl ?_
  refine wp_get (q := 41) dX3_quarrelIfAhead_15 fX3_11 rfl rfl ?_
  refine wp_iload_n dX3_quarrelIfAhead_18 rfl rfl ?_
  refine wp_lald2 (q := 42) (j := (a1 &&& (((1 : Int32) <<< (a0 &&& (31 : Int32))) ^^^ (-1 : Int32))).toNatClampNeg) dX3_quarrelIfAhead_19 rfl q1 rfl ?_
  refine wp_bipush (v := (8 : Int32)) dX3_quarrelIfAhead_20 (by decide) ?_
  refine wp_iload_n dX3_quarrelIfAhead_22 rfl rfl ?_
  refine wp_imul dX3_quarrelIfAhead_23 ?_
  refine wp_lshr dX3_quarrelIfAhead_24 ?_
  refine wp_ldc2 dX3_quarrelIfAhead_25 kX3_113 ?_
  refine wp_land dX3_quarrelIfAhead_28 ?_
  refine wp_l2i dX3_quarrelIfAhead_29 ?_
  refine wp_iadd dX3_quarrelIfAhead_30 ?_
  exact wp_iret dX3_quarrelIfAhead_31 rfl rfl ⟨_, _, rfl, rfl, h⟩
abbrev rX3_findLeast : Room := { frames := 1, cells := 0, slots := 0, locals := 23 }
abbrev wX3_findLeast (P : St → Prop) (pc : Nat) (Ls stk : List Value) (S : St) : Prop := Wp cX3_findLeast RX3 4 rX3_findLeast (wFV P) pc Ls stk (enc S)
abbrev tX3_findLeast  (S : St) (P : St → Prop) : Prop := wX3_findLeast P 0 (wl_en [.ref 41] 4) [] S
set_option maxRecDepth 100000 in
theorem bX3_findLeast_0 {P : St → Prop} {S : St}  (h : wX3_findLeast P 19 [.ref 41, .int ((1 : Int32) <<< ((S.1 0) &&& (31 : Int32))), .int (1 : Int32), .retAddr 0] [] (sA S 20 (upd (S.2.2.1 20) 0 (0 : Int32)))) : tX3_findLeast  S P := by
  show wX3_findLeast P 0 [.ref 41, .retAddr 0, .retAddr 0, .retAddr 0] [] S
  refine wp_iconst (v := (1 : Int32)) dX3_findLeast_0 (by decide) ?_
  refine wp_aload_n dX3_findLeast_1 rfl rfl ?_
  refine wp_get (q := 41) dX3_findLeast_2 fX3_36 rfl rfl ?_
  refine wp_get (q := 1) dX3_findLeast_5 fX3_47 rfl rfl ?_
  refine wp_ishl dX3_findLeast_8 ?_
  refine wp_istore_n (Ms := [.ref 41, .int ((1 : Int32) <<< ((S.1 0) &&& (31 : Int32))), .retAddr 0, .retAddr 0]) dX3_findLeast_9 rfl (by decide) rfl ?_
  refine wp_aload_n dX3_findLeast_10 rfl rfl ?_
  refine wp_get (q := 41) dX3_findLeast_11 fX3_15 rfl rfl ?_
  refine wp_iconst (v := (0 : Int32)) dX3_findLeast_14 (by decide) ?_
  refine wp_iconst (v := (0 : Int32)) dX3_findLeast_15 (by decide) ?_
  refine wp_iast2 (q := 43) (j := 0) (mh2 := enc (sA S 20 (upd (S.2.2.1 20) 0 (0 : Int32)))) dX3_findLeast_16 rfl (vpd rfl) rfl (es_43 _ _) ?_
  refine wp_iconst (v := (1 : Int32)) dX3_findLeast_17 (by decide) ?_
  refine wp_istore_n (Ms := [.ref 41, .int ((1 : Int32) <<< ((S.1 0) &&& (31 : Int32))), .int (1 : Int32), .retAddr 0]) dX3_findLeast_18 rfl (by decide) rfl ?_
  exact wp_le (Ms := [.ref 41, .int ((1 : Int32) <<< ((S.1 0) &&& (31 : Int32))), .int (1 : Int32), .retAddr 0]) ⟨Or.inr rfl, Or.inr rfl, Or.inr rfl, Or.inl rfl, trivial⟩ h
set_option maxRecDepth 100000 in
theorem bX3_findLeast_19 {P : St → Prop} {S : St} (x1 : Int32) (x2 : Int32) (h : ((x1 ≤ x2 → P S) ∧ (¬ x1 ≤ x2 → vp_in x2 256 ∧ wX3_findLeast P 34 [.ref 41, .int x1, .int x2, .int (0 : Int32)] [] (sA S 20 (upd (S.2.2.1 20) x2.toNatClampNeg (2147483647 : Int32)))))) : wX3_findLeast P 19 [.ref 41, .int x1, .int x2, .retAddr 0] [] S := by
  refine wp_iload_n dX3_findLeast_19 rfl rfl ?_
  refine wp_iload_n dX3_findLeast_20 rfl rfl ?_
  refine wp_icmp_ge (tgt := 86) dX3_findLeast_21 (by decide) (fun c => ?_) (fun c => ?_)
  · have h := h.1 c
    exact wp_vret dX3_findLeast_86 rfl ⟨_, rfl, rfl, h⟩
  · have h := h.2 c
    refine wp_aload_n dX3_findLeast_24 rfl rfl ?_
    refine wp_get (q := 41) dX3_findLeast_25 fX3_15 rfl rfl ?_
    refine wp_iload_n dX3_findLeast_28 rfl rfl ?_
    refine wp_ldc dX3_findLeast_29 kX3_102 ?_
    obtain ⟨q1, h⟩ := h
    refine wp_iast2 (q := 43) (j := x2.toNatClampNeg) (mh2 := enc (sA S 20 (upd (S.2.2.1 20) x2.toNatClampNeg (2147483647 : Int32)))) dX3_findLeast_31 rfl q1 rfl (es_43 _ _) ?_
    refine wp_iconst (v := (0 : Int32)) dX3_findLeast_32 (by decide) ?_
    refine wp_istore_n (Ms := [.ref 41, .int x1, .int x2, .int (0 : Int32)]) dX3_findLeast_33 rfl (by decide) rfl ?_
    exact wp_le (Ms := [.ref 41, .int x1, .int x2, .int (0 : Int32)]) ⟨Or.inr rfl, Or.inr rfl, Or.inr rfl, Or.inr rfl, trivial⟩ h
set_option maxRecDepth 100000 in
theorem bX3_findLeast_34 {P : St → Prop} {S : St} (x1 : Int32) (x2 : Int32) (x3 : Int32) (h : (((S.1 0) ≤ x3 → wX3_findLeast P 19 [.ref 41, .int x1, .int (x2 + (1 : Int32)), .retAddr 0] [] S) ∧ (¬ (S.1 0) ≤ x3 → tX6_has x2 x3 S (fun r2 S1 => ((r2 = 0 → wX3_findLeast P 34 [.ref 41, .int x1, .int x2, .int (x3 + (1 : Int32))] [] S1) ∧ (¬ r2 = 0 → vp_in x2 256 ∧ tX3_quarrelIfAhead x3 x2 S1 (fun r5 S4 => wX3_findLeast P 34 [.ref 41, .int x1, .int x2, .int (x3 + (1 : Int32))] [] (sA S4 20 (upd (S4.2.2.1 20) x2.toNatClampNeg (if r5 < ((S1.2.2.1 20) x2.toNatClampNeg) then r5 else (S1.2.2.1 20) x2.toNatClampNeg)))))))))) : wX3_findLeast P 34 [.ref 41, .int x1, .int x2, .int x3] [] S := by
  refine wp_iload_n dX3_findLeast_34 rfl rfl ?_
  refine wp_aload_n dX3_findLeast_35 rfl rfl ?_
  refine wp_get (q := 41) dX3_findLeast_36 fX3_36 rfl rfl ?_
  refine wp_get (q := 1) dX3_findLeast_39 fX3_47 rfl rfl ?_
  refine wp_icmp_ge (tgt := 80) dX3_findLeast_42 (by decide) (fun c => ?_) (fun c => ?_)
  · have h := h.1 c
    refine wp_iinc (Ms := [.ref 41, .int x1, .int (x2 + (1 : Int32)), .int x3]) (v := x2 + (1 : Int32)) dX3_findLeast_80 rfl rfl (by decide) rfl ?_
    refine wp_goto (tgt := 19) dX3_findLeast_83 (by decide) ?_
    exact wp_le (Ms := [.ref 41, .int x1, .int (x2 + (1 : Int32)), .retAddr 0]) ⟨Or.inr rfl, Or.inr rfl, Or.inr rfl, Or.inl rfl, trivial⟩ h
  · have h := h.2 c
    refine wp_iload_n dX3_findLeast_45 rfl rfl ?_
    refine wp_iload_n dX3_findLeast_46 rfl rfl ?_
    refine wp_callN (As := [.int x2, .int x3]) (rest := []) dX3_findLeast_47 mX6_has lX3_103 (by decide) rfl rfl (Nat.le_of_ble_eq_true rfl) (Nat.le_of_ble_eq_true rfl) h ?_
    rintro rv mh2 ⟨r2, S1, rfl, rfl, h⟩
    refine wp_if_eq (tgt := 74) dX3_findLeast_50 (by decide) (fun c => ?_) (fun c => ?_)
    · have h := h.1 c
      refine wp_iinc (Ms := [.ref 41, .int x1, .int x2, .int (x3 + (1 : Int32))]) (v := x3 + (1 : Int32)) dX3_findLeast_74 rfl rfl (by decide) rfl ?_
      refine wp_goto (tgt := 34) dX3_findLeast_77 (by decide) ?_
      exact wp_le (Ms := [.ref 41, .int x1, .int x2, .int (x3 + (1 : Int32))]) ⟨Or.inr rfl, Or.inr rfl, Or.inr rfl, Or.inr rfl, trivial⟩ h
    · have h := h.2 c
      refine wp_aload_n dX3_findLeast_53 rfl rfl ?_
      refine wp_get (q := 41) dX3_findLeast_54 fX3_15 rfl rfl ?_
      refine wp_iload_n dX3_findLeast_57 rfl rfl ?_
      refine wp_aload_n dX3_findLeast_58 rfl rfl ?_
      refine wp_get (q := 41) dX3_findLeast_59 fX3_15 rfl rfl ?_
      refine wp_iload_n dX3_findLeast_62 rfl rfl ?_
      obtain ⟨q3, h⟩ := h
      refine wp_iald2 (q := 43) (j := x2.toNatClampNeg) dX3_findLeast_63 rfl q3 rfl ?_
      refine wp_aload_n dX3_findLeast_64 rfl rfl ?_
      refine wp_iload_n dX3_findLeast_65 rfl rfl ?_
      refine wp_iload_n dX3_findLeast_66 rfl rfl ?_
      refine wp_callV (q := 41) (As := [.int x3, .int x2]) (rest := [.int ((S1.2.2.1 20) x2.toNatClampNeg), .int x2, .ref 43]) dX3_findLeast_67 mX3_quarrelIfAhead lX3_107 (by decide) rfl rfl rfl rfl (Nat.le_of_ble_eq_true rfl) (Nat.le_of_ble_eq_true rfl) h ?_
      rintro rv mh2 ⟨r5, S4, rfl, rfl, h⟩
      refine wp_mmin dX3_findLeast_70 lX3_110 (by decide) (Nat.le_of_ble_eq_true rfl) ?_
      refine wp_iast2 (q := 43) (j := x2.toNatClampNeg) (mh2 := enc (sA S4 20 (upd (S4.2.2.1 20) x2.toNatClampNeg (if r5 < ((S1.2.2.1 20) x2.toNatClampNeg) then r5 else (S1.2.2.1 20) x2.toNatClampNeg)))) dX3_findLeast_73 rfl q3 rfl (es_43 _ _) ?_
      refine wp_iinc (Ms := [.ref 41, .int x1, .int x2, .int (x3 + (1 : Int32))]) (v := x3 + (1 : Int32)) dX3_findLeast_74 rfl rfl (by decide) rfl ?_
      refine wp_goto (tgt := 34) dX3_findLeast_77 (by decide) ?_
      exact wp_le (Ms := [.ref 41, .int x1, .int x2, .int (x3 + (1 : Int32))]) ⟨Or.inr rfl, Or.inr rfl, Or.inr rfl, Or.inr rfl, trivial⟩ h
abbrev rX3_bestAhead : Room := { frames := 1, cells := 0, slots := 0, locals := 23 }
abbrev wX3_bestAhead (P : Int32 → St → Prop) (pc : Nat) (Ls stk : List Value) (S : St) : Prop := Wp cX3_bestAhead RX3 3 rX3_bestAhead (wFI .int P) pc Ls stk (enc S)
abbrev tX3_bestAhead (a0 : Int32) (S : St) (P : Int32 → St → Prop) : Prop := wX3_bestAhead P 0 (wl_en [.ref 41, .int a0] 3) [] S
set_option maxRecDepth 100000 in
theorem bX3_bestAhead_0 {P : Int32 → St → Prop} {S : St} (a0 : Int32) (h : wX3_bestAhead P 2 [.ref 41, .int a0, .int (0 : Int32)] [] S) : tX3_bestAhead a0 S P := by
  show wX3_bestAhead P 0 [.ref 41, .int a0, .retAddr 0] [] S
  refine wp_iconst (v := (0 : Int32)) dX3_bestAhead_0 (by decide) ?_
  refine wp_istore_n (Ms := [.ref 41, .int a0, .int (0 : Int32)]) dX3_bestAhead_1 rfl (by decide) rfl ?_
  exact wp_le (Ms := [.ref 41, .int a0, .int (0 : Int32)]) ⟨Or.inr rfl, Or.inr rfl, Or.inr rfl, trivial⟩ h
set_option maxRecDepth 100000 in
theorem bX3_bestAhead_2 {P : Int32 → St → Prop} {S : St} (x1 : Int32) (x2 : Int32) (h : (((S.1 0) ≤ x2 → P (0 : Int32) S) ∧ (¬ (S.1 0) ≤ x2 → tX6_has x1 x2 S (fun r2 S1 => ((r2 = 0 → wX3_bestAhead P 2 [.ref 41, .int x1, .int (x2 + (1 : Int32))] [] S1) ∧ (¬ r2 = 0 → tX3_quarrelIfAhead x2 x1 S1 (fun r4 S3 => vp_in x1 256 ∧ ((¬ r4 = ((S3.2.2.1 20) x1.toNatClampNeg) → wX3_bestAhead P 2 [.ref 41, .int x1, .int (x2 + (1 : Int32))] [] S3) ∧ (r4 = ((S3.2.2.1 20) x1.toNatClampNeg) → P x2 S3))))))))) : wX3_bestAhead P 2 [.ref 41, .int x1, .int x2] [] S := by
  refine wp_iload_n dX3_bestAhead_2 rfl rfl ?_
  refine wp_aload_n dX3_bestAhead_3 rfl rfl ?_
  refine wp_get (q := 41) dX3_bestAhead_4 fX3_36 rfl rfl ?_
  refine wp_get (q := 1) dX3_bestAhead_7 fX3_47 rfl rfl ?_
  refine wp_icmp_ge (tgt := 44) dX3_bestAhead_10 (by decide) (fun c => ?_) (fun c => ?_)
  · have h := h.1 c
    refine wp_iconst (v := (0 : Int32)) dX3_bestAhead_44 (by decide) ?_
    exact wp_iret dX3_bestAhead_45 rfl rfl ⟨_, _, rfl, rfl, h⟩
  · have h := h.2 c
    refine wp_iload_n dX3_bestAhead_13 rfl rfl ?_
    refine wp_iload_n dX3_bestAhead_14 rfl rfl ?_
    refine wp_callN (As := [.int x1, .int x2]) (rest := []) dX3_bestAhead_15 mX6_has lX3_103 (by decide) rfl rfl (Nat.le_of_ble_eq_true rfl) (Nat.le_of_ble_eq_true rfl) h ?_
    rintro rv mh2 ⟨r2, S1, rfl, rfl, h⟩
    refine wp_if_eq (tgt := 38) dX3_bestAhead_18 (by decide) (fun c => ?_) (fun c => ?_)
    · have h := h.1 c
      refine wp_iinc (Ms := [.ref 41, .int x1, .int (x2 + (1 : Int32))]) (v := x2 + (1 : Int32)) dX3_bestAhead_38 rfl rfl (by decide) rfl ?_
      refine wp_goto (tgt := 2) dX3_bestAhead_41 (by decide) ?_
      exact wp_le (Ms := [.ref 41, .int x1, .int (x2 + (1 : Int32))]) ⟨Or.inr rfl, Or.inr rfl, Or.inr rfl, trivial⟩ h
    · have h := h.2 c
      refine wp_aload_n dX3_bestAhead_21 rfl rfl ?_
      refine wp_iload_n dX3_bestAhead_22 rfl rfl ?_
      refine wp_iload_n dX3_bestAhead_23 rfl rfl ?_
      refine wp_callV (q := 41) (As := [.int x2, .int x1]) (rest := []) dX3_bestAhead_24 mX3_quarrelIfAhead lX3_107 (by decide) rfl rfl rfl rfl (Nat.le_of_ble_eq_true rfl) (Nat.le_of_ble_eq_true rfl) h ?_
      rintro rv mh2 ⟨r4, S3, rfl, rfl, h⟩
      refine wp_aload_n dX3_bestAhead_27 rfl rfl ?_
      refine wp_get (q := 41) dX3_bestAhead_28 fX3_15 rfl rfl ?_
      refine wp_iload_n dX3_bestAhead_31 rfl rfl ?_
      obtain ⟨q5, h⟩ := h
      refine wp_iald2 (q := 43) (j := x1.toNatClampNeg) dX3_bestAhead_32 rfl q5 rfl ?_
      refine wp_icmp_ne (tgt := 38) dX3_bestAhead_33 (by decide) (fun c => ?_) (fun c => ?_)
      · have h := h.1 c
        refine wp_iinc (Ms := [.ref 41, .int x1, .int (x2 + (1 : Int32))]) (v := x2 + (1 : Int32)) dX3_bestAhead_38 rfl rfl (by decide) rfl ?_
        refine wp_goto (tgt := 2) dX3_bestAhead_41 (by decide) ?_
        exact wp_le (Ms := [.ref 41, .int x1, .int (x2 + (1 : Int32))]) ⟨Or.inr rfl, Or.inr rfl, Or.inr rfl, trivial⟩ h
      · have h := h.2 c
        refine wp_iload_n dX3_bestAhead_36 rfl rfl ?_
        exact wp_iret dX3_bestAhead_37 rfl rfl ⟨_, _, rfl, rfl, h⟩
abbrev rX3_findOrder : Room := { frames := 3, cells := 0, slots := 0, locals := 76 }
abbrev wX3_findOrder_44 (P : Int32 → St → Prop) (pc : Nat) (Ls stk : List Value) (S : St) : Prop := Wp cX3_findOrder RX3 6 rX3_findOrder (wFI .int P) pc Ls stk (enc S)
abbrev tX3_findOrder_44 (a0 : Int32) (S : St) (P : Int32 → St → Prop) : Prop := wX3_findOrder_44 P 0 (wl_en [.ref 41, .int a0, .ref 44] 6) [] S
set_option maxRecDepth 100000 in
theorem bX3_findOrder_44_0 {P : Int32 → St → Prop} {S : St} (a0 : Int32) (h : tX3_countTolls a0 S (fun S1 => tX3_findLeast  S1 (fun S2 => vp_in (((1 : Int32) <<< ((S2.1 0) &&& (31 : Int32))) - (1 : Int32)) 256 ∧ wX3_findOrder_44 P 32 [.ref 41, .int a0, .ref 44, .int (((1 : Int32) <<< ((S2.1 0) &&& (31 : Int32))) - (1 : Int32)), .int ((S2.2.2.1 20) (((1 : Int32) <<< ((S2.1 0) &&& (31 : Int32))) - (1 : Int32)).toNatClampNeg), .int (0 : Int32)] [] S2))) : tX3_findOrder_44 a0 S P := by
  show wX3_findOrder_44 P 0 [.ref 41, .int a0, .ref 44, .retAddr 0, .retAddr 0, .retAddr 0] [] S
  refine wp_aload_n dX3_findOrder_0 rfl rfl ?_
  refine wp_iload_n dX3_findOrder_1 rfl rfl ?_
  refine wp_callV (q := 41) (As := [.int a0]) (rest := []) dX3_findOrder_2 mX3_countTolls lX3_86 (by decide) rfl rfl rfl rfl (Nat.le_of_ble_eq_true rfl) (Nat.le_of_ble_eq_true rfl) h ?_
  rintro rv mh2 ⟨S1, rfl, rfl, h⟩
  refine wp_aload_n dX3_findOrder_5 rfl rfl ?_
  refine wp_callV (q := 41) (As := []) (rest := []) dX3_findOrder_6 mX3_findLeast lX3_90 (by decide) rfl rfl rfl rfl (Nat.le_of_ble_eq_true rfl) (Nat.le_of_ble_eq_true rfl) h ?_
  rintro rv mh2 ⟨S2, rfl, rfl, h⟩
  refine wp_iconst (v := (1 : Int32)) dX3_findOrder_9 (by decide) ?_
  refine wp_aload_n dX3_findOrder_10 rfl rfl ?_
  refine wp_get (q := 41) dX3_findOrder_11 fX3_36 rfl rfl ?_
  refine wp_get (q := 1) dX3_findOrder_14 fX3_47 rfl rfl ?_
  refine wp_ishl dX3_findOrder_17 ?_
  refine wp_iconst (v := (1 : Int32)) dX3_findOrder_18 (by decide) ?_
  refine wp_isub dX3_findOrder_19 ?_
  refine wp_istore_n (Ms := [.ref 41, .int a0, .ref 44, .int (((1 : Int32) <<< ((S2.1 0) &&& (31 : Int32))) - (1 : Int32)), .retAddr 0, .retAddr 0]) dX3_findOrder_20 rfl (by decide) rfl ?_
  refine wp_aload_n dX3_findOrder_21 rfl rfl ?_
  refine wp_get (q := 41) dX3_findOrder_22 fX3_15 rfl rfl ?_
  refine wp_iload_n dX3_findOrder_25 rfl rfl ?_
  obtain ⟨q3, h⟩ := h
  refine wp_iald2 (q := 43) (j := (((1 : Int32) <<< ((S2.1 0) &&& (31 : Int32))) - (1 : Int32)).toNatClampNeg) dX3_findOrder_26 rfl q3 rfl ?_
  refine wp_istore (Ms := [.ref 41, .int a0, .ref 44, .int (((1 : Int32) <<< ((S2.1 0) &&& (31 : Int32))) - (1 : Int32)), .int ((S2.2.2.1 20) (((1 : Int32) <<< ((S2.1 0) &&& (31 : Int32))) - (1 : Int32)).toNatClampNeg), .retAddr 0]) dX3_findOrder_27 (by decide) rfl ?_
  refine wp_iconst (v := (0 : Int32)) dX3_findOrder_29 (by decide) ?_
  refine wp_istore (Ms := [.ref 41, .int a0, .ref 44, .int (((1 : Int32) <<< ((S2.1 0) &&& (31 : Int32))) - (1 : Int32)), .int ((S2.2.2.1 20) (((1 : Int32) <<< ((S2.1 0) &&& (31 : Int32))) - (1 : Int32)).toNatClampNeg), .int (0 : Int32)]) dX3_findOrder_30 (by decide) rfl ?_
  exact wp_le (Ms := [.ref 41, .int a0, .ref 44, .int (((1 : Int32) <<< ((S2.1 0) &&& (31 : Int32))) - (1 : Int32)), .int ((S2.2.2.1 20) (((1 : Int32) <<< ((S2.1 0) &&& (31 : Int32))) - (1 : Int32)).toNatClampNeg), .int (0 : Int32)]) ⟨Or.inr rfl, Or.inr rfl, Or.inr rfl, Or.inr rfl, Or.inr rfl, Or.inr rfl, trivial⟩ h
set_option maxRecDepth 100000 in
theorem bX3_findOrder_44_32 {P : Int32 → St → Prop} {S : St} (x1 : Int32) (x3 : Int32) (x4 : Int32) (x5 : Int32) (h : (((S.1 0) ≤ x5 → P x4 S) ∧ (¬ (S.1 0) ≤ x5 → tX3_bestAhead x3 S (fun r2 S1 => vp_in x5 8 ∧ wX3_findOrder_44 P 32 [.ref 41, .int x1, .ref 44, .int (x3 &&& (((1 : Int32) <<< (((upd (S1.2.2.1 21) x5.toNatClampNeg r2) x5.toNatClampNeg) &&& (31 : Int32))) ^^^ (-1 : Int32))), .int x4, .int (x5 + (1 : Int32))] [] (sA S1 21 (upd (S1.2.2.1 21) x5.toNatClampNeg r2)))))) : wX3_findOrder_44 P 32 [.ref 41, .int x1, .ref 44, .int x3, .int x4, .int x5] [] S := by
  refine wp_iload dX3_findOrder_32 rfl ?_
  refine wp_aload_n dX3_findOrder_34 rfl rfl ?_
  refine wp_get (q := 41) dX3_findOrder_35 fX3_36 rfl rfl ?_
  refine wp_get (q := 1) dX3_findOrder_38 fX3_47 rfl rfl ?_
  refine wp_icmp_ge (tgt := 70) dX3_findOrder_41 (by decide) (fun c => ?_) (fun c => ?_)
  · have h := h.1 c
    refine wp_iload dX3_findOrder_70 rfl ?_
    exact wp_iret dX3_findOrder_72 rfl rfl ⟨_, _, rfl, rfl, h⟩
  · have h := h.2 c
    refine wp_aload_n dX3_findOrder_44 rfl rfl ?_
    refine wp_iload dX3_findOrder_45 rfl ?_
    refine wp_aload_n dX3_findOrder_47 rfl rfl ?_
    refine wp_iload_n dX3_findOrder_48 rfl rfl ?_
    refine wp_callV (q := 41) (As := [.int x3]) (rest := [.int x5, .ref 44]) dX3_findOrder_49 mX3_bestAhead lX3_93 (by decide) rfl rfl rfl rfl (Nat.le_of_ble_eq_true rfl) (Nat.le_of_ble_eq_true rfl) h ?_
    rintro rv mh2 ⟨r2, S1, rfl, rfl, h⟩
    obtain ⟨q3, h⟩ := h
    refine wp_iast2 (q := 44) (j := x5.toNatClampNeg) (mh2 := enc (sA S1 21 (upd (S1.2.2.1 21) x5.toNatClampNeg r2))) dX3_findOrder_52 rfl q3 rfl (es_44 _ _) ?_
    refine wp_iload_n dX3_findOrder_53 rfl rfl ?_
    refine wp_iconst (v := (1 : Int32)) dX3_findOrder_54 (by decide) ?_
    refine wp_aload_n dX3_findOrder_55 rfl rfl ?_
    refine wp_iload dX3_findOrder_56 rfl ?_
    refine wp_iald2 (q := 44) (j := x5.toNatClampNeg) dX3_findOrder_58 rfl q3 rfl ?_
    refine wp_ishl dX3_findOrder_59 ?_
    refine wp_iconst (v := (-1 : Int32)) dX3_findOrder_60 (by decide) ?_
    refine wp_ixor dX3_findOrder_61 ?_
    refine wp_iand dX3_findOrder_62 ?_
    refine wp_istore_n (Ms := [.ref 41, .int x1, .ref 44, .int (x3 &&& (((1 : Int32) <<< (((upd (S1.2.2.1 21) x5.toNatClampNeg r2) x5.toNatClampNeg) &&& (31 : Int32))) ^^^ (-1 : Int32))), .int x4, .int x5]) dX3_findOrder_63 rfl (by decide) rfl ?_
    refine wp_iinc (Ms := [.ref 41, .int x1, .ref 44, .int (x3 &&& (((1 : Int32) <<< (((upd (S1.2.2.1 21) x5.toNatClampNeg r2) x5.toNatClampNeg) &&& (31 : Int32))) ^^^ (-1 : Int32))), .int x4, .int (x5 + (1 : Int32))]) (v := x5 + (1 : Int32)) dX3_findOrder_64 rfl rfl (by decide) rfl ?_
    refine wp_goto (tgt := 32) dX3_findOrder_67 (by decide) ?_
    exact wp_le (Ms := [.ref 41, .int x1, .ref 44, .int (x3 &&& (((1 : Int32) <<< (((upd (S1.2.2.1 21) x5.toNatClampNeg r2) x5.toNatClampNeg) &&& (31 : Int32))) ^^^ (-1 : Int32))), .int x4, .int (x5 + (1 : Int32))]) ⟨Or.inr rfl, Or.inr rfl, Or.inr rfl, Or.inr rfl, Or.inr rfl, Or.inr rfl, trivial⟩ h
abbrev wX3_findOrder_45 (P : Int32 → St → Prop) (pc : Nat) (Ls stk : List Value) (S : St) : Prop := Wp cX3_findOrder RX3 6 rX3_findOrder (wFI .int P) pc Ls stk (enc S)
abbrev tX3_findOrder_45 (a0 : Int32) (S : St) (P : Int32 → St → Prop) : Prop := wX3_findOrder_45 P 0 (wl_en [.ref 41, .int a0, .ref 45] 6) [] S
set_option maxRecDepth 100000 in
theorem bX3_findOrder_45_0 {P : Int32 → St → Prop} {S : St} (a0 : Int32) (h : tX3_countTolls a0 S (fun S1 => tX3_findLeast  S1 (fun S2 => vp_in (((1 : Int32) <<< ((S2.1 0) &&& (31 : Int32))) - (1 : Int32)) 256 ∧ wX3_findOrder_45 P 32 [.ref 41, .int a0, .ref 45, .int (((1 : Int32) <<< ((S2.1 0) &&& (31 : Int32))) - (1 : Int32)), .int ((S2.2.2.1 20) (((1 : Int32) <<< ((S2.1 0) &&& (31 : Int32))) - (1 : Int32)).toNatClampNeg), .int (0 : Int32)] [] S2))) : tX3_findOrder_45 a0 S P := by
  show wX3_findOrder_45 P 0 [.ref 41, .int a0, .ref 45, .retAddr 0, .retAddr 0, .retAddr 0] [] S
  refine wp_aload_n dX3_findOrder_0 rfl rfl ?_
  refine wp_iload_n dX3_findOrder_1 rfl rfl ?_
  refine wp_callV (q := 41) (As := [.int a0]) (rest := []) dX3_findOrder_2 mX3_countTolls lX3_86 (by decide) rfl rfl rfl rfl (Nat.le_of_ble_eq_true rfl) (Nat.le_of_ble_eq_true rfl) h ?_
  rintro rv mh2 ⟨S1, rfl, rfl, h⟩
  refine wp_aload_n dX3_findOrder_5 rfl rfl ?_
  refine wp_callV (q := 41) (As := []) (rest := []) dX3_findOrder_6 mX3_findLeast lX3_90 (by decide) rfl rfl rfl rfl (Nat.le_of_ble_eq_true rfl) (Nat.le_of_ble_eq_true rfl) h ?_
  rintro rv mh2 ⟨S2, rfl, rfl, h⟩
  refine wp_iconst (v := (1 : Int32)) dX3_findOrder_9 (by decide) ?_
  refine wp_aload_n dX3_findOrder_10 rfl rfl ?_
  refine wp_get (q := 41) dX3_findOrder_11 fX3_36 rfl rfl ?_
  refine wp_get (q := 1) dX3_findOrder_14 fX3_47 rfl rfl ?_
  refine wp_ishl dX3_findOrder_17 ?_
  refine wp_iconst (v := (1 : Int32)) dX3_findOrder_18 (by decide) ?_
  refine wp_isub dX3_findOrder_19 ?_
  refine wp_istore_n (Ms := [.ref 41, .int a0, .ref 45, .int (((1 : Int32) <<< ((S2.1 0) &&& (31 : Int32))) - (1 : Int32)), .retAddr 0, .retAddr 0]) dX3_findOrder_20 rfl (by decide) rfl ?_
  refine wp_aload_n dX3_findOrder_21 rfl rfl ?_
  refine wp_get (q := 41) dX3_findOrder_22 fX3_15 rfl rfl ?_
  refine wp_iload_n dX3_findOrder_25 rfl rfl ?_
  obtain ⟨q3, h⟩ := h
  refine wp_iald2 (q := 43) (j := (((1 : Int32) <<< ((S2.1 0) &&& (31 : Int32))) - (1 : Int32)).toNatClampNeg) dX3_findOrder_26 rfl q3 rfl ?_
  refine wp_istore (Ms := [.ref 41, .int a0, .ref 45, .int (((1 : Int32) <<< ((S2.1 0) &&& (31 : Int32))) - (1 : Int32)), .int ((S2.2.2.1 20) (((1 : Int32) <<< ((S2.1 0) &&& (31 : Int32))) - (1 : Int32)).toNatClampNeg), .retAddr 0]) dX3_findOrder_27 (by decide) rfl ?_
  refine wp_iconst (v := (0 : Int32)) dX3_findOrder_29 (by decide) ?_
  refine wp_istore (Ms := [.ref 41, .int a0, .ref 45, .int (((1 : Int32) <<< ((S2.1 0) &&& (31 : Int32))) - (1 : Int32)), .int ((S2.2.2.1 20) (((1 : Int32) <<< ((S2.1 0) &&& (31 : Int32))) - (1 : Int32)).toNatClampNeg), .int (0 : Int32)]) dX3_findOrder_30 (by decide) rfl ?_
  exact wp_le (Ms := [.ref 41, .int a0, .ref 45, .int (((1 : Int32) <<< ((S2.1 0) &&& (31 : Int32))) - (1 : Int32)), .int ((S2.2.2.1 20) (((1 : Int32) <<< ((S2.1 0) &&& (31 : Int32))) - (1 : Int32)).toNatClampNeg), .int (0 : Int32)]) ⟨Or.inr rfl, Or.inr rfl, Or.inr rfl, Or.inr rfl, Or.inr rfl, Or.inr rfl, trivial⟩ h
set_option maxRecDepth 100000 in
theorem bX3_findOrder_45_32 {P : Int32 → St → Prop} {S : St} (x1 : Int32) (x3 : Int32) (x4 : Int32) (x5 : Int32) (h : (((S.1 0) ≤ x5 → P x4 S) ∧ (¬ (S.1 0) ≤ x5 → tX3_bestAhead x3 S (fun r2 S1 => vp_in x5 8 ∧ wX3_findOrder_45 P 32 [.ref 41, .int x1, .ref 45, .int (x3 &&& (((1 : Int32) <<< (((upd (S1.2.2.1 22) x5.toNatClampNeg r2) x5.toNatClampNeg) &&& (31 : Int32))) ^^^ (-1 : Int32))), .int x4, .int (x5 + (1 : Int32))] [] (sA S1 22 (upd (S1.2.2.1 22) x5.toNatClampNeg r2)))))) : wX3_findOrder_45 P 32 [.ref 41, .int x1, .ref 45, .int x3, .int x4, .int x5] [] S := by
  refine wp_iload dX3_findOrder_32 rfl ?_
  refine wp_aload_n dX3_findOrder_34 rfl rfl ?_
  refine wp_get (q := 41) dX3_findOrder_35 fX3_36 rfl rfl ?_
  refine wp_get (q := 1) dX3_findOrder_38 fX3_47 rfl rfl ?_
  refine wp_icmp_ge (tgt := 70) dX3_findOrder_41 (by decide) (fun c => ?_) (fun c => ?_)
  · have h := h.1 c
    refine wp_iload dX3_findOrder_70 rfl ?_
    exact wp_iret dX3_findOrder_72 rfl rfl ⟨_, _, rfl, rfl, h⟩
  · have h := h.2 c
    refine wp_aload_n dX3_findOrder_44 rfl rfl ?_
    refine wp_iload dX3_findOrder_45 rfl ?_
    refine wp_aload_n dX3_findOrder_47 rfl rfl ?_
    refine wp_iload_n dX3_findOrder_48 rfl rfl ?_
    refine wp_callV (q := 41) (As := [.int x3]) (rest := [.int x5, .ref 45]) dX3_findOrder_49 mX3_bestAhead lX3_93 (by decide) rfl rfl rfl rfl (Nat.le_of_ble_eq_true rfl) (Nat.le_of_ble_eq_true rfl) h ?_
    rintro rv mh2 ⟨r2, S1, rfl, rfl, h⟩
    obtain ⟨q3, h⟩ := h
    refine wp_iast2 (q := 45) (j := x5.toNatClampNeg) (mh2 := enc (sA S1 22 (upd (S1.2.2.1 22) x5.toNatClampNeg r2))) dX3_findOrder_52 rfl q3 rfl (es_45 _ _) ?_
    refine wp_iload_n dX3_findOrder_53 rfl rfl ?_
    refine wp_iconst (v := (1 : Int32)) dX3_findOrder_54 (by decide) ?_
    refine wp_aload_n dX3_findOrder_55 rfl rfl ?_
    refine wp_iload dX3_findOrder_56 rfl ?_
    refine wp_iald2 (q := 45) (j := x5.toNatClampNeg) dX3_findOrder_58 rfl q3 rfl ?_
    refine wp_ishl dX3_findOrder_59 ?_
    refine wp_iconst (v := (-1 : Int32)) dX3_findOrder_60 (by decide) ?_
    refine wp_ixor dX3_findOrder_61 ?_
    refine wp_iand dX3_findOrder_62 ?_
    refine wp_istore_n (Ms := [.ref 41, .int x1, .ref 45, .int (x3 &&& (((1 : Int32) <<< (((upd (S1.2.2.1 22) x5.toNatClampNeg r2) x5.toNatClampNeg) &&& (31 : Int32))) ^^^ (-1 : Int32))), .int x4, .int x5]) dX3_findOrder_63 rfl (by decide) rfl ?_
    refine wp_iinc (Ms := [.ref 41, .int x1, .ref 45, .int (x3 &&& (((1 : Int32) <<< (((upd (S1.2.2.1 22) x5.toNatClampNeg r2) x5.toNatClampNeg) &&& (31 : Int32))) ^^^ (-1 : Int32))), .int x4, .int (x5 + (1 : Int32))]) (v := x5 + (1 : Int32)) dX3_findOrder_64 rfl rfl (by decide) rfl ?_
    refine wp_goto (tgt := 32) dX3_findOrder_67 (by decide) ?_
    exact wp_le (Ms := [.ref 41, .int x1, .ref 45, .int (x3 &&& (((1 : Int32) <<< (((upd (S1.2.2.1 22) x5.toNatClampNeg r2) x5.toNatClampNeg) &&& (31 : Int32))) ^^^ (-1 : Int32))), .int x4, .int (x5 + (1 : Int32))]) ⟨Or.inr rfl, Or.inr rfl, Or.inr rfl, Or.inr rfl, Or.inr rfl, Or.inr rfl, trivial⟩ h
abbrev rX3_refresh : Room := { frames := 4, cells := 0, slots := 0, locals := 101 }
abbrev wX3_refresh (P : St → Prop) (pc : Nat) (Ls stk : List Value) (S : St) : Prop := Wp cX3_refresh RX3 1 rX3_refresh (wFV P) pc Ls stk (enc S)
abbrev tX3_refresh  (S : St) (P : St → Prop) : Prop := wX3_refresh P 0 (wl_en [.ref 41] 1) [] S
set_option maxRecDepth 100000 in
theorem bX3_refresh_0 {P : St → Prop} {S : St}  (h : (((S.1 7) = 0 → tX3_findOrder_44 (-1 : Int32) (sA (sI S 7 (1 : Int32)) 23 (wfill (S.2.2.1 23) 8 (-1 : Int32))) (fun r2 S1 => P (sI S1 6 r2))) ∧ (¬ (S.1 7) = 0 → P S))) : tX3_refresh  S P := by
  show wX3_refresh P 0 [.ref 41] [] S
  refine wp_aload_n dX3_refresh_0 rfl rfl ?_
  refine wp_get (q := 41) dX3_refresh_1 fX3_32 rfl rfl ?_
  refine wp_if_eq (tgt := 8) dX3_refresh_4 (by decide) (fun c => ?_) (fun c => ?_)
  · have h := h.1 c
    refine wp_aload_n dX3_refresh_8 rfl rfl ?_
    refine wp_iconst (v := (1 : Int32)) dX3_refresh_9 (by decide) ?_
    refine wp_put (q := 41) (mh2 := enc (sI S 7 (1 : Int32))) dX3_refresh_10 fX3_32 (by decide) rfl (Nat.le_of_ble_eq_true rfl) (fun _ _ => rfl) rfl rfl (eo_41_8 _ _) ?_
    refine wp_aload_n dX3_refresh_13 rfl rfl ?_
    refine wp_get (q := 41) dX3_refresh_14 fX3_25 rfl rfl ?_
    refine wp_iconst (v := (-1 : Int32)) dX3_refresh_17 (by decide) ?_
    refine wp_fillI (q := 46) (mh2 := enc (sA (sI S 7 (1 : Int32)) 23 (wfill (S.2.2.1 23) 8 (-1 : Int32)))) dX3_refresh_18 lX3_64 (by decide) rfl (by decide) (es_46 _ _) (Nat.le_of_ble_eq_true rfl) ?_
    refine wp_aload_n dX3_refresh_21 rfl rfl ?_
    refine wp_aload_n dX3_refresh_22 rfl rfl ?_
    refine wp_iconst (v := (-1 : Int32)) dX3_refresh_23 (by decide) ?_
    refine wp_aload_n dX3_refresh_24 rfl rfl ?_
    refine wp_get (q := 41) dX3_refresh_25 fX3_19 rfl rfl ?_
    refine wp_callV (q := 41) (As := [.int (-1 : Int32), .ref 44]) (rest := [.ref 41]) dX3_refresh_28 mX3_findOrder lX3_56 (by decide) rfl rfl rfl rfl (Nat.le_of_ble_eq_true rfl) (Nat.le_of_ble_eq_true rfl) h ?_
    rintro rv mh2 ⟨r2, S1, rfl, rfl, h⟩
    refine wp_put (q := 41) (mh2 := enc (sI S1 6 r2)) dX3_refresh_31 fX3_28 (by decide) rfl (Nat.le_of_ble_eq_true rfl) (fun _ _ => rfl) rfl rfl (eo_41_7 _ _) ?_
    exact wp_vret dX3_refresh_34 rfl ⟨_, rfl, rfl, h⟩
  · have h := h.2 c
    exact wp_vret dX3_refresh_7 rfl ⟨_, rfl, rfl, h⟩
abbrev rX3_workAt : Room := { frames := 5, cells := 0, slots := 0, locals := 121 }
abbrev wX3_workAt (P : Int32 → St → Prop) (pc : Nat) (Ls stk : List Value) (S : St) : Prop := Wp cX3_workAt RX3 2 rX3_workAt (wFI .int P) pc Ls stk (enc S)
abbrev tX3_workAt (a0 : Int32) (S : St) (P : Int32 → St → Prop) : Prop := wX3_workAt P 0 (wl_en [.ref 41, .int a0] 2) [] S
set_option maxRecDepth 100000 in
theorem bX3_workAt_0 {P : Int32 → St → Prop} {S : St} (a0 : Int32) (h : tX3_refresh  S (fun S1 => vp_in a0 8 ∧ P ((S1.2.2.1 21) a0.toNatClampNeg) S1)) : tX3_workAt a0 S P := by
  show wX3_workAt P 0 [.ref 41, .int a0] [] S
  refine wp_aload_n dX3_workAt_0 rfl rfl ?_
  refine wp_callV (q := 41) (As := []) (rest := []) dX3_workAt_1 mX3_refresh lX3_44 (by decide) rfl rfl rfl rfl (Nat.le_of_ble_eq_true rfl) (Nat.le_of_ble_eq_true rfl) h ?_
  rintro rv mh2 ⟨S1, rfl, rfl, h⟩
  refine wp_aload_n dX3_workAt_4 rfl rfl ?_
  refine wp_get (q := 41) dX3_workAt_5 fX3_19 rfl rfl ?_
  refine wp_iload_n dX3_workAt_8 rfl rfl ?_
  obtain ⟨q2, h⟩ := h
  refine wp_iald2 (q := 44) (j := a0.toNatClampNeg) dX3_workAt_9 rfl q2 rfl ?_
  exact wp_iret dX3_workAt_10 rfl rfl ⟨_, _, rfl, rfl, h⟩
abbrev rX3_leastQuarrel : Room := { frames := 5, cells := 0, slots := 0, locals := 121 }
abbrev wX3_leastQuarrel (P : Int32 → St → Prop) (pc : Nat) (Ls stk : List Value) (S : St) : Prop := Wp cX3_leastQuarrel RX3 1 rX3_leastQuarrel (wFI .int P) pc Ls stk (enc S)
abbrev tX3_leastQuarrel  (S : St) (P : Int32 → St → Prop) : Prop := wX3_leastQuarrel P 0 (wl_en [.ref 41] 1) [] S
set_option maxRecDepth 100000 in
theorem bX3_leastQuarrel_0 {P : Int32 → St → Prop} {S : St}  (h : tX3_refresh  S (fun S1 => P (S1.1 6) S1)) : tX3_leastQuarrel  S P := by
  show wX3_leastQuarrel P 0 [.ref 41] [] S
  refine wp_aload_n dX3_leastQuarrel_0 rfl rfl ?_
  refine wp_callV (q := 41) (As := []) (rest := []) dX3_leastQuarrel_1 mX3_refresh lX3_44 (by decide) rfl rfl rfl rfl (Nat.le_of_ble_eq_true rfl) (Nat.le_of_ble_eq_true rfl) h ?_
  rintro rv mh2 ⟨S1, rfl, rfl, h⟩
  refine wp_aload_n dX3_leastQuarrel_4 rfl rfl ?_
  refine wp_get (q := 41) dX3_leastQuarrel_5 fX3_28 rfl rfl ?_
  exact wp_iret dX3_leastQuarrel_8 rfl rfl ⟨_, _, rfl, rfl, h⟩
abbrev rX3_turnedBy : Room := { frames := 5, cells := 0, slots := 0, locals := 121 }
abbrev wX3_turnedBy (P : Int32 → St → Prop) (pc : Nat) (Ls stk : List Value) (S : St) : Prop := Wp cX3_turnedBy RX3 5 rX3_turnedBy (wFI .int P) pc Ls stk (enc S)
abbrev tX3_turnedBy (a0 : Int32) (S : St) (P : Int32 → St → Prop) : Prop := wX3_turnedBy P 0 (wl_en [.ref 41, .int a0] 5) [] S
set_option maxRecDepth 100000 in
theorem bX3_turnedBy_0 {P : Int32 → St → Prop} {S : St} (a0 : Int32) (h : tX3_refresh  S (fun S1 => wX3_turnedBy P 8 [.ref 41, .int a0, .int (0 : Int32), .int (0 : Int32), .retAddr 0] [] S1)) : tX3_turnedBy a0 S P := by
  show wX3_turnedBy P 0 [.ref 41, .int a0, .retAddr 0, .retAddr 0, .retAddr 0] [] S
  refine wp_aload_n dX3_turnedBy_0 rfl rfl ?_
  refine wp_callV (q := 41) (As := []) (rest := []) dX3_turnedBy_1 mX3_refresh lX3_44 (by decide) rfl rfl rfl rfl (Nat.le_of_ble_eq_true rfl) (Nat.le_of_ble_eq_true rfl) h ?_
  rintro rv mh2 ⟨S1, rfl, rfl, h⟩
  refine wp_iconst (v := (0 : Int32)) dX3_turnedBy_4 (by decide) ?_
  refine wp_istore_n (Ms := [.ref 41, .int a0, .int (0 : Int32), .retAddr 0, .retAddr 0]) dX3_turnedBy_5 rfl (by decide) rfl ?_
  refine wp_iconst (v := (0 : Int32)) dX3_turnedBy_6 (by decide) ?_
  refine wp_istore_n (Ms := [.ref 41, .int a0, .int (0 : Int32), .int (0 : Int32), .retAddr 0]) dX3_turnedBy_7 rfl (by decide) rfl ?_
  exact wp_le (Ms := [.ref 41, .int a0, .int (0 : Int32), .int (0 : Int32), .retAddr 0]) ⟨Or.inr rfl, Or.inr rfl, Or.inr rfl, Or.inr rfl, Or.inl rfl, trivial⟩ h
set_option maxRecDepth 100000 in
theorem bX3_turnedBy_8 {P : Int32 → St → Prop} {S : St} (x1 : Int32) (x2 : Int32) (x3 : Int32) (h : (((S.1 0) ≤ x3 → P x2 S) ∧ (¬ (S.1 0) ≤ x3 → wX3_turnedBy P 24 [.ref 41, .int x1, .int x2, .int x3, .int (x3 + (1 : Int32))] [] S))) : wX3_turnedBy P 8 [.ref 41, .int x1, .int x2, .int x3, .retAddr 0] [] S := by
  refine wp_iload_n dX3_turnedBy_8 rfl rfl ?_
  refine wp_aload_n dX3_turnedBy_9 rfl rfl ?_
  refine wp_get (q := 41) dX3_turnedBy_10 fX3_36 rfl rfl ?_
  refine wp_get (q := 1) dX3_turnedBy_13 fX3_47 rfl rfl ?_
  refine wp_icmp_ge (tgt := 72) dX3_turnedBy_16 (by decide) (fun c => ?_) (fun c => ?_)
  · have h := h.1 c
    refine wp_iload_n dX3_turnedBy_72 rfl rfl ?_
    exact wp_iret dX3_turnedBy_73 rfl rfl ⟨_, _, rfl, rfl, h⟩
  · have h := h.2 c
    refine wp_iload_n dX3_turnedBy_19 rfl rfl ?_
    refine wp_iconst (v := (1 : Int32)) dX3_turnedBy_20 (by decide) ?_
    refine wp_iadd dX3_turnedBy_21 ?_
    refine wp_istore (Ms := [.ref 41, .int x1, .int x2, .int x3, .int (x3 + (1 : Int32))]) dX3_turnedBy_22 (by decide) rfl ?_
    exact wp_le (Ms := [.ref 41, .int x1, .int x2, .int x3, .int (x3 + (1 : Int32))]) ⟨Or.inr rfl, Or.inr rfl, Or.inr rfl, Or.inr rfl, Or.inr rfl, trivial⟩ h
set_option maxRecDepth 100000 in
theorem bX3_turnedBy_24 {P : Int32 → St → Prop} {S : St} (x1 : Int32) (x2 : Int32) (x3 : Int32) (x4 : Int32) (h : (((S.1 0) ≤ x4 → wX3_turnedBy P 8 [.ref 41, .int x1, .int x2, .int (x3 + (1 : Int32)), .retAddr 0] [] S) ∧ (¬ (S.1 0) ≤ x4 → vp_in x3 8 ∧ vp_in x4 8 ∧ tX3_turnsTwo x1 ((S.2.2.1 21) x3.toNatClampNeg) ((S.2.2.1 21) x4.toNatClampNeg) S (fun r4 S3 => ((r4 = 0 → wX3_turnedBy P 24 [.ref 41, .int x1, .int x2, .int x3, .int (x4 + (1 : Int32))] [] S3) ∧ (¬ r4 = 0 → wX3_turnedBy P 24 [.ref 41, .int x1, .int (x2 + (1 : Int32)), .int x3, .int (x4 + (1 : Int32))] [] S3)))))) : wX3_turnedBy P 24 [.ref 41, .int x1, .int x2, .int x3, .int x4] [] S := by
  refine wp_iload dX3_turnedBy_24 rfl ?_
  refine wp_aload_n dX3_turnedBy_26 rfl rfl ?_
  refine wp_get (q := 41) dX3_turnedBy_27 fX3_36 rfl rfl ?_
  refine wp_get (q := 1) dX3_turnedBy_30 fX3_47 rfl rfl ?_
  refine wp_icmp_ge (tgt := 66) dX3_turnedBy_33 (by decide) (fun c => ?_) (fun c => ?_)
  · have h := h.1 c
    refine wp_iinc (Ms := [.ref 41, .int x1, .int x2, .int (x3 + (1 : Int32)), .int x4]) (v := x3 + (1 : Int32)) dX3_turnedBy_66 rfl rfl (by decide) rfl ?_
    refine wp_goto (tgt := 8) dX3_turnedBy_69 (by decide) ?_
    exact wp_le (Ms := [.ref 41, .int x1, .int x2, .int (x3 + (1 : Int32)), .retAddr 0]) ⟨Or.inr rfl, Or.inr rfl, Or.inr rfl, Or.inr rfl, Or.inl rfl, trivial⟩ h
  · have h := h.2 c
    refine wp_aload_n dX3_turnedBy_36 rfl rfl ?_
    refine wp_iload_n dX3_turnedBy_37 rfl rfl ?_
    refine wp_aload_n dX3_turnedBy_38 rfl rfl ?_
    refine wp_get (q := 41) dX3_turnedBy_39 fX3_19 rfl rfl ?_
    refine wp_iload_n dX3_turnedBy_42 rfl rfl ?_
    obtain ⟨q1, h⟩ := h
    refine wp_iald2 (q := 44) (j := x3.toNatClampNeg) dX3_turnedBy_43 rfl q1 rfl ?_
    refine wp_aload_n dX3_turnedBy_44 rfl rfl ?_
    refine wp_get (q := 41) dX3_turnedBy_45 fX3_19 rfl rfl ?_
    refine wp_iload dX3_turnedBy_48 rfl ?_
    obtain ⟨q2, h⟩ := h
    refine wp_iald2 (q := 44) (j := x4.toNatClampNeg) dX3_turnedBy_50 rfl q2 rfl ?_
    refine wp_callV (q := 41) (As := [.int x1, .int ((S.2.2.1 21) x3.toNatClampNeg), .int ((S.2.2.1 21) x4.toNatClampNeg)]) (rest := []) dX3_turnedBy_51 mX3_turnsTwo lX3_52 (by decide) rfl rfl rfl rfl (Nat.le_of_ble_eq_true rfl) (Nat.le_of_ble_eq_true rfl) h ?_
    rintro rv mh2 ⟨r4, S3, rfl, rfl, h⟩
    refine wp_if_eq (tgt := 60) dX3_turnedBy_54 (by decide) (fun c => ?_) (fun c => ?_)
    · have h := h.1 c
      refine wp_iinc (Ms := [.ref 41, .int x1, .int x2, .int x3, .int (x4 + (1 : Int32))]) (v := x4 + (1 : Int32)) dX3_turnedBy_60 rfl rfl (by decide) rfl ?_
      refine wp_goto (tgt := 24) dX3_turnedBy_63 (by decide) ?_
      exact wp_le (Ms := [.ref 41, .int x1, .int x2, .int x3, .int (x4 + (1 : Int32))]) ⟨Or.inr rfl, Or.inr rfl, Or.inr rfl, Or.inr rfl, Or.inr rfl, trivial⟩ h
    · have h := h.2 c
      refine wp_iinc (Ms := [.ref 41, .int x1, .int (x2 + (1 : Int32)), .int x3, .int x4]) (v := x2 + (1 : Int32)) dX3_turnedBy_57 rfl rfl (by decide) rfl ?_
      refine wp_iinc (Ms := [.ref 41, .int x1, .int (x2 + (1 : Int32)), .int x3, .int (x4 + (1 : Int32))]) (v := x4 + (1 : Int32)) dX3_turnedBy_60 rfl rfl (by decide) rfl ?_
      refine wp_goto (tgt := 24) dX3_turnedBy_63 (by decide) ?_
      exact wp_le (Ms := [.ref 41, .int x1, .int (x2 + (1 : Int32)), .int x3, .int (x4 + (1 : Int32))]) ⟨Or.inr rfl, Or.inr rfl, Or.inr rfl, Or.inr rfl, Or.inr rfl, trivial⟩ h
abbrev rX3_farthest : Room := { frames := 1, cells := 0, slots := 0, locals := 21 }
abbrev wX3_farthest (P : Int32 → St → Prop) (pc : Nat) (Ls stk : List Value) (S : St) : Prop := Wp cX3_farthest RX3 4 rX3_farthest (wFI .int P) pc Ls stk (enc S)
abbrev tX3_farthest  (S : St) (P : Int32 → St → Prop) : Prop := wX3_farthest P 0 (wl_en [.ref 41] 4) [] S
set_option maxRecDepth 100000 in
theorem bX3_farthest_0 {P : Int32 → St → Prop} {S : St}  (h : wX3_farthest P 4 [.ref 41, .int (0 : Int32), .int (0 : Int32), .retAddr 0] [] S) : tX3_farthest  S P := by
  show wX3_farthest P 0 [.ref 41, .retAddr 0, .retAddr 0, .retAddr 0] [] S
  refine wp_iconst (v := (0 : Int32)) dX3_farthest_0 (by decide) ?_
  refine wp_istore_n (Ms := [.ref 41, .int (0 : Int32), .retAddr 0, .retAddr 0]) dX3_farthest_1 rfl (by decide) rfl ?_
  refine wp_iconst (v := (0 : Int32)) dX3_farthest_2 (by decide) ?_
  refine wp_istore_n (Ms := [.ref 41, .int (0 : Int32), .int (0 : Int32), .retAddr 0]) dX3_farthest_3 rfl (by decide) rfl ?_
  exact wp_le (Ms := [.ref 41, .int (0 : Int32), .int (0 : Int32), .retAddr 0]) ⟨Or.inr rfl, Or.inr rfl, Or.inr rfl, Or.inl rfl, trivial⟩ h
set_option maxRecDepth 100000 in
theorem bX3_farthest_4 {P : Int32 → St → Prop} {S : St} (x1 : Int32) (x2 : Int32) (h : (((S.1 0) ≤ x2 → P x1 S) ∧ (¬ (S.1 0) ≤ x2 → wX3_farthest P 17 [.ref 41, .int x1, .int x2, .int (0 : Int32)] [] S))) : wX3_farthest P 4 [.ref 41, .int x1, .int x2, .retAddr 0] [] S := by
  refine wp_iload_n dX3_farthest_4 rfl rfl ?_
  refine wp_aload_n dX3_farthest_5 rfl rfl ?_
  refine wp_get (q := 41) dX3_farthest_6 fX3_36 rfl rfl ?_
  refine wp_get (q := 1) dX3_farthest_9 fX3_47 rfl rfl ?_
  refine wp_icmp_ge (tgt := 66) dX3_farthest_12 (by decide) (fun c => ?_) (fun c => ?_)
  · have h := h.1 c
    refine wp_iload_n dX3_farthest_66 rfl rfl ?_
    exact wp_iret dX3_farthest_67 rfl rfl ⟨_, _, rfl, rfl, h⟩
  · have h := h.2 c
    refine wp_iconst (v := (0 : Int32)) dX3_farthest_15 (by decide) ?_
    refine wp_istore_n (Ms := [.ref 41, .int x1, .int x2, .int (0 : Int32)]) dX3_farthest_16 rfl (by decide) rfl ?_
    exact wp_le (Ms := [.ref 41, .int x1, .int x2, .int (0 : Int32)]) ⟨Or.inr rfl, Or.inr rfl, Or.inr rfl, Or.inr rfl, trivial⟩ h
set_option maxRecDepth 100000 in
theorem bX3_farthest_17 {P : Int32 → St → Prop} {S : St} (x1 : Int32) (x2 : Int32) (x3 : Int32) (h : (((S.1 0) ≤ x3 → wX3_farthest P 4 [.ref 41, .int x1, .int (x2 + (1 : Int32)), .retAddr 0] [] S) ∧ (¬ (S.1 0) ≤ x3 → vp_in x2 8 ∧ vp_in x3 8 ∧ ((¬ ((S.2.2.1 21) x2.toNatClampNeg) = ((S.2.2.1 22) x3.toNatClampNeg) → wX3_farthest P 17 [.ref 41, .int x1, .int x2, .int (x3 + (1 : Int32))] [] S) ∧ (((S.2.2.1 21) x2.toNatClampNeg) = ((S.2.2.1 22) x3.toNatClampNeg) → wX3_farthest P 17 [.ref 41, .int (if x1 < (if 0 ≤ (x2 - x3) then x2 - x3 else 0 - (x2 - x3)) then if 0 ≤ (x2 - x3) then x2 - x3 else 0 - (x2 - x3) else x1), .int x2, .int (x3 + (1 : Int32))] [] S))))) : wX3_farthest P 17 [.ref 41, .int x1, .int x2, .int x3] [] S := by
  refine wp_iload_n dX3_farthest_17 rfl rfl ?_
  refine wp_aload_n dX3_farthest_18 rfl rfl ?_
  refine wp_get (q := 41) dX3_farthest_19 fX3_36 rfl rfl ?_
  refine wp_get (q := 1) dX3_farthest_22 fX3_47 rfl rfl ?_
  refine wp_icmp_ge (tgt := 60) dX3_farthest_25 (by decide) (fun c => ?_) (fun c => ?_)
  · have h := h.1 c
    refine wp_iinc (Ms := [.ref 41, .int x1, .int (x2 + (1 : Int32)), .int x3]) (v := x2 + (1 : Int32)) dX3_farthest_60 rfl rfl (by decide) rfl ?_
    refine wp_goto (tgt := 4) dX3_farthest_63 (by decide) ?_
    exact wp_le (Ms := [.ref 41, .int x1, .int (x2 + (1 : Int32)), .retAddr 0]) ⟨Or.inr rfl, Or.inr rfl, Or.inr rfl, Or.inl rfl, trivial⟩ h
  · have h := h.2 c
    refine wp_aload_n dX3_farthest_28 rfl rfl ?_
    refine wp_get (q := 41) dX3_farthest_29 fX3_19 rfl rfl ?_
    refine wp_iload_n dX3_farthest_32 rfl rfl ?_
    obtain ⟨q1, h⟩ := h
    refine wp_iald2 (q := 44) (j := x2.toNatClampNeg) dX3_farthest_33 rfl q1 rfl ?_
    refine wp_aload_n dX3_farthest_34 rfl rfl ?_
    refine wp_get (q := 41) dX3_farthest_35 fX3_22 rfl rfl ?_
    refine wp_iload_n dX3_farthest_38 rfl rfl ?_
    obtain ⟨q2, h⟩ := h
    refine wp_iald2 (q := 45) (j := x3.toNatClampNeg) dX3_farthest_39 rfl q2 rfl ?_
    refine wp_icmp_ne (tgt := 54) dX3_farthest_40 (by decide) (fun c => ?_) (fun c => ?_)
    · have h := h.1 c
      refine wp_iinc (Ms := [.ref 41, .int x1, .int x2, .int (x3 + (1 : Int32))]) (v := x3 + (1 : Int32)) dX3_farthest_54 rfl rfl (by decide) rfl ?_
      refine wp_goto (tgt := 17) dX3_farthest_57 (by decide) ?_
      exact wp_le (Ms := [.ref 41, .int x1, .int x2, .int (x3 + (1 : Int32))]) ⟨Or.inr rfl, Or.inr rfl, Or.inr rfl, Or.inr rfl, trivial⟩ h
    · have h := h.2 c
      refine wp_iload_n dX3_farthest_43 rfl rfl ?_
      refine wp_iload_n dX3_farthest_44 rfl rfl ?_
      refine wp_iload_n dX3_farthest_45 rfl rfl ?_
      refine wp_isub dX3_farthest_46 ?_
      refine wp_mabs dX3_farthest_47 lX3_76 (by decide) (Nat.le_of_ble_eq_true rfl) ?_
      refine wp_mmax dX3_farthest_50 lX3_82 (by decide) (Nat.le_of_ble_eq_true rfl) ?_
      refine wp_istore_n (Ms := [.ref 41, .int (if x1 < (if 0 ≤ (x2 - x3) then x2 - x3 else 0 - (x2 - x3)) then if 0 ≤ (x2 - x3) then x2 - x3 else 0 - (x2 - x3) else x1), .int x2, .int x3]) dX3_farthest_53 rfl (by decide) rfl ?_
      refine wp_iinc (Ms := [.ref 41, .int (if x1 < (if 0 ≤ (x2 - x3) then x2 - x3 else 0 - (x2 - x3)) then if 0 ≤ (x2 - x3) then x2 - x3 else 0 - (x2 - x3) else x1), .int x2, .int (x3 + (1 : Int32))]) (v := x3 + (1 : Int32)) dX3_farthest_54 rfl rfl (by decide) rfl ?_
      refine wp_goto (tgt := 17) dX3_farthest_57 (by decide) ?_
      exact wp_le (Ms := [.ref 41, .int (if x1 < (if 0 ≤ (x2 - x3) then x2 - x3 else 0 - (x2 - x3)) then if 0 ≤ (x2 - x3) then x2 - x3 else 0 - (x2 - x3) else x1), .int x2, .int (x3 + (1 : Int32))]) ⟨Or.inr rfl, Or.inr rfl, Or.inr rfl, Or.inr rfl, trivial⟩ h
abbrev rX3_farthestMove : Room := { frames := 5, cells := 0, slots := 0, locals := 121 }
abbrev wX3_farthestMove (P : Int32 → St → Prop) (pc : Nat) (Ls stk : List Value) (S : St) : Prop := Wp cX3_farthestMove RX3 2 rX3_farthestMove (wFI .int P) pc Ls stk (enc S)
abbrev tX3_farthestMove (a0 : Int32) (S : St) (P : Int32 → St → Prop) : Prop := wX3_farthestMove P 0 (wl_en [.ref 41, .int a0] 2) [] S
set_option maxRecDepth 100000 in
theorem bX3_farthestMove_0 {P : Int32 → St → Prop} {S : St} (a0 : Int32) (h : tX3_refresh  S (fun S1 => vp_in a0 8 ∧ ((¬ ((S1.2.2.1 23) a0.toNatClampNeg) = (-1 : Int32) → P ((S1.2.2.1 23) a0.toNatClampNeg) S1) ∧ (((S1.2.2.1 23) a0.toNatClampNeg) = (-1 : Int32) → tX3_findOrder_45 a0 S1 (fun r4 S3 => tX3_farthest  S3 (fun r6 S5 => P ((upd (S5.2.2.1 23) a0.toNatClampNeg r6) a0.toNatClampNeg) (sA S5 23 (upd (S5.2.2.1 23) a0.toNatClampNeg r6)))))))) : tX3_farthestMove a0 S P := by
  show wX3_farthestMove P 0 [.ref 41, .int a0] [] S
  refine wp_aload_n dX3_farthestMove_0 rfl rfl ?_
  refine wp_callV (q := 41) (As := []) (rest := []) dX3_farthestMove_1 mX3_refresh lX3_44 (by decide) rfl rfl rfl rfl (Nat.le_of_ble_eq_true rfl) (Nat.le_of_ble_eq_true rfl) h ?_
  rintro rv mh2 ⟨S1, rfl, rfl, h⟩
  refine wp_aload_n dX3_farthestMove_4 rfl rfl ?_
  refine wp_get (q := 41) dX3_farthestMove_5 fX3_25 rfl rfl ?_
  refine wp_iload_n dX3_farthestMove_8 rfl rfl ?_
  obtain ⟨q2, h⟩ := h
  refine wp_iald2 (q := 46) (j := a0.toNatClampNeg) dX3_farthestMove_9 rfl q2 rfl ?_
  refine wp_iconst (v := (-1 : Int32)) dX3_farthestMove_10 (by decide) ?_
  refine wp_icmp_ne (tgt := 34) dX3_farthestMove_11 (by decide) (fun c => ?_) (fun c => ?_)
  · have h := h.1 c
    refine wp_aload_n dX3_farthestMove_34 rfl rfl ?_
    refine wp_get (q := 41) dX3_farthestMove_35 fX3_25 rfl rfl ?_
    refine wp_iload_n dX3_farthestMove_38 rfl rfl ?_
    refine wp_iald2 (q := 46) (j := a0.toNatClampNeg) dX3_farthestMove_39 rfl q2 rfl ?_
    exact wp_iret dX3_farthestMove_40 rfl rfl ⟨_, _, rfl, rfl, h⟩
  · have h := h.2 c
    refine wp_aload_n dX3_farthestMove_14 rfl rfl ?_
    refine wp_iload_n dX3_farthestMove_15 rfl rfl ?_
    refine wp_aload_n dX3_farthestMove_16 rfl rfl ?_
    refine wp_get (q := 41) dX3_farthestMove_17 fX3_22 rfl rfl ?_
    refine wp_callV (q := 41) (As := [.int a0, .ref 45]) (rest := []) dX3_farthestMove_20 mX3_findOrder lX3_56 (by decide) rfl rfl rfl rfl (Nat.le_of_ble_eq_true rfl) (Nat.le_of_ble_eq_true rfl) h ?_
    rintro rv mh2 ⟨r4, S3, rfl, rfl, h⟩
    refine wp_pop dX3_farthestMove_23 rfl ?_
    refine wp_aload_n dX3_farthestMove_24 rfl rfl ?_
    refine wp_get (q := 41) dX3_farthestMove_25 fX3_25 rfl rfl ?_
    refine wp_iload_n dX3_farthestMove_28 rfl rfl ?_
    refine wp_aload_n dX3_farthestMove_29 rfl rfl ?_
    refine wp_callV (q := 41) (As := []) (rest := [.int a0, .ref 46]) dX3_farthestMove_30 mX3_farthest lX3_60 (by decide) rfl rfl rfl rfl (Nat.le_of_ble_eq_true rfl) (Nat.le_of_ble_eq_true rfl) h ?_
    rintro rv mh2 ⟨r6, S5, rfl, rfl, h⟩
    refine wp_iast2 (q := 46) (j := a0.toNatClampNeg) (mh2 := enc (sA S5 23 (upd (S5.2.2.1 23) a0.toNatClampNeg r6))) dX3_farthestMove_33 rfl q2 rfl (es_46 _ _) ?_
    refine wp_aload_n dX3_farthestMove_34 rfl rfl ?_
    refine wp_get (q := 41) dX3_farthestMove_35 fX3_25 rfl rfl ?_
    refine wp_iload_n dX3_farthestMove_38 rfl rfl ?_
    refine wp_iald2 (q := 46) (j := a0.toNatClampNeg) dX3_farthestMove_39 rfl q2 rfl ?_
    exact wp_iret dX3_farthestMove_40 rfl rfl ⟨_, _, rfl, rfl, h⟩
abbrev rX4_forget : Room := { frames := 0, cells := 0, slots := 0, locals := 0 }
abbrev wX4_forget (P : St → Prop) (pc : Nat) (Ls stk : List Value) (S : St) : Prop := Wp cX4_forget RX4 1 rX4_forget (wFV P) pc Ls stk (enc S)
abbrev tX4_forget  (S : St) (P : St → Prop) : Prop := wX4_forget P 0 (wl_en [.ref 20] 1) [] S
set_option maxRecDepth 100000 in
theorem bX4_forget_0 {P : St → Prop} {S : St}  (h : P (sI S 4 (0 : Int32))) : tX4_forget  S P := by
  show wX4_forget P 0 [.ref 20] [] S
  refine wp_aload_n dX4_forget_0 rfl rfl ?_
  refine wp_iconst (v := (0 : Int32)) dX4_forget_1 (by decide) ?_
  refine wp_put (q := 20) (mh2 := enc (sI S 4 (0 : Int32))) dX4_forget_2 fX4_48 (by decide) rfl (Nat.le_of_ble_eq_true rfl) (fun _ _ => rfl) rfl rfl (eo_20_12 _ _) ?_
  exact wp_vret dX4_forget_5 rfl ⟨_, rfl, rfl, h⟩
abbrev rX6_markersOf : Room := { frames := 1, cells := 0, slots := 0, locals := 21 }
abbrev wX6_markersOf_16 (P : Int32 → St → Prop) (pc : Nat) (Ls stk : List Value) (S : St) : Prop := Wp cX6_markersOf RX6 5 rX6_markersOf (wFI .int P) pc Ls stk (enc S)
abbrev tX6_markersOf_16 (a0 : Int32) (a1 : Int32) (S : St) (P : Int32 → St → Prop) : Prop := wX6_markersOf_16 P 0 (wl_en [.ref 16, .int a0, .int a1] 5) [] S
set_option maxRecDepth 100000 in
theorem bX6_markersOf_16_0 {P : Int32 → St → Prop} {S : St} (a0 : Int32) (a1 : Int32) (h : wX6_markersOf_16 P 5 [.ref 16, .int a0, .int a1, .int (0 : Int32), .int (0 : Int32)] [] S) : tX6_markersOf_16 a0 a1 S P := by
  show wX6_markersOf_16 P 0 [.ref 16, .int a0, .int a1, .retAddr 0, .retAddr 0] [] S
  refine wp_iconst (v := (0 : Int32)) dX6_markersOf_0 (by decide) ?_
  refine wp_istore_n (Ms := [.ref 16, .int a0, .int a1, .int (0 : Int32), .retAddr 0]) dX6_markersOf_1 rfl (by decide) rfl ?_
  refine wp_iconst (v := (0 : Int32)) dX6_markersOf_2 (by decide) ?_
  refine wp_istore (Ms := [.ref 16, .int a0, .int a1, .int (0 : Int32), .int (0 : Int32)]) dX6_markersOf_3 (by decide) rfl ?_
  exact wp_le (Ms := [.ref 16, .int a0, .int a1, .int (0 : Int32), .int (0 : Int32)]) ⟨Or.inr rfl, Or.inr rfl, Or.inr rfl, Or.inr rfl, Or.inr rfl, trivial⟩ h
set_option maxRecDepth 100000 in
theorem bX6_markersOf_16_5 {P : Int32 → St → Prop} {S : St} (x1 : Int32) (x2 : Int32) (x3 : Int32) (x4 : Int32) (h : ((x1 ≤ x4 → P x3 S) ∧ (¬ x1 ≤ x4 → tX6_has x2 x4 S (fun r2 S1 => ((r2 = 0 → wX6_markersOf_16 P 5 [.ref 16, .int x1, .int x2, .int x3, .int (x4 + (1 : Int32))] [] S1) ∧ (¬ r2 = 0 → vp_in x4 8 ∧ wX6_markersOf_16 P 5 [.ref 16, .int x1, .int x2, .int (x3 ||| ((S1.2.2.1 11) x4.toNatClampNeg)), .int (x4 + (1 : Int32))] [] S1)))))) : wX6_markersOf_16 P 5 [.ref 16, .int x1, .int x2, .int x3, .int x4] [] S := by
  refine wp_iload dX6_markersOf_5 rfl ?_
  refine wp_iload_n dX6_markersOf_7 rfl rfl ?_
  refine wp_icmp_ge (tgt := 33) dX6_markersOf_8 (by decide) (fun c => ?_) (fun c => ?_)
  · have h := h.1 c
    refine wp_iload_n dX6_markersOf_33 rfl rfl ?_
    exact wp_iret dX6_markersOf_34 rfl rfl ⟨_, _, rfl, rfl, h⟩
  · have h := h.2 c
    refine wp_iload_n dX6_markersOf_11 rfl rfl ?_
    refine wp_iload dX6_markersOf_12 rfl ?_
    refine wp_callS (As := [.int x2, .int x4]) (rest := []) dX6_markersOf_14 mX6_has lX6_72 (by decide) rfl rfl (Nat.le_of_ble_eq_true rfl) (Nat.le_of_ble_eq_true rfl) h ?_
    rintro rv mh2 ⟨r2, S1, rfl, rfl, h⟩
    refine wp_if_eq (tgt := 27) dX6_markersOf_17 (by decide) (fun c => ?_) (fun c => ?_)
    · have h := h.1 c
      refine wp_iinc (Ms := [.ref 16, .int x1, .int x2, .int x3, .int (x4 + (1 : Int32))]) (v := x4 + (1 : Int32)) dX6_markersOf_27 rfl rfl (by decide) rfl ?_
      refine wp_goto (tgt := 5) dX6_markersOf_30 (by decide) ?_
      exact wp_le (Ms := [.ref 16, .int x1, .int x2, .int x3, .int (x4 + (1 : Int32))]) ⟨Or.inr rfl, Or.inr rfl, Or.inr rfl, Or.inr rfl, Or.inr rfl, trivial⟩ h
    · have h := h.2 c
      refine wp_iload_n dX6_markersOf_20 rfl rfl ?_
      refine wp_aload_n dX6_markersOf_21 rfl rfl ?_
      refine wp_iload dX6_markersOf_22 rfl ?_
      obtain ⟨q3, h⟩ := h
      refine wp_iald2 (q := 16) (j := x4.toNatClampNeg) dX6_markersOf_24 rfl q3 rfl ?_
      refine wp_ior dX6_markersOf_25 ?_
      refine wp_istore_n (Ms := [.ref 16, .int x1, .int x2, .int (x3 ||| ((S1.2.2.1 11) x4.toNatClampNeg)), .int x4]) dX6_markersOf_26 rfl (by decide) rfl ?_
      refine wp_iinc (Ms := [.ref 16, .int x1, .int x2, .int (x3 ||| ((S1.2.2.1 11) x4.toNatClampNeg)), .int (x4 + (1 : Int32))]) (v := x4 + (1 : Int32)) dX6_markersOf_27 rfl rfl (by decide) rfl ?_
      refine wp_goto (tgt := 5) dX6_markersOf_30 (by decide) ?_
      exact wp_le (Ms := [.ref 16, .int x1, .int x2, .int (x3 ||| ((S1.2.2.1 11) x4.toNatClampNeg)), .int (x4 + (1 : Int32))]) ⟨Or.inr rfl, Or.inr rfl, Or.inr rfl, Or.inr rfl, Or.inr rfl, trivial⟩ h
abbrev wX6_markersOf_33 (P : Int32 → St → Prop) (pc : Nat) (Ls stk : List Value) (S : St) : Prop := Wp cX6_markersOf RX6 5 rX6_markersOf (wFI .int P) pc Ls stk (enc S)
abbrev tX6_markersOf_33 (a0 : Int32) (a1 : Int32) (S : St) (P : Int32 → St → Prop) : Prop := wX6_markersOf_33 P 0 (wl_en [.ref 33, .int a0, .int a1] 5) [] S
set_option maxRecDepth 100000 in
theorem bX6_markersOf_33_0 {P : Int32 → St → Prop} {S : St} (a0 : Int32) (a1 : Int32) (h : wX6_markersOf_33 P 5 [.ref 33, .int a0, .int a1, .int (0 : Int32), .int (0 : Int32)] [] S) : tX6_markersOf_33 a0 a1 S P := by
  show wX6_markersOf_33 P 0 [.ref 33, .int a0, .int a1, .retAddr 0, .retAddr 0] [] S
  refine wp_iconst (v := (0 : Int32)) dX6_markersOf_0 (by decide) ?_
  refine wp_istore_n (Ms := [.ref 33, .int a0, .int a1, .int (0 : Int32), .retAddr 0]) dX6_markersOf_1 rfl (by decide) rfl ?_
  refine wp_iconst (v := (0 : Int32)) dX6_markersOf_2 (by decide) ?_
  refine wp_istore (Ms := [.ref 33, .int a0, .int a1, .int (0 : Int32), .int (0 : Int32)]) dX6_markersOf_3 (by decide) rfl ?_
  exact wp_le (Ms := [.ref 33, .int a0, .int a1, .int (0 : Int32), .int (0 : Int32)]) ⟨Or.inr rfl, Or.inr rfl, Or.inr rfl, Or.inr rfl, Or.inr rfl, trivial⟩ h
set_option maxRecDepth 100000 in
theorem bX6_markersOf_33_5 {P : Int32 → St → Prop} {S : St} (x1 : Int32) (x2 : Int32) (x3 : Int32) (x4 : Int32) (h : ((x1 ≤ x4 → P x3 S) ∧ (¬ x1 ≤ x4 → tX6_has x2 x4 S (fun r2 S1 => ((r2 = 0 → wX6_markersOf_33 P 5 [.ref 33, .int x1, .int x2, .int x3, .int (x4 + (1 : Int32))] [] S1) ∧ (¬ r2 = 0 → vp_in x4 8 ∧ wX6_markersOf_33 P 5 [.ref 33, .int x1, .int x2, .int (x3 ||| ((S1.2.2.1 15) x4.toNatClampNeg)), .int (x4 + (1 : Int32))] [] S1)))))) : wX6_markersOf_33 P 5 [.ref 33, .int x1, .int x2, .int x3, .int x4] [] S := by
  refine wp_iload dX6_markersOf_5 rfl ?_
  refine wp_iload_n dX6_markersOf_7 rfl rfl ?_
  refine wp_icmp_ge (tgt := 33) dX6_markersOf_8 (by decide) (fun c => ?_) (fun c => ?_)
  · have h := h.1 c
    refine wp_iload_n dX6_markersOf_33 rfl rfl ?_
    exact wp_iret dX6_markersOf_34 rfl rfl ⟨_, _, rfl, rfl, h⟩
  · have h := h.2 c
    refine wp_iload_n dX6_markersOf_11 rfl rfl ?_
    refine wp_iload dX6_markersOf_12 rfl ?_
    refine wp_callS (As := [.int x2, .int x4]) (rest := []) dX6_markersOf_14 mX6_has lX6_72 (by decide) rfl rfl (Nat.le_of_ble_eq_true rfl) (Nat.le_of_ble_eq_true rfl) h ?_
    rintro rv mh2 ⟨r2, S1, rfl, rfl, h⟩
    refine wp_if_eq (tgt := 27) dX6_markersOf_17 (by decide) (fun c => ?_) (fun c => ?_)
    · have h := h.1 c
      refine wp_iinc (Ms := [.ref 33, .int x1, .int x2, .int x3, .int (x4 + (1 : Int32))]) (v := x4 + (1 : Int32)) dX6_markersOf_27 rfl rfl (by decide) rfl ?_
      refine wp_goto (tgt := 5) dX6_markersOf_30 (by decide) ?_
      exact wp_le (Ms := [.ref 33, .int x1, .int x2, .int x3, .int (x4 + (1 : Int32))]) ⟨Or.inr rfl, Or.inr rfl, Or.inr rfl, Or.inr rfl, Or.inr rfl, trivial⟩ h
    · have h := h.2 c
      refine wp_iload_n dX6_markersOf_20 rfl rfl ?_
      refine wp_aload_n dX6_markersOf_21 rfl rfl ?_
      refine wp_iload dX6_markersOf_22 rfl ?_
      obtain ⟨q3, h⟩ := h
      refine wp_iald2 (q := 33) (j := x4.toNatClampNeg) dX6_markersOf_24 rfl q3 rfl ?_
      refine wp_ior dX6_markersOf_25 ?_
      refine wp_istore_n (Ms := [.ref 33, .int x1, .int x2, .int (x3 ||| ((S1.2.2.1 15) x4.toNatClampNeg)), .int x4]) dX6_markersOf_26 rfl (by decide) rfl ?_
      refine wp_iinc (Ms := [.ref 33, .int x1, .int x2, .int (x3 ||| ((S1.2.2.1 15) x4.toNatClampNeg)), .int (x4 + (1 : Int32))]) (v := x4 + (1 : Int32)) dX6_markersOf_27 rfl rfl (by decide) rfl ?_
      refine wp_goto (tgt := 5) dX6_markersOf_30 (by decide) ?_
      exact wp_le (Ms := [.ref 33, .int x1, .int x2, .int (x3 ||| ((S1.2.2.1 15) x4.toNatClampNeg)), .int (x4 + (1 : Int32))]) ⟨Or.inr rfl, Or.inr rfl, Or.inr rfl, Or.inr rfl, Or.inr rfl, trivial⟩ h
abbrev rX6_worksOf : Room := { frames := 0, cells := 0, slots := 0, locals := 0 }
abbrev wX6_worksOf_16 (P : Int32 → St → Prop) (pc : Nat) (Ls stk : List Value) (S : St) : Prop := Wp cX6_worksOf RX6 5 rX6_worksOf (wFI .int P) pc Ls stk (enc S)
abbrev tX6_worksOf_16 (a0 : Int32) (a1 : Int32) (S : St) (P : Int32 → St → Prop) : Prop := wX6_worksOf_16 P 0 (wl_en [.ref 16, .int a0, .int a1] 5) [] S
set_option maxRecDepth 100000 in
theorem bX6_worksOf_16_0 {P : Int32 → St → Prop} {S : St} (a0 : Int32) (a1 : Int32) (h : wX6_worksOf_16 P 5 [.ref 16, .int a0, .int a1, .int (0 : Int32), .int (0 : Int32)] [] S) : tX6_worksOf_16 a0 a1 S P := by
  show wX6_worksOf_16 P 0 [.ref 16, .int a0, .int a1, .retAddr 0, .retAddr 0] [] S
  refine wp_iconst (v := (0 : Int32)) dX6_worksOf_0 (by decide) ?_
  refine wp_istore_n (Ms := [.ref 16, .int a0, .int a1, .int (0 : Int32), .retAddr 0]) dX6_worksOf_1 rfl (by decide) rfl ?_
  refine wp_iconst (v := (0 : Int32)) dX6_worksOf_2 (by decide) ?_
  refine wp_istore (Ms := [.ref 16, .int a0, .int a1, .int (0 : Int32), .int (0 : Int32)]) dX6_worksOf_3 (by decide) rfl ?_
  exact wp_le (Ms := [.ref 16, .int a0, .int a1, .int (0 : Int32), .int (0 : Int32)]) ⟨Or.inr rfl, Or.inr rfl, Or.inr rfl, Or.inr rfl, Or.inr rfl, trivial⟩ h
set_option maxRecDepth 100000 in
theorem bX6_worksOf_16_5 {P : Int32 → St → Prop} {S : St} (x1 : Int32) (x2 : Int32) (x3 : Int32) (x4 : Int32) (h : ((x1 ≤ x4 → P x3 S) ∧ (¬ x1 ≤ x4 → vp_in x4 8 ∧ (((((S.2.2.1 11) x4.toNatClampNeg) &&& x2) = 0 → wX6_worksOf_16 P 5 [.ref 16, .int x1, .int x2, .int x3, .int (x4 + (1 : Int32))] [] S) ∧ (¬ (((S.2.2.1 11) x4.toNatClampNeg) &&& x2) = 0 → wX6_worksOf_16 P 5 [.ref 16, .int x1, .int x2, .int (x3 ||| ((1 : Int32) <<< (x4 &&& (31 : Int32)))), .int (x4 + (1 : Int32))] [] S))))) : wX6_worksOf_16 P 5 [.ref 16, .int x1, .int x2, .int x3, .int x4] [] S := by
  refine wp_iload dX6_worksOf_5 rfl ?_
  refine wp_iload_n dX6_worksOf_7 rfl rfl ?_
  refine wp_icmp_ge (tgt := 33) dX6_worksOf_8 (by decide) (fun c => ?_) (fun c => ?_)
  · have h := h.1 c
    refine wp_iload_n dX6_worksOf_33 rfl rfl ?_
    exact wp_iret dX6_worksOf_34 rfl rfl ⟨_, _, rfl, rfl, h⟩
  · have h := h.2 c
    refine wp_aload_n dX6_worksOf_11 rfl rfl ?_
    refine wp_iload dX6_worksOf_12 rfl ?_
    obtain ⟨q1, h⟩ := h
    refine wp_iald2 (q := 16) (j := x4.toNatClampNeg) dX6_worksOf_14 rfl q1 rfl ?_
    refine wp_iload_n dX6_worksOf_15 rfl rfl ?_
    refine wp_iand dX6_worksOf_16 ?_
    refine wp_if_eq (tgt := 27) dX6_worksOf_17 (by decide) (fun c => ?_) (fun c => ?_)
    · have h := h.1 c
      refine wp_iinc (Ms := [.ref 16, .int x1, .int x2, .int x3, .int (x4 + (1 : Int32))]) (v := x4 + (1 : Int32)) dX6_worksOf_27 rfl rfl (by decide) rfl ?_
      refine wp_goto (tgt := 5) dX6_worksOf_30 (by decide) ?_
      exact wp_le (Ms := [.ref 16, .int x1, .int x2, .int x3, .int (x4 + (1 : Int32))]) ⟨Or.inr rfl, Or.inr rfl, Or.inr rfl, Or.inr rfl, Or.inr rfl, trivial⟩ h
    · have h := h.2 c
      refine wp_iload_n dX6_worksOf_20 rfl rfl ?_
      refine wp_iconst (v := (1 : Int32)) dX6_worksOf_21 (by decide) ?_
      refine wp_iload dX6_worksOf_22 rfl ?_
      refine wp_ishl dX6_worksOf_24 ?_
      refine wp_ior dX6_worksOf_25 ?_
      refine wp_istore_n (Ms := [.ref 16, .int x1, .int x2, .int (x3 ||| ((1 : Int32) <<< (x4 &&& (31 : Int32)))), .int x4]) dX6_worksOf_26 rfl (by decide) rfl ?_
      refine wp_iinc (Ms := [.ref 16, .int x1, .int x2, .int (x3 ||| ((1 : Int32) <<< (x4 &&& (31 : Int32)))), .int (x4 + (1 : Int32))]) (v := x4 + (1 : Int32)) dX6_worksOf_27 rfl rfl (by decide) rfl ?_
      refine wp_goto (tgt := 5) dX6_worksOf_30 (by decide) ?_
      exact wp_le (Ms := [.ref 16, .int x1, .int x2, .int (x3 ||| ((1 : Int32) <<< (x4 &&& (31 : Int32)))), .int (x4 + (1 : Int32))]) ⟨Or.inr rfl, Or.inr rfl, Or.inr rfl, Or.inr rfl, Or.inr rfl, trivial⟩ h
abbrev wX6_worksOf_33 (P : Int32 → St → Prop) (pc : Nat) (Ls stk : List Value) (S : St) : Prop := Wp cX6_worksOf RX6 5 rX6_worksOf (wFI .int P) pc Ls stk (enc S)
abbrev tX6_worksOf_33 (a0 : Int32) (a1 : Int32) (S : St) (P : Int32 → St → Prop) : Prop := wX6_worksOf_33 P 0 (wl_en [.ref 33, .int a0, .int a1] 5) [] S
set_option maxRecDepth 100000 in
theorem bX6_worksOf_33_0 {P : Int32 → St → Prop} {S : St} (a0 : Int32) (a1 : Int32) (h : wX6_worksOf_33 P 5 [.ref 33, .int a0, .int a1, .int (0 : Int32), .int (0 : Int32)] [] S) : tX6_worksOf_33 a0 a1 S P := by
  show wX6_worksOf_33 P 0 [.ref 33, .int a0, .int a1, .retAddr 0, .retAddr 0] [] S
  refine wp_iconst (v := (0 : Int32)) dX6_worksOf_0 (by decide) ?_
  refine wp_istore_n (Ms := [.ref 33, .int a0, .int a1, .int (0 : Int32), .retAddr 0]) dX6_worksOf_1 rfl (by decide) rfl ?_
  refine wp_iconst (v := (0 : Int32)) dX6_worksOf_2 (by decide) ?_
  refine wp_istore (Ms := [.ref 33, .int a0, .int a1, .int (0 : Int32), .int (0 : Int32)]) dX6_worksOf_3 (by decide) rfl ?_
  exact wp_le (Ms := [.ref 33, .int a0, .int a1, .int (0 : Int32), .int (0 : Int32)]) ⟨Or.inr rfl, Or.inr rfl, Or.inr rfl, Or.inr rfl, Or.inr rfl, trivial⟩ h
set_option maxRecDepth 100000 in
theorem bX6_worksOf_33_5 {P : Int32 → St → Prop} {S : St} (x1 : Int32) (x2 : Int32) (x3 : Int32) (x4 : Int32) (h : ((x1 ≤ x4 → P x3 S) ∧ (¬ x1 ≤ x4 → vp_in x4 8 ∧ (((((S.2.2.1 15) x4.toNatClampNeg) &&& x2) = 0 → wX6_worksOf_33 P 5 [.ref 33, .int x1, .int x2, .int x3, .int (x4 + (1 : Int32))] [] S) ∧ (¬ (((S.2.2.1 15) x4.toNatClampNeg) &&& x2) = 0 → wX6_worksOf_33 P 5 [.ref 33, .int x1, .int x2, .int (x3 ||| ((1 : Int32) <<< (x4 &&& (31 : Int32)))), .int (x4 + (1 : Int32))] [] S))))) : wX6_worksOf_33 P 5 [.ref 33, .int x1, .int x2, .int x3, .int x4] [] S := by
  refine wp_iload dX6_worksOf_5 rfl ?_
  refine wp_iload_n dX6_worksOf_7 rfl rfl ?_
  refine wp_icmp_ge (tgt := 33) dX6_worksOf_8 (by decide) (fun c => ?_) (fun c => ?_)
  · have h := h.1 c
    refine wp_iload_n dX6_worksOf_33 rfl rfl ?_
    exact wp_iret dX6_worksOf_34 rfl rfl ⟨_, _, rfl, rfl, h⟩
  · have h := h.2 c
    refine wp_aload_n dX6_worksOf_11 rfl rfl ?_
    refine wp_iload dX6_worksOf_12 rfl ?_
    obtain ⟨q1, h⟩ := h
    refine wp_iald2 (q := 33) (j := x4.toNatClampNeg) dX6_worksOf_14 rfl q1 rfl ?_
    refine wp_iload_n dX6_worksOf_15 rfl rfl ?_
    refine wp_iand dX6_worksOf_16 ?_
    refine wp_if_eq (tgt := 27) dX6_worksOf_17 (by decide) (fun c => ?_) (fun c => ?_)
    · have h := h.1 c
      refine wp_iinc (Ms := [.ref 33, .int x1, .int x2, .int x3, .int (x4 + (1 : Int32))]) (v := x4 + (1 : Int32)) dX6_worksOf_27 rfl rfl (by decide) rfl ?_
      refine wp_goto (tgt := 5) dX6_worksOf_30 (by decide) ?_
      exact wp_le (Ms := [.ref 33, .int x1, .int x2, .int x3, .int (x4 + (1 : Int32))]) ⟨Or.inr rfl, Or.inr rfl, Or.inr rfl, Or.inr rfl, Or.inr rfl, trivial⟩ h
    · have h := h.2 c
      refine wp_iload_n dX6_worksOf_20 rfl rfl ?_
      refine wp_iconst (v := (1 : Int32)) dX6_worksOf_21 (by decide) ?_
      refine wp_iload dX6_worksOf_22 rfl ?_
      refine wp_ishl dX6_worksOf_24 ?_
      refine wp_ior dX6_worksOf_25 ?_
      refine wp_istore_n (Ms := [.ref 33, .int x1, .int x2, .int (x3 ||| ((1 : Int32) <<< (x4 &&& (31 : Int32)))), .int x4]) dX6_worksOf_26 rfl (by decide) rfl ?_
      refine wp_iinc (Ms := [.ref 33, .int x1, .int x2, .int (x3 ||| ((1 : Int32) <<< (x4 &&& (31 : Int32)))), .int (x4 + (1 : Int32))]) (v := x4 + (1 : Int32)) dX6_worksOf_27 rfl rfl (by decide) rfl ?_
      refine wp_goto (tgt := 5) dX6_worksOf_30 (by decide) ?_
      exact wp_le (Ms := [.ref 33, .int x1, .int x2, .int (x3 ||| ((1 : Int32) <<< (x4 &&& (31 : Int32)))), .int (x4 + (1 : Int32))]) ⟨Or.inr rfl, Or.inr rfl, Or.inr rfl, Or.inr rfl, Or.inr rfl, trivial⟩ h
abbrev rX6_tiedWorks : Room := { frames := 2, cells := 0, slots := 0, locals := 45 }
abbrev wX6_tiedWorks_16 (P : Int32 → St → Prop) (pc : Nat) (Ls stk : List Value) (S : St) : Prop := Wp cX6_tiedWorks RX6 6 rX6_tiedWorks (wFI .int P) pc Ls stk (enc S)
abbrev tX6_tiedWorks_16 (a0 : Int32) (a1 : Int32) (S : St) (P : Int32 → St → Prop) : Prop := wX6_tiedWorks_16 P 0 (wl_en [.ref 16, .int a0, .int a1] 6) [] S
set_option maxRecDepth 100000 in
theorem bX6_tiedWorks_16_0 {P : Int32 → St → Prop} {S : St} (a0 : Int32) (a1 : Int32) (h : wX6_tiedWorks_16 P 7 [.ref 16, .int a0, .int a1, .int ((1 : Int32) <<< (a1 &&& (31 : Int32))), .int (0 : Int32), .retAddr 0] [] S) : tX6_tiedWorks_16 a0 a1 S P := by
  show wX6_tiedWorks_16 P 0 [.ref 16, .int a0, .int a1, .retAddr 0, .retAddr 0, .retAddr 0] [] S
  refine wp_iconst (v := (1 : Int32)) dX6_tiedWorks_0 (by decide) ?_
  refine wp_iload_n dX6_tiedWorks_1 rfl rfl ?_
  refine wp_ishl dX6_tiedWorks_2 ?_
  refine wp_istore_n (Ms := [.ref 16, .int a0, .int a1, .int ((1 : Int32) <<< (a1 &&& (31 : Int32))), .retAddr 0, .retAddr 0]) dX6_tiedWorks_3 rfl (by decide) rfl ?_
  refine wp_iconst (v := (0 : Int32)) dX6_tiedWorks_4 (by decide) ?_
  refine wp_istore (Ms := [.ref 16, .int a0, .int a1, .int ((1 : Int32) <<< (a1 &&& (31 : Int32))), .int (0 : Int32), .retAddr 0]) dX6_tiedWorks_5 (by decide) rfl ?_
  exact wp_le (Ms := [.ref 16, .int a0, .int a1, .int ((1 : Int32) <<< (a1 &&& (31 : Int32))), .int (0 : Int32), .retAddr 0]) ⟨Or.inr rfl, Or.inr rfl, Or.inr rfl, Or.inr rfl, Or.inr rfl, Or.inl rfl, trivial⟩ h
set_option maxRecDepth 100000 in
theorem bX6_tiedWorks_16_7 {P : Int32 → St → Prop} {S : St} (x1 : Int32) (x2 : Int32) (x3 : Int32) (x4 : Int32) (h : ((x1 ≤ x4 → P x3 S) ∧ (¬ x1 ≤ x4 → tX6_markersOf_16 x1 x3 S (fun r2 S1 => tX6_worksOf_16 x1 r2 S1 (fun r4 S3 => ((¬ (r4 ||| x3) = x3 → wX6_tiedWorks_16 P 7 [.ref 16, .int x1, .int x2, .int (r4 ||| x3), .int (x4 + (1 : Int32)), .retAddr 0] [] S3) ∧ ((r4 ||| x3) = x3 → P x3 S3))))))) : wX6_tiedWorks_16 P 7 [.ref 16, .int x1, .int x2, .int x3, .int x4, .retAddr 0] [] S := by
  refine wp_iload dX6_tiedWorks_7 rfl ?_
  refine wp_iload_n dX6_tiedWorks_9 rfl rfl ?_
  refine wp_icmp_ge (tgt := 46) dX6_tiedWorks_10 (by decide) (fun c => ?_) (fun c => ?_)
  · have h := h.1 c
    refine wp_iload_n dX6_tiedWorks_46 rfl rfl ?_
    exact wp_iret dX6_tiedWorks_47 rfl rfl ⟨_, _, rfl, rfl, h⟩
  · have h := h.2 c
    refine wp_aload_n dX6_tiedWorks_13 rfl rfl ?_
    refine wp_iload_n dX6_tiedWorks_14 rfl rfl ?_
    refine wp_aload_n dX6_tiedWorks_15 rfl rfl ?_
    refine wp_iload_n dX6_tiedWorks_16 rfl rfl ?_
    refine wp_iload_n dX6_tiedWorks_17 rfl rfl ?_
    refine wp_callS (As := [.ref 16, .int x1, .int x3]) (rest := [.int x1, .ref 16]) dX6_tiedWorks_18 mX6_markersOf lX6_185 (by decide) rfl rfl (Nat.le_of_ble_eq_true rfl) (Nat.le_of_ble_eq_true rfl) h ?_
    rintro rv mh2 ⟨r2, S1, rfl, rfl, h⟩
    refine wp_callS (As := [.ref 16, .int x1, .int r2]) (rest := []) dX6_tiedWorks_21 mX6_worksOf lX6_189 (by decide) rfl rfl (Nat.le_of_ble_eq_true rfl) (Nat.le_of_ble_eq_true rfl) h ?_
    rintro rv mh2 ⟨r4, S3, rfl, rfl, h⟩
    refine wp_iload_n dX6_tiedWorks_24 rfl rfl ?_
    refine wp_ior dX6_tiedWorks_25 ?_
    refine wp_istore (Ms := [.ref 16, .int x1, .int x2, .int x3, .int x4, .int (r4 ||| x3)]) dX6_tiedWorks_26 (by decide) rfl ?_
    refine wp_iload dX6_tiedWorks_28 rfl ?_
    refine wp_iload_n dX6_tiedWorks_30 rfl rfl ?_
    refine wp_icmp_ne (tgt := 37) dX6_tiedWorks_31 (by decide) (fun c => ?_) (fun c => ?_)
    · have h := h.1 c
      refine wp_iload dX6_tiedWorks_37 rfl ?_
      refine wp_istore_n (Ms := [.ref 16, .int x1, .int x2, .int (r4 ||| x3), .int x4, .int (r4 ||| x3)]) dX6_tiedWorks_39 rfl (by decide) rfl ?_
      refine wp_iinc (Ms := [.ref 16, .int x1, .int x2, .int (r4 ||| x3), .int (x4 + (1 : Int32)), .int (r4 ||| x3)]) (v := x4 + (1 : Int32)) dX6_tiedWorks_40 rfl rfl (by decide) rfl ?_
      refine wp_goto (tgt := 7) dX6_tiedWorks_43 (by decide) ?_
      exact wp_le (Ms := [.ref 16, .int x1, .int x2, .int (r4 ||| x3), .int (x4 + (1 : Int32)), .retAddr 0]) ⟨Or.inr rfl, Or.inr rfl, Or.inr rfl, Or.inr rfl, Or.inr rfl, Or.inl rfl, trivial⟩ h
    · have h := h.2 c
      refine wp_goto (tgt := 46) dX6_tiedWorks_34 (by decide) ?_
      refine wp_iload_n dX6_tiedWorks_46 rfl rfl ?_
      exact wp_iret dX6_tiedWorks_47 rfl rfl ⟨_, _, rfl, rfl, h⟩
abbrev wX6_tiedWorks_33 (P : Int32 → St → Prop) (pc : Nat) (Ls stk : List Value) (S : St) : Prop := Wp cX6_tiedWorks RX6 6 rX6_tiedWorks (wFI .int P) pc Ls stk (enc S)
abbrev tX6_tiedWorks_33 (a0 : Int32) (a1 : Int32) (S : St) (P : Int32 → St → Prop) : Prop := wX6_tiedWorks_33 P 0 (wl_en [.ref 33, .int a0, .int a1] 6) [] S
set_option maxRecDepth 100000 in
theorem bX6_tiedWorks_33_0 {P : Int32 → St → Prop} {S : St} (a0 : Int32) (a1 : Int32) (h : wX6_tiedWorks_33 P 7 [.ref 33, .int a0, .int a1, .int ((1 : Int32) <<< (a1 &&& (31 : Int32))), .int (0 : Int32), .retAddr 0] [] S) : tX6_tiedWorks_33 a0 a1 S P := by
  show wX6_tiedWorks_33 P 0 [.ref 33, .int a0, .int a1, .retAddr 0, .retAddr 0, .retAddr 0] [] S
  refine wp_iconst (v := (1 : Int32)) dX6_tiedWorks_0 (by decide) ?_
  refine wp_iload_n dX6_tiedWorks_1 rfl rfl ?_
  refine wp_ishl dX6_tiedWorks_2 ?_
  refine wp_istore_n (Ms := [.ref 33, .int a0, .int a1, .int ((1 : Int32) <<< (a1 &&& (31 : Int32))), .retAddr 0, .retAddr 0]) dX6_tiedWorks_3 rfl (by decide) rfl ?_
  refine wp_iconst (v := (0 : Int32)) dX6_tiedWorks_4 (by decide) ?_
  refine wp_istore (Ms := [.ref 33, .int a0, .int a1, .int ((1 : Int32) <<< (a1 &&& (31 : Int32))), .int (0 : Int32), .retAddr 0]) dX6_tiedWorks_5 (by decide) rfl ?_
  exact wp_le (Ms := [.ref 33, .int a0, .int a1, .int ((1 : Int32) <<< (a1 &&& (31 : Int32))), .int (0 : Int32), .retAddr 0]) ⟨Or.inr rfl, Or.inr rfl, Or.inr rfl, Or.inr rfl, Or.inr rfl, Or.inl rfl, trivial⟩ h
set_option maxRecDepth 100000 in
theorem bX6_tiedWorks_33_7 {P : Int32 → St → Prop} {S : St} (x1 : Int32) (x2 : Int32) (x3 : Int32) (x4 : Int32) (h : ((x1 ≤ x4 → P x3 S) ∧ (¬ x1 ≤ x4 → tX6_markersOf_33 x1 x3 S (fun r2 S1 => tX6_worksOf_33 x1 r2 S1 (fun r4 S3 => ((¬ (r4 ||| x3) = x3 → wX6_tiedWorks_33 P 7 [.ref 33, .int x1, .int x2, .int (r4 ||| x3), .int (x4 + (1 : Int32)), .retAddr 0] [] S3) ∧ ((r4 ||| x3) = x3 → P x3 S3))))))) : wX6_tiedWorks_33 P 7 [.ref 33, .int x1, .int x2, .int x3, .int x4, .retAddr 0] [] S := by
  refine wp_iload dX6_tiedWorks_7 rfl ?_
  refine wp_iload_n dX6_tiedWorks_9 rfl rfl ?_
  refine wp_icmp_ge (tgt := 46) dX6_tiedWorks_10 (by decide) (fun c => ?_) (fun c => ?_)
  · have h := h.1 c
    refine wp_iload_n dX6_tiedWorks_46 rfl rfl ?_
    exact wp_iret dX6_tiedWorks_47 rfl rfl ⟨_, _, rfl, rfl, h⟩
  · have h := h.2 c
    refine wp_aload_n dX6_tiedWorks_13 rfl rfl ?_
    refine wp_iload_n dX6_tiedWorks_14 rfl rfl ?_
    refine wp_aload_n dX6_tiedWorks_15 rfl rfl ?_
    refine wp_iload_n dX6_tiedWorks_16 rfl rfl ?_
    refine wp_iload_n dX6_tiedWorks_17 rfl rfl ?_
    refine wp_callS (As := [.ref 33, .int x1, .int x3]) (rest := [.int x1, .ref 33]) dX6_tiedWorks_18 mX6_markersOf lX6_185 (by decide) rfl rfl (Nat.le_of_ble_eq_true rfl) (Nat.le_of_ble_eq_true rfl) h ?_
    rintro rv mh2 ⟨r2, S1, rfl, rfl, h⟩
    refine wp_callS (As := [.ref 33, .int x1, .int r2]) (rest := []) dX6_tiedWorks_21 mX6_worksOf lX6_189 (by decide) rfl rfl (Nat.le_of_ble_eq_true rfl) (Nat.le_of_ble_eq_true rfl) h ?_
    rintro rv mh2 ⟨r4, S3, rfl, rfl, h⟩
    refine wp_iload_n dX6_tiedWorks_24 rfl rfl ?_
    refine wp_ior dX6_tiedWorks_25 ?_
    refine wp_istore (Ms := [.ref 33, .int x1, .int x2, .int x3, .int x4, .int (r4 ||| x3)]) dX6_tiedWorks_26 (by decide) rfl ?_
    refine wp_iload dX6_tiedWorks_28 rfl ?_
    refine wp_iload_n dX6_tiedWorks_30 rfl rfl ?_
    refine wp_icmp_ne (tgt := 37) dX6_tiedWorks_31 (by decide) (fun c => ?_) (fun c => ?_)
    · have h := h.1 c
      refine wp_iload dX6_tiedWorks_37 rfl ?_
      refine wp_istore_n (Ms := [.ref 33, .int x1, .int x2, .int (r4 ||| x3), .int x4, .int (r4 ||| x3)]) dX6_tiedWorks_39 rfl (by decide) rfl ?_
      refine wp_iinc (Ms := [.ref 33, .int x1, .int x2, .int (r4 ||| x3), .int (x4 + (1 : Int32)), .int (r4 ||| x3)]) (v := x4 + (1 : Int32)) dX6_tiedWorks_40 rfl rfl (by decide) rfl ?_
      refine wp_goto (tgt := 7) dX6_tiedWorks_43 (by decide) ?_
      exact wp_le (Ms := [.ref 33, .int x1, .int x2, .int (r4 ||| x3), .int (x4 + (1 : Int32)), .retAddr 0]) ⟨Or.inr rfl, Or.inr rfl, Or.inr rfl, Or.inr rfl, Or.inr rfl, Or.inl rfl, trivial⟩ h
    · have h := h.2 c
      refine wp_goto (tgt := 46) dX6_tiedWorks_34 (by decide) ?_
      refine wp_iload_n dX6_tiedWorks_46 rfl rfl ?_
      exact wp_iret dX6_tiedWorks_47 rfl rfl ⟨_, _, rfl, rfl, h⟩
abbrev rX4_refresh : Room := { frames := 3, cells := 0, slots := 0, locals := 70 }
abbrev wX4_refresh (P : St → Prop) (pc : Nat) (Ls stk : List Value) (S : St) : Prop := Wp cX4_refresh RX4 3 rX4_refresh (wFV P) pc Ls stk (enc S)
abbrev tX4_refresh  (S : St) (P : St → Prop) : Prop := wX4_refresh P 0 (wl_en [.ref 20] 3) [] S
set_option maxRecDepth 100000 in
theorem bX4_refresh_0 {P : St → Prop} {S : St}  (h : (((S.1 4) = 0 → wX4_refresh P 15 [.ref 20, .int (0 : Int32), .retAddr 0] [] (sI S 4 (1 : Int32))) ∧ (¬ (S.1 4) = 0 → P S))) : tX4_refresh  S P := by
  show wX4_refresh P 0 [.ref 20, .retAddr 0, .retAddr 0] [] S
  refine wp_aload_n dX4_refresh_0 rfl rfl ?_
  refine wp_get (q := 20) dX4_refresh_1 fX4_48 rfl rfl ?_
  refine wp_if_eq (tgt := 8) dX4_refresh_4 (by decide) (fun c => ?_) (fun c => ?_)
  · have h := h.1 c
    refine wp_aload_n dX4_refresh_8 rfl rfl ?_
    refine wp_iconst (v := (1 : Int32)) dX4_refresh_9 (by decide) ?_
    refine wp_put (q := 20) (mh2 := enc (sI S 4 (1 : Int32))) dX4_refresh_10 fX4_48 (by decide) rfl (Nat.le_of_ble_eq_true rfl) (fun _ _ => rfl) rfl rfl (eo_20_12 _ _) ?_
    refine wp_iconst (v := (0 : Int32)) dX4_refresh_13 (by decide) ?_
    refine wp_istore_n (Ms := [.ref 20, .int (0 : Int32), .retAddr 0]) dX4_refresh_14 rfl (by decide) rfl ?_
    exact wp_le (Ms := [.ref 20, .int (0 : Int32), .retAddr 0]) ⟨Or.inr rfl, Or.inr rfl, Or.inl rfl, trivial⟩ h
  · have h := h.2 c
    exact wp_vret dX4_refresh_7 rfl ⟨_, rfl, rfl, h⟩
set_option maxRecDepth 100000 in
theorem bX4_refresh_15 {P : St → Prop} {S : St} (x1 : Int32) (h : (((S.1 0) ≤ x1 → wX4_refresh P 55 [.ref 20, .int (0 : Int32), .int (0 : Int32)] [] (sI S 3 (0 : Int32))) ∧ (¬ (S.1 0) ≤ x1 → tX2_whoMarked x1 S (fun r2 S1 => vp_in x1 8 ∧ wX4_refresh P 15 [.ref 20, .int (x1 + (1 : Int32)), .retAddr 0] [] (sA S1 15 (upd (S1.2.2.1 15) x1.toNatClampNeg r2)))))) : wX4_refresh P 15 [.ref 20, .int x1, .retAddr 0] [] S := by
  refine wp_iload_n dX4_refresh_15 rfl rfl ?_
  refine wp_aload_n dX4_refresh_16 rfl rfl ?_
  refine wp_get (q := 20) dX4_refresh_17 fX4_52 rfl rfl ?_
  refine wp_get (q := 1) dX4_refresh_20 fX4_85 rfl rfl ?_
  refine wp_icmp_ge (tgt := 46) dX4_refresh_23 (by decide) (fun c => ?_) (fun c => ?_)
  · have h := h.1 c
    refine wp_aload_n dX4_refresh_46 rfl rfl ?_
    refine wp_iconst (v := (0 : Int32)) dX4_refresh_47 (by decide) ?_
    refine wp_put (q := 20) (mh2 := enc (sI S 3 (0 : Int32))) dX4_refresh_48 fX4_44 (by decide) rfl (Nat.le_of_ble_eq_true rfl) (fun _ _ => rfl) rfl rfl (eo_20_11 _ _) ?_
    refine wp_iconst (v := (0 : Int32)) dX4_refresh_51 (by decide) ?_
    refine wp_istore_n (Ms := [.ref 20, .int (0 : Int32), .retAddr 0]) dX4_refresh_52 rfl (by decide) rfl ?_
    refine wp_iconst (v := (0 : Int32)) dX4_refresh_53 (by decide) ?_
    refine wp_istore_n (Ms := [.ref 20, .int (0 : Int32), .int (0 : Int32)]) dX4_refresh_54 rfl (by decide) rfl ?_
    exact wp_le (Ms := [.ref 20, .int (0 : Int32), .int (0 : Int32)]) ⟨Or.inr rfl, Or.inr rfl, Or.inr rfl, trivial⟩ h
  · have h := h.2 c
    refine wp_aload_n dX4_refresh_26 rfl rfl ?_
    refine wp_get (q := 20) dX4_refresh_27 fX4_18 rfl rfl ?_
    refine wp_iload_n dX4_refresh_30 rfl rfl ?_
    refine wp_aload_n dX4_refresh_31 rfl rfl ?_
    refine wp_get (q := 20) dX4_refresh_32 fX4_56 rfl rfl ?_
    refine wp_iload_n dX4_refresh_35 rfl rfl ?_
    refine wp_callV (q := 4) (As := [.int x1]) (rest := [.int x1, .ref 33]) dX4_refresh_36 mX2_whoMarked lX4_90 (by decide) rfl rfl rfl rfl (Nat.le_of_ble_eq_true rfl) (Nat.le_of_ble_eq_true rfl) h ?_
    rintro rv mh2 ⟨r2, S1, rfl, rfl, h⟩
    obtain ⟨q3, h⟩ := h
    refine wp_iast2 (q := 33) (j := x1.toNatClampNeg) (mh2 := enc (sA S1 15 (upd (S1.2.2.1 15) x1.toNatClampNeg r2))) dX4_refresh_39 rfl q3 rfl (es_33 _ _) ?_
    refine wp_iinc (Ms := [.ref 20, .int (x1 + (1 : Int32)), .retAddr 0]) (v := x1 + (1 : Int32)) dX4_refresh_40 rfl rfl (by decide) rfl ?_
    refine wp_goto (tgt := 15) dX4_refresh_43 (by decide) ?_
    exact wp_le (Ms := [.ref 20, .int (x1 + (1 : Int32)), .retAddr 0]) ⟨Or.inr rfl, Or.inr rfl, Or.inl rfl, trivial⟩ h
set_option maxRecDepth 100000 in
theorem bX4_refresh_55 {P : St → Prop} {S : St} (x1 : Int32) (x2 : Int32) (h : (((S.1 0) ≤ x2 → P S) ∧ (¬ (S.1 0) ≤ x2 → vp_in x2 8 ∧ ((((S.2.2.1 15) x2.toNatClampNeg) = 0 → wX4_refresh P 55 [.ref 20, .int x1, .int (x2 + (1 : Int32))] [] S) ∧ (¬ ((S.2.2.1 15) x2.toNatClampNeg) = 0 → tX6_has x1 x2 S (fun r3 S2 => ((¬ r3 = 0 → wX4_refresh P 55 [.ref 20, .int x1, .int (x2 + (1 : Int32))] [] S2) ∧ (r3 = 0 → tX6_tiedWorks_33 (S2.1 0) x2 S2 (fun r5 S4 => vp_in (S2.1 3) 8 ∧ vp_in (S4.1 3) 8 ∧ tX6_markersOf_33 (S4.1 0) ((upd (S4.2.2.1 16) (S2.1 3).toNatClampNeg r5) (S4.1 3).toNatClampNeg) (sA S4 16 (upd (S4.2.2.1 16) (S2.1 3).toNatClampNeg r5)) (fun r9 S8 => vp_in (S8.1 3) 8 ∧ wX4_refresh P 55 [.ref 20, .int (x1 ||| ((S8.2.2.1 16) (S8.1 3).toNatClampNeg)), .int (x2 + (1 : Int32))] [] (sI (sB (sA S8 17 (upd (S8.2.2.1 17) (S4.1 3).toNatClampNeg r9)) 0 (vp_updL (S8.2.2.2 0) (S8.1 3).toNatClampNeg (0 : Int64))) 3 ((S8.1 3) + (1 : Int32))))))))))))) : wX4_refresh P 55 [.ref 20, .int x1, .int x2] [] S := by
  refine wp_iload_n dX4_refresh_55 rfl rfl ?_
  refine wp_aload_n dX4_refresh_56 rfl rfl ?_
  refine wp_get (q := 20) dX4_refresh_57 fX4_52 rfl rfl ?_
  refine wp_get (q := 1) dX4_refresh_60 fX4_85 rfl rfl ?_
  refine wp_icmp_ge (tgt := 177) dX4_refresh_63 (by decide) (fun c => ?_) (fun c => ?_)
  · have h := h.1 c
    exact wp_vret dX4_refresh_177 rfl ⟨_, rfl, rfl, h⟩
  · have h := h.2 c
    refine wp_aload_n dX4_refresh_66 rfl rfl ?_
    refine wp_get (q := 20) dX4_refresh_67 fX4_18 rfl rfl ?_
    refine wp_iload_n dX4_refresh_70 rfl rfl ?_
    obtain ⟨q1, h⟩ := h
    refine wp_iald2 (q := 33) (j := x2.toNatClampNeg) dX4_refresh_71 rfl q1 rfl ?_
    refine wp_if_eq (tgt := 171) dX4_refresh_72 (by decide) (fun c => ?_) (fun c => ?_)
    · have h := h.1 c
      refine wp_iinc (Ms := [.ref 20, .int x1, .int (x2 + (1 : Int32))]) (v := x2 + (1 : Int32)) dX4_refresh_171 rfl rfl (by decide) rfl ?_
      refine wp_goto (tgt := 55) dX4_refresh_174 (by decide) ?_
      exact wp_le (Ms := [.ref 20, .int x1, .int (x2 + (1 : Int32))]) ⟨Or.inr rfl, Or.inr rfl, Or.inr rfl, trivial⟩ h
    · have h := h.2 c
      refine wp_iload_n dX4_refresh_75 rfl rfl ?_
      refine wp_iload_n dX4_refresh_76 rfl rfl ?_
      refine wp_callN (As := [.int x1, .int x2]) (rest := []) dX4_refresh_77 mX6_has lX4_71 (by decide) rfl rfl (Nat.le_of_ble_eq_true rfl) (Nat.le_of_ble_eq_true rfl) h ?_
      rintro rv mh2 ⟨r3, S2, rfl, rfl, h⟩
      refine wp_if_ne (tgt := 171) dX4_refresh_80 (by decide) (fun c => ?_) (fun c => ?_)
      · have h := h.1 c
        refine wp_iinc (Ms := [.ref 20, .int x1, .int (x2 + (1 : Int32))]) (v := x2 + (1 : Int32)) dX4_refresh_171 rfl rfl (by decide) rfl ?_
        refine wp_goto (tgt := 55) dX4_refresh_174 (by decide) ?_
        exact wp_le (Ms := [.ref 20, .int x1, .int (x2 + (1 : Int32))]) ⟨Or.inr rfl, Or.inr rfl, Or.inr rfl, trivial⟩ h
      · have h := h.2 c
        refine wp_aload_n dX4_refresh_83 rfl rfl ?_
        refine wp_get (q := 20) dX4_refresh_84 fX4_22 rfl rfl ?_
        refine wp_aload_n dX4_refresh_87 rfl rfl ?_
        refine wp_get (q := 20) dX4_refresh_88 fX4_44 rfl rfl ?_
        refine wp_aload_n dX4_refresh_91 rfl rfl ?_
        refine wp_get (q := 20) dX4_refresh_92 fX4_18 rfl rfl ?_
        refine wp_aload_n dX4_refresh_95 rfl rfl ?_
        refine wp_get (q := 20) dX4_refresh_96 fX4_52 rfl rfl ?_
        refine wp_get (q := 1) dX4_refresh_99 fX4_85 rfl rfl ?_
        refine wp_iload_n dX4_refresh_102 rfl rfl ?_
        refine wp_callN (As := [.ref 33, .int (S2.1 0), .int x2]) (rest := [.int (S2.1 3), .ref 34]) dX4_refresh_103 mX6_tiedWorks lX4_95 (by decide) rfl rfl (Nat.le_of_ble_eq_true rfl) (Nat.le_of_ble_eq_true rfl) h ?_
        rintro rv mh2 ⟨r5, S4, rfl, rfl, h⟩
        obtain ⟨q6, h⟩ := h
        refine wp_iast2 (q := 34) (j := (S2.1 3).toNatClampNeg) (mh2 := enc (sA S4 16 (upd (S4.2.2.1 16) (S2.1 3).toNatClampNeg r5))) dX4_refresh_106 rfl q6 rfl (es_34 _ _) ?_
        refine wp_aload_n dX4_refresh_107 rfl rfl ?_
        refine wp_get (q := 20) dX4_refresh_108 fX4_25 rfl rfl ?_
        refine wp_aload_n dX4_refresh_111 rfl rfl ?_
        refine wp_get (q := 20) dX4_refresh_112 fX4_44 rfl rfl ?_
        refine wp_aload_n dX4_refresh_115 rfl rfl ?_
        refine wp_get (q := 20) dX4_refresh_116 fX4_18 rfl rfl ?_
        refine wp_aload_n dX4_refresh_119 rfl rfl ?_
        refine wp_get (q := 20) dX4_refresh_120 fX4_52 rfl rfl ?_
        refine wp_get (q := 1) dX4_refresh_123 fX4_85 rfl rfl ?_
        refine wp_aload_n dX4_refresh_126 rfl rfl ?_
        refine wp_get (q := 20) dX4_refresh_127 fX4_22 rfl rfl ?_
        refine wp_aload_n dX4_refresh_130 rfl rfl ?_
        refine wp_get (q := 20) dX4_refresh_131 fX4_44 rfl rfl ?_
        obtain ⟨q7, h⟩ := h
        refine wp_iald2 (q := 34) (j := (S4.1 3).toNatClampNeg) dX4_refresh_134 rfl q7 rfl ?_
        refine wp_callN (As := [.ref 33, .int (S4.1 0), .int ((upd (S4.2.2.1 16) (S2.1 3).toNatClampNeg r5) (S4.1 3).toNatClampNeg)]) (rest := [.int (S4.1 3), .ref 35]) dX4_refresh_135 mX6_markersOf lX4_99 (by decide) rfl rfl (Nat.le_of_ble_eq_true rfl) (Nat.le_of_ble_eq_true rfl) h ?_
        rintro rv mh2 ⟨r9, S8, rfl, rfl, h⟩
        refine wp_iast2 (q := 35) (j := (S4.1 3).toNatClampNeg) (mh2 := enc (sA S8 17 (upd (S8.2.2.1 17) (S4.1 3).toNatClampNeg r9))) dX4_refresh_138 rfl q7 rfl (es_35 _ _) ?_
        refine wp_aload_n dX4_refresh_139 rfl rfl ?_
        refine wp_get (q := 20) dX4_refresh_140 fX4_28 rfl rfl ?_
        refine wp_aload_n dX4_refresh_143 rfl rfl ?_
        refine wp_get (q := 20) dX4_refresh_144 fX4_44 rfl rfl ?_
        refine wp_lconst (v := (0 : Int64)) dX4_refresh_147 (by decide) ?_
        obtain ⟨q10, h⟩ := h
        refine wp_last2 (q := 36) (j := (S8.1 3).toNatClampNeg) (mh2 := enc (sB (sA S8 17 (upd (S8.2.2.1 17) (S4.1 3).toNatClampNeg r9)) 0 (vp_updL (S8.2.2.2 0) (S8.1 3).toNatClampNeg (0 : Int64)))) dX4_refresh_148 rfl q10 rfl (es_36 _ _) ?_
        refine wp_iload_n dX4_refresh_149 rfl rfl ?_
        refine wp_aload_n dX4_refresh_150 rfl rfl ?_
        refine wp_get (q := 20) dX4_refresh_151 fX4_22 rfl rfl ?_
        refine wp_aload_n dX4_refresh_154 rfl rfl ?_
        refine wp_get (q := 20) dX4_refresh_155 fX4_44 rfl rfl ?_
        refine wp_iald2 (q := 34) (j := (S8.1 3).toNatClampNeg) dX4_refresh_158 rfl q10 rfl ?_
        refine wp_ior dX4_refresh_159 ?_
        refine wp_istore_n (Ms := [.ref 20, .int (x1 ||| ((S8.2.2.1 16) (S8.1 3).toNatClampNeg)), .int x2]) dX4_refresh_160 rfl (by decide) rfl ?_
        refine wp_aload_n dX4_refresh_161 rfl rfl ?_
        refine wp_dup dX4_refresh_162 rfl ?_
        refine wp_get (q := 20) dX4_refresh_163 fX4_44 rfl rfl ?_
        refine wp_iconst (v := (1 : Int32)) dX4_refresh_166 (by decide) ?_
        refine wp_iadd dX4_refresh_167 ?_
        refine wp_put (q := 20) (mh2 := enc (sI (sB (sA S8 17 (upd (S8.2.2.1 17) (S4.1 3).toNatClampNeg r9)) 0 (vp_updL (S8.2.2.2 0) (S8.1 3).toNatClampNeg (0 : Int64))) 3 ((S8.1 3) + (1 : Int32)))) dX4_refresh_168 fX4_44 (by decide) rfl (Nat.le_of_ble_eq_true rfl) (fun _ _ => rfl) rfl rfl (eo_20_11 _ _) ?_
        refine wp_iinc (Ms := [.ref 20, .int (x1 ||| ((S8.2.2.1 16) (S8.1 3).toNatClampNeg)), .int (x2 + (1 : Int32))]) (v := x2 + (1 : Int32)) dX4_refresh_171 rfl rfl (by decide) rfl ?_
        refine wp_goto (tgt := 55) dX4_refresh_174 (by decide) ?_
        exact wp_le (Ms := [.ref 20, .int (x1 ||| ((S8.2.2.1 16) (S8.1 3).toNatClampNeg)), .int (x2 + (1 : Int32))]) ⟨Or.inr rfl, Or.inr rfl, Or.inr rfl, trivial⟩ h
abbrev rX4_howMany : Room := { frames := 4, cells := 0, slots := 0, locals := 92 }
abbrev wX4_howMany (P : Int32 → St → Prop) (pc : Nat) (Ls stk : List Value) (S : St) : Prop := Wp cX4_howMany RX4 1 rX4_howMany (wFI .int P) pc Ls stk (enc S)
abbrev tX4_howMany  (S : St) (P : Int32 → St → Prop) : Prop := wX4_howMany P 0 (wl_en [.ref 20] 1) [] S
set_option maxRecDepth 100000 in
theorem bX4_howMany_0 {P : Int32 → St → Prop} {S : St}  (h : tX4_refresh  S (fun S1 => P (S1.1 3) S1)) : tX4_howMany  S P := by
  show wX4_howMany P 0 [.ref 20] [] S
  refine wp_aload_n dX4_howMany_0 rfl rfl ?_
  refine wp_callV (q := 20) (As := []) (rest := []) dX4_howMany_1 mX4_refresh lX4_60 (by decide) rfl rfl rfl rfl (Nat.le_of_ble_eq_true rfl) (Nat.le_of_ble_eq_true rfl) h ?_
  rintro rv mh2 ⟨S1, rfl, rfl, h⟩
  refine wp_aload_n dX4_howMany_4 rfl rfl ?_
  refine wp_get (q := 20) dX4_howMany_5 fX4_44 rfl rfl ?_
  exact wp_iret dX4_howMany_8 rfl rfl ⟨_, _, rfl, rfl, h⟩
abbrev rX4_isLarge : Room := { frames := 1, cells := 0, slots := 0, locals := 20 }
abbrev wX4_isLarge (P : Int32 → St → Prop) (pc : Nat) (Ls stk : List Value) (S : St) : Prop := Wp cX4_isLarge RX4 2 rX4_isLarge (wFI .boolean P) pc Ls stk (enc S)
abbrev tX4_isLarge (a0 : Int32) (S : St) (P : Int32 → St → Prop) : Prop := wX4_isLarge P 0 (wl_en [.ref 20, .int a0] 2) [] S
set_option maxRecDepth 100000 in
theorem bX4_isLarge_0 {P : Int32 → St → Prop} {S : St} (a0 : Int32) (h : vp_in a0 8 ∧ ((((wbc ((S.2.2.1 16) a0.toNatClampNeg)) + (wbc ((S.2.2.1 17) a0.toNatClampNeg))) ≤ (10 : Int32) → P (0 : Int32) S) ∧ (¬ ((wbc ((S.2.2.1 16) a0.toNatClampNeg)) + (wbc ((S.2.2.1 17) a0.toNatClampNeg))) ≤ (10 : Int32) → P (1 : Int32) S))) : tX4_isLarge a0 S P := by
  show wX4_isLarge P 0 [.ref 20, .int a0] [] S
  refine wp_aload_n dX4_isLarge_0 rfl rfl ?_
  refine wp_get (q := 20) dX4_isLarge_1 fX4_22 rfl rfl ?_
  refine wp_iload_n dX4_isLarge_4 rfl rfl ?_
  obtain ⟨q1, h⟩ := h
  refine wp_iald2 (q := 34) (j := a0.toNatClampNeg) dX4_isLarge_5 rfl q1 rfl ?_
  refine wp_bitc dX4_isLarge_6 lX4_79 (by decide) (Nat.le_of_ble_eq_true rfl) ?_
  refine wp_aload_n dX4_isLarge_9 rfl rfl ?_
  refine wp_get (q := 20) dX4_isLarge_10 fX4_25 rfl rfl ?_
  refine wp_iload_n dX4_isLarge_13 rfl rfl ?_
  refine wp_iald2 (q := 35) (j := a0.toNatClampNeg) dX4_isLarge_14 rfl q1 rfl ?_
  refine wp_bitc dX4_isLarge_15 lX4_79 (by decide) (Nat.le_of_ble_eq_true rfl) ?_
  refine wp_iadd dX4_isLarge_18 ?_
  refine wp_bipush (v := (10 : Int32)) dX4_isLarge_19 (by decide) ?_
  refine wp_icmp_le (tgt := 28) dX4_isLarge_21 (by decide) (fun c => ?_) (fun c => ?_)
  · have h := h.1 c
    refine wp_iconst (v := (0 : Int32)) dX4_isLarge_28 (by decide) ?_
    exact wp_iret dX4_isLarge_29 rfl rfl ⟨_, _, rfl, rfl, h⟩
  · have h := h.2 c
    refine wp_iconst (v := (1 : Int32)) dX4_isLarge_24 (by decide) ?_
    refine wp_goto (tgt := 29) dX4_isLarge_25 (by decide) ?_
    exact wp_iret dX4_isLarge_29 rfl rfl ⟨_, _, rfl, rfl, h⟩
abbrev rX4_howManyLarge : Room := { frames := 4, cells := 0, slots := 0, locals := 92 }
abbrev wX4_howManyLarge (P : Int32 → St → Prop) (pc : Nat) (Ls stk : List Value) (S : St) : Prop := Wp cX4_howManyLarge RX4 3 rX4_howManyLarge (wFI .int P) pc Ls stk (enc S)
abbrev tX4_howManyLarge  (S : St) (P : Int32 → St → Prop) : Prop := wX4_howManyLarge P 0 (wl_en [.ref 20] 3) [] S
set_option maxRecDepth 100000 in
theorem bX4_howManyLarge_0 {P : Int32 → St → Prop} {S : St}  (h : tX4_refresh  S (fun S1 => wX4_howManyLarge P 8 [.ref 20, .int (0 : Int32), .int (0 : Int32)] [] S1)) : tX4_howManyLarge  S P := by
  show wX4_howManyLarge P 0 [.ref 20, .retAddr 0, .retAddr 0] [] S
  refine wp_aload_n dX4_howManyLarge_0 rfl rfl ?_
  refine wp_callV (q := 20) (As := []) (rest := []) dX4_howManyLarge_1 mX4_refresh lX4_60 (by decide) rfl rfl rfl rfl (Nat.le_of_ble_eq_true rfl) (Nat.le_of_ble_eq_true rfl) h ?_
  rintro rv mh2 ⟨S1, rfl, rfl, h⟩
  refine wp_iconst (v := (0 : Int32)) dX4_howManyLarge_4 (by decide) ?_
  refine wp_istore_n (Ms := [.ref 20, .int (0 : Int32), .retAddr 0]) dX4_howManyLarge_5 rfl (by decide) rfl ?_
  refine wp_iconst (v := (0 : Int32)) dX4_howManyLarge_6 (by decide) ?_
  refine wp_istore_n (Ms := [.ref 20, .int (0 : Int32), .int (0 : Int32)]) dX4_howManyLarge_7 rfl (by decide) rfl ?_
  exact wp_le (Ms := [.ref 20, .int (0 : Int32), .int (0 : Int32)]) ⟨Or.inr rfl, Or.inr rfl, Or.inr rfl, trivial⟩ h
set_option maxRecDepth 100000 in
theorem bX4_howManyLarge_8 {P : Int32 → St → Prop} {S : St} (x1 : Int32) (x2 : Int32) (h : (((S.1 3) ≤ x2 → P x1 S) ∧ (¬ (S.1 3) ≤ x2 → tX4_isLarge x2 S (fun r2 S1 => ((r2 = 0 → wX4_howManyLarge P 8 [.ref 20, .int x1, .int (x2 + (1 : Int32))] [] S1) ∧ (¬ r2 = 0 → wX4_howManyLarge P 8 [.ref 20, .int (x1 + (1 : Int32)), .int (x2 + (1 : Int32))] [] S1)))))) : wX4_howManyLarge P 8 [.ref 20, .int x1, .int x2] [] S := by
  refine wp_iload_n dX4_howManyLarge_8 rfl rfl ?_
  refine wp_aload_n dX4_howManyLarge_9 rfl rfl ?_
  refine wp_get (q := 20) dX4_howManyLarge_10 fX4_44 rfl rfl ?_
  refine wp_icmp_ge (tgt := 33) dX4_howManyLarge_13 (by decide) (fun c => ?_) (fun c => ?_)
  · have h := h.1 c
    refine wp_iload_n dX4_howManyLarge_33 rfl rfl ?_
    exact wp_iret dX4_howManyLarge_34 rfl rfl ⟨_, _, rfl, rfl, h⟩
  · have h := h.2 c
    refine wp_aload_n dX4_howManyLarge_16 rfl rfl ?_
    refine wp_iload_n dX4_howManyLarge_17 rfl rfl ?_
    refine wp_callV (q := 20) (As := [.int x2]) (rest := []) dX4_howManyLarge_18 mX4_isLarge lX4_63 (by decide) rfl rfl rfl rfl (Nat.le_of_ble_eq_true rfl) (Nat.le_of_ble_eq_true rfl) h ?_
    rintro rv mh2 ⟨r2, S1, rfl, rfl, h⟩
    refine wp_if_eq (tgt := 27) dX4_howManyLarge_21 (by decide) (fun c => ?_) (fun c => ?_)
    · have h := h.1 c
      refine wp_iinc (Ms := [.ref 20, .int x1, .int (x2 + (1 : Int32))]) (v := x2 + (1 : Int32)) dX4_howManyLarge_27 rfl rfl (by decide) rfl ?_
      refine wp_goto (tgt := 8) dX4_howManyLarge_30 (by decide) ?_
      exact wp_le (Ms := [.ref 20, .int x1, .int (x2 + (1 : Int32))]) ⟨Or.inr rfl, Or.inr rfl, Or.inr rfl, trivial⟩ h
    · have h := h.2 c
      refine wp_iinc (Ms := [.ref 20, .int (x1 + (1 : Int32)), .int x2]) (v := x1 + (1 : Int32)) dX4_howManyLarge_24 rfl rfl (by decide) rfl ?_
      refine wp_iinc (Ms := [.ref 20, .int (x1 + (1 : Int32)), .int (x2 + (1 : Int32))]) (v := x2 + (1 : Int32)) dX4_howManyLarge_27 rfl rfl (by decide) rfl ?_
      refine wp_goto (tgt := 8) dX4_howManyLarge_30 (by decide) ?_
      exact wp_le (Ms := [.ref 20, .int (x1 + (1 : Int32)), .int (x2 + (1 : Int32))]) ⟨Or.inr rfl, Or.inr rfl, Or.inr rfl, trivial⟩ h
abbrev rX4_whichHas : Room := { frames := 1, cells := 0, slots := 0, locals := 21 }
abbrev wX4_whichHas_34 (P : Int32 → St → Prop) (pc : Nat) (Ls stk : List Value) (S : St) : Prop := Wp cX4_whichHas RX4 4 rX4_whichHas (wFI .int P) pc Ls stk (enc S)
abbrev tX4_whichHas_34 (a0 : Int32) (S : St) (P : Int32 → St → Prop) : Prop := wX4_whichHas_34 P 0 (wl_en [.ref 20, .ref 34, .int a0] 4) [] S
set_option maxRecDepth 100000 in
theorem bX4_whichHas_34_0 {P : Int32 → St → Prop} {S : St} (a0 : Int32) (h : wX4_whichHas_34 P 2 [.ref 20, .ref 34, .int a0, .int (0 : Int32)] [] S) : tX4_whichHas_34 a0 S P := by
  show wX4_whichHas_34 P 0 [.ref 20, .ref 34, .int a0, .retAddr 0] [] S
  refine wp_iconst (v := (0 : Int32)) dX4_whichHas_0 (by decide) ?_
  refine wp_istore_n (Ms := [.ref 20, .ref 34, .int a0, .int (0 : Int32)]) dX4_whichHas_1 rfl (by decide) rfl ?_
  exact wp_le (Ms := [.ref 20, .ref 34, .int a0, .int (0 : Int32)]) ⟨Or.inr rfl, Or.inr rfl, Or.inr rfl, Or.inr rfl, trivial⟩ h
set_option maxRecDepth 100000 in
theorem bX4_whichHas_34_2 {P : Int32 → St → Prop} {S : St} (x2 : Int32) (x3 : Int32) (h : (((S.1 3) ≤ x3 → P (-1 : Int32) S) ∧ (¬ (S.1 3) ≤ x3 → vp_in x3 8 ∧ tX6_has ((S.2.2.1 16) x3.toNatClampNeg) x2 S (fun r3 S2 => ((r3 = 0 → wX4_whichHas_34 P 2 [.ref 20, .ref 34, .int x2, .int (x3 + (1 : Int32))] [] S2) ∧ (¬ r3 = 0 → P x3 S2)))))) : wX4_whichHas_34 P 2 [.ref 20, .ref 34, .int x2, .int x3] [] S := by
  refine wp_iload_n dX4_whichHas_2 rfl rfl ?_
  refine wp_aload_n dX4_whichHas_3 rfl rfl ?_
  refine wp_get (q := 20) dX4_whichHas_4 fX4_44 rfl rfl ?_
  refine wp_icmp_ge (tgt := 28) dX4_whichHas_7 (by decide) (fun c => ?_) (fun c => ?_)
  · have h := h.1 c
    refine wp_iconst (v := (-1 : Int32)) dX4_whichHas_28 (by decide) ?_
    exact wp_iret dX4_whichHas_29 rfl rfl ⟨_, _, rfl, rfl, h⟩
  · have h := h.2 c
    refine wp_aload_n dX4_whichHas_10 rfl rfl ?_
    refine wp_iload_n dX4_whichHas_11 rfl rfl ?_
    obtain ⟨q1, h⟩ := h
    refine wp_iald2 (q := 34) (j := x3.toNatClampNeg) dX4_whichHas_12 rfl q1 rfl ?_
    refine wp_iload_n dX4_whichHas_13 rfl rfl ?_
    refine wp_callN (As := [.int ((S.2.2.1 16) x3.toNatClampNeg), .int x2]) (rest := []) dX4_whichHas_14 mX6_has lX4_71 (by decide) rfl rfl (Nat.le_of_ble_eq_true rfl) (Nat.le_of_ble_eq_true rfl) h ?_
    rintro rv mh2 ⟨r3, S2, rfl, rfl, h⟩
    refine wp_if_eq (tgt := 22) dX4_whichHas_17 (by decide) (fun c => ?_) (fun c => ?_)
    · have h := h.1 c
      refine wp_iinc (Ms := [.ref 20, .ref 34, .int x2, .int (x3 + (1 : Int32))]) (v := x3 + (1 : Int32)) dX4_whichHas_22 rfl rfl (by decide) rfl ?_
      refine wp_goto (tgt := 2) dX4_whichHas_25 (by decide) ?_
      exact wp_le (Ms := [.ref 20, .ref 34, .int x2, .int (x3 + (1 : Int32))]) ⟨Or.inr rfl, Or.inr rfl, Or.inr rfl, Or.inr rfl, trivial⟩ h
    · have h := h.2 c
      refine wp_iload_n dX4_whichHas_20 rfl rfl ?_
      exact wp_iret dX4_whichHas_21 rfl rfl ⟨_, _, rfl, rfl, h⟩
abbrev wX4_whichHas_35 (P : Int32 → St → Prop) (pc : Nat) (Ls stk : List Value) (S : St) : Prop := Wp cX4_whichHas RX4 4 rX4_whichHas (wFI .int P) pc Ls stk (enc S)
abbrev tX4_whichHas_35 (a0 : Int32) (S : St) (P : Int32 → St → Prop) : Prop := wX4_whichHas_35 P 0 (wl_en [.ref 20, .ref 35, .int a0] 4) [] S
set_option maxRecDepth 100000 in
theorem bX4_whichHas_35_0 {P : Int32 → St → Prop} {S : St} (a0 : Int32) (h : wX4_whichHas_35 P 2 [.ref 20, .ref 35, .int a0, .int (0 : Int32)] [] S) : tX4_whichHas_35 a0 S P := by
  show wX4_whichHas_35 P 0 [.ref 20, .ref 35, .int a0, .retAddr 0] [] S
  refine wp_iconst (v := (0 : Int32)) dX4_whichHas_0 (by decide) ?_
  refine wp_istore_n (Ms := [.ref 20, .ref 35, .int a0, .int (0 : Int32)]) dX4_whichHas_1 rfl (by decide) rfl ?_
  exact wp_le (Ms := [.ref 20, .ref 35, .int a0, .int (0 : Int32)]) ⟨Or.inr rfl, Or.inr rfl, Or.inr rfl, Or.inr rfl, trivial⟩ h
set_option maxRecDepth 100000 in
theorem bX4_whichHas_35_2 {P : Int32 → St → Prop} {S : St} (x2 : Int32) (x3 : Int32) (h : (((S.1 3) ≤ x3 → P (-1 : Int32) S) ∧ (¬ (S.1 3) ≤ x3 → vp_in x3 8 ∧ tX6_has ((S.2.2.1 17) x3.toNatClampNeg) x2 S (fun r3 S2 => ((r3 = 0 → wX4_whichHas_35 P 2 [.ref 20, .ref 35, .int x2, .int (x3 + (1 : Int32))] [] S2) ∧ (¬ r3 = 0 → P x3 S2)))))) : wX4_whichHas_35 P 2 [.ref 20, .ref 35, .int x2, .int x3] [] S := by
  refine wp_iload_n dX4_whichHas_2 rfl rfl ?_
  refine wp_aload_n dX4_whichHas_3 rfl rfl ?_
  refine wp_get (q := 20) dX4_whichHas_4 fX4_44 rfl rfl ?_
  refine wp_icmp_ge (tgt := 28) dX4_whichHas_7 (by decide) (fun c => ?_) (fun c => ?_)
  · have h := h.1 c
    refine wp_iconst (v := (-1 : Int32)) dX4_whichHas_28 (by decide) ?_
    exact wp_iret dX4_whichHas_29 rfl rfl ⟨_, _, rfl, rfl, h⟩
  · have h := h.2 c
    refine wp_aload_n dX4_whichHas_10 rfl rfl ?_
    refine wp_iload_n dX4_whichHas_11 rfl rfl ?_
    obtain ⟨q1, h⟩ := h
    refine wp_iald2 (q := 35) (j := x3.toNatClampNeg) dX4_whichHas_12 rfl q1 rfl ?_
    refine wp_iload_n dX4_whichHas_13 rfl rfl ?_
    refine wp_callN (As := [.int ((S.2.2.1 17) x3.toNatClampNeg), .int x2]) (rest := []) dX4_whichHas_14 mX6_has lX4_71 (by decide) rfl rfl (Nat.le_of_ble_eq_true rfl) (Nat.le_of_ble_eq_true rfl) h ?_
    rintro rv mh2 ⟨r3, S2, rfl, rfl, h⟩
    refine wp_if_eq (tgt := 22) dX4_whichHas_17 (by decide) (fun c => ?_) (fun c => ?_)
    · have h := h.1 c
      refine wp_iinc (Ms := [.ref 20, .ref 35, .int x2, .int (x3 + (1 : Int32))]) (v := x3 + (1 : Int32)) dX4_whichHas_22 rfl rfl (by decide) rfl ?_
      refine wp_goto (tgt := 2) dX4_whichHas_25 (by decide) ?_
      exact wp_le (Ms := [.ref 20, .ref 35, .int x2, .int (x3 + (1 : Int32))]) ⟨Or.inr rfl, Or.inr rfl, Or.inr rfl, Or.inr rfl, trivial⟩ h
    · have h := h.2 c
      refine wp_iload_n dX4_whichHas_20 rfl rfl ?_
      exact wp_iret dX4_whichHas_21 rfl rfl ⟨_, _, rfl, rfl, h⟩
abbrev rX4_ofWork : Room := { frames := 4, cells := 0, slots := 0, locals := 92 }
abbrev wX4_ofWork (P : Int32 → St → Prop) (pc : Nat) (Ls stk : List Value) (S : St) : Prop := Wp cX4_ofWork RX4 2 rX4_ofWork (wFI .int P) pc Ls stk (enc S)
abbrev tX4_ofWork (a0 : Int32) (S : St) (P : Int32 → St → Prop) : Prop := wX4_ofWork P 0 (wl_en [.ref 20, .int a0] 2) [] S
set_option maxRecDepth 100000 in
theorem bX4_ofWork_0 {P : Int32 → St → Prop} {S : St} (a0 : Int32) (h : tX4_refresh  S (fun S1 => tX4_whichHas_34 a0 S1 (fun r3 S2 => P r3 S2))) : tX4_ofWork a0 S P := by
  show wX4_ofWork P 0 [.ref 20, .int a0] [] S
  refine wp_aload_n dX4_ofWork_0 rfl rfl ?_
  refine wp_callV (q := 20) (As := []) (rest := []) dX4_ofWork_1 mX4_refresh lX4_60 (by decide) rfl rfl rfl rfl (Nat.le_of_ble_eq_true rfl) (Nat.le_of_ble_eq_true rfl) h ?_
  rintro rv mh2 ⟨S1, rfl, rfl, h⟩
  refine wp_aload_n dX4_ofWork_4 rfl rfl ?_
  refine wp_aload_n dX4_ofWork_5 rfl rfl ?_
  refine wp_get (q := 20) dX4_ofWork_6 fX4_22 rfl rfl ?_
  refine wp_iload_n dX4_ofWork_9 rfl rfl ?_
  refine wp_callV (q := 20) (As := [.ref 34, .int a0]) (rest := []) dX4_ofWork_10 mX4_whichHas lX4_67 (by decide) rfl rfl rfl rfl (Nat.le_of_ble_eq_true rfl) (Nat.le_of_ble_eq_true rfl) h ?_
  rintro rv mh2 ⟨r3, S2, rfl, rfl, h⟩
  exact wp_iret dX4_ofWork_13 rfl rfl ⟨_, _, rfl, rfl, h⟩
