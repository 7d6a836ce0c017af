-- ===== end of PART A; then your names; then what follows =====
/-! THE CLAIM OUT OF ONE WALK OF THE LAW'S BODY. Your part is whole_start (and what it stands on); all else here is the same for every law, but numbers. -/
def R_law : String := "PeerMarksLaw"
def lw_P (b : Addr) (xs : List Int32) (args : Array Value) (s : State) : Prop := args = #[.ref b] ∧ s.IntsAt b xs ∧ xs.length ≤ 2048 ∧ (Jvm.Cond.and given_1 narrow_1).before args s = true
def lw_Q (_ : Array Value) (s : State) (o : Outcome) (t : State) : Prop := o = .returned (some (.int 1)) ∧ Framed s o t [] 600000 7302250
def lw_Z (below : List Frame) (a : Array Value) (s : State) : State → Prop := fun t => ∃ o, t.status = .running ∧ Ended t below o ∧ lw_Q a s o t
/-- the law's own end, with 1 on the stack, nothing written that was there before, its room as the claim has it -/
theorem lw_ret {p : Program} {l : Launch} {e : Env} {s : State} {m : MethodId} {below : List Frame} {meth : Method} {c : Code} {b : Nat} (hx : p.tables.exec = Jvm.exec) (hb : c.code = code) (hr : meth.sig.returnType = ret) (hlocks : meth.locks = false) {pc : Nat} {H : Heap} {ls : Array Slot} (hdg : decode code pc = .ok (.ireturn, 1)) : W p l e room_1 s m #[Value.ref b] below meth c H [] 600000 7302250 (lw_Z below #[Value.ref b] s) (F0 m pc ls [.int 1]) := by
  intro T hT X
  obtain ⟨fs, hret, hrun, hended, hW, hframe⟩ := X.leave (v := some (.int 1)) (hlocks := hlocks) (fun h => by rw [hr] at h; cases h)
  have hmeth' : T.vm.method? m = some meth := X.method'
  refine ⟨T.setFrames fs, ?_, .returned (some (.int 1)), hrun, hended, rfl, ⟨_, rfl⟩, hW, hframe⟩
  jvm_step X.here [X.here.top, hx, hb, hdg, hmeth', hr, ret, narrow_b1]
  (try refine ⟨rfl, ?_⟩); (try refine ⟨rfl, ?_⟩)
  first | (intro acts; rw [hret _ acts rfl rfl rfl]) | rw [hret _ _ rfl rfl rfl]
  exact Steps.refl _
/-- what holds at the law's entry: the machine, the code, the tables' words (any of lw_tbl by 'hts w (by decide +kernel)'), the script of L ints xs at the cell b, what the Statement gives of the start (any of its parts by flat_of_before) -/
def lw_At (p : Program) (s : State) (m : MethodId) (meth : Method) (c : Code) (b L : Nat) (xs : Nat → Int32) : Prop :=
  p.tables.exec = Jvm.exec ∧ c.code = code ∧ meth.sig.returnType = ret ∧ c.maxLocals = 4 ∧ s.vm.findClass R_law = some m.cls ∧ (∀ w ∈ lw_tbl, w.before #[Value.ref b] s = true) ∧ va_X b L xs s s.heap ∧ b < s.heap.size ∧ meth.locks = false ∧ (Jvm.Cond.and given_1 narrow_1).before #[Value.ref b] s = true

/-- the law's end, for Wp: nothing is left to be shown where it answers 1 -/
def wl_lawF (L : Nat) (xs : Nat → Int32) : wl_Fn := fun G _ A _ _ _ R s _ args below meth _ kc ks Z => (G.2.1 = L ∧ G.2.2.1 = xs) ∧ args = #[.ref G.1] ∧ meth.sig.returnType = ret ∧ meth.locks = false ∧ A = (fun q : Nat => s.heap.size ≤ q) ∧ kc = 600000 ∧ ks = 7302250 ∧ R = room_1 ∧ Z = lw_Z below args s
theorem wp_lawret {L : Nat} {xs : Nat → Int32} {pc : Nat} {Ls : List Value} {mh : wl_H} (hd : decode cL_law pc = .ok (.ireturn, 1)) : Wp cL_law RL 4 room_1 (wl_lawF L xs) pc Ls [.int 1] mh := by
  intro G lk A p l e s m args below meth c kc ks Z hC hF hk H locs ls hR hL
  obtain ⟨hG, rfl, hr, hlk, rfl, rfl, rfl, -, rfl⟩ := hF
  refine va_forget (fun q hq => hR.2.2.2.2.1.2.2 q hq) ?_
  exact lw_ret hC.1 hC.2.1 hr hlk hd
abbrev wL_law (P : Nat × (Nat → Int32)) (pc : Nat) (Ls stk : List Value) (S : St) : Prop := Wp cL_law RL 4 room_1 (wl_lawF P.1 P.2) pc Ls stk (enc S)
theorem wI_mono {cc : ByteArray} {own : String} {nL : Nat} {R : Room} {ty : FieldType} {P P2 : Int32 → St → Prop} {pc : Nat} {Ls stk : List Value} {mh : wl_H} (h : Wp cc own nL R (wFI ty P) pc Ls stk mh) (hm : ∀ x S, P x S → P2 x S) : Wp cc own nL R (wFI ty P2) pc Ls stk mh := wp_mono h (fun _ _ ⟨x, S2, a, b, c⟩ => ⟨x, S2, a, b, hm _ _ c⟩)
theorem wL_mono {cc : ByteArray} {own : String} {nL : Nat} {R : Room} {P P2 : Int64 → St → Prop} {pc : Nat} {Ls stk : List Value} {mh : wl_H} (h : Wp cc own nL R (wFL P) pc Ls stk mh) (hm : ∀ x S, P x S → P2 x S) : Wp cc own nL R (wFL P2) pc Ls stk mh := wp_mono h (fun _ _ ⟨x, S2, a, b, c⟩ => ⟨x, S2, a, b, hm _ _ c⟩)
theorem wV_mono {cc : ByteArray} {own : String} {nL : Nat} {R : Room} {P P2 : St → Prop} {pc : Nat} {Ls stk : List Value} {mh : wl_H} (h : Wp cc own nL R (wFV P) pc Ls stk mh) (hm : ∀ S, P S → P2 S) : Wp cc own nL R (wFV P2) pc Ls stk mh := wp_mono h (fun _ _ ⟨S2, a, b, c⟩ => ⟨S2, a, b, hm _ c⟩)
theorem lg_self (x : Int64) : lg_cmp x x = 0 := by
  unfold lg_cmp
  rw [if_neg (Int64.lt_irrefl), if_pos rfl]
set_option maxRecDepth 100000 in
set_option maxHeartbeats 4000000 in
theorem bL_law_18 {P : Nat × (Nat → Int32)} {S : St} (x3 : Int32) (h : ((((Int32.ofNat P.1) - (4 : Int32)) < x3 → True) ∧ (¬ ((Int32.ofNat P.1) - (4 : Int32)) < x3 → vp_in x3 P.1 ∧ ((((P.2 x3.toNatClampNeg) &&& (31 : Int32)).toInt < 0 ∨ 21 < ((P.2 x3.toNatClampNeg) &&& (31 : Int32)).toInt → wL_law P 18 [.ref 1000, .ref 0, .ref 47, .int (x3 + (4 : Int32))] [] S) ∧ (((P.2 x3.toNatClampNeg) &&& (31 : Int32)).toInt = 0 → vp_in (x3 + (1 : Int32)) P.1 ∧ tX6_pupils (P.2 (x3 + (1 : Int32)).toNatClampNeg) S (fun r4 S3 => vp_in (x3 + (1 : Int32)) P.1 ∧ tX7_pupils (P.2 (x3 + (1 : Int32)).toNatClampNeg) S3 (fun r7 S6 => ((r4 = r7 → wL_law P 18 [.ref 1000, .ref 0, .ref 47, .int (x3 + (4 : Int32))] [] S6) ∧ (¬ r4 = r7 → False))))) ∧ (((P.2 x3.toNatClampNeg) &&& (31 : Int32)).toInt = 1 → vp_in (x3 + (1 : Int32)) P.1 ∧ vp_in (x3 + (2 : Int32)) P.1 ∧ vp_in (x3 + (3 : Int32)) P.1 ∧ (((P.2 (x3 + (3 : Int32)).toNatClampNeg) = 0 → tX6_friends (P.2 (x3 + (1 : Int32)).toNatClampNeg) (P.2 (x3 + (2 : Int32)).toNatClampNeg) (0 : Int32) S (fun r12 S11 => vp_in (x3 + (1 : Int32)) P.1 ∧ vp_in (x3 + (2 : Int32)) P.1 ∧ vp_in (x3 + (3 : Int32)) P.1 ∧ (((P.2 (x3 + (3 : Int32)).toNatClampNeg) = 0 → tX7_friends (P.2 (x3 + (1 : Int32)).toNatClampNeg) (P.2 (x3 + (2 : Int32)).toNatClampNeg) (0 : Int32) S11 (fun r17 S16 => ((r12 = r17 → wL_law P 18 [.ref 1000, .ref 0, .ref 47, .int (x3 + (4 : Int32))] [] S16) ∧ (¬ r12 = r17 → False)))) ∧ (¬ (P.2 (x3 + (3 : Int32)).toNatClampNeg) = 0 → tX7_friends (P.2 (x3 + (1 : Int32)).toNatClampNeg) (P.2 (x3 + (2 : Int32)).toNatClampNeg) (1 : Int32) S11 (fun r19 S18 => ((r12 = r19 → wL_law P 18 [.ref 1000, .ref 0, .ref 47, .int (x3 + (4 : Int32))] [] S18) ∧ (¬ r12 = r19 → False))))))) ∧ (¬ (P.2 (x3 + (3 : Int32)).toNatClampNeg) = 0 → tX6_friends (P.2 (x3 + (1 : Int32)).toNatClampNeg) (P.2 (x3 + (2 : Int32)).toNatClampNeg) (1 : Int32) S (fun r21 S20 => vp_in (x3 + (1 : Int32)) P.1 ∧ vp_in (x3 + (2 : Int32)) P.1 ∧ vp_in (x3 + (3 : Int32)) P.1 ∧ (((P.2 (x3 + (3 : Int32)).toNatClampNeg) = 0 → tX7_friends (P.2 (x3 + (1 : Int32)).toNatClampNeg) (P.2 (x3 + (2 : Int32)).toNatClampNeg) (0 : Int32) S20 (fun r26 S25 => ((r21 = r26 → wL_law P 18 [.ref 1000, .ref 0, .ref 47, .int (x3 + (4 : Int32))] [] S25) ∧ (¬ r21 = r26 → False)))) ∧ (¬ (P.2 (x3 + (3 : Int32)).toNatClampNeg) = 0 → tX7_friends (P.2 (x3 + (1 : Int32)).toNatClampNeg) (P.2 (x3 + (2 : Int32)).toNatClampNeg) (1 : Int32) S20 (fun r28 S27 => ((r21 = r28 → wL_law P 18 [.ref 1000, .ref 0, .ref 47, .int (x3 + (4 : Int32))] [] S27) ∧ (¬ r21 = r28 → False))))))))) ∧ (((P.2 x3.toNatClampNeg) &&& (31 : Int32)).toInt = 2 → vp_in (x3 + (1 : Int32)) P.1 ∧ vp_in (x3 + (2 : Int32)) P.1 ∧ tX6_rule (P.2 (x3 + (1 : Int32)).toNatClampNeg) (P.2 (x3 + (2 : Int32)).toNatClampNeg) S (fun r32 S31 => vp_in (x3 + (1 : Int32)) P.1 ∧ vp_in (x3 + (2 : Int32)) P.1 ∧ tX7_rule (P.2 (x3 + (1 : Int32)).toNatClampNeg) (P.2 (x3 + (2 : Int32)).toNatClampNeg) S31 (fun r36 S35 => ((r32 = r36 → wL_law P 18 [.ref 1000, .ref 0, .ref 47, .int (x3 + (4 : Int32))] [] S35) ∧ (¬ r32 = r36 → False))))) ∧ (((P.2 x3.toNatClampNeg) &&& (31 : Int32)).toInt = 3 → vp_in (x3 + (1 : Int32)) P.1 ∧ tX6_may (P.2 (x3 + (1 : Int32)).toNatClampNeg) S (fun r39 S38 => vp_in (x3 + (1 : Int32)) P.1 ∧ tX7_may (P.2 (x3 + (1 : Int32)).toNatClampNeg) S38 (fun r42 S41 => ((r39 = r42 → wL_law P 18 [.ref 1000, .ref 0, .ref 47, .int (x3 + (4 : Int32))] [] S41) ∧ (¬ r39 = r42 → False))))) ∧ (((P.2 x3.toNatClampNeg) &&& (31 : Int32)).toInt = 4 → vp_in (x3 + (1 : Int32)) P.1 ∧ tX6_plan (P.2 (x3 + (1 : Int32)).toNatClampNeg) S (fun r45 S44 => vp_in (x3 + (1 : Int32)) P.1 ∧ tX7_plan (P.2 (x3 + (1 : Int32)).toNatClampNeg) S44 (fun r48 S47 => ((r45 = r48 → wL_law P 18 [.ref 1000, .ref 0, .ref 47, .int (x3 + (4 : Int32))] [] S47) ∧ (¬ r45 = r48 → False))))) ∧ (((P.2 x3.toNatClampNeg) &&& (31 : Int32)).toInt = 5 → vp_in (x3 + (1 : Int32)) P.1 ∧ tX6_shared (P.2 (x3 + (1 : Int32)).toNatClampNeg) S (fun r51 S50 => vp_in (x3 + (1 : Int32)) P.1 ∧ tX7_shared (P.2 (x3 + (1 : Int32)).toNatClampNeg) S50 (fun r54 S53 => ((r51 = r54 → wL_law P 18 [.ref 1000, .ref 0, .ref 47, .int (x3 + (4 : Int32))] [] S53) ∧ (¬ r51 = r54 → False))))) ∧ (((P.2 x3.toNatClampNeg) &&& (31 : Int32)).toInt = 6 → tX6_lack  S (fun r56 S55 => tX7_lack  S55 (fun r58 S57 => ((r56 = r58 → wL_law P 18 [.ref 1000, .ref 0, .ref 47, .int (x3 + (4 : Int32))] [] S57) ∧ (¬ r56 = r58 → False))))) ∧ (((P.2 x3.toNatClampNeg) &&& (31 : Int32)).toInt = 7 → tX6_parts  S (fun r60 S59 => tX7_parts  S59 (fun r62 S61 => ((r60 = r62 → wL_law P 18 [.ref 1000, .ref 0, .ref 47, .int (x3 + (4 : Int32))] [] S61) ∧ (¬ r60 = r62 → False))))) ∧ (((P.2 x3.toNatClampNeg) &&& (31 : Int32)).toInt = 8 → vp_in (x3 + (1 : Int32)) P.1 ∧ vp_in (x3 + (2 : Int32)) P.1 ∧ vp_in (x3 + (3 : Int32)) P.1 ∧ tX6_mark (P.2 (x3 + (1 : Int32)).toNatClampNeg) (P.2 (x3 + (2 : Int32)).toNatClampNeg) (P.2 (x3 + (3 : Int32)).toNatClampNeg) S (fun r67 S66 => vp_in (x3 + (1 : Int32)) P.1 ∧ vp_in (x3 + (2 : Int32)) P.1 ∧ vp_in (x3 + (3 : Int32)) P.1 ∧ tX7_mark (P.2 (x3 + (1 : Int32)).toNatClampNeg) (P.2 (x3 + (2 : Int32)).toNatClampNeg) (P.2 (x3 + (3 : Int32)).toNatClampNeg) S66 (fun r72 S71 => ((r67 = r72 → wL_law P 18 [.ref 1000, .ref 0, .ref 47, .int (x3 + (4 : Int32))] [] S71) ∧ (¬ r67 = r72 → False))))) ∧ (((P.2 x3.toNatClampNeg) &&& (31 : Int32)).toInt = 9 → vp_in (x3 + (1 : Int32)) P.1 ∧ vp_in (x3 + (2 : Int32)) P.1 ∧ tX6_staff (P.2 (x3 + (1 : Int32)).toNatClampNeg) (P.2 (x3 + (2 : Int32)).toNatClampNeg) S (fun r76 S75 => vp_in (x3 + (1 : Int32)) P.1 ∧ vp_in (x3 + (2 : Int32)) P.1 ∧ tX7_staff (P.2 (x3 + (1 : Int32)).toNatClampNeg) (P.2 (x3 + (2 : Int32)).toNatClampNeg) S75 (fun r80 S79 => ((r76 = r80 → wL_law P 18 [.ref 1000, .ref 0, .ref 47, .int (x3 + (4 : Int32))] [] S79) ∧ (¬ r76 = r80 → False))))) ∧ (((P.2 x3.toNatClampNeg) &&& (31 : Int32)).toInt = 10 → vp_in (x3 + (1 : Int32)) P.1 ∧ tX6_count (P.2 (x3 + (1 : Int32)).toNatClampNeg) S (fun r83 S82 => vp_in (x3 + (1 : Int32)) P.1 ∧ tX7_count (P.2 (x3 + (1 : Int32)).toNatClampNeg) S82 (fun r86 S85 => ((r83 = r86 → wL_law P 18 [.ref 1000, .ref 0, .ref 47, .int (x3 + (4 : Int32))] [] S85) ∧ (¬ r83 = r86 → False))))) ∧ (((P.2 x3.toNatClampNeg) &&& (31 : Int32)).toInt = 11 → vp_in (x3 + (1 : Int32)) P.1 ∧ vp_in (x3 + (2 : Int32)) P.1 ∧ tX6_piece (P.2 (x3 + (1 : Int32)).toNatClampNeg) (P.2 (x3 + (2 : Int32)).toNatClampNeg) S (fun r90 S89 => vp_in (x3 + (1 : Int32)) P.1 ∧ vp_in (x3 + (2 : Int32)) P.1 ∧ tX7_piece (P.2 (x3 + (1 : Int32)).toNatClampNeg) (P.2 (x3 + (2 : Int32)).toNatClampNeg) S89 (fun r94 S93 => ((r90 = r94 → wL_law P 18 [.ref 1000, .ref 0, .ref 47, .int (x3 + (4 : Int32))] [] S93) ∧ (¬ r90 = r94 → False))))) ∧ (((P.2 x3.toNatClampNeg) &&& (31 : Int32)).toInt = 12 → vp_in (x3 + (1 : Int32)) P.1 ∧ vp_in (x3 + (2 : Int32)) P.1 ∧ tX6_worth (P.2 (x3 + (1 : Int32)).toNatClampNeg) (P.2 (x3 + (2 : Int32)).toNatClampNeg) S (fun r98 S97 => vp_in (x3 + (1 : Int32)) P.1 ∧ vp_in (x3 + (2 : Int32)) P.1 ∧ tX7_worth (P.2 (x3 + (1 : Int32)).toNatClampNeg) (P.2 (x3 + (2 : Int32)).toNatClampNeg) S97 (fun r102 S101 => (((lg_cmp r98 r102) = 0 → wL_law P 18 [.ref 1000, .ref 0, .ref 47, .int (x3 + (4 : Int32))] [] S101) ∧ (¬ (lg_cmp r98 r102) = 0 → False))))) ∧ (((P.2 x3.toNatClampNeg) &&& (31 : Int32)).toInt = 13 → vp_in (x3 + (1 : Int32)) P.1 ∧ vp_in (x3 + (2 : Int32)) P.1 ∧ tX6_lean (P.2 (x3 + (1 : Int32)).toNatClampNeg) (P.2 (x3 + (2 : Int32)).toNatClampNeg) S (fun r106 S105 => vp_in (x3 + (1 : Int32)) P.1 ∧ vp_in (x3 + (2 : Int32)) P.1 ∧ tX7_lean (P.2 (x3 + (1 : Int32)).toNatClampNeg) (P.2 (x3 + (2 : Int32)).toNatClampNeg) S105 (fun r110 S109 => (((lg_cmp r106 r110) = 0 → wL_law P 18 [.ref 1000, .ref 0, .ref 47, .int (x3 + (4 : Int32))] [] S109) ∧ (¬ (lg_cmp r106 r110) = 0 → False))))) ∧ (((P.2 x3.toNatClampNeg) &&& (31 : Int32)).toInt = 14 → vp_in (x3 + (1 : Int32)) P.1 ∧ vp_in (x3 + (2 : Int32)) P.1 ∧ vp_in (x3 + (3 : Int32)) P.1 ∧ tX6_left (P.2 (x3 + (1 : Int32)).toNatClampNeg) (P.2 (x3 + (2 : Int32)).toNatClampNeg) (P.2 (x3 + (3 : Int32)).toNatClampNeg) S (fun r115 S114 => vp_in (x3 + (1 : Int32)) P.1 ∧ vp_in (x3 + (2 : Int32)) P.1 ∧ vp_in (x3 + (3 : Int32)) P.1 ∧ tX7_left (P.2 (x3 + (1 : Int32)).toNatClampNeg) (P.2 (x3 + (2 : Int32)).toNatClampNeg) (P.2 (x3 + (3 : Int32)).toNatClampNeg) S114 (fun r120 S119 => (((lg_cmp r115 r120) = 0 → wL_law P 18 [.ref 1000, .ref 0, .ref 47, .int (x3 + (4 : Int32))] [] S119) ∧ (¬ (lg_cmp r115 r120) = 0 → False))))) ∧ (((P.2 x3.toNatClampNeg) &&& (31 : Int32)).toInt = 15 → vp_in (x3 + (1 : Int32)) P.1 ∧ tX6_order (P.2 (x3 + (1 : Int32)).toNatClampNeg) S (fun r123 S122 => vp_in (x3 + (1 : Int32)) P.1 ∧ tX7_order (P.2 (x3 + (1 : Int32)).toNatClampNeg) S122 (fun r126 S125 => ((r123 = r126 → wL_law P 18 [.ref 1000, .ref 0, .ref 47, .int (x3 + (4 : Int32))] [] S125) ∧ (¬ r123 = r126 → False))))) ∧ (((P.2 x3.toNatClampNeg) &&& (31 : Int32)).toInt = 16 → tX6_quarrel  S (fun r128 S127 => tX7_quarrel  S127 (fun r130 S129 => ((r128 = r130 → wL_law P 18 [.ref 1000, .ref 0, .ref 47, .int (x3 + (4 : Int32))] [] S129) ∧ (¬ r128 = r130 → False))))) ∧ (((P.2 x3.toNatClampNeg) &&& (31 : Int32)).toInt = 17 → vp_in (x3 + (1 : Int32)) P.1 ∧ tX6_turned (P.2 (x3 + (1 : Int32)).toNatClampNeg) S (fun r133 S132 => vp_in (x3 + (1 : Int32)) P.1 ∧ tX7_turned (P.2 (x3 + (1 : Int32)).toNatClampNeg) S132 (fun r136 S135 => ((r133 = r136 → wL_law P 18 [.ref 1000, .ref 0, .ref 47, .int (x3 + (4 : Int32))] [] S135) ∧ (¬ r133 = r136 → False))))) ∧ (((P.2 x3.toNatClampNeg) &&& (31 : Int32)).toInt = 18 → vp_in (x3 + (1 : Int32)) P.1 ∧ tX6_moves (P.2 (x3 + (1 : Int32)).toNatClampNeg) S (fun r139 S138 => vp_in (x3 + (1 : Int32)) P.1 ∧ tX7_moves (P.2 (x3 + (1 : Int32)).toNatClampNeg) S138 (fun r142 S141 => ((r139 = r142 → wL_law P 18 [.ref 1000, .ref 0, .ref 47, .int (x3 + (4 : Int32))] [] S141) ∧ (¬ r139 = r142 → False))))) ∧ (((P.2 x3.toNatClampNeg) &&& (31 : Int32)).toInt = 19 → vp_in (x3 + (1 : Int32)) P.1 ∧ tX6_spread (P.2 (x3 + (1 : Int32)).toNatClampNeg) S (fun r145 S144 => vp_in (x3 + (1 : Int32)) P.1 ∧ tX7_spread_ (P.2 (x3 + (1 : Int32)).toNatClampNeg) S144 (fun r148 S147 => ((r145 = r148 → wL_law P 18 [.ref 1000, .ref 0, .ref 47, .int (x3 + (4 : Int32))] [] S147) ∧ (¬ r145 = r148 → False))))) ∧ (((P.2 x3.toNatClampNeg) &&& (31 : Int32)).toInt = 20 → vp_in (x3 + (1 : Int32)) P.1 ∧ tX6_next (P.2 (x3 + (1 : Int32)).toNatClampNeg) S (fun r151 S150 => vp_in (x3 + (1 : Int32)) P.1 ∧ tX7_next (P.2 (x3 + (1 : Int32)).toNatClampNeg) S150 (fun r154 S153 => ((r151 = r154 → wL_law P 18 [.ref 1000, .ref 0, .ref 47, .int (x3 + (4 : Int32))] [] S153) ∧ (¬ r151 = r154 → False))))) ∧ (((P.2 x3.toNatClampNeg) &&& (31 : Int32)).toInt = 21 → tX6_digest  S (fun r156 S155 => tX7_digest  S155 (fun r158 S157 => ((r156 = r158 → wL_law P 18 [.ref 1000, .ref 0, .ref 47, .int (x3 + (4 : Int32))] [] S157) ∧ (¬ r156 = r158 → False))))))))) : wL_law P 18 [.ref 1000, .ref 0, .ref 47, .int x3] [] S := by
  refine wp_iload_n dL_law_18 rfl rfl ?_
  refine wp_aload_n dL_law_19 rfl rfl ?_
  refine wp_slen (fun h => h.1) dL_law_20 ?_
  refine wp_iconst (v := (4 : Int32)) dL_law_21 (by decide) ?_
  refine wp_isub dL_law_22 ?_
  refine wp_icmp_gt (tgt := 737) dL_law_23 (by decide) (fun c => ?_) (fun c => ?_)
  · have h := h.1 c
    refine wp_iconst (v := (1 : Int32)) dL_law_737 (by decide) ?_
    exact wp_lawret dL_law_738
  · have h := h.2 c
    refine wp_aload_n dL_law_26 rfl rfl ?_
    refine wp_iload_n dL_law_27 rfl rfl ?_
    obtain ⟨q1, h⟩ := h
    refine wp_sld (fun h => h.1) dL_law_28 q1 ?_
    refine wp_bipush (v := (31 : Int32)) dL_law_29 (by decide) ?_
    refine wp_iand dL_law_31 ?_
    by_cases hb : ((P.2 x3.toNatClampNeg) &&& (31 : Int32)).toInt < 0 ∨ 21 < ((P.2 x3.toNatClampNeg) &&& (31 : Int32)).toInt
    · have h := h.1 hb
      refine wp_tableOut (tgt := 731) dL_law_32 hb (by decide) ?_
      refine wp_iinc (Ms := [.ref 1000, .ref 0, .ref 47, .int (x3 + (4 : Int32))]) (v := x3 + (4 : Int32)) dL_law_731 rfl rfl (by decide) rfl ?_
      refine wp_goto (tgt := 18) dL_law_734 (by decide) ?_
      exact wp_le (Ms := [.ref 1000, .ref 0, .ref 47, .int (x3 + (4 : Int32))]) ⟨Or.inr rfl, Or.inr rfl, Or.inr rfl, Or.inr rfl, trivial⟩ h
    · have h := h.2
      have hx : ((P.2 x3.toNatClampNeg) &&& (31 : Int32)).toInt = 0 ∨ ((P.2 x3.toNatClampNeg) &&& (31 : Int32)).toInt = 1 ∨ ((P.2 x3.toNatClampNeg) &&& (31 : Int32)).toInt = 2 ∨ ((P.2 x3.toNatClampNeg) &&& (31 : Int32)).toInt = 3 ∨ ((P.2 x3.toNatClampNeg) &&& (31 : Int32)).toInt = 4 ∨ ((P.2 x3.toNatClampNeg) &&& (31 : Int32)).toInt = 5 ∨ ((P.2 x3.toNatClampNeg) &&& (31 : Int32)).toInt = 6 ∨ ((P.2 x3.toNatClampNeg) &&& (31 : Int32)).toInt = 7 ∨ ((P.2 x3.toNatClampNeg) &&& (31 : Int32)).toInt = 8 ∨ ((P.2 x3.toNatClampNeg) &&& (31 : Int32)).toInt = 9 ∨ ((P.2 x3.toNatClampNeg) &&& (31 : Int32)).toInt = 10 ∨ ((P.2 x3.toNatClampNeg) &&& (31 : Int32)).toInt = 11 ∨ ((P.2 x3.toNatClampNeg) &&& (31 : Int32)).toInt = 12 ∨ ((P.2 x3.toNatClampNeg) &&& (31 : Int32)).toInt = 13 ∨ ((P.2 x3.toNatClampNeg) &&& (31 : Int32)).toInt = 14 ∨ ((P.2 x3.toNatClampNeg) &&& (31 : Int32)).toInt = 15 ∨ ((P.2 x3.toNatClampNeg) &&& (31 : Int32)).toInt = 16 ∨ ((P.2 x3.toNatClampNeg) &&& (31 : Int32)).toInt = 17 ∨ ((P.2 x3.toNatClampNeg) &&& (31 : Int32)).toInt = 18 ∨ ((P.2 x3.toNatClampNeg) &&& (31 : Int32)).toInt = 19 ∨ ((P.2 x3.toNatClampNeg) &&& (31 : Int32)).toInt = 20 ∨ ((P.2 x3.toNatClampNeg) &&& (31 : Int32)).toInt = 21 := by omega
      rcases hx with hx | hx | hx | hx | hx | hx | hx | hx | hx | hx | hx | hx | hx | hx | hx | hx | hx | hx | hx | hx | hx | hx
      · have h := h.1 hx
        refine wp_tableIn (off := 104) (tgt := 136) dL_law_32 (by omega) (by omega) (by rw [hx]; rfl) (by decide) ?_
        refine wp_aload_n dL_law_136 rfl rfl ?_
        refine wp_aload_n dL_law_137 rfl rfl ?_
        refine wp_iload_n dL_law_138 rfl rfl ?_
        refine wp_iconst (v := (1 : Int32)) dL_law_139 (by decide) ?_
        refine wp_iadd dL_law_140 ?_
        obtain ⟨q2, h⟩ := h
        refine wp_sld (fun h => h.1) dL_law_141 q2 ?_
        refine wp_callV (q := 0) (As := [.int (P.2 (x3 + (1 : Int32)).toNatClampNeg)]) (rest := []) dL_law_142 mX6_pupils lL_13 (by decide) rfl rfl rfl rfl (Nat.le_of_ble_eq_true rfl) (Nat.le_of_ble_eq_true rfl) h ?_
        rintro rv mh2 ⟨r4, S3, rfl, rfl, h⟩
        refine wp_aload_n dL_law_145 rfl rfl ?_
        refine wp_aload_n dL_law_146 rfl rfl ?_
        refine wp_iload_n dL_law_147 rfl rfl ?_
        refine wp_iconst (v := (1 : Int32)) dL_law_148 (by decide) ?_
        refine wp_iadd dL_law_149 ?_
        obtain ⟨q5, h⟩ := h
        refine wp_sld (fun h => h.1) dL_law_150 q5 ?_
        refine wp_callV (q := 47) (As := [.int (P.2 (x3 + (1 : Int32)).toNatClampNeg)]) (rest := [.int r4]) dL_law_151 mX7_pupils lL_17 (by decide) rfl rfl rfl rfl (Nat.le_of_ble_eq_true rfl) (Nat.le_of_ble_eq_true rfl) h ?_
        rintro rv mh2 ⟨r7, S6, rfl, rfl, h⟩
        refine wp_icmp_eq (tgt := 731) dL_law_154 (by decide) (fun c => ?_) (fun c => ?_)
        · have h := h.1 c
          refine wp_iinc (Ms := [.ref 1000, .ref 0, .ref 47, .int (x3 + (4 : Int32))]) (v := x3 + (4 : Int32)) dL_law_731 rfl rfl (by decide) rfl ?_
          refine wp_goto (tgt := 18) dL_law_734 (by decide) ?_
          exact wp_le (Ms := [.ref 1000, .ref 0, .ref 47, .int (x3 + (4 : Int32))]) ⟨Or.inr rfl, Or.inr rfl, Or.inr rfl, Or.inr rfl, trivial⟩ h
        · have h := h.2 c
          refine wp_iconst (v := (0 : Int32)) dL_law_157 (by decide) ?_
          exact h.elim
      · have h := h.2.1 hx
        refine wp_tableIn (off := 127) (tgt := 159) dL_law_32 (by omega) (by omega) (by rw [hx]; rfl) (by decide) ?_
        refine wp_aload_n dL_law_159 rfl rfl ?_
        refine wp_aload_n dL_law_160 rfl rfl ?_
        refine wp_iload_n dL_law_161 rfl rfl ?_
        refine wp_iconst (v := (1 : Int32)) dL_law_162 (by decide) ?_
        refine wp_iadd dL_law_163 ?_
        obtain ⟨q8, h⟩ := h
        refine wp_sld (fun h => h.1) dL_law_164 q8 ?_
        refine wp_aload_n dL_law_165 rfl rfl ?_
        refine wp_iload_n dL_law_166 rfl rfl ?_
        refine wp_iconst (v := (2 : Int32)) dL_law_167 (by decide) ?_
        refine wp_iadd dL_law_168 ?_
        obtain ⟨q9, h⟩ := h
        refine wp_sld (fun h => h.1) dL_law_169 q9 ?_
        refine wp_aload_n dL_law_170 rfl rfl ?_
        refine wp_iload_n dL_law_171 rfl rfl ?_
        refine wp_iconst (v := (3 : Int32)) dL_law_172 (by decide) ?_
        refine wp_iadd dL_law_173 ?_
        obtain ⟨q10, h⟩ := h
        refine wp_sld (fun h => h.1) dL_law_174 q10 ?_
        refine wp_if_eq (tgt := 182) dL_law_175 (by decide) (fun c => ?_) (fun c => ?_)
        · have h := h.1 c
          refine wp_iconst (v := (0 : Int32)) dL_law_182 (by decide) ?_
          refine wp_callV (q := 0) (As := [.int (P.2 (x3 + (1 : Int32)).toNatClampNeg), .int (P.2 (x3 + (2 : Int32)).toNatClampNeg), .int (0 : Int32)]) (rest := []) dL_law_183 mX6_friends lL_18 (by decide) rfl rfl rfl rfl (Nat.le_of_ble_eq_true rfl) (Nat.le_of_ble_eq_true rfl) h ?_
          rintro rv mh2 ⟨r12, S11, rfl, rfl, h⟩
          refine wp_aload_n dL_law_186 rfl rfl ?_
          refine wp_aload_n dL_law_187 rfl rfl ?_
          refine wp_iload_n dL_law_188 rfl rfl ?_
          refine wp_iconst (v := (1 : Int32)) dL_law_189 (by decide) ?_
          refine wp_iadd dL_law_190 ?_
          obtain ⟨q13, h⟩ := h
          refine wp_sld (fun h => h.1) dL_law_191 q13 ?_
          refine wp_aload_n dL_law_192 rfl rfl ?_
          refine wp_iload_n dL_law_193 rfl rfl ?_
          refine wp_iconst (v := (2 : Int32)) dL_law_194 (by decide) ?_
          refine wp_iadd dL_law_195 ?_
          obtain ⟨q14, h⟩ := h
          refine wp_sld (fun h => h.1) dL_law_196 q14 ?_
          refine wp_aload_n dL_law_197 rfl rfl ?_
          refine wp_iload_n dL_law_198 rfl rfl ?_
          refine wp_iconst (v := (3 : Int32)) dL_law_199 (by decide) ?_
          refine wp_iadd dL_law_200 ?_
          obtain ⟨q15, h⟩ := h
          refine wp_sld (fun h => h.1) dL_law_201 q15 ?_
          refine wp_if_eq (tgt := 209) dL_law_202 (by decide) (fun c => ?_) (fun c => ?_)
          · have h := h.1 c
            refine wp_iconst (v := (0 : Int32)) dL_law_209 (by decide) ?_
            refine wp_callV (q := 47) (As := [.int (P.2 (x3 + (1 : Int32)).toNatClampNeg), .int (P.2 (x3 + (2 : Int32)).toNatClampNeg), .int (0 : Int32)]) (rest := [.int r12]) dL_law_210 mX7_friends lL_22 (by decide) rfl rfl rfl rfl (Nat.le_of_ble_eq_true rfl) (Nat.le_of_ble_eq_true rfl) h ?_
            rintro rv mh2 ⟨r17, S16, rfl, rfl, h⟩
            refine wp_icmp_eq (tgt := 731) dL_law_213 (by decide) (fun c => ?_) (fun c => ?_)
            · have h := h.1 c
              refine wp_iinc (Ms := [.ref 1000, .ref 0, .ref 47, .int (x3 + (4 : Int32))]) (v := x3 + (4 : Int32)) dL_law_731 rfl rfl (by decide) rfl ?_
              refine wp_goto (tgt := 18) dL_law_734 (by decide) ?_
              exact wp_le (Ms := [.ref 1000, .ref 0, .ref 47, .int (x3 + (4 : Int32))]) ⟨Or.inr rfl, Or.inr rfl, Or.inr rfl, Or.inr rfl, trivial⟩ h
            · have h := h.2 c
              refine wp_iconst (v := (0 : Int32)) dL_law_216 (by decide) ?_
              exact h.elim
          · have h := h.2 c
            refine wp_iconst (v := (1 : Int32)) dL_law_205 (by decide) ?_
            refine wp_goto (tgt := 210) dL_law_206 (by decide) ?_
            refine wp_callV (q := 47) (As := [.int (P.2 (x3 + (1 : Int32)).toNatClampNeg), .int (P.2 (x3 + (2 : Int32)).toNatClampNeg), .int (1 : Int32)]) (rest := [.int r12]) dL_law_210 mX7_friends lL_22 (by decide) rfl rfl rfl rfl (Nat.le_of_ble_eq_true rfl) (Nat.le_of_ble_eq_true rfl) h ?_
            rintro rv mh2 ⟨r19, S18, rfl, rfl, h⟩
            refine wp_icmp_eq (tgt := 731) dL_law_213 (by decide) (fun c => ?_) (fun c => ?_)
            · have h := h.1 c
              refine wp_iinc (Ms := [.ref 1000, .ref 0, .ref 47, .int (x3 + (4 : Int32))]) (v := x3 + (4 : Int32)) dL_law_731 rfl rfl (by decide) rfl ?_
              refine wp_goto (tgt := 18) dL_law_734 (by decide) ?_
              exact wp_le (Ms := [.ref 1000, .ref 0, .ref 47, .int (x3 + (4 : Int32))]) ⟨Or.inr rfl, Or.inr rfl, Or.inr rfl, Or.inr rfl, trivial⟩ h
            · have h := h.2 c
              refine wp_iconst (v := (0 : Int32)) dL_law_216 (by decide) ?_
              exact h.elim
        · have h := h.2 c
          refine wp_iconst (v := (1 : Int32)) dL_law_178 (by decide) ?_
          refine wp_goto (tgt := 183) dL_law_179 (by decide) ?_
          refine wp_callV (q := 0) (As := [.int (P.2 (x3 + (1 : Int32)).toNatClampNeg), .int (P.2 (x3 + (2 : Int32)).toNatClampNeg), .int (1 : Int32)]) (rest := []) dL_law_183 mX6_friends lL_18 (by decide) rfl rfl rfl rfl (Nat.le_of_ble_eq_true rfl) (Nat.le_of_ble_eq_true rfl) h ?_
          rintro rv mh2 ⟨r21, S20, rfl, rfl, h⟩
          refine wp_aload_n dL_law_186 rfl rfl ?_
          refine wp_aload_n dL_law_187 rfl rfl ?_
          refine wp_iload_n dL_law_188 rfl rfl ?_
          refine wp_iconst (v := (1 : Int32)) dL_law_189 (by decide) ?_
          refine wp_iadd dL_law_190 ?_
          obtain ⟨q22, h⟩ := h
          refine wp_sld (fun h => h.1) dL_law_191 q22 ?_
          refine wp_aload_n dL_law_192 rfl rfl ?_
          refine wp_iload_n dL_law_193 rfl rfl ?_
          refine wp_iconst (v := (2 : Int32)) dL_law_194 (by decide) ?_
          refine wp_iadd dL_law_195 ?_
          obtain ⟨q23, h⟩ := h
          refine wp_sld (fun h => h.1) dL_law_196 q23 ?_
          refine wp_aload_n dL_law_197 rfl rfl ?_
          refine wp_iload_n dL_law_198 rfl rfl ?_
          refine wp_iconst (v := (3 : Int32)) dL_law_199 (by decide) ?_
          refine wp_iadd dL_law_200 ?_
          obtain ⟨q24, h⟩ := h
          refine wp_sld (fun h => h.1) dL_law_201 q24 ?_
          refine wp_if_eq (tgt := 209) dL_law_202 (by decide) (fun c => ?_) (fun c => ?_)
          · have h := h.1 c
            refine wp_iconst (v := (0 : Int32)) dL_law_209 (by decide) ?_
            refine wp_callV (q := 47) (As := [.int (P.2 (x3 + (1 : Int32)).toNatClampNeg), .int (P.2 (x3 + (2 : Int32)).toNatClampNeg), .int (0 : Int32)]) (rest := [.int r21]) dL_law_210 mX7_friends lL_22 (by decide) rfl rfl rfl rfl (Nat.le_of_ble_eq_true rfl) (Nat.le_of_ble_eq_true rfl) h ?_
            rintro rv mh2 ⟨r26, S25, rfl, rfl, h⟩
            refine wp_icmp_eq (tgt := 731) dL_law_213 (by decide) (fun c => ?_) (fun c => ?_)
            · have h := h.1 c
              refine wp_iinc (Ms := [.ref 1000, .ref 0, .ref 47, .int (x3 + (4 : Int32))]) (v := x3 + (4 : Int32)) dL_law_731 rfl rfl (by decide) rfl ?_
              refine wp_goto (tgt := 18) dL_law_734 (by decide) ?_
              exact wp_le (Ms := [.ref 1000, .ref 0, .ref 47, .int (x3 + (4 : Int32))]) ⟨Or.inr rfl, Or.inr rfl, Or.inr rfl, Or.inr rfl, trivial⟩ h
            · have h := h.2 c
              refine wp_iconst (v := (0 : Int32)) dL_law_216 (by decide) ?_
              exact h.elim
          · have h := h.2 c
            refine wp_iconst (v := (1 : Int32)) dL_law_205 (by decide) ?_
            refine wp_goto (tgt := 210) dL_law_206 (by decide) ?_
            refine wp_callV (q := 47) (As := [.int (P.2 (x3 + (1 : Int32)).toNatClampNeg), .int (P.2 (x3 + (2 : Int32)).toNatClampNeg), .int (1 : Int32)]) (rest := [.int r21]) dL_law_210 mX7_friends lL_22 (by decide) rfl rfl rfl rfl (Nat.le_of_ble_eq_true rfl) (Nat.le_of_ble_eq_true rfl) h ?_
            rintro rv mh2 ⟨r28, S27, rfl, rfl, h⟩
            refine wp_icmp_eq (tgt := 731) dL_law_213 (by decide) (fun c => ?_) (fun c => ?_)
            · have h := h.1 c
              refine wp_iinc (Ms := [.ref 1000, .ref 0, .ref 47, .int (x3 + (4 : Int32))]) (v := x3 + (4 : Int32)) dL_law_731 rfl rfl (by decide) rfl ?_
              refine wp_goto (tgt := 18) dL_law_734 (by decide) ?_
              exact wp_le (Ms := [.ref 1000, .ref 0, .ref 47, .int (x3 + (4 : Int32))]) ⟨Or.inr rfl, Or.inr rfl, Or.inr rfl, Or.inr rfl, trivial⟩ h
            · have h := h.2 c
              refine wp_iconst (v := (0 : Int32)) dL_law_216 (by decide) ?_
              exact h.elim
      · have h := h.2.2.1 hx
        refine wp_tableIn (off := 186) (tgt := 218) dL_law_32 (by omega) (by omega) (by rw [hx]; rfl) (by decide) ?_
        refine wp_aload_n dL_law_218 rfl rfl ?_
        refine wp_aload_n dL_law_219 rfl rfl ?_
        refine wp_iload_n dL_law_220 rfl rfl ?_
        refine wp_iconst (v := (1 : Int32)) dL_law_221 (by decide) ?_
        refine wp_iadd dL_law_222 ?_
        obtain ⟨q29, h⟩ := h
        refine wp_sld (fun h => h.1) dL_law_223 q29 ?_
        refine wp_aload_n dL_law_224 rfl rfl ?_
        refine wp_iload_n dL_law_225 rfl rfl ?_
        refine wp_iconst (v := (2 : Int32)) dL_law_226 (by decide) ?_
        refine wp_iadd dL_law_227 ?_
        obtain ⟨q30, h⟩ := h
        refine wp_sld (fun h => h.1) dL_law_228 q30 ?_
        refine wp_callV (q := 0) (As := [.int (P.2 (x3 + (1 : Int32)).toNatClampNeg), .int (P.2 (x3 + (2 : Int32)).toNatClampNeg)]) (rest := []) dL_law_229 mX6_rule lL_23 (by decide) rfl rfl rfl rfl (Nat.le_of_ble_eq_true rfl) (Nat.le_of_ble_eq_true rfl) h ?_
        rintro rv mh2 ⟨r32, S31, rfl, rfl, h⟩
        refine wp_aload_n dL_law_232 rfl rfl ?_
        refine wp_aload_n dL_law_233 rfl rfl ?_
        refine wp_iload_n dL_law_234 rfl rfl ?_
        refine wp_iconst (v := (1 : Int32)) dL_law_235 (by decide) ?_
        refine wp_iadd dL_law_236 ?_
        obtain ⟨q33, h⟩ := h
        refine wp_sld (fun h => h.1) dL_law_237 q33 ?_
        refine wp_aload_n dL_law_238 rfl rfl ?_
        refine wp_iload_n dL_law_239 rfl rfl ?_
        refine wp_iconst (v := (2 : Int32)) dL_law_240 (by decide) ?_
        refine wp_iadd dL_law_241 ?_
        obtain ⟨q34, h⟩ := h
        refine wp_sld (fun h => h.1) dL_law_242 q34 ?_
        refine wp_callV (q := 47) (As := [.int (P.2 (x3 + (1 : Int32)).toNatClampNeg), .int (P.2 (x3 + (2 : Int32)).toNatClampNeg)]) (rest := [.int r32]) dL_law_243 mX7_rule lL_27 (by decide) rfl rfl rfl rfl (Nat.le_of_ble_eq_true rfl) (Nat.le_of_ble_eq_true rfl) h ?_
        rintro rv mh2 ⟨r36, S35, rfl, rfl, h⟩
        refine wp_icmp_eq (tgt := 731) dL_law_246 (by decide) (fun c => ?_) (fun c => ?_)
        · have h := h.1 c
          refine wp_iinc (Ms := [.ref 1000, .ref 0, .ref 47, .int (x3 + (4 : Int32))]) (v := x3 + (4 : Int32)) dL_law_731 rfl rfl (by decide) rfl ?_
          refine wp_goto (tgt := 18) dL_law_734 (by decide) ?_
          exact wp_le (Ms := [.ref 1000, .ref 0, .ref 47, .int (x3 + (4 : Int32))]) ⟨Or.inr rfl, Or.inr rfl, Or.inr rfl, Or.inr rfl, trivial⟩ h
        · have h := h.2 c
          refine wp_iconst (v := (0 : Int32)) dL_law_249 (by decide) ?_
          exact h.elim
      · have h := h.2.2.2.1 hx
        refine wp_tableIn (off := 219) (tgt := 251) dL_law_32 (by omega) (by omega) (by rw [hx]; rfl) (by decide) ?_
        refine wp_aload_n dL_law_251 rfl rfl ?_
        refine wp_aload_n dL_law_252 rfl rfl ?_
        refine wp_iload_n dL_law_253 rfl rfl ?_
        refine wp_iconst (v := (1 : Int32)) dL_law_254 (by decide) ?_
        refine wp_iadd dL_law_255 ?_
        obtain ⟨q37, h⟩ := h
        refine wp_sld (fun h => h.1) dL_law_256 q37 ?_
        refine wp_callV (q := 0) (As := [.int (P.2 (x3 + (1 : Int32)).toNatClampNeg)]) (rest := []) dL_law_257 mX6_may lL_28 (by decide) rfl rfl rfl rfl (Nat.le_of_ble_eq_true rfl) (Nat.le_of_ble_eq_true rfl) h ?_
        rintro rv mh2 ⟨r39, S38, rfl, rfl, h⟩
        refine wp_aload_n dL_law_260 rfl rfl ?_
        refine wp_aload_n dL_law_261 rfl rfl ?_
        refine wp_iload_n dL_law_262 rfl rfl ?_
        refine wp_iconst (v := (1 : Int32)) dL_law_263 (by decide) ?_
        refine wp_iadd dL_law_264 ?_
        obtain ⟨q40, h⟩ := h
        refine wp_sld (fun h => h.1) dL_law_265 q40 ?_
        refine wp_callV (q := 47) (As := [.int (P.2 (x3 + (1 : Int32)).toNatClampNeg)]) (rest := [.int r39]) dL_law_266 mX7_may lL_31 (by decide) rfl rfl rfl rfl (Nat.le_of_ble_eq_true rfl) (Nat.le_of_ble_eq_true rfl) h ?_
        rintro rv mh2 ⟨r42, S41, rfl, rfl, h⟩
        refine wp_icmp_eq (tgt := 731) dL_law_269 (by decide) (fun c => ?_) (fun c => ?_)
        · have h := h.1 c
          refine wp_iinc (Ms := [.ref 1000, .ref 0, .ref 47, .int (x3 + (4 : Int32))]) (v := x3 + (4 : Int32)) dL_law_731 rfl rfl (by decide) rfl ?_
          refine wp_goto (tgt := 18) dL_law_734 (by decide) ?_
          exact wp_le (Ms := [.ref 1000, .ref 0, .ref 47, .int (x3 + (4 : Int32))]) ⟨Or.inr rfl, Or.inr rfl, Or.inr rfl, Or.inr rfl, trivial⟩ h
        · have h := h.2 c
          refine wp_iconst (v := (0 : Int32)) dL_law_272 (by decide) ?_
          exact h.elim
      · have h := h.2.2.2.2.1 hx
        refine wp_tableIn (off := 242) (tgt := 274) dL_law_32 (by omega) (by omega) (by rw [hx]; rfl) (by decide) ?_
        refine wp_aload_n dL_law_274 rfl rfl ?_
        refine wp_aload_n dL_law_275 rfl rfl ?_
        refine wp_iload_n dL_law_276 rfl rfl ?_
        refine wp_iconst (v := (1 : Int32)) dL_law_277 (by decide) ?_
        refine wp_iadd dL_law_278 ?_
        obtain ⟨q43, h⟩ := h
        refine wp_sld (fun h => h.1) dL_law_279 q43 ?_
        refine wp_callV (q := 0) (As := [.int (P.2 (x3 + (1 : Int32)).toNatClampNeg)]) (rest := []) dL_law_280 mX6_plan lL_32 (by decide) rfl rfl rfl rfl (Nat.le_of_ble_eq_true rfl) (Nat.le_of_ble_eq_true rfl) h ?_
        rintro rv mh2 ⟨r45, S44, rfl, rfl, h⟩
        refine wp_aload_n dL_law_283 rfl rfl ?_
        refine wp_aload_n dL_law_284 rfl rfl ?_
        refine wp_iload_n dL_law_285 rfl rfl ?_
        refine wp_iconst (v := (1 : Int32)) dL_law_286 (by decide) ?_
        refine wp_iadd dL_law_287 ?_
        obtain ⟨q46, h⟩ := h
        refine wp_sld (fun h => h.1) dL_law_288 q46 ?_
        refine wp_callV (q := 47) (As := [.int (P.2 (x3 + (1 : Int32)).toNatClampNeg)]) (rest := [.int r45]) dL_law_289 mX7_plan lL_35 (by decide) rfl rfl rfl rfl (Nat.le_of_ble_eq_true rfl) (Nat.le_of_ble_eq_true rfl) h ?_
        rintro rv mh2 ⟨r48, S47, rfl, rfl, h⟩
        refine wp_icmp_eq (tgt := 731) dL_law_292 (by decide) (fun c => ?_) (fun c => ?_)
        · have h := h.1 c
          refine wp_iinc (Ms := [.ref 1000, .ref 0, .ref 47, .int (x3 + (4 : Int32))]) (v := x3 + (4 : Int32)) dL_law_731 rfl rfl (by decide) rfl ?_
          refine wp_goto (tgt := 18) dL_law_734 (by decide) ?_
          exact wp_le (Ms := [.ref 1000, .ref 0, .ref 47, .int (x3 + (4 : Int32))]) ⟨Or.inr rfl, Or.inr rfl, Or.inr rfl, Or.inr rfl, trivial⟩ h
        · have h := h.2 c
          refine wp_iconst (v := (0 : Int32)) dL_law_295 (by decide) ?_
          exact h.elim
      · have h := h.2.2.2.2.2.1 hx
        refine wp_tableIn (off := 265) (tgt := 297) dL_law_32 (by omega) (by omega) (by rw [hx]; rfl) (by decide) ?_
        refine wp_aload_n dL_law_297 rfl rfl ?_
        refine wp_aload_n dL_law_298 rfl rfl ?_
        refine wp_iload_n dL_law_299 rfl rfl ?_
        refine wp_iconst (v := (1 : Int32)) dL_law_300 (by decide) ?_
        refine wp_iadd dL_law_301 ?_
        obtain ⟨q49, h⟩ := h
        refine wp_sld (fun h => h.1) dL_law_302 q49 ?_
        refine wp_callV (q := 0) (As := [.int (P.2 (x3 + (1 : Int32)).toNatClampNeg)]) (rest := []) dL_law_303 mX6_shared lL_36 (by decide) rfl rfl rfl rfl (Nat.le_of_ble_eq_true rfl) (Nat.le_of_ble_eq_true rfl) h ?_
        rintro rv mh2 ⟨r51, S50, rfl, rfl, h⟩
        refine wp_aload_n dL_law_306 rfl rfl ?_
        refine wp_aload_n dL_law_307 rfl rfl ?_
        refine wp_iload_n dL_law_308 rfl rfl ?_
        refine wp_iconst (v := (1 : Int32)) dL_law_309 (by decide) ?_
        refine wp_iadd dL_law_310 ?_
        obtain ⟨q52, h⟩ := h
        refine wp_sld (fun h => h.1) dL_law_311 q52 ?_
        refine wp_callV (q := 47) (As := [.int (P.2 (x3 + (1 : Int32)).toNatClampNeg)]) (rest := [.int r51]) dL_law_312 mX7_shared lL_39 (by decide) rfl rfl rfl rfl (Nat.le_of_ble_eq_true rfl) (Nat.le_of_ble_eq_true rfl) h ?_
        rintro rv mh2 ⟨r54, S53, rfl, rfl, h⟩
        refine wp_icmp_eq (tgt := 731) dL_law_315 (by decide) (fun c => ?_) (fun c => ?_)
        · have h := h.1 c
          refine wp_iinc (Ms := [.ref 1000, .ref 0, .ref 47, .int (x3 + (4 : Int32))]) (v := x3 + (4 : Int32)) dL_law_731 rfl rfl (by decide) rfl ?_
          refine wp_goto (tgt := 18) dL_law_734 (by decide) ?_
          exact wp_le (Ms := [.ref 1000, .ref 0, .ref 47, .int (x3 + (4 : Int32))]) ⟨Or.inr rfl, Or.inr rfl, Or.inr rfl, Or.inr rfl, trivial⟩ h
        · have h := h.2 c
          refine wp_iconst (v := (0 : Int32)) dL_law_318 (by decide) ?_
          exact h.elim
      · have h := h.2.2.2.2.2.2.1 hx
        refine wp_tableIn (off := 288) (tgt := 320) dL_law_32 (by omega) (by omega) (by rw [hx]; rfl) (by decide) ?_
        refine wp_aload_n dL_law_320 rfl rfl ?_
        refine wp_callV (q := 0) (As := []) (rest := []) dL_law_321 mX6_lack lL_40 (by decide) rfl rfl rfl rfl (Nat.le_of_ble_eq_true rfl) (Nat.le_of_ble_eq_true rfl) h ?_
        rintro rv mh2 ⟨r56, S55, rfl, rfl, h⟩
        refine wp_aload_n dL_law_324 rfl rfl ?_
        refine wp_callV (q := 47) (As := []) (rest := [.int r56]) dL_law_325 mX7_lack lL_44 (by decide) rfl rfl rfl rfl (Nat.le_of_ble_eq_true rfl) (Nat.le_of_ble_eq_true rfl) h ?_
        rintro rv mh2 ⟨r58, S57, rfl, rfl, h⟩
        refine wp_icmp_eq (tgt := 731) dL_law_328 (by decide) (fun c => ?_) (fun c => ?_)
        · have h := h.1 c
          refine wp_iinc (Ms := [.ref 1000, .ref 0, .ref 47, .int (x3 + (4 : Int32))]) (v := x3 + (4 : Int32)) dL_law_731 rfl rfl (by decide) rfl ?_
          refine wp_goto (tgt := 18) dL_law_734 (by decide) ?_
          exact wp_le (Ms := [.ref 1000, .ref 0, .ref 47, .int (x3 + (4 : Int32))]) ⟨Or.inr rfl, Or.inr rfl, Or.inr rfl, Or.inr rfl, trivial⟩ h
        · have h := h.2 c
          refine wp_iconst (v := (0 : Int32)) dL_law_331 (by decide) ?_
          exact h.elim
      · have h := h.2.2.2.2.2.2.2.1 hx
        refine wp_tableIn (off := 301) (tgt := 333) dL_law_32 (by omega) (by omega) (by rw [hx]; rfl) (by decide) ?_
        refine wp_aload_n dL_law_333 rfl rfl ?_
        refine wp_callV (q := 0) (As := []) (rest := []) dL_law_334 mX6_parts lL_45 (by decide) rfl rfl rfl rfl (Nat.le_of_ble_eq_true rfl) (Nat.le_of_ble_eq_true rfl) h ?_
        rintro rv mh2 ⟨r60, S59, rfl, rfl, h⟩
        refine wp_aload_n dL_law_337 rfl rfl ?_
        refine wp_callV (q := 47) (As := []) (rest := [.int r60]) dL_law_338 mX7_parts lL_48 (by decide) rfl rfl rfl rfl (Nat.le_of_ble_eq_true rfl) (Nat.le_of_ble_eq_true rfl) h ?_
        rintro rv mh2 ⟨r62, S61, rfl, rfl, h⟩
        refine wp_icmp_eq (tgt := 731) dL_law_341 (by decide) (fun c => ?_) (fun c => ?_)
        · have h := h.1 c
          refine wp_iinc (Ms := [.ref 1000, .ref 0, .ref 47, .int (x3 + (4 : Int32))]) (v := x3 + (4 : Int32)) dL_law_731 rfl rfl (by decide) rfl ?_
          refine wp_goto (tgt := 18) dL_law_734 (by decide) ?_
          exact wp_le (Ms := [.ref 1000, .ref 0, .ref 47, .int (x3 + (4 : Int32))]) ⟨Or.inr rfl, Or.inr rfl, Or.inr rfl, Or.inr rfl, trivial⟩ h
        · have h := h.2 c
          refine wp_iconst (v := (0 : Int32)) dL_law_344 (by decide) ?_
          exact h.elim
      · have h := h.2.2.2.2.2.2.2.2.1 hx
        refine wp_tableIn (off := 314) (tgt := 346) dL_law_32 (by omega) (by omega) (by rw [hx]; rfl) (by decide) ?_
        refine wp_aload_n dL_law_346 rfl rfl ?_
        refine wp_aload_n dL_law_347 rfl rfl ?_
        refine wp_iload_n dL_law_348 rfl rfl ?_
        refine wp_iconst (v := (1 : Int32)) dL_law_349 (by decide) ?_
        refine wp_iadd dL_law_350 ?_
        obtain ⟨q63, h⟩ := h
        refine wp_sld (fun h => h.1) dL_law_351 q63 ?_
        refine wp_aload_n dL_law_352 rfl rfl ?_
        refine wp_iload_n dL_law_353 rfl rfl ?_
        refine wp_iconst (v := (2 : Int32)) dL_law_354 (by decide) ?_
        refine wp_iadd dL_law_355 ?_
        obtain ⟨q64, h⟩ := h
        refine wp_sld (fun h => h.1) dL_law_356 q64 ?_
        refine wp_aload_n dL_law_357 rfl rfl ?_
        refine wp_iload_n dL_law_358 rfl rfl ?_
        refine wp_iconst (v := (3 : Int32)) dL_law_359 (by decide) ?_
        refine wp_iadd dL_law_360 ?_
        obtain ⟨q65, h⟩ := h
        refine wp_sld (fun h => h.1) dL_law_361 q65 ?_
        refine wp_callV (q := 0) (As := [.int (P.2 (x3 + (1 : Int32)).toNatClampNeg), .int (P.2 (x3 + (2 : Int32)).toNatClampNeg), .int (P.2 (x3 + (3 : Int32)).toNatClampNeg)]) (rest := []) dL_law_362 mX6_mark lL_49 (by decide) rfl rfl rfl rfl (Nat.le_of_ble_eq_true rfl) (Nat.le_of_ble_eq_true rfl) h ?_
        rintro rv mh2 ⟨r67, S66, rfl, rfl, h⟩
        refine wp_aload_n dL_law_365 rfl rfl ?_
        refine wp_aload_n dL_law_366 rfl rfl ?_
        refine wp_iload_n dL_law_367 rfl rfl ?_
        refine wp_iconst (v := (1 : Int32)) dL_law_368 (by decide) ?_
        refine wp_iadd dL_law_369 ?_
        obtain ⟨q68, h⟩ := h
        refine wp_sld (fun h => h.1) dL_law_370 q68 ?_
        refine wp_aload_n dL_law_371 rfl rfl ?_
        refine wp_iload_n dL_law_372 rfl rfl ?_
        refine wp_iconst (v := (2 : Int32)) dL_law_373 (by decide) ?_
        refine wp_iadd dL_law_374 ?_
        obtain ⟨q69, h⟩ := h
        refine wp_sld (fun h => h.1) dL_law_375 q69 ?_
        refine wp_aload_n dL_law_376 rfl rfl ?_
        refine wp_iload_n dL_law_377 rfl rfl ?_
        refine wp_iconst (v := (3 : Int32)) dL_law_378 (by decide) ?_
        refine wp_iadd dL_law_379 ?_
        obtain ⟨q70, h⟩ := h
        refine wp_sld (fun h => h.1) dL_law_380 q70 ?_
        refine wp_callV (q := 47) (As := [.int (P.2 (x3 + (1 : Int32)).toNatClampNeg), .int (P.2 (x3 + (2 : Int32)).toNatClampNeg), .int (P.2 (x3 + (3 : Int32)).toNatClampNeg)]) (rest := [.int r67]) dL_law_381 mX7_mark lL_53 (by decide) rfl rfl rfl rfl (Nat.le_of_ble_eq_true rfl) (Nat.le_of_ble_eq_true rfl) h ?_
        rintro rv mh2 ⟨r72, S71, rfl, rfl, h⟩
        refine wp_icmp_eq (tgt := 731) dL_law_384 (by decide) (fun c => ?_) (fun c => ?_)
        · have h := h.1 c
          refine wp_iinc (Ms := [.ref 1000, .ref 0, .ref 47, .int (x3 + (4 : Int32))]) (v := x3 + (4 : Int32)) dL_law_731 rfl rfl (by decide) rfl ?_
          refine wp_goto (tgt := 18) dL_law_734 (by decide) ?_
          exact wp_le (Ms := [.ref 1000, .ref 0, .ref 47, .int (x3 + (4 : Int32))]) ⟨Or.inr rfl, Or.inr rfl, Or.inr rfl, Or.inr rfl, trivial⟩ h
        · have h := h.2 c
          refine wp_iconst (v := (0 : Int32)) dL_law_387 (by decide) ?_
          exact h.elim
      · have h := h.2.2.2.2.2.2.2.2.2.1 hx
        refine wp_tableIn (off := 357) (tgt := 389) dL_law_32 (by omega) (by omega) (by rw [hx]; rfl) (by decide) ?_
        refine wp_aload_n dL_law_389 rfl rfl ?_
        refine wp_aload_n dL_law_390 rfl rfl ?_
        refine wp_iload_n dL_law_391 rfl rfl ?_
        refine wp_iconst (v := (1 : Int32)) dL_law_392 (by decide) ?_
        refine wp_iadd dL_law_393 ?_
        obtain ⟨q73, h⟩ := h
        refine wp_sld (fun h => h.1) dL_law_394 q73 ?_
        refine wp_aload_n dL_law_395 rfl rfl ?_
        refine wp_iload_n dL_law_396 rfl rfl ?_
        refine wp_iconst (v := (2 : Int32)) dL_law_397 (by decide) ?_
        refine wp_iadd dL_law_398 ?_
        obtain ⟨q74, h⟩ := h
        refine wp_sld (fun h => h.1) dL_law_399 q74 ?_
        refine wp_callV (q := 0) (As := [.int (P.2 (x3 + (1 : Int32)).toNatClampNeg), .int (P.2 (x3 + (2 : Int32)).toNatClampNeg)]) (rest := []) dL_law_400 mX6_staff lL_54 (by decide) rfl rfl rfl rfl (Nat.le_of_ble_eq_true rfl) (Nat.le_of_ble_eq_true rfl) h ?_
        rintro rv mh2 ⟨r76, S75, rfl, rfl, h⟩
        refine wp_aload_n dL_law_403 rfl rfl ?_
        refine wp_aload_n dL_law_404 rfl rfl ?_
        refine wp_iload_n dL_law_405 rfl rfl ?_
        refine wp_iconst (v := (1 : Int32)) dL_law_406 (by decide) ?_
        refine wp_iadd dL_law_407 ?_
        obtain ⟨q77, h⟩ := h
        refine wp_sld (fun h => h.1) dL_law_408 q77 ?_
        refine wp_aload_n dL_law_409 rfl rfl ?_
        refine wp_iload_n dL_law_410 rfl rfl ?_
        refine wp_iconst (v := (2 : Int32)) dL_law_411 (by decide) ?_
        refine wp_iadd dL_law_412 ?_
        obtain ⟨q78, h⟩ := h
        refine wp_sld (fun h => h.1) dL_law_413 q78 ?_
        refine wp_callV (q := 47) (As := [.int (P.2 (x3 + (1 : Int32)).toNatClampNeg), .int (P.2 (x3 + (2 : Int32)).toNatClampNeg)]) (rest := [.int r76]) dL_law_414 mX7_staff lL_57 (by decide) rfl rfl rfl rfl (Nat.le_of_ble_eq_true rfl) (Nat.le_of_ble_eq_true rfl) h ?_
        rintro rv mh2 ⟨r80, S79, rfl, rfl, h⟩
        refine wp_icmp_eq (tgt := 731) dL_law_417 (by decide) (fun c => ?_) (fun c => ?_)
        · have h := h.1 c
          refine wp_iinc (Ms := [.ref 1000, .ref 0, .ref 47, .int (x3 + (4 : Int32))]) (v := x3 + (4 : Int32)) dL_law_731 rfl rfl (by decide) rfl ?_
          refine wp_goto (tgt := 18) dL_law_734 (by decide) ?_
          exact wp_le (Ms := [.ref 1000, .ref 0, .ref 47, .int (x3 + (4 : Int32))]) ⟨Or.inr rfl, Or.inr rfl, Or.inr rfl, Or.inr rfl, trivial⟩ h
        · have h := h.2 c
          refine wp_iconst (v := (0 : Int32)) dL_law_420 (by decide) ?_
          exact h.elim
      · have h := h.2.2.2.2.2.2.2.2.2.2.1 hx
        refine wp_tableIn (off := 390) (tgt := 422) dL_law_32 (by omega) (by omega) (by rw [hx]; rfl) (by decide) ?_
        refine wp_aload_n dL_law_422 rfl rfl ?_
        refine wp_aload_n dL_law_423 rfl rfl ?_
        refine wp_iload_n dL_law_424 rfl rfl ?_
        refine wp_iconst (v := (1 : Int32)) dL_law_425 (by decide) ?_
        refine wp_iadd dL_law_426 ?_
        obtain ⟨q81, h⟩ := h
        refine wp_sld (fun h => h.1) dL_law_427 q81 ?_
        refine wp_callV (q := 0) (As := [.int (P.2 (x3 + (1 : Int32)).toNatClampNeg)]) (rest := []) dL_law_428 mX6_count lL_58 (by decide) rfl rfl rfl rfl (Nat.le_of_ble_eq_true rfl) (Nat.le_of_ble_eq_true rfl) h ?_
        rintro rv mh2 ⟨r83, S82, rfl, rfl, h⟩
        refine wp_aload_n dL_law_431 rfl rfl ?_
        refine wp_aload_n dL_law_432 rfl rfl ?_
        refine wp_iload_n dL_law_433 rfl rfl ?_
        refine wp_iconst (v := (1 : Int32)) dL_law_434 (by decide) ?_
        refine wp_iadd dL_law_435 ?_
        obtain ⟨q84, h⟩ := h
        refine wp_sld (fun h => h.1) dL_law_436 q84 ?_
        refine wp_callV (q := 47) (As := [.int (P.2 (x3 + (1 : Int32)).toNatClampNeg)]) (rest := [.int r83]) dL_law_437 mX7_count lL_61 (by decide) rfl rfl rfl rfl (Nat.le_of_ble_eq_true rfl) (Nat.le_of_ble_eq_true rfl) h ?_
        rintro rv mh2 ⟨r86, S85, rfl, rfl, h⟩
        refine wp_icmp_eq (tgt := 731) dL_law_440 (by decide) (fun c => ?_) (fun c => ?_)
        · have h := h.1 c
          refine wp_iinc (Ms := [.ref 1000, .ref 0, .ref 47, .int (x3 + (4 : Int32))]) (v := x3 + (4 : Int32)) dL_law_731 rfl rfl (by decide) rfl ?_
          refine wp_goto (tgt := 18) dL_law_734 (by decide) ?_
          exact wp_le (Ms := [.ref 1000, .ref 0, .ref 47, .int (x3 + (4 : Int32))]) ⟨Or.inr rfl, Or.inr rfl, Or.inr rfl, Or.inr rfl, trivial⟩ h
        · have h := h.2 c
          refine wp_iconst (v := (0 : Int32)) dL_law_443 (by decide) ?_
          exact h.elim
      · have h := h.2.2.2.2.2.2.2.2.2.2.2.1 hx
        refine wp_tableIn (off := 413) (tgt := 445) dL_law_32 (by omega) (by omega) (by rw [hx]; rfl) (by decide) ?_
        refine wp_aload_n dL_law_445 rfl rfl ?_
        refine wp_aload_n dL_law_446 rfl rfl ?_
        refine wp_iload_n dL_law_447 rfl rfl ?_
        refine wp_iconst (v := (1 : Int32)) dL_law_448 (by decide) ?_
        refine wp_iadd dL_law_449 ?_
        obtain ⟨q87, h⟩ := h
        refine wp_sld (fun h => h.1) dL_law_450 q87 ?_
        refine wp_aload_n dL_law_451 rfl rfl ?_
        refine wp_iload_n dL_law_452 rfl rfl ?_
        refine wp_iconst (v := (2 : Int32)) dL_law_453 (by decide) ?_
        refine wp_iadd dL_law_454 ?_
        obtain ⟨q88, h⟩ := h
        refine wp_sld (fun h => h.1) dL_law_455 q88 ?_
        refine wp_callV (q := 0) (As := [.int (P.2 (x3 + (1 : Int32)).toNatClampNeg), .int (P.2 (x3 + (2 : Int32)).toNatClampNeg)]) (rest := []) dL_law_456 mX6_piece lL_62 (by decide) rfl rfl rfl rfl (Nat.le_of_ble_eq_true rfl) (Nat.le_of_ble_eq_true rfl) h ?_
        rintro rv mh2 ⟨r90, S89, rfl, rfl, h⟩
        refine wp_aload_n dL_law_459 rfl rfl ?_
        refine wp_aload_n dL_law_460 rfl rfl ?_
        refine wp_iload_n dL_law_461 rfl rfl ?_
        refine wp_iconst (v := (1 : Int32)) dL_law_462 (by decide) ?_
        refine wp_iadd dL_law_463 ?_
        obtain ⟨q91, h⟩ := h
        refine wp_sld (fun h => h.1) dL_law_464 q91 ?_
        refine wp_aload_n dL_law_465 rfl rfl ?_
        refine wp_iload_n dL_law_466 rfl rfl ?_
        refine wp_iconst (v := (2 : Int32)) dL_law_467 (by decide) ?_
        refine wp_iadd dL_law_468 ?_
        obtain ⟨q92, h⟩ := h
        refine wp_sld (fun h => h.1) dL_law_469 q92 ?_
        refine wp_callV (q := 47) (As := [.int (P.2 (x3 + (1 : Int32)).toNatClampNeg), .int (P.2 (x3 + (2 : Int32)).toNatClampNeg)]) (rest := [.int r90]) dL_law_470 mX7_piece lL_65 (by decide) rfl rfl rfl rfl (Nat.le_of_ble_eq_true rfl) (Nat.le_of_ble_eq_true rfl) h ?_
        rintro rv mh2 ⟨r94, S93, rfl, rfl, h⟩
        refine wp_icmp_eq (tgt := 731) dL_law_473 (by decide) (fun c => ?_) (fun c => ?_)
        · have h := h.1 c
          refine wp_iinc (Ms := [.ref 1000, .ref 0, .ref 47, .int (x3 + (4 : Int32))]) (v := x3 + (4 : Int32)) dL_law_731 rfl rfl (by decide) rfl ?_
          refine wp_goto (tgt := 18) dL_law_734 (by decide) ?_
          exact wp_le (Ms := [.ref 1000, .ref 0, .ref 47, .int (x3 + (4 : Int32))]) ⟨Or.inr rfl, Or.inr rfl, Or.inr rfl, Or.inr rfl, trivial⟩ h
        · have h := h.2 c
          refine wp_iconst (v := (0 : Int32)) dL_law_476 (by decide) ?_
          exact h.elim
      · have h := h.2.2.2.2.2.2.2.2.2.2.2.2.1 hx
        refine wp_tableIn (off := 446) (tgt := 478) dL_law_32 (by omega) (by omega) (by rw [hx]; rfl) (by decide) ?_
        refine wp_aload_n dL_law_478 rfl rfl ?_
        refine wp_aload_n dL_law_479 rfl rfl ?_
        refine wp_iload_n dL_law_480 rfl rfl ?_
        refine wp_iconst (v := (1 : Int32)) dL_law_481 (by decide) ?_
        refine wp_iadd dL_law_482 ?_
        obtain ⟨q95, h⟩ := h
        refine wp_sld (fun h => h.1) dL_law_483 q95 ?_
        refine wp_aload_n dL_law_484 rfl rfl ?_
        refine wp_iload_n dL_law_485 rfl rfl ?_
        refine wp_iconst (v := (2 : Int32)) dL_law_486 (by decide) ?_
        refine wp_iadd dL_law_487 ?_
        obtain ⟨q96, h⟩ := h
        refine wp_sld (fun h => h.1) dL_law_488 q96 ?_
        refine wp_callV (q := 0) (As := [.int (P.2 (x3 + (1 : Int32)).toNatClampNeg), .int (P.2 (x3 + (2 : Int32)).toNatClampNeg)]) (rest := []) dL_law_489 mX6_worth lL_66 (by decide) rfl rfl rfl rfl (Nat.le_of_ble_eq_true rfl) (Nat.le_of_ble_eq_true rfl) h ?_
        rintro rv mh2 ⟨r98, S97, rfl, rfl, h⟩
        refine wp_aload_n dL_law_492 rfl rfl ?_
        refine wp_aload_n dL_law_493 rfl rfl ?_
        refine wp_iload_n dL_law_494 rfl rfl ?_
        refine wp_iconst (v := (1 : Int32)) dL_law_495 (by decide) ?_
        refine wp_iadd dL_law_496 ?_
        obtain ⟨q99, h⟩ := h
        refine wp_sld (fun h => h.1) dL_law_497 q99 ?_
        refine wp_aload_n dL_law_498 rfl rfl ?_
        refine wp_iload_n dL_law_499 rfl rfl ?_
        refine wp_iconst (v := (2 : Int32)) dL_law_500 (by decide) ?_
        refine wp_iadd dL_law_501 ?_
        obtain ⟨q100, h⟩ := h
        refine wp_sld (fun h => h.1) dL_law_502 q100 ?_
        refine wp_callV (q := 47) (As := [.int (P.2 (x3 + (1 : Int32)).toNatClampNeg), .int (P.2 (x3 + (2 : Int32)).toNatClampNeg)]) (rest := [.long r98]) dL_law_503 mX7_worth lL_70 (by decide) rfl rfl rfl rfl (Nat.le_of_ble_eq_true rfl) (Nat.le_of_ble_eq_true rfl) h ?_
        rintro rv mh2 ⟨r102, S101, rfl, rfl, h⟩
        refine wp_lcmp dL_law_506 ?_
        refine wp_if_eq (tgt := 731) dL_law_507 (by decide) (fun c => ?_) (fun c => ?_)
        · have h := h.1 c
          refine wp_iinc (Ms := [.ref 1000, .ref 0, .ref 47, .int (x3 + (4 : Int32))]) (v := x3 + (4 : Int32)) dL_law_731 rfl rfl (by decide) rfl ?_
          refine wp_goto (tgt := 18) dL_law_734 (by decide) ?_
          exact wp_le (Ms := [.ref 1000, .ref 0, .ref 47, .int (x3 + (4 : Int32))]) ⟨Or.inr rfl, Or.inr rfl, Or.inr rfl, Or.inr rfl, trivial⟩ h
        · have h := h.2 c
          refine wp_iconst (v := (0 : Int32)) dL_law_510 (by decide) ?_
          exact h.elim
      · have h := h.2.2.2.2.2.2.2.2.2.2.2.2.2.1 hx
        refine wp_tableIn (off := 480) (tgt := 512) dL_law_32 (by omega) (by omega) (by rw [hx]; rfl) (by decide) ?_
        refine wp_aload_n dL_law_512 rfl rfl ?_
        refine wp_aload_n dL_law_513 rfl rfl ?_
        refine wp_iload_n dL_law_514 rfl rfl ?_
        refine wp_iconst (v := (1 : Int32)) dL_law_515 (by decide) ?_
        refine wp_iadd dL_law_516 ?_
        obtain ⟨q103, h⟩ := h
        refine wp_sld (fun h => h.1) dL_law_517 q103 ?_
        refine wp_aload_n dL_law_518 rfl rfl ?_
        refine wp_iload_n dL_law_519 rfl rfl ?_
        refine wp_iconst (v := (2 : Int32)) dL_law_520 (by decide) ?_
        refine wp_iadd dL_law_521 ?_
        obtain ⟨q104, h⟩ := h
        refine wp_sld (fun h => h.1) dL_law_522 q104 ?_
        refine wp_callV (q := 0) (As := [.int (P.2 (x3 + (1 : Int32)).toNatClampNeg), .int (P.2 (x3 + (2 : Int32)).toNatClampNeg)]) (rest := []) dL_law_523 mX6_lean lL_71 (by decide) rfl rfl rfl rfl (Nat.le_of_ble_eq_true rfl) (Nat.le_of_ble_eq_true rfl) h ?_
        rintro rv mh2 ⟨r106, S105, rfl, rfl, h⟩
        refine wp_aload_n dL_law_526 rfl rfl ?_
        refine wp_aload_n dL_law_527 rfl rfl ?_
        refine wp_iload_n dL_law_528 rfl rfl ?_
        refine wp_iconst (v := (1 : Int32)) dL_law_529 (by decide) ?_
        refine wp_iadd dL_law_530 ?_
        obtain ⟨q107, h⟩ := h
        refine wp_sld (fun h => h.1) dL_law_531 q107 ?_
        refine wp_aload_n dL_law_532 rfl rfl ?_
        refine wp_iload_n dL_law_533 rfl rfl ?_
        refine wp_iconst (v := (2 : Int32)) dL_law_534 (by decide) ?_
        refine wp_iadd dL_law_535 ?_
        obtain ⟨q108, h⟩ := h
        refine wp_sld (fun h => h.1) dL_law_536 q108 ?_
        refine wp_callV (q := 47) (As := [.int (P.2 (x3 + (1 : Int32)).toNatClampNeg), .int (P.2 (x3 + (2 : Int32)).toNatClampNeg)]) (rest := [.long r106]) dL_law_537 mX7_lean lL_74 (by decide) rfl rfl rfl rfl (Nat.le_of_ble_eq_true rfl) (Nat.le_of_ble_eq_true rfl) h ?_
        rintro rv mh2 ⟨r110, S109, rfl, rfl, h⟩
        refine wp_lcmp dL_law_540 ?_
        refine wp_if_eq (tgt := 731) dL_law_541 (by decide) (fun c => ?_) (fun c => ?_)
        · have h := h.1 c
          refine wp_iinc (Ms := [.ref 1000, .ref 0, .ref 47, .int (x3 + (4 : Int32))]) (v := x3 + (4 : Int32)) dL_law_731 rfl rfl (by decide) rfl ?_
          refine wp_goto (tgt := 18) dL_law_734 (by decide) ?_
          exact wp_le (Ms := [.ref 1000, .ref 0, .ref 47, .int (x3 + (4 : Int32))]) ⟨Or.inr rfl, Or.inr rfl, Or.inr rfl, Or.inr rfl, trivial⟩ h
        · have h := h.2 c
          refine wp_iconst (v := (0 : Int32)) dL_law_544 (by decide) ?_
          exact h.elim
      · have h := h.2.2.2.2.2.2.2.2.2.2.2.2.2.2.1 hx
        refine wp_tableIn (off := 514) (tgt := 546) dL_law_32 (by omega) (by omega) (by rw [hx]; rfl) (by decide) ?_
        refine wp_aload_n dL_law_546 rfl rfl ?_
        refine wp_aload_n dL_law_547 rfl rfl ?_
        refine wp_iload_n dL_law_548 rfl rfl ?_
        refine wp_iconst (v := (1 : Int32)) dL_law_549 (by decide) ?_
        refine wp_iadd dL_law_550 ?_
        obtain ⟨q111, h⟩ := h
        refine wp_sld (fun h => h.1) dL_law_551 q111 ?_
        refine wp_aload_n dL_law_552 rfl rfl ?_
        refine wp_iload_n dL_law_553 rfl rfl ?_
        refine wp_iconst (v := (2 : Int32)) dL_law_554 (by decide) ?_
        refine wp_iadd dL_law_555 ?_
        obtain ⟨q112, h⟩ := h
        refine wp_sld (fun h => h.1) dL_law_556 q112 ?_
        refine wp_aload_n dL_law_557 rfl rfl ?_
        refine wp_iload_n dL_law_558 rfl rfl ?_
        refine wp_iconst (v := (3 : Int32)) dL_law_559 (by decide) ?_
        refine wp_iadd dL_law_560 ?_
        obtain ⟨q113, h⟩ := h
        refine wp_sld (fun h => h.1) dL_law_561 q113 ?_
        refine wp_callV (q := 0) (As := [.int (P.2 (x3 + (1 : Int32)).toNatClampNeg), .int (P.2 (x3 + (2 : Int32)).toNatClampNeg), .int (P.2 (x3 + (3 : Int32)).toNatClampNeg)]) (rest := []) dL_law_562 mX6_left lL_75 (by decide) rfl rfl rfl rfl (Nat.le_of_ble_eq_true rfl) (Nat.le_of_ble_eq_true rfl) h ?_
        rintro rv mh2 ⟨r115, S114, rfl, rfl, h⟩
        refine wp_aload_n dL_law_565 rfl rfl ?_
        refine wp_aload_n dL_law_566 rfl rfl ?_
        refine wp_iload_n dL_law_567 rfl rfl ?_
        refine wp_iconst (v := (1 : Int32)) dL_law_568 (by decide) ?_
        refine wp_iadd dL_law_569 ?_
        obtain ⟨q116, h⟩ := h
        refine wp_sld (fun h => h.1) dL_law_570 q116 ?_
        refine wp_aload_n dL_law_571 rfl rfl ?_
        refine wp_iload_n dL_law_572 rfl rfl ?_
        refine wp_iconst (v := (2 : Int32)) dL_law_573 (by decide) ?_
        refine wp_iadd dL_law_574 ?_
        obtain ⟨q117, h⟩ := h
        refine wp_sld (fun h => h.1) dL_law_575 q117 ?_
        refine wp_aload_n dL_law_576 rfl rfl ?_
        refine wp_iload_n dL_law_577 rfl rfl ?_
        refine wp_iconst (v := (3 : Int32)) dL_law_578 (by decide) ?_
        refine wp_iadd dL_law_579 ?_
        obtain ⟨q118, h⟩ := h
        refine wp_sld (fun h => h.1) dL_law_580 q118 ?_
        refine wp_callV (q := 47) (As := [.int (P.2 (x3 + (1 : Int32)).toNatClampNeg), .int (P.2 (x3 + (2 : Int32)).toNatClampNeg), .int (P.2 (x3 + (3 : Int32)).toNatClampNeg)]) (rest := [.long r115]) dL_law_581 mX7_left lL_79 (by decide) rfl rfl rfl rfl (Nat.le_of_ble_eq_true rfl) (Nat.le_of_ble_eq_true rfl) h ?_
        rintro rv mh2 ⟨r120, S119, rfl, rfl, h⟩
        refine wp_lcmp dL_law_584 ?_
        refine wp_if_eq (tgt := 731) dL_law_585 (by decide) (fun c => ?_) (fun c => ?_)
        · have h := h.1 c
          refine wp_iinc (Ms := [.ref 1000, .ref 0, .ref 47, .int (x3 + (4 : Int32))]) (v := x3 + (4 : Int32)) dL_law_731 rfl rfl (by decide) rfl ?_
          refine wp_goto (tgt := 18) dL_law_734 (by decide) ?_
          exact wp_le (Ms := [.ref 1000, .ref 0, .ref 47, .int (x3 + (4 : Int32))]) ⟨Or.inr rfl, Or.inr rfl, Or.inr rfl, Or.inr rfl, trivial⟩ h
        · have h := h.2 c
          refine wp_iconst (v := (0 : Int32)) dL_law_588 (by decide) ?_
          exact h.elim
      · have h := h.2.2.2.2.2.2.2.2.2.2.2.2.2.2.2.1 hx
        refine wp_tableIn (off := 558) (tgt := 590) dL_law_32 (by omega) (by omega) (by rw [hx]; rfl) (by decide) ?_
        refine wp_aload_n dL_law_590 rfl rfl ?_
        refine wp_aload_n dL_law_591 rfl rfl ?_
        refine wp_iload_n dL_law_592 rfl rfl ?_
        refine wp_iconst (v := (1 : Int32)) dL_law_593 (by decide) ?_
        refine wp_iadd dL_law_594 ?_
        obtain ⟨q121, h⟩ := h
        refine wp_sld (fun h => h.1) dL_law_595 q121 ?_
        refine wp_callV (q := 0) (As := [.int (P.2 (x3 + (1 : Int32)).toNatClampNeg)]) (rest := []) dL_law_596 mX6_order lL_80 (by decide) rfl rfl rfl rfl (Nat.le_of_ble_eq_true rfl) (Nat.le_of_ble_eq_true rfl) h ?_
        rintro rv mh2 ⟨r123, S122, rfl, rfl, h⟩
        refine wp_aload_n dL_law_599 rfl rfl ?_
        refine wp_aload_n dL_law_600 rfl rfl ?_
        refine wp_iload_n dL_law_601 rfl rfl ?_
        refine wp_iconst (v := (1 : Int32)) dL_law_602 (by decide) ?_
        refine wp_iadd dL_law_603 ?_
        obtain ⟨q124, h⟩ := h
        refine wp_sld (fun h => h.1) dL_law_604 q124 ?_
        refine wp_callV (q := 47) (As := [.int (P.2 (x3 + (1 : Int32)).toNatClampNeg)]) (rest := [.int r123]) dL_law_605 mX7_order lL_83 (by decide) rfl rfl rfl rfl (Nat.le_of_ble_eq_true rfl) (Nat.le_of_ble_eq_true rfl) h ?_
        rintro rv mh2 ⟨r126, S125, rfl, rfl, h⟩
        refine wp_icmp_eq (tgt := 731) dL_law_608 (by decide) (fun c => ?_) (fun c => ?_)
        · have h := h.1 c
          refine wp_iinc (Ms := [.ref 1000, .ref 0, .ref 47, .int (x3 + (4 : Int32))]) (v := x3 + (4 : Int32)) dL_law_731 rfl rfl (by decide) rfl ?_
          refine wp_goto (tgt := 18) dL_law_734 (by decide) ?_
          exact wp_le (Ms := [.ref 1000, .ref 0, .ref 47, .int (x3 + (4 : Int32))]) ⟨Or.inr rfl, Or.inr rfl, Or.inr rfl, Or.inr rfl, trivial⟩ h
        · have h := h.2 c
          refine wp_iconst (v := (0 : Int32)) dL_law_611 (by decide) ?_
          exact h.elim
      · have h := h.2.2.2.2.2.2.2.2.2.2.2.2.2.2.2.2.1 hx
        refine wp_tableIn (off := 581) (tgt := 613) dL_law_32 (by omega) (by omega) (by rw [hx]; rfl) (by decide) ?_
        refine wp_aload_n dL_law_613 rfl rfl ?_
        refine wp_callV (q := 0) (As := []) (rest := []) dL_law_614 mX6_quarrel lL_84 (by decide) rfl rfl rfl rfl (Nat.le_of_ble_eq_true rfl) (Nat.le_of_ble_eq_true rfl) h ?_
        rintro rv mh2 ⟨r128, S127, rfl, rfl, h⟩
        refine wp_aload_n dL_law_617 rfl rfl ?_
        refine wp_callV (q := 47) (As := []) (rest := [.int r128]) dL_law_618 mX7_quarrel lL_87 (by decide) rfl rfl rfl rfl (Nat.le_of_ble_eq_true rfl) (Nat.le_of_ble_eq_true rfl) h ?_
        rintro rv mh2 ⟨r130, S129, rfl, rfl, h⟩
        refine wp_icmp_eq (tgt := 731) dL_law_621 (by decide) (fun c => ?_) (fun c => ?_)
        · have h := h.1 c
          refine wp_iinc (Ms := [.ref 1000, .ref 0, .ref 47, .int (x3 + (4 : Int32))]) (v := x3 + (4 : Int32)) dL_law_731 rfl rfl (by decide) rfl ?_
          refine wp_goto (tgt := 18) dL_law_734 (by decide) ?_
          exact wp_le (Ms := [.ref 1000, .ref 0, .ref 47, .int (x3 + (4 : Int32))]) ⟨Or.inr rfl, Or.inr rfl, Or.inr rfl, Or.inr rfl, trivial⟩ h
        · have h := h.2 c
          refine wp_iconst (v := (0 : Int32)) dL_law_624 (by decide) ?_
          exact h.elim
      · have h := h.2.2.2.2.2.2.2.2.2.2.2.2.2.2.2.2.2.1 hx
        refine wp_tableIn (off := 594) (tgt := 626) dL_law_32 (by omega) (by omega) (by rw [hx]; rfl) (by decide) ?_
        refine wp_aload_n dL_law_626 rfl rfl ?_
        refine wp_aload_n dL_law_627 rfl rfl ?_
        refine wp_iload_n dL_law_628 rfl rfl ?_
        refine wp_iconst (v := (1 : Int32)) dL_law_629 (by decide) ?_
        refine wp_iadd dL_law_630 ?_
        obtain ⟨q131, h⟩ := h
        refine wp_sld (fun h => h.1) dL_law_631 q131 ?_
        refine wp_callV (q := 0) (As := [.int (P.2 (x3 + (1 : Int32)).toNatClampNeg)]) (rest := []) dL_law_632 mX6_turned lL_88 (by decide) rfl rfl rfl rfl (Nat.le_of_ble_eq_true rfl) (Nat.le_of_ble_eq_true rfl) h ?_
        rintro rv mh2 ⟨r133, S132, rfl, rfl, h⟩
        refine wp_aload_n dL_law_635 rfl rfl ?_
        refine wp_aload_n dL_law_636 rfl rfl ?_
        refine wp_iload_n dL_law_637 rfl rfl ?_
        refine wp_iconst (v := (1 : Int32)) dL_law_638 (by decide) ?_
        refine wp_iadd dL_law_639 ?_
        obtain ⟨q134, h⟩ := h
        refine wp_sld (fun h => h.1) dL_law_640 q134 ?_
        refine wp_callV (q := 47) (As := [.int (P.2 (x3 + (1 : Int32)).toNatClampNeg)]) (rest := [.int r133]) dL_law_641 mX7_turned lL_91 (by decide) rfl rfl rfl rfl (Nat.le_of_ble_eq_true rfl) (Nat.le_of_ble_eq_true rfl) h ?_
        rintro rv mh2 ⟨r136, S135, rfl, rfl, h⟩
        refine wp_icmp_eq (tgt := 731) dL_law_644 (by decide) (fun c => ?_) (fun c => ?_)
        · have h := h.1 c
          refine wp_iinc (Ms := [.ref 1000, .ref 0, .ref 47, .int (x3 + (4 : Int32))]) (v := x3 + (4 : Int32)) dL_law_731 rfl rfl (by decide) rfl ?_
          refine wp_goto (tgt := 18) dL_law_734 (by decide) ?_
          exact wp_le (Ms := [.ref 1000, .ref 0, .ref 47, .int (x3 + (4 : Int32))]) ⟨Or.inr rfl, Or.inr rfl, Or.inr rfl, Or.inr rfl, trivial⟩ h
        · have h := h.2 c
          refine wp_iconst (v := (0 : Int32)) dL_law_647 (by decide) ?_
          exact h.elim
      · have h := h.2.2.2.2.2.2.2.2.2.2.2.2.2.2.2.2.2.2.1 hx
        refine wp_tableIn (off := 617) (tgt := 649) dL_law_32 (by omega) (by omega) (by rw [hx]; rfl) (by decide) ?_
        refine wp_aload_n dL_law_649 rfl rfl ?_
        refine wp_aload_n dL_law_650 rfl rfl ?_
        refine wp_iload_n dL_law_651 rfl rfl ?_
        refine wp_iconst (v := (1 : Int32)) dL_law_652 (by decide) ?_
        refine wp_iadd dL_law_653 ?_
        obtain ⟨q137, h⟩ := h
        refine wp_sld (fun h => h.1) dL_law_654 q137 ?_
        refine wp_callV (q := 0) (As := [.int (P.2 (x3 + (1 : Int32)).toNatClampNeg)]) (rest := []) dL_law_655 mX6_moves lL_92 (by decide) rfl rfl rfl rfl (Nat.le_of_ble_eq_true rfl) (Nat.le_of_ble_eq_true rfl) h ?_
        rintro rv mh2 ⟨r139, S138, rfl, rfl, h⟩
        refine wp_aload_n dL_law_658 rfl rfl ?_
        refine wp_aload_n dL_law_659 rfl rfl ?_
        refine wp_iload_n dL_law_660 rfl rfl ?_
        refine wp_iconst (v := (1 : Int32)) dL_law_661 (by decide) ?_
        refine wp_iadd dL_law_662 ?_
        obtain ⟨q140, h⟩ := h
        refine wp_sld (fun h => h.1) dL_law_663 q140 ?_
        refine wp_callV (q := 47) (As := [.int (P.2 (x3 + (1 : Int32)).toNatClampNeg)]) (rest := [.int r139]) dL_law_664 mX7_moves lL_95 (by decide) rfl rfl rfl rfl (Nat.le_of_ble_eq_true rfl) (Nat.le_of_ble_eq_true rfl) h ?_
        rintro rv mh2 ⟨r142, S141, rfl, rfl, h⟩
        refine wp_icmp_eq (tgt := 731) dL_law_667 (by decide) (fun c => ?_) (fun c => ?_)
        · have h := h.1 c
          refine wp_iinc (Ms := [.ref 1000, .ref 0, .ref 47, .int (x3 + (4 : Int32))]) (v := x3 + (4 : Int32)) dL_law_731 rfl rfl (by decide) rfl ?_
          refine wp_goto (tgt := 18) dL_law_734 (by decide) ?_
          exact wp_le (Ms := [.ref 1000, .ref 0, .ref 47, .int (x3 + (4 : Int32))]) ⟨Or.inr rfl, Or.inr rfl, Or.inr rfl, Or.inr rfl, trivial⟩ h
        · have h := h.2 c
          refine wp_iconst (v := (0 : Int32)) dL_law_670 (by decide) ?_
          exact h.elim
      · have h := h.2.2.2.2.2.2.2.2.2.2.2.2.2.2.2.2.2.2.2.1 hx
        refine wp_tableIn (off := 640) (tgt := 672) dL_law_32 (by omega) (by omega) (by rw [hx]; rfl) (by decide) ?_
        refine wp_aload_n dL_law_672 rfl rfl ?_
        refine wp_aload_n dL_law_673 rfl rfl ?_
        refine wp_iload_n dL_law_674 rfl rfl ?_
        refine wp_iconst (v := (1 : Int32)) dL_law_675 (by decide) ?_
        refine wp_iadd dL_law_676 ?_
        obtain ⟨q143, h⟩ := h
        refine wp_sld (fun h => h.1) dL_law_677 q143 ?_
        refine wp_callV (q := 0) (As := [.int (P.2 (x3 + (1 : Int32)).toNatClampNeg)]) (rest := []) dL_law_678 mX6_spread lL_96 (by decide) rfl rfl rfl rfl (Nat.le_of_ble_eq_true rfl) (Nat.le_of_ble_eq_true rfl) h ?_
        rintro rv mh2 ⟨r145, S144, rfl, rfl, h⟩
        refine wp_aload_n dL_law_681 rfl rfl ?_
        refine wp_aload_n dL_law_682 rfl rfl ?_
        refine wp_iload_n dL_law_683 rfl rfl ?_
        refine wp_iconst (v := (1 : Int32)) dL_law_684 (by decide) ?_
        refine wp_iadd dL_law_685 ?_
        obtain ⟨q146, h⟩ := h
        refine wp_sld (fun h => h.1) dL_law_686 q146 ?_
        refine wp_callV (q := 47) (As := [.int (P.2 (x3 + (1 : Int32)).toNatClampNeg)]) (rest := [.int r145]) dL_law_687 mX7_spread_ lL_99 (by decide) rfl rfl rfl rfl (Nat.le_of_ble_eq_true rfl) (Nat.le_of_ble_eq_true rfl) h ?_
        rintro rv mh2 ⟨r148, S147, rfl, rfl, h⟩
        refine wp_icmp_eq (tgt := 731) dL_law_690 (by decide) (fun c => ?_) (fun c => ?_)
        · have h := h.1 c
          refine wp_iinc (Ms := [.ref 1000, .ref 0, .ref 47, .int (x3 + (4 : Int32))]) (v := x3 + (4 : Int32)) dL_law_731 rfl rfl (by decide) rfl ?_
          refine wp_goto (tgt := 18) dL_law_734 (by decide) ?_
          exact wp_le (Ms := [.ref 1000, .ref 0, .ref 47, .int (x3 + (4 : Int32))]) ⟨Or.inr rfl, Or.inr rfl, Or.inr rfl, Or.inr rfl, trivial⟩ h
        · have h := h.2 c
          refine wp_iconst (v := (0 : Int32)) dL_law_693 (by decide) ?_
          exact h.elim
      · have h := h.2.2.2.2.2.2.2.2.2.2.2.2.2.2.2.2.2.2.2.2.1 hx
        refine wp_tableIn (off := 663) (tgt := 695) dL_law_32 (by omega) (by omega) (by rw [hx]; rfl) (by decide) ?_
        refine wp_aload_n dL_law_695 rfl rfl ?_
        refine wp_aload_n dL_law_696 rfl rfl ?_
        refine wp_iload_n dL_law_697 rfl rfl ?_
        refine wp_iconst (v := (1 : Int32)) dL_law_698 (by decide) ?_
        refine wp_iadd dL_law_699 ?_
        obtain ⟨q149, h⟩ := h
        refine wp_sld (fun h => h.1) dL_law_700 q149 ?_
        refine wp_callV (q := 0) (As := [.int (P.2 (x3 + (1 : Int32)).toNatClampNeg)]) (rest := []) dL_law_701 mX6_next lL_100 (by decide) rfl rfl rfl rfl (Nat.le_of_ble_eq_true rfl) (Nat.le_of_ble_eq_true rfl) h ?_
        rintro rv mh2 ⟨r151, S150, rfl, rfl, h⟩
        refine wp_aload_n dL_law_704 rfl rfl ?_
        refine wp_aload_n dL_law_705 rfl rfl ?_
        refine wp_iload_n dL_law_706 rfl rfl ?_
        refine wp_iconst (v := (1 : Int32)) dL_law_707 (by decide) ?_
        refine wp_iadd dL_law_708 ?_
        obtain ⟨q152, h⟩ := h
        refine wp_sld (fun h => h.1) dL_law_709 q152 ?_
        refine wp_callV (q := 47) (As := [.int (P.2 (x3 + (1 : Int32)).toNatClampNeg)]) (rest := [.int r151]) dL_law_710 mX7_next lL_103 (by decide) rfl rfl rfl rfl (Nat.le_of_ble_eq_true rfl) (Nat.le_of_ble_eq_true rfl) h ?_
        rintro rv mh2 ⟨r154, S153, rfl, rfl, h⟩
        refine wp_icmp_eq (tgt := 731) dL_law_713 (by decide) (fun c => ?_) (fun c => ?_)
        · have h := h.1 c
          refine wp_iinc (Ms := [.ref 1000, .ref 0, .ref 47, .int (x3 + (4 : Int32))]) (v := x3 + (4 : Int32)) dL_law_731 rfl rfl (by decide) rfl ?_
          refine wp_goto (tgt := 18) dL_law_734 (by decide) ?_
          exact wp_le (Ms := [.ref 1000, .ref 0, .ref 47, .int (x3 + (4 : Int32))]) ⟨Or.inr rfl, Or.inr rfl, Or.inr rfl, Or.inr rfl, trivial⟩ h
        · have h := h.2 c
          refine wp_iconst (v := (0 : Int32)) dL_law_716 (by decide) ?_
          exact h.elim
      · have h := h.2.2.2.2.2.2.2.2.2.2.2.2.2.2.2.2.2.2.2.2.2 hx
        refine wp_tableIn (off := 686) (tgt := 718) dL_law_32 (by omega) (by omega) (by rw [hx]; rfl) (by decide) ?_
        refine wp_aload_n dL_law_718 rfl rfl ?_
        refine wp_callV (q := 0) (As := []) (rest := []) dL_law_719 mX6_digest lL_104 (by decide) rfl rfl rfl rfl (Nat.le_of_ble_eq_true rfl) (Nat.le_of_ble_eq_true rfl) h ?_
        rintro rv mh2 ⟨r156, S155, rfl, rfl, h⟩
        refine wp_aload_n dL_law_722 rfl rfl ?_
        refine wp_callV (q := 47) (As := []) (rest := [.int r156]) dL_law_723 mX7_digest lL_107 (by decide) rfl rfl rfl rfl (Nat.le_of_ble_eq_true rfl) (Nat.le_of_ble_eq_true rfl) h ?_
        rintro rv mh2 ⟨r158, S157, rfl, rfl, h⟩
        refine wp_icmp_eq (tgt := 731) dL_law_726 (by decide) (fun c => ?_) (fun c => ?_)
        · have h := h.1 c
          refine wp_iinc (Ms := [.ref 1000, .ref 0, .ref 47, .int (x3 + (4 : Int32))]) (v := x3 + (4 : Int32)) dL_law_731 rfl rfl (by decide) rfl ?_
          refine wp_goto (tgt := 18) dL_law_734 (by decide) ?_
          exact wp_le (Ms := [.ref 1000, .ref 0, .ref 47, .int (x3 + (4 : Int32))]) ⟨Or.inr rfl, Or.inr rfl, Or.inr rfl, Or.inr rfl, trivial⟩ h
        · have h := h.2 c
          refine wp_iconst (v := (0 : Int32)) dL_law_729 (by decide) ?_
          exact h.elim
