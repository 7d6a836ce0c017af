theorem wl_ad_eq {G : wl_G} {lk : wl_Lk} {q : Nat} {a : Nat × ClassId} (h : lk[q]? = some a) (hq : q < 1000) : wl_ad G lk q = a.1 := by
  unfold wl_ad
  rw [if_pos hq, List.getD_eq_getElem?_getD, h]
  rfl
theorem wl_q {G : wl_G} {lk : wl_Lk} {A : Nat → Prop} {s : State} {mh : wl_H} {H : Heap} {locs : List Loc} (hR : wl_R G lk A s mh H locs) {q : Nat} {e : va_E} (h : mh[q]? = some e) : ∃ a, lk[q]? = some a ∧ (wl_conc G lk mh)[q]? = some (wl_cell G lk a e) ∧ wl_ad G lk q = a.1 := by
  obtain ⟨a, h1, h2⟩ := wl_conc_get (G := G) hR.1 h
  have h3 : q < mh.length := (List.getElem?_eq_some_iff.mp h).1
  exact ⟨a, h1, h2, wl_ad_eq h1 (Nat.lt_of_lt_of_le h3 hR.2.1)⟩
theorem wl_K1 {D : va_G} {s : State} {c : ClassId} {ty : FieldType} (h : va_K D vwCl [] s) (h1 : ArrOfT s c ty ∧ va_RA s c ty) : va_K D vwCl [(c, ty)] s := by
  refine ⟨h.1, fun k x hx => ?_⟩
  cases k with
  | zero => cases hx; exact h1
  | succ k => cases hx
theorem wl_R.seta {G : wl_G} {lk : wl_Lk} {A : Nat → Prop} {s : State} {mh : wl_H} {H H1 : Heap} {locs locs1 : List Loc} (hR : wl_R G lk A s mh H locs) {q tg : Nat} {z z' : vp_A} {a : Nat × ClassId} (hq : mh[q]? = some (.inl (tg, z))) (ha : lk[q]? = some a) (hP : va_P G.2.2.2.2.2 vwCl ((wl_conc G lk mh).set q (wl_cell G lk a (.inl (tg, z')))) H1) (hS : va_S A s.heap H1 locs1) : wl_R G lk A s (mh.set q (.inl (tg, z'))) H1 locs1 := by
  refine ⟨by rw [List.length_set]; exact hR.1, by rw [List.length_set]; exact hR.2.1, ?_, hR.2.2.2.1, hS, hR.2.2.2.2.2.set hq⟩
  rw [← wl_conc_set ha hq]
  exact hP
theorem wl_R.seto {G : wl_G} {lk : wl_Lk} {A : Nat → Prop} {s : State} {mh : wl_H} {H H1 : Heap} {locs locs1 : List Loc} (hR : wl_R G lk A s mh H locs) {q : Nat} {e : va_E} {o : Nat × List Value} {a : Nat × ClassId} (hq : mh[q]? = some e) (ha : lk[q]? = some a) (hP : va_P G.2.2.2.2.2 vwCl ((wl_conc G lk mh).set q (wl_cell G lk a (.inr o))) H1) (hS : va_S A s.heap H1 locs1) : wl_R G lk A s (mh.set q (.inr o)) H1 locs1 := by
  refine ⟨by rw [List.length_set]; exact hR.1, by rw [List.length_set]; exact hR.2.1, ?_, hR.2.2.2.1, hS, hR.2.2.2.2.2.seto⟩
  rw [← wl_conc_set ha hq]
  exact hP
/-- a field of one of our classes, by its place in a pool -/
def wl_fl (own : String) (idx ci k : Nat) (ty : FieldType) : Prop := ∃ (C : String) (T : u_T) (N : Nat) (ty0 : Nat → FieldType), vwCl[ci]? = some (C, T, N) ∧ k < N ∧ Cond.fieldLink own idx (T k).1 (T k).2.1 (T k).2.2.1 ∈ wl_gw ∧ (∀ w ∈ u_ws C T N, w ∈ wl_gw) ∧ (∀ j, j < N → parseFieldDescriptor (T j).2.2.1 = some (ty0 j)) ∧ (∀ a, a < N → ∀ b, b < N → a ≠ b → (T a).2.1 ≠ (T b).2.1) ∧ ty0 k = ty
/-- .. that isn't final -/
def wl_nf (ci k : Nat) : Bool := match vwCl[ci]? with
  | some q => !(q.2.1 k).2.2.2
  | none => false
/-- a method, by its words -/
def wl_mf (y : MethodName) (cc : ByteArray) (nL : Nat) (ret : Option FieldType) (n : Nat) : Prop := Cond.code y cc nL ret ∈ wl_gw ∧ Cond.initialized y.cls ∈ wl_gw ∧ (y.cls ≠ "java/lang/invoke/MethodHandle" ∧ y.cls ≠ "java/lang/invoke/VarHandle" ∧ (parseMethodDescriptor y.desc).map (fun d => d.parameters.length) = some n) ∧ plainName y.cls = true
def wl_A (lk : wl_Lk) (sz : Nat) : Nat → Prop := fun q => (∃ (i : Nat) (a : Nat × ClassId), lk[i]? = some a ∧ a.1 = q) ∨ sz ≤ q
def wl_Qc (G : wl_G) (lk : wl_Lk) (A : Nat → Prop) (Q : Option Value → wl_H → Prop) : Array Value → State → Outcome → State → Prop := fun _ st oc t => ∃ (rv : Option Value) (mh : wl_H), oc = .returned (rv.map (wl_tv G lk)) ∧ Q rv mh ∧ lk.length = mh.length ∧ mh.length ≤ 1000 ∧ va_P G.2.2.2.2.2 vwCl (wl_conc G lk mh) t.heap ∧ wl_Ty lk mh t ∧ va_F A st t
def wl_fin (ret : Option FieldType) (Q : Option Value → wl_H → Prop) : wl_Fn := fun G lk A _ _ _ _ s _ args below meth _ kc ks Z => meth.sig.returnType = ret ∧ kc = 0 ∧ ks = 0 ∧ Z = MQ below (wl_Qc G lk A Q) args s 0 0 A
def wl_B (G : wl_G) (lk : wl_Lk) (mh : wl_H) (U : State) : Prop := lk.length = mh.length ∧ mh.length ≤ 1000 ∧ va_P G.2.2.2.2.2 vwCl (wl_conc G lk mh) U.heap ∧ wl_D (fun _ => True) lk ∧ wl_Ty lk mh U ∧ wl_K G (wl_A lk U.heap.size) U U.heap
def wl_fl2 (vs : List Value) : List Value := vs.flatMap fun v => if v.category = 2 then [v, .retAddr 0] else [v]
def wl_en (vs : List Value) (n : Nat) : List Value := wl_fl2 vs ++ List.replicate (n - (wl_fl2 vs).length) (.retAddr 0)
theorem wl_en_in (G : wl_G) (lk : wl_Lk) (r : Nat) : ∀ (vs : List Value) (i j : Nat) (u : Value), (wl_fl2 vs ++ List.replicate r (.retAddr 0))[j]? = some u → wl_du u = false → (i + j, wl_tv G lk u) ∈ lv_args i (vs.map (wl_tv G lk))
  | [], i, j, u, h, hd => by
    rw [show wl_fl2 [] = [] from rfl, List.nil_append, List.getElem?_replicate] at h
    by_cases hj : j < r
    · rw [if_pos hj] at h
      cases h
      cases hd
    · rw [if_neg hj] at h
      cases h
  | v :: vs, i, j, u, h, hd => by
    by_cases hc : v.category = 2
    · have e : wl_fl2 (v :: vs) = v :: .retAddr 0 :: wl_fl2 vs := by simp [wl_fl2, hc]
      rw [e] at h
      have e2 : lv_args i ((v :: vs).map (wl_tv G lk)) = (i, wl_tv G lk v) :: lv_args (i + 2) (vs.map (wl_tv G lk)) := by
        simp only [List.map_cons, lv_args, wl_tv_cat, hc, if_true]
      rw [e2]
      match j, h with
      | 0, h => cases h; exact List.mem_cons_self
      | 1, h => cases h; cases hd
      | j + 2, h =>
        have := wl_en_in G lk r vs (i + 2) j u h hd
        rw [show i + 2 + j = i + (j + 2) by omega] at this
        exact List.mem_cons_of_mem _ this
    · have e : wl_fl2 (v :: vs) = v :: wl_fl2 vs := by simp [wl_fl2, hc]
      rw [e] at h
      have e2 : lv_args i ((v :: vs).map (wl_tv G lk)) = (i, wl_tv G lk v) :: lv_args (i + 1) (vs.map (wl_tv G lk)) := by
        simp only [List.map_cons, lv_args, wl_tv_cat, hc, if_false]
      rw [e2]
      match j, h with
      | 0, h => cases h; exact List.mem_cons_self
      | j + 1, h =>
        have := wl_en_in G lk r vs (i + 1) j u h hd
        rw [show i + 1 + j = i + (j + 1) by omega] at this
        exact List.mem_cons_of_mem _ this
theorem wl_sl_len (G : wl_G) (lk : wl_Lk) : ∀ vs : List Value, (lg_sl (vs.map (wl_tv G lk))).length = (wl_fl2 vs).length
  | [] => rfl
  | v :: vs => by
    have ih := wl_sl_len G lk vs
    by_cases hc : v.category = 2
    · have e1 : lg_sl ((v :: vs).map (wl_tv G lk)) = .val (wl_tv G lk v) :: .second :: lg_sl (vs.map (wl_tv G lk)) := by simp [lg_sl, wl_tv_cat, hc]
      have e2 : wl_fl2 (v :: vs) = v :: .retAddr 0 :: wl_fl2 vs := by simp [wl_fl2, hc]
      rw [e1, e2]
      simp [ih]
    · have e1 : lg_sl ((v :: vs).map (wl_tv G lk)) = .val (wl_tv G lk v) :: lg_sl (vs.map (wl_tv G lk)) := by simp [lg_sl, wl_tv_cat, hc]
      have e2 : wl_fl2 (v :: vs) = v :: wl_fl2 vs := by simp [wl_fl2, hc]
      rw [e1, e2]
      simp [ih]
theorem wl_entry (G : wl_G) (lk : wl_Lk) (vs : List Value) {n : Nat} (h : (wl_fl2 vs).length ≤ n) : wl_L G lk n (wl_en vs n) ((lg_sl (vs.map (wl_tv G lk)) ++ List.replicate (n - (lg_sl (vs.map (wl_tv G lk))).length) Slot.unset).toArray) := by
  have h0 := lv_entry (vs.map (wl_tv G lk)) (n := n) (by rw [wl_sl_len]; exact h)
  refine ⟨h0.1, h0.2.1, fun q hq => h0.2.2 q ?_⟩
  obtain ⟨j, w⟩ := q
  obtain ⟨h1, h2⟩ := wl_pairs_mem.mp hq
  rw [List.getElem?_map] at h1
  cases hu : (wl_en vs n)[j]? with
  | none => rw [hu] at h1; cases h1
  | some u =>
    rw [hu] at h1
    have e : w = wl_tv G lk u := (Option.some.inj h1).symm
    subst e
    rw [wl_du_tv] at h2
    have := wl_en_in G lk _ vs 0 j u hu h2
    rwa [Nat.zero_add] at this
section WPM
variable {cc : ByteArray} {own : String} {nL : Nat} {R : Room} {Fn : wl_Fn} {pc : Nat} {Ls rest : List Value} {mh : wl_H}
/-- a method's contract out of a Wp from its entry -/
theorem wp_met {y : MethodName} {ret : Option FieldType} {Q : Option Value → wl_H → Prop} {vs : List Value} (hy : plainName y.cls = true) (hW : Wp cc y.cls nL R (wl_fin ret Q) 0 (wl_en vs nL) [] mh) (hlen : (wl_fl2 vs).length ≤ nL) (l : Launch) (G : wl_G) (lk : wl_Lk) (sz : Nat) : Met l y (wl_ws y cc nL ret) R (va_Pc (vs.map (wl_tv G lk)) (fun U => U.heap.size = sz ∧ wl_B G lk mh U)) (wl_Qc G lk (wl_A lk sz) Q) 0 0 (wl_A lk sz) := by
  refine Met.ofW (cc := cc) (maxL := nL) (ret := ret) hy rfl ?_
  intro p e s m args below meth c s₁ B hml hv
  obtain ⟨rfl, hsz, hl, hl2, hP, hD, hT, hK⟩ := hv
  have hts := atoms_spec (ws := wl_ws y cc nL ret) B.pre
  have hown : s.vm.findClass y.cls = some m.cls := findClass_of_methodNamed B.named
  subst hsz
  rw [lg_entry_eq]
  exact hW G lk (wl_A lk s.heap.size) p l e s m _ below meth c 0 0 _ ⟨B.exec, B.bytes, hml, hown, fun w h => hts w (List.mem_cons_of_mem _ h), hK, fun q h => Or.inr h, B.notSynchronized⟩ ⟨B.returns, rfl, rfl, rfl⟩ ⟨Nat.zero_le _, Nat.zero_le _⟩ s.heap [] _ ⟨hl, hl2, hP, ⟨hD.1, fun i a h => Or.inl ⟨i, a, h, rfl⟩⟩, va_S.rf, hT⟩ (wl_entry G lk vs hlen)
theorem wl_blind {G : wl_G} {lk : wl_Lk} {sz : Nat} {vs : List Value} : FrameBlind (va_Pc (vs.map (wl_tv G lk)) (fun U => U.heap.size = sz ∧ wl_B G lk mh U)) := by
  intro a U g mk h
  obtain ⟨h1, h2, h3, h4, h5, h6, h7, h8⟩ := h
  exact ⟨h1, h2, h3, h4, h5, h6, wl_Ty.moved (u := U) (U := U.calling g mk a) (Vm.Alike.refl U.vm) h7, wl_K.same (s := U) (U := U.calling g mk a) rfl h8⟩
theorem wl_subA {G : wl_G} {lk : wl_Lk} {A : Nat → Prop} {s : State} {H : Heap} {locs : List Loc} (hR : wl_R G lk A s mh H locs) (hA : ∀ q, s.heap.size ≤ q → A q) : ∀ q, wl_A lk H.size q → A q := by
  intro q h
  rcases h with ⟨i, a, h, rfl⟩ | h
  · exact hR.2.2.2.1.2 i a h
  · exact hA q (Nat.le_trans hR.2.2.2.2.1.1 h)
theorem wl_pre {G : wl_G} {lk : wl_Lk} {A : Nat → Prop} {p : Program} {s : State} {m : MethodId} {args : Array Value} {meth : Method} {c : Code} {H : Heap} {locs : List Loc} (hC : wl_C G A p s m args meth c cc own nL) (hR : wl_R G lk A s mh H locs) (vs : List Value) : ∀ U : State, U.heap = H → s.WarmedH U.vm → va_Pc (vs.map (wl_tv G lk)) (fun U => U.heap.size = H.size ∧ wl_B G lk mh U) (vs.map (wl_tv G lk)).toArray U := by
  intro U hU hW
  obtain ⟨h1, h2, h3, h4, h5, h6⟩ := id hR
  refine ⟨rfl, by rw [hU], h1, h2, by rw [hU]; exact h3, ⟨h4.1, fun _ _ _ => trivial⟩, h6.moved hW.alike, ?_⟩
  rw [hU]
  exact wl_K.warm hW (wl_K.kept hC.2.2.2.2.2.1 h5.1 h5.2.1 (wl_subA hR hC.2.2.2.2.2.2.1))
theorem wl_go {p : Program} {l : Launch} {e : Env} {s : State} {m : MethodId} {args : Array Value} {below : List Frame} {meth : Method} {c : Code} {H : Heap} {locs : List Loc} {kc ks : Nat} {Z : State → Prop} {ls : Array Slot} {st0 : List Value} {a : Array Value} {G : wl_G} {lk : wl_Lk} {A A1 : Nat → Prop} {Q2 : Option Value → wl_H → Prop}
    (hr : va_Run p l e R s m args below meth c H locs kc ks 0 0 (F0 m pc ls st0) (rest.map (wl_tv G lk)) (wl_Qc G lk A1 Q2 a) A1) (hR : wl_R G lk A s mh H locs) (hA : ∀ q, A1 q → A q)
    (kk : ∀ (rv : Option Value) (mh2 : wl_H) (H1 : Heap) (locs1 : List Loc), Q2 rv mh2 → wl_R G lk A s mh2 H1 locs1 → W p l e R s m args below meth c H1 locs1 kc ks Z (F0 m (pc + 3) ls ((rv.toList ++ rest).map (wl_tv G lk)))) : W p l e R s m args below meth c H locs kc ks Z (F0 m pc ls st0) := by
  intro T hT X
  obtain ⟨v, st₀, t, T', L, h0, X', hL, e1, e2, ⟨rv, mh2, hv, hq, hl, hl2, hP, hTy, hz, hk⟩, st⟩ := hr T hT X
  have hv : v = rv.map (wl_tv G lk) := by injection hv
  subst hv
  rw [h0] at hz hk
  have hS := hR.2.2.2.2.1
  have hal : s.vm.Alike t.vm := by rw [← e2]; exact X'.warmed.alike
  obtain ⟨t2, a1, b1⟩ := kk rv mh2 T'.heap (locs ++ L) hq ⟨hl, hl2, by rw [e1]; exact hP, hR.2.2.2.1, ⟨Nat.le_trans hS.1 (by rw [e1]; exact hz), fun q h1 h2 => by rw [e1, hk q (Nat.lt_of_lt_of_le h1 hS.1) (fun z => h2 (hA q z))]; exact hS.2.1 q h1 h2, fun q hq => by
      rcases List.mem_append.mp hq with h | h
      · exact hS.2.2 q h
      · exact hA _ (hL q h)⟩, hTy.moved hal.symm⟩ T' rfl X'
  have e3 : ((rv.toList ++ rest).map (wl_tv G lk)) = (rv.map (wl_tv G lk)).toList ++ rest.map (wl_tv G lk) := by cases rv <;> simp
  rw [e3] at a1
  exact ⟨t2, st t2 a1, b1⟩
theorem wl_cats (G : wl_G) (lk : wl_Lk) (rest : List Value) : ((rest.map (wl_tv G lk)).map fun v => v.category).sum = (rest.map fun v => v.category).sum := by
  rw [List.map_map]
  congr 2
  funext v
  exact wl_tv_cat G lk v
/-- what a call needs of the room: the callee's room R2 beside the caller's R -/
abbrev wl_rm (R R2 : Room) (nL2 : Nat) : Prop := R2.frames + 1 ≤ R.frames ∧ 8 + (nL2 + 11) + R2.locals ≤ R.locals ∧ R2.cells = 0 ∧ R2.slots = 0

theorem wl_wsV {y : MethodName} {cc2 : ByteArray} {nL2 n idx : Nat} {ret2 : Option FieldType} (hm : wl_mf y cc2 nL2 ret2 n) (hw : Cond.methodLink own idx y ∈ wl_gw ∧ Cond.instanceMethod y ∈ wl_gw ∧ Cond.selects y.cls y y ∈ wl_gw) : GoodIn wl_gw (wsV own idx y.cls y (wl_ws y cc2 nL2 ret2)) := by
  intro w h
  unfold wsV at h
  rcases List.mem_append.mp h with h | h
  · simp only [List.mem_cons, List.not_mem_nil, or_false] at h
    rcases h with rfl | rfl | rfl | rfl
    · exact wl_good1 hw.1
    · exact wl_good1 hw.2.1
    · exact wl_good1 hw.2.2
    · exact wl_good1 hm.2.1
  · exact wl_good hm.1 w h
theorem wl_wsSt {y : MethodName} {cc2 : ByteArray} {nL2 n idx : Nat} {ret2 : Option FieldType} (hm : wl_mf y cc2 nL2 ret2 n) (hw : Cond.methodLink own idx y ∈ wl_gw ∧ Cond.static y ∈ wl_gw) : GoodIn wl_gw (va_wsS own idx y (wl_ws y cc2 nL2 ret2)) := by
  intro w h
  unfold va_wsS at h
  rcases List.mem_append.mp h with h | h
  · simp only [List.mem_cons, List.not_mem_nil, or_false] at h
    rcases h with rfl | rfl | rfl
    · exact wl_good1 hw.1
    · exact wl_good1 hw.2
    · exact wl_good1 hm.2.1
  · exact wl_good hm.1 w h
theorem wp_callV {idx q ci n N : Nat} {T : u_T} {fs : List Value} {y : MethodName} {cc2 : ByteArray} {nL2 : Nat} {ret2 : Option FieldType} {R2 : Room} {As stk : List Value} {Q2 : Option Value → wl_H → Prop} (hd : decode cc pc = .ok (.invokevirtual idx, 3)) (hm : wl_mf y cc2 nL2 ret2 n) (hw : Cond.methodLink own idx y ∈ wl_gw ∧ Cond.instanceMethod y ∈ wl_gw ∧ Cond.selects y.cls y y ∈ wl_gw) (hrm : wl_rm R R2 nL2) (hq : mh[q]? = some (.inr (ci, fs))) (hc : vwCl[ci]? = some (y.cls, T, N))
    (hst : stk = As.reverse ++ .ref q :: rest) (hn : As.length = n) (hlen : (wl_fl2 (.ref q :: As)).length ≤ nL2) (hcat : (rest.map fun v => v.category).sum ≤ 8)
    (hB : Wp cc2 y.cls nL2 R2 (wl_fin ret2 Q2) 0 (wl_en (.ref q :: As) nL2) [] mh)
    (kk : ∀ (rv : Option Value) (mh2 : wl_H), Q2 rv mh2 → Wp cc own nL R Fn (pc + 3) Ls (rv.toList ++ rest) mh2) : Wp cc own nL R Fn pc Ls stk mh := by
  intro G lk A p l e s m args below meth c kc ks Z hC hF hk H locs ls hR hL
  subst hst
  obtain ⟨hx, hb, hml, hown, hts, hK, -, -⟩ := id hC
  obtain ⟨a, ha, hca, had⟩ := wl_q hR hq
  have hrec := va_recv hK.1 hR.2.2.1 hc (show (wl_conc G lk mh)[q]? = some (a.1, .inr (ci, fs.map (wl_tv G lk))) from hca)
  rw [← had] at hrec
  have hstk : ((As.reverse ++ .ref q :: rest).map (wl_tv G lk)) = (As.map (wl_tv G lk)).reverse ++ .ref (wl_ad G lk q) :: rest.map (wl_tv G lk) := by
    rw [List.map_append, List.map_reverse]
    rfl
  exact wl_go (A1 := wl_A lk H.size) (Q2 := Q2) (va_runV (As := As.map (wl_tv G lk)) (b := wl_ad G lk q) ⟨hx, hb, hml, hown, hts⟩ (wp_met (vs := .ref q :: As) hm.2.2.2 hB hlen l G lk H.size) (cwV n hts (wl_wsV hm hw) rfl hrm.2.2.1 hrm.2.2.2 ⟨rfl, hm.2.2.1⟩ ⟨hrm.1, hrm.2.1⟩) ⟨wl_blind, hrec, wl_pre hC hR (.ref q :: As)⟩ rfl (by rw [List.length_map]; exact hn) hL.1 hstk (lv_room (by rw [wl_cats]; exact hcat)) hd hk) hR (wl_subA hR hC.2.2.2.2.2.2.1) (fun rv mh2 H1 locs1 hq hR2 => kk rv mh2 hq G lk A p l e s m args below meth c kc ks Z hC hF hk H1 locs1 ls hR2 hL)
theorem wp_callS {idx n : Nat} {y : MethodName} {cc2 : ByteArray} {nL2 : Nat} {ret2 : Option FieldType} {R2 : Room} {As stk : List Value} {Q2 : Option Value → wl_H → Prop} (hd : decode cc pc = .ok (.invokestatic idx, 3)) (hm : wl_mf y cc2 nL2 ret2 n) (hw : Cond.methodLink own idx y ∈ wl_gw ∧ Cond.static y ∈ wl_gw) (hrm : wl_rm R R2 nL2)
    (hst : stk = As.reverse ++ rest) (hn : As.length = n) (hlen : (wl_fl2 As).length ≤ nL2) (hcat : (rest.map fun v => v.category).sum ≤ 8)
    (hB : Wp cc2 y.cls nL2 R2 (wl_fin ret2 Q2) 0 (wl_en As nL2) [] mh)
    (kk : ∀ (rv : Option Value) (mh2 : wl_H), Q2 rv mh2 → Wp cc own nL R Fn (pc + 3) Ls (rv.toList ++ rest) mh2) : Wp cc own nL R Fn pc Ls stk mh := by
  intro G lk A p l e s m args below meth c kc ks Z hC hF hk H locs ls hR hL
  subst hst
  obtain ⟨hx, hb, hml, hown, hts, hK, -, -⟩ := id hC
  have hstk : ((As.reverse ++ rest).map (wl_tv G lk)) = (As.map (wl_tv G lk)).reverse ++ rest.map (wl_tv G lk) := by
    rw [List.map_append, List.map_reverse]
  exact wl_go (A1 := wl_A lk H.size) (Q2 := Q2) (va_runS (As := As.map (wl_tv G lk)) ⟨hx, hb, hml, hown, hts⟩ (wp_met (vs := As) hm.2.2.2 hB hlen l G lk H.size) (va_cwS n hts (wl_wsSt hm hw) rfl hrm.2.2.1 hrm.2.2.2 hm.2.2.1 ⟨hrm.1, hrm.2.1⟩) ⟨wl_blind, wl_pre hC hR As⟩ rfl (by rw [List.length_map]; exact hn) hL.1 hstk (lv_room (by rw [wl_cats]; exact hcat)) hd hk) hR (wl_subA hR hC.2.2.2.2.2.2.1) (fun rv mh2 H1 locs1 hq hR2 => kk rv mh2 hq G lk A p l e s m args below meth c kc ks Z hC hF hk H1 locs1 ls hR2 hL)
theorem wp_callN {idx n : Nat} {y : MethodName} {host : String} {cc2 : ByteArray} {nL2 : Nat} {ret2 : Option FieldType} {R2 : Room} {As stk : List Value} {Q2 : Option Value → wl_H → Prop} (hd : decode cc pc = .ok (.invokestatic idx, 3)) (hm : wl_mf y cc2 nL2 ret2 n) (hw : Cond.methodLinkNest own idx y host ∈ lw_tbl ∧ Cond.static y ∈ wl_gw) (hrm : wl_rm R R2 nL2)
    (hst : stk = As.reverse ++ rest) (hn : As.length = n) (hlen : (wl_fl2 As).length ≤ nL2) (hcat : (rest.map fun v => v.category).sum ≤ 8)
    (hB : Wp cc2 y.cls nL2 R2 (wl_fin ret2 Q2) 0 (wl_en As nL2) [] mh)
    (kk : ∀ (rv : Option Value) (mh2 : wl_H), Q2 rv mh2 → Wp cc own nL R Fn (pc + 3) Ls (rv.toList ++ rest) mh2) : Wp cc own nL R Fn pc Ls stk mh := by
  intro G lk A p l e s m args below meth c kc ks Z hC hF hk H locs ls hR hL
  subst hst
  obtain ⟨hx, hb, hml, hown, hts, hK, -, -⟩ := id hC
  have hstk : ((As.reverse ++ rest).map (wl_tv G lk)) = (As.map (wl_tv G lk)).reverse ++ rest.map (wl_tv G lk) := by
    rw [List.map_append, List.map_reverse]
  exact wl_go (A1 := wl_A lk H.size) (Q2 := Q2) (va_runSN (As := As.map (wl_tv G lk)) (host := host) ⟨hx, hb, hml, hown, hts⟩ (wp_met (vs := As) hm.2.2.2 hB hlen l G lk H.size) ⟨va_cnB n hts (wl_good hm.1) rfl hrm.2.2.1 hrm.2.2.2 (hK.2.1 _ _ _ _ hw.1) (hts _ hm.2.1) hm.2.2.1 ⟨hrm.1, hrm.2.1⟩, hts _ hw.2, trivial⟩ ⟨wl_blind, wl_pre hC hR As⟩ rfl (by rw [List.length_map]; exact hn) hL.1 hstk (lv_room (by rw [wl_cats]; exact hcat)) hd hk) hR (wl_subA hR hC.2.2.2.2.2.2.1) (fun rv mh2 H1 locs1 hq hR2 => kk rv mh2 hq G lk A p l e s m args below meth c kc ks Z hC hF hk H1 locs1 ls hR2 hL)
theorem wp_get {idx ci k q : Nat} {ty : FieldType} {fs : List Value} {v : Value} (hd : decode cc pc = .ok (.getfield idx, 3)) (hf : wl_fl own idx ci k ty) (hq : mh[q]? = some (.inr (ci, fs))) (hv : fs[k]? = some v) (kk : Wp cc own nL R Fn (pc + 3) Ls (v :: rest) mh) : Wp cc own nL R Fn pc Ls (.ref q :: rest) mh := by
  intro G lk A p l e s m args below meth c kc ks Z hC hF hk H locs ls hR hL
  obtain ⟨hx, hb, hml, hown, hts, hK, -, -⟩ := id hC
  obtain ⟨C, T, N, ty0, h1, h2, h3, h4, h5, h6, h7⟩ := hf
  obtain ⟨a, ha, hca, had⟩ := wl_q hR hq
  show W p l e R s m args below meth c H locs kc ks Z (F0 m pc ls (.ref (wl_ad G lk q) :: rest.map (wl_tv G lk)))
  rw [had]
  exact va_get (ref := (T k).1) hx hb hts h4 hown hK.1 hR.2.2.1 q (show (wl_conc G lk mh)[q]? = some (a.1, .inr (ci, fs.map (wl_tv G lk))) from hca) h1 k h2 (hts _ h3) (fun _ h => h) (v := wl_tv G lk v) (by rw [List.getElem?_map, hv]; rfl) hd (kk G lk A p l e s m args below meth c kc ks Z hC hF hk H locs ls hR hL)
theorem wp_put {idx ci k q : Nat} {ty : FieldType} {fs : List Value} {v : Value} {mh2 : wl_H} (hd : decode cc pc = .ok (.putfield idx, 3)) (hf : wl_fl own idx ci k ty) (hnf : wl_nf ci k = true) (hq : mh[q]? = some (.inr (ci, fs))) (hk2 : k < fs.length) (hv : ∀ G lk, wl_tv G lk v = v) (hna : narrow ty v = v) (hfit : fits ty v = true) (hm : mh.set q (.inr (ci, fs.set k v)) = mh2) (kk : Wp cc own nL R Fn (pc + 3) Ls rest mh2) : Wp cc own nL R Fn pc Ls (v :: .ref q :: rest) mh := by
  intro G lk A p l e s m args below meth c kc ks Z hC hF hk H locs ls hR hL
  obtain ⟨hx, hb, hml, hown, hts, hK, -, -⟩ := id hC
  obtain ⟨C, T, N, ty0, h1, h2, h3, h4, h5, h6, h7⟩ := hf
  obtain ⟨a, ha, hca, had⟩ := wl_q hR hq
  show W p l e R s m args below meth c H locs kc ks Z (F0 m pc ls (wl_tv G lk v :: .ref (wl_ad G lk q) :: rest.map (wl_tv G lk)))
  rw [had, hv G lk]
  have hnf2 : (T k).2.2.2 = false := by
    unfold wl_nf at hnf
    rw [h1] at hnf
    simpa using hnf
  refine va_put (ref := (T k).1) hx hb hts h4 ty0 h5 h6 hown hK.1 hR.2.2.1 (hR.2.2.2.1.va G mh) hR.2.2.2.2.1 q (show (wl_conc G lk mh)[q]? = some (a.1, .inr (ci, fs.map (wl_tv G lk))) from hca) h1 k h2 (hts _ h3) (fun _ h => h) hnf2 (ty := ty) (by rw [h5 k h2, h7]) hna hfit (by rw [List.length_map]; exact hk2) hd (fun H1 locs1 hP1 _ hS1 => ?_)
  refine kk G lk A p l e s m args below meth c kc ks Z hC hF hk H1 locs1 ls ?_ hL
  rw [← hm]
  refine hR.seto hq ha ?_ hS1
  have e : wl_cell G lk a (.inr (ci, fs.set k v)) = (a.1, .inr (ci, (fs.map (wl_tv G lk)).set k v)) := by
    show (a.1, Sum.inr (ci, (fs.set k v).map (wl_tv G lk))) = _
    rw [List.map_set, hv G lk]
  rw [e]
  exact hP1
theorem wp_iald {q n : Nat} {f : Nat → Int32} {i : Int32} (hd : decode cc pc = .ok (.iaload, 1)) (hq : mh[q]? = some (.inl (0, n, .inl f))) (hin : vp_in i n) (kk : Wp cc own nL R Fn (pc + 1) Ls (.int (f i.toNatClampNeg) :: rest) mh) : Wp cc own nL R Fn pc Ls (.int i :: .ref q :: rest) mh := by
  intro G lk A p l e s m args below meth c kc ks Z hC hF hk H locs ls hR hL
  obtain ⟨hx, hb, hml, hown, hts, hK, -, -⟩ := id hC
  obtain ⟨a, ha, hca, had⟩ := wl_q hR hq
  show W p l e R s m args below meth c H locs kc ks Z (F0 m pc ls (.int i :: .ref (wl_ad G lk q) :: rest.map (wl_tv G lk)))
  rw [had]
  exact va_iald hx hb (wl_K1 hK.1 (hR.2.2.2.2.2 q a 0 _ ha hq)) hR.2.2.1 q 0 (show (wl_conc G lk mh)[q]? = some (a.1, .inl (a.2, n, .inl f)) from hca) rfl hin hd (kk G lk A p l e s m args below meth c kc ks Z hC hF hk H locs ls hR hL)
theorem wp_iast {q n : Nat} {f : Nat → Int32} {i : Int32} {x : Int32} {mh2 : wl_H} (hd : decode cc pc = .ok (.iastore, 1)) (hq : mh[q]? = some (.inl (0, n, .inl f))) (hin : vp_in i n) (hm : mh.set q (.inl (0, n, .inl (upd f i.toNatClampNeg x))) = mh2) (kk : Wp cc own nL R Fn (pc + 1) Ls rest mh2) : Wp cc own nL R Fn pc Ls (.int x :: .int i :: .ref q :: rest) mh := by
  intro G lk A p l e s m args below meth c kc ks Z hC hF hk H locs ls hR hL
  obtain ⟨hx, hb, hml, hown, hts, hK, -, -⟩ := id hC
  obtain ⟨a, ha, hca, had⟩ := wl_q hR hq
  show W p l e R s m args below meth c H locs kc ks Z (F0 m pc ls (.int x :: .int i :: .ref (wl_ad G lk q) :: rest.map (wl_tv G lk)))
  rw [had]
  refine va_iast hx hb (wl_K1 hK.1 (hR.2.2.2.2.2 q a 0 _ ha hq)) hR.2.2.1 (hR.2.2.2.1.va G mh) hR.2.2.2.2.1 q 0 (show (wl_conc G lk mh)[q]? = some (a.1, .inl (a.2, n, .inl f)) from hca) rfl hin hd (fun H1 locs1 hP1 _ hS1 => ?_)
  refine kk G lk A p l e s m args below meth c kc ks Z hC hF hk H1 locs1 ls ?_ hL
  rw [← hm]
  exact hR.seta hq ha hP1 hS1
theorem wp_zald {q n : Nat} {f : Nat → Int32} {i : Int32} (hd : decode cc pc = .ok (.baload, 1)) (hq : mh[q]? = some (.inl (2, n, .inl f))) (hin : vp_in i n) (kk : Wp cc own nL R Fn (pc + 1) Ls (.int (f i.toNatClampNeg) :: rest) mh) : Wp cc own nL R Fn pc Ls (.int i :: .ref q :: rest) mh := by
  intro G lk A p l e s m args below meth c kc ks Z hC hF hk H locs ls hR hL
  obtain ⟨hx, hb, hml, hown, hts, hK, -, -⟩ := id hC
  obtain ⟨a, ha, hca, had⟩ := wl_q hR hq
  show W p l e R s m args below meth c H locs kc ks Z (F0 m pc ls (.int i :: .ref (wl_ad G lk q) :: rest.map (wl_tv G lk)))
  rw [had]
  exact va_zald hx hb (wl_K1 hK.1 (hR.2.2.2.2.2 q a 2 _ ha hq)) hR.2.2.1 q 0 (show (wl_conc G lk mh)[q]? = some (a.1, .inl (a.2, n, .inl f)) from hca) rfl hin hd (kk G lk A p l e s m args below meth c kc ks Z hC hF hk H locs ls hR hL)
theorem wp_zast {q n : Nat} {f : Nat → Int32} {i : Int32} {x : Int32} {mh2 : wl_H} (hd : decode cc pc = .ok (.bastore, 1)) (hq : mh[q]? = some (.inl (2, n, .inl f))) (hin : vp_in i n) (hm : mh.set q (.inl (2, n, .inl (upd f i.toNatClampNeg (vp_nar .boolean x)))) = mh2) (kk : Wp cc own nL R Fn (pc + 1) Ls rest mh2) : Wp cc own nL R Fn pc Ls (.int x :: .int i :: .ref q :: rest) mh := by
  intro G lk A p l e s m args below meth c kc ks Z hC hF hk H locs ls hR hL
  obtain ⟨hx, hb, hml, hown, hts, hK, -, -⟩ := id hC
  obtain ⟨a, ha, hca, had⟩ := wl_q hR hq
  show W p l e R s m args below meth c H locs kc ks Z (F0 m pc ls (.int x :: .int i :: .ref (wl_ad G lk q) :: rest.map (wl_tv G lk)))
  rw [had]
  refine va_zast hx hb (wl_K1 hK.1 (hR.2.2.2.2.2 q a 2 _ ha hq)) hR.2.2.1 (hR.2.2.2.1.va G mh) hR.2.2.2.2.1 q 0 (show (wl_conc G lk mh)[q]? = some (a.1, .inl (a.2, n, .inl f)) from hca) rfl hin hd (fun H1 locs1 hP1 _ hS1 => ?_)
  refine kk G lk A p l e s m args below meth c kc ks Z hC hF hk H1 locs1 ls ?_ hL
  rw [← hm]
  exact hR.seta hq ha hP1 hS1
theorem wp_lald {q n : Nat} {f : Nat → Int64} {i : Int32} (hd : decode cc pc = .ok (.laload, 1)) (hq : mh[q]? = some (.inl (1, n, .inr (.inl f)))) (hin : vp_in i n) (kk : Wp cc own nL R Fn (pc + 1) Ls (.long (f i.toNatClampNeg) :: rest) mh) : Wp cc own nL R Fn pc Ls (.int i :: .ref q :: rest) mh := by
  intro G lk A p l e s m args below meth c kc ks Z hC hF hk H locs ls hR hL
  obtain ⟨hx, hb, hml, hown, hts, hK, -, -⟩ := id hC
  obtain ⟨a, ha, hca, had⟩ := wl_q hR hq
  show W p l e R s m args below meth c H locs kc ks Z (F0 m pc ls (.int i :: .ref (wl_ad G lk q) :: rest.map (wl_tv G lk)))
  rw [had]
  exact va_lald hx hb (wl_K1 hK.1 (hR.2.2.2.2.2 q a 1 _ ha hq)) hR.2.2.1 q 0 (show (wl_conc G lk mh)[q]? = some (a.1, .inl (a.2, n, .inr (.inl f))) from hca) rfl hin hd (kk G lk A p l e s m args below meth c kc ks Z hC hF hk H locs ls hR hL)
theorem wp_last {q n : Nat} {f : Nat → Int64} {i : Int32} {x : Int64} {mh2 : wl_H} (hd : decode cc pc = .ok (.lastore, 1)) (hq : mh[q]? = some (.inl (1, n, .inr (.inl f)))) (hin : vp_in i n) (hm : mh.set q (.inl (1, n, .inr (.inl (vp_updL f i.toNatClampNeg x)))) = mh2) (kk : Wp cc own nL R Fn (pc + 1) Ls rest mh2) : Wp cc own nL R Fn pc Ls (.long x :: .int i :: .ref q :: rest) mh := by
  intro G lk A p l e s m args below meth c kc ks Z hC hF hk H locs ls hR hL
  obtain ⟨hx, hb, hml, hown, hts, hK, -, -⟩ := id hC
  obtain ⟨a, ha, hca, had⟩ := wl_q hR hq
  show W p l e R s m args below meth c H locs kc ks Z (F0 m pc ls (.long x :: .int i :: .ref (wl_ad G lk q) :: rest.map (wl_tv G lk)))
  rw [had]
  refine va_last hx hb (wl_K1 hK.1 (hR.2.2.2.2.2 q a 1 _ ha hq)) hR.2.2.1 (hR.2.2.2.1.va G mh) hR.2.2.2.2.1 q 0 (show (wl_conc G lk mh)[q]? = some (a.1, .inl (a.2, n, .inr (.inl f))) from hca) rfl hin hd (fun H1 locs1 hP1 _ hS1 => ?_)
  refine kk G lk A p l e s m args below meth c kc ks Z hC hF hk H1 locs1 ls ?_ hL
  rw [← hm]
  exact hR.seta hq ha hP1 hS1
theorem wp_aald {q n tg r : Nat} {f : Nat → Option Nat} {i : Int32} (hd : decode cc pc = .ok (.aaload, 1)) (hq : mh[q]? = some (.inl (tg, n, .inr (.inr (.inr (.inr f)))))) (ht : (wl_ty tg).isReference = true) (hin : vp_in i n) (hr : f i.toNatClampNeg = some r) (kk : Wp cc own nL R Fn (pc + 1) Ls (.ref r :: rest) mh) : Wp cc own nL R Fn pc Ls (.int i :: .ref q :: rest) mh := by
  intro G lk A p l e s m args below meth c kc ks Z hC hF hk H locs ls hR hL
  obtain ⟨hx, hb, hml, hown, hts, hK, -, -⟩ := id hC
  obtain ⟨a, ha, hca, had⟩ := wl_q hR hq
  show W p l e R s m args below meth c H locs kc ks Z (F0 m pc ls (.int i :: .ref (wl_ad G lk q) :: rest.map (wl_tv G lk)))
  rw [had]
  have hlt : i.toNatClampNeg < n := Nat.not_le.mp fun q => hin (Or.inr q)
  refine W.aald (v := .ref (wl_ad G lk r)) (ty := wl_ty tg) hx hb (hR.2.2.1 q _ (show (wl_conc G lk mh)[q]? = some (a.1, .inl (a.2, n, .inr (.inr (.inr (.inr (fun j => (f j).map (wl_ad G lk))))))) from hca)) ((hR.2.2.2.2.2 q a tg _ ha hq).1 n (fun j => va_rf ((f j).map (wl_ad G lk)))) ht (fun q => by cases q) (by show ¬ (i < 0 ∨ (arrV _ _ _).slots.size ≤ _); rw [arrV_size]; exact hin) (by show (arrV _ _ _).slots[_]? = _; rw [arrV_read _ _ hlt]; show some (va_rf ((f i.toNatClampNeg).map (wl_ad G lk))) = _; rw [hr]; rfl) rfl rfl hd (kk G lk A p l e s m args below meth c kc ks Z hC hF hk H locs ls hR hL)
theorem wp_alen {q tg : Nat} {z : vp_A} {v : Int32} (hd : decode cc pc = .ok (.arraylength, 1)) (hq : mh[q]? = some (.inl (tg, z))) (hv : Int32.ofNat z.1 = v) (kk : Wp cc own nL R Fn (pc + 1) Ls (.int v :: rest) mh) : Wp cc own nL R Fn pc Ls (.ref q :: rest) mh := by
  intro G lk A p l e s m args below meth c kc ks Z hC hF hk H locs ls hR hL
  obtain ⟨hx, hb, hml, hown, hts, hK, -, -⟩ := id hC
  obtain ⟨a, ha, hca, had⟩ := wl_q hR hq
  show W p l e R s m args below meth c H locs kc ks Z (F0 m pc ls (.ref (wl_ad G lk q) :: rest.map (wl_tv G lk)))
  rw [had]
  obtain ⟨z', hz1, hz2⟩ : ∃ z' : vp_A, wl_cell G lk a (.inl (tg, z)) = (a.1, .inl (a.2, z')) ∧ z'.1 = z.1 := by
    obtain ⟨n, f | f | f | f | f⟩ := z <;> exact ⟨_, rfl, rfl⟩
  rw [hz1] at hca
  exact va_alen hx hb (wl_K1 hK.1 (hR.2.2.2.2.2 q a tg _ ha hq)) hR.2.2.1 q 0 hca rfl (by rw [hz2]; exact hv) hd (kk G lk A p l e s m args below meth c kc ks Z hC hF hk H locs ls hR hL)
theorem wp_gets1 {idx : Nat} (hd : decode cc pc = .ok (.getstatic idx, 3)) (hw : Cond.fieldLink own idx "PeerMarks" "LEAST_RULE" "[I" ∈ wl_gw) (kk : Wp cc own nL R Fn (pc + 3) Ls (.ref 1001 :: rest) mh) : Wp cc own nL R Fn pc Ls rest mh := by
  intro G lk A p l e s m args below meth c kc ks Z hC hF hk H locs ls hR hL
  obtain ⟨hx, hb, hml, hown, hts, hK, -, -⟩ := id hC
  exact va_gets hx hb hK.2.2.1.1 hR.2.2.2.2.1 hown (hts _ hw) (fun _ h => h) hd (kk G lk A p l e s m args below meth c kc ks Z hC hF hk H locs ls hR hL)
theorem wp_gets2 {idx : Nat} (hd : decode cc pc = .ok (.getstatic idx, 3)) (hw : Cond.fieldLink own idx "PeerMarks" "GREATEST_RULE" "[I" ∈ wl_gw) (kk : Wp cc own nL R Fn (pc + 3) Ls (.ref 1002 :: rest) mh) : Wp cc own nL R Fn pc Ls rest mh := by
  intro G lk A p l e s m args below meth c kc ks Z hC hF hk H locs ls hR hL
  obtain ⟨hx, hb, hml, hown, hts, hK, -, -⟩ := id hC
  exact va_gets hx hb hK.2.2.2.1.1 hR.2.2.2.2.1 hown (hts _ hw) (fun _ h => h) hd (kk G lk A p l e s m args below meth c kc ks Z hC hF hk H locs ls hR hL)
theorem wp_tald1 {i : Int32} (hd : decode cc pc = .ok (.iaload, 1)) (hin : vp_in i 3) (kk : Wp cc own nL R Fn (pc + 1) Ls (wl_lr i.toNatClampNeg :: rest) mh) : Wp cc own nL R Fn pc Ls (.int i :: .ref 1001 :: rest) mh := by
  intro G lk A p l e s m args below meth c kc ks Z hC hF hk H locs ls hR hL
  obtain ⟨hx, hb, hml, hown, hts, hK, -, -⟩ := id hC
  exact va_ti hx hb hK.2.2.1.2 hR.2.2.2.2.1 hin rfl hd (kk G lk A p l e s m args below meth c kc ks Z hC hF hk H locs ls hR hL)
theorem wp_tald2 {i : Int32} (hd : decode cc pc = .ok (.iaload, 1)) (hin : vp_in i 3) (kk : Wp cc own nL R Fn (pc + 1) Ls (wl_gr i.toNatClampNeg :: rest) mh) : Wp cc own nL R Fn pc Ls (.int i :: .ref 1002 :: rest) mh := by
  intro G lk A p l e s m args below meth c kc ks Z hC hF hk H locs ls hR hL
  obtain ⟨hx, hb, hml, hown, hts, hK, -, -⟩ := id hC
  exact va_ti hx hb hK.2.2.2.1.2 hR.2.2.2.2.1 hin rfl hd (kk G lk A p l e s m args below meth c kc ks Z hC hF hk H locs ls hR hL)
theorem wp_sld {L : Nat} {xs : Nat → Int32} {i : Int32} (hG : ∀ {G lk A p l e R s m args below meth c kc ks Z}, Fn G lk A p l e R s m args below meth c kc ks Z → G.2.1 = L ∧ G.2.2.1 = xs) (hd : decode cc pc = .ok (.iaload, 1)) (hin : vp_in i L) (kk : Wp cc own nL R Fn (pc + 1) Ls (.int (xs i.toNatClampNeg) :: rest) mh) : Wp cc own nL R Fn pc Ls (.int i :: .ref 1000 :: rest) mh := by
  intro G lk A p l e s m args below meth c kc ks Z hC hF hk H locs ls hR hL
  obtain ⟨hx, hb, hml, hown, hts, hK, -, -⟩ := id hC
  obtain ⟨e1, e2⟩ := hG hF
  obtain ⟨g1, g2, g3⟩ := hK.2.2.2.2
  rw [e1, e2] at g1
  exact va_sld hx hb g1 g2 g3 hR.2.2.2.2.1 hin hd (kk G lk A p l e s m args below meth c kc ks Z hC hF hk H locs ls hR hL)
theorem wp_slen {L : Nat} {xs : Nat → Int32} (hG : ∀ {G lk A p l e R s m args below meth c kc ks Z}, Fn G lk A p l e R s m args below meth c kc ks Z → G.2.1 = L ∧ G.2.2.1 = xs) (hd : decode cc pc = .ok (.arraylength, 1)) (kk : Wp cc own nL R Fn (pc + 1) Ls (.int (Int32.ofNat L) :: rest) mh) : Wp cc own nL R Fn pc Ls (.ref 1000 :: rest) mh := by
  intro G lk A p l e s m args below meth c kc ks Z hC hF hk H locs ls hR hL
  obtain ⟨hx, hb, hml, hown, hts, hK, -, -⟩ := id hC
  obtain ⟨e1, e2⟩ := hG hF
  obtain ⟨g1, g2, g3⟩ := hK.2.2.2.2
  rw [e1, e2] at g1
  exact va_slen hx hb g1 g2 g3 hR.2.2.2.2.1 hd (kk G lk A p l e s m args below meth c kc ks Z hC hF hk H locs ls hR hL)
theorem wp_iret {ret : Option FieldType} {ty : FieldType} {Q : Option Value → wl_H → Prop} {v : Int32} (hd : decode cc pc = .ok (.ireturn, 1)) (hr : ret = some ty) (hn : narrow ty (.int v) = .int v) (hQ : Q (some (.int v)) mh) : Wp cc own nL R (wl_fin ret Q) pc Ls [.int v] mh := by
  intro G lk A p l e s m args below meth c kc ks Z hC hF hk H locs ls hR hL
  obtain ⟨hr2, rfl, rfl, rfl⟩ := hF
  obtain ⟨h1, h2, h3, h4, h5, h6⟩ := id hR
  exact W.zret hC.1 hC.2.1 (hr2.trans hr) hn (fun t ht hW => ⟨some (.int v), mh, rfl, hQ, h1, h2, by rw [ht]; exact h3, h6.moved hW.alike, h5.F ht⟩) h5.2.2 hd hC.2.2.2.2.2.2.2
theorem wp_lret {ret : Option FieldType} {Q : Option Value → wl_H → Prop} {v : Int64} (hd : decode cc pc = .ok (.lreturn, 1)) (hr : ret = some .long) (hQ : Q (some (.long v)) mh) : Wp cc own nL R (wl_fin ret Q) pc Ls [.long v] mh := by
  intro G lk A p l e s m args below meth c kc ks Z hC hF hk H locs ls hR hL
  obtain ⟨hr2, rfl, rfl, rfl⟩ := hF
  obtain ⟨h1, h2, h3, h4, h5, h6⟩ := id hR
  exact W.lret hC.1 hC.2.1 (hr2.trans hr) (fun t ht hW => ⟨some (.long v), mh, rfl, hQ, h1, h2, by rw [ht]; exact h3, h6.moved hW.alike, h5.F ht⟩) h5.2.2 hd hC.2.2.2.2.2.2.2
theorem wp_vret {ret : Option FieldType} {Q : Option Value → wl_H → Prop} (hd : decode cc pc = .ok (.return_, 1)) (hr : ret = none) (hQ : Q none mh) : Wp cc own nL R (wl_fin ret Q) pc Ls [] mh := by
  intro G lk A p l e s m args below meth c kc ks Z hC hF hk H locs ls hR hL
  obtain ⟨hr2, rfl, rfl, rfl⟩ := hF
  obtain ⟨h1, h2, h3, h4, h5, h6⟩ := id hR
  exact W.vret hC.1 hC.2.1 (hr2.trans hr) (fun t ht hW => ⟨none, mh, rfl, hQ, h1, h2, by rw [ht]; exact h3, h6.moved hW.alike, h5.F ht⟩) h5.2.2 hd hC.2.2.2.2.2.2.2
theorem wp_tableIn {dflt lo hi : Int} {offs : Array Int} {len : Nat} {x : Int32} {off : Int} {tgt : Nat} (hd : decode cc pc = .ok (.tableswitch dflt lo hi offs, len)) (h1 : ¬ x.toInt < lo) (h2 : ¬ hi < x.toInt) (ho : offs[(x.toInt - lo).toNat]? = some off) (ht : (pc : Int) + off = (tgt : Int)) (kk : Wp cc own nL R Fn tgt Ls rest mh) : Wp cc own nL R Fn pc Ls (.int x :: rest) mh :=
  fun G lk A p l e s m args below meth c kc ks Z hC hF hk H locs ls hR hL => lv_tableIn hC.1 hC.2.1 hd h1 h2 ho ht (kk G lk A p l e s m args below meth c kc ks Z hC hF hk H locs ls hR hL)
theorem wp_tableOut {dflt lo hi : Int} {offs : Array Int} {len : Nat} {x : Int32} {tgt : Nat} (hd : decode cc pc = .ok (.tableswitch dflt lo hi offs, len)) (h : x.toInt < lo ∨ hi < x.toInt) (ht : (pc : Int) + dflt = (tgt : Int)) (kk : Wp cc own nL R Fn tgt Ls rest mh) : Wp cc own nL R Fn pc Ls (.int x :: rest) mh :=
  fun G lk A p l e s m args below meth c kc ks Z hC hF hk H locs ls hR hL => lv_tableOut hC.1 hC.2.1 hd h ht (kk G lk A p l e s m args below meth c kc ks Z hC hF hk H locs ls hR hL)
end WPM
