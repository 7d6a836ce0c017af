section WQS
variable {cc : ByteArray} {own : String} {nL : Nat} {R : Room} {Fn : wl_Fq} {G : wl_G} {lk0 ext : wl_Lk} {k n pc : Nat} {Ls rest : List Value} {mh : wl_H}
theorem wl_arc {args : Array Value} {s : State} {t : FieldType} (h : (Cond.arrayClass t).before args s = true) (ho : ∀ C, t ≠ .object C) : ∃ c : ClassId, s.vm.findClass (FieldType.array t).toString = some c ∧ ArrOfT s c t ∧ va_RA s c t := by
  obtain ⟨c, k, comp, h1, h2, h3⟩ := Cond.arrayClass_spec h
  refine ⟨c, h1, fun N z => ⟨(fun q hq => by cases hq), k, h2, comp, h3⟩, ?_⟩
  cases t <;> first | exact h1 | exact absurd rfl (ho _)
theorem wq_mnaI {idx : Nat} (hao : ∀ {G A p l e R s m args below meth c Z}, Fn G A p l e R s m args below meth c Z → wl_AO s) (hd : decode cc pc = .ok (.multianewarray idx 2, 4)) (hw : Cond.classLink own idx "[[I" ∈ wl_gw ∧ Cond.arrayClass .int ∈ wl_gw) (hlen : mh.length + 9 ≤ 1000) (hb1 : Ls.all (wfV mh.length) = true) (hb2 : rest.all (wfV mh.length) = true) (hk : k + (1 + 8) ≤ R.cells) (hs : n + (8 + 8 * 8) ≤ R.slots)
    (kk : ∀ x : wl_Lk, Wq cc own nL R Fn G lk0 (ext ++ x) (k + 1 + 8) (n + 8 + 8 * 8) (pc + 4) Ls (.ref mh.length :: rest) (mh ++ (.inl (3, 8, .inr (.inr (.inr (.inr (fun j => if j < 8 then some (mh.length + 1 + j) else none))))) :: List.replicate 8 (.inl (0, 8, .inl (fun _ => 0)))))) : Wq cc own nL R Fn G lk0 ext k n pc Ls (.int 8 :: .int 8 :: rest) mh := by
  intro A p l e s m args below meth c Z hC hF hwf H locs ls hR hL
  obtain ⟨hx, hb, hml, hown, hts, hK, hA, -⟩ := id hC
  obtain ⟨cy, hcy, hty⟩ := wl_arc (hts _ hw.2) (fun C h => by cases h)
  have hP0 : va_P G.2.2.2.2.2 vwCl (wl_conc G (lk0 ++ ext) mh ++ va_pl [] (fun _ => .inr (0, []))) H := by
    rw [show va_pl [] (fun _ => .inr (0, [])) = [] from rfl, List.append_nil]
    exact hR.2.2.1
  have hD0 : va_D A (wl_conc G (lk0 ++ ext) mh ++ va_pl [] (fun _ => .inr (0, []))) := by
    rw [show va_pl [] (fun _ => .inr (0, [])) = [] from rfl, List.append_nil]
    exact hR.2.2.2.1.va G mh
  refine va_mna (ty := .int) (N' := 8) (K' := 8) (z := (8, .inl (fun _ => 0))) hx hb hown (hts _ hw.1) ((hao hF).1) (hts _ hw.2) hcy hK.1 hP0 hD0 hR.2.2.2.2.1 hA (by decide) (by decide) (by decide) (by decide) (by decide) (by decide) (by decide) rfl rfl hk hs (fun c => by
    show ({ cls := c, slots := Array.replicate 8 (.int 0), vm := .none } : Cell) = _
    rw [arrV_new]
    rfl) hd (fun q r cA H1 hinj hnot hK1 hP1 hD1 hS1 => ?_)
  have hlk : (lk0 ++ ext).length = mh.length := hR.1
  have had : ∀ j : Nat, j < 8 → wl_ad G ((lk0 ++ ext) ++ ((q, cA) :: (List.range 8).map (fun i => (r i, cy)))) (mh.length + 1 + j) = r j := fun j hj => by
    have h1 : ((lk0 ++ ext) ++ ((q, cA) :: (List.range 8).map (fun i => (r i, cy))))[mh.length + 1 + j]? = some (r j, cy) := by
      rw [List.getElem?_append_right (by omega), hlk, show mh.length + 1 + j - mh.length = j + 1 by omega, List.getElem?_cons_succ, List.getElem?_map, List.getElem?_range hj]
      rfl
    exact wl_ad_eq h1 (by omega)
  have hfun : (fun j => (if j < 8 then some (mh.length + 1 + j) else none : Option Nat).map (wl_ad G ((lk0 ++ ext) ++ ((q, cA) :: (List.range 8).map (fun i => (r i, cy)))))) = fun i => if i < 8 then some (r i) else none := by
    funext j
    by_cases hj : j < 8
    · rw [if_pos hj, if_pos hj]
      show some _ = some _
      rw [had j hj]
    · rw [if_neg hj, if_neg hj]
      rfl
  have hpl : va_pl ([] ++ (List.range 8).map r) (vr_up (fun _ => .inr (0, [])) ((List.range 8).map r) (.inl (cy, 8, .inl (fun _ => 0)))) = ((List.range 8).map r).map (fun a => (a, .inl (cy, 8, .inl (fun _ => 0)))) := by
    unfold va_pl
    apply List.map_congr_left
    intro a ha
    rw [vr_up_in (by simpa using ha)]
  have hz : wl_conc G (lk0 ++ ext) mh ++ List.zipWith (wl_cell G ((lk0 ++ ext) ++ ((q, cA) :: (List.range 8).map (fun i => (r i, cy))))) ((q, cA) :: (List.range 8).map (fun i => (r i, cy))) (.inl (3, 8, .inr (.inr (.inr (.inr (fun j => if j < 8 then some (mh.length + 1 + j) else none))))) :: List.replicate 8 (.inl (0, 8, .inl (fun _ => 0)))) = (wl_conc G (lk0 ++ ext) mh ++ [(q, .inl (cA, 8, .inr (.inr (.inr (.inr (fun i => if i < 8 then some (r i) else none))))))]) ++ va_pl ([] ++ (List.range 8).map r) (vr_up (fun _ => .inr (0, [])) ((List.range 8).map r) (.inl (cy, 8, .inl (fun _ => 0)))) := by
    rw [hpl, ← hfun]
    exact (List.append_assoc (wl_conc G (lk0 ++ ext) mh) [_] _).symm
  refine wq_ext hC hF hwf hR hL (x := (q, cA) :: (List.range 8).map (fun i => (r i, cy))) (es := .inl (3, 8, .inr (.inr (.inr (.inr (fun j => if j < 8 then some (mh.length + 1 + j) else none))))) :: List.replicate 8 (.inl (0, 8, .inl (fun _ => 0)))) rfl (by rw [List.length_append]; exact hlen) hb1 hb2 (fun u hu => ?_) (by rw [hz]; exact hP1) (by rw [hz]; exact hD1) hS1 (fun i a tg z h1 h2 => ?_) (kk _) ⟨cA, rfl⟩
  · rcases List.mem_cons.mp hu with rfl | hu
    · intro j x hjx
      have hjx : (if j < 8 then some (mh.length + 1 + j) else none) = some x := hjx
      by_cases hj : j < 8
      · rw [if_pos hj] at hjx
        cases hjx
        rw [List.length_append]
        show mh.length + 1 + j < mh.length + 9
        omega
      · rw [if_neg hj] at hjx
        cases hjx
    · rw [(List.mem_replicate.mp hu).2]
      trivial
  · cases i with
    | zero => cases h1; cases h2; exact hK1.2 0 _ rfl
    | succ i =>
      rw [List.getElem?_cons_succ] at h1 h2
      rw [List.getElem?_replicate] at h2
      by_cases hi : i < 8
      · rw [if_pos hi] at h2
        cases h2
        rw [List.getElem?_map, List.getElem?_range hi] at h1
        cases h1
        exact hty
      · rw [if_neg hi] at h2
        cases h2
theorem wq_mnaL {idx : Nat} (hao : ∀ {G A p l e R s m args below meth c Z}, Fn G A p l e R s m args below meth c Z → wl_AO s) (hd : decode cc pc = .ok (.multianewarray idx 2, 4)) (hw : Cond.classLink own idx "[[J" ∈ wl_gw ∧ Cond.arrayClass .long ∈ wl_gw) (hlen : mh.length + 11 ≤ 1000) (hb1 : Ls.all (wfV mh.length) = true) (hb2 : rest.all (wfV mh.length) = true) (hk : k + (1 + 10) ≤ R.cells) (hs : n + (10 + 10 * 11) ≤ R.slots)
    (kk : ∀ x : wl_Lk, Wq cc own nL R Fn G lk0 (ext ++ x) (k + 1 + 10) (n + 10 + 10 * 11) (pc + 4) Ls (.ref mh.length :: rest) (mh ++ (.inl (4, 10, .inr (.inr (.inr (.inr (fun j => if j < 10 then some (mh.length + 1 + j) else none))))) :: List.replicate 10 (.inl (1, 11, .inr (.inl (fun _ => 0))))))) : Wq cc own nL R Fn G lk0 ext k n pc Ls (.int 11 :: .int 10 :: rest) mh := by
  intro A p l e s m args below meth c Z hC hF hwf H locs ls hR hL
  obtain ⟨hx, hb, hml, hown, hts, hK, hA, -⟩ := id hC
  obtain ⟨cy, hcy, hty⟩ := wl_arc (hts _ hw.2) (fun C h => by cases h)
  have hP0 : va_P G.2.2.2.2.2 vwCl (wl_conc G (lk0 ++ ext) mh ++ va_pl [] (fun _ => .inr (0, []))) H := by
    rw [show va_pl [] (fun _ => .inr (0, [])) = [] from rfl, List.append_nil]
    exact hR.2.2.1
  have hD0 : va_D A (wl_conc G (lk0 ++ ext) mh ++ va_pl [] (fun _ => .inr (0, []))) := by
    rw [show va_pl [] (fun _ => .inr (0, [])) = [] from rfl, List.append_nil]
    exact hR.2.2.2.1.va G mh
  refine va_mna (ty := .long) (N' := 10) (K' := 11) (z := (11, .inr (.inl (fun _ => 0)))) hx hb hown (hts _ hw.1) ((hao hF).2) (hts _ hw.2) hcy hK.1 hP0 hD0 hR.2.2.2.2.1 hA (by decide) (by decide) (by decide) (by decide) (by decide) (by decide) (by decide) rfl rfl hk hs (fun c => by
    show ({ cls := c, slots := Array.replicate 11 (.long 0), vm := .none } : Cell) = _
    rw [arrV_new]
    rfl) hd (fun q r cA H1 hinj hnot hK1 hP1 hD1 hS1 => ?_)
  have hlk : (lk0 ++ ext).length = mh.length := hR.1
  have had : ∀ j : Nat, j < 10 → wl_ad G ((lk0 ++ ext) ++ ((q, cA) :: (List.range 10).map (fun i => (r i, cy)))) (mh.length + 1 + j) = r j := fun j hj => by
    have h1 : ((lk0 ++ ext) ++ ((q, cA) :: (List.range 10).map (fun i => (r i, cy))))[mh.length + 1 + j]? = some (r j, cy) := by
      rw [List.getElem?_append_right (by omega), hlk, show mh.length + 1 + j - mh.length = j + 1 by omega, List.getElem?_cons_succ, List.getElem?_map, List.getElem?_range hj]
      rfl
    exact wl_ad_eq h1 (by omega)
  have hfun : (fun j => (if j < 10 then some (mh.length + 1 + j) else none : Option Nat).map (wl_ad G ((lk0 ++ ext) ++ ((q, cA) :: (List.range 10).map (fun i => (r i, cy)))))) = fun i => if i < 10 then some (r i) else none := by
    funext j
    by_cases hj : j < 10
    · rw [if_pos hj, if_pos hj]
      show some _ = some _
      rw [had j hj]
    · rw [if_neg hj, if_neg hj]
      rfl
  have hpl : va_pl ([] ++ (List.range 10).map r) (vr_up (fun _ => .inr (0, [])) ((List.range 10).map r) (.inl (cy, 11, .inr (.inl (fun _ => 0))))) = ((List.range 10).map r).map (fun a => (a, .inl (cy, 11, .inr (.inl (fun _ => 0))))) := by
    unfold va_pl
    apply List.map_congr_left
    intro a ha
    rw [vr_up_in (by simpa using ha)]
  have hz : wl_conc G (lk0 ++ ext) mh ++ List.zipWith (wl_cell G ((lk0 ++ ext) ++ ((q, cA) :: (List.range 10).map (fun i => (r i, cy))))) ((q, cA) :: (List.range 10).map (fun i => (r i, cy))) (.inl (4, 10, .inr (.inr (.inr (.inr (fun j => if j < 10 then some (mh.length + 1 + j) else none))))) :: List.replicate 10 (.inl (1, 11, .inr (.inl (fun _ => 0))))) = (wl_conc G (lk0 ++ ext) mh ++ [(q, .inl (cA, 10, .inr (.inr (.inr (.inr (fun i => if i < 10 then some (r i) else none))))))]) ++ va_pl ([] ++ (List.range 10).map r) (vr_up (fun _ => .inr (0, [])) ((List.range 10).map r) (.inl (cy, 11, .inr (.inl (fun _ => 0))))) := by
    rw [hpl, ← hfun]
    exact (List.append_assoc (wl_conc G (lk0 ++ ext) mh) [_] _).symm
  refine wq_ext hC hF hwf hR hL (x := (q, cA) :: (List.range 10).map (fun i => (r i, cy))) (es := .inl (4, 10, .inr (.inr (.inr (.inr (fun j => if j < 10 then some (mh.length + 1 + j) else none))))) :: List.replicate 10 (.inl (1, 11, .inr (.inl (fun _ => 0))))) rfl (by rw [List.length_append]; exact hlen) hb1 hb2 (fun u hu => ?_) (by rw [hz]; exact hP1) (by rw [hz]; exact hD1) hS1 (fun i a tg z h1 h2 => ?_) (kk _) ⟨cA, rfl⟩
  · rcases List.mem_cons.mp hu with rfl | hu
    · intro j x hjx
      have hjx : (if j < 10 then some (mh.length + 1 + j) else none) = some x := hjx
      by_cases hj : j < 10
      · rw [if_pos hj] at hjx
        cases hjx
        rw [List.length_append]
        show mh.length + 1 + j < mh.length + 11
        omega
      · rw [if_neg hj] at hjx
        cases hjx
    · rw [(List.mem_replicate.mp hu).2]
      trivial
  · cases i with
    | zero => cases h1; cases h2; exact hK1.2 0 _ rfl
    | succ i =>
      rw [List.getElem?_cons_succ] at h1 h2
      rw [List.getElem?_replicate] at h2
      by_cases hi : i < 10
      · rw [if_pos hi] at h2
        cases h2
        rw [List.getElem?_map, List.getElem?_range hi] at h1
        cases h1
        exact hty
      · rw [if_neg hi] at h2
        cases h2
theorem wq_ret {MC MS : Nat} {Mh : wl_H} (hd : decode cc pc = .ok (.return_, 1)) (hk : k ≤ MC) (hn : n ≤ MS) (hm : mh = Mh) : Wq cc own nL R (wq_fin lk0 Mh MC MS) G lk0 ext k n pc Ls [] mh := by
  intro A p l e s m args below meth c Z hC hF hwf H locs ls hR hL
  obtain ⟨hr, hin, hao, rfl⟩ := hF
  obtain ⟨h1, h2, h3, h4, h5, h6⟩ := id hR
  subst hm
  refine W.widen hk hn ?_
  exact W.vret hC.1 hC.2.1 hr (fun t ht hW => ⟨ext, rfl, h1, h2, hwf, by rw [ht]; exact h3, h6.moved hW.alike, h4, h5.F ht⟩) h5.2.2 hd hC.2.2.2.2.2.2.2
theorem wq_met {y : MethodName} {vs : List Value} {Mh : wl_H} {MC MS : Nat} {lk : wl_Lk} (hy : plainName y.cls = true) (hyn : y.name = "<init>") (hlen : (wl_fl2 vs).length ≤ nL) (hW : Wq cc y.cls nL R (wq_fin lk Mh MC MS) G lk [] 0 0 0 (wl_en vs nL) [] mh) (l : Launch) (sz : Nat) : Met l y (wl_ws y cc nL none) R (va_Pc (vs.map (wl_tv G lk)) (fun U => U.heap.size = sz ∧ wl_B G lk mh U ∧ wfH mh.length mh ∧ wl_AO U)) (wl_Qa G lk (wl_A lk sz) Mh) MC MS (wl_A lk sz) := by
  refine Met.ofW (cc := cc) (maxL := nL) (ret := none) hy rfl ?_
  intro p e s m args below meth c s₁ B hml hv
  obtain ⟨rfl, hsz, ⟨hl, hl2, hP, hD, hT, hK⟩, hwf, hao⟩ := hv
  have hts := atoms_spec (ws := wl_ws y cc nL none) B.pre
  have hown : s.vm.findClass y.cls = some m.cls := findClass_of_methodNamed B.named
  have hin : meth.name = "<init>" := (name_of_methodNamed B.named B.method).1.trans hyn
  subst hsz
  rw [lg_entry_eq]
  have h := hW (wl_A lk s.heap.size) p l e s m _ below meth c _ ⟨B.exec, B.bytes, hml, hown, fun w h => hts w (List.mem_cons_of_mem _ h), hK, fun q h => Or.inr h, B.notSynchronized⟩ ⟨B.returns, hin, hao, rfl⟩ hwf s.heap [] _ (by rw [List.append_nil]; exact ⟨hl, hl2, hP, ⟨hD.1, fun i a h => Or.inl ⟨i, a, h, rfl⟩⟩, va_S.rf, hT⟩) (by rw [List.append_nil]; exact wl_entry G lk vs hlen)
  exact h
theorem wq_blind {lk : wl_Lk} {sz : Nat} {vs : List Value} : FrameBlind (va_Pc (vs.map (wl_tv G lk)) (fun U => U.heap.size = sz ∧ wl_B G lk mh U ∧ wfH mh.length mh ∧ wl_AO U)) := by
  intro a U g mk h
  obtain ⟨h1, h2, ⟨h3, h4, h5, h6, h7, h8⟩, h9, h10, h11⟩ := h
  exact ⟨h1, h2, ⟨h3, h4, h5, h6, wl_Ty.moved (u := U) (U := U.calling g mk a) (Vm.Alike.refl U.vm) h7, wl_K.same (s := U) (U := U.calling g mk a) rfl h8⟩, h9, va_AOA.moved (u := U) (U := U.calling g mk a) (Vm.Alike.refl U.vm) h10, va_AOA.moved (u := U) (U := U.calling g mk a) (Vm.Alike.refl U.vm) h11⟩
theorem wq_pre {lk : wl_Lk} {A : Nat → Prop} {p : Program} {s : State} {m : MethodId} {args : Array Value} {meth : Method} {c : Code} {H : Heap} {locs : List Loc} (hC : wl_C G A p s m args meth c cc own nL) (hR : wl_R G lk A s mh H locs) (hwf : wfH mh.length mh) (hao : wl_AO s) (vs : List Value) : ∀ U : State, U.heap = H → s.WarmedH U.vm → va_Pc (vs.map (wl_tv G lk)) (fun U => U.heap.size = H.size ∧ wl_B G lk mh U ∧ wfH mh.length mh ∧ wl_AO U) (vs.map (wl_tv G lk)).toArray U := by
  intro U hU hW
  obtain ⟨h1, h2, h3⟩ := wl_pre hC hR vs U hU hW
  exact ⟨h1, h2, h3, hwf, hao.1.moved hW.alike, hao.2.moved hW.alike⟩
theorem wq_go {p : Program} {l : Launch} {e : Env} {s : State} {m : MethodId} {args : Array Value} {below : List Frame} {meth : Method} {c : Code} {H : Heap} {locs : List Loc} {Z : State → Prop} {ls : Array Slot} {st0 : List Value} {a : Array Value} {A A1 : Nat → Prop} {MC MS : Nat} {Mh : wl_H} {lk : wl_Lk}
    (hr : va_Run p l e R s m args below meth c H locs k n MC MS (F0 m pc ls st0) (rest.map (wl_tv G lk)) (wl_Qa G lk A1 Mh a) A1) (hR : wl_R G lk A s mh H locs) (hA : ∀ q, A1 q → A q)
    (kk : ∀ (x : wl_Lk) (H1 : Heap) (locs1 : List Loc), wfH Mh.length Mh → wl_R G (lk ++ x) A s Mh H1 locs1 → W p l e R s m args below meth c H1 locs1 (k + MC) (n + MS) Z (F0 m (pc + 3) ls (rest.map (wl_tv G lk)))) : W p l e R s m args below meth c H locs k n Z (F0 m pc ls st0) := by
  intro T hT X
  obtain ⟨v, st₀, t, T', L, h0, X', hL, e1, e2, ⟨x, hv, hl, hl2, hwf, hP, hTy, hD, hz, hk⟩, st⟩ := hr T hT X
  have hv : v = none := by injection hv
  subst hv
  rw [h0] at hz hk
  have hS := hR.2.2.2.2.1
  have hal : s.vm.Alike t.vm := by rw [← e2]; exact X'.warmed.alike
  obtain ⟨t2, a1, b1⟩ := kk x T'.heap (locs ++ L) hwf ⟨hl, hl2, by rw [e1]; exact hP, ⟨hD.1, fun i a h => hA _ (hD.2 i a h)⟩, ⟨Nat.le_trans hS.1 (by rw [e1]; exact hz), fun q h1 h2 => by rw [e1, hk q (Nat.lt_of_lt_of_le h1 hS.1) (fun z => h2 (hA q z))]; exact hS.2.1 q h1 h2, fun q hq => by
      rcases List.mem_append.mp hq with h | h
      · exact hS.2.2 q h
      · exact hA _ (hL q h)⟩, hTy.moved hal.symm⟩ T' rfl X'
  exact ⟨t2, st t2 a1, b1⟩
abbrev wq_rm (R R2 : Room) (nL2 MC MS : Nat) : Prop := R2.frames + 1 ≤ R.frames ∧ 8 + (nL2 + 11) + R2.locals ≤ R.locals ∧ R2.cells = MC ∧ R2.slots = MS
theorem wq_callI {idx q nn : Nat} {y : MethodName} {cc2 : ByteArray} {nL2 : Nat} {R2 : Room} {As stk : List Value} {Mh : wl_H} {MC MS : Nat} (hao : ∀ {G A p l e R s m args below meth c Z}, Fn G A p l e R s m args below meth c Z → wl_AO s) (hd : decode cc pc = .ok (.invokespecial idx, 3)) (hm : wl_mf y cc2 nL2 none nn) (hw : Cond.methodLink own idx y ∈ wl_gw ∧ Cond.instanceMethod y ∈ wl_gw) (hyn : y.name = "<init>") (hrm : wq_rm R R2 nL2 MC MS)
    (hst : stk = As.reverse ++ .ref q :: rest) (hn : As.length = nn) (hlen : (wl_fl2 (.ref q :: As)).length ≤ nL2) (hcat : (rest.map fun v => v.category).sum ≤ 8) (hcel : k + MC ≤ R.cells ∧ n + MS ≤ R.slots) (hb1 : Ls.all (wfV mh.length) = true) (hb2 : rest.all (wfV mh.length) = true)
    (hB : ∀ lk, Wq cc2 y.cls nL2 R2 (wq_fin lk Mh MC MS) G lk [] 0 0 0 (wl_en (.ref q :: As) nL2) [] mh)
    (kk : ∀ x, Wq cc own nL R Fn G lk0 (ext ++ x) (k + MC) (n + MS) (pc + 3) Ls rest Mh) : Wq cc own nL R Fn G lk0 ext k n pc Ls stk mh := by
  intro A p l e s m args below meth c Z hC hF hwf H locs ls hR hL
  subst hst
  obtain ⟨hx, hb, hml, hown, hts, hK, hA, -⟩ := id hC
  have hstk : ((As.reverse ++ .ref q :: rest).map (wl_tv G (lk0 ++ ext))) = (As.map (wl_tv G (lk0 ++ ext))).reverse ++ .ref (wl_ad G (lk0 ++ ext) q) :: rest.map (wl_tv G (lk0 ++ ext)) := by
    rw [List.map_append, List.map_reverse]
    rfl
  refine wq_go (A1 := wl_A (lk0 ++ ext) H.size) (Mh := Mh) (va_runI (As := As.map (wl_tv G (lk0 ++ ext))) (b := wl_ad G (lk0 ++ ext) q) ⟨hx, hb, hml, hown, hts⟩ (wq_met (vs := .ref q :: As) hm.2.2.2 hyn hlen (hB _) l H.size) ⟨callB_of nn hts (wl_good hm.1) rfl hrm.2.2.1 hrm.2.2.2 (hts _ hm.2.1) (hts _ hw.1) hm.2.2.1 ⟨hrm.1, hrm.2.1⟩, hyn, hts _ hw.2⟩ ⟨wq_blind, wq_pre hC hR hwf (hao hF) (.ref q :: As)⟩ rfl (by rw [List.length_map]; exact hn) hL.1 hstk (lv_room (by rw [wl_cats]; exact hcat)) hd hcel) hR (wl_subA hR hC.2.2.2.2.2.2.1) (fun x H1 locs1 hwf1 hR1 => ?_)
  have hl := hR.1
  have hl2 := hR.2.1
  have e1 : Ls.map (wl_tv G ((lk0 ++ ext) ++ x)) = Ls.map (wl_tv G (lk0 ++ ext)) := wl_tvs_ext G x (by omega) (fun v hv => by rw [hl]; exact List.all_eq_true.mp hb1 v hv)
  have e2 : rest.map (wl_tv G ((lk0 ++ ext) ++ x)) = rest.map (wl_tv G (lk0 ++ ext)) := wl_tvs_ext G x (by omega) (fun v hv => by rw [hl]; exact List.all_eq_true.mp hb2 v hv)
  have ea : lk0 ++ (ext ++ x) = (lk0 ++ ext) ++ x := (List.append_assoc _ _ _).symm
  have h := kk x A p l e s m args below meth c Z hC hF hwf1 H1 locs1 ls (by rw [ea]; exact hR1) (by rw [ea]; unfold wl_L; rw [e1]; exact hL)
  rw [ea, e2] at h
  exact h
theorem wq_callIN {idx q nn : Nat} {y : MethodName} {cc2 : ByteArray} {nL2 : Nat} {R2 : Room} {As stk : List Value} {Mh : wl_H} {MC MS : Nat} (hao : ∀ {G A p l e R s m args below meth c Z}, Fn G A p l e R s m args below meth c Z → wl_AO s) (hd : decode cc pc = .ok (.invokespecial idx, 3)) (hm : wl_mf y cc2 nL2 none nn) {host : String} (hw : Cond.methodLinkNest own idx y host ∈ lw_tbl ∧ Cond.instanceMethod y ∈ wl_gw) (hyn : y.name = "<init>") (hrm : wq_rm R R2 nL2 MC MS)
    (hst : stk = As.reverse ++ .ref q :: rest) (hn : As.length = nn) (hlen : (wl_fl2 (.ref q :: As)).length ≤ nL2) (hcat : (rest.map fun v => v.category).sum ≤ 8) (hcel : k + MC ≤ R.cells ∧ n + MS ≤ R.slots) (hb1 : Ls.all (wfV mh.length) = true) (hb2 : rest.all (wfV mh.length) = true)
    (hB : ∀ lk, Wq cc2 y.cls nL2 R2 (wq_fin lk Mh MC MS) G lk [] 0 0 0 (wl_en (.ref q :: As) nL2) [] mh)
    (kk : ∀ x, Wq cc own nL R Fn G lk0 (ext ++ x) (k + MC) (n + MS) (pc + 3) Ls rest Mh) : Wq cc own nL R Fn G lk0 ext k n pc Ls stk mh := by
  intro A p l e s m args below meth c Z hC hF hwf H locs ls hR hL
  subst hst
  obtain ⟨hx, hb, hml, hown, hts, hK, hA, -⟩ := id hC
  have hstk : ((As.reverse ++ .ref q :: rest).map (wl_tv G (lk0 ++ ext))) = (As.map (wl_tv G (lk0 ++ ext))).reverse ++ .ref (wl_ad G (lk0 ++ ext) q) :: rest.map (wl_tv G (lk0 ++ ext)) := by
    rw [List.map_append, List.map_reverse]
    rfl
  refine wq_go (A1 := wl_A (lk0 ++ ext) H.size) (Mh := Mh) (va_runIN (As := As.map (wl_tv G (lk0 ++ ext))) (b := wl_ad G (lk0 ++ ext) q) (host := host) ⟨hx, hb, hml, hown, hts⟩ (wq_met (vs := .ref q :: As) hm.2.2.2 hyn hlen (hB _) l H.size) ⟨va_cnB nn hts (wl_good hm.1) rfl hrm.2.2.1 hrm.2.2.2 (hK.2.1 _ _ _ _ hw.1) (hts _ hm.2.1) hm.2.2.1 ⟨hrm.1, hrm.2.1⟩, hyn, hts _ hw.2⟩ ⟨wq_blind, wq_pre hC hR hwf (hao hF) (.ref q :: As)⟩ rfl (by rw [List.length_map]; exact hn) hL.1 hstk (lv_room (by rw [wl_cats]; exact hcat)) hd hcel) hR (wl_subA hR hC.2.2.2.2.2.2.1) (fun x H1 locs1 hwf1 hR1 => ?_)
  have hl := hR.1
  have hl2 := hR.2.1
  have e1 : Ls.map (wl_tv G ((lk0 ++ ext) ++ x)) = Ls.map (wl_tv G (lk0 ++ ext)) := wl_tvs_ext G x (by omega) (fun v hv => by rw [hl]; exact List.all_eq_true.mp hb1 v hv)
  have e2 : rest.map (wl_tv G ((lk0 ++ ext) ++ x)) = rest.map (wl_tv G (lk0 ++ ext)) := wl_tvs_ext G x (by omega) (fun v hv => by rw [hl]; exact List.all_eq_true.mp hb2 v hv)
  have ea : lk0 ++ (ext ++ x) = (lk0 ++ ext) ++ x := (List.append_assoc _ _ _).symm
  have h := kk x A p l e s m args below meth c Z hC hF hwf1 H1 locs1 ls (by rw [ea]; exact hR1) (by rw [ea]; unfold wl_L; rw [e1]; exact hL)
  rw [ea, e2] at h
  exact h
theorem wq_callV {idx q ci N : Nat} {T : u_T} {fs : List Value} {y : MethodName} {cc2 : ByteArray} {nL2 : Nat} {R2 : Room} {Mh : wl_H} (hd : decode cc pc = .ok (.invokevirtual idx, 3)) (hm : wl_mf y cc2 nL2 none 0) (hw : Cond.methodLink own idx y ∈ wl_gw ∧ Cond.instanceMethod y ∈ wl_gw ∧ Cond.selects y.cls y y ∈ wl_gw) (hrm : wl_rm R R2 nL2) (hq : mh[q]? = some (.inr (ci, fs))) (hc : vwCl[ci]? = some (y.cls, T, N))
    (hlen : 1 ≤ nL2) (hcat : (rest.map fun v => v.category).sum ≤ 8) (hcel : k ≤ R.cells ∧ n ≤ R.slots) (hwM : wfH Mh.length Mh)
    (hB : Wp cc2 y.cls nL2 R2 (wl_fin none (fun rv m2 => rv = none ∧ m2 = Mh)) 0 (wl_en [.ref q] nL2) [] mh)
    (kk : Wq cc own nL R Fn G lk0 ext k n (pc + 3) Ls rest Mh) : Wq cc own nL R Fn G lk0 ext k n pc Ls (.ref q :: rest) mh := by
  intro A p l e s m args below meth c Z hC hF hwf H locs ls hR hL
  obtain ⟨hx, hb, hml, hown, hts, hK, -, -⟩ := id hC
  obtain ⟨a, ha, hca, had⟩ := wl_q hR hq
  have hrec := va_recv hK.1 hR.2.2.1 hc (show (wl_conc G (lk0 ++ ext) mh)[q]? = some (a.1, .inr (ci, fs.map (wl_tv G (lk0 ++ ext)))) from hca)
  rw [← had] at hrec
  refine wl_go (A1 := wl_A (lk0 ++ ext) H.size) (Q2 := fun rv m2 => rv = none ∧ m2 = Mh) (va_runV (As := []) (b := wl_ad G (lk0 ++ ext) q) ⟨hx, hb, hml, hown, hts⟩ (wp_met (vs := [.ref q]) hm.2.2.2 hB hlen l G (lk0 ++ ext) H.size) (cwV 0 hts (wl_wsV hm hw) rfl hrm.2.2.1 hrm.2.2.2 ⟨rfl, hm.2.2.1⟩ ⟨hrm.1, hrm.2.1⟩) ⟨wl_blind, hrec, wl_pre hC hR [.ref q]⟩ rfl rfl hL.1 rfl (lv_room (by rw [wl_cats]; exact hcat)) hd hcel) hR (wl_subA hR hC.2.2.2.2.2.2.1) (fun rv mh2 H1 locs1 hq hR2 => ?_)
  obtain ⟨rfl, rfl⟩ := hq
  exact kk A p l e s m args below meth c Z hC hF hwM H1 locs1 ls hR2 hL
end WQS
