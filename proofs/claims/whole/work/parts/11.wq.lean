theorem va_AOA.moved {t : FieldType} {u U : State} (hvm : u.vm.Alike U.vm) (h : va_AOA t u) : va_AOA t U := over_moved (a := #[]) (a' := #[]) hvm h
def wfV (n : Nat) (v : Value) : Bool := match v with
  | .ref i => decide (i < n) || decide (1000 ≤ i)
  | _ => true
def wfE (n : Nat) (e : va_E) : Prop := match e with
  | .inl (_, _, .inl _) => True
  | .inl (_, _, .inr (.inl _)) => True
  | .inl (_, _, .inr (.inr (.inl _))) => True
  | .inl (_, _, .inr (.inr (.inr (.inl _)))) => True
  | .inl (_, _, .inr (.inr (.inr (.inr f)))) => ∀ j r, f j = some r → r < n
  | .inr (_, fs) => ∀ v ∈ fs, wfV n v = true
def wfH (n : Nat) (mh : wl_H) : Prop := ∀ (i : Nat) (e : va_E), mh[i]? = some e → wfE n e
theorem wfV_mono {n n2 : Nat} (h : n ≤ n2) {v : Value} (hv : wfV n v = true) : wfV n2 v = true := by
  cases v with
  | ref i =>
    simp only [wfV, Bool.or_eq_true, decide_eq_true_eq] at hv ⊢
    rcases hv with h1 | h1
    · exact Or.inl (Nat.lt_of_lt_of_le h1 h)
    · exact Or.inr h1
  | _ => rfl
theorem wfE_mono {n n2 : Nat} (h : n ≤ n2) {e : va_E} (he : wfE n e) : wfE n2 e := by
  obtain ⟨tg, k, f | f | f | f | f⟩ | ⟨ci, fs⟩ := e
  · trivial
  · trivial
  · trivial
  · trivial
  · exact fun j r hr => Nat.lt_of_lt_of_le (he j r hr) h
  · exact fun v hv => wfV_mono h (he v hv)
theorem wfH_app {n n2 : Nat} (h : n ≤ n2) {mh es : wl_H} (h1 : wfH n mh) (h2 : ∀ e ∈ es, wfE n2 e) : wfH n2 (mh ++ es) := by
  intro i e he
  rcases List.mem_append.mp (List.mem_of_getElem? he) with q | q
  · obtain ⟨j, hj⟩ := List.getElem?_of_mem q
    exact wfE_mono h (h1 j e hj)
  · exact h2 e q
theorem wfH_set {n : Nat} {mh : wl_H} (h1 : wfH n mh) {q : Nat} {e : va_E} (h2 : wfE n e) : wfH n (mh.set q e) := by
  intro i x hx
  rcases List.mem_or_eq_of_mem_set (List.mem_of_getElem? hx) with z | z
  · obtain ⟨j, hj⟩ := List.getElem?_of_mem z
    exact h1 j x hj
  · rw [z]; exact h2
theorem wl_ad_ext (G : wl_G) {lk : wl_Lk} (x : wl_Lk) (hl : lk.length ≤ 1000) {i : Nat} (h : i < lk.length ∨ 1000 ≤ i) : wl_ad G (lk ++ x) i = wl_ad G lk i := by
  unfold wl_ad
  by_cases hi : i < 1000
  · rw [if_pos hi, if_pos hi]
    have h2 : i < lk.length := by omega
    rw [List.getD_eq_getElem?_getD, List.getD_eq_getElem?_getD, List.getElem?_append_left h2]
  · rw [if_neg hi, if_neg hi]
theorem wl_tv_ext (G : wl_G) {lk : wl_Lk} (x : wl_Lk) (hl : lk.length ≤ 1000) {v : Value} (h : wfV lk.length v = true) : wl_tv G (lk ++ x) v = wl_tv G lk v := by
  cases v <;> try rfl
  simp only [wfV, Bool.or_eq_true, decide_eq_true_eq] at h
  simp only [wl_tv]
  rw [wl_ad_ext G x hl h]
theorem wl_tvs_ext (G : wl_G) {lk : wl_Lk} (x : wl_Lk) (hl : lk.length ≤ 1000) {vs : List Value} (h : ∀ v ∈ vs, wfV lk.length v = true) : vs.map (wl_tv G (lk ++ x)) = vs.map (wl_tv G lk) := List.map_congr_left fun v hv => wl_tv_ext G x hl (h v hv)
theorem wl_cell_ext (G : wl_G) {lk : wl_Lk} (x : wl_Lk) (hl : lk.length ≤ 1000) (a : Nat × ClassId) {e : va_E} (h : wfE lk.length e) : wl_cell G (lk ++ x) a e = wl_cell G lk a e := by
  obtain ⟨tg, k, f | f | f | f | f⟩ | ⟨ci, fs⟩ := e
  · rfl
  · rfl
  · rfl
  · rfl
  · have e : (fun j => (f j).map (wl_ad G (lk ++ x))) = (fun j => (f j).map (wl_ad G lk)) := by
      funext j
      cases hj : f j with
      | none => rfl
      | some r =>
        show some _ = some _
        rw [wl_ad_ext G x hl (Or.inl (h j r hj))]
    simp only [wl_cell]
    rw [e]
  · simp only [wl_cell]
    rw [wl_tvs_ext G x hl h]
theorem wl_conc_ext (G : wl_G) {lk : wl_Lk} (x : wl_Lk) {mh : wl_H} (es : wl_H) (hl : lk.length = mh.length) (hl2 : mh.length ≤ 1000) (h : wfH mh.length mh) : wl_conc G (lk ++ x) (mh ++ es) = wl_conc G lk mh ++ List.zipWith (wl_cell G (lk ++ x)) x es := by
  unfold wl_conc
  rw [List.zipWith_append hl]
  congr 1
  apply List.ext_getElem?
  intro i
  rw [List.getElem?_zipWith, List.getElem?_zipWith]
  cases h1 : lk[i]? with
  | none => rfl
  | some a =>
    cases h2 : mh[i]? with
    | none => rfl
    | some e =>
      show some _ = some _
      rw [wl_cell_ext G x (by omega) a (by rw [hl]; exact h i e h2)]
theorem wl_D_of {A : Nat → Prop} {G : wl_G} {lk : wl_Lk} {mh : wl_H} (hl : lk.length = mh.length) (h : va_D A (wl_conc G lk mh)) : wl_D A lk := by
  have key : ∀ (i : Nat) (a : Nat × ClassId), lk[i]? = some a → ∃ x, (wl_conc G lk mh)[i]? = some x ∧ x.1 = a.1 := by
    intro i a ha
    have h1 : i < lk.length := (List.getElem?_eq_some_iff.mp ha).1
    have h2 : i < mh.length := by omega
    refine ⟨wl_cell G lk a mh[i], ?_, rfl⟩
    rw [wl_conc, List.getElem?_zipWith, ha, List.getElem?_eq_getElem h2]
  refine ⟨fun i j a b hi hj hab => ?_, fun i a hi => ?_⟩
  · obtain ⟨x, h1, h2⟩ := key i a hi
    obtain ⟨y, h3, h4⟩ := key j b hj
    exact h.1 i j x y h1 h3 (by rw [h2, h4, hab])
  · obtain ⟨x, h1, h2⟩ := key i a hi
    rw [← h2]
    exact h.2 i x h1
theorem wl_grow {G : wl_G} {lk x : wl_Lk} {A : Nat → Prop} {s : State} {mh es : wl_H} {H H1 : Heap} {locs : List Loc} (hR : wl_R G lk A s mh H locs) (hwf : wfH mh.length mh) (hlen : (mh ++ es).length ≤ 1000) (hx : x.length = es.length) (hP1 : va_P G.2.2.2.2.2 vwCl (wl_conc G lk mh ++ List.zipWith (wl_cell G (lk ++ x)) x es) H1) (hD1 : va_D A (wl_conc G lk mh ++ List.zipWith (wl_cell G (lk ++ x)) x es)) (hS1 : va_S A s.heap H1 locs) (hT1 : wl_Ty x es s) : wl_R G (lk ++ x) A s (mh ++ es) H1 locs := by
  have hl := hR.1
  have e := wl_conc_ext G x es hl hR.2.1 hwf
  rw [← e] at hP1 hD1
  have hl3 : (lk ++ x).length = (mh ++ es).length := by rw [List.length_append, List.length_append, hl, hx]
  refine ⟨hl3, hlen, hP1, wl_D_of hl3 hD1, hS1, ?_⟩
  intro i a tg z h1 h2
  by_cases hi : i < mh.length
  · rw [List.getElem?_append_left (by omega)] at h1
    rw [List.getElem?_append_left hi] at h2
    exact hR.2.2.2.2.2 i a tg z h1 h2
  · rw [List.getElem?_append_right (by omega)] at h1
    rw [List.getElem?_append_right (by omega)] at h2
    rw [hl] at h1
    exact hT1 (i - mh.length) a tg z h1 h2
abbrev wl_Fq : Type := wl_G → (Nat → Prop) → Program → Launch → Env → Room → State → MethodId → Array Value → List Frame → Method → Code → (State → Prop) → Prop
def Wq (cc : ByteArray) (own : String) (nL : Nat) (R : Room) (Fn : wl_Fq) (G : wl_G) (lk0 ext : wl_Lk) (k n pc : Nat) (Ls stk : List Value) (mh : wl_H) : Prop :=
  ∀ (A : Nat → Prop) (p : Program) (l : Launch) (e : Env) (s : State) (m : MethodId) (args : Array Value) (below : List Frame) (meth : Method) (c : Code) (Z : State → Prop),
    wl_C G A p s m args meth c cc own nL → Fn G A p l e R s m args below meth c Z → wfH mh.length mh → ∀ (H : Heap) (locs : List Loc) (ls : Array Slot), wl_R G (lk0 ++ ext) A s mh H locs → wl_L G (lk0 ++ ext) nL Ls ls → W p l e R s m args below meth c H locs k n Z (F0 m pc ls (stk.map (wl_tv G (lk0 ++ ext))))
def wl_Qa (G : wl_G) (lk : wl_Lk) (A : Nat → Prop) (Mh : wl_H) : Array Value → State → Outcome → State → Prop := fun _ st oc t => ∃ ext : wl_Lk, oc = .returned none ∧ (lk ++ ext).length = Mh.length ∧ Mh.length ≤ 1000 ∧ wfH Mh.length Mh ∧ va_P G.2.2.2.2.2 vwCl (wl_conc G (lk ++ ext) Mh) t.heap ∧ wl_Ty (lk ++ ext) Mh t ∧ wl_D A (lk ++ ext) ∧ va_F A st t
/-- the array classes of two dimensions, as multianewarray wants them -/
def wl_AO (U : State) : Prop := va_AOA .int U ∧ va_AOA .long U
def wq_fin (lk0 : wl_Lk) (Mh : wl_H) (MC MS : Nat) : wl_Fq := fun G A _ _ _ _ s _ args below meth _ Z => meth.sig.returnType = none ∧ meth.name = "<init>" ∧ wl_AO s ∧ Z = MQ below (wl_Qa G lk0 A Mh) args s MC MS A
section WQR
variable {cc : ByteArray} {own : String} {nL : Nat} {R : Room} {Fn : wl_Fq} {G : wl_G} {lk0 ext : wl_Lk} {k n pc : Nat} {Ls rest : List Value} {mh : wl_H}

theorem wq_iconst {v0 : Int} {v : Int32} (hd : decode cc pc = .ok (.iconst v0, 1)) (hv : Int32.ofInt v0 = v) (kk : Wq cc own nL R Fn G lk0 ext k n (pc + 1) Ls (.int v :: rest) mh) : Wq cc own nL R Fn G lk0 ext k n pc Ls (rest) mh :=
  fun A p l e s m args below meth c Z hC hF hwf H locs ls hR hL => lv_iconst hC.1 hC.2.1 hd hv (kk A p l e s m args below meth c Z hC hF hwf H locs ls hR hL)
theorem wq_bipush {v0 : Int} {v : Int32} (hd : decode cc pc = .ok (.bipush v0, 2)) (hv : (Int8.ofInt v0).toInt32 = v) (kk : Wq cc own nL R Fn G lk0 ext k n (pc + 2) Ls (.int v :: rest) mh) : Wq cc own nL R Fn G lk0 ext k n pc Ls (rest) mh :=
  fun A p l e s m args below meth c Z hC hF hwf H locs ls hR hL => lv_bipush hC.1 hC.2.1 hd hv (kk A p l e s m args below meth c Z hC hF hwf H locs ls hR hL)
theorem wq_sipush {v0 : Int} {v : Int32} (hd : decode cc pc = .ok (.sipush v0, 3)) (hv : (Int16.ofInt v0).toInt32 = v) (kk : Wq cc own nL R Fn G lk0 ext k n (pc + 3) Ls (.int v :: rest) mh) : Wq cc own nL R Fn G lk0 ext k n pc Ls (rest) mh :=
  fun A p l e s m args below meth c Z hC hF hwf H locs ls hR hL => lv_sipush hC.1 hC.2.1 hd hv (kk A p l e s m args below meth c Z hC hF hwf H locs ls hR hL)
theorem wq_dup {va : Value} (hd : decode cc pc = .ok (.dup, 1)) (hc : va.category = 1) (kk : Wq cc own nL R Fn G lk0 ext k n (pc + 1) Ls (va :: va :: rest) mh) : Wq cc own nL R Fn G lk0 ext k n pc Ls (va :: rest) mh :=
  fun A p l e s m args below meth c Z hC hF hwf H locs ls hR hL => lv_dup hC.1 hC.2.1 hd (by rw [wl_tv_cat]; exact hc) (kk A p l e s m args below meth c Z hC hF hwf H locs ls hR hL)
theorem wq_aload_n {j : Fin 4} {i x : Nat} (hd : decode cc pc = .ok (.aload_n j, 1)) (hi : (j : Nat) = i) (hl : Ls[i]? = some (.ref x)) (kk : Wq cc own nL R Fn G lk0 ext k n (pc + 1) Ls (.ref x :: rest) mh) : Wq cc own nL R Fn G lk0 ext k n pc Ls rest mh :=
  fun A p l e s m args below meth c Z hC hF hwf H locs ls hR hL => lv_aload_n hC.1 hC.2.1 hd hi (hL.get hl rfl) (kk A p l e s m args below meth c Z hC hF hwf H locs ls hR hL)
theorem wq_astore_n {j : Fin 4} {i x : Nat} {Ms : List Value} (hd : decode cc pc = .ok (.astore_n j, 1)) (hi : (j : Nat) = i) (hn : i < nL) (hm : wl_st1 Ls i (.ref x) = Ms) (kk : Wq cc own nL R Fn G lk0 ext k n (pc + 1) Ms rest mh) : Wq cc own nL R Fn G lk0 ext k n pc Ls (.ref x :: rest) mh :=
  fun A p l e s m args below meth c Z hC hF hwf H locs ls hR hL => lv_astore_n hC.1 hC.2.1 hd hi hL hn rfl (fun ls' hl' => kk A p l e s m args below meth c Z hC hF hwf H locs ls' hR (hm ▸ wl_st1_ok (v := .ref x) hl'))
theorem wq_istore_n {j : Fin 4} {i : Nat} {x : Int32} {Ms : List Value} (hd : decode cc pc = .ok (.istore_n j, 1)) (hi : (j : Nat) = i) (hn : i < nL) (hm : wl_st1 Ls i (.int x) = Ms) (kk : Wq cc own nL R Fn G lk0 ext k n (pc + 1) Ms rest mh) : Wq cc own nL R Fn G lk0 ext k n pc Ls (.int x :: rest) mh :=
  fun A p l e s m args below meth c Z hC hF hwf H locs ls hR hL => lv_istore_n hC.1 hC.2.1 hd hi hL hn rfl (fun ls' hl' => kk A p l e s m args below meth c Z hC hF hwf H locs ls' hR (hm ▸ wl_st1_ok (v := .int x) hl'))
theorem wq_obj {idx q : Nat} (hd : decode cc pc = .ok (.invokespecial idx, 3)) (hw : Cond.methodLink own idx Lib.objectInit ∈ wl_gw ∧ Cond.instanceMethod Lib.objectInit ∈ wl_gw ∧ Cond.code Lib.objectInit ⟨#[0xb1]⟩ 1 none ∈ wl_gw) (hf : 1 ≤ R.frames ∧ 20 ≤ R.locals) (hcat : (rest.map fun v => v.category).sum ≤ 8) (kk : Wq cc own nL R Fn G lk0 ext k n (pc + 3) Ls rest mh) : Wq cc own nL R Fn G lk0 ext k n pc Ls (.ref q :: rest) mh := by
  intro A p l e s m args below meth c Z hC hF hwf H locs ls hR hL
  obtain ⟨hx, hb, hml, hown, hts, hK, -, -⟩ := id hC
  refine W.objInit hx hb hown (hts _ hw.1) (hts _ hw.2.1) (hts _ hw.2.2) (g := F0 m pc ls ((.ref q :: rest).map (wl_tv G (lk0 ++ ext)))) rfl (by rw [hml]; exact hL.1) rfl hd hf.1 ?_ (kk A p l e s m args below meth c Z hC hF hwf H locs ls hR hL)
  have := wl_cats G (lk0 ++ ext) rest
  show 2 * 0 + _ + 12 ≤ _
  omega
theorem wq_iast {q N j : Nat} {f : Nat → Int32} {i x : Int32} {mh2 : wl_H} (hd : decode cc pc = .ok (.iastore, 1)) (hq : mh[q]? = some (.inl (0, N, .inl f))) (hin : vp_in i N) (hj : i.toNatClampNeg = j) (hm : mh.set q (.inl (0, N, .inl (upd f j x))) = mh2) (kk : Wq cc own nL R Fn G lk0 ext k n (pc + 1) Ls rest mh2) : Wq cc own nL R Fn G lk0 ext k n pc Ls (.int x :: .int i :: .ref q :: rest) mh := by
  intro A p l e s m args below meth c Z hC hF hwf H locs ls hR hL
  subst hj
  obtain ⟨hx, hb, hml, hown, hts, hK, -, -⟩ := id hC
  obtain ⟨a, ha, hca, had⟩ := wl_q hR hq
  show W p l e R s m args below meth c H locs k n Z (F0 m pc ls (.int x :: .int i :: .ref (wl_ad G (lk0 ++ ext) q) :: rest.map (wl_tv G (lk0 ++ ext))))
  rw [had]
  refine va_iast hx hb (wl_K1 hK.1 (hR.2.2.2.2.2 q a 0 _ ha hq)) hR.2.2.1 (hR.2.2.2.1.va G mh) hR.2.2.2.2.1 q 0 (show (wl_conc G (lk0 ++ ext) mh)[q]? = some (a.1, .inl (a.2, N, .inl f)) from hca) rfl hin hd (fun H1 locs1 hP1 _ hS1 => ?_)
  subst hm
  exact kk A p l e s m args below meth c Z hC hF (by rw [List.length_set]; exact wfH_set hwf (by trivial)) H1 locs1 ls (hR.seta hq ha hP1 hS1) hL
theorem wq_put {idx ci j q : Nat} {ty : FieldType} {fs : List Value} {v : Value} {mh2 : wl_H} (hd : decode cc pc = .ok (.putfield idx, 3)) (hf : wl_fl own idx ci j ty) (hnf : wl_nf ci j = true) (hq : mh[q]? = some (.inr (ci, fs))) (hk2 : j < fs.length) (hv : ∀ G lk, wl_tv G lk v = v) (hvw : wfV mh.length v = true) (hna : narrow ty v = v) (hfit : fits ty v = true) (hm : mh.set q (.inr (ci, fs.set j v)) = mh2) (kk : Wq cc own nL R Fn G lk0 ext k n (pc + 3) Ls rest mh2) : Wq cc own nL R Fn G lk0 ext k n pc Ls (v :: .ref q :: rest) mh := by
  intro A p l e s m args below meth c Z hC hF hwf H locs ls hR hL
  obtain ⟨hx, hb, hml, hown, hts, hK, -, -⟩ := id hC
  obtain ⟨C, T, N, ty0, h1, h2, h3, h4, h5, h6, h7⟩ := hf
  obtain ⟨a, ha, hca, had⟩ := wl_q hR hq
  show W p l e R s m args below meth c H locs k n Z (F0 m pc ls (wl_tv G (lk0 ++ ext) v :: .ref (wl_ad G (lk0 ++ ext) q) :: rest.map (wl_tv G (lk0 ++ ext))))
  rw [had, hv G (lk0 ++ ext)]
  have hnf2 : (T j).2.2.2 = false := by
    unfold wl_nf at hnf
    rw [h1] at hnf
    simpa using hnf
  refine va_put (ref := (T j).1) hx hb hts h4 ty0 h5 h6 hown hK.1 hR.2.2.1 (hR.2.2.2.1.va G mh) hR.2.2.2.2.1 q (show (wl_conc G (lk0 ++ ext) mh)[q]? = some (a.1, .inr (ci, fs.map (wl_tv G (lk0 ++ ext)))) from hca) h1 j h2 (hts _ h3) (fun _ h => h) hnf2 (ty := ty) (by rw [h5 j h2, h7]) hna hfit (by rw [List.length_map]; exact hk2) hd (fun H1 locs1 hP1 _ hS1 => ?_)
  subst hm
  have hwf2 : wfH (mh.set q (.inr (ci, fs.set j v))).length (mh.set q (.inr (ci, fs.set j v))) := by
    rw [List.length_set]
    refine wfH_set hwf (fun u hu => ?_)
    rcases List.mem_or_eq_of_mem_set hu with z | z
    · exact hwf q _ hq u z
    · rw [z]; exact hvw
  refine kk A p l e s m args below meth c Z hC hF hwf2 H1 locs1 ls ?_ hL
  refine hR.seto hq ha ?_ hS1
  have e : wl_cell G (lk0 ++ ext) a (.inr (ci, fs.set j v)) = (a.1, .inr (ci, (fs.map (wl_tv G (lk0 ++ ext))).set j v)) := by
    show (a.1, Sum.inr (ci, (fs.set j v).map (wl_tv G (lk0 ++ ext)))) = _
    rw [List.map_set, hv G (lk0 ++ ext)]
  rw [e]
  exact hP1
theorem wq_putF {idx ci j q r : Nat} {ty : FieldType} {fs : List Value} {mh2 : wl_H} (hI : ∀ {G A p l e R s m args below meth c Z}, Fn G A p l e R s m args below meth c Z → meth.name = "<init>") (hd : decode cc pc = .ok (.putfield idx, 3)) (hf : wl_fl own idx ci j ty) (hnf : wl_nf ci j = false) (hdc : ∀ C T N, vwCl[ci]? = some (C, T, N) → (T j).1 = own ∧ (T j).2.2.2 = true) (hq : mh[q]? = some (.inr (ci, fs))) (hk2 : j < fs.length) (hvw : wfV mh.length (.ref r) = true) (hna : ∀ z : Nat, narrow ty (.ref z) = .ref z) (hfit : ∀ z : Nat, fits ty (.ref z) = true) (hm : mh.set q (.inr (ci, fs.set j (.ref r))) = mh2) (kk : Wq cc own nL R Fn G lk0 ext k n (pc + 3) Ls rest mh2) : Wq cc own nL R Fn G lk0 ext k n pc Ls (.ref r :: .ref q :: rest) mh := by
  intro A p l e s m args below meth c Z hC hF hwf H locs ls hR hL
  obtain ⟨hx, hb, hml, hown, hts, hK, -, -⟩ := id hC
  obtain ⟨C, T, N, ty0, h1, h2, h3, h4, h5, h6, h7⟩ := hf
  obtain ⟨a, ha, hca, had⟩ := wl_q hR hq
  obtain ⟨d1, d2⟩ := hdc C T N h1
  show W p l e R s m args below meth c H locs k n Z (F0 m pc ls (.ref (wl_ad G (lk0 ++ ext) r) :: .ref (wl_ad G (lk0 ++ ext) q) :: rest.map (wl_tv G (lk0 ++ ext))))
  rw [had]
  refine va_putF (ref := (T j).1) hx hb hts h4 ty0 h5 h6 hown hK.1 hR.2.2.1 (hR.2.2.2.1.va G mh) hR.2.2.2.2.1 q (show (wl_conc G (lk0 ++ ext) mh)[q]? = some (a.1, .inr (ci, fs.map (wl_tv G (lk0 ++ ext)))) from hca) h1 j h2 (hts _ h3) (fun _ h => h) d2 (hI hF) d1 (ty := ty) (by rw [h5 j h2, h7]) (hna _) (hfit _) (by rw [List.length_map]; exact hk2) hd (fun H1 locs1 hP1 _ hS1 => ?_)
  subst hm
  have hwf2 : wfH (mh.set q (.inr (ci, fs.set j (.ref r)))).length (mh.set q (.inr (ci, fs.set j (.ref r)))) := by
    rw [List.length_set]
    refine wfH_set hwf (fun u hu => ?_)
    rcases List.mem_or_eq_of_mem_set hu with z | z
    · exact hwf q _ hq u z
    · rw [z]; exact hvw
  refine kk A p l e s m args below meth c Z hC hF hwf2 H1 locs1 ls ?_ hL
  refine hR.seto hq ha ?_ hS1
  have e : wl_cell G (lk0 ++ ext) a (.inr (ci, fs.set j (.ref r))) = (a.1, .inr (ci, (fs.map (wl_tv G (lk0 ++ ext))).set j (.ref (wl_ad G (lk0 ++ ext) r)))) := by
    show (a.1, Sum.inr (ci, (fs.set j (.ref r)).map (wl_tv G (lk0 ++ ext)))) = _
    rw [List.map_set]
    rfl
  rw [e]
  exact hP1
theorem wq_ext {A : Nat → Prop} {p : Program} {l : Launch} {e : Env} {s : State} {m : MethodId} {args : Array Value} {below : List Frame} {meth : Method} {c : Code} {Z : State → Prop} {H H1 : Heap} {locs : List Loc} {ls : Array Slot} {k2 n2 pc2 : Nat} {x : wl_Lk} {es : wl_H} {st2 : List Value} (hC : wl_C G A p s m args meth c cc own nL) (hF : Fn G A p l e R s m args below meth c Z) (hwf : wfH mh.length mh) (hR : wl_R G (lk0 ++ ext) A s mh H locs) (hL : wl_L G (lk0 ++ ext) nL Ls ls) (hx : x.length = es.length) (hlen : (mh ++ es).length ≤ 1000) (hb1 : Ls.all (wfV mh.length) = true) (hb2 : st2.all (wfV mh.length) = true) (hes : ∀ u ∈ es, wfE (mh ++ es).length u)
    (hP1 : va_P G.2.2.2.2.2 vwCl (wl_conc G (lk0 ++ ext) mh ++ List.zipWith (wl_cell G ((lk0 ++ ext) ++ x)) x es) H1) (hD1 : va_D A (wl_conc G (lk0 ++ ext) mh ++ List.zipWith (wl_cell G ((lk0 ++ ext) ++ x)) x es)) (hS1 : va_S A s.heap H1 locs) (hT1 : wl_Ty x es s)
    (kk : Wq cc own nL R Fn G lk0 (ext ++ x) k2 n2 pc2 Ls (.ref mh.length :: st2) (mh ++ es)) {q : Nat} (hq : ∃ cA, x[0]? = some (q, cA)) : W p l e R s m args below meth c H1 locs k2 n2 Z (F0 m pc2 ls (.ref q :: st2.map (wl_tv G (lk0 ++ ext)))) := by
  have hR1 := wl_grow hR hwf hlen hx hP1 hD1 hS1 hT1
  have hl := hR.1
  have hl2 := hR.2.1
  have hwf1 : wfH (mh ++ es).length (mh ++ es) := wfH_app (by rw [List.length_append]; omega) hwf hes
  have e1 : Ls.map (wl_tv G ((lk0 ++ ext) ++ x)) = Ls.map (wl_tv G (lk0 ++ ext)) := wl_tvs_ext G x (by omega) (fun v hv => by rw [hl]; exact List.all_eq_true.mp hb1 v hv)
  have e2 : st2.map (wl_tv G ((lk0 ++ ext) ++ x)) = st2.map (wl_tv G (lk0 ++ ext)) := wl_tvs_ext G x (by omega) (fun v hv => by rw [hl]; exact List.all_eq_true.mp hb2 v hv)
  obtain ⟨cA, hq⟩ := hq
  have hx0 : 0 < x.length := (List.getElem?_eq_some_iff.mp hq).1
  have hget : ((lk0 ++ ext) ++ x)[mh.length]? = some (q, cA) := by
    rw [List.getElem?_append_right (by omega), ← hl, Nat.sub_self]
    exact hq
  have e3 : wl_tv G ((lk0 ++ ext) ++ x) (.ref mh.length) = .ref q := by
    show Value.ref (wl_ad G _ _) = _
    rw [wl_ad_eq hget (by rw [List.length_append] at hlen; omega)]
  have ea : lk0 ++ (ext ++ x) = (lk0 ++ ext) ++ x := (List.append_assoc _ _ _).symm
  have h := kk A p l e s m args below meth c Z hC hF hwf1 H1 locs ls (by rw [ea]; exact hR1) (by rw [ea]; unfold wl_L; rw [e1]; exact hL)
  rw [ea, List.map_cons, e2, e3] at h
  exact h
theorem wq_new {idx ci N : Nat} {C : String} {T : u_T} {ty0 : Nat → FieldType} {fs : List Value} (hd : decode cc pc = .ok (.new idx, 3)) (hw : Cond.classLink own idx C ∈ wl_gw ∧ Cond.instantiable C N ∈ wl_gw ∧ Cond.initialized C ∈ wl_gw) (hu : ∀ w ∈ u_ws C T N, w ∈ wl_gw) (hty : ∀ j, j < N → parseFieldDescriptor (T j).2.2.1 = some (ty0 j)) (hc : vwCl[ci]? = some (C, T, N)) (hfs : ∀ j, j < N → defaultValue (ty0 j) = vp_V fs j) (hfw : ∀ G lk, fs.map (wl_tv G lk) = fs) (hfv : ∀ v ∈ fs, wfV 0 v = true) (hlen : mh.length < 1000) (hb1 : Ls.all (wfV mh.length) = true) (hb2 : rest.all (wfV mh.length) = true) (hk : k + 1 ≤ R.cells) (hs : n + N ≤ R.slots)
    (kk : ∀ q, Wq cc own nL R Fn G lk0 (ext ++ [(q, 0)]) (k + 1) (n + N) (pc + 3) Ls (.ref mh.length :: rest) (mh ++ [.inr (ci, fs)])) : Wq cc own nL R Fn G lk0 ext k n pc Ls rest mh := by
  intro A p l e s m args below meth c Z hC hF hwf H locs ls hR hL
  obtain ⟨hx, hb, hml, hown, hts, hK, hA, -⟩ := id hC
  refine va_new (ci := ci) (fs := fs) hx hb hts hu ty0 hty hown (hts _ hw.1) (hts _ hw.2.1) (hts _ hw.2.2) hK.1 hR.2.2.1 (hR.2.2.2.1.va G mh) hR.2.2.2.2.1 hA hc hfs hk hs hd (fun q H1 hP1 hD1 hS1 => ?_)
  have e : List.zipWith (wl_cell G ((lk0 ++ ext) ++ [(q, 0)])) [(q, 0)] [.inr (ci, fs)] = [(q, .inr (ci, fs))] := by
    show [(q, Sum.inr (ci, fs.map (wl_tv G _)))] = _
    rw [hfw]
  refine wq_ext hC hF hwf hR hL (x := [(q, 0)]) (es := [.inr (ci, fs)]) rfl (by rw [List.length_append]; exact hlen) hb1 hb2 (fun u hu => ?_) (by rw [e]; exact hP1) (by rw [e]; exact hD1) hS1 (fun i a tg z h1 h2 => ?_) (kk q) ⟨0, rfl⟩
  · rw [List.mem_singleton.mp hu]
    exact fun v hv => wfV_mono (Nat.zero_le _) (hfv v hv)
  · cases i with
    | zero => cases h2
    | succ i => cases h2
theorem wq_newaI {N : Nat} {x : Int32} (hd : decode cc pc = .ok (.newarray .int, 2)) (hw : Cond.arrayClass .int ∈ wl_gw) (hx0 : ¬ x < 0) (hN : x.toNatClampNeg = N) (hby : N * 8 ≤ 536870912) (hlen : mh.length < 1000) (hb1 : Ls.all (wfV mh.length) = true) (hb2 : rest.all (wfV mh.length) = true) (hk : k + 1 ≤ R.cells) (hs : n + N ≤ R.slots)
    (kk : ∀ q cA, Wq cc own nL R Fn G lk0 (ext ++ [(q, cA)]) (k + 1) (n + N) (pc + 2) Ls (.ref mh.length :: rest) (mh ++ [.inl (0, N, .inl (fun _ => 0))])) : Wq cc own nL R Fn G lk0 ext k n pc Ls (.int x :: rest) mh := by
  intro A p l e s m args below meth c Z hC hF hwf H locs ls hR hL
  obtain ⟨hx, hb, hml, hown, hts, hK, hA, -⟩ := id hC
  refine va_newa (atype := ArrayType.int) (a0 := (N, .inl (fun _ => 0))) hx hb (hts _ hw) rfl hK.1 hR.2.2.1 (hR.2.2.2.1.va G mh) hR.2.2.2.2.1 hA (fun _ => rfl) hx0 hN (show N * 4 ≤ 536870912 by omega) hk hs hd (fun q cA H1 hK1 hP1 hD1 hS1 => ?_)
  refine wq_ext hC hF hwf hR hL (x := [(q, cA)]) (es := [.inl (0, N, .inl (fun _ => 0))]) rfl (by rw [List.length_append]; exact hlen) hb1 hb2 (fun u hu => by rw [List.mem_singleton.mp hu]; trivial) hP1 hD1 hS1 (fun i a tg z h1 h2 => ?_) (kk q cA) ⟨cA, rfl⟩
  cases i with
  | zero => cases h1; cases h2; exact hK1.2 0 _ rfl
  | succ i => cases h2
theorem wq_newaL {N : Nat} {x : Int32} (hd : decode cc pc = .ok (.newarray .long, 2)) (hw : Cond.arrayClass .long ∈ wl_gw) (hx0 : ¬ x < 0) (hN : x.toNatClampNeg = N) (hby : N * 8 ≤ 536870912) (hlen : mh.length < 1000) (hb1 : Ls.all (wfV mh.length) = true) (hb2 : rest.all (wfV mh.length) = true) (hk : k + 1 ≤ R.cells) (hs : n + N ≤ R.slots)
    (kk : ∀ q cA, Wq cc own nL R Fn G lk0 (ext ++ [(q, cA)]) (k + 1) (n + N) (pc + 2) Ls (.ref mh.length :: rest) (mh ++ [.inl (1, N, .inr (.inl (fun _ => 0)))])) : Wq cc own nL R Fn G lk0 ext k n pc Ls (.int x :: rest) mh := by
  intro A p l e s m args below meth c Z hC hF hwf H locs ls hR hL
  obtain ⟨hx, hb, hml, hown, hts, hK, hA, -⟩ := id hC
  refine va_newa (atype := ArrayType.long) (a0 := (N, .inr (.inl (fun _ => 0)))) hx hb (hts _ hw) rfl hK.1 hR.2.2.1 (hR.2.2.2.1.va G mh) hR.2.2.2.2.1 hA (fun _ => rfl) hx0 hN (show N * 8 ≤ 536870912 by omega) hk hs hd (fun q cA H1 hK1 hP1 hD1 hS1 => ?_)
  refine wq_ext hC hF hwf hR hL (x := [(q, cA)]) (es := [.inl (1, N, .inr (.inl (fun _ => 0)))]) rfl (by rw [List.length_append]; exact hlen) hb1 hb2 (fun u hu => by rw [List.mem_singleton.mp hu]; trivial) hP1 hD1 hS1 (fun i a tg z h1 h2 => ?_) (kk q cA) ⟨cA, rfl⟩
  cases i with
  | zero => cases h1; cases h2; exact hK1.2 0 _ rfl
  | succ i => cases h2
theorem wq_newaZ {N : Nat} {x : Int32} (hd : decode cc pc = .ok (.newarray .boolean, 2)) (hw : Cond.arrayClass .boolean ∈ wl_gw) (hx0 : ¬ x < 0) (hN : x.toNatClampNeg = N) (hby : N * 8 ≤ 536870912) (hlen : mh.length < 1000) (hb1 : Ls.all (wfV mh.length) = true) (hb2 : rest.all (wfV mh.length) = true) (hk : k + 1 ≤ R.cells) (hs : n + N ≤ R.slots)
    (kk : ∀ q cA, Wq cc own nL R Fn G lk0 (ext ++ [(q, cA)]) (k + 1) (n + N) (pc + 2) Ls (.ref mh.length :: rest) (mh ++ [.inl (2, N, .inl (fun _ => 0))])) : Wq cc own nL R Fn G lk0 ext k n pc Ls (.int x :: rest) mh := by
  intro A p l e s m args below meth c Z hC hF hwf H locs ls hR hL
  obtain ⟨hx, hb, hml, hown, hts, hK, hA, -⟩ := id hC
  refine va_newa (atype := ArrayType.boolean) (a0 := (N, .inl (fun _ => 0))) hx hb (hts _ hw) rfl hK.1 hR.2.2.1 (hR.2.2.2.1.va G mh) hR.2.2.2.2.1 hA (fun _ => rfl) hx0 hN (show N * 1 ≤ 536870912 by omega) hk hs hd (fun q cA H1 hK1 hP1 hD1 hS1 => ?_)
  refine wq_ext hC hF hwf hR hL (x := [(q, cA)]) (es := [.inl (2, N, .inl (fun _ => 0))]) rfl (by rw [List.length_append]; exact hlen) hb1 hb2 (fun u hu => by rw [List.mem_singleton.mp hu]; trivial) hP1 hD1 hS1 (fun i a tg z h1 h2 => ?_) (kk q cA) ⟨cA, rfl⟩
  cases i with
  | zero => cases h1; cases h2; exact hK1.2 0 _ rfl
  | succ i => cases h2
end WQR
