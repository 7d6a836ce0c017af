/-! ===== Wp: from a frame with these values over a small heap of numbered cells the method comes to its end ===== -/
def wl_gw : List Cond := lw_tbl.filter goodWord
def wl_ws (y : MethodName) (cc : ByteArray) (nL : Nat) (ret : Option FieldType) : List Cond := .code y cc nL ret :: wl_gw
theorem wl_gw_good {w : Cond} (h : w ∈ wl_gw) : goodWord w = true := (List.mem_filter.mp h).2
theorem wl_gw_in {w : Cond} (h : w ∈ wl_gw) : w ∈ lw_tbl := (List.mem_filter.mp h).1
theorem wl_good {y : MethodName} {cc : ByteArray} {nL : Nat} {ret : Option FieldType} (hc : Cond.code y cc nL ret ∈ wl_gw) : GoodIn wl_gw (wl_ws y cc nL ret) := by
  intro w hw
  rcases List.mem_cons.mp hw with rfl | h
  · exact ⟨hc, good_of_word (wl_gw_good hc)⟩
  · exact ⟨h, good_of_word (wl_gw_good h)⟩
theorem wl_good1 {w : Cond} (h : w ∈ wl_gw) : w ∈ wl_gw ∧ ((w.onTables && w.keeps) = true ∨ ∃ ty, w = .arrayClass ty) := ⟨h, good_of_word (wl_gw_good h)⟩
abbrev wl_G : Type := Nat × Nat × (Nat → Int32) × Nat × Nat × va_G
abbrev wl_Lk : Type := List (Nat × ClassId)
abbrev wl_H : Type := List va_E
def wl_ad (G : wl_G) (lk : wl_Lk) (i : Nat) : Nat := if i < 1000 then (lk.getD i (0, 0)).1 else if i = 1000 then G.1 else if i = 1001 then G.2.2.2.1 else G.2.2.2.2.1
def wl_tv (G : wl_G) (lk : wl_Lk) (v : Value) : Value := match v with
  | .ref i => .ref (wl_ad G lk i)
  | v => v
theorem wl_tv_cat (G : wl_G) (lk : wl_Lk) (v : Value) : (wl_tv G lk v).category = v.category := by cases v <;> rfl
def wl_ty (tg : Nat) : FieldType := match tg with
  | 0 => .int
  | 1 => .long
  | 2 => .boolean
  | 3 => .array .int
  | _ => .array .long
def wl_cell (G : wl_G) (lk : wl_Lk) (a : Nat × ClassId) (e : va_E) : Nat × va_E := (a.1, match e with
  | .inl (_, n, .inl f) => .inl (a.2, n, .inl f)
  | .inl (_, n, .inr (.inl f)) => .inl (a.2, n, .inr (.inl f))
  | .inl (_, n, .inr (.inr (.inl f))) => .inl (a.2, n, .inr (.inr (.inl f)))
  | .inl (_, n, .inr (.inr (.inr (.inl f)))) => .inl (a.2, n, .inr (.inr (.inr (.inl f))))
  | .inl (_, n, .inr (.inr (.inr (.inr f)))) => .inl (a.2, n, .inr (.inr (.inr (.inr (fun j => (f j).map (wl_ad G lk))))))
  | .inr (ci, fs) => .inr (ci, fs.map (wl_tv G lk)))
def wl_conc (G : wl_G) (lk : wl_Lk) (mh : wl_H) : va_W := List.zipWith (wl_cell G lk) lk mh
theorem wl_conc_get {G : wl_G} {lk : wl_Lk} {mh : wl_H} (hl : lk.length = mh.length) {q : Nat} {e : va_E} (h : mh[q]? = some e) : ∃ a, lk[q]? = some a ∧ (wl_conc G lk mh)[q]? = some (wl_cell G lk a e) := by
  have h1 : q < mh.length := (List.getElem?_eq_some_iff.mp h).1
  have h2 : q < lk.length := by omega
  refine ⟨lk[q], List.getElem?_eq_getElem h2, ?_⟩
  rw [wl_conc, List.getElem?_zipWith, List.getElem?_eq_getElem h2, h]
theorem wl_conc_inv {G : wl_G} {lk : wl_Lk} {mh : wl_H} {k : Nat} {x : Nat × va_E} (h : (wl_conc G lk mh)[k]? = some x) : ∃ a e, lk[k]? = some a ∧ mh[k]? = some e ∧ x = wl_cell G lk a e := by
  rw [wl_conc, List.getElem?_zipWith] at h
  cases h1 : lk[k]? with
  | none => rw [h1] at h; cases h
  | some a =>
    cases h2 : mh[k]? with
    | none => rw [h1, h2] at h; cases h
    | some e => rw [h1, h2] at h; exact ⟨a, e, rfl, rfl, (Option.some.inj h).symm⟩
theorem wl_conc_set {G : wl_G} {lk : wl_Lk} {mh : wl_H} {q : Nat} {a : Nat × ClassId} {e0 e : va_E} (ha : lk[q]? = some a) (h0 : mh[q]? = some e0) : (wl_conc G lk mh).set q (wl_cell G lk a e) = wl_conc G lk (mh.set q e) := by
  have h1 : q < mh.length := (List.getElem?_eq_some_iff.mp h0).1
  have h2 : q < lk.length := (List.getElem?_eq_some_iff.mp ha).1
  apply List.ext_getElem?
  intro j
  by_cases hj : q = j
  · subst hj
    rw [List.getElem?_set_self (by rw [wl_conc, List.length_zipWith]; omega), wl_conc, List.getElem?_zipWith, ha, List.getElem?_set_self h1]
  · rw [List.getElem?_set_ne hj, wl_conc, wl_conc, List.getElem?_zipWith, List.getElem?_zipWith, List.getElem?_set_ne hj]
def wl_D (A : Nat → Prop) (lk : wl_Lk) : Prop := (∀ (i j : Nat) (a b : Nat × ClassId), lk[i]? = some a → lk[j]? = some b → a.1 = b.1 → i = j) ∧ ∀ (i : Nat) (a : Nat × ClassId), lk[i]? = some a → A a.1
theorem wl_D.va {A : Nat → Prop} {lk : wl_Lk} (h : wl_D A lk) (G : wl_G) (mh : wl_H) : va_D A (wl_conc G lk mh) := by
  refine ⟨fun i j x y hi hj hxy => ?_, fun k x hk => ?_⟩
  · obtain ⟨a, e, h1, -, rfl⟩ := wl_conc_inv hi
    obtain ⟨b, f, h2, -, rfl⟩ := wl_conc_inv hj
    exact h.1 i j a b h1 h2 hxy
  · obtain ⟨a, e, h1, -, rfl⟩ := wl_conc_inv hk
    exact h.2 k a h1
def wl_Ty (lk : wl_Lk) (mh : wl_H) (U : State) : Prop := ∀ (i : Nat) (a : Nat × ClassId) (tg : Nat) (z : vp_A), lk[i]? = some a → mh[i]? = some (.inl (tg, z)) → ArrOfT U a.2 (wl_ty tg) ∧ va_RA U a.2 (wl_ty tg)
theorem wl_Ty.moved {lk : wl_Lk} {mh : wl_H} {u U : State} (hvm : u.vm.Alike U.vm) (h : wl_Ty lk mh u) : wl_Ty lk mh U := fun i a tg z h1 h2 => ⟨arrOfT_moved hvm (h i a tg z h1 h2).1, (h i a tg z h1 h2).2.moved hvm⟩
theorem wl_Ty.set {lk : wl_Lk} {mh : wl_H} {U : State} (h : wl_Ty lk mh U) {q tg : Nat} {z z' : vp_A} (h0 : mh[q]? = some (.inl (tg, z))) : wl_Ty lk (mh.set q (.inl (tg, z'))) U := by
  intro i a tg' z2 h1 h2
  by_cases hj : q = i
  · subst hj
    rw [List.getElem?_set_self (List.getElem?_eq_some_iff.mp h0).1] at h2
    cases h2
    exact h q a tg z h1 h0
  · rw [List.getElem?_set_ne hj] at h2
    exact h i a tg' z2 h1 h2
theorem wl_Ty.seto {lk : wl_Lk} {mh : wl_H} {U : State} (h : wl_Ty lk mh U) {q : Nat} {o : Nat × List Value} : wl_Ty lk (mh.set q (.inr o)) U := by
  intro i a tg' z2 h1 h2
  by_cases hj : q = i
  · subst hj
    by_cases hl : q < mh.length
    · rw [List.getElem?_set_self hl] at h2
      cases h2
    · rw [List.getElem?_eq_none (by rw [List.length_set]; omega)] at h2
      cases h2
  · rw [List.getElem?_set_ne hj] at h2
    exact h i a tg' z2 h1 h2
/-- the nest's links, as the tables have them -/
def wl_Nst (U : State) : Prop := ∀ (a : String) (i : Nat) (x : MethodName) (h : String), Cond.methodLinkNest a i x h ∈ lw_tbl → va_Nw (.methodLinkNest a i x h) U
def wl_lr (k : Nat) : Value := .int (([1, 1, 0] : List Int32).getD k 0)
def wl_gr (k : Nat) : Value := .int (([4, 8, 100] : List Int32).getD k 0)
/-- what stays over every call: the classes, the nest, the two tables, the script -/
def wl_K (G : wl_G) (A : Nat → Prop) (U : State) (H : Heap) : Prop := va_K G.2.2.2.2.2 vwCl [] U ∧ wl_Nst U ∧ (va_Z "PeerMarks" "LEAST_RULE" "[I" (.ref G.2.2.2.1) A U H ∧ va_T .int G.2.2.2.1 3 wl_lr A U H) ∧ (va_Z "PeerMarks" "GREATEST_RULE" "[I" (.ref G.2.2.2.2.1) A U H ∧ va_T .int G.2.2.2.2.1 3 wl_gr A U H) ∧ va_X G.1 G.2.1 G.2.2.1 U H ∧ G.1 < H.size ∧ ¬ A G.1
theorem wl_K.warm {G : wl_G} {A : Nat → Prop} {s U : State} {H : Heap} (hW : s.WarmedH U.vm) (h : wl_K G A s H) : wl_K G A U H := by
  obtain ⟨h1, h2, ⟨h3, h4⟩, ⟨h5, h6⟩, h7, h8⟩ := h
  exact ⟨va_K.moved hW.alike h1, fun a i x h hm => va_Nw.warmM hW (h2 a i x h hm), ⟨h3.moved hW.alike, h4.moved hW.alike⟩, ⟨h5.moved hW.alike, h6.moved hW.alike⟩, h7.moved hW.alike, h8⟩
theorem wl_K.same {G : wl_G} {A : Nat → Prop} {s U : State} {H : Heap} (hv : s.vm = U.vm) (h : wl_K G A s H) : wl_K G A U H := by
  obtain ⟨h1, h2, ⟨h3, h4⟩, ⟨h5, h6⟩, h7, h8⟩ := h
  have hW : s.vm.Alike U.vm := hv ▸ Vm.Alike.refl s.vm
  exact ⟨va_K.moved hW h1, fun a i x h hm => va_Nw.same rfl hv (h2 a i x h hm), ⟨h3.moved hW, h4.moved hW⟩, ⟨h5.moved hW, h6.moved hW⟩, h7.moved hW, h8⟩
theorem wl_K.kept {G : wl_G} {A B : Nat → Prop} {s : State} {H H1 : Heap} (h : wl_K G A s H) (hz : H.size ≤ H1.size) (hq : ∀ q : Nat, q < H.size → ¬ A q → H1[q]? = H[q]?) (hAB : ∀ q, B q → A q) : wl_K G B s H1 := by
  obtain ⟨h1, h2, ⟨h3, h4⟩, ⟨h5, h6⟩, h7, h8, h9⟩ := h
  exact ⟨h1, h2, ⟨(h3.kept hq).narrow hAB, (h4.kept hq).narrow hAB⟩, ⟨(h5.kept hq).narrow hAB, (h6.kept hq).narrow hAB⟩, h7.kept (hq _ h8 h9), Nat.lt_of_lt_of_le h8 hz, fun z => h9 (hAB _ z)⟩
/-- the frame's locals: a list, .retAddr where nothing is known -/
def wl_du (v : Value) : Bool := match v with
  | .retAddr _ => true
  | _ => false
def wl_pairs (l : List Value) : List (Nat × Value) := (l.zipIdx.filter (fun x => !wl_du x.1)).map (fun x => (x.2, x.1))
theorem wl_pairs_mem {l : List Value} {i : Nat} {v : Value} : (i, v) ∈ wl_pairs l ↔ l[i]? = some v ∧ wl_du v = false := by
  rw [wl_pairs, List.mem_map]
  constructor
  · rintro ⟨⟨u, j⟩, h1, h2⟩
    cases h2
    obtain ⟨h3, h4⟩ := List.mem_filter.mp h1
    exact ⟨List.mem_zipIdx_iff_getElem?.mp h3, by simpa using h4⟩
  · rintro ⟨h1, h2⟩
    exact ⟨(v, i), List.mem_filter.mpr ⟨List.mem_zipIdx_iff_getElem?.mpr h1, by simp [h2]⟩, rfl⟩
def wl_L (G : wl_G) (lk : wl_Lk) (nL : Nat) (Ls : List Value) (ls : Array Slot) : Prop := lv_has ls nL (wl_pairs (Ls.map (wl_tv G lk)))
theorem wl_du_tv (G : wl_G) (lk : wl_Lk) (v : Value) : wl_du (wl_tv G lk v) = wl_du v := by cases v <;> rfl
theorem wl_L.get {G : wl_G} {lk : wl_Lk} {nL : Nat} {Ls : List Value} {ls : Array Slot} (h : wl_L G lk nL Ls ls) {i : Nat} {v : Value} (hv : Ls[i]? = some v) (hd : wl_du v = false) : ls[i]? = some (.val (wl_tv G lk v)) :=
  h.2.2 (i, wl_tv G lk v) (wl_pairs_mem.mpr ⟨by rw [List.getElem?_map, hv]; rfl, by rw [wl_du_tv]; exact hd⟩)
def wl_cl (Ls : List Value) (i : Nat) : List Value := match i with
  | 0 => Ls
  | j + 1 => match Ls[j]? with
    | some u => if u.category = 2 then Ls.set j (.retAddr 0) else Ls
    | none => Ls
def wl_st1 (Ls : List Value) (i : Nat) (v : Value) : List Value := (wl_cl Ls i).set i v
def wl_st2 (Ls : List Value) (i : Nat) (v : Value) : List Value := ((wl_cl Ls i).set i v).set (i + 1) (.retAddr 0)
theorem wl_cl_get {Ls : List Value} {i j : Nat} {u : Value} (hj : j ≠ i) (h : (wl_cl Ls i)[j]? = some u) (hd : wl_du u = false) : Ls[j]? = some u ∧ ¬ (j + 1 = i ∧ u.category = 2) := by
  cases i with
  | zero => exact ⟨h, fun q => by omega⟩
  | succ k =>
    unfold wl_cl at h
    cases hk : Ls[k]? with
    | none =>
      simp only [hk] at h
      refine ⟨h, fun q => ?_⟩
      have e : j = k := by omega
      subst e
      rw [hk] at h
      cases h
    | some x =>
      simp only [hk] at h
      by_cases hc : x.category = 2
      · rw [if_pos hc] at h
        by_cases e : j = k
        · subst e
          rw [List.getElem?_set_self (List.getElem?_eq_some_iff.mp hk).1] at h
          cases h
          cases hd
        · rw [List.getElem?_set_ne (fun z => e z.symm)] at h
          exact ⟨h, fun q => e (by omega)⟩
      · rw [if_neg hc] at h
        refine ⟨h, fun q => ?_⟩
        have e : j = k := by omega
        subst e
        rw [hk] at h
        cases h
        exact hc q.2
theorem wl_st1_ok {G : wl_G} {lk : wl_Lk} {nL : Nat} {Ls : List Value} {ls' : Array Slot} {i : Nat} {v : Value} (h : lv_has ls' nL ((i, wl_tv G lk v) :: (wl_pairs (Ls.map (wl_tv G lk))).filter (fun q => !(q.1 == i) && !(q.1 + 1 == i && q.2.category == 2)))) : wl_L G lk nL (wl_st1 Ls i v) ls' := by
  refine ⟨h.1, h.2.1, fun q hq => h.2.2 q ?_⟩
  obtain ⟨j, w⟩ := q
  obtain ⟨h1, h2⟩ := wl_pairs_mem.mp hq
  rw [List.getElem?_map] at h1
  cases hu : (wl_st1 Ls i v)[j]? with
  | none => rw [hu] at h1; cases h1
  | some u =>
    rw [hu] at h1
    have e : w = wl_tv G lk u := (Option.some.inj h1).symm
    subst e
    rw [wl_du_tv] at h2
    by_cases hj : j = i
    · subst hj
      unfold wl_st1 at hu
      have hl : j < (wl_cl Ls j).length := by
        have := (List.getElem?_eq_some_iff.mp hu).1
        rw [List.length_set] at this
        exact this
      rw [List.getElem?_set_self hl] at hu
      cases hu
      exact List.mem_cons_self
    · unfold wl_st1 at hu
      rw [List.getElem?_set_ne (fun z => hj z.symm)] at hu
      obtain ⟨g1, g2⟩ := wl_cl_get hj hu h2
      refine List.mem_cons_of_mem _ (List.mem_filter.mpr ⟨wl_pairs_mem.mpr ⟨by rw [List.getElem?_map, g1]; rfl, by rw [wl_du_tv]; exact h2⟩, ?_⟩)
      simp only [wl_tv_cat, Bool.and_eq_true, Bool.not_eq_true', beq_eq_false_iff_ne, ne_eq, Bool.and_eq_false_iff]
      refine ⟨hj, ?_⟩
      by_cases z : j + 1 = i
      · exact Or.inr (fun z2 => g2 ⟨z, z2⟩)
      · exact Or.inl z
theorem wl_st2_ok {G : wl_G} {lk : wl_Lk} {nL : Nat} {Ls : List Value} {ls' : Array Slot} {i : Nat} {v : Value} (h : lv_has ls' nL ((i, wl_tv G lk v) :: (wl_pairs (Ls.map (wl_tv G lk))).filter (fun q => !(q.1 == i) && (!(q.1 == i + 1) && !(q.1 + 1 == i && q.2.category == 2))))) : wl_L G lk nL (wl_st2 Ls i v) ls' := by
  refine ⟨h.1, h.2.1, fun q hq => h.2.2 q ?_⟩
  obtain ⟨j, w⟩ := q
  obtain ⟨h1, h2⟩ := wl_pairs_mem.mp hq
  rw [List.getElem?_map] at h1
  cases hu : (wl_st2 Ls i v)[j]? with
  | none => rw [hu] at h1; cases h1
  | some u =>
    rw [hu] at h1
    have e : w = wl_tv G lk u := (Option.some.inj h1).symm
    subst e
    rw [wl_du_tv] at h2
    unfold wl_st2 at hu
    by_cases hj2 : j = i + 1
    · subst hj2
      by_cases hl : i + 1 < ((wl_cl Ls i).set i v).length
      · rw [List.getElem?_set_self hl] at hu
        cases hu
        cases h2
      · rw [List.getElem?_eq_none (by rw [List.length_set]; omega)] at hu
        cases hu
    rw [List.getElem?_set_ne (fun z => hj2 z.symm)] at hu
    by_cases hj : j = i
    · subst hj
      have hl : j < (wl_cl Ls j).length := by
        have := (List.getElem?_eq_some_iff.mp hu).1
        rw [List.length_set] at this
        exact this
      rw [List.getElem?_set_self hl] at hu
      cases hu
      exact List.mem_cons_self
    · rw [List.getElem?_set_ne (fun z => hj z.symm)] at hu
      obtain ⟨g1, g2⟩ := wl_cl_get hj hu h2
      refine List.mem_cons_of_mem _ (List.mem_filter.mpr ⟨wl_pairs_mem.mpr ⟨by rw [List.getElem?_map, g1]; rfl, by rw [wl_du_tv]; exact h2⟩, ?_⟩)
      simp only [wl_tv_cat, Bool.and_eq_true, Bool.not_eq_true', beq_eq_false_iff_ne, ne_eq, Bool.and_eq_false_iff]
      refine ⟨hj, hj2, ?_⟩
      by_cases z : j + 1 = i
      · exact Or.inr (fun z2 => g2 ⟨z, z2⟩)
      · exact Or.inl z
/-- fewer values known of the frame -/
theorem wl_L.less {G : wl_G} {lk : wl_Lk} {nL : Nat} {Ls Ms : List Value} {ls : Array Slot} (h : wl_L G lk nL Ls ls) (hm : ∀ (i : Nat) (v : Value), Ms[i]? = some v → wl_du v = false → Ls[i]? = some v) : wl_L G lk nL Ms ls := by
  refine ⟨h.1, h.2.1, fun q hq => h.2.2 q ?_⟩
  obtain ⟨j, w⟩ := q
  obtain ⟨h1, h2⟩ := wl_pairs_mem.mp hq
  rw [List.getElem?_map] at h1
  cases hu : Ms[j]? with
  | none => rw [hu] at h1; cases h1
  | some u =>
    rw [hu] at h1
    have e : w = wl_tv G lk u := (Option.some.inj h1).symm
    subst e
    rw [wl_du_tv] at h2
    exact wl_pairs_mem.mpr ⟨by rw [List.getElem?_map, hm j u hu h2]; rfl, by rw [wl_du_tv]; exact h2⟩
def wl_lessb : List Value → List Value → Bool
  | [], _ => true
  | _ :: _, [] => false
  | a :: l, b :: m => (wl_du a || decide (a = b)) && wl_lessb l m
def wl_C (G : wl_G) (A : Nat → Prop) (p : Program) (s : State) (m : MethodId) (args : Array Value) (meth : Method) (c : Code) (cc : ByteArray) (own : String) (nL : Nat) : Prop := p.tables.exec = Jvm.exec ∧ c.code = cc ∧ c.maxLocals = nL ∧ s.vm.findClass own = some m.cls ∧ (∀ w ∈ wl_gw, w.before args s = true) ∧ wl_K G A s s.heap ∧ (∀ q, s.heap.size ≤ q → A q) ∧ meth.locks = false
def wl_R (G : wl_G) (lk : wl_Lk) (A : Nat → Prop) (s : State) (mh : wl_H) (H : Heap) (locs : List Loc) : Prop := lk.length = mh.length ∧ mh.length ≤ 1000 ∧ va_P G.2.2.2.2.2 vwCl (wl_conc G lk mh) H ∧ wl_D A lk ∧ va_S A s.heap H locs ∧ wl_Ty lk mh s
abbrev wl_Fn : Type := wl_G → wl_Lk → (Nat → Prop) → Program → Launch → Env → Room → State → MethodId → Array Value → List Frame → Method → Code → Nat → Nat → (State → Prop) → Prop
def Wp (cc : ByteArray) (own : String) (nL : Nat) (R : Room) (Fn : wl_Fn) (pc : Nat) (Ls stk : List Value) (mh : wl_H) : Prop :=
  ∀ (G : wl_G) (lk : wl_Lk) (A : Nat → Prop) (p : Program) (l : Launch) (e : Env) (s : State) (m : MethodId) (args : Array Value) (below : List Frame) (meth : Method) (c : Code) (kc ks : Nat) (Z : State → Prop),
    wl_C G A p s m args meth c cc own nL → Fn G lk A p l e R s m args below meth c kc ks Z → kc ≤ R.cells ∧ ks ≤ R.slots → ∀ (H : Heap) (locs : List Loc) (ls : Array Slot), wl_R G lk A s mh H locs → wl_L G lk nL Ls ls → W p l e R s m args below meth c H locs kc ks Z (F0 m pc ls (stk.map (wl_tv G lk)))
section WPR
variable {cc : ByteArray} {own : String} {nL : Nat} {R : Room} {Fn : wl_Fn} {pc : Nat} {Ls rest : List Value} {mh : wl_H}
theorem wp_less {Ms : List Value} (hm : ∀ (i : Nat) (v : Value), Ms[i]? = some v → wl_du v = false → Ls[i]? = some v) (k : Wp cc own nL R Fn pc Ms rest mh) : Wp cc own nL R Fn pc Ls rest mh :=
  fun G lk A p l e s m args below meth c kc ks Z hC hF hk H locs ls hR hL => k G lk A p l e s m args below meth c kc ks Z hC hF hk H locs ls hR (hL.less hm)
theorem wp_mh {mh' : wl_H} (h : mh = mh') (k : Wp cc own nL R Fn pc Ls rest mh') : Wp cc own nL R Fn pc Ls rest mh := h ▸ k

theorem wp_iconst {n : Int} {v : Int32} (hd : decode cc pc = .ok (.iconst n, 1)) (hv : Int32.ofInt n = v) (kk : Wp cc own nL R Fn (pc + 1) Ls (.int v :: rest) mh) : Wp cc own nL R Fn pc Ls (rest) mh :=
  fun G lk A p l e s m args below meth c kc ks Z hC hF hk H locs ls hR hL => lv_iconst hC.1 hC.2.1 hd hv (kk G lk A p l e s m args below meth c kc ks Z hC hF hk H locs ls hR hL)
theorem wp_bipush {n : Int} {v : Int32} (hd : decode cc pc = .ok (.bipush n, 2)) (hv : (Int8.ofInt n).toInt32 = v) (kk : Wp cc own nL R Fn (pc + 2) Ls (.int v :: rest) mh) : Wp cc own nL R Fn pc Ls (rest) mh :=
  fun G lk A p l e s m args below meth c kc ks Z hC hF hk H locs ls hR hL => lv_bipush hC.1 hC.2.1 hd hv (kk G lk A p l e s m args below meth c kc ks Z hC hF hk H locs ls hR hL)
theorem wp_sipush {n : Int} {v : Int32} (hd : decode cc pc = .ok (.sipush n, 3)) (hv : (Int16.ofInt n).toInt32 = v) (kk : Wp cc own nL R Fn (pc + 3) Ls (.int v :: rest) mh) : Wp cc own nL R Fn pc Ls (rest) mh :=
  fun G lk A p l e s m args below meth c kc ks Z hC hF hk H locs ls hR hL => lv_sipush hC.1 hC.2.1 hd hv (kk G lk A p l e s m args below meth c kc ks Z hC hF hk H locs ls hR hL)
theorem wp_lconst {n : Fin 2} {v : Int64} (hd : decode cc pc = .ok (.lconst n, 1)) (hv : Int64.ofNat (n : Nat) = v) (kk : Wp cc own nL R Fn (pc + 1) Ls (.long v :: rest) mh) : Wp cc own nL R Fn pc Ls (rest) mh :=
  fun G lk A p l e s m args below meth c kc ks Z hC hF hk H locs ls hR hL => lv_lconst hC.1 hC.2.1 hd hv (kk G lk A p l e s m args below meth c kc ks Z hC hF hk H locs ls hR hL)
theorem wp_iadd {x y : Int32} (hd : decode cc pc = .ok (.iadd, 1)) (kk : Wp cc own nL R Fn (pc + 1) Ls (.int (x + y) :: rest) mh) : Wp cc own nL R Fn pc Ls (.int y :: .int x :: rest) mh :=
  fun G lk A p l e s m args below meth c kc ks Z hC hF hk H locs ls hR hL => lv_iadd hC.1 hC.2.1 hd (kk G lk A p l e s m args below meth c kc ks Z hC hF hk H locs ls hR hL)
theorem wp_isub {x y : Int32} (hd : decode cc pc = .ok (.isub, 1)) (kk : Wp cc own nL R Fn (pc + 1) Ls (.int (x - y) :: rest) mh) : Wp cc own nL R Fn pc Ls (.int y :: .int x :: rest) mh :=
  fun G lk A p l e s m args below meth c kc ks Z hC hF hk H locs ls hR hL => lv_isub hC.1 hC.2.1 hd (kk G lk A p l e s m args below meth c kc ks Z hC hF hk H locs ls hR hL)
theorem wp_imul {x y : Int32} (hd : decode cc pc = .ok (.imul, 1)) (kk : Wp cc own nL R Fn (pc + 1) Ls (.int (x * y) :: rest) mh) : Wp cc own nL R Fn pc Ls (.int y :: .int x :: rest) mh :=
  fun G lk A p l e s m args below meth c kc ks Z hC hF hk H locs ls hR hL => lv_imul hC.1 hC.2.1 hd (kk G lk A p l e s m args below meth c kc ks Z hC hF hk H locs ls hR hL)
theorem wp_iand {x y : Int32} (hd : decode cc pc = .ok (.iand, 1)) (kk : Wp cc own nL R Fn (pc + 1) Ls (.int (x &&& y) :: rest) mh) : Wp cc own nL R Fn pc Ls (.int y :: .int x :: rest) mh :=
  fun G lk A p l e s m args below meth c kc ks Z hC hF hk H locs ls hR hL => lv_iand hC.1 hC.2.1 hd (kk G lk A p l e s m args below meth c kc ks Z hC hF hk H locs ls hR hL)
theorem wp_ior {x y : Int32} (hd : decode cc pc = .ok (.ior, 1)) (kk : Wp cc own nL R Fn (pc + 1) Ls (.int (x ||| y) :: rest) mh) : Wp cc own nL R Fn pc Ls (.int y :: .int x :: rest) mh :=
  fun G lk A p l e s m args below meth c kc ks Z hC hF hk H locs ls hR hL => lv_ior hC.1 hC.2.1 hd (kk G lk A p l e s m args below meth c kc ks Z hC hF hk H locs ls hR hL)
theorem wp_ixor {x y : Int32} (hd : decode cc pc = .ok (.ixor, 1)) (kk : Wp cc own nL R Fn (pc + 1) Ls (.int (x ^^^ y) :: rest) mh) : Wp cc own nL R Fn pc Ls (.int y :: .int x :: rest) mh :=
  fun G lk A p l e s m args below meth c kc ks Z hC hF hk H locs ls hR hL => lv_ixor hC.1 hC.2.1 hd (kk G lk A p l e s m args below meth c kc ks Z hC hF hk H locs ls hR hL)
theorem wp_ishl {x y : Int32} (hd : decode cc pc = .ok (.ishl, 1)) (kk : Wp cc own nL R Fn (pc + 1) Ls (.int (x <<< (y &&& 31)) :: rest) mh) : Wp cc own nL R Fn pc Ls (.int y :: .int x :: rest) mh :=
  fun G lk A p l e s m args below meth c kc ks Z hC hF hk H locs ls hR hL => lv_ishl hC.1 hC.2.1 hd (kk G lk A p l e s m args below meth c kc ks Z hC hF hk H locs ls hR hL)
theorem wp_ishr {x y : Int32} (hd : decode cc pc = .ok (.ishr, 1)) (kk : Wp cc own nL R Fn (pc + 1) Ls (.int (x >>> (y &&& 31)) :: rest) mh) : Wp cc own nL R Fn pc Ls (.int y :: .int x :: rest) mh :=
  fun G lk A p l e s m args below meth c kc ks Z hC hF hk H locs ls hR hL => lv_ishr hC.1 hC.2.1 hd (kk G lk A p l e s m args below meth c kc ks Z hC hF hk H locs ls hR hL)
theorem wp_iushr {x y : Int32} (hd : decode cc pc = .ok (.iushr, 1)) (kk : Wp cc own nL R Fn (pc + 1) Ls (.int ((x.toUInt32 >>> (y.toUInt32 &&& Int32.toUInt32 31)).toInt32) :: rest) mh) : Wp cc own nL R Fn pc Ls (.int y :: .int x :: rest) mh :=
  fun G lk A p l e s m args below meth c kc ks Z hC hF hk H locs ls hR hL => lv_iushr hC.1 hC.2.1 hd rfl (kk G lk A p l e s m args below meth c kc ks Z hC hF hk H locs ls hR hL)
theorem wp_idiv {x y : Int32} (hd : decode cc pc = .ok (.idiv, 1)) (hne : ¬ y = 0) (kk : Wp cc own nL R Fn (pc + 1) Ls (.int (x / y) :: rest) mh) : Wp cc own nL R Fn pc Ls (.int y :: .int x :: rest) mh :=
  fun G lk A p l e s m args below meth c kc ks Z hC hF hk H locs ls hR hL => lv_idiv hC.1 hC.2.1 hd hne (kk G lk A p l e s m args below meth c kc ks Z hC hF hk H locs ls hR hL)
theorem wp_irem {x y : Int32} (hd : decode cc pc = .ok (.irem, 1)) (hne : ¬ y = 0) (kk : Wp cc own nL R Fn (pc + 1) Ls (.int (x - x / y * y) :: rest) mh) : Wp cc own nL R Fn pc Ls (.int y :: .int x :: rest) mh :=
  fun G lk A p l e s m args below meth c kc ks Z hC hF hk H locs ls hR hL => lv_irem hC.1 hC.2.1 hd hne (kk G lk A p l e s m args below meth c kc ks Z hC hF hk H locs ls hR hL)
theorem wp_ineg {x : Int32} (hd : decode cc pc = .ok (.ineg, 1)) (kk : Wp cc own nL R Fn (pc + 1) Ls (.int (-x) :: rest) mh) : Wp cc own nL R Fn pc Ls (.int x :: rest) mh :=
  fun G lk A p l e s m args below meth c kc ks Z hC hF hk H locs ls hR hL => lv_ineg hC.1 hC.2.1 hd (kk G lk A p l e s m args below meth c kc ks Z hC hF hk H locs ls hR hL)
theorem wp_ladd {x y : Int64} (hd : decode cc pc = .ok (.ladd, 1)) (kk : Wp cc own nL R Fn (pc + 1) Ls (.long (x + y) :: rest) mh) : Wp cc own nL R Fn pc Ls (.long y :: .long x :: rest) mh :=
  fun G lk A p l e s m args below meth c kc ks Z hC hF hk H locs ls hR hL => lv_ladd hC.1 hC.2.1 hd (kk G lk A p l e s m args below meth c kc ks Z hC hF hk H locs ls hR hL)
theorem wp_lsub {x y : Int64} (hd : decode cc pc = .ok (.lsub, 1)) (kk : Wp cc own nL R Fn (pc + 1) Ls (.long (x - y) :: rest) mh) : Wp cc own nL R Fn pc Ls (.long y :: .long x :: rest) mh :=
  fun G lk A p l e s m args below meth c kc ks Z hC hF hk H locs ls hR hL => lv_lsub hC.1 hC.2.1 hd (kk G lk A p l e s m args below meth c kc ks Z hC hF hk H locs ls hR hL)
theorem wp_lmul {x y : Int64} (hd : decode cc pc = .ok (.lmul, 1)) (kk : Wp cc own nL R Fn (pc + 1) Ls (.long (x * y) :: rest) mh) : Wp cc own nL R Fn pc Ls (.long y :: .long x :: rest) mh :=
  fun G lk A p l e s m args below meth c kc ks Z hC hF hk H locs ls hR hL => lv_lmul hC.1 hC.2.1 hd (kk G lk A p l e s m args below meth c kc ks Z hC hF hk H locs ls hR hL)
theorem wp_land {x y : Int64} (hd : decode cc pc = .ok (.land, 1)) (kk : Wp cc own nL R Fn (pc + 1) Ls (.long (x &&& y) :: rest) mh) : Wp cc own nL R Fn pc Ls (.long y :: .long x :: rest) mh :=
  fun G lk A p l e s m args below meth c kc ks Z hC hF hk H locs ls hR hL => lv_land hC.1 hC.2.1 hd (kk G lk A p l e s m args below meth c kc ks Z hC hF hk H locs ls hR hL)
theorem wp_ldiv {x y : Int64} (hd : decode cc pc = .ok (.ldiv, 1)) (hne : ¬ y = 0) (kk : Wp cc own nL R Fn (pc + 1) Ls (.long (x / y) :: rest) mh) : Wp cc own nL R Fn pc Ls (.long y :: .long x :: rest) mh :=
  fun G lk A p l e s m args below meth c kc ks Z hC hF hk H locs ls hR hL => lv_ldiv hC.1 hC.2.1 hd hne (kk G lk A p l e s m args below meth c kc ks Z hC hF hk H locs ls hR hL)
theorem wp_lrem {x y : Int64} (hd : decode cc pc = .ok (.lrem, 1)) (hne : ¬ y = 0) (kk : Wp cc own nL R Fn (pc + 1) Ls (.long (x - x / y * y) :: rest) mh) : Wp cc own nL R Fn pc Ls (.long y :: .long x :: rest) mh :=
  fun G lk A p l e s m args below meth c kc ks Z hC hF hk H locs ls hR hL => lv_lrem hC.1 hC.2.1 hd hne (kk G lk A p l e s m args below meth c kc ks Z hC hF hk H locs ls hR hL)
theorem wp_lneg {x : Int64} (hd : decode cc pc = .ok (.lneg, 1)) (kk : Wp cc own nL R Fn (pc + 1) Ls (.long (-x) :: rest) mh) : Wp cc own nL R Fn pc Ls (.long x :: rest) mh :=
  fun G lk A p l e s m args below meth c kc ks Z hC hF hk H locs ls hR hL => lv_lneg hC.1 hC.2.1 hd (kk G lk A p l e s m args below meth c kc ks Z hC hF hk H locs ls hR hL)
theorem wp_lshl {x : Int64} {y : Int32} (hd : decode cc pc = .ok (.lshl, 1)) (kk : Wp cc own nL R Fn (pc + 1) Ls (.long (x <<< (y.toInt64 &&& 63)) :: rest) mh) : Wp cc own nL R Fn pc Ls (.int y :: .long x :: rest) mh :=
  fun G lk A p l e s m args below meth c kc ks Z hC hF hk H locs ls hR hL => lv_lshl hC.1 hC.2.1 hd rfl (kk G lk A p l e s m args below meth c kc ks Z hC hF hk H locs ls hR hL)
theorem wp_lshr {x : Int64} {y : Int32} (hd : decode cc pc = .ok (.lshr, 1)) (kk : Wp cc own nL R Fn (pc + 1) Ls (.long (x >>> (y.toInt64 &&& 63)) :: rest) mh) : Wp cc own nL R Fn pc Ls (.int y :: .long x :: rest) mh :=
  fun G lk A p l e s m args below meth c kc ks Z hC hF hk H locs ls hR hL => lv_lshr hC.1 hC.2.1 hd rfl (kk G lk A p l e s m args below meth c kc ks Z hC hF hk H locs ls hR hL)
theorem wp_i2l {x : Int32} (hd : decode cc pc = .ok (.i2l, 1)) (kk : Wp cc own nL R Fn (pc + 1) Ls (.long x.toInt64 :: rest) mh) : Wp cc own nL R Fn pc Ls (.int x :: rest) mh :=
  fun G lk A p l e s m args below meth c kc ks Z hC hF hk H locs ls hR hL => lv_i2l hC.1 hC.2.1 hd rfl (kk G lk A p l e s m args below meth c kc ks Z hC hF hk H locs ls hR hL)
theorem wp_l2i {x : Int64} (hd : decode cc pc = .ok (.l2i, 1)) (kk : Wp cc own nL R Fn (pc + 1) Ls (.int x.toInt32 :: rest) mh) : Wp cc own nL R Fn pc Ls (.long x :: rest) mh :=
  fun G lk A p l e s m args below meth c kc ks Z hC hF hk H locs ls hR hL => lv_l2i hC.1 hC.2.1 hd rfl (kk G lk A p l e s m args below meth c kc ks Z hC hF hk H locs ls hR hL)
theorem wp_lcmp {x y : Int64} (hd : decode cc pc = .ok (.lcmp, 1)) (kk : Wp cc own nL R Fn (pc + 1) Ls (.int (lg_cmp x y) :: rest) mh) : Wp cc own nL R Fn pc Ls (.long y :: .long x :: rest) mh :=
  fun G lk A p l e s m args below meth c kc ks Z hC hF hk H locs ls hR hL => W.lcmp hC.1 hC.2.1 hd (kk G lk A p l e s m args below meth c kc ks Z hC hF hk H locs ls hR hL)
theorem wp_dup {va : Value} (hd : decode cc pc = .ok (.dup, 1)) (hc : va.category = 1) (kk : Wp cc own nL R Fn (pc + 1) Ls (va :: va :: rest) mh) : Wp cc own nL R Fn pc Ls (va :: rest) mh :=
  fun G lk A p l e s m args below meth c kc ks Z hC hF hk H locs ls hR hL => lv_dup hC.1 hC.2.1 hd (by rw [wl_tv_cat]; exact hc) (kk G lk A p l e s m args below meth c kc ks Z hC hF hk H locs ls hR hL)
theorem wp_pop {va : Value} (hd : decode cc pc = .ok (.pop, 1)) (hc : va.category = 1) (kk : Wp cc own nL R Fn (pc + 1) Ls rest mh) : Wp cc own nL R Fn pc Ls (va :: rest) mh :=
  fun G lk A p l e s m args below meth c kc ks Z hC hF hk H locs ls hR hL => lv_pop hC.1 hC.2.1 hd (by rw [wl_tv_cat]; exact hc) (kk G lk A p l e s m args below meth c kc ks Z hC hF hk H locs ls hR hL)
theorem wp_dup2 {va vb : Value} (hd : decode cc pc = .ok (.dup2, 1)) (hc : va.category = 1) (hc2 : vb.category = 1) (kk : Wp cc own nL R Fn (pc + 1) Ls (va :: vb :: va :: vb :: rest) mh) : Wp cc own nL R Fn pc Ls (va :: vb :: rest) mh :=
  fun G lk A p l e s m args below meth c kc ks Z hC hF hk H locs ls hR hL => lv_dup2_11 hC.1 hC.2.1 hd (by rw [wl_tv_cat]; exact hc) (by rw [wl_tv_cat]; exact hc2) (kk G lk A p l e s m args below meth c kc ks Z hC hF hk H locs ls hR hL)
theorem wp_iload_n {k : Fin 4} {i : Nat} {x : Int32} (hd : decode cc pc = .ok (.iload_n k, 1)) (hi : (k : Nat) = i) (hl : Ls[i]? = some (.int x)) (kk : Wp cc own nL R Fn (pc + 1) Ls (.int x :: rest) mh) : Wp cc own nL R Fn pc Ls rest mh :=
  fun G lk A p l e s m args below meth c kc ks Z hC hF hk H locs ls hR hL => lv_iload_n hC.1 hC.2.1 hd hi (hL.get hl rfl) (kk G lk A p l e s m args below meth c kc ks Z hC hF hk H locs ls hR hL)
theorem wp_iload {i : Nat} {x : Int32} (hd : decode cc pc = .ok (.iload i, 2)) (hl : Ls[i]? = some (.int x)) (kk : Wp cc own nL R Fn (pc + 2) Ls (.int x :: rest) mh) : Wp cc own nL R Fn pc Ls rest mh :=
  fun G lk A p l e s m args below meth c kc ks Z hC hF hk H locs ls hR hL => lv_iload hC.1 hC.2.1 hd (hL.get hl rfl) (kk G lk A p l e s m args below meth c kc ks Z hC hF hk H locs ls hR hL)
theorem wp_lload_n {k : Fin 4} {i : Nat} {x : Int64} (hd : decode cc pc = .ok (.lload_n k, 1)) (hi : (k : Nat) = i) (hl : Ls[i]? = some (.long x)) (kk : Wp cc own nL R Fn (pc + 1) Ls (.long x :: rest) mh) : Wp cc own nL R Fn pc Ls rest mh :=
  fun G lk A p l e s m args below meth c kc ks Z hC hF hk H locs ls hR hL => lv_lload_n hC.1 hC.2.1 hd hi (hL.get hl rfl) (kk G lk A p l e s m args below meth c kc ks Z hC hF hk H locs ls hR hL)
theorem wp_lload {i : Nat} {x : Int64} (hd : decode cc pc = .ok (.lload i, 2)) (hl : Ls[i]? = some (.long x)) (kk : Wp cc own nL R Fn (pc + 2) Ls (.long x :: rest) mh) : Wp cc own nL R Fn pc Ls rest mh :=
  fun G lk A p l e s m args below meth c kc ks Z hC hF hk H locs ls hR hL => lv_lload hC.1 hC.2.1 hd (hL.get hl rfl) (kk G lk A p l e s m args below meth c kc ks Z hC hF hk H locs ls hR hL)
theorem wp_aload_n {k : Fin 4} {i : Nat} {x : Nat} (hd : decode cc pc = .ok (.aload_n k, 1)) (hi : (k : Nat) = i) (hl : Ls[i]? = some (.ref x)) (kk : Wp cc own nL R Fn (pc + 1) Ls (.ref x :: rest) mh) : Wp cc own nL R Fn pc Ls rest mh :=
  fun G lk A p l e s m args below meth c kc ks Z hC hF hk H locs ls hR hL => lv_aload_n hC.1 hC.2.1 hd hi (hL.get hl rfl) (kk G lk A p l e s m args below meth c kc ks Z hC hF hk H locs ls hR hL)
theorem wp_aload {i : Nat} {x : Nat} (hd : decode cc pc = .ok (.aload i, 2)) (hl : Ls[i]? = some (.ref x)) (kk : Wp cc own nL R Fn (pc + 2) Ls (.ref x :: rest) mh) : Wp cc own nL R Fn pc Ls rest mh :=
  fun G lk A p l e s m args below meth c kc ks Z hC hF hk H locs ls hR hL => lv_aload hC.1 hC.2.1 hd (hL.get hl rfl) (kk G lk A p l e s m args below meth c kc ks Z hC hF hk H locs ls hR hL)
theorem wp_istore_n {k : Fin 4} {i : Nat} {x : Int32} {Ms : List Value} (hd : decode cc pc = .ok (.istore_n k, 1)) (hi : (k : Nat) = i) (hn : i < nL) (hm : wl_st1 Ls i (.int x) = Ms) (kk : Wp cc own nL R Fn (pc + 1) Ms rest mh) : Wp cc own nL R Fn pc Ls (.int x :: rest) mh :=
  fun G lk A p l e s m args below meth c kc ks Z hC hF hk H locs ls hR hL => lv_istore_n hC.1 hC.2.1 hd hi hL hn rfl (fun ls' hl' => kk G lk A p l e s m args below meth c kc ks Z hC hF hk H locs ls' hR (hm ▸ wl_st1_ok (v := .int x) hl'))
theorem wp_istore {i : Nat} {x : Int32} {Ms : List Value} (hd : decode cc pc = .ok (.istore i, 2)) (hn : i < nL) (hm : wl_st1 Ls i (.int x) = Ms) (kk : Wp cc own nL R Fn (pc + 2) Ms rest mh) : Wp cc own nL R Fn pc Ls (.int x :: rest) mh :=
  fun G lk A p l e s m args below meth c kc ks Z hC hF hk H locs ls hR hL => lv_istore hC.1 hC.2.1 hd hL hn rfl (fun ls' hl' => kk G lk A p l e s m args below meth c kc ks Z hC hF hk H locs ls' hR (hm ▸ wl_st1_ok (v := .int x) hl'))
theorem wp_lstore_n {k : Fin 4} {i : Nat} {x : Int64} {Ms : List Value} (hd : decode cc pc = .ok (.lstore_n k, 1)) (hi : (k : Nat) = i) (hn : i + 1 < nL) (hm : wl_st2 Ls i (.long x) = Ms) (kk : Wp cc own nL R Fn (pc + 1) Ms rest mh) : Wp cc own nL R Fn pc Ls (.long x :: rest) mh :=
  fun G lk A p l e s m args below meth c kc ks Z hC hF hk H locs ls hR hL => lv_lstore_n hC.1 hC.2.1 hd hi hL hn rfl (fun ls' hl' => kk G lk A p l e s m args below meth c kc ks Z hC hF hk H locs ls' hR (hm ▸ wl_st2_ok (v := .long x) hl'))
theorem wp_lstore {i : Nat} {x : Int64} {Ms : List Value} (hd : decode cc pc = .ok (.lstore i, 2)) (hn : i + 1 < nL) (hm : wl_st2 Ls i (.long x) = Ms) (kk : Wp cc own nL R Fn (pc + 2) Ms rest mh) : Wp cc own nL R Fn pc Ls (.long x :: rest) mh :=
  fun G lk A p l e s m args below meth c kc ks Z hC hF hk H locs ls hR hL => lv_lstore hC.1 hC.2.1 hd hL hn rfl (fun ls' hl' => kk G lk A p l e s m args below meth c kc ks Z hC hF hk H locs ls' hR (hm ▸ wl_st2_ok (v := .long x) hl'))
theorem wp_astore_n {k : Fin 4} {i : Nat} {x : Nat} {Ms : List Value} (hd : decode cc pc = .ok (.astore_n k, 1)) (hi : (k : Nat) = i) (hn : i < nL) (hm : wl_st1 Ls i (.ref x) = Ms) (kk : Wp cc own nL R Fn (pc + 1) Ms rest mh) : Wp cc own nL R Fn pc Ls (.ref x :: rest) mh :=
  fun G lk A p l e s m args below meth c kc ks Z hC hF hk H locs ls hR hL => lv_astore_n hC.1 hC.2.1 hd hi hL hn rfl (fun ls' hl' => kk G lk A p l e s m args below meth c kc ks Z hC hF hk H locs ls' hR (hm ▸ wl_st1_ok (v := .ref x) hl'))
theorem wp_astore {i : Nat} {x : Nat} {Ms : List Value} (hd : decode cc pc = .ok (.astore i, 2)) (hn : i < nL) (hm : wl_st1 Ls i (.ref x) = Ms) (kk : Wp cc own nL R Fn (pc + 2) Ms rest mh) : Wp cc own nL R Fn pc Ls (.ref x :: rest) mh :=
  fun G lk A p l e s m args below meth c kc ks Z hC hF hk H locs ls hR hL => lv_astore hC.1 hC.2.1 hd hL hn rfl (fun ls' hl' => kk G lk A p l e s m args below meth c kc ks Z hC hF hk H locs ls' hR (hm ▸ wl_st1_ok (v := .ref x) hl'))
theorem wp_iinc {i : Nat} {n : Int} {x v : Int32} {Ms : List Value} (hd : decode cc pc = .ok (.iinc i n, 3)) (hl : Ls[i]? = some (.int x)) (hv : x + Int32.ofInt n = v) (hn : i < nL) (hm : wl_st1 Ls i (.int v) = Ms) (kk : Wp cc own nL R Fn (pc + 3) Ms rest mh) : Wp cc own nL R Fn pc Ls rest mh := by
  intro G lk A p l e s m args below meth c kc ks Z hC hF hk H locs ls hR hL
  have hmem : (i, Value.int x) ∈ wl_pairs (Ls.map (wl_tv G lk)) := wl_pairs_mem.mpr ⟨by rw [List.getElem?_map, hl]; rfl, rfl⟩
  obtain ⟨k, hk9⟩ := List.getElem?_of_mem hmem
  exact lv_iinc hC.1 hC.2.1 hd hL hk9 hv hn rfl (fun ls' hl' => kk G lk A p l e s m args below meth c kc ks Z hC hF hk H locs ls' hR (hm ▸ wl_st1_ok (v := .int v) hl'))
theorem wp_goto {off : Int} {tgt : Nat} (hd : decode cc pc = .ok (.goto off, 3)) (ht : (pc : Int) + off = (tgt : Int)) (kk : Wp cc own nL R Fn tgt Ls rest mh) : Wp cc own nL R Fn pc Ls rest mh :=
  fun G lk A p l e s m args below meth c kc ks Z hC hF hk H locs ls hR hL => lv_goto hC.1 hC.2.1 hd ht (kk G lk A p l e s m args below meth c kc ks Z hC hF hk H locs ls hR hL)
theorem wp_if_eq {x : Int32} {off : Int} {tgt : Nat} (hd : decode cc pc = .ok (.ifCond .eq off, 3)) (ht : (pc : Int) + off = (tgt : Int)) (kt : x = 0 → Wp cc own nL R Fn tgt Ls rest mh) (kf : ¬ x = 0 → Wp cc own nL R Fn (pc + 3) Ls rest mh) : Wp cc own nL R Fn pc Ls (.int x :: rest) mh :=
  fun G lk A p l e s m args below meth c kc ks Z hC hF hk H locs ls hR hL => lv_if_eq hC.1 hC.2.1 hd ht (fun h => kt h G lk A p l e s m args below meth c kc ks Z hC hF hk H locs ls hR hL) (fun h => kf h G lk A p l e s m args below meth c kc ks Z hC hF hk H locs ls hR hL)
theorem wp_icmp_eq {x y : Int32} {off : Int} {tgt : Nat} (hd : decode cc pc = .ok (.if_icmp .eq off, 3)) (ht : (pc : Int) + off = (tgt : Int)) (kt : x = y → Wp cc own nL R Fn tgt Ls rest mh) (kf : ¬ x = y → Wp cc own nL R Fn (pc + 3) Ls rest mh) : Wp cc own nL R Fn pc Ls (.int y :: .int x :: rest) mh :=
  fun G lk A p l e s m args below meth c kc ks Z hC hF hk H locs ls hR hL => lv_icmp_eq hC.1 hC.2.1 hd ht (fun h => kt h G lk A p l e s m args below meth c kc ks Z hC hF hk H locs ls hR hL) (fun h => kf h G lk A p l e s m args below meth c kc ks Z hC hF hk H locs ls hR hL)
theorem wp_if_ne {x : Int32} {off : Int} {tgt : Nat} (hd : decode cc pc = .ok (.ifCond .ne off, 3)) (ht : (pc : Int) + off = (tgt : Int)) (kt : ¬ x = 0 → Wp cc own nL R Fn tgt Ls rest mh) (kf : x = 0 → Wp cc own nL R Fn (pc + 3) Ls rest mh) : Wp cc own nL R Fn pc Ls (.int x :: rest) mh :=
  fun G lk A p l e s m args below meth c kc ks Z hC hF hk H locs ls hR hL => lv_if_ne hC.1 hC.2.1 hd ht (fun h => kt h G lk A p l e s m args below meth c kc ks Z hC hF hk H locs ls hR hL) (fun h => kf h G lk A p l e s m args below meth c kc ks Z hC hF hk H locs ls hR hL)
theorem wp_icmp_ne {x y : Int32} {off : Int} {tgt : Nat} (hd : decode cc pc = .ok (.if_icmp .ne off, 3)) (ht : (pc : Int) + off = (tgt : Int)) (kt : ¬ x = y → Wp cc own nL R Fn tgt Ls rest mh) (kf : x = y → Wp cc own nL R Fn (pc + 3) Ls rest mh) : Wp cc own nL R Fn pc Ls (.int y :: .int x :: rest) mh :=
  fun G lk A p l e s m args below meth c kc ks Z hC hF hk H locs ls hR hL => lv_icmp_ne hC.1 hC.2.1 hd ht (fun h => kt h G lk A p l e s m args below meth c kc ks Z hC hF hk H locs ls hR hL) (fun h => kf h G lk A p l e s m args below meth c kc ks Z hC hF hk H locs ls hR hL)
theorem wp_if_lt {x : Int32} {off : Int} {tgt : Nat} (hd : decode cc pc = .ok (.ifCond .lt off, 3)) (ht : (pc : Int) + off = (tgt : Int)) (kt : x < 0 → Wp cc own nL R Fn tgt Ls rest mh) (kf : ¬ x < 0 → Wp cc own nL R Fn (pc + 3) Ls rest mh) : Wp cc own nL R Fn pc Ls (.int x :: rest) mh :=
  fun G lk A p l e s m args below meth c kc ks Z hC hF hk H locs ls hR hL => lv_if_lt hC.1 hC.2.1 hd ht (fun h => kt h G lk A p l e s m args below meth c kc ks Z hC hF hk H locs ls hR hL) (fun h => kf h G lk A p l e s m args below meth c kc ks Z hC hF hk H locs ls hR hL)
theorem wp_icmp_lt {x y : Int32} {off : Int} {tgt : Nat} (hd : decode cc pc = .ok (.if_icmp .lt off, 3)) (ht : (pc : Int) + off = (tgt : Int)) (kt : x < y → Wp cc own nL R Fn tgt Ls rest mh) (kf : ¬ x < y → Wp cc own nL R Fn (pc + 3) Ls rest mh) : Wp cc own nL R Fn pc Ls (.int y :: .int x :: rest) mh :=
  fun G lk A p l e s m args below meth c kc ks Z hC hF hk H locs ls hR hL => lv_icmp_lt hC.1 hC.2.1 hd ht (fun h => kt h G lk A p l e s m args below meth c kc ks Z hC hF hk H locs ls hR hL) (fun h => kf h G lk A p l e s m args below meth c kc ks Z hC hF hk H locs ls hR hL)
theorem wp_if_ge {x : Int32} {off : Int} {tgt : Nat} (hd : decode cc pc = .ok (.ifCond .ge off, 3)) (ht : (pc : Int) + off = (tgt : Int)) (kt : 0 ≤ x → Wp cc own nL R Fn tgt Ls rest mh) (kf : ¬ 0 ≤ x → Wp cc own nL R Fn (pc + 3) Ls rest mh) : Wp cc own nL R Fn pc Ls (.int x :: rest) mh :=
  fun G lk A p l e s m args below meth c kc ks Z hC hF hk H locs ls hR hL => lv_if_ge hC.1 hC.2.1 hd ht (fun h => kt h G lk A p l e s m args below meth c kc ks Z hC hF hk H locs ls hR hL) (fun h => kf h G lk A p l e s m args below meth c kc ks Z hC hF hk H locs ls hR hL)
theorem wp_icmp_ge {x y : Int32} {off : Int} {tgt : Nat} (hd : decode cc pc = .ok (.if_icmp .ge off, 3)) (ht : (pc : Int) + off = (tgt : Int)) (kt : y ≤ x → Wp cc own nL R Fn tgt Ls rest mh) (kf : ¬ y ≤ x → Wp cc own nL R Fn (pc + 3) Ls rest mh) : Wp cc own nL R Fn pc Ls (.int y :: .int x :: rest) mh :=
  fun G lk A p l e s m args below meth c kc ks Z hC hF hk H locs ls hR hL => lv_icmp_ge hC.1 hC.2.1 hd ht (fun h => kt h G lk A p l e s m args below meth c kc ks Z hC hF hk H locs ls hR hL) (fun h => kf h G lk A p l e s m args below meth c kc ks Z hC hF hk H locs ls hR hL)
theorem wp_if_gt {x : Int32} {off : Int} {tgt : Nat} (hd : decode cc pc = .ok (.ifCond .gt off, 3)) (ht : (pc : Int) + off = (tgt : Int)) (kt : 0 < x → Wp cc own nL R Fn tgt Ls rest mh) (kf : ¬ 0 < x → Wp cc own nL R Fn (pc + 3) Ls rest mh) : Wp cc own nL R Fn pc Ls (.int x :: rest) mh :=
  fun G lk A p l e s m args below meth c kc ks Z hC hF hk H locs ls hR hL => lv_if_gt hC.1 hC.2.1 hd ht (fun h => kt h G lk A p l e s m args below meth c kc ks Z hC hF hk H locs ls hR hL) (fun h => kf h G lk A p l e s m args below meth c kc ks Z hC hF hk H locs ls hR hL)
theorem wp_icmp_gt {x y : Int32} {off : Int} {tgt : Nat} (hd : decode cc pc = .ok (.if_icmp .gt off, 3)) (ht : (pc : Int) + off = (tgt : Int)) (kt : y < x → Wp cc own nL R Fn tgt Ls rest mh) (kf : ¬ y < x → Wp cc own nL R Fn (pc + 3) Ls rest mh) : Wp cc own nL R Fn pc Ls (.int y :: .int x :: rest) mh :=
  fun G lk A p l e s m args below meth c kc ks Z hC hF hk H locs ls hR hL => lv_icmp_gt hC.1 hC.2.1 hd ht (fun h => kt h G lk A p l e s m args below meth c kc ks Z hC hF hk H locs ls hR hL) (fun h => kf h G lk A p l e s m args below meth c kc ks Z hC hF hk H locs ls hR hL)
theorem wp_if_le {x : Int32} {off : Int} {tgt : Nat} (hd : decode cc pc = .ok (.ifCond .le off, 3)) (ht : (pc : Int) + off = (tgt : Int)) (kt : x ≤ 0 → Wp cc own nL R Fn tgt Ls rest mh) (kf : ¬ x ≤ 0 → Wp cc own nL R Fn (pc + 3) Ls rest mh) : Wp cc own nL R Fn pc Ls (.int x :: rest) mh :=
  fun G lk A p l e s m args below meth c kc ks Z hC hF hk H locs ls hR hL => lv_if_le hC.1 hC.2.1 hd ht (fun h => kt h G lk A p l e s m args below meth c kc ks Z hC hF hk H locs ls hR hL) (fun h => kf h G lk A p l e s m args below meth c kc ks Z hC hF hk H locs ls hR hL)
theorem wp_icmp_le {x y : Int32} {off : Int} {tgt : Nat} (hd : decode cc pc = .ok (.if_icmp .le off, 3)) (ht : (pc : Int) + off = (tgt : Int)) (kt : x ≤ y → Wp cc own nL R Fn tgt Ls rest mh) (kf : ¬ x ≤ y → Wp cc own nL R Fn (pc + 3) Ls rest mh) : Wp cc own nL R Fn pc Ls (.int y :: .int x :: rest) mh :=
  fun G lk A p l e s m args below meth c kc ks Z hC hF hk H locs ls hR hL => lv_icmp_le hC.1 hC.2.1 hd ht (fun h => kt h G lk A p l e s m args below meth c kc ks Z hC hF hk H locs ls hR hL) (fun h => kf h G lk A p l e s m args below meth c kc ks Z hC hF hk H locs ls hR hL)
theorem wp_ldc {index : Nat} {v : Int32} (hd : decode cc pc = .ok (.ldc index, 2)) (hw : Cond.constant own index v ∈ wl_gw) (kk : Wp cc own nL R Fn (pc + 2) Ls (.int v :: rest) mh) : Wp cc own nL R Fn pc Ls rest mh :=
  fun G lk A p l e s m args below meth c kc ks Z hC hF hk H locs ls hR hL => lv_ldc hC.1 hC.2.1 hC.2.2.2.1 (hC.2.2.2.2.1 _ hw) hd (kk G lk A p l e s m args below meth c kc ks Z hC hF hk H locs ls hR hL)
theorem wp_ldcw {index : Nat} {v : Int32} (hd : decode cc pc = .ok (.ldc_w index, 3)) (hw : Cond.constant own index v ∈ wl_gw) (kk : Wp cc own nL R Fn (pc + 3) Ls (.int v :: rest) mh) : Wp cc own nL R Fn pc Ls rest mh :=
  fun G lk A p l e s m args below meth c kc ks Z hC hF hk H locs ls hR hL => lv_ldcw hC.1 hC.2.1 hC.2.2.2.1 (hC.2.2.2.2.1 _ hw) hd (kk G lk A p l e s m args below meth c kc ks Z hC hF hk H locs ls hR hL)
theorem wp_ldc2 {index : Nat} {v : Int64} (hd : decode cc pc = .ok (.ldc2_w index, 3)) (hw : Cond.constantLong own index v ∈ wl_gw) (kk : Wp cc own nL R Fn (pc + 3) Ls (.long v :: rest) mh) : Wp cc own nL R Fn pc Ls rest mh :=
  fun G lk A p l e s m args below meth c kc ks Z hC hF hk H locs ls hR hL => lv_ldc2 hC.1 hC.2.1 hC.2.2.2.1 (hC.2.2.2.2.1 _ hw) hd (kk G lk A p l e s m args below meth c kc ks Z hC hF hk H locs ls hR hL)
end WPR
