def lawQ (L : Nat) (xs : Nat → Int32) : wl_Fq := fun G A _ _ _ R s _ args below meth _ Z => (G.2.1 = L ∧ G.2.2.1 = xs) ∧ args = #[.ref G.1] ∧ meth.sig.returnType = ret ∧ meth.locks = false ∧ A = (fun q : Nat => s.heap.size ≤ q) ∧ R = room_1 ∧ Z = lw_Z below args s ∧ wl_AO s
theorem wq_wp {L : Nat} {xs : Nat → Int32} {G : wl_G} {lk0 ext : wl_Lk} {k n pc : Nat} {Ls stk : List Value} {mh : wl_H} (hk : k ≤ 600000) (hn : n ≤ 7302250) (h : Wp cL_law RL 4 room_1 (wl_lawF L xs) pc Ls stk mh) : Wq cL_law RL 4 room_1 (lawQ L xs) G lk0 ext k n pc Ls stk mh := by
  intro A p l e s m args below meth c Z hC hF hwf H locs ls hR hL
  obtain ⟨h1, h2, h3, h4, h5, h6, h7, h8⟩ := hF
  refine W.widen hk hn ?_
  exact h G (lk0 ++ ext) A p l e s m args below meth c 600000 7302250 Z hC ⟨h1, h2, h3, h4, h5, rfl, rfl, h6, h7⟩ ⟨Nat.le_refl _, Nat.le_refl _⟩ H locs ls hR hL
set_option maxRecDepth 100000 in
set_option maxHeartbeats 4000000 in
/-- from its entry the law comes to its loop, with both objects made -/
theorem law_entry {L : Nat} {xs : Nat → Int32} {G : wl_G} (h : wL_law (L, xs) 18 [.ref 1000, .ref 0, .ref 47, .int 0] [] S0) : Wq cL_law RL 4 room_1 (lawQ L xs) G [] [] 0 0 0 [.ref 1000, .retAddr 0, .retAddr 0, .retAddr 0] [] [] := by
  refine wq_new (ci := 6) (fs := [.null, .null, .null, .null, .null]) (ty0 := tyX6) dL_law_0 wc_RL_7 uX6 tyX6_ok rfl (by decide) (fun _ _ => rfl) (by decide) (Nat.le_of_ble_eq_true rfl) rfl rfl (by decide) (by decide) (fun q0 => ?_)
  refine wq_dup dL_law_3 rfl ?_
  refine wq_callI (q := 0) (As := []) (rest := [.ref 0]) (Mh := wr_X6_init) (MC := 46) (MS := 880) (fun h => h.2.2.2.2.2.2.2) dL_law_4 mX6_init lL_9 rfl (by decide) rfl rfl (Nat.le_of_ble_eq_true rfl) (Nat.le_of_ble_eq_true rfl) (by decide) rfl rfl (fun lk => qX6_init _ lk) (fun x1 => ?_)
  refine wq_astore_n (Ms := [.ref 1000, .ref 0, .retAddr 0, .retAddr 0]) dL_law_7 rfl (by decide) rfl ?_
  refine wq_new (ci := 7) (fs := [.int 0, .null, .null, .null, .null, .null, .null, .null, .null, .int 0, .null, .null, .long 0, .null, .null, .null, .null]) (ty0 := tyX7) dL_law_8 wc_RL_10 uX7 tyX7_ok rfl (by decide) (fun _ _ => rfl) (by decide) (Nat.le_of_ble_eq_true rfl) rfl rfl (by decide) (by decide) (fun q2 => ?_)
  refine wq_dup dL_law_11 rfl ?_
  refine wq_callI (q := 47) (As := []) (rest := [.ref 47]) (Mh := wr_X7_init) (MC := 14) (MS := 649) (fun h => h.2.2.2.2.2.2.2) dL_law_12 mX7_init lL_12 rfl (by decide) rfl rfl (Nat.le_of_ble_eq_true rfl) (Nat.le_of_ble_eq_true rfl) (by decide) rfl rfl (fun lk => qX7_init _ lk) (fun x3 => ?_)
  refine wq_astore_n (Ms := [.ref 1000, .ref 0, .ref 47, .retAddr 0]) dL_law_15 rfl (by decide) rfl ?_
  refine wq_iconst (v := 0) dL_law_16 (by decide) ?_
  refine wq_istore_n (Ms := [.ref 1000, .ref 0, .ref 47, .int 0]) dL_law_17 rfl (by decide) rfl ?_
  refine wq_wp (by decide) (by decide) ?_
  rw [wd_end]
  exact h
theorem wl_int {args : Array Value} {s : State} {t : Term} {z : Int32} (h : (Cond.eq t (.int z)).before args s = true) : t.eval args s none [] s = some (.int z) := va_eqt h
set_option maxRecDepth 100000 in
set_option maxHeartbeats 4000000 in
/-- THE LAW, from its entry, given its loop from the beginning's state -/
theorem law_start {p : Program} {e : Env} {s : State} {m : MethodId} {below : List Frame} {meth : Method} {c : Code} (l : Launch) {b L : Nat} {xs : Nat → Int32} (h : wL_law (L, xs) 18 [.ref 1000, .ref 0, .ref 47, .int 0] [] S0) (C0 : lw_At p s m meth c b L xs) : W p l e room_1 s m #[Value.ref b] below meth c s.heap [] 0 0 (lw_Z below #[Value.ref b] s) (entryFrame m ([Value.ref b] : List Value).toArray 4) := by
  obtain ⟨hx, hb, hr, hml, hown, hts, hX, hbl, hlocks, hgv⟩ := C0
  have hA : ∀ q : Nat, s.heap.size ≤ q → (fun q : Nat => s.heap.size ≤ q) q := fun _ h => h
  have hbA : ¬ (fun q : Nat => s.heap.size ≤ q) b := Nat.not_le.mpr hbl
  have hAn : ∀ a : Nat, a < s.heap.size → ¬ (fun q : Nat => s.heap.size ≤ q) a := fun a h => Nat.not_le.mpr h
  have htg : ∀ w ∈ wl_gw, w.before #[Value.ref b] s = true := fun w h => hts w (wl_gw_in h)
  obtain ⟨c0, i0, hK0⟩ := u_known (C := RX0) (T := TX0) (N := 2) (n := 2) htg uX0 (htg _ wn_RX0)
  obtain ⟨c1, i1, hK1⟩ := u_known (C := RX1) (T := TX1) (N := 3) (n := 3) htg uX1 (htg _ wn_RX1)
  obtain ⟨c2, i2, hK2⟩ := u_known (C := RX2) (T := TX2) (N := 3) (n := 3) htg uX2 (htg _ wn_RX2)
  obtain ⟨c3, i3, hK3⟩ := u_known (C := RX3) (T := TX3) (N := 9) (n := 9) htg uX3 (htg _ wn_RX3)
  obtain ⟨c4, i4, hK4⟩ := u_known (C := RX4) (T := TX4) (N := 13) (n := 13) htg uX4 (htg _ wn_RX4)
  obtain ⟨c5, i5, hK5⟩ := u_known (C := RX5) (T := TX5) (N := 7) (n := 7) htg uX5 (htg _ wn_RX5)
  obtain ⟨c6, i6, hK6⟩ := u_known (C := RX6) (T := TX6) (N := 5) (n := 5) htg uX6 (htg _ wn_RX6)
  obtain ⟨c7, i7, hK7⟩ := u_known (C := RX7) (T := TX7) (N := 17) (n := 17) htg uX7 (htg _ wn_RX7)
  obtain ⟨dC, dI, hKc⟩ : ∃ (dC : Nat → ClassId) (dI : Nat → Nat → Nat), ∀ (k : Nat) (q : vw_C), vwCl[k]? = some q → u_Kn s q.1 q.2.1 q.2.2 (dC k) (dI k) := by
    refine ⟨fun k => if k = 0 then c0 else if k = 1 then c1 else if k = 2 then c2 else if k = 3 then c3 else if k = 4 then c4 else if k = 5 then c5 else if k = 6 then c6 else c7, fun k => if k = 0 then i0 else if k = 1 then i1 else if k = 2 then i2 else if k = 3 then i3 else if k = 4 then i4 else if k = 5 then i5 else if k = 6 then i6 else i7, ?_⟩
    intro k q hq
    match k, hq with
    | 0, hq => cases hq; exact hK0
    | 1, hq => cases hq; exact hK1
    | 2, hq => cases hq; exact hK2
    | 3, hq => cases hq; exact hK3
    | 4, hq => cases hq; exact hK4
    | 5, hq => cases hq; exact hK5
    | 6, hq => cases hq; exact hK6
    | 7, hq => cases hq; exact hK7
    | k + 8, hq => simp [vwCl] at hq
  have hK : va_K (dC, dI) vwCl [] s := ⟨hKc, fun k q h => by simp at h⟩
  have hs := flat_of_before _ hgv
  have hN : wl_Nst s := fun a i x h hm => va_Nw.of rfl (hts _ hm)
  have hAO : wl_AO s := ⟨hts (Cond.arrayOver (.array .int)) (wl_memn 53 (by decide +kernel)), hts (Cond.arrayOver (.array .long)) (wl_memn 119 (by decide +kernel))⟩
  obtain ⟨t0, ht0, hT0⟩ := va_Tof (args := #[Value.ref b]) (s := s) (tm := .static "PeerMarks" "LEAST_RULE" "[I") (ty := .int) (N := 3) (f := wl_lr) (by decide) (hs _ (by decide +kernel)) (wl_int (hs _ (by decide +kernel))) (fun j hj => by
    match j, hj with
    | 0, _ => exact wl_int (z := 1) (hs _ (by decide +kernel))
    | 1, _ => exact wl_int (z := 1) (hs _ (by decide +kernel))
    | 2, _ => exact wl_int (z := 0) (hs _ (by decide +kernel))) hAn
  obtain ⟨t1, ht1, hT1⟩ := va_Tof (args := #[Value.ref b]) (s := s) (tm := .static "PeerMarks" "GREATEST_RULE" "[I") (ty := .int) (N := 3) (f := wl_gr) (by decide) (hs _ (by decide +kernel)) (wl_int (hs _ (by decide +kernel))) (fun j hj => by
    match j, hj with
    | 0, _ => exact wl_int (z := 4) (hs _ (by decide +kernel))
    | 1, _ => exact wl_int (z := 8) (hs _ (by decide +kernel))
    | 2, _ => exact wl_int (z := 100) (hs _ (by decide +kernel))) hAn
  have hZ0 := va_Zref (C := "PeerMarks") (n := "LEAST_RULE") (d := "[I") (hts _ (wl_memn 263 (by decide +kernel))) (hts _ (wl_memn 1 (by decide +kernel))) ht0 hAn
  have hZ1 := va_Zref (C := "PeerMarks") (n := "GREATEST_RULE") (d := "[I") (hts _ (wl_memn 265 (by decide +kernel))) (hts _ (wl_memn 1 (by decide +kernel))) ht1 hAn
  have hKK : wl_K (b, L, xs, t0, t1, (dC, dI)) (fun q : Nat => s.heap.size ≤ q) s s.heap := ⟨hK, hN, ⟨hZ0, hT0⟩, ⟨hZ1, hT1⟩, hX, hbl, hbA⟩
  rw [lg_entry_eq]
  have hl := wl_entry (b, L, xs, t0, t1, (dC, dI)) [] [.ref 1000] (n := 4) (by decide)
  exact law_entry (G := (b, L, xs, t0, t1, (dC, dI))) h (fun q : Nat => s.heap.size ≤ q) p l e s m #[Value.ref b] below meth c (lw_Z below #[Value.ref b] s) ⟨hx, hb, hml, hown, htg, hKK, hA, hlocks⟩ ⟨⟨rfl, rfl⟩, rfl, hr, hlocks, rfl, rfl, rfl, hAO⟩ (fun i e h => by simp at h) s.heap [] _ ⟨rfl, by decide, fun k q h => by simp [wl_conc] at h, ⟨fun i j a b h => by simp at h, fun i a h => by simp at h⟩, va_S.rf, fun i a tg z h => by simp at h⟩ hl
