/-! ===== elimination of a sum of squares, pure ===== -/
/-- the factors: E squares, each of a sum of unknowns 0..n-1 with the column n taken away -/
def gA (E : Nat) (C : Nat → Nat → Int) (i j : Nat) : Int := isum (fun e => C e i * C e j) E
def lin (n : Nat) (C : Nat → Nat → Int) (x : Nat → Int) (e : Nat) : Int := isum (fun l => C e l * x l) (n + 1)
def bil (n E : Nat) (C : Nat → Nat → Int) (x y : Nat → Int) : Int := isum (fun e => lin n C x e * lin n C y e) E
def img (n E : Nat) (C : Nat → Nat → Int) (x : Nat → Int) (i : Nat) : Int := isum (fun l => gA E C i l * x l) (n + 1)
theorem gA_sym (E : Nat) (C : Nat → Nat → Int) (i j : Nat) : gA E C i j = gA E C j i := isum_congr (fun e _ => Int.mul_comm _ _)
theorem img_lin (n E : Nat) (C : Nat → Nat → Int) (x : Nat → Int) (i : Nat) : img n E C x i = isum (fun e => C e i * lin n C x e) E := by
  unfold img gA lin
  rw [isum_congr (f2 := fun l => isum (fun e => C e i * (C e l * x l)) E) (fun l _ => by
    rw [Int.mul_comm, ← isum_mul]
    exact isum_congr (fun e _ => by rw [Int.mul_comm, Int.mul_assoc]))]
  rw [isum_comm (fun l e => C e i * (C e l * x l)) E (n + 1)]
  exact isum_congr (fun e _ => isum_mul _ _ _)
theorem bil_img (n E : Nat) (C : Nat → Nat → Int) (x y : Nat → Int) : bil n E C x y = isum (fun i => x i * img n E C y i) (n + 1) := by
  unfold bil
  rw [isum_congr (f2 := fun e => isum (fun i => x i * (C e i * lin n C y e)) (n + 1)) (fun e _ => by
    show lin n C x e * lin n C y e = _
    rw [Int.mul_comm]
    unfold lin
    rw [← isum_mul]
    exact isum_congr (fun i _ => by
      generalize isum (fun l => C e l * y l) (n + 1) = t
      rw [Int.mul_comm t, Int.mul_comm (C e i), Int.mul_assoc]))]
  rw [isum_comm (fun e i => x i * (C e i * lin n C y e)) (n + 1) E]
  refine isum_congr (fun i _ => ?_)
  rw [img_lin, ← isum_mul]
theorem isum_nn {f : Nat → Int} : ∀ {n : Nat}, (∀ i, i < n → 0 ≤ f i) → 0 ≤ isum f n
  | 0, _ => Int.le_refl _
  | n + 1, h => by
    have := isum_nn (f := f) (n := n) (fun i hi => h i (by omega))
    have := h n (by omega)
    show 0 ≤ isum f n + f n
    omega
theorem sq_nn (a : Int) : 0 ≤ a * a := by
  rcases Int.le_total 0 a with h | h
  · exact Int.mul_nonneg h h
  · have := Int.mul_nonneg (show 0 ≤ -a by omega) (show 0 ≤ -a by omega)
    rw [Int.neg_mul_neg] at this
    exact this
theorem bil_nn (n E : Nat) (C : Nat → Nat → Int) (x : Nat → Int) : 0 ≤ bil n E C x x := isum_nn (fun _ _ => sq_nn _)
theorem lin_comb (n : Nat) (C : Nat → Nat → Int) (a b : Int) (x y : Nat → Int) (e : Nat) : lin n C (fun i => a * x i + b * y i) e = a * lin n C x e + b * lin n C y e := by
  unfold lin
  rw [← isum_mul, ← isum_mul, ← isum_add]
  refine isum_congr (fun l _ => ?_)
  rw [Int.mul_add, Int.mul_left_comm, Int.mul_left_comm (C e l) b]
theorem img_comb (n E : Nat) (C : Nat → Nat → Int) (a b : Int) (x y : Nat → Int) (i : Nat) : img n E C (fun i => a * x i + b * y i) i = a * img n E C x i + b * img n E C y i := by
  unfold img
  rw [← isum_mul, ← isum_mul, ← isum_add]
  refine isum_congr (fun l _ => ?_)
  rw [Int.mul_add, Int.mul_left_comm, Int.mul_left_comm (gA E C i l) b]
theorem bil_sym (n E : Nat) (C : Nat → Nat → Int) (x y : Nat → Int) : bil n E C x y = bil n E C y x := isum_congr (fun _ _ => Int.mul_comm _ _)
theorem bil_comb (n E : Nat) (C : Nat → Nat → Int) (a b : Int) (x y z : Nat → Int) : bil n E C (fun i => a * x i + b * y i) z = a * bil n E C x z + b * bil n E C y z := by
  unfold bil
  rw [← isum_mul, ← isum_mul, ← isum_add]
  refine isum_congr (fun e _ => ?_)
  rw [lin_comb, Int.add_mul, Int.mul_assoc, Int.mul_assoc]
/-- every unknown is held by the squares -/
def Held (n E : Nat) (C : Nat → Nat → Int) (q : Int) : Prop := ∀ x : Nat → Int, (∀ i, n ≤ i → x i = 0) → ∀ i, i < n → x i * x i ≤ q * bil n E C x x
abbrev gR (E : Nat) (C : Nat → Nat → Int) : Nat → Nat → Int := fun i j => gA E C i j
abbrev gd (n E : Nat) (C : Nat → Nat → Int) (k : Nat) : Int := dk (n + 1) (gR E C) k
abbrev gm (n E : Nat) (C : Nat → Nat → Int) (k : Nat) (v : Nat → Int) (j : Nat) : Int := mk' (n + 1) (gR E C) k v j
def me (i : Nat) : Nat → Int := fun j => if j = i then -1 else 0
/-- what row i holds at column j when k columns are done -/
def gV (n E : Nat) (C : Nat → Nat → Int) (k i j : Nat) : Int := if i < k then gm n E C k (me i) j else gm n E C k (gR E C i) j
/-- the unknowns that make a column -/
def gz (n E : Nat) (C : Nat → Nat → Int) (k j : Nat) : Nat → Int := fun i => if i < k then - gm n E C k (me i) j else if i = j then gd n E C k else 0
theorem gm_far {n E : Nat} {C : Nat → Nat → Int} {k j : Nat} {v : Nat → Int} (hv : ∀ i, i < k → v i = 0) (hk : k ≤ j) (hj : j < n + 1) : gm n E C k v j = v j * gd n E C k := by
  show mk' (n + 1) (gR E C) k v j = _
  unfold mk'
  rw [if_neg (by omega), Wg_at hk hj hv]
  rfl
theorem gz_img {n E : Nat} {C : Nat → Nat → Int} : ∀ k, k ≤ n → (∀ l, l ≤ k → gd n E C l ≠ 0) → ∀ j, k ≤ j → j ≤ n → ∀ i, i ≤ n → img n E C (gz n E C k j) i = if i < k then 0 else gm n E C k (gR E C i) j
  | 0, _, _, j, _, hj, i, hi => by
    rw [if_neg (by omega)]
    show _ = mk' (n + 1) (gR E C) 0 (gR E C i) j
    rw [mk_0 _ (by omega)]
    unfold img
    rw [isum_one (j := j) (by omega) (fun l _ hne => by
      show gA E C i l * (if l < 0 then _ else if l = j then _ else 0) = 0
      rw [if_neg (by omega), if_neg hne, Int.mul_zero])]
    show gA E C i j * (if j < 0 then _ else if j = j then gd n E C 0 else 0) = _
    rw [if_neg (by omega), if_pos rfl]
    exact Int.mul_one _
  | k + 1, hk, hd, j, hkj, hj, i, hi => by
    have ih := gz_img k (by omega) (fun l hl => hd l (by omega))
    have hdk := hd k (by omega)
    have st := fun v j hj => mk_step (N := n + 1) (r := gR E C) k (by omega) hd v j hj
    have piv : mk' (n + 1) (gR E C) k (gR E C k) k = gd n E C (k + 1) := dk_s.symm
    -- the new vector, times the minor before
    have vec : ∀ l, l ≤ n → gd n E C k * gz n E C (k + 1) j l = gd n E C (k + 1) * gz n E C k j l + -(gm n E C k (gR E C k) j) * gz n E C k k l := fun l hl => by
      unfold gz
      rcases Nat.lt_trichotomy l k with z | z | z
      · rw [if_pos (show l < k + 1 by omega), if_pos z, if_pos z]
        have := st (me l) j (by omega)
        rw [piv] at this
        rw [Int.mul_neg, this, Int.neg_mul_neg, Int.mul_neg, Int.mul_comm (mk' (n + 1) (gR E C) k (me l) k)]
        show _ = - (gd n E C (k + 1) * mk' (n + 1) (gR E C) k (me l) j) + mk' (n + 1) (gR E C) k (gR E C k) j * mk' (n + 1) (gR E C) k (me l) k
        omega
      · subst z
        rw [if_pos (show l < l + 1 by omega), if_neg (show ¬ l < l by omega), if_neg (show ¬ l = j by omega), if_neg (show ¬ l < l by omega), if_pos rfl]
        have := st (me l) j (by omega)
        have f1 : mk' (n + 1) (gR E C) l (me l) j = 0 := by
          have q := gm_far (n := n) (E := E) (C := C) (k := l) (j := j) (v := me l) (fun i hi => if_neg (by omega)) (by omega) (by omega)
          rw [show me l j = 0 from if_neg (by omega), Int.zero_mul] at q
          exact q
        have f2 : mk' (n + 1) (gR E C) l (me l) l = -1 * gd n E C l := by
          have q := gm_far (n := n) (E := E) (C := C) (k := l) (j := l) (v := me l) (fun i hi => if_neg (by omega)) (by omega) (by omega)
          rw [show me l l = -1 from if_pos rfl] at q
          exact q
        rw [f1, f2, Int.mul_zero] at this
        rw [Int.mul_neg, this, Int.mul_zero, Int.neg_mul, Int.neg_mul, Int.neg_mul, Int.one_mul]
        show -(0 - -(gd n E C l * mk' (n + 1) (gR E C) l (gR E C l) j)) = 0 + -(mk' (n + 1) (gR E C) l (gR E C l) j * gd n E C l)
        rw [Int.mul_comm (mk' (n + 1) (gR E C) l (gR E C l) j)]
        omega
      · rw [if_neg (show ¬ l < k + 1 by omega), if_neg (show ¬ l < k by omega), if_neg (show ¬ l < k by omega), if_neg (show ¬ l = k by omega), Int.mul_zero, Int.add_zero]
        by_cases e : l = j
        · rw [if_pos e, if_pos e, Int.mul_comm]
        · rw [if_neg e, if_neg e, Int.mul_zero, Int.mul_zero]
    have e1 : gd n E C k * img n E C (gz n E C (k + 1) j) i = gd n E C (k + 1) * img n E C (gz n E C k j) i + -(gm n E C k (gR E C k) j) * img n E C (gz n E C k k) i := by
      rw [← img_comb]
      unfold img
      rw [← isum_mul]
      refine isum_congr (fun l hl => ?_)
      rw [Int.mul_left_comm, vec l (by omega)]
    rw [ih j (by omega) hj i hi, ih k (Nat.le_refl _) (by omega) i hi] at e1
    refine Int.eq_of_mul_eq_mul_left hdk ?_
    rw [e1]
    rcases Nat.lt_trichotomy i k with z | z | z
    · rw [if_pos z, if_pos z, if_pos (show i < k + 1 by omega)]
      simp
    · subst z
      rw [if_neg (show ¬ i < i by omega), if_neg (show ¬ i < i by omega), if_pos (show i < i + 1 by omega), Int.mul_zero]
      show gd n E C (i + 1) * mk' (n + 1) (gR E C) i (gR E C i) j + -(mk' (n + 1) (gR E C) i (gR E C i) j) * mk' (n + 1) (gR E C) i (gR E C i) i = 0
      rw [piv, Int.neg_mul, Int.mul_comm (mk' (n + 1) (gR E C) i (gR E C i) j)]
      omega
    · rw [if_neg (show ¬ i < k by omega), if_neg (show ¬ i < k by omega), if_neg (show ¬ i < k + 1 by omega)]
      have := st (gR E C i) j (by omega)
      rw [piv] at this
      rw [show gm n E C (k + 1) (gR E C i) j = mk' (n + 1) (gR E C) (k + 1) (gR E C i) j from rfl]
      show _ = gd n E C k * _
      rw [this, Int.neg_mul, Int.mul_comm (mk' (n + 1) (gR E C) k (gR E C i) k)]
      show gd n E C (k + 1) * mk' (n + 1) (gR E C) k (gR E C i) j + -(mk' (n + 1) (gR E C) k (gR E C k) j * mk' (n + 1) (gR E C) k (gR E C i) k) = _
      omega
/-- the form of two such columns -/
theorem gz_bil {n E : Nat} {C : Nat → Nat → Int} {k : Nat} (hk : k ≤ n) (hd : ∀ l, l ≤ k → gd n E C l ≠ 0) {i j : Nat} (hi : k ≤ i) (hin : i ≤ n) (hj : k ≤ j) (hjn : j ≤ n) : bil n E C (gz n E C k i) (gz n E C k j) = gd n E C k * gm n E C k (gR E C i) j := by
  rw [bil_img, isum_one (j := i) (by omega) (fun l hl hne => ?_)]
  · rw [gz_img k hk hd j hj hjn i hin, if_neg (show ¬ i < k by omega)]
    congr 1
    unfold gz
    rw [if_neg (by omega), if_pos rfl]
  · rw [gz_img k hk hd j hj hjn l (by omega)]
    by_cases c : l < k
    · rw [if_pos c, Int.mul_zero]
    · have : gz n E C k i l = 0 := by
        unfold gz
        rw [if_neg c, if_neg hne]
      rw [this, Int.zero_mul]
/-- the pivots stand above 0 -/
theorem gd_pos {n E : Nat} {C : Nat → Nat → Int} {q : Int} (hh : Held n E C q) : ∀ k, k ≤ n → ∀ l, l ≤ k → 0 < gd n E C l
  | 0, _, l, hl => by
    have e : l = 0 := by omega
    subst e
    show (0 : Int) < 1
    decide
  | k + 1, hk, l, hl => by
    have ih := gd_pos hh k (by omega)
    by_cases e : l = k + 1
    · subst e
      have hd : ∀ l, l ≤ k → gd n E C l ≠ 0 := fun l hl => by have := ih l hl; omega
      have b := gz_bil (n := n) (E := E) (C := C) (k := k) (by omega) hd (i := k) (j := k) (Nat.le_refl _) (by omega) (Nat.le_refl _) (by omega)
      have piv : gm n E C k (gR E C k) k = gd n E C (k + 1) := (dk_s (N := n + 1) (r := gR E C)).symm
      rw [piv] at b
      have hq := hh (gz n E C k k) (fun i hi => by
        unfold gz
        rw [if_neg (by omega), if_neg (by omega)]) k (by omega)
      have zk : gz n E C k k k = gd n E C k := by
        unfold gz
        rw [if_neg (by omega), if_pos rfl]
      have dpos := ih k (Nat.le_refl _)
      rw [zk, b] at hq
      have p2 : 0 < gd n E C k * gd n E C k := Int.mul_pos dpos dpos
      have nn := bil_nn n E C (gz n E C k k)
      rw [b] at nn
      rcases Int.lt_trichotomy (gd n E C (k + 1)) 0 with z | z | z
      · have := Int.mul_neg_of_pos_of_neg dpos z
        omega
      · rw [z, Int.mul_zero, Int.mul_zero] at hq
        omega
      · exact z
    · exact ih l (by omega)
