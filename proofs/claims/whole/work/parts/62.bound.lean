/-! ===== how large the numbers of the elimination are ===== -/
theorem sq_le {x c : Int} (h : x * x ≤ c * c) (hc : 0 ≤ c) : -c ≤ x ∧ x ≤ c := by
  constructor
  · rcases Int.lt_or_le x (-c) with z | z
    · have a := Int.mul_le_mul (a := c + 1) (b := c + 1) (c := -x) (d := -x) (by omega) (by omega) (by omega) (by omega)
      rw [Int.neg_mul_neg, Int.add_mul, Int.mul_add] at a
      omega
    · omega
  · rcases Int.lt_or_le c x with z | z
    · have a := Int.mul_le_mul (a := c + 1) (b := c + 1) (c := x) (d := x) (by omega) (by omega) (by omega) (by omega)
      rw [Int.add_mul, Int.mul_add] at a
      omega
    · omega
theorem nn_of_mul {a b : Int} (ha : 0 < a) (h : 0 ≤ a * b) : 0 ≤ b := by
  rcases Int.lt_or_le b 0 with z | z
  · have := Int.mul_neg_of_pos_of_neg ha z
    omega
  · exact z
def unit' (j : Nat) (d : Int) : Nat → Int := fun i => if i = j then d else 0
theorem unit_img {n E : Nat} {C : Nat → Nat → Int} {j : Nat} (d : Int) (hj : j ≤ n) (i : Nat) : img n E C (unit' j d) i = gA E C i j * d := by
  unfold img
  rw [isum_one (j := j) (by omega) (fun l _ hne => by
    show gA E C i l * (if l = j then d else 0) = 0
    rw [if_neg hne, Int.mul_zero])]
  show gA E C i j * (if j = j then d else 0) = _
  rw [if_pos rfl]
theorem unit_bil {n E : Nat} {C : Nat → Nat → Int} {j : Nat} (d : Int) (hj : j ≤ n) : bil n E C (unit' j d) (unit' j d) = d * d * gA E C j j := by
  rw [bil_img, isum_one (j := j) (by omega) (fun l _ hne => by
    show (if l = j then d else 0) * _ = 0
    rw [if_neg hne, Int.zero_mul]), unit_img d hj]
  show (if j = j then d else 0) * _ = _
  rw [if_pos rfl, Int.mul_comm (gA E C j j), Int.mul_assoc]
theorem bil_sq {n E : Nat} {C : Nat → Nat → Int} (a b : Int) (x y : Nat → Int) : bil n E C (fun i => a * x i + b * y i) (fun i => a * x i + b * y i) = a * a * bil n E C x x + 2 * (a * b * bil n E C x y) + b * b * bil n E C y y := by
  rw [bil_comb, bil_sym n E C x, bil_sym n E C y, bil_comb, bil_comb, bil_sym n E C y x, Int.mul_add, Int.mul_add, ← Int.mul_assoc, ← Int.mul_assoc, ← Int.mul_assoc, ← Int.mul_assoc, Int.mul_comm b a]
  omega
/-- the upper rows of a column, as unknowns -/
def gu (n E : Nat) (C : Nat → Nat → Int) (k j : Nat) : Nat → Int := fun i => if i < k then gm n E C k (me i) j else 0
theorem gu_eq {n E : Nat} {C : Nat → Nat → Int} {k j : Nat} (hk : k ≤ n) (hd : ∀ l, l ≤ k → gd n E C l ≠ 0) (hj : k ≤ j) (hjn : j ≤ n) : gd n E C k * gd n E C k * gA E C j j = gd n E C k * gm n E C k (gR E C j) j + bil n E C (gu n E C k j) (gu n E C k j) := by
  rw [← unit_bil (n := n) (E := E) (C := C) (gd n E C k) hjn]
  have e : unit' j (gd n E C k) = fun i => 1 * gz n E C k j i + 1 * gu n E C k j i := by
    funext i
    unfold unit' gz gu
    by_cases c : i < k
    · rw [if_neg (show ¬ i = j by omega), if_pos c, if_pos c]
      omega
    · rw [if_neg c, if_neg c]
      split <;> omega
  rw [e, bil_sq, gz_bil hk hd hj hjn hj hjn]
  have z : bil n E C (gz n E C k j) (gu n E C k j) = 0 := by
    rw [bil_sym, bil_img]
    refine isum_zero (fun i hi => ?_)
    rw [gz_img k hk hd j hj hjn i (by omega)]
    unfold gu
    by_cases c : i < k
    · rw [if_pos c, if_pos c, Int.mul_zero]
    · rw [if_neg c, Int.zero_mul]
  rw [z]
  omega
def gP (E : Nat) (C : Nat → Nat → Int) : Nat → Int
  | 0 => 1
  | k + 1 => gP E C k * gA E C k k
/-- what is asked of a system -/
def Sys (n E : Nat) (C : Nat → Nat → Int) : Prop := n ≤ 10 ∧ Held n E C 900 ∧ (∀ i, i < n → gA E C i i ≤ 11) ∧ gA E C n n ≤ 250000 ∧ gP E C n ≤ 24300000
theorem gA_nn (E : Nat) (C : Nat → Nat → Int) (i : Nat) : 0 ≤ gA E C i i := isum_nn (fun _ _ => sq_nn _)
theorem gA_1 {n E : Nat} {C : Nat → Nat → Int} (h : Sys n E C) {i : Nat} (hi : i < n) : 1 ≤ gA E C i i := by
  have a := h.2.1 (unit' i 1) (fun j hj => if_neg (by omega)) i hi
  rw [unit_bil 1 (by omega)] at a
  have b : unit' i 1 i = 1 := if_pos rfl
  rw [b] at a
  omega
theorem gP_pos {n E : Nat} {C : Nat → Nat → Int} (h : Sys n E C) : ∀ k, k ≤ n → 1 ≤ gP E C k
  | 0, _ => Int.le_refl _
  | k + 1, hk => by
    have a := gP_pos h k (by omega)
    have b := gA_1 h (show k < n by omega)
    have := Int.mul_le_mul a b (by decide) (by omega)
    show 1 ≤ gP E C k * gA E C k k
    omega
theorem gP_mono {n E : Nat} {C : Nat → Nat → Int} (h : Sys n E C) {k : Nat} : ∀ m, k ≤ m → m ≤ n → gP E C k ≤ gP E C m
  | 0, hk, _ => by
    have e : k = 0 := by omega
    subst e
    exact Int.le_refl _
  | m + 1, hk, hm => by
    by_cases e : k = m + 1
    · subst e; exact Int.le_refl _
    · have a := gP_mono h (k := k) m (by omega) (by omega)
      have p := gP_pos h m (by omega)
      have b := gA_1 h (show m < n by omega)
      have := Int.mul_le_mul_of_nonneg_left b (show 0 ≤ gP E C m by omega)
      show gP E C k ≤ gP E C m * gA E C m m
      omega
theorem sys_d {n E : Nat} {C : Nat → Nat → Int} (h : Sys n E C) {k : Nat} (hk : k ≤ n) : 0 < gd n E C k := gd_pos h.2.1 k hk k (Nat.le_refl _)
theorem sys_ne {n E : Nat} {C : Nat → Nat → Int} (h : Sys n E C) {k : Nat} (hk : k ≤ n) : ∀ l, l ≤ k → gd n E C l ≠ 0 := fun l hl => by
  have := sys_d h (k := l) (by omega)
  omega
theorem gm_le {n E : Nat} {C : Nat → Nat → Int} (h : Sys n E C) {k j : Nat} (hk : k ≤ n) (hj : k ≤ j) (hjn : j ≤ n) : gm n E C k (gR E C j) j ≤ gd n E C k * gA E C j j := by
  have e := gu_eq hk (sys_ne h hk) hj hjn
  have nn := bil_nn n E C (gu n E C k j)
  have d := sys_d h hk
  rw [Int.mul_assoc] at e
  exact Int.le_of_mul_le_mul_left (by omega) d
theorem gd_le {n E : Nat} {C : Nat → Nat → Int} (h : Sys n E C) : ∀ k, k ≤ n → gd n E C k ≤ gP E C k
  | 0, _ => Int.le_refl _
  | k + 1, hk => by
    have ih := gd_le h k (by omega)
    have a := gm_le h (k := k) (j := k) (by omega) (Nat.le_refl _) (by omega)
    have piv : gm n E C k (gR E C k) k = gd n E C (k + 1) := (dk_s (N := n + 1) (r := gR E C)).symm
    rw [piv] at a
    have := Int.mul_le_mul_of_nonneg_right ih (gA_nn E C k)
    exact Int.le_trans a this
theorem gd_B {n E : Nat} {C : Nat → Nat → Int} (h : Sys n E C) {k : Nat} (hk : k ≤ n) : gd n E C k ≤ 24300000 := Int.le_trans (gd_le h k hk) (Int.le_trans (gP_mono h n hk (Nat.le_refl _)) h.2.2.2.2)
theorem gA_all {n E : Nat} {C : Nat → Nat → Int} (h : Sys n E C) {j : Nat} (hj : j ≤ n) : gA E C j j ≤ 250000 := by
  by_cases e : j = n
  · subst e; exact h.2.2.2.1
  · have := h.2.2.1 j (by omega)
    omega
theorem gV_B {n E : Nat} {C : Nat → Nat → Int} (h : Sys n E C) {k i j : Nat} (hk : k ≤ n) (hi : i < n) (hj : k ≤ j) (hjn : j ≤ n) : -(15000 * gd n E C k) ≤ gV n E C k i j ∧ gV n E C k i j ≤ 15000 * gd n E C k := by
  have d := sys_d h hk
  have ne := sys_ne h hk
  unfold gV
  by_cases c : i < k
  · rw [if_pos c]
    have e := gu_eq hk ne hj hjn
    have b := gz_bil hk ne hj hjn hj hjn
    have nn := bil_nn n E C (gz n E C k j)
    rw [b] at nn
    have q := h.2.1 (gu n E C k j) (fun l hl => if_neg (by omega)) i hi
    have ui : gu n E C k j i = gm n E C k (me i) j := if_pos c
    rw [ui] at q
    refine sq_le ?_ (by omega)
    have aj := gA_all h hjn
    have dd : 0 ≤ gd n E C k * gd n E C k := sq_nn _
    have m1 := Int.mul_le_mul_of_nonneg_left aj dd
    have e2 : 15000 * gd n E C k * (15000 * gd n E C k) = 225000000 * (gd n E C k * gd n E C k) := by
      rw [Int.mul_assoc, Int.mul_left_comm (gd n E C k), ← Int.mul_assoc]
      rfl
    rw [e2]
    omega
  · rw [if_neg c]
    have hki : k ≤ i := by omega
    have bii := gz_bil hk ne hki (show i ≤ n by omega) hki (show i ≤ n by omega)
    have bij := gz_bil hk ne hki (show i ≤ n by omega) hj hjn
    have bjj := gz_bil hk ne hj hjn hj hjn
    have p1 := bil_nn n E C (fun l => 100 * gz n E C k i l + 1 * gz n E C k j l)
    have p2 := bil_nn n E C (fun l => 100 * gz n E C k i l + (-1) * gz n E C k j l)
    rw [bil_sq, bii, bij, bjj] at p1 p2
    have li := gm_le h hk hki (show i ≤ n by omega)
    have lj := gm_le h hk hj hjn
    have ai := Int.mul_le_mul_of_nonneg_left (h.2.2.1 i hi) (show 0 ≤ gd n E C k by omega)
    have aj := Int.mul_le_mul_of_nonneg_left (gA_all h hjn) (show 0 ≤ gd n E C k by omega)
    have f1 : 0 ≤ gd n E C k * (10000 * gm n E C k (gR E C i) i + 200 * gm n E C k (gR E C i) j + gm n E C k (gR E C j) j) := by
      rw [Int.mul_add, Int.mul_add, Int.mul_left_comm, Int.mul_left_comm (gd n E C k) 200]
      omega
    have f2 : 0 ≤ gd n E C k * (10000 * gm n E C k (gR E C i) i - 200 * gm n E C k (gR E C i) j + gm n E C k (gR E C j) j) := by
      rw [Int.mul_add, Int.mul_sub, Int.mul_left_comm, Int.mul_left_comm (gd n E C k) 200]
      omega
    have g1 := nn_of_mul d f1
    have g2 := nn_of_mul d f2
    omega
/-- one step of the program's elimination -/
theorem gV_0 {n E : Nat} {C : Nat → Nat → Int} {i j : Nat} (hj : j ≤ n) : gV n E C 0 i j = gA E C i j := by
  unfold gV
  rw [if_neg (by omega)]
  exact mk_0 _ (by omega)
theorem gV_piv {n E : Nat} {C : Nat → Nat → Int} {k : Nat} : gV n E C k k k = gd n E C (k + 1) := by
  unfold gV
  rw [if_neg (by omega)]
  exact (dk_s (N := n + 1) (r := gR E C)).symm
theorem gV_step {n E : Nat} {C : Nat → Nat → Int} (h : Sys n E C) {k i j : Nat} (hk : k < n) (hj : j ≤ n) (hne : i ≠ k) : gd n E C k * gV n E C (k + 1) i j = gV n E C k k k * gV n E C k i j - gV n E C k i k * gV n E C k k j := by
  have st := fun v => mk_step (N := n + 1) (r := gR E C) k (by omega) (sys_ne h (show k + 1 ≤ n by omega)) v j (by omega)
  unfold gV
  rw [if_neg (show ¬ k < k by omega), if_neg (show ¬ k < k by omega)]
  by_cases c : i < k
  · rw [if_pos c, if_pos c, if_pos (show i < k + 1 by omega)]
    exact st (me i)
  · rw [if_neg c, if_neg c, if_neg (show ¬ i < k + 1 by omega)]
    exact st (gR E C i)
theorem gV_own {n E : Nat} {C : Nat → Nat → Int} (h : Sys n E C) {k j : Nat} (hk : k < n) (hkj : k < j) (hj : j ≤ n) : gV n E C (k + 1) k j = gV n E C k k j := by
  have st := mk_step (N := n + 1) (r := gR E C) k (by omega) (sys_ne h (show k + 1 ≤ n by omega)) (me k) j (by omega)
  have f1 : mk' (n + 1) (gR E C) k (me k) j = 0 := by
    have q := gm_far (n := n) (E := E) (C := C) (k := k) (j := j) (v := me k) (fun i hi => if_neg (by omega)) (by omega) (by omega)
    rw [show me k j = 0 from if_neg (by omega), Int.zero_mul] at q
    exact q
  have f2 : mk' (n + 1) (gR E C) k (me k) k = -1 * gd n E C k := by
    have q := gm_far (n := n) (E := E) (C := C) (k := k) (j := k) (v := me k) (fun i hi => if_neg (by omega)) (by omega) (by omega)
    rw [show me k k = -1 from if_pos rfl] at q
    exact q
  rw [f1, f2, Int.mul_zero, Int.mul_assoc, Int.neg_mul, Int.one_mul] at st
  unfold gV
  rw [if_pos (show k < k + 1 by omega), if_neg (show ¬ k < k by omega)]
  have d := sys_d h (show k ≤ n by omega)
  refine Int.eq_of_mul_eq_mul_left (show gd n E C k ≠ 0 by omega) ?_
  show gd n E C k * mk' (n + 1) (gR E C) (k + 1) (me k) j = gd n E C k * mk' (n + 1) (gR E C) k (gR E C k) j
  rw [st]
  omega
/-- what the step divides fits -/
theorem gV_fit {n E : Nat} {C : Nat → Nat → Int} (h : Sys n E C) {k i j : Nat} (hk : k < n) (hi : i < n) (hj : k < j) (hjn : j ≤ n) : -9223372036854775807 ≤ gd n E C k * gV n E C (k + 1) i j ∧ gd n E C k * gV n E C (k + 1) i j ≤ 9223372036854775807 := by
  have a := gV_B h (k := k + 1) (i := i) (j := j) (by omega) hi (by omega) hjn
  have d0 := sys_d h (show k ≤ n by omega)
  have d1 := sys_d h (show k + 1 ≤ n by omega)
  have b0 := gd_B h (show k ≤ n by omega)
  have b1 := gd_B h (show k + 1 ≤ n by omega)
  have m1 := Int.mul_le_mul_of_nonneg_left a.2 (show 0 ≤ gd n E C k by omega)
  have m2 := Int.mul_le_mul_of_nonneg_left a.1 (show 0 ≤ gd n E C k by omega)
  have m3 : gd n E C k * (15000 * gd n E C (k + 1)) ≤ 24300000 * (15000 * 24300000) := Int.mul_le_mul b0 (by omega) (by omega) (by decide)
  rw [Int.mul_neg] at m2
  omega
/-- at the end: the unknowns, over the last pivot -/
theorem gV_end {n E : Nat} {C : Nat → Nat → Int} (h : Sys n E C) {i : Nat} (hi : i < n) : isum (fun l => gA E C i l * gV n E C n l n) n = gd n E C n * gA E C i n := by
  have e := gz_img (n := n) (E := E) (C := C) n (Nat.le_refl _) (sys_ne h (Nat.le_refl _)) n (Nat.le_refl _) (Nat.le_refl _) i (by omega)
  rw [if_pos hi] at e
  have e2 : isum (fun l => gA E C i l * gz n E C n n l) n + gA E C i n * gz n E C n n n = 0 := e
  have z : gz n E C n n n = gd n E C n := by
    unfold gz
    rw [if_neg (by omega), if_pos rfl]
  have s : isum (fun l => gA E C i l * gz n E C n n l) n = -1 * isum (fun l => gA E C i l * gV n E C n l n) n := by
    rw [← isum_mul]
    refine isum_congr (fun l hl => ?_)
    unfold gz gV
    rw [if_pos hl, if_pos hl, Int.mul_neg, Int.neg_mul, Int.one_mul]
  rw [s, z, Int.mul_comm (gA E C i n)] at e2
  omega
