/-! ===== minors, by an algebra of forms on sets of columns ===== -/
def isum (f : Nat → Int) : Nat → Int
  | 0 => 0
  | n + 1 => isum f n + f n
theorem isum_congr {f f2 : Nat → Int} : ∀ {n : Nat}, (∀ i, i < n → f i = f2 i) → isum f n = isum f2 n
  | 0, _ => rfl
  | n + 1, h => by
    show isum f n + f n = isum f2 n + f2 n
    rw [isum_congr (fun i hi => h i (by omega)), h n (by omega)]
theorem isum_zero {f : Nat → Int} : ∀ {n : Nat}, (∀ i, i < n → f i = 0) → isum f n = 0
  | 0, _ => rfl
  | n + 1, h => by
    show isum f n + f n = 0
    rw [isum_zero (fun i hi => h i (by omega)), h n (by omega)]
    rfl
theorem isum_add (f f2 : Nat → Int) : ∀ n, isum (fun i => f i + f2 i) n = isum f n + isum f2 n
  | 0 => rfl
  | n + 1 => by
    show isum (fun i => f i + f2 i) n + (f n + f2 n) = isum f n + f n + (isum f2 n + f2 n)
    rw [isum_add f f2 n]
    omega
theorem isum_mul (c : Int) (f : Nat → Int) : ∀ n, isum (fun i => c * f i) n = c * isum f n
  | 0 => (Int.mul_zero c).symm
  | n + 1 => by
    show isum (fun i => c * f i) n + c * f n = c * (isum f n + f n)
    rw [isum_mul c f n, Int.mul_add]
theorem isum_comm (f : Nat → Nat → Int) (n : Nat) : ∀ m, isum (fun i => isum (fun j => f i j) n) m = isum (fun j => isum (fun i => f i j) m) n
  | 0 => (isum_zero (fun _ _ => rfl)).symm
  | m + 1 => by
    show isum (fun i => isum (fun j => f i j) n) m + isum (fun j => f m j) n = isum (fun j => isum (fun i => f i j) m + f m j) n
    rw [isum_add, isum_comm f n m]
theorem isum_one {f : Nat → Int} {j : Nat} : ∀ {n : Nat}, j < n → (∀ i, i < n → i ≠ j → f i = 0) → isum f n = f j
  | 0, h, _ => by omega
  | n + 1, h, h0 => by
    show isum f n + f n = f j
    by_cases e : j = n
    · subst e
      rw [isum_zero (fun i hi => h0 i (by omega) (by omega))]
      omega
    · rw [isum_one (j := j) (by omega) (fun i hi hne => h0 i (by omega) hne), h0 n (by omega) (fun z => e z.symm)]
      omega
/-- how many members of a set stand behind j -/
def bhd (S : Nat → Bool) (j : Nat) : Nat → Nat
  | 0 => 0
  | n + 1 => bhd S j n + if j < n ∧ S n = true then 1 else 0
def sgn (k : Nat) : Int := if k % 2 = 0 then 1 else -1
theorem sgn_s (k : Nat) : sgn (k + 1) = - sgn k := by
  unfold sgn
  rcases Nat.mod_two_eq_zero_or_one k with h | h
  · rw [if_pos h, if_neg (show ¬ (k + 1) % 2 = 0 by omega)]
  · rw [if_pos (show (k + 1) % 2 = 0 by omega), if_neg (show ¬ k % 2 = 0 by omega)]
    rfl
def dl (S : Nat → Bool) (j : Nat) : Nat → Bool := fun i => S i && !decide (i = j)
theorem dl_comm (S : Nat → Bool) (j l : Nat) : dl (dl S j) l = dl (dl S l) j := by
  funext i
  unfold dl
  cases S i <;> cases decide (i = j) <;> cases decide (i = l) <;> rfl
theorem bhd_dl_lo {S : Nat → Bool} {j l : Nat} (h : l ≤ j) : ∀ n, bhd (dl S l) j n = bhd S j n
  | 0 => rfl
  | n + 1 => by
    show bhd (dl S l) j n + _ = bhd S j n + _
    rw [bhd_dl_lo h n]
    congr 1
    by_cases c : j < n
    · have : dl S l n = S n := by unfold dl; rw [decide_eq_false (by omega)]; simp
      rw [this]
    · rw [if_neg (fun z => c z.1), if_neg (fun z => c z.1)]
theorem bhd_dl_hi {S : Nat → Bool} {j l : Nat} (h : j < l) (hl : S l = true) : ∀ n, bhd (dl S l) j n + (if l < n then 1 else 0) = bhd S j n
  | 0 => rfl
  | n + 1 => by
    show bhd (dl S l) j n + (if j < n ∧ dl S l n = true then 1 else 0) + (if l < n + 1 then 1 else 0) = bhd S j n + if j < n ∧ S n = true then 1 else 0
    have ih := bhd_dl_hi h hl n
    by_cases e : n = l
    · subst e
      have : dl S n n = false := by unfold dl; simp
      rw [this, hl, if_neg (fun z => absurd z.2 (by decide)), if_pos (by omega), if_pos ⟨h, rfl⟩]
      rw [if_neg (by omega)] at ih
      omega
    · have : dl S l n = S n := by unfold dl; rw [decide_eq_false e]; simp
      rw [this]
      by_cases c : l < n
      · rw [if_pos c] at ih
        rw [if_pos (show l < n + 1 by omega)]
        omega
      · rw [if_neg c] at ih
        rw [if_neg (show ¬ l < n + 1 by omega)]
        omega
/-- a form with one more vector -/
def Wg (N : Nat) (v : Nat → Int) (f : (Nat → Bool) → Int) : (Nat → Bool) → Int := fun S => isum (fun j => if S j = true then sgn (bhd S j N) * v j * f (dl S j) else 0) N
theorem Wg_lin (N : Nat) (a b : Int) (u v : Nat → Int) (f : (Nat → Bool) → Int) (S : Nat → Bool) : Wg N (fun j => a * u j + b * v j) f S = a * Wg N u f S + b * Wg N v f S := by
  unfold Wg
  rw [← isum_mul, ← isum_mul, ← isum_add]
  refine isum_congr (fun j _ => ?_)
  split
  · rw [Int.mul_add, Int.add_mul]
    congr 1
    · rw [Int.mul_left_comm, Int.mul_assoc, Int.mul_assoc]
    · rw [Int.mul_left_comm, Int.mul_assoc, Int.mul_assoc]
  · rw [Int.mul_zero, Int.mul_zero]; rfl
theorem Wg_smul (N : Nat) (c : Int) (v : Nat → Int) (f : (Nat → Bool) → Int) (S : Nat → Bool) : Wg N v (fun T => c * f T) S = c * Wg N v f S := by
  unfold Wg
  rw [← isum_mul]
  refine isum_congr (fun j _ => ?_)
  split
  · rw [Int.mul_left_comm]
  · rw [Int.mul_zero]
theorem sg_anti {S : Nat → Bool} {N j l : Nat} (hj : j < l) (hl : l < N) (sl : S l = true) : sgn (bhd S j N) * sgn (bhd (dl S j) l N) = - (sgn (bhd S l N) * sgn (bhd (dl S l) j N)) := by
  have a := bhd_dl_lo (S := S) (j := l) (l := j) (by omega) N
  have b := bhd_dl_hi (S := S) hj sl N
  rw [if_pos hl] at b
  rw [a, ← b, sgn_s, Int.neg_mul, Int.mul_comm]
/-- the two coefficients of a pair of columns -/
def cf (N : Nat) (S : Nat → Bool) (j l : Nat) : Int := if S j = true then (if dl S j l = true then sgn (bhd S j N) * sgn (bhd (dl S j) l N) else 0) else 0
theorem cf_anti {N : Nat} {S : Nat → Bool} {j l : Nat} (hj : j < N) (hl : l < N) : cf N S j l = - cf N S l j := by
  unfold cf
  rcases Nat.lt_trichotomy j l with h | h | h
  · by_cases sj : S j = true <;> by_cases sl : S l = true
    · have d1 : dl S j l = true := by unfold dl; rw [sl, decide_eq_false (by omega)]; rfl
      have d2 : dl S l j = true := by unfold dl; rw [sj, decide_eq_false (by omega)]; rfl
      rw [if_pos sj, if_pos sl, if_pos d1, if_pos d2]
      exact sg_anti h hl sl
    · have d1 : ¬ dl S j l = true := fun z => sl (by unfold dl at z; rw [Bool.and_eq_true] at z; exact z.1)
      rw [if_pos sj, if_neg sl, if_neg d1]; rfl
    · have d2 : ¬ dl S l j = true := fun z => sj (by unfold dl at z; rw [Bool.and_eq_true] at z; exact z.1)
      rw [if_neg sj, if_pos sl, if_neg d2]; rfl
    · rw [if_neg sj, if_neg sl]; rfl
  · subst h
    have : ¬ dl S j j = true := fun z => by unfold dl at z; simp at z
    by_cases c : S j = true
    · rw [if_pos c, if_neg this]; rfl
    · rw [if_neg c]; rfl
  · by_cases sj : S j = true <;> by_cases sl : S l = true
    · have d1 : dl S j l = true := by unfold dl; rw [sl, decide_eq_false (by omega)]; rfl
      have d2 : dl S l j = true := by unfold dl; rw [sj, decide_eq_false (by omega)]; rfl
      rw [if_pos sj, if_pos sl, if_pos d1, if_pos d2]
      have := sg_anti h hj sj
      omega
    · have d1 : ¬ dl S j l = true := fun z => sl (by unfold dl at z; rw [Bool.and_eq_true] at z; exact z.1)
      rw [if_pos sj, if_neg sl, if_neg d1]; rfl
    · have d2 : ¬ dl S l j = true := fun z => sj (by unfold dl at z; rw [Bool.and_eq_true] at z; exact z.1)
      rw [if_neg sj, if_pos sl, if_neg d2]; rfl
    · rw [if_neg sj, if_neg sl]; rfl
theorem Wg_two (N : Nat) (u v : Nat → Int) (f : (Nat → Bool) → Int) (S : Nat → Bool) : Wg N u (Wg N v f) S = isum (fun j => isum (fun l => cf N S j l * (u j * v l * f (dl (dl S j) l))) N) N := by
  show isum (fun j => if S j = true then sgn (bhd S j N) * u j * isum (fun l => if dl S j l = true then sgn (bhd (dl S j) l N) * v l * f (dl (dl S j) l) else 0) N else 0) N = _
  refine isum_congr (fun j _ => ?_)
  by_cases c : S j = true
  · rw [if_pos c, ← isum_mul]
    refine isum_congr (fun l _ => ?_)
    unfold cf
    rw [if_pos c]
    split
    · simp only [Int.mul_assoc, Int.mul_left_comm, Int.mul_comm]
    · rw [Int.mul_zero, Int.zero_mul]
  · rw [if_neg c]
    refine (isum_zero (fun l _ => ?_)).symm
    unfold cf
    rw [if_neg c, Int.zero_mul]
theorem Wg_anti (N : Nat) (u v : Nat → Int) (f : (Nat → Bool) → Int) (S : Nat → Bool) : Wg N u (Wg N v f) S = - Wg N v (Wg N u f) S := by
  rw [Wg_two, Wg_two]
  have e : isum (fun j => isum (fun l => cf N S j l * (u j * v l * f (dl (dl S j) l))) N) N + isum (fun j => isum (fun l => cf N S j l * (v j * u l * f (dl (dl S j) l))) N) N = 0 := by
    rw [isum_comm (fun j l => cf N S j l * (v j * u l * f (dl (dl S j) l))) N N, ← isum_add]
    refine isum_zero (fun j hj => ?_)
    rw [← isum_add]
    refine isum_zero (fun l hl => ?_)
    rw [cf_anti hl hj, dl_comm S l j, Int.mul_comm (v l) (u j), Int.neg_mul]
    omega
  omega
theorem Wg_self (N : Nat) (v : Nat → Int) (f : (Nat → Bool) → Int) (S : Nat → Bool) : Wg N v (Wg N v f) S = 0 := by
  have := Wg_anti N v v f S
  omega
/-- the first k columns, and one more -/
def fst' (k : Nat) : Nat → Bool := fun i => decide (i < k)
def fstJ (k j : Nat) : Nat → Bool := fun i => decide (i < k) || decide (i = j)
theorem dl_fstJ {k j : Nat} (h : k ≤ j) : dl (fstJ k j) j = fst' k := by
  funext i
  unfold dl fstJ fst'
  by_cases e : i = j
  · subst e
    simp
    omega
  · simp [e]
theorem bhd_top {S : Nat → Bool} {j : Nat} (h : ∀ i, j < i → S i = false) : ∀ n, bhd S j n = 0
  | 0 => rfl
  | n + 1 => by
    show bhd S j n + _ = 0
    rw [bhd_top h n]
    by_cases c : j < n
    · rw [h n c, if_neg (fun z => absurd z.2 (by decide))]
    · rw [if_neg (fun z => c z.1)]
theorem Wg_at {N k j : Nat} {t : Nat → Int} {f : (Nat → Bool) → Int} (hk : k ≤ j) (hj : j < N) (ht : ∀ i, i < k → t i = 0) : Wg N t f (fstJ k j) = t j * f (fst' k) := by
  unfold Wg
  rw [isum_one (j := j) hj]
  · have s : fstJ k j j = true := by unfold fstJ; simp
    have b : bhd (fstJ k j) j N = 0 := bhd_top (fun i hi => by unfold fstJ; rw [decide_eq_false (by omega), decide_eq_false (by omega)]; rfl) N
    rw [if_pos s, b, dl_fstJ hk]
    show (1 : Int) * t j * _ = _
    rw [Int.one_mul]
  · intro i _ hne
    by_cases c : fstJ k j i = true
    · rw [if_pos c]
      unfold fstJ at c
      rw [decide_eq_false hne, Bool.or_false, decide_eq_true_iff] at c
      rw [ht i c, Int.mul_zero, Int.zero_mul]
    · rw [if_neg c]
/-! minors of rows -/
def Fk (N : Nat) (r : Nat → Nat → Int) : Nat → (Nat → Bool) → Int
  | 0 => fun _ => 1
  | k + 1 => Wg N (r k) (Fk N r k)
def dk (N : Nat) (r : Nat → Nat → Int) (k : Nat) : Int := Fk N r k (fst' k)
def mk' (N : Nat) (r : Nat → Nat → Int) (k : Nat) (v : Nat → Int) : Nat → Int := fun j => if j < k then 0 else Wg N v (Fk N r k) (fstJ k j)
theorem fstJ_k (k : Nat) : fstJ k k = fst' (k + 1) := by
  funext i
  unfold fstJ fst'
  by_cases e : i < k
  · simp [e]; omega
  · by_cases e2 : i = k
    · subst e2; simp
    · simp [e, e2]; omega
theorem dk_s {N : Nat} {r : Nat → Nat → Int} {k : Nat} : dk N r (k + 1) = mk' N r k (r k) k := by
  unfold mk' dk
  rw [if_neg (by omega), fstJ_k]
  rfl
theorem Wg_congr {N : Nat} {u v : Nat → Int} {f f2 : (Nat → Bool) → Int} (hu : ∀ j, j < N → u j = v j) (hf : ∀ S, f S = f2 S) (S : Nat → Bool) : Wg N u f S = Wg N v f2 S := by
  unfold Wg
  refine isum_congr (fun j hj => ?_)
  rw [hu j hj, hf]
/-- one step of the elimination leaves no rest -/
theorem mk_step' {N : Nat} {r : Nat → Nat → Int} (k : Nat) (hk : k + 1 ≤ N) (hd : ∀ l, l ≤ k + 1 → dk N r l ≠ 0) (hf : ∀ v S, Wg N (mk' N r k v) (Fk N r k) S = dk N r k * Wg N v (Fk N r k) S) (v : Nat → Int) (j : Nat) (hj : j < N) : dk N r k * mk' N r (k + 1) v j = mk' N r k (r k) k * mk' N r k v j - mk' N r k v k * mk' N r k (r k) j := by
  have hdk := hd k (by omega)
  have hdk1 := hd (k + 1) (by omega)
  rcases Nat.lt_trichotomy j k with z | z | z
  · unfold mk'
    rw [if_pos (show j < k + 1 by omega), if_pos z, if_pos z]
    simp
  · subst z
    rw [show mk' N r (j + 1) v j = 0 from if_pos (by omega), Int.mul_comm (mk' N r j v j), Int.mul_zero]
    omega
  · have e1 : ∀ v S, Wg N (mk' N r k v) (Fk N r (k + 1)) S = dk N r k * Wg N v (Fk N r (k + 1)) S := fun v S => by
      show Wg N (mk' N r k v) (Wg N (r k) (Fk N r k)) S = dk N r k * Wg N v (Wg N (r k) (Fk N r k)) S
      rw [Wg_anti, Wg_congr (u := r k) (v := r k) (fun _ _ => rfl) (fun T => hf v T), Wg_smul, Wg_anti N v]
      rw [Int.mul_neg]
    have l2 := Wg_lin N (mk' N r k (r k) k) (-(mk' N r k v k)) (mk' N r k v) (mk' N r k (r k)) (Fk N r (k + 1)) (fstJ (k + 1) j)
    have at' := Wg_at (N := N) (k := k + 1) (j := j) (t := fun j => mk' N r k (r k) k * mk' N r k v j + -(mk' N r k v k) * mk' N r k (r k) j) (f := Fk N r (k + 1)) (by omega) hj (fun i hi => by
      by_cases c : i < k
      · show mk' N r k (r k) k * mk' N r k v i + -(mk' N r k v k) * mk' N r k (r k) i = 0
        rw [show mk' N r k v i = 0 from if_pos c, show mk' N r k (r k) i = 0 from if_pos c]
        simp
      · have e : i = k := by omega
        subst e
        show mk' N r i (r i) i * mk' N r i v i + -(mk' N r i v i) * mk' N r i (r i) i = 0
        rw [Int.neg_mul, Int.mul_comm (mk' N r i v i)]
        omega)
    rw [at', e1, e1] at l2
    have z0 : Wg N (r k) (Fk N r (k + 1)) (fstJ (k + 1) j) = 0 := Wg_self N (r k) (Fk N r k) _
    rw [z0, Int.mul_zero, Int.mul_zero, Int.add_zero] at l2
    have em : Wg N v (Fk N r (k + 1)) (fstJ (k + 1) j) = mk' N r (k + 1) v j := (if_neg (by omega)).symm
    rw [em, show Fk N r (k + 1) (fst' (k + 1)) = dk N r (k + 1) from rfl, dk_s] at l2
    rw [dk_s] at hdk1
    have l3 : mk' N r k (r k) k * (dk N r k * mk' N r (k + 1) v j) = mk' N r k (r k) k * (mk' N r k (r k) k * mk' N r k v j - mk' N r k v k * mk' N r k (r k) j) := by
      rw [← l2, Int.mul_comm, Int.neg_mul, Int.sub_eq_add_neg]
    exact Int.eq_of_mul_eq_mul_left hdk1 l3
/-- a row, reduced: the same form, times the minor -/
theorem mk_form {N : Nat} {r : Nat → Nat → Int} : ∀ k, k ≤ N → (∀ l, l ≤ k → dk N r l ≠ 0) → ∀ v S, Wg N (mk' N r k v) (Fk N r k) S = dk N r k * Wg N v (Fk N r k) S
  | 0, _, _, v, S => by
    show Wg N (mk' N r 0 v) (Fk N r 0) S = 1 * Wg N v (Fk N r 0) S
    rw [Int.one_mul]
    refine Wg_congr (fun j hj => ?_) (fun _ => rfl) S
    unfold mk'
    rw [if_neg (by omega), Wg_at (Nat.zero_le _) hj (fun i hi => by omega)]
    exact Int.mul_one _
  | k + 1, hk, hd, v, S => by
    have hf := mk_form k (by omega) (fun l hl => hd l (by omega))
    have b := fun v j => mk_step' k hk hd hf v j
    have hdk := hd k (by omega)
    have e1 : ∀ v S, Wg N (mk' N r k v) (Fk N r (k + 1)) S = dk N r k * Wg N v (Fk N r (k + 1)) S := fun v S => by
      show Wg N (mk' N r k v) (Wg N (r k) (Fk N r k)) S = dk N r k * Wg N v (Wg N (r k) (Fk N r k)) S
      rw [Wg_anti, Wg_congr (u := r k) (v := r k) (fun _ _ => rfl) (fun T => hf v T), Wg_smul, Wg_anti N v]
      rw [Int.mul_neg]
    have key : dk N r k * Wg N (mk' N r (k + 1) v) (Fk N r (k + 1)) S = dk N r k * (dk N r (k + 1) * Wg N v (Fk N r (k + 1)) S) := by
      have l1 := Wg_lin N (dk N r k) 0 (mk' N r (k + 1) v) (fun _ => 0) (Fk N r (k + 1)) S
      have l2 := Wg_lin N (mk' N r k (r k) k) (-(mk' N r k v k)) (mk' N r k v) (mk' N r k (r k)) (Fk N r (k + 1)) S
      have l3 := Wg_congr (N := N) (u := fun j => dk N r k * mk' N r (k + 1) v j + 0 * 0) (v := fun j => mk' N r k (r k) k * mk' N r k v j + -(mk' N r k v k) * mk' N r k (r k) j) (f := Fk N r (k + 1)) (f2 := Fk N r (k + 1)) (fun j hj => by
        have := b v j hj
        rw [this, Int.zero_mul, Int.add_zero, Int.neg_mul]
        rfl) (fun _ => rfl) S
      rw [l1, l2, e1, e1] at l3
      have z : Wg N (r k) (Fk N r (k + 1)) S = 0 := Wg_self N (r k) (Fk N r k) S
      rw [z, Int.mul_zero, Int.mul_zero, Int.add_zero, Int.zero_mul, Int.add_zero] at l3
      rw [l3, dk_s, Int.mul_left_comm]
    exact Int.eq_of_mul_eq_mul_left hdk key
theorem mk_step {N : Nat} {r : Nat → Nat → Int} (k : Nat) (hk : k + 1 ≤ N) (hd : ∀ l, l ≤ k + 1 → dk N r l ≠ 0) (v : Nat → Int) (j : Nat) (hj : j < N) : dk N r k * mk' N r (k + 1) v j = mk' N r k (r k) k * mk' N r k v j - mk' N r k v k * mk' N r k (r k) j := mk_step' k hk hd (mk_form k (by omega) (fun l hl => hd l (by omega))) v j hj
theorem mk_0 {N : Nat} {r : Nat → Nat → Int} (v : Nat → Int) {j : Nat} (hj : j < N) : mk' N r 0 v j = v j := by
  unfold mk'
  rw [if_neg (by omega), Wg_at (Nat.zero_le _) hj (fun i hi => by omega)]
  exact Int.mul_one _
theorem dk_0 (N : Nat) (r : Nat → Nat → Int) : dk N r 0 = 1 := rfl
