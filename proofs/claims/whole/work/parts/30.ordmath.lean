/-! ===== orders: least quarrels of sets of works, the row that is built from them ===== -/
def turnB (mk : Nat → Nat → Int32) (p a b : Nat) : Bool := !decide (mk p a = -1) && decide (mk p a < mk p b)
/-- how many of the first i pupils, but wo, turn a and b -/
def qcn (mk : Nat → Nat → Int32) (wo : Option Nat) (a b : Nat) : Nat → Nat
  | 0 => 0
  | p + 1 => qcn mk wo a b p + if !decide (wo = some p) && turnB mk p a b then 1 else 0
theorem qcn_le (mk : Nat → Nat → Int32) (wo : Option Nat) (a b : Nat) : ∀ i, qcn mk wo a b i ≤ i
  | 0 => Nat.le_refl 0
  | i + 1 => by
    have := qcn_le mk wo a b i
    unfold qcn
    split <;> omega
/-- the sum of f over the members below i of a set -/
def csum (f : Nat → Nat) (s : Nat) : Nat → Nat
  | 0 => 0
  | v + 1 => csum f s v + if s.testBit v then f v else 0
theorem csum_le {f : Nat → Nat} {c : Nat} (hf : ∀ v, f v ≤ c) (s : Nat) : ∀ i, csum f s i ≤ c * i
  | 0 => Nat.zero_le _
  | i + 1 => by
    have h1 := csum_le hf s i
    have h2 := hf i
    unfold csum
    rw [Nat.mul_succ]
    split <;> omega
theorem csum_congr {f : Nat → Nat} {s t : Nat} : ∀ {i : Nat}, (∀ v, v < i → s.testBit v = t.testBit v) → csum f s i = csum f t i
  | 0, _ => rfl
  | i + 1, h => by
    unfold csum
    rw [csum_congr (fun v hv => h v (by omega)), h i (by omega)]
theorem csum_0 (f : Nat → Nat) : ∀ i, csum f 0 i = 0
  | 0 => rfl
  | i + 1 => by
    unfold csum
    rw [csum_0 f i]
    simp
/-- taking a member out -/
theorem csum_nd {f : Nat → Nat} {s w : Nat} (hs : s < 256) : ∀ {i : Nat}, csum f s i = csum f (nd s (2 ^ w)) i + if s.testBit w ∧ w < i then f w else 0
  | 0 => by simp [csum]
  | i + 1 => by
    unfold csum
    rw [csum_nd (f := f) (w := w) hs (i := i), nd_bit _ _ hs, p2_bit]
    by_cases e : w = i
    · subst e
      have h1 : ¬ (s.testBit w = true ∧ w < w) := fun z => by omega
      rw [if_neg h1]
      cases h : s.testBit w <;> simp
    · have e2 : (s.testBit w = true ∧ w < i + 1) = (s.testBit w = true ∧ w < i) := by
        apply propext
        constructor
        · intro z; exact ⟨z.1, by omega⟩
        · intro z; exact ⟨z.1, by omega⟩
      rw [show (if s.testBit w = true ∧ w < i + 1 then f w else 0) = (if s.testBit w = true ∧ w < i then f w else 0) from by simp only [e2]]
      have e3 : (s.testBit i && !decide (w = i)) = s.testBit i := by simp [e]
      rw [e3]
      omega
def cost (q : Nat → Nat → Nat) (n : Nat) (L : Nat → Nat) (w rest : Nat) : Nat := csum (q w) rest n + L rest
def bestX (q : Nat → Nat → Nat) (n : Nat) (L : Nat → Nat) (init s : Nat) : Nat → Nat
  | 0 => init
  | w + 1 => if s.testBit w then (if cost q n L w (nd s (2 ^ w)) < bestX q n L init s w then cost q n L w (nd s (2 ^ w)) else bestX q n L init s w) else bestX q n L init s w
def tbl (q : Nat → Nat → Nat) (n : Nat) : Nat → Nat → Nat
  | 0 => fun _ => 0
  | k + 1 => fun s => if s = k + 1 then bestX q n (tbl q n k) 1000000 (k + 1) n else tbl q n k s
/-- the least quarrel within a set -/
def ls (q : Nat → Nat → Nat) (n s : Nat) : Nat := tbl q n s s
theorem tbl_le (q : Nat → Nat → Nat) (n : Nat) : ∀ k s, s ≤ k → tbl q n k s = ls q n s
  | 0, s, h => by
    have : s = 0 := by omega
    subst this
    rfl
  | k + 1, s, h => by
    by_cases e : s = k + 1
    · subst e; rfl
    · show (if s = k + 1 then _ else tbl q n k s) = _
      rw [if_neg e]
      exact tbl_le q n k s (by omega)
theorem nd_lt_self {s w : Nat} (hs : s < 256) (h : s.testBit w = true) : nd s (2 ^ w) < s := by
  have hle : nd s (2 ^ w) ≤ s := Nat.and_le_left
  rcases Nat.lt_or_ge (nd s (2 ^ w)) s with z | z
  · exact z
  · have e : nd s (2 ^ w) = s := by omega
    have := nd_bit (2 ^ w) w hs
    rw [e, h, p2_bit] at this
    simp at this
theorem bestX_congr {q : Nat → Nat → Nat} {n : Nat} {L L2 : Nat → Nat} {init s : Nat} (hs : s < 256) (hL : ∀ r, r < s → L r = L2 r) : ∀ i, bestX q n L init s i = bestX q n L2 init s i
  | 0 => rfl
  | i + 1 => by
    unfold bestX
    rw [bestX_congr hs hL i]
    by_cases h : s.testBit i = true
    · have e : cost q n L i (nd s (2 ^ i)) = cost q n L2 i (nd s (2 ^ i)) := by
        unfold cost
        rw [hL _ (nd_lt_self hs h)]
      rw [e]
    · rw [if_neg h, if_neg h]
theorem ls_0 (q : Nat → Nat → Nat) (n : Nat) : ls q n 0 = 0 := rfl
theorem ls_s (q : Nat → Nat → Nat) (n : Nat) {s : Nat} (h0 : 0 < s) (hs : s < 256) : ls q n s = bestX q n (ls q n) 1000000 s n := by
  obtain ⟨k, rfl⟩ : ∃ k, s = k + 1 := ⟨s - 1, by omega⟩
  show (if k + 1 = k + 1 then bestX q n (tbl q n k) 1000000 (k + 1) n else _) = _
  rw [if_pos rfl]
  exact bestX_congr hs (fun r hr => tbl_le q n k r (by omega)) n
/-- the best is no more than any, and is one of them -/
theorem bestX_min {q : Nat → Nat → Nat} {n : Nat} {L : Nat → Nat} {init s : Nat} : ∀ i, (∀ w, w < i → s.testBit w = true → bestX q n L init s i ≤ cost q n L w (nd s (2 ^ w))) ∧ bestX q n L init s i ≤ init ∧ (bestX q n L init s i = init ∨ ∃ w, w < i ∧ s.testBit w = true ∧ bestX q n L init s i = cost q n L w (nd s (2 ^ w)))
  | 0 => ⟨fun w h => absurd h (by omega), Nat.le_refl _, Or.inl rfl⟩
  | i + 1 => by
    obtain ⟨h1, h2, h3⟩ := bestX_min (q := q) (n := n) (L := L) (init := init) (s := s) i
    unfold bestX
    by_cases hb : s.testBit i = true
    · rw [if_pos hb]
      by_cases hc : cost q n L i (nd s (2 ^ i)) < bestX q n L init s i
      · rw [if_pos hc]
        refine ⟨fun w hw ht => ?_, by omega, Or.inr ⟨i, by omega, hb, rfl⟩⟩
        by_cases e : w = i
        · subst e; exact Nat.le_refl _
        · have := h1 w (by omega) ht; omega
      · rw [if_neg hc]
        refine ⟨fun w hw ht => ?_, h2, ?_⟩
        · by_cases e : w = i
          · subst e; omega
          · exact h1 w (by omega) ht
        · rcases h3 with h3 | ⟨w, a, b, c⟩
          · exact Or.inl h3
          · exact Or.inr ⟨w, by omega, b, c⟩
    · rw [if_neg hb]
      refine ⟨fun w hw ht => ?_, h2, ?_⟩
      · by_cases e : w = i
        · subst e; exact absurd ht hb
        · exact h1 w (by omega) ht
      · rcases h3 with h3 | ⟨w, a, b, c⟩
        · exact Or.inl h3
        · exact Or.inr ⟨w, by omega, b, c⟩
theorem bestX_init {q : Nat → Nat → Nat} {n : Nat} {L : Nat → Nat} {a b s : Nat} {i w : Nat} (hw : w < i) (ht : s.testBit w = true) (ha : cost q n L w (nd s (2 ^ w)) < a) (hb : cost q n L w (nd s (2 ^ w)) < b) : bestX q n L a s i = bestX q n L b s i := by
  obtain ⟨a1, a2, a3⟩ := bestX_min (q := q) (n := n) (L := L) (init := a) (s := s) i
  obtain ⟨b1, b2, b3⟩ := bestX_min (q := q) (n := n) (L := L) (init := b) (s := s) i
  have ca := a1 w hw ht
  have cb := b1 w hw ht
  rcases a3 with a3 | ⟨wa, x1, x2, x3⟩
  · omega
  · rcases b3 with b3 | ⟨wb, y1, y2, y3⟩
    · omega
    · have := b1 wa x1 x2
      have := a1 wb y1 y2
      omega
theorem some_bit {n s : Nat} (h0 : 0 < s) (hs : s < 2 ^ n) : ∃ w, w < n ∧ s.testBit w = true := by
  obtain ⟨w, hw⟩ := Nat.exists_testBit_of_ne_zero (show s ≠ 0 by omega)
  refine ⟨w, ?_, hw⟩
  rcases Nat.lt_or_ge w n with z | z
  · exact z
  · have : s < 2 ^ w := Nat.lt_of_lt_of_le hs (Nat.pow_le_pow_right (by decide) z)
    rw [Nat.testBit_lt_two_pow this] at hw
    cases hw
theorem pow8 {n : Nat} (h : n ≤ 8) : 2 ^ n ≤ 256 := Nat.pow_le_pow_right (n := 2) (by decide) h
theorem ls_bound {q : Nat → Nat → Nat} {n : Nat} (hq : ∀ a b, q a b ≤ 8) (hn : n ≤ 8) : ∀ s, s < 2 ^ n → ls q n s ≤ 64 * s := by
  intro s
  induction s using Nat.strongRecOn with
  | _ s ih =>
    intro hs
    rcases Nat.eq_zero_or_pos s with z | z
    · subst z; exact Nat.zero_le _
    · have h256 : s < 256 := Nat.lt_of_lt_of_le hs (pow8 hn)
      obtain ⟨w, hw, ht⟩ := some_bit z hs
      rw [ls_s q n z h256]
      have h1 := (bestX_min (q := q) (n := n) (L := ls q n) (init := 1000000) (s := s) n).1 w hw ht
      have h2 := nd_lt_self h256 ht
      have h3 := ih _ h2 (by omega)
      have h4 : csum (q w) (nd s (2 ^ w)) n ≤ 8 * n := csum_le (hq w) _ _
      unfold cost at h1
      omega
theorem cost_bound {q : Nat → Nat → Nat} {n : Nat} (hq : ∀ a b, q a b ≤ 8) (hn : n ≤ 8) {w r : Nat} (hr : r < 2 ^ n) : cost q n (ls q n) w r ≤ 64 + 64 * 255 := by
  have h1 : csum (q w) r n ≤ 8 * n := csum_le (hq w) _ _
  have h2 := ls_bound hq hn r hr
  have h3 := pow8 hn
  unfold cost
  omega
/-- the least work that can stand ahead of a set's others -/
def ahB (q : Nat → Nat → Nat) (n s w : Nat) : Bool := s.testBit w && decide (cost q n (ls q n) w (nd s (2 ^ w)) = ls q n s)
def fstW (pr : Nat → Bool) : Nat → Nat
  | 0 => 0
  | k + 1 => if (List.range k).any pr then fstW pr k else if pr k then k else 0
theorem any_range {pr : Nat → Bool} {k : Nat} : (List.range k).any pr = true ↔ ∃ w, w < k ∧ pr w = true := by
  rw [List.any_eq_true]
  constructor
  · rintro ⟨w, h1, h2⟩
    exact ⟨w, List.mem_range.mp h1, h2⟩
  · rintro ⟨w, h1, h2⟩
    exact ⟨w, List.mem_range.mpr h1, h2⟩
theorem fstW_spec {pr : Nat → Bool} : ∀ {k : Nat}, (∃ w, w < k ∧ pr w = true) → fstW pr k < k ∧ pr (fstW pr k) = true ∧ ∀ v, v < fstW pr k → pr v = false
  | 0, h => by obtain ⟨w, h, -⟩ := h; omega
  | k + 1, h => by
    unfold fstW
    by_cases c : (List.range k).any pr = true
    · rw [if_pos c]
      obtain ⟨h1, h2, h3⟩ := fstW_spec (any_range.mp c)
      exact ⟨by omega, h2, h3⟩
    · rw [if_neg c]
      have none : ∀ v, v < k → pr v = false := fun v hv => by
        cases e : pr v with
        | false => rfl
        | true => exact absurd (any_range.mpr ⟨v, hv, e⟩) c
      obtain ⟨w, hw, hp⟩ := h
      have e : w = k := by
        rcases Nat.lt_or_ge w k with z | z
        · rw [none w z] at hp; cases hp
        · omega
      subst e
      rw [if_pos hp]
      exact ⟨by omega, hp, none⟩
def bw (q : Nat → Nat → Nat) (n s : Nat) : Nat := fstW (ahB q n s) n
theorem bw_spec {q : Nat → Nat → Nat} {n : Nat} (hq : ∀ a b, q a b ≤ 8) (hn : n ≤ 8) {s : Nat} (h0 : 0 < s) (hs : s < 2 ^ n) : bw q n s < n ∧ s.testBit (bw q n s) = true ∧ cost q n (ls q n) (bw q n s) (nd s (2 ^ bw q n s)) = ls q n s ∧ ∀ v, v < bw q n s → ahB q n s v = false := by
  have h256 : s < 256 := Nat.lt_of_lt_of_le hs (pow8 hn)
  have ex : ∃ w, w < n ∧ ahB q n s w = true := by
    obtain ⟨w, hw, ht⟩ := some_bit h0 hs
    obtain ⟨b1, b2, b3⟩ := bestX_min (q := q) (n := n) (L := ls q n) (init := 1000000) (s := s) n
    rw [← ls_s q n h0 h256] at b1 b2 b3
    have c1 := b1 w hw ht
    have c2 := cost_bound hq hn (w := w) (r := nd s (2 ^ w)) (Nat.lt_trans (nd_lt_self h256 ht) hs)
    rcases b3 with b3 | ⟨v, x1, x2, x3⟩
    · omega
    · refine ⟨v, x1, ?_⟩
      unfold ahB
      rw [x2, x3]
      simp
  obtain ⟨h1, h2, h3⟩ := fstW_spec ex
  unfold ahB at h2
  simp only [Bool.and_eq_true, decide_eq_true_eq] at h2
  exact ⟨h1, h2.1, h2.2, h3⟩
/-- what is left behind i places -/
def rst (q : Nat → Nat → Nat) (n : Nat) : Nat → Nat
  | 0 => 2 ^ n - 1
  | i + 1 => nd (rst q n i) (2 ^ bw q n (rst q n i))
def rowS (q : Nat → Nat → Nat) (n i : Nat) : Nat := bw q n (rst q n i)
theorem rst_lt {q : Nat → Nat → Nat} {n : Nat} : ∀ i, rst q n i < 2 ^ n
  | 0 => by have := p2_pos n; show 2 ^ n - 1 < 2 ^ n; omega
  | i + 1 => Nat.lt_of_le_of_lt Nat.and_le_left (rst_lt i)
theorem full_csum (f : Nat → Nat) {n : Nat} : ∀ i, i ≤ n → csum f (2 ^ n - 1) i = csum f (2 ^ n - 1) i := fun _ _ => rfl
def lsum (f : Nat → Nat) : Nat → Nat
  | 0 => 0
  | i + 1 => lsum f i + f i
theorem csum_full {f : Nat → Nat} {n : Nat} : ∀ i, i ≤ n → csum f (2 ^ n - 1) i = lsum f i
  | 0, _ => rfl
  | i + 1, h => by
    unfold csum lsum
    rw [csum_full i (by omega), full_bit]
    simp [show i < n by omega]
theorem csum_pos {s n : Nat} (hs : s < 2 ^ n) : 0 < s ↔ 0 < csum (fun _ => 1) s n := by
  constructor
  · intro h0
    obtain ⟨w, hw, ht⟩ := some_bit h0 hs
    have key : ∀ i, w < i → 0 < csum (fun _ => 1) s i := by
      intro i
      induction i with
      | zero => intro h; omega
      | succ i ih =>
        intro h
        unfold csum
        by_cases e : w = i
        · subst e; rw [if_pos ht]; omega
        · have := ih (by omega); omega
    exact key n hw
  · intro h
    rcases Nat.eq_zero_or_pos s with z | z
    · rw [z, csum_0] at h; omega
    · exact z
theorem lsum_one : ∀ n, lsum (fun _ => 1) n = n
  | 0 => rfl
  | n + 1 => by unfold lsum; rw [lsum_one n]
section ORD
variable {q : Nat → Nat → Nat} {n : Nat}
theorem rst_card (hq : ∀ a b, q a b ≤ 8) (hn : n ≤ 8) : ∀ i, i ≤ n → csum (fun _ => 1) (rst q n i) n = n - i
  | 0, _ => by
    show csum _ (2 ^ n - 1) n = _
    rw [csum_full n (Nat.le_refl n), lsum_one]
    omega
  | i + 1, h => by
    have ih := rst_card hq hn i (by omega)
    have hpos : 0 < rst q n i := (csum_pos (rst_lt i)).mpr (by omega)
    have h256 : rst q n i < 256 := Nat.lt_of_lt_of_le (rst_lt i) (pow8 hn)
    obtain ⟨b1, b2, -, -⟩ := bw_spec hq hn hpos (rst_lt i)
    have := csum_nd (f := fun _ => 1) (s := rst q n i) (w := bw q n (rst q n i)) h256 (i := n)
    rw [if_pos ⟨b2, b1⟩, ih] at this
    show csum _ (nd _ _) n = _
    omega
theorem rst_pos (hq : ∀ a b, q a b ≤ 8) (hn : n ≤ 8) {i : Nat} (h : i < n) : 0 < rst q n i := (csum_pos (rst_lt i)).mpr (by rw [rst_card hq hn i (by omega)]; omega)
theorem rst_n (hq : ∀ a b, q a b ≤ 8) (hn : n ≤ 8) : rst q n n = 0 := by
  rcases Nat.eq_zero_or_pos (rst q n n) with z | z
  · exact z
  · have := (csum_pos (rst_lt n)).mp z
    rw [rst_card hq hn n (Nat.le_refl n)] at this
    omega
theorem rowS_lt (hq : ∀ a b, q a b ≤ 8) (hn : n ≤ 8) {i : Nat} (h : i < n) : rowS q n i < n := (bw_spec hq hn (rst_pos hq hn h) (rst_lt i)).1
/-- a sum over all works is one over the row -/
theorem row_sum (hq : ∀ a b, q a b ≤ 8) (hn : n ≤ 8) (f : Nat → Nat) : ∀ k, k ≤ n → lsum f n = lsum (fun i => f (rowS q n i)) k + csum f (rst q n k) n
  | 0, _ => by
    show _ = 0 + csum f (2 ^ n - 1) n
    rw [csum_full n (Nat.le_refl n)]
    omega
  | k + 1, h => by
    have ih := row_sum hq hn f k (by omega)
    have h256 : rst q n k < 256 := Nat.lt_of_lt_of_le (rst_lt k) (pow8 hn)
    obtain ⟨b1, b2, -, -⟩ := bw_spec hq hn (rst_pos hq hn (show k < n by omega)) (rst_lt k)
    have := csum_nd (f := f) (s := rst q n k) (w := bw q n (rst q n k)) h256 (i := n)
    rw [if_pos ⟨b2, b1⟩] at this
    show _ = lsum _ k + f (rowS q n k) + csum f (nd _ _) n
    unfold rowS at ih ⊢
    omega
theorem row_sums (hq : ∀ a b, q a b ≤ 8) (hn : n ≤ 8) (f : Nat → Nat) : lsum f n = lsum (fun i => f (rowS q n i)) n := by
  have := row_sum hq hn f n (Nat.le_refl n)
  rw [rst_n hq hn, csum_0] at this
  omega
/-- where a work stands in what is left -/
theorem rst_bit (hq : ∀ a b, q a b ≤ 8) (hn : n ≤ 8) : ∀ i, i ≤ n → ∀ w, w < n → ((rst q n i).testBit w = true ↔ ∀ j, j < i → rowS q n j ≠ w)
  | 0, _, w, hw => by
    show (2 ^ n - 1).testBit w = true ↔ _
    rw [full_bit]
    simp [hw]
  | i + 1, h, w, hw => by
    have ih := rst_bit hq hn i (by omega) w hw
    have h256 : rst q n i < 256 := Nat.lt_of_lt_of_le (rst_lt i) (pow8 hn)
    show (nd _ _).testBit w = true ↔ _
    rw [nd_bit _ _ h256, p2_bit]
    constructor
    · intro z j hj
      simp only [Bool.and_eq_true, Bool.not_eq_true', decide_eq_false_iff_not] at z
      by_cases e : j = i
      · subst e; exact z.2
      · exact ih.mp z.1 j (by omega)
    · intro z
      simp only [Bool.and_eq_true, Bool.not_eq_true', decide_eq_false_iff_not]
      exact ⟨ih.mpr (fun j hj => z j (by omega)), z i (by omega)⟩
theorem row_onto (hq : ∀ a b, q a b ≤ 8) (hn : n ≤ 8) {w : Nat} (hw : w < n) : ∃ j, j < n ∧ rowS q n j = w := by
  have h := rst_bit hq hn n (Nat.le_refl n) w hw
  rw [rst_n hq hn] at h
  simp only [Nat.zero_testBit, Bool.false_eq_true, false_iff] at h
  apply Classical.byContradiction
  intro z
  exact h (fun j hj e => z ⟨j, hj, e⟩)
theorem row_inj (hq : ∀ a b, q a b ≤ 8) (hn : n ≤ 8) {i j : Nat} (hi : i < n) (hj : j < n) (e : rowS q n i = rowS q n j) : i = j := by
  have key : ∀ a b, a < b → b < n → rowS q n a ≠ rowS q n b := by
    intro a b hab hb
    obtain ⟨-, b2, -, -⟩ := bw_spec hq hn (rst_pos hq hn hb) (rst_lt b)
    exact (rst_bit hq hn b (by omega) (rowS q n b) (rowS_lt hq hn hb)).mp b2 a hab
  rcases Nat.lt_trichotomy i j with z | z | z
  · exact absurd e (key i j z hj)
  · exact z
  · exact absurd e.symm (key j i z hi)
end ORD
