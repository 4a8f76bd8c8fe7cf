/-- sums over 0 .. n-1 -/
def cn_sum (f : Nat → Int) : Nat → Int
  | 0 => 0
  | n + 1 => cn_sum f n + f n

theorem cn_sum_s (f : Nat → Int) (n : Nat) : cn_sum f (n + 1) = cn_sum f n + f n := rfl

theorem cn_sum_congr {f g : Nat → Int} {n : Nat} (h : ∀ i, i < n → f i = g i) : cn_sum f n = cn_sum g n := by
  induction n with
  | zero => rfl
  | succ n ih => rw [cn_sum_s, cn_sum_s, ih (fun i hi => h i (by omega)), h n (by omega)]

theorem cn_sum_add (f g : Nat → Int) (n : Nat) : cn_sum (fun i => f i + g i) n = cn_sum f n + cn_sum g n := by
  induction n with
  | zero => rfl
  | succ n ih => rw [cn_sum_s, cn_sum_s, cn_sum_s, ih]; omega

theorem cn_sum_sub (f g : Nat → Int) (n : Nat) : cn_sum (fun i => f i - g i) n = cn_sum f n - cn_sum g n := by
  induction n with
  | zero => rfl
  | succ n ih => rw [cn_sum_s, cn_sum_s, cn_sum_s, ih]; omega

theorem cn_sum_neg (f : Nat → Int) (n : Nat) : cn_sum (fun i => - f i) n = - cn_sum f n := by
  induction n with
  | zero => rfl
  | succ n ih => rw [cn_sum_s, cn_sum_s, ih]; omega

theorem cn_sum_mul (c : Int) (f : Nat → Int) (n : Nat) : cn_sum (fun i => c * f i) n = c * cn_sum f n := by
  induction n with
  | zero => exact (Int.mul_zero c).symm
  | succ n ih => rw [cn_sum_s, cn_sum_s, ih, Int.mul_add]

theorem cn_sum_0 (n : Nat) : cn_sum (fun _ => 0) n = 0 := by
  induction n with
  | zero => rfl
  | succ n ih => rw [cn_sum_s, ih]; rfl

theorem cn_sum_le {f g : Nat → Int} {n : Nat} (h : ∀ i, i < n → f i ≤ g i) : cn_sum f n ≤ cn_sum g n := by
  induction n with
  | zero => exact Int.le_refl _
  | succ n ih =>
    rw [cn_sum_s, cn_sum_s]
    have a := ih (fun i hi => h i (by omega))
    have b := h n (by omega)
    omega

theorem cn_sum_nn {f : Nat → Int} {n : Nat} (h : ∀ i, i < n → 0 ≤ f i) : 0 ≤ cn_sum f n := by
  have a := cn_sum_le (f := fun _ => 0) (g := f) (n := n) h
  rw [cn_sum_0] at a
  exact a

theorem cn_sum_ub {f : Nat → Int} {n : Nat} {b : Int} (h : ∀ i, i < n → f i ≤ b) : cn_sum f n ≤ b * n := by
  induction n with
  | zero => show (0 : Int) ≤ b * 0; omega
  | succ n ih =>
    rw [cn_sum_s]
    have a := ih (fun i hi => h i (by omega))
    have c := h n (by omega)
    have e : b * ((n + 1 : Nat) : Int) = b * (n : Int) + b := by rw [Int.natCast_add, Int.mul_add]; simp
    omega

theorem cn_sum_swap (f : Nat → Nat → Int) (m n : Nat) :
    cn_sum (fun i => cn_sum (fun j => f i j) n) m = cn_sum (fun j => cn_sum (fun i => f i j) m) n := by
  induction m with
  | zero => exact (cn_sum_0 n).symm
  | succ m ih =>
    rw [cn_sum_s, ih, ← cn_sum_add]
    exact cn_sum_congr (fun j _ => rfl)

theorem cn_sum_split (f : Nat → Int) (a b : Nat) : cn_sum f (a + b) = cn_sum f a + cn_sum (fun i => f (a + i)) b := by
  induction b with
  | zero => show cn_sum f a = cn_sum f a + 0; omega
  | succ b ih =>
    rw [← Nat.add_assoc, cn_sum_s, cn_sum_s, ih]
    omega

/-- one place of a function anew -/
def cn_up (f : Nat → Int) (k : Nat) (x : Int) : Nat → Int := fun j => if j = k then x else f j
theorem cn_up_s {f : Nat → Int} {k : Nat} {x : Int} : cn_up f k x k = x := if_pos rfl
theorem cn_up_n {f : Nat → Int} {k j : Nat} {x : Int} (h : j ≠ k) : cn_up f k x j = f j := if_neg h
def cn_un (f : Nat → Nat) (k x : Nat) : Nat → Nat := fun j => if j = k then x else f j
theorem cn_un_s {f : Nat → Nat} {k x : Nat} : cn_un f k x k = x := if_pos rfl
theorem cn_un_n {f : Nat → Nat} {k j x : Nat} (h : j ≠ k) : cn_un f k x j = f j := if_neg h

theorem cn_sum_up_o (f : Nat → Int) {k n : Nat} (x : Int) (h : n ≤ k) : cn_sum (cn_up f k x) n = cn_sum f n :=
  cn_sum_congr (fun i hi => cn_up_n (by omega))

theorem cn_sum_up (f : Nat → Int) {k n : Nat} (x : Int) (h : k < n) : cn_sum (cn_up f k x) n = cn_sum f n + (x - f k) := by
  induction n with
  | zero => omega
  | succ n ih =>
    rw [cn_sum_s, cn_sum_s]
    by_cases e : k = n
    · subst e
      rw [cn_sum_up_o f x (Nat.le_refl _), cn_up_s]; omega
    · rw [ih (by omega), cn_up_n (by omega)]; omega

/-- a sum above 0 has a place above 0 -/
theorem cn_sum_ex {f : Nat → Int} {n : Nat} (h : 0 < cn_sum f n) : ∃ i, i < n ∧ 0 < f i := by
  induction n with
  | zero => exact absurd h (by show ¬ (0 : Int) < 0; omega)
  | succ n ih =>
    rw [cn_sum_s] at h
    by_cases e : 0 < f n
    · exact ⟨n, by omega, e⟩
    · obtain ⟨i, hi, p⟩ := ih (by omega)
      exact ⟨i, by omega, p⟩

/-- nowhere below 0, and the sum is 0: 0 everywhere -/
theorem cn_sum_z {f : Nat → Int} {n : Nat} (h : ∀ i, i < n → 0 ≤ f i) (e : cn_sum f n ≤ 0) : ∀ i, i < n → f i = 0 := by
  induction n with
  | zero => intro i hi; omega
  | succ n ih =>
    rw [cn_sum_s] at e
    have a := cn_sum_nn (f := f) (n := n) (fun i hi => h i (by omega))
    have b := h n (by omega)
    intro i hi
    by_cases q : i = n
    · subst q; omega
    · exact ih (fun i hi => h i (by omega)) (by omega) i (by omega)

/-- how many places hold -/
def cn_cnt (P : Nat → Bool) : Nat → Nat
  | 0 => 0
  | n + 1 => cn_cnt P n + (if P n then 1 else 0)
theorem cn_cnt_s (P : Nat → Bool) (n : Nat) : cn_cnt P (n + 1) = cn_cnt P n + (if P n then 1 else 0) := rfl

theorem cn_cnt_le (P : Nat → Bool) (n : Nat) : cn_cnt P n ≤ n := by
  induction n with
  | zero => exact Nat.le_refl _
  | succ n ih => rw [cn_cnt_s]; split <;> omega

theorem cn_cnt_1 {P : Nat → Bool} {u n : Nat} (hu : u < n) (h : P u = false) : cn_cnt P n + 1 ≤ n := by
  induction n with
  | zero => omega
  | succ n ih =>
    rw [cn_cnt_s]
    by_cases e : u = n
    · subst e
      have a := cn_cnt_le P u
      rw [h]; simp; omega
    · have a := ih (by omega)
      split <;> omega

theorem cn_cnt_2 {P : Nat → Bool} {u v n : Nat} (hu : u < n) (hv : v < n) (huv : u ≠ v) (h : P u = false) (h' : P v = false) : cn_cnt P n + 2 ≤ n := by
  induction n with
  | zero => omega
  | succ n ih =>
    rw [cn_cnt_s]
    by_cases e : u = n
    · subst e
      have a := cn_cnt_1 (P := P) (u := v) (n := u) (by omega) h'
      rw [h]; simp; omega
    · by_cases e' : v = n
      · subst e'
        have a := cn_cnt_1 (P := P) (u := u) (n := v) (by omega) h
        rw [h']; simp; omega
      · have a := ih (by omega) (by omega)
        split <;> omega

theorem cn_cnt_mono {P Q : Nat → Bool} {n : Nat} (h : ∀ i, i < n → P i = true → Q i = true) : cn_cnt P n ≤ cn_cnt Q n := by
  induction n with
  | zero => exact Nat.le_refl _
  | succ n ih =>
    rw [cn_cnt_s, cn_cnt_s]
    have a := ih (fun i hi => h i (by omega))
    have b := h n (by omega)
    by_cases e : P n = true
    · rw [if_pos e, if_pos (b e)]; omega
    · rw [if_neg e]; omega

theorem cn_cnt_lt {P Q : Nat → Bool} {w n : Nat} (h : ∀ i, i < n → P i = true → Q i = true) (hw : w < n) (hP : P w = false) (hQ : Q w = true) : cn_cnt P n < cn_cnt Q n := by
  induction n with
  | zero => omega
  | succ n ih =>
    rw [cn_cnt_s, cn_cnt_s]
    by_cases e : w = n
    · subst e
      have a := cn_cnt_mono (P := P) (Q := Q) (n := w) (fun i hi => h i (by omega))
      rw [hP, hQ]; simp; omega
    · have a := ih (fun i hi => h i (by omega)) (by omega)
      have b := h n (by omega)
      by_cases e2 : P n = true
      · rw [if_pos e2, if_pos (b e2)]; omega
      · rw [if_neg e2]; omega
