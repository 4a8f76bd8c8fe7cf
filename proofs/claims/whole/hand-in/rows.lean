section
theorem pk_us {f : Nat → Int32} {k : Nat} {x : Int32} : upd f k x k = x := if_pos rfl
theorem pk_un {f : Nat → Int32} {k j : Nat} {x : Int32} (h : j ≠ k) : upd f k x j = f j := if_neg h
theorem pk_sub {a b : Nat} (h : b ≤ a) : nI a - nI b = nI (a - b) := by
  obtain ⟨c, rfl⟩ : ∃ c, a = c + b := ⟨a - b, by omega⟩
  rw [← nI_add, Int32.add_sub_cancel, Nat.add_sub_cancel]
theorem pk_mul (a b : Nat) : nI a * nI b = nI (a * b) := (Int32.ofNat_mul a b).symm
theorem pk_div {a d : Nat} (ha : a < 2 ^ 31) (h0 : 0 < d) (hd : d < 2 ^ 31) : nI a / nI d = nI (a / d) := by
  apply Int32.toInt_inj.mp
  rw [lg_idiv_nonneg (by rw [nI_toInt ha]; omega) (by rw [nI_toInt hd]; omega), nI_toInt ha, nI_toInt hd, nI_toInt (Nat.lt_of_le_of_lt (Nat.div_le_self a d) ha)]
  first | rfl | exact (Int.natCast_ediv _ _).symm
theorem pk_rem {a d : Nat} (ha : a < 2 ^ 31) (h0 : 0 < d) (hd : d < 2 ^ 31) : nI a - nI a / nI d * nI d = nI (a % d) := by
  rw [pk_div ha h0 hd, pk_mul, pk_sub (Nat.div_mul_le_self a d)]
  exact congrArg nI (by have := Nat.div_add_mod' a d; omega)
theorem pk_ix (x : Int32) {n : Nat} (hn : n < 2 ^ 31) : x < 0 ∨ nI n ≤ x ∨ ∃ j : Nat, j < n ∧ x = nI j := by
  by_cases h : x < 0
  · exact Or.inl h
  · obtain ⟨j, hj, rfl⟩ := nI_of h
    by_cases h2 : j < n
    · exact Or.inr (Or.inr ⟨j, h2, rfl⟩)
    · exact Or.inr (Or.inl (nI_le (by omega) hj))
theorem pk_le {x y : Int32} {A B : Prop} (a b : Nat) (f : a ≤ b → A) (g : b < a → B) (hx : x = nI a := by rfl) (hy : y = nI b := by rfl) (ha : a < 2 ^ 31 := by omega) (hb : b < 2 ^ 31 := by omega) : (x ≤ y → A) ∧ (¬ x ≤ y → B) := by
  subst hx hy
  rw [nI_leI ha hb]
  exact ⟨f, fun z => g (by omega)⟩
theorem pk_lt {x y : Int32} {A B : Prop} (a b : Nat) (f : a < b → A) (g : b ≤ a → B) (hx : x = nI a := by rfl) (hy : y = nI b := by rfl) (ha : a < 2 ^ 31 := by omega) (hb : b < 2 ^ 31 := by omega) : (x < y → A) ∧ (¬ x < y → B) := by
  subst hx hy
  rw [nI_ltI ha hb]
  exact ⟨f, fun z => g (by omega)⟩
theorem pk_eq {x y : Int32} {A B : Prop} (a b : Nat) (f : a = b → A) (g : a ≠ b → B) (hx : x = nI a := by rfl) (hy : y = nI b := by rfl) (ha : a < 2 ^ 31 := by omega) (hb : b < 2 ^ 31 := by omega) : (x = y → A) ∧ (¬ x = y → B) := by
  subst hx hy
  rw [nI_eq ha hb]
  exact ⟨f, g⟩
theorem pk_in {x : Int32} (n N : Nat) (h : n < N) (hx : x = nI n := by rfl) (hN : N < 2 ^ 31 := by omega) : vp_in x N := by
  subst hx
  exact vp_in_nI h hN
theorem pk_cl {x : Int32} (n : Nat) (hx : x = nI n := by rfl) (h : n < 2 ^ 31 := by omega) : x.toNatClampNeg = n := by
  subst hx
  exact nI_clamp h
theorem pk_tn {n : Nat} (h : n < 2 ^ 32) : (nI n).toBitVec.toNat = n := Nat.mod_eq_of_lt h
theorem pk_and (x : Int32) {m : Int32} (k : Nat) (hm : m.toBitVec.toNat = 2 ^ k - 1) : x &&& m = nI (x.toBitVec.toNat % 2 ^ k) := by
  apply Int32.toBitVec_inj.mp
  apply BitVec.eq_of_toNat_eq
  rw [Int32.toBitVec_and, BitVec.toNat_and, hm, Nat.and_two_pow_sub_one_eq_mod]
  show _ = (BitVec.ofNat 32 _).toNat
  rw [BitVec.toNat_ofNat]
  exact (Nat.mod_eq_of_lt (Nat.lt_of_le_of_lt (Nat.mod_le _ _) x.toBitVec.isLt)).symm
theorem pk_andN {n : Nat} (h : n < 2 ^ 32) {m : Int32} (k : Nat) (hm : m.toBitVec.toNat = 2 ^ k - 1) : nI n &&& m = nI (n % 2 ^ k) := by
  rw [pk_and _ k hm, pk_tn h]
theorem pk_shl (a s : Int32) (k : Nat) (hs : (s.toBitVec.smod 32).toNat = k) : (a <<< s).toBitVec.toNat = a.toBitVec.toNat * 2 ^ k % 2 ^ 32 := by
  show (a.toBitVec <<< (s.toBitVec.smod 32).toNat).toNat = _
  rw [hs, BitVec.toNat_shiftLeft, Nat.shiftLeft_eq]
theorem pk_shlN {n : Nat} (s : Int32) (k : Nat) (hs : (s.toBitVec.smod 32).toNat = k) (h : n * 2 ^ k < 2 ^ 32) : nI n <<< s = nI (n * 2 ^ k) := by
  apply Int32.toBitVec_inj.mp
  apply BitVec.eq_of_toNat_eq
  have hn : n < 2 ^ 32 := Nat.lt_of_le_of_lt (Nat.le_mul_of_pos_right n (Nat.two_pow_pos k)) h
  rw [pk_shl _ _ k hs, pk_tn hn, pk_tn h, Nat.mod_eq_of_lt h]
theorem pk_shr (a s : Int32) (k : Nat) (hs : (s.toBitVec.smod 32).toNat = k) : (a >>> s).toInt = a.toInt >>> k := by
  show (a.toBitVec.sshiftRight (s.toBitVec.smod 32).toNat).toInt = _
  rw [hs, BitVec.toInt_sshiftRight]
  rfl
theorem pk_shrN {n : Nat} (h : n < 2 ^ 31) (s : Int32) (k : Nat) (hs : (s.toBitVec.smod 32).toNat = k) : nI n >>> s = nI (n / 2 ^ k) := by
  apply Int32.toInt_inj.mp
  have h2 : n / 2 ^ k ≤ n := Nat.div_le_self _ _
  rw [pk_shr _ _ k hs, nI_toInt h, nI_toInt (by omega), Int.shiftRight_eq_div_pow]
  rfl
theorem pk_loop {σ : Type} (W : Nat → Nat → σ → Prop) (I : Nat → σ → Prop) (e i0 : Nat) (s : σ) (hi : i0 ≤ e) (h0 : I i0 s) (hx : ∀ n s, I e s → W (n + 1) e s)
    (hs : ∀ n i s, i < e → I i s → (∀ s', I (i + 1) s' → W n (i + 1) s') → W (n + 1) i s) : ∃ n, W n i0 s :=
  ⟨e + 1, loop_i W I e hx hs (e + 1) i0 s hi (by omega) h0⟩
theorem pk_least (P : Nat → Prop) (h : ∃ k, P k) : ∃ k, P k ∧ ∀ j, j < k → ¬ P j := by
  obtain ⟨k, hk⟩ := h
  induction k using Nat.strongRecOn with
  | ind k ih =>
    by_cases e : ∃ j, j < k ∧ P j
    · obtain ⟨j, hj, pj⟩ := e
      exact ih j hj pj
    · exact ⟨k, hk, fun j hj pj => e ⟨j, hj, pj⟩⟩
theorem s_l : ∀ n, n < 32 → ((nI n &&& 31).toBitVec.smod 32).toNat = n := by decide +kernel
theorem nx_and (a b : Nat) : nI a &&& nI b = nI (a &&& b) := by
  apply Int32.toBitVec_inj.1
  show BitVec.ofNat 32 a &&& BitVec.ofNat 32 b = BitVec.ofNat 32 (a &&& b)
  apply BitVec.eq_of_getLsbD_eq
  intro i hi
  simp [hi]
end
section
/-- sums over 0 .. n-1 -/
def cn_sum (f : Nat → Int) : Nat → Int
  | 0 => 0
  | n + 1 => cn_sum f n + f n

theorem cn_sum_s (f : Nat → Int) (n : Nat) : cn_sum f (n + 1) = cn_sum f n + f n := rfl

theorem cn_sum_congr {f g : Nat → Int} {n : Nat} (h : ∀ i, i < n → f i = g i) : cn_sum f n = cn_sum g n := by
  induction n with
  | zero => rfl
  | succ n ih => rw [cn_sum_s, cn_sum_s, ih (fun i hi => h i (by omega)), h n (by omega)]

theorem cn_sum_add (f g : Nat → Int) (n : Nat) : cn_sum (fun i => f i + g i) n = cn_sum f n + cn_sum g n := by
  induction n with
  | zero => rfl
  | succ n ih => rw [cn_sum_s, cn_sum_s, cn_sum_s, ih]; omega

theorem cn_sum_sub (f g : Nat → Int) (n : Nat) : cn_sum (fun i => f i - g i) n = cn_sum f n - cn_sum g n := by
  induction n with
  | zero => rfl
  | succ n ih => rw [cn_sum_s, cn_sum_s, cn_sum_s, ih]; omega

theorem cn_sum_neg (f : Nat → Int) (n : Nat) : cn_sum (fun i => - f i) n = - cn_sum f n := by
  induction n with
  | zero => rfl
  | succ n ih => rw [cn_sum_s, cn_sum_s, ih]; omega

theorem cn_sum_mul (c : Int) (f : Nat → Int) (n : Nat) : cn_sum (fun i => c * f i) n = c * cn_sum f n := by
  induction n with
  | zero => exact (Int.mul_zero c).symm
  | succ n ih => rw [cn_sum_s, cn_sum_s, ih, Int.mul_add]

theorem cn_sum_0 (n : Nat) : cn_sum (fun _ => 0) n = 0 := by
  induction n with
  | zero => rfl
  | succ n ih => rw [cn_sum_s, ih]; rfl

theorem cn_sum_le {f g : Nat → Int} {n : Nat} (h : ∀ i, i < n → f i ≤ g i) : cn_sum f n ≤ cn_sum g n := by
  induction n with
  | zero => exact Int.le_refl _
  | succ n ih =>
    rw [cn_sum_s, cn_sum_s]
    have a := ih (fun i hi => h i (by omega))
    have b := h n (by omega)
    omega

theorem cn_sum_nn {f : Nat → Int} {n : Nat} (h : ∀ i, i < n → 0 ≤ f i) : 0 ≤ cn_sum f n := by
  have a := cn_sum_le (f := fun _ => 0) (g := f) (n := n) h
  rw [cn_sum_0] at a
  exact a

theorem cn_sum_ub {f : Nat → Int} {n : Nat} {b : Int} (h : ∀ i, i < n → f i ≤ b) : cn_sum f n ≤ b * n := by
  induction n with
  | zero => show (0 : Int) ≤ b * 0; omega
  | succ n ih =>
    rw [cn_sum_s]
    have a := ih (fun i hi => h i (by omega))
    have c := h n (by omega)
    have e : b * ((n + 1 : Nat) : Int) = b * (n : Int) + b := by rw [Int.natCast_add, Int.mul_add]; simp
    omega

theorem cn_sum_swap (f : Nat → Nat → Int) (m n : Nat) :
    cn_sum (fun i => cn_sum (fun j => f i j) n) m = cn_sum (fun j => cn_sum (fun i => f i j) m) n := by
  induction m with
  | zero => exact (cn_sum_0 n).symm
  | succ m ih =>
    rw [cn_sum_s, ih, ← cn_sum_add]
    exact cn_sum_congr (fun j _ => rfl)

theorem cn_sum_split (f : Nat → Int) (a b : Nat) : cn_sum f (a + b) = cn_sum f a + cn_sum (fun i => f (a + i)) b := by
  induction b with
  | zero => show cn_sum f a = cn_sum f a + 0; omega
  | succ b ih =>
    rw [← Nat.add_assoc, cn_sum_s, cn_sum_s, ih]
    omega

/-- one place of a function anew -/
def cn_up (f : Nat → Int) (k : Nat) (x : Int) : Nat → Int := fun j => if j = k then x else f j
theorem cn_up_s {f : Nat → Int} {k : Nat} {x : Int} : cn_up f k x k = x := if_pos rfl
theorem cn_up_n {f : Nat → Int} {k j : Nat} {x : Int} (h : j ≠ k) : cn_up f k x j = f j := if_neg h
def cn_un (f : Nat → Nat) (k x : Nat) : Nat → Nat := fun j => if j = k then x else f j
theorem cn_un_s {f : Nat → Nat} {k x : Nat} : cn_un f k x k = x := if_pos rfl
theorem cn_un_n {f : Nat → Nat} {k j x : Nat} (h : j ≠ k) : cn_un f k x j = f j := if_neg h

theorem cn_sum_up_o (f : Nat → Int) {k n : Nat} (x : Int) (h : n ≤ k) : cn_sum (cn_up f k x) n = cn_sum f n :=
  cn_sum_congr (fun i hi => cn_up_n (by omega))

theorem cn_sum_up (f : Nat → Int) {k n : Nat} (x : Int) (h : k < n) : cn_sum (cn_up f k x) n = cn_sum f n + (x - f k) := by
  induction n with
  | zero => omega
  | succ n ih =>
    rw [cn_sum_s, cn_sum_s]
    by_cases e : k = n
    · subst e
      rw [cn_sum_up_o f x (Nat.le_refl _), cn_up_s]; omega
    · rw [ih (by omega), cn_up_n (by omega)]; omega

/-- a sum above 0 has a place above 0 -/
theorem cn_sum_ex {f : Nat → Int} {n : Nat} (h : 0 < cn_sum f n) : ∃ i, i < n ∧ 0 < f i := by
  induction n with
  | zero => exact absurd h (by show ¬ (0 : Int) < 0; omega)
  | succ n ih =>
    rw [cn_sum_s] at h
    by_cases e : 0 < f n
    · exact ⟨n, by omega, e⟩
    · obtain ⟨i, hi, p⟩ := ih (by omega)
      exact ⟨i, by omega, p⟩

/-- nowhere below 0, and the sum is 0: 0 everywhere -/
theorem cn_sum_z {f : Nat → Int} {n : Nat} (h : ∀ i, i < n → 0 ≤ f i) (e : cn_sum f n ≤ 0) : ∀ i, i < n → f i = 0 := by
  induction n with
  | zero => intro i hi; omega
  | succ n ih =>
    rw [cn_sum_s] at e
    have a := cn_sum_nn (f := f) (n := n) (fun i hi => h i (by omega))
    have b := h n (by omega)
    intro i hi
    by_cases q : i = n
    · subst q; omega
    · exact ih (fun i hi => h i (by omega)) (by omega) i (by omega)

/-- how many places hold -/
def cn_cnt (P : Nat → Bool) : Nat → Nat
  | 0 => 0
  | n + 1 => cn_cnt P n + (if P n then 1 else 0)
theorem cn_cnt_s (P : Nat → Bool) (n : Nat) : cn_cnt P (n + 1) = cn_cnt P n + (if P n then 1 else 0) := rfl

theorem cn_cnt_le (P : Nat → Bool) (n : Nat) : cn_cnt P n ≤ n := by
  induction n with
  | zero => exact Nat.le_refl _
  | succ n ih => rw [cn_cnt_s]; split <;> omega

theorem cn_cnt_1 {P : Nat → Bool} {u n : Nat} (hu : u < n) (h : P u = false) : cn_cnt P n + 1 ≤ n := by
  induction n with
  | zero => omega
  | succ n ih =>
    rw [cn_cnt_s]
    by_cases e : u = n
    · subst e
      have a := cn_cnt_le P u
      rw [h]; simp; omega
    · have a := ih (by omega)
      split <;> omega

theorem cn_cnt_2 {P : Nat → Bool} {u v n : Nat} (hu : u < n) (hv : v < n) (huv : u ≠ v) (h : P u = false) (h' : P v = false) : cn_cnt P n + 2 ≤ n := by
  induction n with
  | zero => omega
  | succ n ih =>
    rw [cn_cnt_s]
    by_cases e : u = n
    · subst e
      have a := cn_cnt_1 (P := P) (u := v) (n := u) (by omega) h'
      rw [h]; simp; omega
    · by_cases e' : v = n
      · subst e'
        have a := cn_cnt_1 (P := P) (u := u) (n := v) (by omega) h
        rw [h']; simp; omega
      · have a := ih (by omega) (by omega)
        split <;> omega

theorem cn_cnt_mono {P Q : Nat → Bool} {n : Nat} (h : ∀ i, i < n → P i = true → Q i = true) : cn_cnt P n ≤ cn_cnt Q n := by
  induction n with
  | zero => exact Nat.le_refl _
  | succ n ih =>
    rw [cn_cnt_s, cn_cnt_s]
    have a := ih (fun i hi => h i (by omega))
    have b := h n (by omega)
    by_cases e : P n = true
    · rw [if_pos e, if_pos (b e)]; omega
    · rw [if_neg e]; omega

theorem cn_cnt_lt {P Q : Nat → Bool} {w n : Nat} (h : ∀ i, i < n → P i = true → Q i = true) (hw : w < n) (hP : P w = false) (hQ : Q w = true) : cn_cnt P n < cn_cnt Q n := by
  induction n with
  | zero => omega
  | succ n ih =>
    rw [cn_cnt_s, cn_cnt_s]
    by_cases e : w = n
    · subst e
      have a := cn_cnt_mono (P := P) (Q := Q) (n := w) (fun i hi => h i (by omega))
      rw [hP, hQ]; simp; omega
    · have a := ih (fun i hi => h i (by omega)) (by omega)
      have b := h n (by omega)
      by_cases e2 : P n = true
      · rw [if_pos e2, if_pos (b e2)]; omega
      · rw [if_neg e2]; omega
end
section
/-- whole numbers as ints -/
def cn_i (x : Int) : Int32 := Int32.ofInt x
theorem cn_i_add (a b : Int) : cn_i (a + b) = cn_i a + cn_i b := Int32.ofInt_add a b
theorem cn_i_sub (a b : Int) : cn_i (a - b) = cn_i a - cn_i b := Int32.ofInt_sub a b
theorem cn_i_mul (a b : Int) : cn_i (a * b) = cn_i a * cn_i b := Int32.ofInt_mul a b
theorem cn_i_neg (a : Int) : cn_i (-a) = - cn_i a := Int32.ofInt_neg a
theorem cn_i_of (x : Int32) : cn_i x.toInt = x := Int32.ofInt_toInt x
theorem cn_i_n (n : Nat) : cn_i (n : Int) = nI n := Int32.ofInt_eq_ofNat
theorem cn_i_0 : cn_i 0 = 0 := by decide
theorem cn_i_1 : cn_i 1 = 1 := by decide
theorem cn_ti {a : Int} (h : -2147483648 ≤ a) (h' : a < 2147483648) : (cn_i a).toInt = a := Int32.toInt_ofInt_of_le h h'
theorem cn_lo (x : Int32) : -2147483648 ≤ x.toInt := Int32.le_toInt x
theorem cn_hi (x : Int32) : x.toInt < 2147483648 := Int32.toInt_lt x
/-- near 0 -/
def cn_nr (a : Int) : Prop := -2147483648 ≤ a ∧ a ≤ 2147483647
theorem cn_le {a b : Int} (ha : cn_nr a) (hb : cn_nr b) : cn_i a ≤ cn_i b ↔ a ≤ b := by
  unfold cn_nr at ha hb
  rw [Int32.le_iff_toInt_le, cn_ti (by omega) (by omega), cn_ti (by omega) (by omega)]
theorem cn_lt {a b : Int} (ha : cn_nr a) (hb : cn_nr b) : cn_i a < cn_i b ↔ a < b := by
  unfold cn_nr at ha hb
  rw [Int32.lt_iff_toInt_lt, cn_ti (by omega) (by omega), cn_ti (by omega) (by omega)]
theorem cn_eq {a b : Int} (ha : cn_nr a) (hb : cn_nr b) : cn_i a = cn_i b ↔ a = b := by
  unfold cn_nr at ha hb
  rw [← Int32.toInt_inj, cn_ti (by omega) (by omega), cn_ti (by omega) (by omega)]
/-- branches by whole numbers -/
theorem cn_ble {x y : Int32} {A B : Prop} (a b : Int) (hx : x = cn_i a) (hy : y = cn_i b) (ha : cn_nr a) (hb : cn_nr b) (f : a ≤ b → A) (g : b < a → B) : (x ≤ y → A) ∧ (¬ x ≤ y → B) := by
  subst hx hy
  rw [cn_le ha hb]
  exact ⟨f, fun z => g (by omega)⟩
theorem cn_blt {x y : Int32} {A B : Prop} (a b : Int) (hx : x = cn_i a) (hy : y = cn_i b) (ha : cn_nr a) (hb : cn_nr b) (f : a < b → A) (g : b ≤ a → B) : (x < y → A) ∧ (¬ x < y → B) := by
  subst hx hy
  rw [cn_lt ha hb]
  exact ⟨f, fun z => g (by omega)⟩
theorem cn_beq {x y : Int32} {A B : Prop} (a b : Int) (hx : x = cn_i a) (hy : y = cn_i b) (ha : cn_nr a) (hb : cn_nr b) (f : a = b → A) (g : a ≠ b → B) : (x = y → A) ∧ (¬ x = y → B) := by
  subst hx hy
  rw [cn_eq ha hb]
  exact ⟨f, g⟩
theorem cn_n0 : cn_nr 0 := by unfold cn_nr; omega
/-- an array's contents as whole numbers -/
def cn_I (a : Nat → Int32) : Nat → Int := fun j => (a j).toInt
theorem cn_I_of (a : Nat → Int32) (j : Nat) : a j = cn_i (cn_I a j) := (cn_i_of _).symm
theorem cn_I_up (a : Nat → Int32) (k : Nat) (x : Int32) : cn_I (upd a k x) = cn_up (cn_I a) k x.toInt := by
  funext j
  unfold cn_I cn_up upd
  by_cases e : j = k
  · rw [if_pos e, if_pos e]
  · rw [if_neg e, if_neg e]
/-- indices -/
theorem cn_ix (u v : Nat) : nI u * 7 + nI v = nI (u * 7 + v) := by
  rw [show (7 : Int32) = nI 7 from rfl, pk_mul, nI_add]
theorem cn_iy (u v : Nat) : 7 * nI u + nI v = nI (u * 7 + v) := by
  rw [show (7 : Int32) = nI 7 from rfl, pk_mul, nI_add, Nat.mul_comm]
theorem cn_in49 {u v : Nat} (hu : u < 7) (hv : v < 7) : vp_in (nI (u * 7 + v)) 49 := vp_in_nI (by omega) (by decide)
theorem cn_in7 {u : Nat} (hu : u < 7) : vp_in (nI u) 7 := vp_in_nI hu (by decide)
theorem cn_cl {n : Nat} (h : n < 1000) : (nI n).toNatClampNeg = n := nI_clamp (by omega)
theorem cn_q7 {p : Nat} (h : p < 1000) : nI p / 7 = nI (p / 7) := pk_div (d := 7) (by omega) (by decide) (by decide)
theorem cn_r7 {p : Nat} (h : p < 1000) : nI p - nI p / 7 * 7 = nI (p % 7) := pk_rem (d := 7) (by omega) (by decide) (by decide)
theorem cn_r49 {p : Nat} (h : p < 1000) : nI p - nI p / 49 * 49 = nI (p % 49) := pk_rem (d := 49) (by omega) (by decide) (by decide)
/-- the members of a set -/
def cn_bit (k j : Nat) : Bool := decide (k / 2 ^ j % 2 = 1)
theorem cn_bit_v {m k : Nat} (hm : m < 128) (hk : k < 7) : (nI m >>> (nI k &&& 31)) &&& 1 = nI (m / 2 ^ k % 2) := by
  rw [pk_shrN (by omega) _ k (s_l k (by omega))]
  have e := Nat.div_le_self m (2 ^ k)
  exact pk_andN (m := 1) (by omega) 1 (by decide)
theorem cn_bit_1 {m k : Nat} (hm : m < 128) (hk : k < 7) : (nI m >>> (nI k &&& 31)) &&& 1 = 1 ↔ cn_bit m k = true := by
  rw [cn_bit_v hm hk]
  unfold cn_bit
  rw [decide_eq_true_iff]
  exact nI_eq (b := 1) (by omega) (by decide)
theorem cn_sh {k : Nat} (hk : k < 7) : (1 : Int32) <<< (nI k &&& 31) = nI (2 ^ k) := by
  have e : 2 ^ k < 2 ^ 7 := Nat.pow_lt_pow_right (by decide) hk
  have h := pk_shlN (n := 1) (nI k &&& 31) k (s_l k (by omega)) (by omega)
  rw [Nat.one_mul] at h
  exact h
theorem cn_bit_in : ∀ k, k < 7 → ∀ s, s < 128 → (s &&& 2 ^ k = 2 ^ k ↔ cn_bit s k = true) := by decide +kernel
theorem cn_bit_out : ∀ k, k < 7 → ∀ s, s < 128 → (s &&& 2 ^ k = 0 ↔ ¬ cn_bit s k = true) := by decide +kernel
theorem cn_bit_pw : ∀ k, k < 7 → ∀ j, j < 7 → (cn_bit (2 ^ k) j = true ↔ j = k) := by decide +kernel
theorem cn_pw {k : Nat} (hk : k < 7) : 2 ^ k < 128 := by
  have e : 2 ^ k < 2 ^ 7 := Nat.pow_lt_pow_right (by decide) hk
  omega
theorem cn_and0 {m s : Nat} (hm : m < 128) (hs : s < 128) : (nI s &&& nI m = nI m) ↔ s &&& m = m := by
  rw [nx_and]
  have e : s &&& m ≤ m := Nat.and_le_right
  exact nI_eq (by omega) (by omega)
theorem cn_and1 {m s : Nat} (hm : m < 128) (hs : s < 128) : (nI s &&& nI m = 0) ↔ s &&& m = 0 := by
  rw [nx_and]
  have e : s &&& m ≤ m := Nat.and_le_right
  exact nI_eq (b := 0) (by omega) (by decide)
def cn_set7 (b0 b1 b2 b3 b4 b5 b6 : Bool) : Nat := b0.toNat + 2 * b1.toNat + 4 * b2.toNat + 8 * b3.toNat + 16 * b4.toNat + 32 * b5.toNat + 64 * b6.toNat
theorem cn_set7_lt : ∀ b0 b1 b2 b3 b4 b5 b6 : Bool, cn_set7 b0 b1 b2 b3 b4 b5 b6 < 128 := by decide +kernel
theorem cn_set7_b : ∀ b0 b1 b2 b3 b4 b5 b6 : Bool, cn_bit (cn_set7 b0 b1 b2 b3 b4 b5 b6) 0 = b0 ∧ cn_bit (cn_set7 b0 b1 b2 b3 b4 b5 b6) 1 = b1 ∧ cn_bit (cn_set7 b0 b1 b2 b3 b4 b5 b6) 2 = b2 ∧ cn_bit (cn_set7 b0 b1 b2 b3 b4 b5 b6) 3 = b3 ∧ cn_bit (cn_set7 b0 b1 b2 b3 b4 b5 b6) 4 = b4 ∧ cn_bit (cn_set7 b0 b1 b2 b3 b4 b5 b6) 5 = b5 ∧ cn_bit (cn_set7 b0 b1 b2 b3 b4 b5 b6) 6 = b6 := by decide +kernel
theorem cn_set (M : Nat → Bool) : ∃ k, k < 128 ∧ ∀ j, j < 7 → cn_bit k j = M j := by
  refine ⟨cn_set7 (M 0) (M 1) (M 2) (M 3) (M 4) (M 5) (M 6), cn_set7_lt _ _ _ _ _ _ _, fun j hj => ?_⟩
  obtain ⟨h0, h1, h2, h3, h4, h5, h6⟩ := cn_set7_b (M 0) (M 1) (M 2) (M 3) (M 4) (M 5) (M 6)
  have e : j = 0 ∨ j = 1 ∨ j = 2 ∨ j = 3 ∨ j = 4 ∨ j = 5 ∨ j = 6 := by omega
  rcases e with rfl | rfl | rfl | rfl | rfl | rfl | rfl
  · exact h0
  · exact h1
  · exact h2
  · exact h3
  · exact h4
  · exact h5
  · exact h6
end
section
/-- g u v: what u owes v (below 0: v owes u). What a step from u to v can take, and what one of it costs -/
def cn_room (t : Nat → Int) (g : Nat → Nat → Int) (u v : Nat) : Int := if g u v < 0 then - g u v else t (v * 7 + u) - g u v
def cn_cost (g : Nat → Nat → Int) (u v : Nat) : Int := if g u v < 0 then -1 else 1
/-- a state of debts -/
def cn_St (t : Nat → Int) (g : Nat → Nat → Int) : Prop := ∀ u v, u < 7 → v < 7 → g u v = - g v u ∧ g u v ≤ t (v * 7 + u)
def cn_Opt (t : Nat → Int) (g : Nat → Nat → Int) (q : Nat → Int) : Prop := ∀ u v, u < 7 → v < 7 → u ≠ v → 0 < cn_room t g u v → q v - q u ≤ cn_cost g u v
def cn_po (g : Nat → Nat → Int) (u : Nat) : Int := cn_sum (fun v => g v u) 7
def cn_abs (x : Int) : Int := if 0 ≤ x then x else -x
def cn_pp (x : Int) : Int := if 0 < x then x else 0
/-- twice the sum of all debts -/
def cn_ab (g : Nat → Nat → Int) : Int := cn_sum (fun u => cn_sum (fun v => cn_abs (g u v)) 7) 7
/-- the sum of all debts -/
def cn_tot (g : Nat → Nat → Int) : Int := cn_sum (fun u => cn_sum (fun v => cn_pp (g u v)) 7) 7

theorem cn_loc {t1 t2 x y e : Int} (hx1 : x ≤ t1) (hx2 : -t2 ≤ x) (hy1 : y ≤ t1) (hy2 : -t2 ≤ y)
    (h1 : 0 < (if x < 0 then -x else t1 - x) → e ≤ (if x < 0 then -1 else 1))
    (h2 : 0 < (if -x < 0 then x else t2 + x) → -e ≤ (if -x < 0 then -1 else 1)) :
    e * (y - x) ≤ cn_abs y - cn_abs x := by
  unfold cn_abs
  rcases Int.lt_trichotomy (y - x) 0 with h | h | h
  · have k : e * (y - x) = (-e) * (-(y - x)) := (Int.neg_mul_neg _ _).symm
    rw [k]
    by_cases hp : -x < 0
    · rw [if_pos hp, if_pos hp] at h2
      have m := Int.mul_le_mul_of_nonneg_right (h2 (by omega)) (c := -(y - x)) (by omega)
      generalize (-e) * (-(y - x)) = w at *
      split <;> split <;> omega
    · rw [if_neg hp, if_neg hp] at h2
      have m := Int.mul_le_mul_of_nonneg_right (h2 (by omega)) (c := -(y - x)) (by omega)
      generalize (-e) * (-(y - x)) = w at *
      split <;> split <;> omega
  · rw [h, Int.mul_zero]
    split <;> split <;> omega
  · by_cases hp : x < 0
    · rw [if_pos hp, if_pos hp] at h1
      have m := Int.mul_le_mul_of_nonneg_right (h1 (by omega)) (c := y - x) (by omega)
      generalize e * (y - x) = w at *
      split <;> split <;> omega
    · rw [if_neg hp, if_neg hp] at h1
      have m := Int.mul_le_mul_of_nonneg_right (h1 (by omega)) (c := y - x) (by omega)
      generalize e * (y - x) = w at *
      split <;> split <;> omega

theorem cn_least {t q : Nat → Int} {g f : Nat → Nat → Int} (hf : cn_St t f) (hq : cn_Opt t f q) (hg : cn_St t g)
    (hp : ∀ u, u < 7 → cn_po g u = cn_po f u) : cn_ab f ≤ cn_ab g := by
  have loc : ∀ u v, u < 7 → v < 7 → (q v - q u) * (g u v - f u v) ≤ cn_abs (g u v) - cn_abs (f u v) := by
    intro u v hu hv
    by_cases huv : u = v
    · subst huv
      have a := (hg u u hu hu).1
      have b := (hf u u hu hu).1
      have a' : g u u = 0 := by omega
      have b' : f u u = 0 := by omega
      rw [a', b', Int.sub_self, Int.sub_self]
      decide
    · have h1 := hq u v hu hv huv
      have h2 := hq v u hv hu (fun z => huv z.symm)
      have gy := hg u v hu hv
      have gz := hg v u hv hu
      have fy := hf u v hu hv
      have fz := hf v u hv hu
      unfold cn_room cn_cost at h1 h2
      have ev : f v u = - f u v := fz.1
      rw [ev, Int.neg_neg, Int.sub_neg] at h2
      exact cn_loc (t1 := t (v * 7 + u)) (t2 := t (u * 7 + v)) fy.2 (by omega) gy.2 (by omega) h1 (fun z => by have := h2 z; omega)
  have col : ∀ v, v < 7 → cn_sum (fun u => g u v - f u v) 7 = 0 := by
    intro v hv
    rw [cn_sum_sub]
    have := hp v hv
    unfold cn_po at this
    omega
  have row : ∀ u, u < 7 → cn_sum (fun v => g u v - f u v) 7 = 0 := by
    intro u hu
    have e : cn_sum (fun v => g u v - f u v) 7 = cn_sum (fun v => - (g v u - f v u)) 7 := by
      refine cn_sum_congr (fun v hv => ?_)
      have a := (hg u v hu hv).1
      have b := (hf u v hu hv).1
      omega
    rw [e, cn_sum_neg, col u hu]
    rfl
  have z1 : cn_sum (fun u => cn_sum (fun v => q v * (g u v - f u v)) 7) 7 = 0 := by
    rw [cn_sum_swap, ← cn_sum_0 7]
    refine cn_sum_congr (fun v hv => ?_)
    rw [cn_sum_mul, col v hv, Int.mul_zero]
  have z2 : cn_sum (fun u => cn_sum (fun v => q u * (g u v - f u v)) 7) 7 = 0 := by
    rw [← cn_sum_0 7]
    refine cn_sum_congr (fun u hu => ?_)
    rw [cn_sum_mul, row u hu, Int.mul_zero]
  have z : cn_sum (fun u => cn_sum (fun v => (q v - q u) * (g u v - f u v)) 7) 7 = 0 := by
    have e : cn_sum (fun u => cn_sum (fun v => (q v - q u) * (g u v - f u v)) 7) 7
        = cn_sum (fun u => cn_sum (fun v => q v * (g u v - f u v)) 7 - cn_sum (fun v => q u * (g u v - f u v)) 7) 7 := by
      refine cn_sum_congr (fun u _ => ?_)
      rw [← cn_sum_sub]
      exact cn_sum_congr (fun v _ => Int.sub_mul _ _ _)
    rw [e, cn_sum_sub, z1, z2]
    rfl
  have w : cn_sum (fun u => cn_sum (fun v => (q v - q u) * (g u v - f u v)) 7) 7
      ≤ cn_sum (fun u => cn_sum (fun v => cn_abs (g u v)) 7 - cn_sum (fun v => cn_abs (f u v)) 7) 7 := by
    refine cn_sum_le (fun u hu => ?_)
    rw [← cn_sum_sub]
    exact cn_sum_le (fun v hv => loc u v hu hv)
  rw [z, cn_sum_sub] at w
  unfold cn_ab
  omega

/-- the 49 places as seven rows of seven -/
theorem cn_sum49 (o : Nat → Int) : cn_sum o 49 = cn_sum (fun u => cn_sum (fun v => o (u * 7 + v)) 7) 7 := by
  have h : ∀ n, cn_sum o (n * 7) = cn_sum (fun u => cn_sum (fun v => o (u * 7 + v)) 7) n := by
    intro n
    induction n with
    | zero => rfl
    | succ n ih => rw [Nat.succ_mul, cn_sum_split, ih]; rfl
  exact h 7

theorem cn_ab_tot {t : Nat → Int} {g : Nat → Nat → Int} (hg : cn_St t g) : cn_ab g = 2 * cn_tot g := by
  have e : cn_ab g = cn_sum (fun u => cn_sum (fun v => cn_pp (g u v)) 7 + cn_sum (fun v => cn_pp (g v u)) 7) 7 := by
    unfold cn_ab
    refine cn_sum_congr (fun u hu => ?_)
    rw [← cn_sum_add]
    refine cn_sum_congr (fun v hv => ?_)
    have a := (hg u v hu hv).1
    unfold cn_abs cn_pp
    split <;> split <;> split <;> omega
  rw [e, cn_sum_add, cn_sum_swap (fun u v => cn_pp (g v u))]
  unfold cn_tot
  omega

theorem cn_anti {f : Nat → Nat → Int} {n : Nat} (h : ∀ u v, u < n → v < n → f u v = - f v u) : cn_sum (fun u => cn_sum (fun v => f u v) n) n = 0 := by
  have a := cn_sum_swap f n n
  have b : cn_sum (fun j => cn_sum (fun i => f i j) n) n = - cn_sum (fun u => cn_sum (fun v => f u v) n) n := by
    rw [← cn_sum_neg]
    refine cn_sum_congr (fun j hj => ?_)
    rw [← cn_sum_neg]
    exact cn_sum_congr (fun i hi => h i j hi hj)
  omega

theorem cn_po_sum {t : Nat → Int} {g : Nat → Nat → Int} (hg : cn_St t g) : cn_sum (cn_po g) 7 = 0 :=
  cn_anti (f := fun w v => g v w) (n := 7) (fun u v hu hv => (hg v u hv hu).1)

/-- u owes v so much more -/
def cn_add (g : Nat → Nat → Int) (u v : Nat) (a : Int) : Nat → Nat → Int :=
  fun x y => if x = u ∧ y = v then g u v + a else if x = v ∧ y = u then g v u - a else g x y

theorem cn_add_1 {g : Nat → Nat → Int} {u v : Nat} {a : Int} : cn_add g u v a u v = g u v + a := if_pos ⟨rfl, rfl⟩
theorem cn_add_2 {g : Nat → Nat → Int} {u v : Nat} {a : Int} (h : u ≠ v) : cn_add g u v a v u = g v u - a := by
  unfold cn_add
  rw [if_neg (fun z => h z.2), if_pos ⟨rfl, rfl⟩]
theorem cn_add_3 {g : Nat → Nat → Int} {u v x y : Nat} {a : Int} (h : ¬ (x = u ∧ y = v)) (h' : ¬ (x = v ∧ y = u)) : cn_add g u v a x y = g x y := by
  unfold cn_add
  rw [if_neg h, if_neg h']

theorem cn_add_St {t : Nat → Int} {g : Nat → Nat → Int} {u v : Nat} {a : Int} (hg : cn_St t g) (hu : u < 7) (hv : v < 7) (huv : u ≠ v) (ha : 0 ≤ a) (hr : a ≤ cn_room t g u v)
    (ht : ∀ u v, u < 7 → v < 7 → 0 ≤ t (u * 7 + v)) : cn_St t (cn_add g u v a) := by
  have A := hg u v hu hv
  have B := hg v u hv hu
  have T1 := ht u v hu hv
  have T2 := ht v u hv hu
  unfold cn_room at hr
  have r1 : g u v + a ≤ t (v * 7 + u) := by split at hr <;> omega
  intro x y hx hy
  by_cases e : x = u ∧ y = v
  · obtain ⟨rfl, rfl⟩ := e
    rw [cn_add_1, cn_add_2 huv]
    exact ⟨by omega, r1⟩
  · by_cases e' : x = v ∧ y = u
    · obtain ⟨rfl, rfl⟩ := e'
      rw [cn_add_1, cn_add_2 huv]
      exact ⟨by omega, by omega⟩
    · rw [cn_add_3 e e', cn_add_3 (fun z => e' ⟨z.2, z.1⟩) (fun z => e ⟨z.2, z.1⟩)]
      exact hg x y hx hy

theorem cn_add_Opt {t q : Nat → Int} {g : Nat → Nat → Int} {u v : Nat} {a : Int} (hg : cn_St t g) (hq : cn_Opt t g q) (hu : u < 7) (hv : v < 7) (huv : u ≠ v) (ha : 0 ≤ a) (hr : a ≤ cn_room t g u v)
    (ht : q v - q u = cn_cost g u v) : cn_Opt t (cn_add g u v a) q := by
  have A := hg u v hu hv
  have B := hg v u hv hu
  have pair : (0 < cn_room t (cn_add g u v a) u v → q v - q u ≤ cn_cost (cn_add g u v a) u v) ∧ (q u - q v ≤ cn_cost (cn_add g u v a) v u) := by
    unfold cn_cost at ht ⊢
    unfold cn_room at hr
    rw [cn_add_1, cn_add_2 huv]
    refine ⟨fun _ => ?_, ?_⟩
    · split at hr <;> split at ht <;> split <;> omega
    · split at hr <;> split at ht <;> split <;> omega
  intro x y hx hy hxy hp
  by_cases e : x = u ∧ y = v
  · obtain ⟨rfl, rfl⟩ := e
    exact pair.1 hp
  · by_cases e' : x = v ∧ y = u
    · obtain ⟨rfl, rfl⟩ := e'
      exact pair.2
    · unfold cn_room at hp
      unfold cn_cost
      rw [cn_add_3 e e'] at hp ⊢
      exact hq x y hx hy hxy hp

theorem cn_add_po {g : Nat → Nat → Int} {u v w : Nat} {a : Int} (hu : u < 7) (hv : v < 7) (huv : u ≠ v) :
    cn_po (cn_add g u v a) w = cn_po g w + (if w = v then a else 0) - (if w = u then a else 0) := by
  unfold cn_po
  by_cases e : w = v
  · subst e
    rw [if_pos rfl, if_neg (fun z => huv z.symm)]
    have k : cn_sum (fun x => cn_add g u w a x w) 7 = cn_sum (cn_up (fun x => g x w) u (g u w + a)) 7 := by
      refine cn_sum_congr (fun x hx => ?_)
      by_cases f : x = u
      · subst f
        rw [cn_up_s]
        exact cn_add_1
      · rw [cn_up_n f]
        exact cn_add_3 (fun z => f z.1) (fun z => huv z.2.symm)
    rw [k, cn_sum_up _ _ hu]
    omega
  · rw [if_neg e]
    by_cases e' : w = u
    · subst e'
      rw [if_pos rfl]
      have k : cn_sum (fun x => cn_add g w v a x w) 7 = cn_sum (cn_up (fun x => g x w) v (g v w - a)) 7 := by
        refine cn_sum_congr (fun x hx => ?_)
        by_cases f : x = v
        · subst f
          rw [cn_up_s]
          exact cn_add_2 huv
        · rw [cn_up_n f]
          exact cn_add_3 (fun z => e z.2) (fun z => f z.1)
      rw [k, cn_sum_up _ _ hv]
      omega
    · rw [if_neg e']
      have k : cn_sum (fun x => cn_add g u v a x w) 7 = cn_sum (fun x => g x w) 7 :=
        cn_sum_congr (fun x hx => cn_add_3 (fun z => e z.2) (fun z => e' z.2))
      rw [k]
      omega
end
section
/-- the search for shortest ways from the members S: labels d (U: not reached), p the member before; R the steps that can be made, c their costs, q a potential that is b on S -/
def cn_Ws (R : Nat → Nat → Prop) (c : Nat → Nat → Int) (q : Nat → Int) (b : Int) (S : Nat → Prop) (U B : Int) (d : Nat → Int) (p : Nat → Nat) : Prop :=
  (∀ s, s < 7 → S s → d s = 0 ∧ p s = s) ∧
  (∀ v, v < 7 → d v = U ∨ (-B ≤ d v ∧ d v ≤ B)) ∧
  (∀ v, v < 7 → d v ≠ U → q v - b ≤ d v) ∧
  (∀ v, v < 7 → ¬ S v → d v ≠ U → p v < 7 ∧ d (p v) ≠ U ∧ R (p v) v ∧ d (p v) + c (p v) v ≤ d v) ∧
  (∃ r : Nat → Nat, ∀ v, v < 7 → ¬ S v → d v ≠ U → r (p v) < r v)

/-- the potential is right for every step -/
def cn_Pt (R : Nat → Nat → Prop) (c : Nat → Nat → Int) (q : Nat → Int) : Prop := ∀ u v, u < 7 → v < 7 → R u v → q v - q u ≤ c u v

def cn_it (p : Nat → Nat) : Nat → Nat → Nat
  | 0, v => v
  | n + 1, v => cn_it p n (p v)
theorem cn_it_0 (p : Nat → Nat) (v : Nat) : cn_it p 0 v = v := rfl
theorem cn_it_s (p : Nat → Nat) (n v : Nat) : cn_it p (n + 1) v = cn_it p n (p v) := rfl
theorem cn_it_fix {p : Nat → Nat} {s : Nat} (h : p s = s) : ∀ n, cn_it p n s = s := by
  intro n
  induction n with
  | zero => rfl
  | succ n ih => rw [cn_it_s, h, ih]
theorem cn_it_r (p : Nat → Nat) (n v : Nat) : cn_it p (n + 1) v = p (cn_it p n v) := by
  induction n generalizing v with
  | zero => rfl
  | succ n ih => rw [cn_it_s, ih, ← cn_it_s]

section
variable {R : Nat → Nat → Prop} {c : Nat → Nat → Int} {q : Nat → Int} {b : Int} {S : Nat → Prop} {U B : Int} {d : Nat → Int} {p : Nat → Nat}

theorem cn_Ws_up (h : cn_Ws R c q b S U B d p) {B' : Int} (hB : B ≤ B') : cn_Ws R c q b S U B' d p := by
  obtain ⟨h1, h2, h3⟩ := h
  refine ⟨h1, fun v hv => ?_, h3⟩
  rcases h2 v hv with a | a
  · exact Or.inl a
  · exact Or.inr ⟨by omega, by omega⟩

/-- up the tree, label less potential doesn't rise -/
theorem cn_anc (hR : cn_Pt R c q) (h : cn_Ws R c q b S U B d p) {v : Nat} (hv : ¬ S v) :
    ∀ n w, w < 7 → d w ≠ U → cn_it p n w = v → d v ≠ U ∧ d v - q v ≤ d w - q w := by
  obtain ⟨h1, h2, h3, h4, h5⟩ := h
  intro n
  induction n with
  | zero =>
    intro w hw hd e
    rw [cn_it_0] at e
    subst e
    exact ⟨hd, Int.le_refl _⟩
  | succ n ih =>
    intro w hw hd e
    by_cases hws : S w
    · rw [cn_it_fix (h1 w hw hws).2] at e
      subst e
      exact absurd hws hv
    · obtain ⟨a, b, e1, e2⟩ := h4 w hw hws hd
      rw [cn_it_s] at e
      obtain ⟨x, y⟩ := ih (p w) a b e
      have z := hR (p w) w a hw e1
      exact ⟨x, by omega⟩

/-- a step that makes a label less -/
theorem cn_relax (hR : cn_Pt R c q) (hS : ∀ s, s < 7 → S s → q s = b) (h : cn_Ws R c q b S U B d p) {u v : Nat} (hu : u < 7) (hv : v < 7)
    (hdu : d u ≠ U) (ha : R u v) (hl : d u + c u v < d v) (hc : -1 ≤ c u v ∧ c u v ≤ 1) (hB' : B + 1 < U) :
    ¬ S v ∧ u ≠ v ∧ cn_Ws R c q b S U (B + 1) (cn_up d v (d u + c u v)) (cn_un p v u) := by
  have W := h
  obtain ⟨h1, h2, h3, h4, r, h5⟩ := h
  have z := hR u v hu hv ha
  have l := h3 u hu hdu
  have vs : ¬ S v := by
    intro e
    have x := (h1 v hv e).1
    have y := hS v hv e
    omega
  have uv : u ≠ v := by
    intro e
    subst e
    omega
  have ub : -B ≤ d u ∧ d u ≤ B := by
    rcases h2 u hu with a | a
    · exact absurd a hdu
    · exact a
  have nd : ∀ n, cn_it p n u ≠ v := by
    intro n e
    obtain ⟨x, y⟩ := cn_anc hR W vs n u hu hdu e
    omega
  have nw : d u + c u v ≠ U := by omega
  refine ⟨vs, uv, ?_, ?_, ?_, ?_, ?_⟩
  · intro s hs he
    have sv : s ≠ v := fun e => vs (e ▸ he)
    rw [cn_up_n sv, cn_un_n sv]
    exact h1 s hs he
  · intro w hw
    by_cases e : w = v
    · subst e
      rw [cn_up_s]
      exact Or.inr ⟨by omega, by omega⟩
    · rw [cn_up_n e]
      rcases h2 w hw with a | a
      · exact Or.inl a
      · exact Or.inr ⟨by omega, by omega⟩
  · intro w hw hd
    by_cases e : w = v
    · subst e
      rw [cn_up_s]
      omega
    · rw [cn_up_n e] at hd ⊢
      exact h3 w hw hd
  · intro w hw hws hd
    by_cases e : w = v
    · subst e
      rw [cn_un_s, cn_up_n uv, cn_up_s]
      exact ⟨hu, hdu, ha, Int.le_refl _⟩
    · rw [cn_up_n e] at hd
      rw [cn_un_n e, cn_up_n e]
      obtain ⟨a, b, e1, e2⟩ := h4 w hw hws hd
      by_cases f : p w = v
      · rw [f] at e1 e2 a ⊢
        rw [cn_up_s]
        exact ⟨a, nw, e1, by omega⟩
      · rw [cn_up_n f]
        exact ⟨a, b, e1, e2⟩
  · classical
    refine ⟨fun w => if ∃ n, cn_it p n w = v then r w + (r u + 1) else r w, ?_⟩
    intro w hw hws hd
    by_cases e : w = v
    · subst e
      rw [cn_un_s]
      have a : ¬ ∃ n, cn_it p n u = w := fun ⟨n, hn⟩ => nd n hn
      have b : ∃ n, cn_it p n w = w := ⟨0, rfl⟩
      show (if ∃ n, cn_it p n u = w then r u + (r u + 1) else r u) < (if ∃ n, cn_it p n w = w then r w + (r u + 1) else r w)
      rw [if_neg a, if_pos b]
      omega
    · rw [cn_up_n e] at hd
      rw [cn_un_n e]
      have k := h5 w hw hws hd
      show (if ∃ n, cn_it p n (p w) = v then r (p w) + (r u + 1) else r (p w)) < (if ∃ n, cn_it p n w = v then r w + (r u + 1) else r w)
      by_cases f : ∃ n, cn_it p n w = v
      · have g : ∃ n, cn_it p n (p w) = v := by
          obtain ⟨n, hn⟩ := f
          cases n with
          | zero => exact absurd hn e
          | succ n => exact ⟨n, hn⟩
        rw [if_pos f, if_pos g]
        omega
      · have g : ¬ ∃ n, cn_it p n (p w) = v := fun ⟨n, hn⟩ => f ⟨n + 1, hn⟩
        rw [if_neg f, if_neg g]
        exact k

/-- six rounds over all steps: no label can be made less any more -/
theorem cn_done {H : Nat → Nat → Int} {K : Nat} (hK : 6 ≤ K) (hR : cn_Pt R c q) (hS : ∀ s, s < 7 → S s → q s = b) (hc : ∀ u v, -1 ≤ c u v ∧ c u v ≤ 1) (hB : B < U)
    (h : cn_Ws R c q b S U B (H K) p) (h0 : ∀ s, s < 7 → S s → H 0 s ≤ 0)
    (hm : ∀ k v, k < K → v < 7 → H (k + 1) v ≤ H k v)
    (hst : ∀ k u v, k < K → u < 7 → v < 7 → H k u < U → R u v → H (k + 1) v ≤ H k u + c u v) :
    ∀ u v, u < 7 → v < 7 → H K u ≠ U → R u v → H K v ≤ H K u + c u v := by
  have W := h
  obtain ⟨h1, h2, h3, h4, r, h5⟩ := h
  intro u v hu hv hd ha
  have mono : ∀ v, v < 7 → ∀ i j, i + j ≤ K → H (i + j) v ≤ H i v := by
    intro v hv i j
    induction j with
    | zero => intro _; exact Int.le_refl _
    | succ j jh =>
      intro hj
      have x := jh (by omega)
      have y := hm (i + j) v (by omega) hv
      rw [Nat.add_assoc] at y
      omega
  by_cases vs : S v
  · have x := h3 u hu hd
    have y := hR u v hu hv ha
    have z := hS v hv vs
    have w := (h1 v hv vs).1
    omega
  by_cases an : ∃ n, cn_it p n u = v
  · obtain ⟨n, hn⟩ := an
    obtain ⟨x, y⟩ := cn_anc hR W vs n u hu hd hn
    have b := hR u v hu hv ha
    omega
  have nd : ∀ n, cn_it p n u ≠ v := fun n hn => an ⟨n, hn⟩
  have bnd : ∀ w, w < 7 → H K w ≠ U → H K w < U := by
    intro w hw e
    rcases h2 w hw with a | a
    · exact absurd a e
    · omega
  -- below the top of the tree the labels come early
  have key : ∀ n, n ≤ 6 → ∀ w, w < 7 → H K w ≠ U → (∀ m, cn_it p m w ≠ v) → cn_cnt (fun x => decide (r x < r w) && decide (x ≠ v)) 7 ≤ n → H n w ≤ H K w := by
    intro n
    induction n with
    | zero =>
      intro _ w hw hdw hnd hcw
      by_cases ws : S w
      · have x := h0 w hw ws
        have y := (h1 w hw ws).1
        omega
      · obtain ⟨a, b, e1, e2⟩ := h4 w hw ws hdw
        have k := h5 w hw ws hdw
        have nv : p w ≠ v := hnd 1
        have f := cn_cnt_lt (P := fun _ => false) (Q := fun x => decide (r x < r w) && decide (x ≠ v)) (w := p w) (n := 7) (fun i _ z => by simp at z) a rfl (by simp [k, nv])
        omega
    | succ n ih =>
      intro hn w hw hdw hnd hcw
      by_cases ws : S w
      · have x := h0 w hw ws
        have y := (h1 w hw ws).1
        have z := mono w hw 0 (n + 1) (by omega)
        rw [Nat.zero_add] at z
        omega
      · obtain ⟨a, b, e1, e2⟩ := h4 w hw ws hdw
        have k := h5 w hw ws hdw
        have nv : p w ≠ v := hnd 1
        have f := cn_cnt_lt (P := fun x => decide (r x < r (p w)) && decide (x ≠ v)) (Q := fun x => decide (r x < r w) && decide (x ≠ v)) (w := p w) (n := 7)
          (fun i _ z => by simp at z ⊢; exact ⟨by omega, z.2⟩) a (by simp) (by simp [k, nv])
        have g := ih (by omega) (p w) a b (fun m => hnd (m + 1)) (by omega)
        have bw := bnd (p w) a b
        have x := hst n (p w) w (by omega) a hw (by omega) e1
        omega
  have uv : u ≠ v := nd 0
  have five := cn_cnt_2 (P := fun x => decide (r x < r u) && decide (x ≠ v)) (u := u) (v := v) (n := 7) hu hv uv (by simp) (by simp)
  have e := key 5 (by omega) u hu hd nd (by omega)
  have bu := bnd u hu hd
  have x := hst 5 u v (by omega) hu hv (by omega) ha
  have y := mono v hv 6 (K - 6) (by omega)
  rw [show 6 + (K - 6) = K by omega] at y
  have x' : H 6 v ≤ H 5 u + c u v := x
  omega
end

section
variable {R : Nat → Nat → Prop} {c : Nat → Nat → Int} {q : Nat → Int} {b : Int} {S : Nat → Prop} {U B : Int} {p : Nat → Nat}

/-- within a round over all steps, begun with the labels d0: those below place m are done -/
def cn_Pa (R : Nat → Nat → Prop) (c : Nat → Nat → Int) (q : Nat → Int) (b : Int) (S : Nat → Prop) (U B : Int) (d0 : Nat → Int) (m : Nat) (d : Nat → Int) (p : Nat → Nat) : Prop :=
  cn_Ws R c q b S U (B + m) d p ∧ (∀ w, w < 7 → d w ≤ d0 w) ∧ ∀ u v, u < 7 → v < 7 → u * 7 + v < m → d0 u < U → R u v → d v ≤ d0 u + c u v

theorem cn_Pa_0 {d : Nat → Int} (h : cn_Ws R c q b S U B d p) : cn_Pa R c q b S U B d 0 d p :=
  ⟨cn_Ws_up h (by omega), fun _ _ => Int.le_refl _, fun u v _ _ hu => by omega⟩

theorem cn_Pa_no {d0 d : Nat → Int} {u v : Nat} (hu : u < 7) (hv : v < 7) (h : cn_Pa R c q b S U B d0 (u * 7 + v) d p) (hn : d u < U → R u v → ¬ d u + c u v < d v) :
    cn_Pa R c q b S U B d0 (u * 7 + (v + 1)) d p := by
  obtain ⟨a, e, f⟩ := h
  refine ⟨cn_Ws_up a (by omega), e, fun x y hx hy hm hd ha => ?_⟩
  by_cases z : x * 7 + y < u * 7 + v
  · exact f x y hx hy z hd ha
  · have e1 : x = u := by omega
    have e2 : y = v := by omega
    subst e1 e2
    have k := e x hx
    have w := hn (by omega) ha
    omega

theorem cn_Pa_row {d0 d : Nat → Int} {u : Nat} (hu : u < 7) (h : cn_Pa R c q b S U B d0 (u * 7) d p) (hn : d u = U) : cn_Pa R c q b S U B d0 ((u + 1) * 7) d p := by
  have key : ∀ j, j ≤ 7 → cn_Pa R c q b S U B d0 (u * 7 + j) d p := by
    intro j
    induction j with
    | zero => intro _; exact h
    | succ j ih => intro hj; exact cn_Pa_no hu (by omega) (ih (by omega)) (fun z => by omega)
  have k := key 7 (by omega)
  rw [Nat.succ_mul]
  exact k

theorem cn_Pa_yes {d0 d : Nat → Int} {u v : Nat} (hR : cn_Pt R c q) (hS : ∀ s, s < 7 → S s → q s = b) (hc : ∀ u v, -1 ≤ c u v ∧ c u v ≤ 1) (hB : B + 100 < U)
    (hu : u < 7) (hv : v < 7) (h : cn_Pa R c q b S U B d0 (u * 7 + v) d p) (hdu : d u ≠ U) (ha : R u v) (hl : d u + c u v < d v) :
    cn_Pa R c q b S U B d0 (u * 7 + (v + 1)) (cn_up d v (d u + c u v)) (cn_un p v u) := by
  obtain ⟨a, e, f⟩ := h
  obtain ⟨vs, uv, W⟩ := cn_relax hR hS a hu hv hdu ha hl (hc u v) (by omega)
  refine ⟨cn_Ws_up W (by omega), fun w hw => ?_, fun x y hx hy hm hd ha' => ?_⟩
  · have k := e w hw
    by_cases x : w = v
    · subst x
      rw [cn_up_s]
      omega
    · rw [cn_up_n x]
      exact k
  · have k := e x hx
    by_cases z : x * 7 + y < u * 7 + v
    · have l := f x y hx hy z hd ha'
      by_cases yv : y = v
      · subst yv
        rw [cn_up_s]
        omega
      · rw [cn_up_n yv]
        exact l
    · have e1 : x = u := by omega
      have e2 : y = v := by omega
      subst e1 e2
      rw [cn_up_s]
      omega

/-- between the rounds: k of them are done -/
def cn_Ro (R : Nat → Nat → Prop) (c : Nat → Nat → Int) (q : Nat → Int) (b : Int) (S : Nat → Prop) (U : Int) (k : Nat) (d : Nat → Int) (p : Nat → Nat) : Prop :=
  cn_Ws R c q b S U (49 * k) d p ∧ ∃ H : Nat → Nat → Int, H k = d ∧ (∀ s, s < 7 → S s → H 0 s ≤ 0) ∧ (∀ j v, j < k → v < 7 → H (j + 1) v ≤ H j v) ∧
    (∀ j u v, j < k → u < 7 → v < 7 → H j u < U → R u v → H (j + 1) v ≤ H j u + c u v)

theorem cn_Ro_0 {d : Nat → Int} (h : cn_Ws R c q b S U 0 d p) : cn_Ro R c q b S U 0 d p :=
  ⟨cn_Ws_up h (by omega), fun _ => d, rfl, fun s hs he => Int.le_of_eq (h.1 s hs he).1, fun j v hj => by omega, fun j u v hj => by omega⟩

theorem cn_Ro_s {k : Nat} {d d' : Nat → Int} {p' : Nat → Nat} (h : cn_Ro R c q b S U k d p) (h' : cn_Pa R c q b S U (49 * k) d 49 d' p') : cn_Ro R c q b S U (k + 1) d' p' := by
  obtain ⟨a, H, e, z, m, st⟩ := h
  obtain ⟨a', b', f'⟩ := h'
  refine ⟨cn_Ws_up a' (by omega), fun j => if j = k + 1 then d' else H j, if_pos rfl, ?_, ?_, ?_⟩
  · intro s hs he
    show (if 0 = k + 1 then d' else H 0) s ≤ 0
    rw [if_neg (by omega)]
    exact z s hs he
  · intro j v hj hv
    show (if j + 1 = k + 1 then d' else H (j + 1)) v ≤ (if j = k + 1 then d' else H j) v
    by_cases x : j = k
    · subst x
      rw [if_pos rfl, if_neg (by omega), e]
      exact b' v hv
    · rw [if_neg (by omega), if_neg (by omega)]
      exact m j v (by omega) hv
  · intro j u v hj hu hv hd ha
    have hd' : (if j = k + 1 then d' else H j) u < U := hd
    show (if j + 1 = k + 1 then d' else H (j + 1)) v ≤ (if j = k + 1 then d' else H j) u + c u v
    by_cases x : j = k
    · subst x
      rw [if_neg (by omega), e] at hd'
      rw [if_pos rfl, if_neg (by omega), e]
      exact f' u v hu hv (by omega) hd' ha
    · rw [if_neg (by omega)] at hd'
      rw [if_neg (by omega), if_neg (by omega)]
      exact st j u v (by omega) hu hv hd' ha

/-- the search has ended: labels that no step makes less -/
theorem cn_Ro_e {d : Nat → Int} {K : Nat} (hK : 6 ≤ K) (hU : 49 * (K : Int) < U) (hR : cn_Pt R c q) (hS : ∀ s, s < 7 → S s → q s = b) (hc : ∀ u v, -1 ≤ c u v ∧ c u v ≤ 1) (h : cn_Ro R c q b S U K d p) :
    cn_Ws R c q b S U (49 * K) d p ∧ ∀ u v, u < 7 → v < 7 → d u ≠ U → R u v → d v ≤ d u + c u v := by
  obtain ⟨a, H, e, z, m, st⟩ := h
  subst e
  exact ⟨a, cn_done hK hR hS hc hU a z m st⟩

theorem cn_bound (q : Nat → Int) (n : Nat) : ∃ K : Int, ∀ v, v < n → - q v ≤ K := by
  induction n with
  | zero => exact ⟨0, fun v hv => by omega⟩
  | succ n ih =>
    obtain ⟨K, h⟩ := ih
    by_cases e : - q n ≤ K
    · refine ⟨K, fun v hv => ?_⟩
      by_cases x : v = n
      · subst x; exact e
      · exact h v (by omega)
    · refine ⟨- q n, fun v hv => ?_⟩
      by_cases x : v = n
      · subst x; exact Int.le_refl _
      · have := h v (by omega)
        omega

/-- the labels are a potential; where they don't reach, the old one, far up -/
theorem cn_newpot {d : Nat → Int} (hU : B + 1 < U) (hR : cn_Pt R c q) (hc : ∀ u v, -1 ≤ c u v ∧ c u v ≤ 1)
    (h : cn_Ws R c q b S U B d p) (hd : ∀ u v, u < 7 → v < 7 → d u ≠ U → R u v → d v ≤ d u + c u v) :
    ∃ q' : Nat → Int, cn_Pt R c q' ∧ ∀ v, v < 7 → d v ≠ U → q' v = d v := by
  obtain ⟨h1, h2, h3⟩ := h
  obtain ⟨K, hK⟩ := cn_bound q 7
  refine ⟨fun v => if d v = U then q v + K + (B + 1) else d v, ?_, fun v hv e => if_neg e⟩
  intro u v hu hv ha
  have k := hK u hu
  have w := hc u v
  show (if d v = U then q v + K + (B + 1) else d v) - (if d u = U then q u + K + (B + 1) else d u) ≤ c u v
  by_cases eu : d u = U
  · rw [if_pos eu]
    by_cases ev : d v = U
    · rw [if_pos ev]
      have := hR u v hu hv ha
      omega
    · rw [if_neg ev]
      rcases h2 v hv with x | x
      · exact absurd x ev
      · omega
  · rw [if_neg eu]
    have w := hd u v hu hv eu ha
    have ub : d u ≤ B := by
      rcases h2 u hu with x | x
      · exact absurd x eu
      · exact x.2
    have ev : d v ≠ U := by omega
    rw [if_neg ev]
    omega

/-- the way back from a member that was reached -/
theorem cn_chain {d : Nat → Int} (h : cn_Ws R c q b S U B d p) {z : Nat} (hz : z < 7) (hd : d z ≠ U) :
    ∃ L, L ≤ 6 ∧ S (cn_it p L z) ∧ (∀ i, i ≤ L → cn_it p i z < 7 ∧ d (cn_it p i z) ≠ U) ∧ (∀ i, i < L → ¬ S (cn_it p i z)) ∧ (∀ i j, i < j → j ≤ L → cn_it p i z ≠ cn_it p j z) := by
  obtain ⟨h1, h2, h3, h4, r, h5⟩ := h
  have key : ∀ n w, w < 7 → d w ≠ U → cn_cnt (fun x => decide (r x < r w)) 7 ≤ n →
      ∃ L, L ≤ n ∧ S (cn_it p L w) ∧ (∀ i, i ≤ L → cn_it p i w < 7 ∧ d (cn_it p i w) ≠ U) ∧ (∀ i, i < L → ¬ S (cn_it p i w)) ∧ (∀ i j, i < j → j ≤ L → r (cn_it p j w) < r (cn_it p i w)) := by
    intro n
    induction n with
    | zero =>
      intro w hw hdw hc
      by_cases ws : S w
      · refine ⟨0, Nat.le_refl _, ws, fun i hi => ?_, fun i hi => by omega, fun i j a b => by omega⟩
        have : i = 0 := by omega
        subst this
        exact ⟨hw, hdw⟩
      · obtain ⟨a, b, e1, e2⟩ := h4 w hw ws hdw
        have k := h5 w hw ws hdw
        have f := cn_cnt_lt (P := fun _ => false) (Q := fun x => decide (r x < r w)) (w := p w) (n := 7) (fun i _ y => by simp at y) a rfl (by simp [k])
        omega
    | succ n ih =>
      intro w hw hdw hc
      by_cases ws : S w
      · refine ⟨0, by omega, ws, fun i hi => ?_, fun i hi => by omega, fun i j a b => by omega⟩
        have : i = 0 := by omega
        subst this
        exact ⟨hw, hdw⟩
      · obtain ⟨a, b, e1, e2⟩ := h4 w hw ws hdw
        have k := h5 w hw ws hdw
        have f := cn_cnt_lt (P := fun x => decide (r x < r (p w))) (Q := fun x => decide (r x < r w)) (w := p w) (n := 7)
          (fun i _ y => by simp at y ⊢; omega) a (by simp) (by simp [k])
        obtain ⟨L, l1, l2, l3, l4, l5⟩ := ih (p w) a b (by omega)
        refine ⟨L + 1, by omega, l2, fun i hi => ?_, fun i hi => ?_, fun i j x y => ?_⟩
        · cases i with
          | zero => exact ⟨hw, hdw⟩
          | succ i => exact l3 i (by omega)
        · cases i with
          | zero => exact ws
          | succ i => exact l4 i (by omega)
        · cases j with
          | zero => omega
          | succ j =>
            cases i with
            | zero =>
              show r (cn_it p j (p w)) < r w
              cases j with
              | zero => exact k
              | succ j =>
                have m := l5 0 (j + 1) (by omega) (by omega)
                rw [cn_it_0] at m
                omega
            | succ i => exact l5 i j (by omega) (by omega)
  have six := cn_cnt_1 (P := fun x => decide (r x < r z)) (u := z) (n := 7) hz (by simp)
  obtain ⟨L, l1, l2, l3, l4, l5⟩ := key 6 z hz hd (by omega)
  exact ⟨L, l1, l2, l3, l4, fun i j a b e => by have := l5 i j a b; rw [e] at this; omega⟩
end
end
section
/-- the steps that can be made -/
def cn_R (t : Nat → Int) (g : Nat → Nat → Int) (u v : Nat) : Prop := u ≠ v ∧ 0 < cn_room t g u v
theorem cn_Opt_Pt {t q : Nat → Int} {g : Nat → Nat → Int} (h : cn_Opt t g q) : cn_Pt (cn_R t g) (cn_cost g) q := fun u v hu hv ha => h u v hu hv ha.1 ha.2
theorem cn_Pt_Opt {t q : Nat → Int} {g : Nat → Nat → Int} (h : cn_Pt (cn_R t g) (cn_cost g) q) : cn_Opt t g q := fun u v hu hv a b => h u v hu hv ⟨a, b⟩
theorem cn_cost_b (g : Nat → Nat → Int) (u v : Nat) : -1 ≤ cn_cost g u v ∧ cn_cost g u v ≤ 1 := by
  unfold cn_cost
  split <;> omega

/-- a way from a member of S to z, back by p, of L steps, all tight for q -/
def cn_Wy (t : Nat → Int) (g : Nat → Nat → Int) (S : Nat → Prop) (q : Nat → Int) (p : Nat → Nat) (z L : Nat) : Prop :=
  L ≤ 6 ∧ S (cn_it p L z) ∧ (∀ i, i ≤ L → cn_it p i z < 7) ∧ (∀ i, i < L → ¬ S (cn_it p i z)) ∧ (∀ i j, i < j → j ≤ L → cn_it p i z ≠ cn_it p j z) ∧
  (∀ i, i < L → 0 < cn_room t g (cn_it p (i + 1) z) (cn_it p i z) ∧ q (cn_it p i z) - q (cn_it p (i + 1) z) = cn_cost g (cn_it p (i + 1) z) (cn_it p i z))

theorem cn_way {t q d : Nat → Int} {g : Nat → Nat → Int} {S : Nat → Prop} {p : Nat → Nat} {b U B : Int} {z : Nat} (hU : B + 1 < U) (hU0 : 0 < U) (hq : cn_Opt t g q)
    (h : cn_Ws (cn_R t g) (cn_cost g) q b S U B d p) (hd : ∀ u v, u < 7 → v < 7 → d u ≠ U → cn_R t g u v → d v ≤ d u + cn_cost g u v) (hz : z < 7) (hdz : d z ≠ U) :
    ∃ q' L, cn_Opt t g q' ∧ (∀ s, s < 7 → S s → q' s = 0) ∧ cn_Wy t g S q' p z L := by
  obtain ⟨q', h1, h2⟩ := cn_newpot hU (cn_Opt_Pt hq) (cn_cost_b g) h hd
  obtain ⟨L, l1, l2, l3, l4, l5⟩ := cn_chain h hz hdz
  obtain ⟨w1, w2, w3, w4, w5⟩ := h
  refine ⟨q', L, cn_Pt_Opt h1, fun s hs he => ?_, l1, l2, fun i hi => (l3 i hi).1, l4, l5, fun i hi => ?_⟩
  · have e := (w1 s hs he).1
    rw [h2 s hs (by omega), e]
  · obtain ⟨a1, a2⟩ := l3 i (by omega)
    obtain ⟨b1, b2⟩ := l3 (i + 1) (by omega)
    obtain ⟨c1, c2, c3, c4⟩ := w4 (cn_it p i z) a1 (l4 i hi) a2
    rw [← cn_it_r p i z] at c1 c2 c3 c4
    have e := hd _ _ b1 a1 b2 c3
    refine ⟨c3.2, ?_⟩
    rw [h2 _ a1 a2, h2 _ b1 b2]
    omega

/-- the second walk along the way: i steps are done -/
def cn_W2 (t q : Nat → Int) (p : Nat → Nat) (z L : Nat) (a : Int) (g0 : Nat → Nat → Int) (i : Nat) (g : Nat → Nat → Int) : Prop :=
  cn_St t g ∧ cn_Opt t g q ∧
  (∀ w, w < 7 → cn_po g w = cn_po g0 w + (if w = z then a else 0) - (if w = cn_it p i z then a else 0)) ∧
  (∀ j, i ≤ j → j < L → g (cn_it p (j + 1) z) (cn_it p j z) = g0 (cn_it p (j + 1) z) (cn_it p j z))

theorem cn_W2_0 {t q : Nat → Int} {g : Nat → Nat → Int} {p : Nat → Nat} {z L : Nat} {a : Int} (ho : cn_St t g) (hq : cn_Opt t g q) : cn_W2 t q p z L a g 0 g := by
  refine ⟨ho, hq, fun w hw => ?_, fun j _ _ => rfl⟩
  rw [cn_it_0]
  omega

theorem cn_W2_r {t q : Nat → Int} {g0 g : Nat → Nat → Int} {p : Nat → Nat} {z L i : Nat} {a : Int} (hi : i < L) (h : cn_W2 t q p z L a g0 i g) :
    cn_room t g (cn_it p (i + 1) z) (cn_it p i z) = cn_room t g0 (cn_it p (i + 1) z) (cn_it p i z) := by
  have f1 := h.2.2.2 i (Nat.le_refl _) hi
  unfold cn_room
  rw [f1]

theorem cn_W2_s {t q : Nat → Int} {g0 g : Nat → Nat → Int} {S : Nat → Prop} {p : Nat → Nat} {z L i : Nat} {a : Int} (ha : 0 ≤ a) (hi : i < L) (ht : ∀ u v, u < 7 → v < 7 → 0 ≤ t (u * 7 + v))
    (hw : cn_Wy t g0 S q p z L) (hr : a ≤ cn_room t g0 (cn_it p (i + 1) z) (cn_it p i z))
    (h : cn_W2 t q p z L a g0 i g) : cn_W2 t q p z L a g0 (i + 1) (cn_add g (cn_it p (i + 1) z) (cn_it p i z) a) := by
  have hr' := cn_W2_r hi h
  obtain ⟨h1, h2, h3, h4⟩ := h
  obtain ⟨w1, w2, hin, w4, hne, w6⟩ := hw
  have hv := hin i (by omega)
  have hu := hin (i + 1) (by omega)
  have huv : cn_it p (i + 1) z ≠ cn_it p i z := fun e => hne i (i + 1) (by omega) (by omega) e.symm
  have f1 := h4 i (Nat.le_refl _) hi
  have ht' : q (cn_it p i z) - q (cn_it p (i + 1) z) = cn_cost g (cn_it p (i + 1) z) (cn_it p i z) := by
    have := (w6 i hi).2
    unfold cn_cost at this ⊢
    rw [f1]
    exact this
  refine ⟨cn_add_St h1 hu hv huv ha (by omega) ht, cn_add_Opt h1 h2 hu hv huv ha (by omega) ht', fun w hw => ?_, fun j hj hjL => ?_⟩
  · rw [cn_add_po hu hv huv, h3 w hw]
    omega
  · have n1 := hne i j (by omega) (by omega)
    have n2 := hne i (j + 1) (by omega) (by omega)
    have g1 := h4 j (by omega) hjL
    rw [cn_add_3 (fun e => n1 e.2.symm) (fun e => n2 e.1.symm)]
    exact g1

/-- the room of a set -/
def cn_rm (t P : Nat → Int) (M : Nat → Bool) : Int :=
  cn_sum (fun u => if M u then cn_sum (fun v => if M v then 0 else t (u * 7 + v)) 7 - P u else 0) 7
def cn_Ok (t P : Nat → Int) : Prop := (∀ M : Nat → Bool, 0 ≤ cn_rm t P M) ∧ cn_sum P 7 = 0

/-- the room is the trust out of the set less its positions -/
theorem cn_rm_eq (t P : Nat → Int) (M : Nat → Bool) :
    cn_rm t P M = cn_sum (fun u => if M u then cn_sum (fun v => if M v then 0 else t (u * 7 + v)) 7 else 0) 7 - cn_sum (fun u => if M u then P u else 0) 7 := by
  rw [← cn_sum_sub]
  unfold cn_rm
  refine cn_sum_congr (fun u _ => ?_)
  show (if M u then cn_sum (fun v => if M v then 0 else t (u * 7 + v)) 7 - P u else 0) = (if M u then cn_sum (fun v => if M v then 0 else t (u * 7 + v)) 7 else 0) - (if M u then P u else 0)
  by_cases e : M u = true
  · rw [if_pos e, if_pos e, if_pos e]
  · rw [if_neg e, if_neg e, if_neg e]
    rfl

/-- a debtor reaches a creditor -/
theorem cn_reach {t P un d : Nat → Int} {g : Nat → Nat → Int} {U : Int} {s : Nat} (hs : s < 7) (hok : cn_Ok t P) (hn : cn_St t g) (hun : ∀ w, w < 7 → un w = P w - cn_po g w)
    (hds : d s ≠ U) (hneg : un s < 0) (hcl : ∀ u v, u < 7 → v < 7 → d u ≠ U → cn_R t g u v → d v ≠ U) : ∃ v, v < 7 ∧ d v ≠ U ∧ 0 < un v := by
  obtain ⟨M, hM⟩ : ∃ M : Nat → Bool, M = fun v => decide (d v = U) := ⟨_, rfl⟩
  have rm := hok.1 M
  rw [cn_rm_eq] at rm
  have Mt : ∀ v, M v = true → d v = U := by
    intro v h
    rw [hM] at h
    exact of_decide_eq_true h
  have Mf : ∀ v, ¬ M v = true → d v ≠ U := by
    intro v h e
    rw [hM] at h
    exact h (decide_eq_true e)
  -- what the set is owed from without
  have e2 : cn_sum (fun v => if M v then cn_po g v else 0) 7
      = cn_sum (fun v => cn_sum (fun x => if M v then (if M x then g x v else 0) else 0) 7) 7 + cn_sum (fun v => if M v then cn_sum (fun x => if M x then 0 else t (v * 7 + x)) 7 else 0) 7 := by
    rw [← cn_sum_add]
    refine cn_sum_congr (fun v hv => ?_)
    by_cases e : M v = true
    · rw [if_pos e, if_pos e]
      have k : cn_sum (fun x => if M v then (if M x then g x v else 0) else 0) 7 = cn_sum (fun x => if M x then g x v else 0) 7 :=
        cn_sum_congr (fun x _ => if_pos e)
      rw [k, ← cn_sum_add]
      unfold cn_po
      refine cn_sum_congr (fun x hx => ?_)
      show g x v = (if M x then g x v else 0) + (if M x then 0 else t (v * 7 + x))
      by_cases f : M x = true
      · rw [if_pos f, if_pos f]
        omega
      · rw [if_neg f, if_neg f]
        have dx := Mf x f
        have dv := Mt v e
        have xv : x ≠ v := fun z => dx (z ▸ dv)
        have nr : ¬ 0 < cn_room t g x v := fun z => hcl x v hx hv dx ⟨xv, z⟩ dv
        have A := hn x v hx hv
        unfold cn_room at nr
        by_cases b : g x v < 0
        · rw [if_pos b] at nr
          omega
        · rw [if_neg b] at nr
          omega
    · rw [if_neg e, if_neg e]
      have k : cn_sum (fun x => if M v then (if M x then g x v else 0) else 0) 7 = cn_sum (fun _ => 0) 7 :=
        cn_sum_congr (fun x _ => if_neg e)
      rw [k, cn_sum_0]
      rfl
  have e3 : cn_sum (fun v => cn_sum (fun x => if M v then (if M x then g x v else 0) else 0) 7) 7 = 0 := by
    refine cn_anti (f := fun v x => if M v then (if M x then g x v else 0) else 0) (fun u v hu hv => ?_)
    show (if M u then (if M v then g v u else 0) else 0) = - (if M v then (if M u then g u v else 0) else 0)
    have a := (hn v u hv hu).1
    by_cases e : M u = true
    · by_cases f : M v = true
      · rw [if_pos e, if_pos f, if_pos f, if_pos e]
        exact a
      · rw [if_pos e, if_neg f, if_neg f]
        rfl
    · rw [if_neg e]
      by_cases f : M v = true
      · rw [if_pos f, if_neg e]
        rfl
      · rw [if_neg f]
        rfl
  -- within and without
  have tot : cn_sum un 7 = 0 := by
    have k : cn_sum un 7 = cn_sum (fun w => P w - cn_po g w) 7 := cn_sum_congr hun
    rw [k, cn_sum_sub, hok.2, cn_po_sum hn]
    rfl
  have within : cn_sum (fun v => if M v then un v else 0) 7 = cn_sum (fun v => if M v then P v else 0) 7 - cn_sum (fun v => if M v then cn_po g v else 0) 7 := by
    rw [← cn_sum_sub]
    refine cn_sum_congr (fun v hv => ?_)
    show (if M v then un v else 0) = (if M v then P v else 0) - (if M v then cn_po g v else 0)
    by_cases e : M v = true
    · rw [if_pos e, if_pos e, if_pos e]
      exact hun v hv
    · rw [if_neg e, if_neg e, if_neg e]
      rfl
  have both : cn_sum un 7 = cn_sum (fun v => if M v then un v else 0) 7 + cn_sum (fun v => if M v then 0 else un v) 7 := by
    rw [← cn_sum_add]
    refine cn_sum_congr (fun v _ => ?_)
    show un v = (if M v then un v else 0) + (if M v then 0 else un v)
    by_cases e : M v = true
    · rw [if_pos e, if_pos e]
      omega
    · rw [if_neg e, if_neg e]
      omega
  apply Classical.byContradiction
  intro no
  have le : ∀ v, v < 7 → 0 ≤ - (if M v then 0 else un v) := by
    intro v hv
    by_cases e : M v = true
    · rw [if_pos e]
      decide
    · rw [if_neg e]
      have : ¬ 0 < un v := fun z => no ⟨v, hv, Mf v e, z⟩
      omega
  have z := cn_sum_z (f := fun v => - (if M v then 0 else un v)) (n := 7) le (by rw [cn_sum_neg]; omega) s hs
  have ms : ¬ M s = true := fun y => hds (Mt s y)
  have z' : - (if M s then 0 else un s) = 0 := z
  rw [if_neg ms] at z'
  omega

/-- what is still to be settled -/
def cn_mu (un : Nat → Int) : Int := cn_sum (fun w => if 0 < un w then un w else 0) 7

theorem cn_mu_s {un : Nat → Int} {s z : Nat} {a : Int} (hz : z < 7) (hsz : s ≠ z) (hs : un s + a ≤ 0) (ha : 0 ≤ a) (hz1 : 0 < un z) (hz2 : a ≤ un z) :
    cn_mu (cn_up (cn_up un s (un s + a)) z (un z - a)) = cn_mu un - a := by
  unfold cn_mu
  have k : cn_sum (fun w => if 0 < cn_up (cn_up un s (un s + a)) z (un z - a) w then cn_up (cn_up un s (un s + a)) z (un z - a) w else 0) 7
      = cn_sum (cn_up (fun w => if 0 < un w then un w else 0) z (un z - a)) 7 := by
    refine cn_sum_congr (fun w _ => ?_)
    show (if 0 < cn_up (cn_up un s (un s + a)) z (un z - a) w then cn_up (cn_up un s (un s + a)) z (un z - a) w else 0) = _
    by_cases e : w = z
    · subst e
      rw [cn_up_s, cn_up_s]
      split <;> omega
    · rw [cn_up_n e, cn_up_n e]
      by_cases f : w = s
      · subst f
        rw [cn_up_s, if_neg (by omega), if_neg (by omega)]
      · rw [cn_up_n f]
  rw [k, cn_sum_up _ _ hz]
  show _ + (un z - a - (if 0 < un z then un z else 0)) = _
  rw [if_pos hz1]
  omega

theorem cn_mu_0 {t P : Nat → Int} (hok : cn_Ok t P) (ht : ∀ u v, u < 7 → v < 7 → t (u * 7 + v) ≤ 1000) : cn_mu P ≤ 12000 := by
  obtain ⟨M, hM⟩ : ∃ M : Nat → Bool, M = fun v => decide (0 < P v) := ⟨_, rfl⟩
  have rm := hok.1 M
  rw [cn_rm_eq] at rm
  have e1' : cn_mu P = cn_sum (fun u => if M u then P u else 0) 7 := by
    refine cn_sum_congr (fun u _ => ?_)
    have hu : M u = decide (0 < P u) := by rw [hM]
    rw [hu]
    by_cases e : 0 < P u
    · rw [if_pos e, if_pos (decide_eq_true e)]
    · rw [if_neg e, if_neg (fun z => e (of_decide_eq_true z))]
  generalize hc : cn_sum (fun v => if M v then 0 else 1) 7 = c at *
  generalize hk : cn_sum (fun v => if M v then 1 else 0) 7 = k at *
  have kc : k + c = 7 := by
    rw [← hc, ← hk, ← cn_sum_add]
    have : cn_sum (fun v => (if M v then (1 : Int) else 0) + (if M v then 0 else 1)) 7 = cn_sum (fun _ => 1) 7 := by
      refine cn_sum_congr (fun v _ => ?_)
      by_cases e : M v = true
      · rw [if_pos e, if_pos e]; rfl
      · rw [if_neg e, if_neg e]; rfl
    rw [this]
    rfl
  have k0 : 0 ≤ k := by
    rw [← hk]
    refine cn_sum_nn (fun v _ => ?_)
    split <;> decide
  have c0 : 0 ≤ c := by
    rw [← hc]
    refine cn_sum_nn (fun v _ => ?_)
    split <;> decide
  have le : cn_sum (fun u => if M u then cn_sum (fun v => if M v then 0 else t (u * 7 + v)) 7 else 0) 7 ≤ (1000 * c) * k := by
    rw [← hk, ← cn_sum_mul]
    refine cn_sum_le (fun u hu => ?_)
    by_cases e : M u = true
    · rw [if_pos e, if_pos e, Int.mul_one, ← hc, ← cn_sum_mul]
      refine cn_sum_le (fun v hv => ?_)
      by_cases f : M v = true
      · rw [if_pos f, if_pos f]
        decide
      · rw [if_neg f, if_neg f]
        have := ht u v hu hv
        omega
    · rw [if_neg e, if_neg e]
      omega
  have kk : k = 0 ∨ k = 1 ∨ k = 2 ∨ k = 3 ∨ k = 4 ∨ k = 5 ∨ k = 6 ∨ k = 7 := by omega
  rcases kk with x | x | x | x | x | x | x | x <;> rw [x] at le <;> omega

/-- the settling: k rounds are done -/
def cn_Se (t P : Nat → Int) (k : Nat) (g : Nat → Nat → Int) (un q : Nat → Int) : Prop :=
  cn_St t g ∧ cn_Opt t g q ∧ (∀ w, w < 7 → un w = P w - cn_po g w) ∧ cn_mu un + k ≤ 12000

theorem cn_Se_0 {t P un : Nat → Int} (hok : cn_Ok t P) (ht : ∀ u v, u < 7 → v < 7 → 0 ≤ t (u * 7 + v) ∧ t (u * 7 + v) ≤ 1000)
    (hun : ∀ w, w < 7 → un w = P w) : cn_Se t P 0 (fun _ _ => 0) un (fun _ => 0) := by
  refine ⟨fun u v hu hv => ?_, fun u v hu hv _ _ => ?_, fun w hw => ?_, ?_⟩
  · have := ht v u hv hu
    show (0 : Int) = -0 ∧ (0 : Int) ≤ t (v * 7 + u)
    exact ⟨by omega, by omega⟩
  · show (0 : Int) - 0 ≤ if (0 : Int) < 0 then -1 else 1
    decide
  · have k : cn_po (fun _ _ => 0) w = 0 := cn_sum_0 7
    rw [hun w hw, k]
    omega
  · have k : cn_mu un = cn_mu P := by
      refine cn_sum_congr (fun w hw => ?_)
      show (if 0 < un w then un w else 0) = (if 0 < P w then P w else 0)
      rw [hun w hw]
    have := cn_mu_0 hok (fun u v hu hv => (ht u v hu hv).2)
    rw [k]
    omega

theorem cn_Se_s {t P q q' un : Nat → Int} {g g' : Nat → Nat → Int} {p : Nat → Nat} {s z k L : Nat} {a : Int} (h : cn_Se t P k g un q) (hs : s < 7) (hz : z < 7)
    (ha : 1 ≤ a) (hsn : a ≤ - un s) (hzp : a ≤ un z) (hL : cn_it p L z = s) (w2 : cn_W2 t q' p z L a g L g') :
    cn_Se t P (k + 1) g' (cn_up (cn_up un s (un s + a)) z (un z - a)) q' := by
  obtain ⟨h1, h2, h3, h4⟩ := h
  obtain ⟨w1, wq, wp, wr⟩ := w2
  have sz : s ≠ z := by
    intro e
    subst e
    omega
  refine ⟨w1, wq, fun w hw => ?_, ?_⟩
  · have e := wp w hw
    rw [hL] at e
    have f := h3 w hw
    by_cases x : w = z
    · subst x
      rw [cn_up_s]
      rw [if_pos rfl, if_neg (fun y => sz y.symm)] at e
      omega
    · rw [cn_up_n x]
      rw [if_neg x] at e
      by_cases y : w = s
      · subst y
        rw [cn_up_s]
        rw [if_pos rfl] at e
        omega
      · rw [cn_up_n y]
        rw [if_neg y] at e
        omega
  · rw [cn_mu_s hz sz (by omega) (by omega) (by omega) hzp]
    omega

theorem cn_Se_sum {t P q un : Nat → Int} {g : Nat → Nat → Int} {k : Nat} (hok : cn_Ok t P) (h : cn_Se t P k g un q) : cn_sum un 7 = 0 := by
  have e : cn_sum un 7 = cn_sum (fun w => P w - cn_po g w) 7 := cn_sum_congr h.2.2.1
  rw [e, cn_sum_sub, hok.2, cn_po_sum h.1]
  rfl

/-- no debtor is left: all is settled -/
theorem cn_Se_e1 {t P q un : Nat → Int} {g : Nat → Nat → Int} {k : Nat} (hok : cn_Ok t P) (h : cn_Se t P k g un q) (he : ∀ w, w < 7 → 0 ≤ un w) : ∀ w, w < 7 → un w = 0 :=
  cn_sum_z he (by have := cn_Se_sum hok h; omega)

/-- no creditor is left: all is settled -/
theorem cn_Se_e2 {t P q un : Nat → Int} {g : Nat → Nat → Int} {k : Nat} (hok : cn_Ok t P) (h : cn_Se t P k g un q) (he : ∀ w, w < 7 → un w ≤ 0) : ∀ w, w < 7 → un w = 0 := by
  intro w hw
  have x := cn_sum_z (f := fun w => - un w) (n := 7) (fun w hw => by have := he w hw; omega) (by rw [cn_sum_neg]; have := cn_Se_sum hok h; omega) w hw
  have x' : - un w = 0 := x
  omega

theorem cn_mu_pos {un : Nat → Int} {z : Nat} (hz : z < 7) (h : 0 < un z) : 0 < cn_mu un := by
  apply Classical.byContradiction
  intro n
  have nn : ∀ w, w < 7 → 0 ≤ (if 0 < un w then un w else 0) := by
    intro w _
    split <;> omega
  have y : (if 0 < un z then un z else 0) = 0 := cn_sum_z (f := fun w => if 0 < un w then un w else 0) (n := 7) nn (by unfold cn_mu at n; omega) z hz
  rw [if_pos h] at y
  omega

/-- 12000 rounds are done: all is settled -/
theorem cn_Se_e3 {t P q un : Nat → Int} {g : Nat → Nat → Int} {k : Nat} (hok : cn_Ok t P) (h : cn_Se t P k g un q) (he : 12000 ≤ k) : ∀ w, w < 7 → un w = 0 :=
  cn_Se_e2 hok h (fun w hw => by
    by_cases e : 0 < un w
    · have a := cn_mu_pos hw e
      have b := h.2.2.2
      omega
    · omega)

/-- the least sum of all debts in a state with positions P -/
def cn_Debts (t P : Nat → Int) (r : Int) : Prop :=
  (∃ g, cn_St t g ∧ (∀ u, u < 7 → cn_po g u = P u) ∧ cn_ab g = 2 * r) ∧ ∀ g, cn_St t g → (∀ u, u < 7 → cn_po g u = P u) → 2 * r ≤ cn_ab g

theorem cn_Debts_eq {t P : Nat → Int} {r r' : Int} (h : cn_Debts t P r) (h' : cn_Debts t P r') : r = r' := by
  obtain ⟨⟨g, a, b, c⟩, d⟩ := h
  obtain ⟨⟨g', a', b', c'⟩, d'⟩ := h'
  have x := d g' a' b'
  have y := d' g a b
  omega

theorem cn_Se_fin {t P q un : Nat → Int} {g : Nat → Nat → Int} {k : Nat} (h : cn_Se t P k g un q) (hz : ∀ w, w < 7 → un w = 0) : cn_Debts t P (cn_tot g) := by
  obtain ⟨h1, h2, h3, h4⟩ := h
  have pos : ∀ u, u < 7 → cn_po g u = P u := by
    intro u hu
    have a := h3 u hu
    have b := hz u hu
    omega
  refine ⟨⟨g, h1, pos, cn_ab_tot h1⟩, fun f hf hp => ?_⟩
  rw [← cn_ab_tot h1]
  exact cn_least h1 h2 hf (fun u hu => (hp u hu).trans (pos u hu).symm)
end
section
theorem cn_rm_congr {t t' P P' : Nat → Int} {M M' : Nat → Bool} (ht : ∀ u v, u < 7 → v < 7 → t (u * 7 + v) = t' (u * 7 + v)) (hP : ∀ u, u < 7 → P u = P' u) (hM : ∀ u, u < 7 → M u = M' u) :
    cn_rm t P M = cn_rm t' P' M' := by
  refine cn_sum_congr (fun u hu => ?_)
  have e : cn_sum (fun v => if M v then 0 else t (u * 7 + v)) 7 = cn_sum (fun v => if M' v then 0 else t' (u * 7 + v)) 7 :=
    cn_sum_congr (fun v hv => by rw [hM v hv, ht u v hu hv])
  rw [e, hM u hu, hP u hu]

/-- a trust anew -/
theorem cn_rm_t {t P : Nat → Int} {M : Nat → Bool} {u v : Nat} {y : Int} (hu : u < 7) (hv : v < 7) :
    cn_rm (cn_up t (u * 7 + v) y) P M = cn_rm t P M + (if M u = true ∧ ¬ M v = true then y - t (u * 7 + v) else 0) := by
  unfold cn_rm
  have far : ∀ a, a < 7 → a ≠ u → cn_sum (fun b => if M b then 0 else cn_up t (u * 7 + v) y (a * 7 + b)) 7 = cn_sum (fun b => if M b then 0 else t (a * 7 + b)) 7 := by
    intro a ha e
    refine cn_sum_congr (fun b hb => ?_)
    rw [cn_up_n (by omega)]
  have near : cn_sum (fun b => if M b then 0 else cn_up t (u * 7 + v) y (u * 7 + b)) 7 = cn_sum (fun b => if M b then 0 else t (u * 7 + b)) 7 + (if M v then 0 else y - t (u * 7 + v)) := by
    have k : cn_sum (fun b => if M b then 0 else cn_up t (u * 7 + v) y (u * 7 + b)) 7 = cn_sum (cn_up (fun b => if M b then 0 else t (u * 7 + b)) v (if M v then 0 else y)) 7 := by
      refine cn_sum_congr (fun b hb => ?_)
      by_cases e : b = v
      · subst e
        rw [cn_up_s, cn_up_s]
      · rw [cn_up_n e, cn_up_n (by omega)]
    rw [k, cn_sum_up _ _ hv]
    by_cases e : M v = true
    · simp only [e, if_true]
      omega
    · simp only [e]
      rfl
  have k : cn_sum (fun a => if M a then cn_sum (fun b => if M b then 0 else cn_up t (u * 7 + v) y (a * 7 + b)) 7 - P a else 0) 7
      = cn_sum (cn_up (fun a => if M a then cn_sum (fun b => if M b then 0 else t (a * 7 + b)) 7 - P a else 0) u
        (if M u then cn_sum (fun b => if M b then 0 else t (u * 7 + b)) 7 + (if M v then 0 else y - t (u * 7 + v)) - P u else 0)) 7 := by
    refine cn_sum_congr (fun a ha => ?_)
    by_cases e : a = u
    · subst e
      rw [cn_up_s, near]
    · rw [cn_up_n e, far a ha e]
  rw [k, cn_sum_up _ _ hu]
  by_cases e : M u = true
  · by_cases f : M v = true
    · simp only [e, f, if_true, not_true, and_false, if_false]
      omega
    · simp only [e, f, if_true]
      simp
      omega
  · simp only [e]
    simp

/-- a position anew -/
theorem cn_rm_P {t P : Nat → Int} {M : Nat → Bool} {w : Nat} {y : Int} (hw : w < 7) :
    cn_rm t (cn_up P w y) M = cn_rm t P M - (if M w = true then y - P w else 0) := by
  unfold cn_rm
  have k : cn_sum (fun a => if M a then cn_sum (fun b => if M b then 0 else t (a * 7 + b)) 7 - cn_up P w y a else 0) 7
      = cn_sum (cn_up (fun a => if M a then cn_sum (fun b => if M b then 0 else t (a * 7 + b)) 7 - P a else 0) w
        (if M w then cn_sum (fun b => if M b then 0 else t (w * 7 + b)) 7 - y else 0)) 7 := by
    refine cn_sum_congr (fun a ha => ?_)
    by_cases e : a = w
    · subst e
      rw [cn_up_s, cn_up_s]
    · rw [cn_up_n e, cn_up_n e]
  rw [k, cn_sum_up _ _ hw]
  by_cases e : M w = true
  · simp only [e, if_true]
    omega
  · simp only [e]
    simp

/-- trusts as they may be -/
def cn_T (t : Nat → Int) : Prop := ∀ j, 0 ≤ t j ∧ t j ≤ 1000

theorem cn_in_b {t : Nat → Int} {M : Nat → Bool} {u : Nat} (ht : cn_T t) : 0 ≤ cn_sum (fun b => if M b then 0 else t (u * 7 + b)) 7 ∧ cn_sum (fun b => if M b then 0 else t (u * 7 + b)) 7 ≤ 7000 := by
  refine ⟨cn_sum_nn (fun b _ => ?_), ?_⟩
  · have := ht (u * 7 + b)
    split <;> omega
  · refine Int.le_trans (cn_sum_ub (b := 1000) (fun b _ => ?_)) (by omega)
    have := ht (u * 7 + b)
    split <;> omega

theorem cn_rm_hi {t P : Nat → Int} {M : Nat → Bool} (ht : cn_T t) : cn_rm t P M ≤ cn_sum (fun u => if M u then 7000 - P u else 0) 7 := by
  refine cn_sum_le (fun u hu => ?_)
  have := (cn_in_b (M := M) (u := u) ht).2
  split <;> omega

theorem cn_rm_b {t P : Nat → Int} {M : Nat → Bool} (ht : cn_T t) (hP : ∀ w, w < 7 → -1000000 ≤ P w ∧ P w ≤ 1000000) : -8000000 ≤ cn_rm t P M ∧ cn_rm t P M ≤ 8000000 := by
  refine ⟨?_, ?_⟩
  · have h : cn_sum (fun _ => -1000000) 7 ≤ cn_rm t P M := by
      refine cn_sum_le (fun u hu => ?_)
      have a := (cn_in_b (M := M) (u := u) ht).1
      have b := hP u hu
      split <;> omega
    have e : cn_sum (fun _ => -1000000) 7 = -7000000 := by decide
    omega
  · have h : cn_rm t P M ≤ cn_sum (fun _ => 1007000) 7 := by
      refine cn_sum_le (fun u hu => ?_)
      have a := (cn_in_b (M := M) (u := u) ht).2
      have b := hP u hu
      split <;> omega
    have e : cn_sum (fun _ => 1007000) 7 = 7049000 := by decide
    omega

/-- positions that are possible are near 0 -/
theorem cn_P_b {t P : Nat → Int} (ht : cn_T t) (hr : ∀ k, k < 128 → 0 ≤ cn_rm t P (cn_bit k)) (hs : cn_sum P 7 = 0) : ∀ w, w < 7 → -50000 ≤ P w ∧ P w ≤ 50000 := by
  intro w hw
  have all : ∀ M : Nat → Bool, 0 ≤ cn_rm t P M := by
    intro M
    obtain ⟨k, hk, e⟩ := cn_set M
    have := hr k hk
    rw [cn_rm_congr (t' := t) (P' := P) (M' := M) (fun _ _ _ _ => rfl) (fun _ _ => rfl) e] at this
    exact this
  have up : P w ≤ 7000 := by
    have a := all (fun u => decide (u = w))
    have b := cn_rm_hi (P := P) (M := fun u => decide (u = w)) ht
    have e : cn_sum (fun u => if decide (u = w) = true then 7000 - P u else 0) 7 = cn_sum (cn_up (fun _ => 0) w (7000 - P w)) 7 := by
      refine cn_sum_congr (fun u _ => ?_)
      by_cases f : u = w
      · subst f
        rw [cn_up_s, if_pos (decide_eq_true rfl)]
      · rw [cn_up_n f, if_neg (fun z => f (of_decide_eq_true z))]
    rw [e, cn_sum_up _ _ hw, cn_sum_0] at b
    omega
  have lo : -P w ≤ 42000 := by
    have a := all (fun u => decide (u ≠ w))
    have b := cn_rm_hi (P := P) (M := fun u => decide (u ≠ w)) ht
    have e : cn_sum (fun u => if decide (u ≠ w) = true then 7000 - P u else 0) 7 = cn_sum (cn_up (fun u => 7000 - P u) w 0) 7 := by
      refine cn_sum_congr (fun u _ => ?_)
      by_cases f : u = w
      · subst f
        rw [cn_up_s, if_neg (fun z => (of_decide_eq_true z) rfl)]
      · rw [cn_up_n f, if_pos (decide_eq_true f)]
    rw [e, cn_sum_up _ _ hw, cn_sum_sub, hs] at b
    have c : cn_sum (fun _ => (7000 : Int)) 7 = 49000 := by decide
    omega
  omega

theorem cn_Ok_of {t P : Nat → Int} (hr : ∀ k, k < 128 → 0 ≤ cn_rm t P (cn_bit k)) (hs : cn_sum P 7 = 0) : cn_Ok t P := by
  refine ⟨fun M => ?_, hs⟩
  obtain ⟨k, hk, e⟩ := cn_set M
  have := hr k hk
  rw [cn_rm_congr (t' := t) (P' := P) (M' := M) (fun _ _ _ _ => rfl) (fun _ _ => rfl) e] at this
  exact this

/-- the least room of the sets below n that have m and have nothing of x (and of m itself) -/
def cn_lr (t P : Nat → Int) (m x : Nat) : Nat → Int
  | 0 => cn_rm t P (cn_bit m)
  | n + 1 => if n &&& m = m ∧ n &&& x = 0 ∧ cn_rm t P (cn_bit n) < cn_lr t P m x n then cn_rm t P (cn_bit n) else cn_lr t P m x n

def cn_Lr (t P : Nat → Int) (m x : Nat) (r : Int) : Prop :=
  (∀ s, s < 128 → s &&& m = m → s &&& x = 0 → r ≤ cn_rm t P (cn_bit s)) ∧ ∃ s, s < 128 ∧ s &&& m = m ∧ s &&& x = 0 ∧ r = cn_rm t P (cn_bit s)

theorem cn_Lr_eq {t P : Nat → Int} {m x : Nat} {r r' : Int} (h : cn_Lr t P m x r) (h' : cn_Lr t P m x r') : r = r' := by
  obtain ⟨a, s, s1, s2, s3, s4⟩ := h
  obtain ⟨a', s', s1', s2', s3', s4'⟩ := h'
  have x := a s' s1' s2' s3'
  have y := a' s s1 s2 s3
  omega

theorem cn_lr_Lr {t P : Nat → Int} {m x : Nat} (hm : m < 128) (hx : m &&& x = 0) : cn_Lr t P m x (cn_lr t P m x 128) := by
  have key : ∀ n, n ≤ 128 → (∀ s, s < n → s &&& m = m → s &&& x = 0 → cn_lr t P m x n ≤ cn_rm t P (cn_bit s)) ∧ ∃ s, s < 128 ∧ s &&& m = m ∧ s &&& x = 0 ∧ cn_lr t P m x n = cn_rm t P (cn_bit s) := by
    intro n
    induction n with
    | zero => intro _; exact ⟨fun s hs => by omega, m, hm, Nat.and_self m, hx, rfl⟩
    | succ n ih =>
      intro hn
      obtain ⟨a, b⟩ := ih (by omega)
      have e : cn_lr t P m x (n + 1) = if n &&& m = m ∧ n &&& x = 0 ∧ cn_rm t P (cn_bit n) < cn_lr t P m x n then cn_rm t P (cn_bit n) else cn_lr t P m x n := rfl
      by_cases c : n &&& m = m ∧ n &&& x = 0 ∧ cn_rm t P (cn_bit n) < cn_lr t P m x n
      · rw [if_pos c] at e
        rw [e]
        refine ⟨fun s hs h1 h2 => ?_, n, by omega, c.1, c.2.1, rfl⟩
        by_cases f : s = n
        · subst f; exact Int.le_refl _
        · have := a s (by omega) h1 h2
          omega
      · rw [if_neg c] at e
        rw [e]
        refine ⟨fun s hs h1 h2 => ?_, b⟩
        by_cases f : s = n
        · subst f
          have : ¬ cn_rm t P (cn_bit s) < cn_lr t P m x s := fun z => c ⟨h1, h2, z⟩
          omega
        · exact a s (by omega) h1 h2
  exact key 128 (Nat.le_refl _)

theorem cn_lr_b {t P : Nat → Int} {m x : Nat} (ht : cn_T t) (hP : ∀ w, w < 7 → -1000000 ≤ P w ∧ P w ≤ 1000000) : ∀ n, -8000000 ≤ cn_lr t P m x n ∧ cn_lr t P m x n ≤ 8000000 := by
  intro n
  induction n with
  | zero => exact cn_rm_b ht hP
  | succ n ih =>
    have e : cn_lr t P m x (n + 1) = if n &&& m = m ∧ n &&& x = 0 ∧ cn_rm t P (cn_bit n) < cn_lr t P m x n then cn_rm t P (cn_bit n) else cn_lr t P m x n := rfl
    rw [e]
    split
    · exact cn_rm_b ht hP
    · exact ih

/-- what Y has of it behind n sets -/
def cn_Ly (t P : Nat → Int) (m x n : Nat) (r : Int) : Prop :=
  (r = -1 ∧ ∀ s, s < n → s &&& m = m → ¬ s &&& x = 0) ∨
  ((∀ s, s < n → s &&& m = m → s &&& x = 0 → r ≤ cn_rm t P (cn_bit s)) ∧ ∃ s, s < n ∧ s &&& m = m ∧ s &&& x = 0 ∧ r = cn_rm t P (cn_bit s))

theorem cn_Ly_0 {t P : Nat → Int} {m x : Nat} : cn_Ly t P m x 0 (-1) := Or.inl ⟨rfl, fun s hs => by omega⟩

theorem cn_Ly_no {t P : Nat → Int} {m x n : Nat} {r : Int} (h : cn_Ly t P m x n r) (hn : n &&& m = m → ¬ n &&& x = 0) : cn_Ly t P m x (n + 1) r := by
  rcases h with ⟨a, b⟩ | ⟨a, s, s1, s2⟩
  · refine Or.inl ⟨a, fun s hs h1 => ?_⟩
    by_cases f : s = n
    · subst f; exact hn h1
    · exact b s (by omega) h1
  · refine Or.inr ⟨fun s hs h1 h2 => ?_, s, by omega, s2⟩
    by_cases f : s = n
    · subst f; exact absurd h2 (hn h1)
    · exact a s (by omega) h1 h2

theorem cn_Ly_new {t P : Nat → Int} {m x n : Nat} {r : Int} (h : cn_Ly t P m x n r) (h1 : n &&& m = m) (h2 : n &&& x = 0)
    (hc : r < 0 ∨ cn_rm t P (cn_bit n) < r) (hr : ∀ s, s < 128 → 0 ≤ cn_rm t P (cn_bit s)) (hn : n < 128) : cn_Ly t P m x (n + 1) (cn_rm t P (cn_bit n)) := by
  refine Or.inr ⟨fun s hs g1 g2 => ?_, n, by omega, h1, h2, rfl⟩
  by_cases f : s = n
  · subst f; exact Int.le_refl _
  · rcases h with ⟨a, b⟩ | ⟨a, s', s1, s2, s3, s4⟩
    · exact absurd g2 (b s (by omega) g1)
    · have x := a s (by omega) g1 g2
      have y := hr s' (by omega)
      omega

theorem cn_Ly_keep {t P : Nat → Int} {m x n : Nat} {r : Int} (h : cn_Ly t P m x n r)
    (hc : ¬ r < 0) (hc' : ¬ cn_rm t P (cn_bit n) < r) : cn_Ly t P m x (n + 1) r := by
  rcases h with ⟨a, b⟩ | ⟨a, s', s1, s2⟩
  · omega
  · refine Or.inr ⟨fun s hs g1 g2 => ?_, s', by omega, s2⟩
    by_cases f : s = n
    · subst f; omega
    · exact a s (by omega) g1 g2

theorem cn_Ly_e {t P : Nat → Int} {m x : Nat} {r : Int} (h : cn_Ly t P m x 128 r) (hm : m < 128) (hx : m &&& x = 0) : cn_Lr t P m x r := by
  rcases h with ⟨a, b⟩ | h
  · exact absurd hx (b m hm (Nat.and_self m))
  · exact h

theorem cn_Ly_b {t P : Nat → Int} {m x n : Nat} {r : Int} (h : cn_Ly t P m x n r) (ht : cn_T t) (hP : ∀ w, w < 7 → -1000000 ≤ P w ∧ P w ≤ 1000000) : -8000000 ≤ r ∧ r ≤ 8000000 := by
  rcases h with ⟨a, b⟩ | ⟨a, s', s1, s2, s3, s4⟩
  · omega
  · rw [s4]
    exact cn_rm_b ht hP
end
section
theorem cn_t7 : (7 : Int32) ≤ nI 7 := by decide
theorem cn_f7 {k : Nat} (h : k < 7) : ¬ (7 : Int32) ≤ nI k := nI_ge (b := 7) h (by decide)
theorem cn_t49 : (49 : Int32) ≤ nI 49 := by decide
theorem cn_f49 {k : Nat} (h : k < 49) : ¬ (49 : Int32) ≤ nI k := nI_ge (b := 49) h (by decide)
theorem cn_t128 : (128 : Int32) ≤ nI 128 := by decide
theorem cn_f128 {k : Nat} (h : k < 128) : ¬ (128 : Int32) ≤ nI k := nI_ge (b := 128) h (by decide)
theorem cn_10 : ¬ (1 : Int32) = 0 := by decide

def cn_mem (x : Int32) : Prop := ∃ a, a < 7 ∧ x = nI a
def cn_two (x y : Int32) : Prop := ∃ a b, a < 7 ∧ b < 7 ∧ a ≠ b ∧ x = nI a ∧ y = nI b
theorem cn_nmem1 {x : Int32} (h : x < 0) : ¬ cn_mem x := fun ⟨a, ha, e⟩ => nI_pos (n := a) (by omega) (e ▸ h)
theorem cn_nmem2 {x : Int32} (h : 7 ≤ x) : ¬ cn_mem x := fun ⟨_, ha, e⟩ => cn_f7 ha (e ▸ h)

theorem cn_mX {post : Int32 → Prop} {x : Int32} (h1 : cn_mem x → post 1) (h0 : ¬ cn_mem x → post 0) : wpX_isMember post x := by
  rcases pk_ix x (n := 7) (by decide) with a | a | ⟨j, hj, rfl⟩
  · exact br_t a (h0 (cn_nmem1 a))
  · exact br_f (fun z => by
      have h : (7 : Int32) < 0 := Int32.lt_of_le_of_lt a z
      exact absurd h (by decide)) (br_t a (h0 (cn_nmem2 a)))
  · exact br_f (nI_pos (by omega)) (br_f (cn_f7 hj) (h1 ⟨j, hj, rfl⟩))

theorem cn_2X {post : Int32 → Prop} {x y : Int32} (h1 : cn_two x y → post 1) (h0 : ¬ cn_two x y → post 0) : wpX_areTwoMembers post x y := by
  unfold wpX_areTwoMembers
  refine cn_mX (fun hx => br_f cn_10 (cn_mX (fun hy => br_f cn_10 ?_) (fun hy => br_t rfl (h0 ?_)))) (fun hx => br_t rfl (h0 ?_))
  · obtain ⟨a, ha, rfl⟩ := hx
    obtain ⟨b, hb, rfl⟩ := hy
    refine pk_eq a b (fun e => h0 ?_) (fun e => h1 ⟨a, b, ha, hb, e, rfl, rfl⟩)
    rintro ⟨a', b', ha', hb', ne, e1, e2⟩
    rw [nI_eq (by omega) (by omega)] at e1 e2
    omega
  · rintro ⟨a, b, ha, hb, ne, e1, e2⟩
    exact hy ⟨b, hb, e2⟩
  · rintro ⟨a, b, ha, hb, ne, e1, e2⟩
    exact hx ⟨a, ha, e1⟩

theorem cn_mY {A B : Prop} {x : Int32} (h1 : cn_mem x → B) (h0 : ¬ cn_mem x → A) : (x < 0 → A) ∧ (¬ x < 0 → (6 < x → A) ∧ (¬ 6 < x → B)) := by
  rcases pk_ix x (n := 7) (by decide) with a | a | ⟨j, hj, rfl⟩
  · exact br_t a (h0 (cn_nmem1 a))
  · exact br_f (fun z => by
      have h : (7 : Int32) < 0 := Int32.lt_of_le_of_lt a z
      exact absurd h (by decide)) (br_t (Int32.lt_of_lt_of_le (by decide : (6 : Int32) < 7) a) (h0 (cn_nmem2 a)))
  · exact br_f (nI_pos (by omega)) (br_f (nI_nlt (a := 6) (by omega) (by decide)) (h1 ⟨j, hj, rfl⟩))

section
variable (fg : Int32) (tr po pa pe am ow un di pr : Nat → Int32)

theorem cn_2Y {post : Int32 → Prop} {x y : Int32} (h1 : cn_two x y → post 1) (h0 : ¬ cn_two x y → post 0) : wpY_isPair post (fg, tr, po, pa, pe, am, ow, un, di, pr) x y := by
  unfold wpY_isPair
  refine cn_mY (fun hx => cn_mY (fun hy => ?_) (fun hy => h0 ?_)) (fun hx => h0 ?_)
  · obtain ⟨a, ha, rfl⟩ := hx
    obtain ⟨b, hb, rfl⟩ := hy
    refine pk_eq a b (fun e => h0 ?_) (fun e => h1 ⟨a, b, ha, hb, e, rfl, rfl⟩)
    rintro ⟨a', b', ha', hb', ne, e1, e2⟩
    rw [nI_eq (by omega) (by omega)] at e1 e2
    omega
  · rintro ⟨a, b, ha, hb, ne, e1, e2⟩
    exact hy ⟨b, hb, e2⟩
  · rintro ⟨a, b, ha, hb, ne, e1, e2⟩
    exact hx ⟨a, ha, e1⟩

theorem cn_conX {post : Int32 → Prop} {m k : Nat} (hm : m < 128) (hk : k < 7) (h1 : cn_bit m k = true → post 1) (h0 : ¬ cn_bit m k = true → post 0) : wpX_contains post (nI m) (nI k) := by
  unfold wpX_contains
  rw [cn_bit_1 hm hk]
  exact br_c h1 h0
theorem cn_conY {post : Int32 → Prop} {m k : Nat} (hm : m < 128) (hk : k < 7) (h1 : cn_bit m k = true → post 1) (h0 : ¬ cn_bit m k = true → post 0) : wpY_in post (fg, tr, po, pa, pe, am, ow, un, di, pr) (nI m) (nI k) := by
  unfold wpY_in
  dsimp only
  rw [cn_bit_1 hm hk]
  exact br_c h1 h0

theorem cn_troX {post : Int32 → Prop} {m u : Nat} (hm : m < 128) (hu : u < 7)
    (h : post (cn_i (cn_sum (fun v => if cn_bit m v then 0 else cn_I tr (u * 7 + v)) 7))) : wpX_trustOutOf post (fg, tr, po, pa, pe, am, ow, un, di, pr) (nI m) (nI u) := by
  refine loop_0 (fun n k (s : Int32) => wX_trustOutOf_5 post (nI m) (nI u) fg tr po pa pe am ow un di pr n s (nI k)) (fun k s => s = cn_i (cn_sum (fun v => if cn_bit m v then 0 else cn_I tr (u * 7 + v)) k)) 7 0 ?_ ?_ ?_
  · exact cn_i_0.symm
  · intro n s hs
    subst hs
    exact br_t cn_t7 h
  · intro n k s hk hs ih
    subst hs
    refine br_f (cn_f7 hk) (cn_conX hm hk (fun e => br_f cn_10 (nm_r (nI_1 k) (ih _ ?_))) (fun e => br_t rfl ⟨?_, nm_r (e' := cn_i (cn_sum (fun v => if cn_bit m v then 0 else cn_I tr (u * 7 + v)) (k + 1))) ?_ (nm_r (nI_1 k) (ih _ rfl))⟩))
    · rw [cn_sum_s, if_pos e, Int.add_zero]
    · rw [cn_ix]
      exact cn_in49 hu hk
    · rw [cn_ix, cn_cl (by omega), cn_sum_s, if_neg e, cn_i_add, ← cn_I_of]

theorem cn_roomX {post : Int32 → Prop} {m : Nat} (hm : m < 128) (h : post (cn_i (cn_rm (cn_I tr) (cn_I po) (cn_bit m)))) : wpX_room post (fg, tr, po, pa, pe, am, ow, un, di, pr) (nI m) := by
  refine loop_0 (fun n k (s : Int32) => wX_room_4 post (nI m) fg tr po pa pe am ow un di pr n s (nI k))
    (fun k s => s = cn_i (cn_sum (fun u => if cn_bit m u then cn_sum (fun v => if cn_bit m v then 0 else cn_I tr (u * 7 + v)) 7 - cn_I po u else 0) k)) 7 0 ?_ ?_ ?_
  · exact cn_i_0.symm
  · intro n s hs
    subst hs
    exact br_t cn_t7 h
  · intro n k s hk hs ih
    subst hs
    refine br_f (cn_f7 hk) (cn_conX hm hk (fun e => br_f cn_10 (cn_troX fg tr po pa pe am ow un di pr hm hk ⟨cn_in7 hk, nm_r (e' := cn_i (cn_sum (fun u => if cn_bit m u then cn_sum (fun v => if cn_bit m v then 0 else cn_I tr (u * 7 + v)) 7 - cn_I po u else 0) (k + 1))) ?_ (nm_r (nI_1 k) (ih _ rfl))⟩)) (fun e => br_t rfl (nm_r (nI_1 k) (ih _ ?_))))
    · rw [cn_cl (by omega), cn_sum_s _ k, if_pos e, cn_i_add, cn_i_sub, ← cn_I_of]
    · rw [cn_sum_s, if_neg e, Int.add_zero]

theorem cn_lrX {post : Int32 → Prop} {m x : Nat} (hm : m < 128) (hx : x < 128) (ht : cn_T (cn_I tr)) (hP : ∀ w, w < 7 → -1000000 ≤ cn_I po w ∧ cn_I po w ≤ 1000000)
    (h : post (cn_i (cn_lr (cn_I tr) (cn_I po) m x 128))) : wpX_leastRoom post (fg, tr, po, pa, pe, am, ow, un, di, pr) (nI m) (nI x) := by
  unfold wpX_leastRoom
  refine cn_roomX fg tr po pa pe am ow un di pr hm ?_
  refine loop_0 (fun n k (s : Int32) => wX_leastRoom_9 post (nI m) (nI x) fg tr po pa pe am ow un di pr n s (nI k))
    (fun k s => s = cn_i (cn_lr (cn_I tr) (cn_I po) m x k)) 128 _ ?_ ?_ ?_
  · rfl
  · intro n s hs
    subst hs
    exact br_t cn_t128 h
  · intro n k s hk hs ih
    subst hs
    have b1 := cn_lr_b (m := m) (x := x) ht hP k
    have b2 := cn_rm_b (M := cn_bit k) ht hP
    have e0 : cn_lr (cn_I tr) (cn_I po) m x (k + 1) = if k &&& m = m ∧ k &&& x = 0 ∧ cn_rm (cn_I tr) (cn_I po) (cn_bit k) < cn_lr (cn_I tr) (cn_I po) m x k then cn_rm (cn_I tr) (cn_I po) (cn_bit k) else cn_lr (cn_I tr) (cn_I po) m x k := rfl
    refine br_f (cn_f128 hk) ?_
    by_cases c1 : k &&& m = m
    · refine br_t ((cn_and0 hm hk).mpr c1) ?_
      by_cases c2 : k &&& x = 0
      · refine br_t ((cn_and1 hx hk).mpr c2) (cn_roomX fg tr po pa pe am ow un di pr hk ?_)
        refine cn_ble _ _ rfl rfl ⟨by omega, by omega⟩ ⟨by omega, by omega⟩ (fun c3 => nm_r (nI_1 k) (ih _ ?_)) (fun c3 => nm_r (nI_1 k) (ih _ ?_))
        · rw [e0, if_neg (fun z => by omega)]
        · rw [e0, if_pos ⟨c1, c2, c3⟩]
      · refine br_f (fun z => c2 ((cn_and1 hx hk).mp z)) (nm_r (nI_1 k) (ih _ ?_))
        rw [e0, if_neg (fun z => c2 z.2.1)]
    · refine br_f (fun z => c1 ((cn_and0 hm hk).mp z)) (nm_r (nI_1 k) (ih _ ?_))
      rw [e0, if_neg (fun z => c1 z.1)]
end
end
section
def cn_G (t : Nat → Int) (m : Nat) (p : Nat) : Int := if cn_bit m (p / 7) = true then (if cn_bit m (p % 7) = true then 0 else t p) else 0
theorem cn_G_sum (t P : Nat → Int) (m : Nat) : cn_sum (cn_G t m) 49 - cn_sum (fun u => if cn_bit m u then P u else 0) 7 = cn_rm t P (cn_bit m) := by
  rw [cn_rm_eq, cn_sum49]
  have e : cn_sum (fun u => cn_sum (fun v => cn_G t m (u * 7 + v)) 7) 7 = cn_sum (fun u => if cn_bit m u then cn_sum (fun v => if cn_bit m v then 0 else t (u * 7 + v)) 7 else 0) 7 := by
    refine cn_sum_congr (fun u hu => ?_)
    by_cases c : cn_bit m u = true
    · rw [if_pos c]
      refine cn_sum_congr (fun v hv => ?_)
      unfold cn_G
      rw [show (u * 7 + v) / 7 = u by omega, show (u * 7 + v) % 7 = v by omega, if_pos c]
    · rw [if_neg c, ← cn_sum_0 7]
      refine cn_sum_congr (fun v hv => ?_)
      unfold cn_G
      rw [show (u * 7 + v) / 7 = u by omega, if_neg c]
  rw [e]
theorem cn_70 : ¬ (7 : Int32) = 0 := by decide

section
variable (fg : Int32) (tr po pa pe am ow un di pr : Nat → Int32)

theorem cn_slY {post : Int32 → Prop} {m : Nat} (hm : m < 128) (h : post (cn_i (cn_rm (cn_I tr) (cn_I po) (cn_bit m)))) : wpY_slack post (fg, tr, po, pa, pe, am, ow, un, di, pr) (nI m) := by
  refine loop_0 (fun n k (s : Int32) => wY_slack_4 post (nI m) fg tr po pa pe am ow un di pr n s (nI k)) (fun k s => s = cn_i (cn_sum (cn_G (cn_I tr) m) k)) 49 0 ?_ ?_ ?_
  · exact cn_i_0.symm
  · intro n s hs
    subst hs
    refine br_t cn_t49 ?_
    refine loop_0 (fun n k (s : Int32) => wY_slack_55 post (nI m) fg tr po pa pe am ow un di pr n s (nI k)) (fun k s => s = cn_i (cn_sum (cn_G (cn_I tr) m) 49 - cn_sum (fun u => if cn_bit m u then cn_I po u else 0) k)) 7 _ ?_ ?_ ?_
    · rw [show cn_sum (fun u => if cn_bit m u then cn_I po u else 0) 0 = 0 from rfl, Int.sub_zero]
    · intro n s hs
      subst hs
      rw [cn_G_sum]
      exact br_t cn_t7 h
    · intro n k s hk hs ih
      subst hs
      refine br_f (cn_f7 hk) (cn_conY fg tr po pa pe am ow un di pr hm hk (fun e => br_f cn_10 ⟨cn_in7 hk, nm_r (e' := cn_i (cn_sum (cn_G (cn_I tr) m) 49 - cn_sum (fun u => if cn_bit m u then cn_I po u else 0) (k + 1))) ?_ (nm_r (nI_1 k) (ih _ rfl))⟩) (fun e => br_t rfl (nm_r (nI_1 k) (ih _ ?_))))
      · rw [cn_cl (by omega), cn_sum_s _ k, if_pos e, ← Int.sub_sub, cn_i_sub _ (cn_I po k), ← cn_I_of]
      · rw [cn_sum_s _ k, if_neg e, Int.add_zero]
  · intro n k s hk hs ih
    subst hs
    refine br_f (cn_f49 hk) ⟨cn_70, ?_⟩
    rw [cn_q7 (by omega), ← cn_q7 (p := k) (by omega), cn_r7 (by omega), cn_q7 (by omega)]
    refine cn_conY fg tr po pa pe am ow un di pr hm (by omega) (fun e => br_f cn_10 ⟨cn_70, cn_conY fg tr po pa pe am ow un di pr hm (by omega) (fun f => br_f cn_10 (nm_r (nI_1 k) (ih _ ?_))) (fun f => br_t rfl ⟨vp_in_nI (by omega) (by decide), nm_r (e' := cn_i (cn_sum (cn_G (cn_I tr) m) (k + 1))) ?_ (nm_r (nI_1 k) (ih _ rfl))⟩)⟩) (fun e => br_t rfl (nm_r (nI_1 k) (ih _ ?_)))
    · rw [cn_sum_s _ k, cn_G, if_pos e, if_pos f, Int.add_zero]
    · rw [cn_cl (by omega), cn_sum_s _ k, cn_G, if_pos e, if_neg f, cn_i_add, ← cn_I_of]
    · rw [cn_sum_s _ k, cn_G, if_neg e, Int.add_zero]

theorem cn_psY {post : Int32 → Prop} (ht : cn_T (cn_I tr)) (hP : ∀ w, w < 7 → -1000000 ≤ cn_I po w ∧ cn_I po w ≤ 1000000)
    (h1 : (∀ k, k < 128 → 0 ≤ cn_rm (cn_I tr) (cn_I po) (cn_bit k)) → post 1) (h0 : ¬ (∀ k, k < 128 → 0 ≤ cn_rm (cn_I tr) (cn_I po) (cn_bit k)) → post 0) :
    wpY_isPossible post (fg, tr, po, pa, pe, am, ow, un, di, pr) := by
  refine loop_0 (fun n k (s : Int32) => wY_isPossible_4 post fg tr po pa pe am ow un di pr n s (nI k))
    (fun k s => (s = 1 ∧ ∀ j, j < k → 0 ≤ cn_rm (cn_I tr) (cn_I po) (cn_bit j)) ∨ (s = 0 ∧ ∃ j, j < 128 ∧ cn_rm (cn_I tr) (cn_I po) (cn_bit j) < 0)) 128 1 ?_ ?_ ?_
  · exact Or.inl ⟨rfl, fun j hj => by omega⟩
  · intro n s hs
    rcases hs with ⟨rfl, a⟩ | ⟨rfl, j, hj, a⟩
    · exact br_t cn_t128 ⟨lw_bz_n 1, h1 a⟩
    · exact br_t cn_t128 ⟨lw_bz_n 0, h0 (fun z => by have := z j hj; omega)⟩
  · intro n k s hk hs ih
    refine br_f (cn_f128 hk) ?_
    rcases hs with ⟨rfl, a⟩ | ⟨rfl, a⟩
    · refine br_f cn_10 (cn_slY fg tr po pa pe am ow un di pr hk ?_)
      have b2 := cn_rm_b (M := cn_bit k) ht hP
      refine cn_blt _ 0 rfl cn_i_0.symm ⟨by omega, by omega⟩ cn_n0 (fun c => nm_r (nI_1 k) (ih _ (Or.inr ⟨rfl, k, hk, c⟩))) (fun c => nm_r (nI_1 k) (ih _ (Or.inl ⟨rfl, fun j hj => ?_⟩)))
      by_cases e : j = k
      · subst e; exact c
      · exact a j (by omega)
    · exact br_t rfl (nm_r (nI_1 k) (ih _ (Or.inr ⟨rfl, a⟩)))

theorem cn_lsY {post : Int32 → Prop} {m x : Nat} (hm : m < 128) (hx : x < 7) (hmx : m &&& 2 ^ x = 0) (ht : cn_T (cn_I tr)) (hP : ∀ w, w < 7 → -1000000 ≤ cn_I po w ∧ cn_I po w ≤ 1000000)
    (hr : ∀ k, k < 128 → 0 ≤ cn_rm (cn_I tr) (cn_I po) (cn_bit k)) (h : post (cn_i (cn_lr (cn_I tr) (cn_I po) m (2 ^ x) 128))) : wpY_leastSlack post (fg, tr, po, pa, pe, am, ow, un, di, pr) (nI m) (nI x) := by
  refine loop_0 (fun n k (s : Int32) => wY_leastSlack_5 post (nI m) (nI x) fg tr po pa pe am ow un di pr n s (nI k))
    (fun k s => ∃ r, s = cn_i r ∧ cn_Ly (cn_I tr) (cn_I po) m (2 ^ x) k r) 128 (-1) ?_ ?_ ?_
  · exact ⟨-1, by decide, cn_Ly_0⟩
  · intro n s hs
    obtain ⟨r, rfl, e⟩ := hs
    rw [cn_Lr_eq (cn_Ly_e e hm hmx) (cn_lr_Lr hm hmx)]
    exact br_t cn_t128 h
  · intro n k s hk hs ih
    obtain ⟨r, rfl, y⟩ := hs
    have b1 := cn_Ly_b y ht hP
    have b2 := cn_rm_b (M := cn_bit k) ht hP
    refine br_f (cn_f128 hk) ?_
    by_cases c1 : k &&& m = m
    · refine br_t ((cn_and0 hm hk).mpr c1) (cn_conY fg tr po pa pe am ow un di pr hk hx (fun e => br_f cn_10 (nm_r (nI_1 k) (ih _ ⟨r, rfl, cn_Ly_no y (fun _ z => (cn_bit_out x hx k hk).mp z e)⟩))) (fun e => br_t rfl (cn_slY fg tr po pa pe am ow un di pr hk ?_)))
      have c2 := (cn_bit_out x hx k hk).mpr e
      refine cn_blt r 0 rfl cn_i_0.symm ⟨by omega, by omega⟩ cn_n0 (fun c => nm_r (nI_1 k) (ih _ ⟨_, rfl, cn_Ly_new y c1 c2 (Or.inl c) hr hk⟩)) (fun c => ?_)
      refine cn_ble _ _ rfl rfl ⟨by omega, by omega⟩ ⟨by omega, by omega⟩ (fun c3 => nm_r (nI_1 k) (ih _ ⟨r, rfl, cn_Ly_keep y (by omega) (by omega)⟩)) (fun c3 => nm_r (nI_1 k) (ih _ ⟨_, rfl, cn_Ly_new y c1 c2 (Or.inr c3) hr hk⟩))
    · exact br_f (fun z => c1 ((cn_and0 hm hk).mp z)) (nm_r (nI_1 k) (ih _ ⟨r, rfl, cn_Ly_no y (fun z => absurd z c1)⟩))
end
end
section
/-- what both sides keep alike, and its bounds -/
def cn_Inv (fg : Int32) (tr po pa pe am : Nat → Int32) : Prop :=
  cn_T (cn_I tr) ∧ (∀ k, k < 128 → 0 ≤ cn_rm (cn_I tr) (cn_I po) (cn_bit k)) ∧ cn_sum (cn_I po) 7 = 0 ∧
  ∃ f : Nat, f ≤ 6 ∧ fg = nI f ∧ ∀ i, i < f → vp_in (pa i) 7 ∧ vp_in (pe i) 7 ∧ 0 ≤ cn_I am i ∧ cn_I am i ≤ 10000

def i_Rel (_ : Nat) (u : SX) (v : SY) : Prop :=
  ∃ (fg : Int32) (tr po pa pe am ow un di pr ow' re pc be : Nat → Int32), u = (fg, tr, po, pa, pe, am, ow, un, di, pr) ∧ v = (fg, tr, po, pa, pe, am, ow', re, pc, be) ∧ cn_Inv fg tr po pa pe am

theorem i_up {k : Nat} {u : SX} {v : SY} (h : i_Rel k u v) : i_Rel (k + 4) u v := h

theorem cn_mk {k : Nat} {fg : Int32} {tr po pa pe am ow un di pr ow' re pc be : Nat → Int32} (J : cn_Inv fg tr po pa pe am) :
    i_Rel k (fg, tr, po, pa, pe, am, ow, un, di, pr) (fg, tr, po, pa, pe, am, ow', re, pc, be) :=
  ⟨fg, tr, po, pa, pe, am, ow, un, di, pr, ow', re, pc, be, rfl, rfl, J⟩

theorem cn_I0 : cn_I (fun _ => 0) = fun _ => 0 := by
  funext j
  show (0 : Int32).toInt = 0
  decide

theorem i_vc0 : wpX_init (fun u => wpY_init (fun v => i_Rel 0 u v)) := by
  refine cn_mk (k := 0) ⟨?_, ?_, ?_, 0, by decide, rfl, fun i hi => by omega⟩
  · rw [cn_I0]
    exact fun j => (show (0 : Int) ≤ 0 ∧ (0 : Int) ≤ 1000 by decide)
  · intro k hk
    rw [cn_I0]
    have e : cn_rm (fun _ => 0) (fun _ => 0) (cn_bit k) = cn_sum (fun _ => 0) 7 := by
      refine cn_sum_congr (fun u hu => ?_)
      have e2 : cn_sum (fun v => if cn_bit k v then (0 : Int) else 0) 7 = cn_sum (fun _ => 0) 7 := cn_sum_congr (fun v _ => by split <;> rfl)
      show (if cn_bit k u then cn_sum (fun v => if cn_bit k v then (0 : Int) else 0) 7 - 0 else 0) = 0
      rw [e2, cn_sum_0]
      split <;> rfl
    rw [e, cn_sum_0]
    decide
  · rw [cn_I0, cn_sum_0]

theorem cn_Inv_P {fg : Int32} {tr po pa pe am : Nat → Int32} (J : cn_Inv fg tr po pa pe am) : ∀ w, w < 7 → -50000 ≤ cn_I po w ∧ cn_I po w ≤ 50000 := cn_P_b J.1 J.2.1 J.2.2.1
theorem cn_Inv_P' {fg : Int32} {tr po pa pe am : Nat → Int32} (J : cn_Inv fg tr po pa pe am) : ∀ w, w < 7 → -1000000 ≤ cn_I po w ∧ cn_I po w ≤ 1000000 :=
  fun w hw => by have := cn_Inv_P J w hw; omega

theorem cn_2Xt {post : Int32 → Prop} {x y : Int32} (h : cn_two x y) (p : post 1) : wpX_areTwoMembers post x y := cn_2X (fun _ => p) (fun n => absurd h n)
theorem cn_2Xf {post : Int32 → Prop} {x y : Int32} (h : ¬ cn_two x y) (p : post 0) : wpX_areTwoMembers post x y := cn_2X (fun n => absurd n h) (fun _ => p)

theorem cn_nrI (x : Int32) : cn_nr x.toInt := ⟨cn_lo x, by have := cn_hi x; omega⟩
theorem cn_lei (x y : Int32) : x ≤ y ↔ x.toInt ≤ y.toInt := Int32.le_iff_toInt_le
theorem cn_lti (x y : Int32) : x < y ↔ x.toInt < y.toInt := Int32.lt_iff_toInt_lt
theorem cn_ti0 : (0 : Int32).toInt = 0 := by decide
theorem cn_lt0 (x : Int32) : x < 0 ↔ x.toInt < 0 := by rw [cn_lti, cn_ti0]
theorem cn_0le (x : Int32) : 0 ≤ x ↔ 0 ≤ x.toInt := by rw [cn_lei, cn_ti0]

/-- the room that is left for trust -/
theorem cn_1000 {x y : Int32} (h : 0 ≤ y.toInt ∧ y.toInt ≤ 1000) : x ≤ 1000 - y ↔ x.toInt ≤ 1000 - y.toInt := by
  have e : (1000 : Int32) - y = cn_i (1000 - y.toInt) := by rw [cn_i_sub, cn_i_of]; rfl
  rw [e, cn_lei, cn_ti (by omega) (by omega)]

section
variable (fg : Int32) (tr po pa pe am ow un di pr : Nat → Int32)

theorem cn_2Yt {post : Int32 → Prop} {x y : Int32} (h : cn_two x y) (p : post 1) : wpY_isPair post (fg, tr, po, pa, pe, am, ow, un, di, pr) x y := cn_2Y fg tr po pa pe am ow un di pr (fun _ => p) (fun n => absurd h n)
theorem cn_2Yf {post : Int32 → Prop} {x y : Int32} (h : ¬ cn_two x y) (p : post 0) : wpY_isPair post (fg, tr, po, pa, pe, am, ow, un, di, pr) x y := cn_2Y fg tr po pa pe am ow un di pr (fun n => absurd n h) (fun _ => p)

theorem cn_and_pw {a b : Nat} (ha : a < 7) (hb : b < 7) (ne : a ≠ b) : 2 ^ a &&& 2 ^ b = 0 := by
  rw [cn_bit_out b hb (2 ^ a) (cn_pw ha), cn_bit_pw a ha b hb]
  exact fun z => ne z.symm

theorem cn_mostX {post : Int32 → Prop} {a b : Nat} (ha : a < 7) (hb : b < 7) (ne : a ≠ b) (J : cn_Inv fg tr po pa pe am) (h : post (cn_i (cn_lr (cn_I tr) (cn_I po) (2 ^ b) (2 ^ a) 128))) :
    wpX_most post (fg, tr, po, pa, pe, am, ow, un, di, pr) (nI a) (nI b) := by
  unfold wpX_most
  refine cn_2Xt ⟨a, b, ha, hb, ne, rfl, rfl⟩ (br_f cn_10 ?_)
  rw [cn_sh ha, cn_sh hb]
  exact cn_lrX fg tr po pa pe am ow un di pr (cn_pw hb) (cn_pw ha) J.1 (cn_Inv_P' J) h

theorem cn_slackY {post : Int32 → Prop} {a b : Nat} (ha : a < 7) (hb : b < 7) (ne : a ≠ b) (J : cn_Inv fg tr po pa pe am) (h : post (cn_i (cn_lr (cn_I tr) (cn_I po) (2 ^ b) (2 ^ a) 128))) :
    wpY_leastSlack post (fg, tr, po, pa, pe, am, ow, un, di, pr) ((1 : Int32) <<< (nI b &&& 31)) (nI a) := by
  rw [cn_sh hb]
  exact cn_lsY fg tr po pa pe am ow un di pr (cn_pw hb) ha (cn_and_pw hb ha (fun z => ne z.symm)) J.1 (cn_Inv_P' J) J.2.1 h

theorem cn_mostY {post : Int32 → Prop} {a b : Nat} (ha : a < 7) (hb : b < 7) (ne : a ≠ b) (J : cn_Inv fg tr po pa pe am) (h : post (cn_i (cn_lr (cn_I tr) (cn_I po) (2 ^ b) (2 ^ a) 128))) :
    wpY_most post (fg, tr, po, pa, pe, am, ow, un, di, pr) (nI a) (nI b) := by
  unfold wpY_most
  exact cn_2Yt fg tr po pa pe am ow un di pr ⟨a, b, ha, hb, ne, rfl, rfl⟩ (br_f cn_10 (cn_slackY fg tr po pa pe am ow un di pr ha hb ne J h))
end

theorem i_vc_most {k : Nat} {u : SX} {v : SY} (I : i_Rel k u v) (hk : k + 4 ≤ 2048) (v1 : Int32) (v2 : Int32) : wpX_most (fun r => wpY_most (fun r' => r' = r ∧ i_Rel (k + 4) u v) v v1 v2) u v1 v2 := by
  obtain ⟨fg, tr, po, pa, pe, am, ow, un, di, pr, ow', re, pc, be, rfl, rfl, J⟩ := I
  by_cases h : cn_two v1 v2
  · obtain ⟨a, b, ha, hb, ne, rfl, rfl⟩ := h
    exact cn_mostX fg tr po pa pe am ow un di pr ha hb ne J (cn_mostY fg tr po pa pe am ow' re pc be ha hb ne J ⟨rfl, cn_mk J⟩)
  · unfold wpX_most wpY_most
    exact cn_2Xf h (br_t rfl (cn_2Yf fg tr po pa pe am ow' re pc be h (br_t rfl ⟨rfl, cn_mk J⟩)))

theorem i_vc_trusted {k : Nat} {u : SX} {v : SY} (I : i_Rel k u v) (hk : k + 4 ≤ 2048) (v1 : Int32) (v2 : Int32) : wpX_trusted (fun r => wpY_trusted (fun r' => r' = r ∧ i_Rel (k + 4) u v) v v1 v2) u v1 v2 := by
  obtain ⟨fg, tr, po, pa, pe, am, ow, un, di, pr, ow', re, pc, be, rfl, rfl, J⟩ := I
  unfold wpX_trusted wpY_trusted
  by_cases h : cn_two v1 v2
  · have h2 := h
    obtain ⟨a, b, ha, hb, ne, rfl, rfl⟩ := h
    rw [cn_ix, cn_iy]
    exact cn_2Xt h2 (br_f cn_10 ⟨cn_in49 ha hb, cn_2Yt fg tr po pa pe am ow' re pc be h2 (br_f cn_10 ⟨cn_in49 ha hb, rfl, cn_mk J⟩)⟩)
  · exact cn_2Xf h (br_t rfl (cn_2Yf fg tr po pa pe am ow' re pc be h (br_t rfl ⟨rfl, cn_mk J⟩)))

theorem i_vc_position {k : Nat} {u : SX} {v : SY} (I : i_Rel k u v) (hk : k + 4 ≤ 2048) (v1 : Int32) : wpX_position (fun r => wpY_position (fun r' => r' = r ∧ i_Rel (k + 4) u v) v v1) u v1 := by
  obtain ⟨fg, tr, po, pa, pe, am, ow, un, di, pr, ow', re, pc, be, rfl, rfl, J⟩ := I
  unfold wpX_position wpY_position
  refine cn_mX (fun h => br_f cn_10 ?_) (fun h => br_t rfl (cn_mY (fun n => absurd n h) (fun _ => ⟨rfl, cn_mk J⟩)))
  have h2 := h
  obtain ⟨a, ha, rfl⟩ := h
  exact ⟨cn_in7 ha, cn_mY (fun _ => ⟨cn_in7 ha, rfl, cn_mk J⟩) (fun n => absurd h2 n)⟩

theorem i_vc_forget {k : Nat} {u : SX} {v : SY} (I : i_Rel k u v) (hk : k + 4 ≤ 2048) : wpX_forget (fun r u' => wpY_forget (fun r' v' => r' = r ∧ i_Rel (k + 4) u' v') v) u := by
  obtain ⟨fg, tr, po, pa, pe, am, ow, un, di, pr, ow', re, pc, be, rfl, rfl, J⟩ := I
  exact ⟨rfl, cn_mk ⟨J.1, J.2.1, J.2.2.1, 0, by decide, rfl, fun i hi => by omega⟩⟩

theorem i_vc_spread {k : Nat} {u : SX} {v : SY} (I : i_Rel k u v) (hk : k + 4 ≤ 2048) (v1 : Int32) (v2 : Int32) : wpX_spread (fun r => wpY_spread (fun r' => r' = r ∧ i_Rel (k + 4) u v) v v1 v2) u v1 v2 := by
  obtain ⟨fg, tr, po, pa, pe, am, ow, un, di, pr, ow', re, pc, be, rfl, rfl, J⟩ := I
  unfold wpX_spread wpY_spread
  refine cn_mX (fun h => br_f cn_10 ?_) (fun h => br_t rfl (cn_mY (fun n => absurd n h) (fun _ => ⟨rfl, cn_mk J⟩)))
  have h2 := h
  obtain ⟨a, ha, rfl⟩ := h
  by_cases c1 : v2 < 1
  · exact br_t c1 (cn_mY (fun _ => br_t c1 ⟨rfl, cn_mk J⟩) (fun n => absurd h2 n))
  · refine br_f c1 ?_
    by_cases c2 : (128 : Int32) ≤ v2
    · have c3 : (127 : Int32) < v2 := Int32.lt_of_lt_of_le (by decide) c2
      exact br_t c2 (cn_mY (fun _ => br_f c1 (br_t c3 ⟨rfl, cn_mk J⟩)) (fun n => absurd h2 n))
    · refine br_f c2 ?_
      obtain ⟨m, hm, rfl⟩ : ∃ m : Nat, m < 128 ∧ v2 = nI m := by
        rcases pk_ix v2 (n := 128) (by decide) with a | a | a
        · exact absurd (Int32.lt_trans a (by decide)) c1
        · exact absurd a c2
        · exact a
      have c3 : ¬ (127 : Int32) < nI m := nI_nlt (a := 127) (by omega) (by decide)
      refine cn_conX hm ha (fun e => br_f cn_10 (cn_mY (fun _ => br_f c1 (br_f c3 ?_)) (fun n => absurd h2 n))) (fun e => br_t rfl ?_)
      · exact cn_conY fg tr po pa pe am ow' re pc be hm ha (fun _ => br_f cn_10 ⟨rfl, cn_mk J⟩) (fun n => absurd e n)
      · rw [cn_sh ha]
        refine cn_lrX fg tr po pa pe am ow un di pr hm (cn_pw ha) J.1 (cn_Inv_P' J) (cn_mY (fun _ => br_f c1 (br_f c3 ?_)) (fun n => absurd h2 n))
        refine cn_conY fg tr po pa pe am ow' re pc be hm ha (fun n => absurd n e) (fun _ => br_t rfl ?_)
        exact cn_lsY fg tr po pa pe am ow' re pc be hm ha ((cn_bit_out a ha m hm).mpr e) J.1 (cn_Inv_P' J) J.2.1 ⟨rfl, cn_mk J⟩
end
section
theorem cn_Inv_t {fg : Int32} {tr po pa pe am : Nat → Int32} {a b : Nat} {x : Int32} (J : cn_Inv fg tr po pa pe am) (ha : a < 7) (hb : b < 7)
    (hx : 0 ≤ x.toInt ∧ x.toInt ≤ 1000) (hr : ∀ s, s < 128 → cn_bit s a = true → ¬ cn_bit s b = true → 0 ≤ cn_rm (cn_I tr) (cn_I po) (cn_bit s) + (x.toInt - cn_I tr (a * 7 + b))) :
    cn_Inv fg (upd tr (a * 7 + b) x) po pa pe am := by
  obtain ⟨j1, j2, j3⟩ := J
  refine ⟨?_, ?_, j3⟩
  · rw [cn_I_up]
    intro j
    by_cases e : j = a * 7 + b
    · subst e
      rw [cn_up_s]
      exact hx
    · rw [cn_up_n e]
      exact j1 j
  · intro k hk
    rw [cn_I_up, cn_rm_t ha hb]
    have := j2 k hk
    by_cases c : cn_bit k a = true ∧ ¬ cn_bit k b = true
    · rw [if_pos c]
      exact hr k hk c.1 c.2
    · rw [if_neg c]
      omega

theorem i_vc_trust {k : Nat} {u : SX} {v : SY} (I : i_Rel k u v) (hk : k + 4 ≤ 2048) (v1 : Int32) (v2 : Int32) (v3 : Int32) : wpX_trust (fun r u' => wpY_trust (fun r' v' => r' = r ∧ i_Rel (k + 4) u' v') v v1 v2 v3) u v1 v2 v3 := by
  obtain ⟨fg, tr, po, pa, pe, am, ow, un, di, pr, ow', re, pc, be, rfl, rfl, J⟩ := I
  unfold wpX_trust wpY_trust
  by_cases h : cn_two v1 v2
  · have h2 := h
    obtain ⟨a, b, ha, hb, ne, rfl, rfl⟩ := h
    rw [cn_ix, cn_iy, cn_cl (by omega)]
    refine cn_2Xt h2 (br_f cn_10 (nm_e ?_))
    rw [cn_cl (by omega)]
    by_cases c1 : v3 < 0
    · exact br_t c1 (cn_2Yt fg tr po pa pe am ow' re pc be h2 (br_f cn_10 (br_t c1 ⟨rfl, cn_mk J⟩)))
    · refine br_f c1 ⟨cn_in49 ha hb, ?_⟩
      by_cases c2 : v3 ≤ 1000 - tr (a * 7 + b)
      · refine br_t c2 ⟨cn_in49 ha hb, cn_in49 ha hb, nm_e ⟨cn_in49 ha hb, ?_⟩⟩
        refine cn_2Yt fg tr po pa pe am ow' re pc be h2 (br_f cn_10 (br_f c1 ⟨cn_in49 ha hb, br_t c2 ⟨cn_in49 ha hb, cn_in49 ha hb, nm_e ⟨cn_in49 ha hb, rfl, cn_mk ?_⟩⟩⟩))
        have t := J.1 (a * 7 + b)
        have t' : 0 ≤ (tr (a * 7 + b)).toInt ∧ (tr (a * 7 + b)).toInt ≤ 1000 := t
        rw [cn_1000 t'] at c2
        rw [cn_lt0] at c1
        have e : (tr (a * 7 + b) + v3).toInt = (tr (a * 7 + b)).toInt + v3.toInt := by
          have : tr (a * 7 + b) + v3 = cn_i ((tr (a * 7 + b)).toInt + v3.toInt) := by rw [cn_i_add, cn_i_of, cn_i_of]
          rw [this, cn_ti (by omega) (by omega)]
        refine cn_Inv_t J ha hb (by rw [e]; omega) (fun s hs _ _ => ?_)
        have := J.2.1 s hs
        rw [e]
        unfold cn_I at *
        omega
      · exact br_f c2 (cn_2Yt fg tr po pa pe am ow' re pc be h2 (br_f cn_10 (br_f c1 ⟨cn_in49 ha hb, br_f c2 ⟨rfl, cn_mk J⟩⟩)))
  · exact cn_2Xf h (br_t rfl (cn_2Yf fg tr po pa pe am ow' re pc be h (br_t rfl ⟨rfl, cn_mk J⟩)))

theorem cn_back (f : Nat → Int32) (i : Nat) (x : Int32) : upd (upd f i (f i - x)) i (upd f i (f i - x) i + x) = f := by
  funext j
  by_cases e : j = i
  · subst e
    rw [pk_us, pk_us, Int32.sub_add_cancel]
  · rw [pk_un e, pk_un e]

theorem i_vc_withdraw {k : Nat} {u : SX} {v : SY} (I : i_Rel k u v) (hk : k + 4 ≤ 2048) (v1 : Int32) (v2 : Int32) (v3 : Int32) : wpX_withdraw (fun r u' => wpY_withdraw (fun r' v' => r' = r ∧ i_Rel (k + 4) u' v') v v1 v2 v3) u v1 v2 v3 := by
  obtain ⟨fg, tr, po, pa, pe, am, ow, un, di, pr, ow', re, pc, be, rfl, rfl, J⟩ := I
  unfold wpX_withdraw wpY_withdraw
  by_cases h : cn_two v1 v2
  · have h2 := h
    obtain ⟨a, b, ha, hb, ne, rfl, rfl⟩ := h
    rw [cn_ix, cn_iy, cn_cl (by omega), cn_sh ha, cn_sh hb]
    refine cn_2Xt h2 (br_f cn_10 (nm_e ?_))
    rw [cn_cl (by omega)]
    by_cases c1 : v3 < 0
    · exact br_t c1 (cn_2Yt fg tr po pa pe am ow' re pc be h2 (br_f cn_10 (br_t c1 ⟨rfl, cn_mk J⟩)))
    · refine br_f c1 ⟨cn_in49 ha hb, ?_⟩
      by_cases c2 : v3 ≤ tr (a * 7 + b)
      · refine br_t c2 (cn_lrX fg tr po pa pe am ow un di pr (cn_pw ha) (cn_pw hb) J.1 (cn_Inv_P' J) ?_)
        have d1 : ¬ v3.toInt < 0 := fun z => c1 ((cn_lt0 v3).mpr z)
        have d2 := (cn_lei _ _).mp c2
        have t : 0 ≤ (tr (a * 7 + b)).toInt ∧ (tr (a * 7 + b)).toInt ≤ 1000 := J.1 (a * 7 + b)
        have e : (tr (a * 7 + b) - v3).toInt = (tr (a * 7 + b)).toInt - v3.toInt := by
          have : tr (a * 7 + b) - v3 = cn_i ((tr (a * 7 + b)).toInt - v3.toInt) := by rw [cn_i_sub, cn_i_of, cn_i_of]
          rw [this, cn_ti (by omega) (by omega)]
        have e' : cn_I tr (a * 7 + b) = (tr (a * 7 + b)).toInt := rfl
        have lb := cn_lr_b (m := 2 ^ a) (x := 2 ^ b) J.1 (cn_Inv_P' J) 128
        have L := cn_lr_Lr (t := cn_I tr) (P := cn_I po) (cn_pw ha) (cn_and_pw ha hb ne)
        have T' : cn_T (cn_I (upd tr (a * 7 + b) (tr (a * 7 + b) - v3))) := by
          rw [cn_I_up]
          intro j
          by_cases q : j = a * 7 + b
          · subst q
            rw [cn_up_s, e]
            omega
          · rw [cn_up_n q]
            exact J.1 j
        have rm' : ∀ s, cn_rm (cn_I (upd tr (a * 7 + b) (tr (a * 7 + b) - v3))) (cn_I po) (cn_bit s) = cn_rm (cn_I tr) (cn_I po) (cn_bit s) + (if cn_bit s a = true ∧ ¬ cn_bit s b = true then - v3.toInt else 0) := by
          intro s
          rw [cn_I_up, cn_rm_t ha hb, e, e']
          congr 1
          split <;> omega
        refine cn_ble v3.toInt _ (cn_i_of v3).symm rfl (cn_nrI v3) ⟨by omega, by omega⟩ (fun c3 => ?_) (fun c3 => ?_)
        · have J' : cn_Inv fg (upd tr (a * 7 + b) (tr (a * 7 + b) - v3)) po pa pe am := by
            refine cn_Inv_t J ha hb (by rw [e]; omega) (fun s hs s1 s2 => ?_)
            have := L.1 s hs ((cn_bit_in a ha s hs).mpr s1) ((cn_bit_out b hb s hs).mpr s2)
            rw [e]
            omega
          refine ⟨cn_in49 ha hb, cn_in49 ha hb, nm_e ⟨cn_in49 ha hb, ?_⟩⟩
          refine cn_2Yt fg tr po pa pe am ow' re pc be h2 (br_f cn_10 (br_f c1 ⟨cn_in49 ha hb, br_t c2 ⟨cn_in49 ha hb, cn_in49 ha hb, nm_e ?_⟩⟩))
          exact cn_psY fg _ po pa pe am ow' re pc be T' (cn_Inv_P' J) (fun _ => br_f cn_10 ⟨cn_in49 ha hb, rfl, cn_mk J'⟩) (fun n => absurd J'.2.1 n)
        · refine cn_2Yt fg tr po pa pe am ow' re pc be h2 (br_f cn_10 (br_f c1 ⟨cn_in49 ha hb, br_t c2 ⟨cn_in49 ha hb, cn_in49 ha hb, nm_e ?_⟩⟩))
          refine cn_psY fg _ po pa pe am ow' re pc be T' (cn_Inv_P' J) (fun n => ?_) (fun _ => br_t rfl ⟨cn_in49 ha hb, cn_in49 ha hb, nm_e ?_⟩)
          · obtain ⟨s, s0, s1, s2, s3⟩ := L.2
            have q := n s s0
            rw [rm', if_pos ⟨(cn_bit_in a ha s s0).mp s1, (cn_bit_out b hb s s0).mp s2⟩] at q
            omega
          · rw [cn_back]
            exact ⟨rfl, cn_mk J⟩
      · exact br_f c2 (cn_2Yt fg tr po pa pe am ow' re pc be h2 (br_f cn_10 (br_f c1 ⟨cn_in49 ha hb, br_f c2 ⟨rfl, cn_mk J⟩⟩)))
  · exact cn_2Xf h (br_t rfl (cn_2Yf fg tr po pa pe am ow' re pc be h (br_t rfl ⟨rfl, cn_mk J⟩)))

theorem cn_Inv_p {fg : Int32} {tr po pa pe am : Nat → Int32} {a b : Nat} {x : Int32} (J : cn_Inv fg tr po pa pe am) (ha : a < 7) (hb : b < 7) (ne : a ≠ b)
    (h0 : 0 ≤ x.toInt) (hr : x.toInt ≤ cn_lr (cn_I tr) (cn_I po) (2 ^ b) (2 ^ a) 128) : cn_Inv fg tr (upd (upd po a (po a - x)) b (upd po a (po a - x) b + x)) pa pe am := by
  have P := cn_Inv_P J
  have lb := cn_lr_b (m := 2 ^ b) (x := 2 ^ a) J.1 (cn_Inv_P' J) 128
  have L := cn_lr_Lr (t := cn_I tr) (P := cn_I po) (cn_pw hb) (cn_and_pw hb ha (fun z => ne z.symm))
  obtain ⟨j1, j2, j3, j4⟩ := J
  have pa' : -50000 ≤ (po a).toInt ∧ (po a).toInt ≤ 50000 := P a ha
  have pb' : -50000 ≤ (po b).toInt ∧ (po b).toInt ≤ 50000 := P b hb
  have e1 : (po a - x).toInt = (po a).toInt - x.toInt := by
    have : po a - x = cn_i ((po a).toInt - x.toInt) := by rw [cn_i_sub, cn_i_of, cn_i_of]
    rw [this, cn_ti (by omega) (by omega)]
  have e2 : (po b + x).toInt = (po b).toInt + x.toInt := by
    have : po b + x = cn_i ((po b).toInt + x.toInt) := by rw [cn_i_add, cn_i_of, cn_i_of]
    rw [this, cn_ti (by omega) (by omega)]
  have e : cn_I (upd (upd po a (po a - x)) b (upd po a (po a - x) b + x)) = cn_up (cn_up (cn_I po) a (cn_I po a - x.toInt)) b (cn_I po b + x.toInt) := by
    rw [cn_I_up, cn_I_up, pk_un (fun z => ne z.symm), e1, e2]
    rfl
  have n1 : cn_up (cn_I po) a (cn_I po a - x.toInt) b = cn_I po b := cn_up_n (fun z => ne z.symm)
  refine ⟨j1, fun s hs => ?_, ?_, j4⟩
  · rw [e, cn_rm_P hb, cn_rm_P ha, n1]
    have q := j2 s hs
    have r := L.1 s hs
    rw [cn_bit_in b hb s hs, cn_bit_out a ha s hs] at r
    by_cases ca : cn_bit s a = true
    · rw [if_pos ca]
      split <;> omega
    · rw [if_neg ca]
      by_cases cb : cn_bit s b = true
      · have := r cb ca
        rw [if_pos cb]
        omega
      · rw [if_neg cb]
        omega
  · rw [e, cn_sum_up _ _ hb, cn_sum_up _ _ ha, n1, j3]
    omega

theorem i_vc_pay {k : Nat} {u : SX} {v : SY} (I : i_Rel k u v) (hk : k + 4 ≤ 2048) (v1 : Int32) (v2 : Int32) (v3 : Int32) : wpX_pay (fun r u' => wpY_pay (fun r' v' => r' = r ∧ i_Rel (k + 4) u' v') v v1 v2 v3) u v1 v2 v3 := by
  obtain ⟨fg, tr, po, pa, pe, am, ow, un, di, pr, ow', re, pc, be, rfl, rfl, J⟩ := I
  unfold wpX_pay wpY_pay
  by_cases h : cn_two v1 v2
  · have h2 := h
    obtain ⟨a, b, ha, hb, ne, rfl, rfl⟩ := h
    refine cn_2Xt h2 (br_f cn_10 ?_)
    by_cases c1 : 0 ≤ v3
    · refine br_t c1 (cn_mostX fg tr po pa pe am ow un di pr ha hb ne J ?_)
      have lb := cn_lr_b (m := 2 ^ b) (x := 2 ^ a) J.1 (cn_Inv_P' J) 128
      by_cases c2 : v3 ≤ cn_i (cn_lr (cn_I tr) (cn_I po) (2 ^ b) (2 ^ a) 128)
      · refine br_t c2 ⟨cn_in7 ha, cn_in7 ha, nm_e ⟨cn_in7 hb, cn_in7 hb, nm_e ⟨cn_in7 ha, ?_⟩⟩⟩
        refine cn_2Yt fg tr po pa pe am ow' re pc be h2 (br_f cn_10 (br_t c1 (cn_slackY fg tr po pa pe am ow' re pc be ha hb ne J (br_t c2 ⟨cn_in7 ha, cn_in7 ha, nm_e ⟨cn_in7 hb, cn_in7 hb, nm_e ⟨cn_in7 ha, rfl, cn_mk ?_⟩⟩⟩))))
        rw [cn_cl (by omega), cn_cl (by omega)]
        rw [cn_lei, cn_ti (by omega) (by omega)] at c2
        exact cn_Inv_p J ha hb ne ((cn_0le v3).mp c1) c2
      · exact br_f c2 (cn_2Yt fg tr po pa pe am ow' re pc be h2 (br_f cn_10 (br_t c1 (cn_slackY fg tr po pa pe am ow' re pc be ha hb ne J (br_f c2 ⟨rfl, cn_mk J⟩)))))
    · exact br_f c1 (cn_2Yt fg tr po pa pe am ow' re pc be h2 (br_f cn_10 (br_f c1 ⟨rfl, cn_mk J⟩)))
  · exact cn_2Xf h (br_t rfl (cn_2Yf fg tr po pa pe am ow' re pc be h (br_t rfl ⟨rfl, cn_mk J⟩)))

theorem i_vc_gather {k : Nat} {u : SX} {v : SY} (I : i_Rel k u v) (hk : k + 4 ≤ 2048) (v1 : Int32) (v2 : Int32) (v3 : Int32) : wpX_gather (fun r u' => wpY_gather (fun r' v' => r' = r ∧ i_Rel (k + 4) u' v') v v1 v2 v3) u v1 v2 v3 := by
  obtain ⟨fg, tr, po, pa, pe, am, ow, un, di, pr, ow', re, pc, be, rfl, rfl, J⟩ := I
  unfold wpX_gather wpY_gather
  by_cases h : cn_two v1 v2
  · refine cn_2Xt h (br_f cn_10 ?_)
    by_cases c1 : v3 < 0
    · exact br_t c1 (cn_2Yt fg tr po pa pe am ow' re pc be h (br_f cn_10 (br_t c1 ⟨rfl, cn_mk J⟩)))
    · refine br_f c1 ?_
      by_cases c2 : v3 ≤ 10000
      · refine br_t c2 ?_
        have J' := J
        obtain ⟨j1, j2, j3, f, hf, rfl, j4⟩ := J
        by_cases c3 : f = 6
        · subst c3
          exact br_f (nI_nlt (a := 6) (b := 6) (by decide) (by decide)) (cn_2Yt (nI 6) tr po pa pe am ow' re pc be h (br_f cn_10 (br_f c1 (br_t c2 (br_t (by decide) ⟨rfl, cn_mk J'⟩)))))
        · have hi : vp_in (nI f) 6 := vp_in_nI (by omega) (by decide)
          refine br_t (nI_lt (b := 6) (by omega) (by decide)) ⟨hi, nm_e ⟨hi, nm_e ⟨hi, nm_e (nm_e ?_)⟩⟩⟩
          refine cn_2Yt (nI f) tr po pa pe am ow' re pc be h (br_f cn_10 (br_f c1 (br_t c2 (br_f (fun z => c3 ((nI_eq (b := 6) (by omega) (by decide)).mp z)) ⟨hi, nm_e ⟨hi, nm_e ⟨hi, nm_e (nm_e ⟨rfl, cn_mk ?_⟩)⟩⟩⟩))))
          rw [cn_cl (by omega), nI_1]
          refine ⟨j1, j2, j3, f + 1, by omega, rfl, fun i hi' => ?_⟩
          obtain ⟨a, b, ha, hb, ne, rfl, rfl⟩ := h
          by_cases e : i = f
          · subst e
            rw [pk_us, pk_us, cn_I, pk_us]
            refine ⟨cn_in7 ha, cn_in7 hb, ?_⟩
            rw [cn_lt0] at c1
            rw [cn_lei, show (10000 : Int32).toInt = 10000 by decide] at c2
            omega
          · rw [pk_un e, pk_un e, cn_I, pk_un e]
            exact j4 i (by omega)
      · exact br_f c2 (cn_2Yt fg tr po pa pe am ow' re pc be h (br_f cn_10 (br_f c1 (br_f c2 ⟨rfl, cn_mk J⟩))))
  · exact cn_2Xf h (br_t rfl (cn_2Yf fg tr po pa pe am ow' re pc be h (br_t rfl ⟨rfl, cn_mk J⟩)))
end
section
theorem cn_ned {x y : Int32} : -(x - y) = y - x := by
  apply Int32.toInt_inj.mp
  have e1 : -(x - y) = cn_i (-(x.toInt - y.toInt)) := by rw [cn_i_neg, cn_i_sub, cn_i_of, cn_i_of]
  have e2 : y - x = cn_i (y.toInt - x.toInt) := by rw [cn_i_sub, cn_i_of, cn_i_of]
  rw [e1, e2, show -(x.toInt - y.toInt) = y.toInt - x.toInt by omega]

theorem i_vc_leastDebt {k : Nat} {u : SX} {v : SY} (I : i_Rel k u v) (hk : k + 4 ≤ 2048) (v1 : Int32) (v2 : Int32) : wpX_leastDebt (fun r => wpY_leastDebt (fun r' => r' = r ∧ i_Rel (k + 4) u v) v v1 v2) u v1 v2 := by
  obtain ⟨fg, tr, po, pa, pe, am, ow, un, di, pr, ow', re, pc, be, rfl, rfl, J⟩ := I
  unfold wpX_leastDebt wpY_leastDebt
  by_cases h : cn_two v1 v2
  · have h2 := h
    obtain ⟨a, b, ha, hb, ne, rfl, rfl⟩ := h
    rw [cn_ix, cn_ix, cn_iy, cn_iy]
    refine cn_2Xt h2 (br_f cn_10 ?_)
    by_cases c : nI a ≤ nI b
    · refine br_t c ⟨cn_in49 ha hb, nm_e ⟨cn_in49 hb ha, cn_mostX fg tr po pa pe am ow un di pr ha hb ne J (nm_e ?_)⟩⟩
      by_cases d : -tr (nI (a * 7 + b)).toNatClampNeg ≤ tr (nI (b * 7 + a)).toNatClampNeg - cn_i (cn_lr (cn_I tr) (cn_I po) (2 ^ b) (2 ^ a) 128)
      · refine br_t d (cn_2Yt fg tr po pa pe am ow' re pc be h2 (br_f cn_10 (br_t c (cn_slackY fg tr po pa pe am ow' re pc be ha hb ne J ⟨cn_in49 hb ha, nm_e ⟨cn_in49 ha hb, ?_⟩⟩))))
        rw [cn_ned]
        exact br_c (fun d' => ⟨cn_in49 ha hb, Int32.le_antisymm d d', cn_mk J⟩) (fun _ => ⟨rfl, cn_mk J⟩)
      · refine br_f d (cn_2Yt fg tr po pa pe am ow' re pc be h2 (br_f cn_10 (br_t c (cn_slackY fg tr po pa pe am ow' re pc be ha hb ne J ⟨cn_in49 hb ha, nm_e ⟨cn_in49 ha hb, ?_⟩⟩))))
        rw [cn_ned]
        exact br_t (Int32.le_of_lt (Int32.not_le.mp d)) ⟨cn_in49 ha hb, rfl, cn_mk J⟩
    · exact br_f c (cn_2Yt fg tr po pa pe am ow' re pc be h2 (br_f cn_10 (br_f c ⟨rfl, cn_mk J⟩)))
  · exact cn_2Xf h (br_t rfl (cn_2Yf fg tr po pa pe am ow' re pc be h (br_t rfl ⟨rfl, cn_mk J⟩)))

theorem i_vc_greatestDebt {k : Nat} {u : SX} {v : SY} (I : i_Rel k u v) (hk : k + 4 ≤ 2048) (v1 : Int32) (v2 : Int32) : wpX_greatestDebt (fun r => wpY_greatestDebt (fun r' => r' = r ∧ i_Rel (k + 4) u v) v v1 v2) u v1 v2 := by
  obtain ⟨fg, tr, po, pa, pe, am, ow, un, di, pr, ow', re, pc, be, rfl, rfl, J⟩ := I
  unfold wpX_greatestDebt wpY_greatestDebt
  by_cases h : cn_two v1 v2
  · have h2 := h
    obtain ⟨a, b, ha, hb, ne, rfl, rfl⟩ := h
    rw [cn_ix, cn_ix, cn_iy, cn_iy]
    refine cn_2Xt h2 (br_f cn_10 ?_)
    by_cases c : nI a ≤ nI b
    · refine br_t c ⟨cn_in49 hb ha, nm_e (cn_mostX fg tr po pa pe am ow un di pr hb ha (fun z => ne z.symm) J ⟨cn_in49 ha hb, nm_e ?_⟩)⟩
      by_cases d : cn_i (cn_lr (cn_I tr) (cn_I po) (2 ^ a) (2 ^ b) 128) - tr (nI (a * 7 + b)).toNatClampNeg ≤ tr (nI (b * 7 + a)).toNatClampNeg
      · refine br_t d (cn_2Yt fg tr po pa pe am ow' re pc be h2 (br_f cn_10 (br_t c (cn_slackY fg tr po pa pe am ow' re pc be hb ha (fun z => ne z.symm) J ⟨cn_in49 ha hb, nm_e ⟨cn_in49 hb ha, ?_⟩⟩))))
        exact br_c (fun d' => ⟨cn_in49 hb ha, Int32.le_antisymm d' d, cn_mk J⟩) (fun _ => ⟨rfl, cn_mk J⟩)
      · refine br_f d (cn_2Yt fg tr po pa pe am ow' re pc be h2 (br_f cn_10 (br_t c (cn_slackY fg tr po pa pe am ow' re pc be hb ha (fun z => ne z.symm) J ⟨cn_in49 ha hb, nm_e ⟨cn_in49 hb ha, ?_⟩⟩))))
        exact br_t (Int32.le_of_lt (Int32.not_le.mp d)) ⟨cn_in49 hb ha, rfl, cn_mk J⟩
    · exact br_f c (cn_2Yt fg tr po pa pe am ow' re pc be h2 (br_f cn_10 (br_f c ⟨rfl, cn_mk J⟩)))
  · exact cn_2Xf h (br_t rfl (cn_2Yf fg tr po pa pe am ow' re pc be h (br_t rfl ⟨rfl, cn_mk J⟩)))

/-- a listed payment made -/
def cn_ms (s : Int32) (a b : Nat) (x : Int32) (q : Nat → Int32) : Nat → Int32 := upd (upd q a (q a - s * x)) b (upd q a (q a - s * x) b + s * x)
def cn_mv (s : Int32) (pa pe am : Nat → Int32) (q : Nat → Int32) : Nat → (Nat → Int32)
  | 0 => q
  | n + 1 => cn_ms s (pa n).toNatClampNeg (pe n).toNatClampNeg (am n) (cn_mv s pa pe am q n)
/-- what the listed payments do to a position -/
def cn_D (pa pe am : Nat → Int32) (j : Nat) : Nat → Int
  | 0 => 0
  | n + 1 => cn_D pa pe am j n + (if j = (pe n).toNatClampNeg then cn_I am n else 0) - (if j = (pa n).toNatClampNeg then cn_I am n else 0)

theorem cn_ms_v (s a' b' : Int) (a b : Nat) (x p : Int) (q : Nat → Int32) (j : Nat) (hj : q j = cn_i p) :
    cn_ms (cn_i s) a b (cn_i x) q j = cn_i (p + s * ((if j = b then x else 0) - (if j = a then x else 0))) := by
  unfold cn_ms
  by_cases eb : j = b
  · subst eb
    rw [pk_us, if_pos rfl]
    by_cases ea : j = a
    · subst ea
      rw [pk_us, if_pos rfl, hj, ← cn_i_mul, ← cn_i_sub, ← cn_i_add, Int.sub_self, Int.mul_zero, Int.add_zero, Int.sub_add_cancel]
    · rw [pk_un ea, if_neg ea, hj, ← cn_i_mul, ← cn_i_add, Int.sub_zero]
  · rw [pk_un eb, if_neg eb]
    by_cases ea : j = a
    · subst ea
      rw [pk_us, if_pos rfl, hj, ← cn_i_mul, ← cn_i_sub, Int.zero_sub, Int.mul_neg, Int.sub_eq_add_neg]
    · rw [pk_un ea, if_neg ea, hj, Int.sub_self, Int.mul_zero, Int.add_zero]

theorem cn_mv_v (s : Int) (pa pe am q : Nat → Int32) (j : Nat) (p : Int) (hj : q j = cn_i p) : ∀ n, cn_mv (cn_i s) pa pe am q n j = cn_i (p + s * cn_D pa pe am j n) := by
  intro n
  induction n with
  | zero =>
    show q j = _
    rw [hj, cn_D, Int.mul_zero, Int.add_zero]
  | succ n ih =>
    have e := cn_ms_v s 0 0 (pa n).toNatClampNeg (pe n).toNatClampNeg (cn_I am n) _ (cn_mv (cn_i s) pa pe am q n) j ih
    rw [← cn_I_of] at e
    rw [cn_mv, e, cn_D]
    congr 1
    rw [Int.add_assoc, ← Int.mul_add]
    congr 2
    omega

theorem cn_mv_back (pa pe am q : Nat → Int32) (n : Nat) : cn_mv (-1) pa pe am (cn_mv 1 pa pe am q n) n = q := by
  funext j
  have e1 := cn_mv_v 1 pa pe am q j (cn_I q j) (cn_I_of q j) n
  have e2 := cn_mv_v (-1) pa pe am (cn_mv 1 pa pe am q n) j _ e1 n
  have e3 : cn_mv (-1) pa pe am (cn_mv 1 pa pe am q n) n j = _ := e2
  rw [e3, cn_I_of q j]
  congr 1
  omega

theorem cn_D_b {pa pe am : Nat → Int32} {j n : Nat} (h : ∀ i, i < n → 0 ≤ cn_I am i ∧ cn_I am i ≤ 10000) : -(10000 * (n : Int)) ≤ cn_D pa pe am j n ∧ cn_D pa pe am j n ≤ 10000 * n := by
  induction n with
  | zero => rw [cn_D]; exact ⟨by decide, by decide⟩
  | succ n ih =>
    have a := ih (fun i hi => h i (by omega))
    have b := h n (by omega)
    rw [cn_D]
    split <;> split <;> omega

theorem cn_D_s {pa pe am : Nat → Int32} {n : Nat} (h : ∀ i, i < n → (pa i).toNatClampNeg < 7 ∧ (pe i).toNatClampNeg < 7) : cn_sum (fun j => cn_D pa pe am j n) 7 = 0 := by
  induction n with
  | zero => exact cn_sum_0 7
  | succ n ih =>
    have a := ih (fun i hi => h i (by omega))
    obtain ⟨b, c⟩ := h n (by omega)
    have one : ∀ w x, w < 7 → cn_sum (fun j => if j = w then x else 0) 7 = x := by
      intro w x hw
      have e : cn_sum (fun j => if j = w then x else 0) 7 = cn_sum (cn_up (fun _ => 0) w x) 7 := cn_sum_congr (fun j _ => rfl)
      rw [e, cn_sum_up _ _ hw, cn_sum_0]
      omega
    have e : cn_sum (fun j => cn_D pa pe am j (n + 1)) 7 = cn_sum (fun j => cn_D pa pe am j n) 7 + cn_sum (fun j => if j = (pe n).toNatClampNeg then cn_I am n else 0) 7 - cn_sum (fun j => if j = (pa n).toNatClampNeg then cn_I am n else 0) 7 := by
      rw [← cn_sum_add, ← cn_sum_sub]
      exact cn_sum_congr (fun j _ => rfl)
    rw [e, a, one _ _ b, one _ _ c]
    omega

theorem cn_inlt {x : Int32} {n : Nat} (h : vp_in x n) : x.toNatClampNeg < n := by
  unfold vp_in at h
  omega

section
variable (tr pa pe am ow un di pr : Nat → Int32)

theorem cn_mvX {post : SX → Prop} {f : Nat} (s : Int32) (po : Nat → Int32) (hf : f ≤ 6) (hl : ∀ i, i < f → vp_in (pa i) 7 ∧ vp_in (pe i) 7)
    (h : post (nI f, tr, cn_mv s pa pe am po f, pa, pe, am, ow, un, di, pr)) : wpX_moveGathered post (nI f, tr, po, pa, pe, am, ow, un, di, pr) s := by
  refine loop_0 (fun n k (q : Nat → Int32) => wX_moveGathered_2 post s (nI f) n (nI k) tr q pa pe am ow un di pr) (fun k q => q = cn_mv s pa pe am po k) f po ?_ ?_ ?_
  · rfl
  · intro n q hq
    subst hq
    exact br_t (Int32.le_refl _) h
  · intro n k q hk hq ih
    subst hq
    obtain ⟨h1, h2⟩ := hl k hk
    have hi : vp_in (nI k) 6 := vp_in_nI (by omega) (by decide)
    refine br_f (nI_ge hk (by omega)) ?_
    rw [cn_cl (by omega)]
    exact ⟨hi, h1, hi, h1, nm_e ⟨hi, h2, hi, h2, nm_e (nm_r (nI_1 k) (ih _ rfl))⟩⟩

theorem cn_mvY {post : SY → Prop} {f : Nat} (s : Int32) (po : Nat → Int32) (hf : f ≤ 6) (hl : ∀ i, i < f → vp_in (pa i) 7 ∧ vp_in (pe i) 7)
    (h : post (nI f, tr, cn_mv s pa pe am po f, pa, pe, am, ow, un, di, pr)) : wpY_payAll post (nI f, tr, po, pa, pe, am, ow, un, di, pr) s := by
  refine loop_0 (fun n k (q : Nat → Int32) => wY_payAll_2 post s (nI f) n (nI k) tr q pa pe am ow un di pr) (fun k q => q = cn_mv s pa pe am po k) f po ?_ ?_ ?_
  · rfl
  · intro n q hq
    subst hq
    exact br_t (Int32.le_refl _) h
  · intro n k q hk hq ih
    subst hq
    obtain ⟨h1, h2⟩ := hl k hk
    have hi : vp_in (nI k) 6 := vp_in_nI (by omega) (by decide)
    refine br_f (nI_ge hk (by omega)) ?_
    rw [cn_cl (by omega)]
    exact ⟨hi, hi, h1, hi, h1, nm_e ⟨hi, hi, h2, hi, h2, nm_e (nm_r (nI_1 k) (ih _ rfl))⟩⟩
end

theorem i_vc_clear {k : Nat} {u : SX} {v : SY} (I : i_Rel k u v) (hk : k + 4 ≤ 2048) : wpX_clear (fun r u' => wpY_clear (fun r' v' => r' = r ∧ i_Rel (k + 4) u' v') v) u := by
  obtain ⟨fg, tr, po, pa, pe, am, ow, un, di, pr, ow', re, pc, be, rfl, rfl, J⟩ := I
  unfold wpX_clear wpY_clear
  have P := cn_Inv_P J
  have J' := J
  obtain ⟨j1, j2, j3, f, hf, rfl, j4⟩ := J
  have hl : ∀ i, i < f → vp_in (pa i) 7 ∧ vp_in (pe i) 7 := fun i hi => ⟨(j4 i hi).1, (j4 i hi).2.1⟩
  have ev : ∀ j, cn_mv 1 pa pe am po f j = cn_i (cn_I po j + 1 * cn_D pa pe am j f) := fun j => cn_mv_v 1 pa pe am po j _ (cn_I_of po j) f
  have eb : ∀ j, j < 7 → cn_I (cn_mv 1 pa pe am po f) j = cn_I po j + cn_D pa pe am j f := by
    intro j hj
    have a := P j hj
    have b := cn_D_b (pa := pa) (pe := pe) (am := am) (j := j) (n := f) (fun i hi => (j4 i hi).2.2)
    unfold cn_I at *
    rw [ev j, cn_ti (by omega) (by omega)]
    omega
  have Q : ∀ w, w < 7 → -1000000 ≤ cn_I (cn_mv 1 pa pe am po f) w ∧ cn_I (cn_mv 1 pa pe am po f) w ≤ 1000000 := by
    intro w hw
    have a := P w hw
    have b := cn_D_b (pa := pa) (pe := pe) (am := am) (j := w) (n := f) (fun i hi => (j4 i hi).2.2)
    rw [eb w hw]
    omega
  have S : cn_sum (cn_I (cn_mv 1 pa pe am po f)) 7 = 0 := by
    have e : cn_sum (cn_I (cn_mv 1 pa pe am po f)) 7 = cn_sum (fun j => cn_I po j + cn_D pa pe am j f) 7 := cn_sum_congr eb
    have e2 : cn_sum (fun j => cn_I po j) 7 = 0 := j3
    rw [e, cn_sum_add, e2, cn_D_s (fun i hi => ⟨cn_inlt (hl i hi).1, cn_inlt (hl i hi).2⟩)]
    rfl
  have L := cn_lr_Lr (t := cn_I tr) (P := cn_I (cn_mv 1 pa pe am po f)) (m := 0) (x := 0) (by decide) (by decide)
  have lb := cn_lr_b (m := 0) (x := 0) j1 Q 128
  refine cn_mvX tr pa pe am ow un di pr 1 po hf hl ?_
  refine cn_lrX (nI f) tr _ pa pe am ow un di pr (m := 0) (x := 0) (by decide) (by decide) j1 Q ?_
  refine cn_ble 0 _ cn_i_0.symm rfl cn_n0 ⟨by omega, by omega⟩ (fun c => ?_) (fun c => ?_)
  · have all : ∀ s, s < 128 → 0 ≤ cn_rm (cn_I tr) (cn_I (cn_mv 1 pa pe am po f)) (cn_bit s) := by
      intro s hs
      have := L.1 s hs (Nat.and_zero s) (Nat.and_zero s)
      omega
    refine cn_mvY tr pa pe am ow' re pc be 1 po hf hl ?_
    refine cn_psY (nI f) tr _ pa pe am ow' re pc be j1 Q (fun _ => br_f cn_10 ⟨rfl, cn_mk ⟨j1, all, S, 0, by decide, rfl, fun i hi => by omega⟩⟩) (fun n => absurd all n)
  · refine cn_mvX tr pa pe am ow un di pr (-1) _ hf hl ?_
    refine cn_mvY tr pa pe am ow' re pc be 1 po hf hl ?_
    refine cn_psY (nI f) tr _ pa pe am ow' re pc be j1 Q (fun n => ?_) (fun _ => br_t rfl (cn_mvY tr pa pe am ow' re pc be (-1) _ hf hl ?_))
    · obtain ⟨s, s0, s1, s2, s3⟩ := L.2
      have := n s s0
      omega
    · rw [cn_mv_back]
      exact ⟨rfl, cn_mk J'⟩
end
section
/-- a pair counts -/
def cn_c (tr po : Nat → Int32) (x : Int32) (p : Nat) : Int :=
  if p / 7 = p % 7 then 0 else if cn_i (cn_lr (cn_I tr) (cn_I po) (2 ^ (p % 7)) (2 ^ (p / 7)) 128) < x then 0 else 1

section
variable (fg : Int32) (tr po pa pe am ow un di pr : Nat → Int32)

theorem cn_opX {post : Int32 → Prop} (x : Int32) (J : cn_Inv fg tr po pa pe am) (h : post (cn_i (cn_sum (cn_c tr po x) 49))) : wpX_open post (fg, tr, po, pa, pe, am, ow, un, di, pr) x := by
  refine loop_0 (fun n k (s : Int32) => wX_open_4 post x fg tr po pa pe am ow un di pr n s (nI k)) (fun k s => s = cn_i (cn_sum (cn_c tr po x) (k * 7))) 7 0 ?_ ?_ ?_
  · exact cn_i_0.symm
  · intro n s hs
    subst hs
    exact br_t cn_t7 h
  · intro n u s hu hs ih
    subst hs
    refine br_f (cn_f7 hu) ?_
    refine loop_0 (fun n' v (s : Int32) => wX_open_13 post (wX_open_4 post x fg tr po pa pe am ow un di pr n) x (nI u) fg tr po pa pe am ow un di pr n' s (nI v)) (fun v s => s = cn_i (cn_sum (cn_c tr po x) (u * 7 + v))) 7 _ rfl ?_ ?_
    · intro n' s hs
      subst hs
      refine br_t cn_t7 (nm_r (nI_1 u) (ih _ ?_))
      rw [Nat.succ_mul]
    · intro n' v s hv hs ih'
      subst hs
      have d1 : (u * 7 + v) / 7 = u := by omega
      have d2 : (u * 7 + v) % 7 = v := by omega
      refine br_f (cn_f7 hv) (pk_eq u v (fun e => nm_r (nI_1 v) (ih' _ ?_)) (fun e => cn_mostX fg tr po pa pe am ow un di pr hu hv e J ?_))
      · rw [← Nat.add_assoc, cn_sum_s, cn_c, d1, d2, if_pos e, Int.add_zero]
      · refine br_c (fun c => nm_r (nI_1 v) (ih' _ ?_)) (fun c => nm_r (e' := cn_i (cn_sum (cn_c tr po x) (u * 7 + (v + 1)))) ?_ (nm_r (nI_1 v) (ih' _ rfl)))
        · rw [← Nat.add_assoc, cn_sum_s, cn_c, d1, d2, if_neg e, if_pos c, Int.add_zero]
        · rw [← Nat.add_assoc, cn_sum_s, cn_c, d1, d2, if_neg e, if_neg c, cn_i_add, cn_i_1]

theorem cn_opY {post : Int32 → Prop} (x : Int32) (J : cn_Inv fg tr po pa pe am) (h : post (cn_i (cn_sum (cn_c tr po x) 49))) : wpY_open post (fg, tr, po, pa, pe, am, ow, un, di, pr) x := by
  refine loop_0 (fun n k (s : Int32) => wY_open_4 post x fg tr po pa pe am ow un di pr n s (nI k)) (fun k s => s = cn_i (cn_sum (cn_c tr po x) k)) 49 0 ?_ ?_ ?_
  · exact cn_i_0.symm
  · intro n s hs
    subst hs
    exact br_t cn_t49 h
  · intro n k s hk hs ih
    subst hs
    refine br_f (cn_f49 hk) ⟨cn_70, cn_70, ?_⟩
    rw [cn_r7 (by omega), cn_q7 (by omega)]
    refine pk_eq (k / 7) (k % 7) (fun e => nm_r (nI_1 k) (ih _ ?_)) (fun e => ⟨cn_70, cn_70, cn_mostY fg tr po pa pe am ow un di pr (by omega) (by omega) e J ?_⟩)
    · rw [cn_sum_s, cn_c, if_pos e, Int.add_zero]
    · refine br_c (fun c => nm_r (nI_1 k) (ih _ ?_)) (fun c => nm_r (e' := cn_i (cn_sum (cn_c tr po x) (k + 1))) ?_ (nm_r (nI_1 k) (ih _ rfl)))
      · rw [cn_sum_s, cn_c, if_neg e, if_pos c, Int.add_zero]
      · rw [cn_sum_s, cn_c, if_neg e, if_neg c, cn_i_add, cn_i_1]
end

theorem i_vc_open {k : Nat} {u : SX} {v : SY} (I : i_Rel k u v) (hk : k + 4 ≤ 2048) (v1 : Int32) : wpX_open (fun r => wpY_open (fun r' => r' = r ∧ i_Rel (k + 4) u v) v v1) u v1 := by
  obtain ⟨fg, tr, po, pa, pe, am, ow, un, di, pr, ow', re, pc, be, rfl, rfl, J⟩ := I
  exact cn_opX fg tr po pa pe am ow un di pr v1 J (cn_opY fg tr po pa pe am ow' re pc be v1 J ⟨rfl, cn_mk J⟩)
end
section
theorem cn_g_b {t : Nat → Int} {g : Nat → Nat → Int} (ht : cn_T t) (hg : cn_St t g) {u v : Nat} (hu : u < 7) (hv : v < 7) : -1000 ≤ g u v ∧ g u v ≤ 1000 := by
  have a := hg u v hu hv
  have b := hg v u hv hu
  have c := ht (v * 7 + u)
  have d := ht (u * 7 + v)
  omega
theorem cn_room_b {t : Nat → Int} {g : Nat → Nat → Int} (ht : cn_T t) (hg : cn_St t g) {u v : Nat} (hu : u < 7) (hv : v < 7) : 0 ≤ cn_room t g u v ∧ cn_room t g u v ≤ 2000 := by
  have a := cn_g_b ht hg hu hv
  have b := hg u v hu hv
  have c := ht (v * 7 + u)
  unfold cn_room
  split <;> omega
theorem cn_T2 {t : Nat → Int} (ht : cn_T t) : ∀ u v, u < 7 → v < 7 → 0 ≤ t (u * 7 + v) := fun _ _ _ _ => (ht _).1

/-- X's owed holds g -/
def cn_TX (ow : Nat → Int32) (g : Nat → Nat → Int) : Prop := ∀ u v, u < 7 → v < 7 → cn_I ow (u * 7 + v) = cn_pp (g u v)
/-- the labels and the members before -/
def cn_TS (di pr : Nat → Int32) (d : Nat → Int) (p : Nat → Nat) : Prop := ∀ w, w < 7 → di w = cn_i (d w) ∧ pr w = nI (p w) ∧ p w < 7

section
variable (fg : Int32) (tr po pa pe am ow un di pr : Nat → Int32)

theorem cn_scX {post : Int32 → Prop} {g : Nat → Nat → Int} {u v : Nat} (hg : cn_St (cn_I tr) g) (h : cn_TX ow g) (hu : u < 7) (hv : v < 7) (hp : post (cn_i (cn_cost g u v))) :
    wpX_stepCost post (fg, tr, po, pa, pe, am, ow, un, di, pr) (nI u) (nI v) := by
  unfold wpX_stepCost
  dsimp only
  rw [cn_ix]
  refine ⟨cn_in49 hv hu, ?_⟩
  rw [cn_cl (by omega)]
  have e := h v u hv hu
  have a := (hg v u hv hu).1
  have b := cn_nrI (ow (v * 7 + u))
  refine cn_ble _ 0 (cn_I_of ow _) cn_i_0.symm b cn_n0 (fun c => ?_) (fun c => ?_)
  · rw [e] at c
    unfold cn_cost at hp
    unfold cn_pp at c
    rw [if_neg (by split at c <;> omega)] at hp
    exact hp
  · rw [e] at c
    unfold cn_cost at hp
    unfold cn_pp at c
    rw [if_pos (by split at c <;> omega)] at hp
    exact hp

theorem cn_srX {post : Int32 → Prop} {g : Nat → Nat → Int} {u v : Nat} (hg : cn_St (cn_I tr) g) (h : cn_TX ow g) (hu : u < 7) (hv : v < 7) (hp : post (cn_i (cn_room (cn_I tr) g u v))) :
    wpX_stepRoom post (fg, tr, po, pa, pe, am, ow, un, di, pr) (nI u) (nI v) := by
  unfold wpX_stepRoom
  dsimp only
  rw [cn_ix, cn_ix]
  refine ⟨cn_in49 hv hu, nm_e ?_⟩
  rw [cn_cl (by omega), cn_cl (by omega)]
  have e := h v u hv hu
  have e' := h u v hu hv
  have a := (hg v u hv hu).1
  have b := cn_nrI (ow (v * 7 + u))
  refine cn_ble _ 0 (cn_I_of ow _) cn_i_0.symm b cn_n0 (fun c => ⟨cn_in49 hv hu, cn_in49 hu hv, ?_⟩) (fun c => ?_)
  · rw [e] at c
    unfold cn_room at hp
    unfold cn_pp at c e'
    have n : ¬ g u v < 0 := by split at c <;> omega
    rw [if_neg n, cn_i_sub] at hp
    have q : cn_I ow (u * 7 + v) = g u v := by rw [e']; split <;> omega
    rw [cn_I_of tr, cn_I_of ow, q]
    exact hp
  · rw [e] at c
    unfold cn_room at hp
    unfold cn_pp at c e
    have n : g u v < 0 := by split at c <;> omega
    rw [if_pos n] at hp
    have q : cn_I ow (v * 7 + u) = - g u v := by rw [e]; split <;> omega
    rw [cn_I_of ow, q]
    exact hp

theorem cn_tsX {post : SX → Prop} {g : Nat → Nat → Int} {q d0 d : Nat → Int} {p : Nat → Nat} {b B : Int} {S : Nat → Prop} {u : Nat} (ht : cn_T (cn_I tr)) (hg : cn_St (cn_I tr) g) (h : cn_TX ow g)
    (hq : cn_Opt (cn_I tr) g q) (hS : ∀ s, s < 7 → S s → q s = b) (hB : B + 100 < 1000000) (hu : u < 7) (ts : cn_TS di pr d p)
    (hp : cn_Pa (cn_R (cn_I tr) g) (cn_cost g) q b S 1000000 B d0 (u * 7) d p)
    (hpost : ∀ di' pr' d' p', cn_TS di' pr' d' p' → cn_Pa (cn_R (cn_I tr) g) (cn_cost g) q b S 1000000 B d0 ((u + 1) * 7) d' p' → post (fg, tr, po, pa, pe, am, ow, un, di', pr')) :
    wpX_takeStepsFrom post (fg, tr, po, pa, pe, am, ow, un, di, pr) (nI u) := by
  have bd : ∀ {m : Nat} {d : Nat → Int} {p : Nat → Nat}, m ≤ 49 → cn_Pa (cn_R (cn_I tr) g) (cn_cost g) q b S 1000000 B d0 m d p → ∀ w, w < 7 → -1000000 ≤ d w ∧ d w ≤ 1000000 := by
    intro m d p hm H w hw
    rcases H.1.2.1 w hw with x | x <;> omega
  refine ⟨cn_in7 hu, ?_⟩
  rw [cn_cl (by omega)]
  have db := bd (by omega) hp u hu
  refine cn_beq (d u) 1000000 (ts u hu).1 (by decide) ⟨by omega, by omega⟩ ⟨by decide, by decide⟩ (fun e => hpost di pr d p ts (cn_Pa_row hu hp e)) (fun e => ?_)
  refine loop_0 (fun n v (s : (Nat → Int32) × (Nat → Int32)) => wX_takeStepsFrom_14 post (nI u) fg n (nI v) tr po pa pe am ow un s.1 s.2)
    (fun v s => ∃ d p, cn_TS s.1 s.2 d p ∧ cn_Pa (cn_R (cn_I tr) g) (cn_cost g) q b S 1000000 B d0 (u * 7 + v) d p ∧ d u ≠ 1000000) 7 (di, pr) ⟨d, p, ts, hp, e⟩ ?_ ?_
  · intro n s hs
    obtain ⟨d, p, ts, hp, e⟩ := hs
    rw [← Nat.succ_mul] at hp
    exact br_t cn_t7 (hpost s.1 s.2 d p ts hp)
  · intro n v s hv hs ih
    obtain ⟨d, p, ts, hp, e⟩ := hs
    have du := bd (by omega) hp u hu
    have dv := bd (by omega) hp v hv
    have cb := cn_cost_b g u v
    have rb := cn_room_b ht hg hu hv
    have keep : (cn_R (cn_I tr) g u v → ¬ d u + cn_cost g u v < d v) → wX_takeStepsFrom_14 post (nI u) fg n (nI (v + 1)) tr po pa pe am ow un s.1 s.2 :=
      fun z => ih s ⟨d, p, ts, cn_Pa_no hu hv hp (fun _ => z), e⟩
    refine br_f (cn_f7 hv) ⟨cn_in7 hu, cn_scX fg tr po pa pe am ow un s.1 s.2 hg h hu hv (nm_r (e' := cn_i (d u + cn_cost g u v)) ?_ ?_)⟩
    · rw [cn_cl (by omega), (ts u hu).1, cn_i_add]
    · refine pk_eq u v (fun z => nm_r (nI_1 v) (keep (fun R => absurd z R.1))) (fun z => cn_srX fg tr po pa pe am ow un s.1 s.2 hg h hu hv ?_)
      refine cn_ble _ 0 rfl cn_i_0.symm ⟨by omega, by omega⟩ cn_n0 (fun c => nm_r (nI_1 v) (keep (fun R => by have := R.2; omega))) (fun c => ⟨cn_in7 hv, ?_⟩)
      rw [cn_cl (by omega)]
      refine cn_ble (d v) (d u + cn_cost g u v) (ts v hv).1 rfl ⟨by omega, by omega⟩ ⟨by omega, by omega⟩ (fun c2 => nm_r (nI_1 v) (keep (fun R => by omega))) (fun c2 => ⟨cn_in7 hv, nm_e ⟨cn_in7 hv, nm_e (nm_r (nI_1 v) ?_)⟩⟩)
      refine ih (_, _) ⟨cn_up d v (d u + cn_cost g u v), cn_un p v u, ?_, cn_Pa_yes (cn_Opt_Pt hq) hS (cn_cost_b g) hB hu hv hp e ⟨z, c⟩ c2, ?_⟩
      · intro w hw
        by_cases f : w = v
        · subst f
          rw [cn_up_s, cn_un_s]
          exact ⟨pk_us, pk_us, hu⟩
        · rw [cn_up_n f, cn_un_n f]
          exact ⟨(pk_un f).trans (ts w hw).1, (pk_un f).trans (ts w hw).2.1, (ts w hw).2.2⟩
      · rw [cn_up_n z]
        exact e

theorem cn_fsX {post : SX → Prop} {g : Nat → Nat → Int} {q : Nat → Int} {s : Nat} (ht : cn_T (cn_I tr)) (hg : cn_St (cn_I tr) g) (h : cn_TX ow g)
    (hq : cn_Opt (cn_I tr) g q) (hs : s < 7)
    (hpost : ∀ di' pr' d' p', cn_TS di' pr' d' p' → cn_Ro (cn_R (cn_I tr) g) (cn_cost g) q (q s) (fun w => w = s) 1000000 6 d' p' → post (fg, tr, po, pa, pe, am, ow, un, di', pr')) :
    wpX_findShortestWays post (fg, tr, po, pa, pe, am, ow, un, di, pr) (nI s) := by
  refine loop_0 (fun n k (a : (Nat → Int32) × (Nat → Int32)) => wX_findShortestWays_2 post (nI s) fg n (nI k) tr po pa pe am ow un a.1 a.2)
    (fun k a => ∀ w, w < k → a.1 w = 1000000 ∧ a.2 w = nI s) 7 (di, pr) (fun w hw => by omega) ?_ ?_
  · intro n a ha
    refine br_t cn_t7 ⟨cn_in7 hs, nm_e ?_⟩
    refine loop_0 (fun n k (a : (Nat → Int32) × (Nat → Int32)) => wX_findShortestWays_38 post n (nI (k + 1)) fg tr po pa pe am ow un a.1 a.2)
      (fun k a => ∃ d p, cn_TS a.1 a.2 d p ∧ cn_Ro (cn_R (cn_I tr) g) (cn_cost g) q (q s) (fun w => w = s) 1000000 k d p) 6 (_, _) ?_ ?_ ?_
    · refine ⟨cn_up (fun _ => 1000000) s 0, fun _ => s, fun w hw => ?_, cn_Ro_0 ⟨?_, ?_, ?_, ?_, fun _ => 0, ?_⟩⟩
      · rw [cn_cl (by omega)]
        by_cases f : w = s
        · subst f
          rw [cn_up_s]
          exact ⟨pk_us, (ha w hw).2, hs⟩
        · rw [cn_up_n f]
          exact ⟨(pk_un f).trans (ha w hw).1, (ha w hw).2, hs⟩
      · intro x hx e
        subst e
        exact ⟨cn_up_s, rfl⟩
      · intro x hx
        by_cases f : x = s
        · subst f
          rw [cn_up_s]
          exact Or.inr ⟨by omega, by omega⟩
        · rw [cn_up_n f]
          exact Or.inl rfl
      · intro x hx e
        by_cases f : x = s
        · subst f
          rw [cn_up_s]
          omega
        · rw [cn_up_n f] at e
          exact absurd rfl e
      · intro x hx f e
        rw [cn_up_n f] at e
        exact absurd rfl e
      · intro x hx f e
        rw [cn_up_n f] at e
        exact absurd rfl e
    · intro n a ⟨d, p, ts, ro⟩
      exact br_t cn_t7 (hpost a.1 a.2 d p ts ro)
    · intro n k a hk ⟨d, p, ts, ro⟩ ih
      refine br_f (cn_f7 (k := k + 1) (by omega)) ?_
      refine loop_0 (fun n' u (a : (Nat → Int32) × (Nat → Int32)) => wX_findShortestWays_46 post (wX_findShortestWays_38 post n) (nI (k + 1)) n' (nI u) fg tr po pa pe am ow un a.1 a.2)
        (fun u a => ∃ d' p', cn_TS a.1 a.2 d' p' ∧ cn_Pa (cn_R (cn_I tr) g) (cn_cost g) q (q s) (fun w => w = s) 1000000 (49 * k) d (u * 7) d' p') 7 a ⟨d, p, ts, cn_Pa_0 ro.1⟩ ?_ ?_
      · intro n' a ⟨d', p', ts', hp⟩
        exact br_t cn_t7 (nm_r (nI_1 (k + 1)) (ih a ⟨d', p', ts', cn_Ro_s ro hp⟩))
      · intro n' u a hu ⟨d', p', ts', hp⟩ ih'
        refine br_f (cn_f7 hu) (cn_tsX fg tr po pa pe am ow un a.1 a.2 ht hg h hq (fun x _ e => by rw [e]) (by omega) hu ts' hp (fun di' pr' d'' p'' ts'' hp'' => nm_r (nI_1 u) (ih' (di', pr') ⟨d'', p'', ts'', hp''⟩)))
  · intro n k a hk ha ih
    refine br_f (cn_f7 hk) ⟨cn_in7 hk, nm_e ⟨cn_in7 hk, nm_e (nm_r (nI_1 k) (ih (_, _) ?_))⟩⟩
    intro w hw
    rw [cn_cl (by omega)]
    by_cases f : w = k
    · subst f
      exact ⟨pk_us, pk_us⟩
    · exact ⟨(pk_un f).trans (ha w (by omega)).1, (pk_un f).trans (ha w (by omega)).2⟩
end
end
section
theorem cn_po_b {t : Nat → Int} {g : Nat → Nat → Int} (ht : cn_T t) (hg : cn_St t g) {w : Nat} (hw : w < 7) : -7000 ≤ cn_po g w ∧ cn_po g w ≤ 7000 := by
  refine ⟨?_, ?_⟩
  · have h : cn_sum (fun _ => -1000) 7 ≤ cn_po g w := cn_sum_le (fun v hv => (cn_g_b ht hg hv hw).1)
    have e : cn_sum (fun _ => -1000) 7 = -7000 := by decide
    omega
  · have h : cn_po g w ≤ cn_sum (fun _ => 1000) 7 := cn_sum_le (fun v hv => (cn_g_b ht hg hv hw).2)
    have e : cn_sum (fun _ => 1000) 7 = 7000 := by decide
    omega

theorem cn_Se_b {t P un q : Nat → Int} {k : Nat} {g : Nat → Nat → Int} (ht : cn_T t) (hP : ∀ w, w < 7 → -50000 ≤ P w ∧ P w ≤ 50000) (h : cn_Se t P k g un q) : ∀ w, w < 7 → -60000 ≤ un w ∧ un w ≤ 60000 := by
  intro w hw
  have a := h.2.2.1 w hw
  have b := hP w hw
  have c := cn_po_b ht h.1 hw
  omega

theorem cn_m1 : cn_i (-1) = -1 := by decide
theorem cn_nm1 {n : Nat} (h : n < 7) : ¬ nI n = -1 := by
  intro e
  have := congrArg Int32.toInt e
  rw [nI_toInt (by omega), show (-1 : Int32).toInt = -1 by decide] at this
  omega

theorem cn_pp_add {t : Nat → Int} {g : Nat → Nat → Int} {u v : Nat} {a : Int} (hg : cn_St t g) (hu : u < 7) (hv : v < 7) (ha : 0 ≤ a) (hr : a ≤ cn_room t g u v) :
    (0 < cn_pp (g v u) → cn_pp (g v u - a) = cn_pp (g v u) - a ∧ cn_pp (g u v + a) = cn_pp (g u v)) ∧ (cn_pp (g v u) ≤ 0 → cn_pp (g u v + a) = cn_pp (g u v) + a ∧ cn_pp (g v u - a) = cn_pp (g v u)) := by
  have e := (hg u v hu hv).1
  unfold cn_room at hr
  unfold cn_pp
  refine ⟨fun h => ?_, fun h => ?_⟩
  · split at h <;> split at hr <;> (refine ⟨?_, ?_⟩ <;> (repeat' split) <;> omega)
  · split at h <;> split at hr <;> (refine ⟨?_, ?_⟩ <;> (repeat' split) <;> omega)

section
variable (fg : Int32) (tr po pa pe am ow un di pr : Nat → Int32)

theorem cn_fdX {post : Int32 → Prop} (h1 : ∀ s, s < 7 → cn_I un s < 0 → post (nI s)) (h0 : (∀ w, w < 7 → 0 ≤ cn_I un w) → post (-1)) : wpX_firstDebtor post (fg, tr, po, pa, pe, am, ow, un, di, pr) := by
  refine loop_0 (fun n k (_ : Unit) => wX_firstDebtor_2 post fg tr po pa pe am ow un di pr n (nI k)) (fun k _ => ∀ w, w < k → 0 ≤ cn_I un w) 7 () (fun w hw => by omega) ?_ ?_
  · intro n _ a
    exact br_t cn_t7 (h0 a)
  · intro n k _ hk a ih
    refine br_f (cn_f7 hk) ⟨cn_in7 hk, ?_⟩
    rw [cn_cl (by omega)]
    refine cn_ble 0 (cn_I un k) cn_i_0.symm (cn_I_of un k) cn_n0 (cn_nrI _) (fun c => nm_r (nI_1 k) (ih () (fun w hw => ?_))) (fun c => h1 k hk c)
    by_cases e : w = k
    · subst e; exact c
    · exact a w (by omega)

theorem cn_fcX {post : Int32 → Prop} {d : Nat → Int} {p : Nat → Nat} (ts : cn_TS di pr d p) (hd : ∀ w, w < 7 → -1000000 ≤ d w ∧ d w ≤ 1000000) (h1 : ∀ z, z < 7 → 0 < cn_I un z → d z ≠ 1000000 → post (nI z))
    (h0 : (∀ w, w < 7 → 0 < cn_I un w → d w = 1000000) → post (-1)) : wpX_firstReachedCreditor post (fg, tr, po, pa, pe, am, ow, un, di, pr) := by
  refine loop_0 (fun n k (_ : Unit) => wX_firstReachedCreditor_2 post fg tr po pa pe am ow un di pr n (nI k)) (fun k _ => ∀ w, w < k → 0 < cn_I un w → d w = 1000000) 7 () (fun w hw => by omega) ?_ ?_
  · intro n _ a
    exact br_t cn_t7 (h0 a)
  · intro n k _ hk a ih
    have b := hd k hk
    refine br_f (cn_f7 hk) ⟨cn_in7 hk, ?_⟩
    rw [cn_cl (by omega)]
    have keep : (0 < cn_I un k → d k = 1000000) → wX_firstReachedCreditor_2 post fg tr po pa pe am ow un di pr n (nI (k + 1)) := by
      intro z
      refine ih () (fun w hw => ?_)
      by_cases e : w = k
      · subst e; exact z
      · exact a w (by omega)
    refine cn_ble (cn_I un k) 0 (cn_I_of un k) cn_i_0.symm (cn_nrI _) cn_n0 (fun c => nm_r (nI_1 k) (keep (fun z => by omega))) (fun c => ⟨cn_in7 hk, ?_⟩)
    exact cn_ble 1000000 (d k) (by decide) (ts k hk).1 ⟨by decide, by decide⟩ ⟨by omega, by omega⟩ (fun c2 => nm_r (nI_1 k) (keep (fun z => by omega))) (fun c2 => h1 k hk c (by omega))

theorem cn_adX {post : SX → Prop} {g : Nat → Nat → Int} {u v : Nat} {a : Int} (hg : cn_St (cn_I tr) g) (ht : cn_T (cn_I tr)) (h : cn_TX ow g) (hu : u < 7) (hv : v < 7) (huv : u ≠ v) (ha : 0 ≤ a) (hr : a ≤ cn_room (cn_I tr) g u v)
    (hp : ∀ ow', cn_TX ow' (cn_add g u v a) → post (fg, tr, po, pa, pe, am, ow', un, di, pr)) : wpX_addDebt post (fg, tr, po, pa, pe, am, ow, un, di, pr) (nI u) (nI v) (cn_i a) := by
  unfold wpX_addDebt
  dsimp only
  rw [cn_ix, cn_ix]
  refine ⟨cn_in49 hv hu, ?_⟩
  rw [cn_cl (by omega), cn_cl (by omega)]
  have e := h v u hv hu
  have e' := h u v hu hv
  have rb := cn_room_b ht hg hu hv
  have gb := cn_g_b ht hg hu hv
  have gb' := cn_g_b ht hg hv hu
  obtain ⟨A1, A2⟩ := cn_pp_add hg hu hv ha hr
  refine cn_ble _ 0 (cn_I_of ow _) cn_i_0.symm (cn_nrI _) cn_n0 (fun c => ⟨cn_in49 hu hv, cn_in49 hu hv, nm_e (hp _ ?_)⟩) (fun c => ⟨cn_in49 hv hu, cn_in49 hv hu, nm_e (hp _ ?_)⟩)
  · rw [e] at c
    obtain ⟨B1, B2⟩ := A2 c
    have x : (ow (u * 7 + v) + cn_i a).toInt = cn_pp (g u v) + a := by
      rw [cn_I_of ow, e', ← cn_i_add, cn_ti (by unfold cn_pp; split <;> omega) (by unfold cn_pp; split <;> omega)]
    intro x1 y1 hx hy
    rw [cn_I_up]
    by_cases f : x1 = u ∧ y1 = v
    · obtain ⟨rfl, rfl⟩ := f
      rw [cn_up_s, cn_add_1, x, B1]
    · rw [cn_up_n (by omega)]
      by_cases f' : x1 = v ∧ y1 = u
      · obtain ⟨rfl, rfl⟩ := f'
        rw [cn_add_2 huv, e, B2]
      · rw [cn_add_3 f f']
        exact h x1 y1 hx hy
  · rw [e] at c
    obtain ⟨B1, B2⟩ := A1 c
    have x : (ow (v * 7 + u) - cn_i a).toInt = cn_pp (g v u) - a := by
      rw [cn_I_of ow, e, ← cn_i_sub, cn_ti (by unfold cn_pp; split <;> omega) (by unfold cn_pp; split <;> omega)]
    intro x1 y1 hx hy
    rw [cn_I_up]
    by_cases f' : x1 = v ∧ y1 = u
    · obtain ⟨rfl, rfl⟩ := f'
      rw [cn_up_s, cn_add_2 huv, x, B1]
    · rw [cn_up_n (by omega)]
      by_cases f : x1 = u ∧ y1 = v
      · obtain ⟨rfl, rfl⟩ := f
        rw [cn_add_1, e', B2]
      · rw [cn_add_3 f f']
        exact h x1 y1 hx hy

theorem cn_sbX {post : SX → Prop} {g : Nat → Nat → Int} {q d : Nat → Int} {p : Nat → Nat} {s z L : Nat} (ht : cn_T (cn_I tr)) (hg : cn_St (cn_I tr) g) (h : cn_TX ow g)
    (hq : cn_Opt (cn_I tr) g q) (hs : s < 7) (hz : z < 7) (ts : cn_TS di pr d p) (hw : cn_Wy (cn_I tr) g (fun w => w = s) q p z L)
    (hun : ∀ w, w < 7 → -60000 ≤ cn_I un w ∧ cn_I un w ≤ 60000) (h1 : cn_I un s < 0) (h2 : 0 < cn_I un z)
    (hpost : ∀ ow' un' g' a, cn_TX ow' g' → 1 ≤ a → a ≤ - cn_I un s → a ≤ cn_I un z → cn_W2 (cn_I tr) q p z L a g L g' →
      cn_I un' = cn_up (cn_up (cn_I un) s (cn_I un s + a)) z (cn_I un z - a) → post (fg, tr, po, pa, pe, am, ow', un', di, pr)) :
    wpX_settleBetween post (fg, tr, po, pa, pe, am, ow, un, di, pr) (nI s) (nI z) := by
  have W := hw
  obtain ⟨l1, l2, l3, l4, l5, l6⟩ := hw
  have bs := hun s hs
  have bz := hun z hz
  have sz : s ≠ z := by
    intro e
    subst e
    omega
  -- the second walk and the end
  have second : ∀ a : Int, 1 ≤ a → a ≤ - cn_I un s → a ≤ cn_I un z → (∀ j, j < L → a ≤ cn_room (cn_I tr) g (cn_it p (j + 1) z) (cn_it p j z)) →
      ∃ n, wX_settleBetween_97 post (nI s) (nI z) (cn_i a) n (nI z) 0 fg tr po pa pe am ow un di pr := by
    intro a a1 a2 a3 a4
    refine loop_0 (fun n i (x : Int32 × (Nat → Int32)) => wX_settleBetween_97 post (nI s) (nI z) (cn_i a) n x.1 (nI i) fg tr po pa pe am x.2 un di pr)
      (fun i x => x.1 = nI (cn_it p i z) ∧ ∃ g', cn_TX x.2 g' ∧ cn_W2 (cn_I tr) q p z L a g i g') L (nI z, ow) ⟨rfl, g, h, cn_W2_0 hg hq⟩ ?_ ?_
    · intro n x ⟨x1, g', x2, x3⟩
      refine br_f (cn_f7 (by omega)) (br_t ?_ ?_)
      · rw [x1, l2]
      · refine ⟨cn_in7 hs, cn_in7 hs, nm_e ⟨cn_in7 hz, cn_in7 hz, nm_e (hpost _ _ g' a x2 a1 a2 a3 x3 ?_)⟩⟩
        rw [cn_cl (by omega), cn_cl (by omega), cn_I_up, cn_I_up, pk_un (fun e => sz e.symm)]
        have e1 : (un s + cn_i a).toInt = cn_I un s + a := by
          rw [cn_I_of un s, ← cn_i_add, cn_ti (by omega) (by omega)]
        have e2 : (un z - cn_i a).toInt = cn_I un z - a := by
          rw [cn_I_of un z, ← cn_i_sub, cn_ti (by omega) (by omega)]
        rw [e1, e2]
    · intro n i x hi ⟨x1, g', x2, x3⟩ ih
      obtain ⟨y, ow1⟩ := x
      have x1' : y = nI (cn_it p i z) := x1
      subst x1'
      have b1 := l3 i (by omega)
      have b2 := l3 (i + 1) (by omega)
      obtain ⟨t1, t2, t3⟩ := ts _ b1
      rw [← cn_it_r p i z] at t2 t3
      have ne : cn_it p (i + 1) z ≠ cn_it p i z := fun e => l5 i (i + 1) (by omega) (by omega) e.symm
      refine br_f (cn_f7 (by omega)) (br_f (fun e => l4 i hi ((nI_eq (by omega) (by omega)).mp e)) ⟨cn_in7 b1, ?_⟩)
      rw [cn_cl (by omega), t2]
      have rr := cn_W2_r hi x3
      have a5 := a4 i hi
      refine cn_adX fg tr po pa pe am ow1 un di pr x3.1 ht x2 b2 b1 ne (by omega) (by omega) (fun ow2 x2' => ⟨cn_in7 b1, nm_r (e' := nI (cn_it p (i + 1) z)) ?_ (nm_r (nI_1 i) (ih (_, ow2) ⟨rfl, _, x2', cn_W2_s (by omega) hi (cn_T2 ht) W a5 x3⟩))⟩)
      exact t2
  -- the first walk
  have first : ∀ a : Int, 1 ≤ a → a ≤ - cn_I un s → a ≤ cn_I un z → ∃ n, wX_settleBetween_35 post (nI s) (nI z) fg tr po pa pe am ow un di pr n (cn_i a) (nI z) 0 := by
    intro a a1 a2 a3
    refine loop_0 (fun n i (x : Int32 × Int32) => wX_settleBetween_35 post (nI s) (nI z) fg tr po pa pe am ow un di pr n x.1 x.2 (nI i))
      (fun i x => x.2 = nI (cn_it p i z) ∧ ∃ a : Int, x.1 = cn_i a ∧ 1 ≤ a ∧ a ≤ - cn_I un s ∧ a ≤ cn_I un z ∧ ∀ j, j < i → a ≤ cn_room (cn_I tr) g (cn_it p (j + 1) z) (cn_it p j z)) L (cn_i a, nI z)
      ⟨rfl, a, rfl, a1, a2, a3, fun j hj => by omega⟩ ?_ ?_
    · intro n x ⟨x1, a, x2, a1, a2, a3, a4⟩
      refine br_f (cn_f7 (by omega)) (br_t ?_ ?_)
      · rw [x1, l2]
      · rw [x2]
        exact second a a1 a2 a3 a4
    · intro n i x hi ⟨x1, a, x2, a1, a2, a3, a4⟩ ih
      obtain ⟨y, y'⟩ := x
      have x1' : y' = nI (cn_it p i z) := x1
      have x2' : y = cn_i a := x2
      subst x1' x2'
      have b1 := l3 i (by omega)
      have b2 := l3 (i + 1) (by omega)
      obtain ⟨t1, t2, t3⟩ := ts _ b1
      rw [← cn_it_r p i z] at t2 t3
      refine br_f (cn_f7 (by omega)) (br_f (fun e => l4 i hi ((nI_eq (by omega) (by omega)).mp e)) ⟨cn_in7 b1, ?_⟩)
      rw [cn_cl (by omega), t2]
      have rb := cn_room_b ht hg b2 b1
      have rp := (l6 i hi).1
      refine cn_srX fg tr po pa pe am ow un di pr hg h b2 b1 ?_
      refine cn_ble a _ rfl rfl ⟨by omega, by omega⟩ ⟨by omega, by omega⟩ (fun c => ⟨cn_in7 b1, nm_r (e' := nI (cn_it p (i + 1) z)) ?_ (nm_r (nI_1 i) (ih (_, _) ⟨rfl, a, rfl, a1, a2, a3, fun j hj => ?_⟩))⟩)
        (fun c => ⟨cn_in7 b1, nm_r (e' := nI (cn_it p (i + 1) z)) ?_ (nm_r (nI_1 i) (ih (_, _) ⟨rfl, _, rfl, by omega, by omega, by omega, fun j hj => ?_⟩))⟩)
      · rw [cn_cl (by omega), t2]
      · by_cases e : j = i
        · subst e; exact c
        · exact a4 j (by omega)
      · rw [cn_cl (by omega), t2]
      · by_cases e : j = i
        · subst e; exact Int.le_refl _
        · have := a4 j (by omega)
          omega
  unfold wpX_settleBetween
  dsimp only
  refine ⟨cn_in7 hs, nm_r (e' := cn_i (- cn_I un s)) ?_ ⟨cn_in7 hz, ?_⟩⟩
  · rw [cn_cl (by omega), cn_i_neg, ← cn_I_of]
  · rw [cn_cl (by omega)]
    exact cn_ble (- cn_I un s) (cn_I un z) rfl (cn_I_of un z) ⟨by omega, by omega⟩ ⟨by omega, by omega⟩ (fun c => first _ (by omega) (by omega) (by omega))
      (fun c => ⟨cn_in7 hz, nm_r (cn_I_of un z) (first _ (by omega) (by omega) (by omega))⟩)
end
end
section
section
variable (fg : Int32) (tr po pa pe am ow un di pr : Nat → Int32)

theorem cn_seX {post : SX → Prop} (J : cn_Inv fg tr po pa pe am)
    (h : ∀ ow' un' di' pr' g, cn_TX ow' g → cn_Debts (cn_I tr) (cn_I po) (cn_tot g) → post (fg, tr, po, pa, pe, am, ow', un', di', pr')) :
    wpX_settle post (fg, tr, po, pa, pe, am, ow, un, di, pr) := by
  have P := cn_Inv_P J
  have ht := J.1
  have hok := cn_Ok_of J.2.1 J.2.2.1
  refine loop_0 (fun n k (ow : Nat → Int32) => wX_settle_2 post fg n (nI k) tr po pa pe am ow un di pr) (fun k ow => ∀ j, j < k → ow j = 0) 49 ow (fun j hj => by omega) ?_ ?_
  · intro n ow how
    refine br_t cn_t49 ?_
    refine loop_0 (fun n k (un : Nat → Int32) => wX_settle_23 post fg n (nI k) tr po pa pe am ow un di pr) (fun k un => ∀ j, j < k → un j = po j) 7 un (fun j hj => by omega) ?_ ?_
    · intro n un hun
      refine br_t cn_t7 ?_
      refine loop_0 (fun n k (s : (Nat → Int32) × (Nat → Int32) × (Nat → Int32) × (Nat → Int32)) => wX_settle_49 post n (nI k) fg tr po pa pe am s.1 s.2.1 s.2.2.1 s.2.2.2)
        (fun k s => ∃ g q, cn_Se (cn_I tr) (cn_I po) k g (cn_I s.2.1) q ∧ cn_TX s.1 g) 12000 (ow, un, di, pr) ?_ ?_ ?_
      · refine ⟨_, _, cn_Se_0 hok (fun u v _ _ => ht _) (fun w hw => congrArg Int32.toInt (hun w hw)), fun u v hu hv => ?_⟩
        show (ow (u * 7 + v)).toInt = 0
        rw [how _ (by omega)]
        decide
      · intro n s ⟨g, q, se, tx⟩
        exact br_t (by decide) (h _ _ _ _ g tx (cn_Se_fin se (cn_Se_e3 hok se (Nat.le_refl _))))
      · intro n k s hk ⟨g, q, se, tx⟩ ih
        obtain ⟨ow1, un1, di1, pr1⟩ := s
        have ub := cn_Se_b ht P se
        refine br_f (nI_ge (b := 12000) hk (by decide)) (cn_fdX fg tr po pa pe am ow1 un1 di1 pr1 (fun s hs neg => br_f (cn_nm1 hs) ?_) (fun all => br_t rfl (h _ _ _ _ g tx (cn_Se_fin se (cn_Se_e1 hok se all)))))
        refine cn_fsX fg tr po pa pe am ow1 un1 di1 pr1 ht se.1 tx se.2.1 hs (fun di2 pr2 d p ts ro => ?_)
        obtain ⟨ws, cl⟩ := cn_Ro_e (Nat.le_refl 6) (by decide) (cn_Opt_Pt se.2.1) (fun x _ e => by rw [e]) (cn_cost_b g) ro
        have db : ∀ w, w < 7 → -1000000 ≤ d w ∧ d w ≤ 1000000 := by
          intro w hw
          rcases ws.2.1 w hw with x | x <;> omega
        refine cn_fcX fg tr po pa pe am ow1 un1 di2 pr2 ts db (fun z hz pos rz => br_f (cn_nm1 hz) ?_) (fun none => ?_)
        · obtain ⟨q', L, o1, o2, wy⟩ := cn_way (by decide) (by decide) se.2.1 ws cl hz rz
          refine cn_sbX fg tr po pa pe am ow1 un1 di2 pr2 ht se.1 tx o1 hs hz ts wy ub neg pos (fun ow3 un3 g3 a tx3 a1 a2 a3 w2 e => nm_r (nI_1 k) (ih (ow3, un3, di2, pr2) ⟨g3, q', ?_, tx3⟩))
          show cn_Se (cn_I tr) (cn_I po) (k + 1) g3 (cn_I un3) q'
          rw [e]
          exact cn_Se_s se hs hz a1 a2 a3 wy.2.1 w2
        · have ds : d s ≠ 1000000 := by
            have := (ws.1 s hs rfl).1
            omega
          obtain ⟨v, v1, v2, v3⟩ := cn_reach hs hok se.1 se.2.2.1 ds neg (fun u v hu hv du R => by
            have a := cl u v hu hv du R
            have b := cn_cost_b g u v
            rcases ws.2.1 u hu with x | x
            · exact absurd x du
            · omega)
          exact absurd (none v v1 v3) v2
    · intro n k un hk hun ih
      refine br_f (cn_f7 hk) ⟨cn_in7 hk, cn_in7 hk, nm_e (nm_r (nI_1 k) (ih _ (fun j hj => ?_)))⟩
      rw [cn_cl (by omega)]
      by_cases e : j = k
      · subst e; exact pk_us
      · exact (pk_un e).trans (hun j (by omega))
  · intro n k ow hk how ih
    refine br_f (cn_f49 hk) ⟨vp_in_nI (by omega) (by decide), nm_e (nm_r (nI_1 k) (ih _ (fun j hj => ?_)))⟩
    rw [cn_cl (by omega)]
    by_cases e : j = k
    · subst e; exact pk_us
    · exact (pk_un e).trans (how j (by omega))

theorem cn_deX {post : Int32 → SX → Prop} (J : cn_Inv fg tr po pa pe am)
    (h : ∀ ow' un' di' pr' r, cn_Debts (cn_I tr) (cn_I po) r → post (cn_i r) (fg, tr, po, pa, pe, am, ow', un', di', pr')) :
    wpX_debts post (fg, tr, po, pa, pe, am, ow, un, di, pr) := by
  unfold wpX_debts
  refine cn_seX fg tr po pa pe am ow un di pr J (fun ow1 un1 di1 pr1 g tx db => ?_)
  have e : cn_sum (cn_I ow1) 49 = cn_tot g := by
    rw [cn_sum49]
    exact cn_sum_congr (fun u hu => cn_sum_congr (fun v hv => tx u v hu hv))
  refine loop_0 (fun n k (s : Int32) => wX_debts_8 post fg tr po pa pe am ow1 un1 di1 pr1 n s (nI k)) (fun k s => s = cn_i (cn_sum (cn_I ow1) k)) 49 0 cn_i_0.symm ?_ ?_
  · intro n s hs
    subst hs
    rw [e]
    exact br_t cn_t49 (h _ _ _ _ _ db)
  · intro n k s hk hs ih
    subst hs
    refine br_f (cn_f49 hk) ⟨vp_in_nI (by omega) (by decide), nm_r (e' := cn_i (cn_sum (cn_I ow1) (k + 1))) ?_ (nm_r (nI_1 k) (ih _ rfl))⟩
    rw [cn_cl (by omega), cn_sum_s, cn_i_add, ← cn_I_of]
end
end
section
/-- Y's owed holds g -/
def cn_TY (ow : Nat → Int32) (g : Nat → Nat → Int) : Prop := ∀ u v, u < 7 → v < 7 → cn_I ow (u * 7 + v) = g u v
/-- the labels and the members before; -1 where none is -/
def cn_TP (pc be : Nat → Int32) (d : Nat → Int) (p : Nat → Nat) : Prop := ∀ w, w < 7 → pc w = cn_i (d w) ∧ be w = (if p w = w then -1 else nI (p w)) ∧ p w < 7
/-- who still owes too little -/
def cn_src (po re : Nat → Int32) (w : Nat) : Prop := cn_I po w < cn_I re w

section
variable {R : Nat → Nat → Prop} {c : Nat → Nat → Int} {q : Nat → Int} {S : Nat → Prop}
/-- place t of the one loop over all steps of all rounds -/
def cn_Fl (R : Nat → Nat → Prop) (c : Nat → Nat → Int) (q : Nat → Int) (S : Nat → Prop) (t : Nat) (d : Nat → Int) (p : Nat → Nat) : Prop :=
  ∃ d0 p0, cn_Ro R c q 0 S 1000 (t / 49) d0 p0 ∧ cn_Pa R c q 0 S 1000 (49 * ((t / 49 : Nat) : Int)) d0 (t % 49) d p ∧ (t % 49 = 0 → d0 = d ∧ p0 = p)

theorem cn_Fl_0 {d : Nat → Int} {p : Nat → Nat} (h : cn_Ws R c q 0 S 1000 0 d p) : cn_Fl R c q S 0 d p :=
  ⟨d, p, cn_Ro_0 h, cn_Pa_0 (cn_Ws_up h (by omega)), fun _ => ⟨rfl, rfl⟩⟩

theorem cn_Fl_s {t : Nat} {d0 d : Nat → Int} {p0 p : Nat → Nat} (h : cn_Ro R c q 0 S 1000 (t / 49) d0 p0) (h' : cn_Pa R c q 0 S 1000 (49 * ((t / 49 : Nat) : Int)) d0 (t % 49 + 1) d p) : cn_Fl R c q S (t + 1) d p := by
  by_cases e : t % 49 + 1 = 49
  · have e1 : (t + 1) / 49 = t / 49 + 1 := by omega
    have e2 : (t + 1) % 49 = 0 := by omega
    rw [e] at h'
    have r := cn_Ro_s h h'
    unfold cn_Fl
    rw [e1, e2]
    exact ⟨d, p, r, cn_Pa_0 r.1, fun _ => ⟨rfl, rfl⟩⟩
  · have e1 : (t + 1) / 49 = t / 49 := by omega
    have e2 : (t + 1) % 49 = t % 49 + 1 := by omega
    unfold cn_Fl
    rw [e1, e2]
    exact ⟨d0, p0, h, h', fun z => by omega⟩

theorem cn_Fl_e {d : Nat → Int} {p : Nat → Nat} (h : cn_Fl R c q S 343 d p) : cn_Ro R c q 0 S 1000 7 d p := by
  obtain ⟨d0, p0, r, _, e⟩ := h
  obtain ⟨rfl, rfl⟩ := e (by decide)
  exact r
end

section
variable (fg : Int32) (tr po pa pe am ow re pc be : Nat → Int32)

theorem cn_rmY {post : Int32 → Prop} {g : Nat → Nat → Int} {u v : Nat} (h : cn_TY ow g) (hu : u < 7) (hv : v < 7) (hp : post (cn_i (cn_room (cn_I tr) g u v))) :
    wpY_room post (fg, tr, po, pa, pe, am, ow, re, pc, be) (nI u) (nI v) := by
  unfold wpY_room
  dsimp only
  rw [cn_iy, cn_iy]
  refine ⟨cn_in49 hu hv, nm_e ?_⟩
  rw [cn_cl (by omega), cn_cl (by omega)]
  have e := h u v hu hv
  unfold cn_room at hp
  refine cn_ble 0 _ cn_i_0.symm (cn_I_of ow _) cn_n0 (cn_nrI _) (fun c => ⟨cn_in49 hv hu, ?_⟩) (fun c => ?_)
  · rw [e] at c
    rw [if_neg (by omega), cn_i_sub] at hp
    rw [cn_I_of tr, cn_I_of ow, e]
    exact hp
  · rw [e] at c
    rw [if_pos (by omega), cn_i_neg] at hp
    rw [cn_I_of ow, e]
    exact hp

theorem cn_fw1 {post : SY → Prop} {J : Int32 → (Nat → Int32) → (Nat → Int32) → (Nat → Int32) → (Nat → Int32) → (Nat → Int32) → (Nat → Int32) → (Nat → Int32) → (Nat → Int32) → (Nat → Int32) → Prop}
    {g : Nat → Nat → Int} {q d : Nat → Int} {p : Nat → Nat} {t : Nat} (ht : cn_T (cn_I tr)) (hg : cn_St (cn_I tr) g) (h : cn_TY ow g)
    (hq : cn_Opt (cn_I tr) g q) (hS : ∀ s, s < 7 → cn_src po re s → q s = 0) (ht3 : t < 343) (ts : cn_TP pc be d p)
    (hp : cn_Fl (cn_R (cn_I tr) g) (cn_cost g) q (cn_src po re) t d p)
    (hJ : ∀ pc' be' d' p', cn_TP pc' be' d' p' → cn_Fl (cn_R (cn_I tr) g) (cn_cost g) q (cn_src po re) (t + 1) d' p' → J (nI (t + 1)) tr po pa pe am ow re pc' be') :
    wY_findWays_90 post J (nI t) (nI (t % 49 / 7)) (nI (t % 7)) (cn_i (cn_cost g (t % 49 / 7) (t % 7))) fg tr po pa pe am ow re pc be := by
  obtain ⟨d0, p0, ro, pa1, _⟩ := hp
  generalize hu' : t % 49 / 7 = u
  generalize hv' : t % 7 = v
  have hu : u < 7 := by omega
  have hv : v < 7 := by omega
  have m : t % 49 = u * 7 + v := by omega
  have m1 : t % 49 + 1 = u * 7 + (v + 1) := by omega
  have k6 : t / 49 ≤ 6 := by omega
  have bd : ∀ w, w < 7 → -1000 ≤ d w ∧ d w ≤ 1000 := by
    intro w hw
    rcases pa1.1.2.1 w hw with x | x <;> omega
  have du := bd u hu
  have dv := bd v hv
  have cb := cn_cost_b g u v
  have rb := cn_room_b ht hg hu hv
  rw [m] at pa1
  have keep : (d u < 1000 → cn_R (cn_I tr) g u v → ¬ d u + cn_cost g u v < d v) → J (nI (t + 1)) tr po pa pe am ow re pc be := by
    intro z
    refine hJ pc be d p ts (cn_Fl_s ro ?_)
    rw [m1]
    exact cn_Pa_no hu hv pa1 z
  refine pk_eq u v (fun e => nm_r (nI_1 t) (keep (fun _ R => absurd e R.1))) (fun ne => ⟨cn_in7 hu, ?_⟩)
  rw [cn_cl (n := u) (by omega), cn_cl (n := v) (by omega)]
  refine cn_ble 1000 (d u) (by decide) (ts u hu).1 ⟨by decide, by decide⟩ ⟨by omega, by omega⟩ (fun c1 => nm_r (nI_1 t) (keep (fun z => by omega))) (fun c1 => cn_rmY fg tr po pa pe am ow re pc be h hu hv ?_)
  refine cn_ble _ 0 rfl cn_i_0.symm ⟨by omega, by omega⟩ cn_n0 (fun c2 => nm_r (nI_1 t) (keep (fun _ R => by have := R.2; omega))) (fun c2 => ⟨cn_in7 hu, cn_in7 hv, ?_⟩)
  rw [(ts u hu).1, ← cn_i_add]
  refine cn_ble (d v) (d u + cn_cost g u v) (ts v hv).1 rfl ⟨by omega, by omega⟩ ⟨by omega, by omega⟩ (fun c3 => nm_r (nI_1 t) (keep (fun _ _ => by omega))) (fun c3 => ⟨cn_in7 hu, cn_in7 hv, nm_e ⟨cn_in7 hv, nm_e (nm_r (nI_1 t) ?_)⟩⟩)
  refine hJ _ _ (cn_up d v (d u + cn_cost g u v)) (cn_un p v u) ?_ (cn_Fl_s ro ?_)
  · intro w hw
    by_cases f : w = v
    · subst f
      rw [cn_up_s, cn_un_s, if_neg ne]
      exact ⟨pk_us, pk_us, hu⟩
    · rw [cn_up_n f, cn_un_n f]
      exact ⟨(pk_un f).trans (ts w hw).1, (pk_un f).trans (ts w hw).2.1, (ts w hw).2.2⟩
  · rw [m1]
    exact cn_Pa_yes (cn_Opt_Pt hq) hS (cn_cost_b g) (by omega) hu hv pa1 (by omega) ⟨ne, c2⟩ c3

theorem cn_fwY {post : SY → Prop} {g : Nat → Nat → Int} {q : Nat → Int} (ht : cn_T (cn_I tr)) (hg : cn_St (cn_I tr) g) (h : cn_TY ow g)
    (hq : cn_Opt (cn_I tr) g q) (hS : ∀ s, s < 7 → cn_src po re s → q s = 0)
    (hpost : ∀ pc' be' d' p', cn_TP pc' be' d' p' → cn_Ro (cn_R (cn_I tr) g) (cn_cost g) q 0 (cn_src po re) 1000 7 d' p' → post (fg, tr, po, pa, pe, am, ow, re, pc', be')) :
    wpY_findWays post (fg, tr, po, pa, pe, am, ow, re, pc, be) := by
  classical
  refine loop_0 (fun n k (a : (Nat → Int32) × (Nat → Int32)) => wY_findWays_2 post fg n (nI k) tr po pa pe am ow re a.1 a.2)
    (fun k a => ∀ w, w < k → a.1 w = cn_i (if cn_src po re w then 0 else 1000) ∧ a.2 w = -1) 7 (pc, be) (fun w hw => by omega) ?_ ?_
  · intro n a ha
    refine br_t cn_t7 ?_
    refine loop_0 (fun n t (a : (Nat → Int32) × (Nat → Int32)) => wY_findWays_51 post fg n (nI t) tr po pa pe am ow re a.1 a.2)
      (fun t a => ∃ d p, cn_TP a.1 a.2 d p ∧ cn_Fl (cn_R (cn_I tr) g) (cn_cost g) q (cn_src po re) t d p) 343 a ?_ ?_ ?_
    · refine ⟨fun w => if cn_src po re w then 0 else 1000, fun w => w, fun w hw => ⟨(ha w hw).1, ?_, hw⟩, cn_Fl_0 ⟨?_, ?_, ?_, ?_, fun _ => 0, ?_⟩⟩
      · rw [if_pos rfl]
        exact (ha w hw).2
      · intro x hx e
        exact ⟨if_pos e, rfl⟩
      · intro x hx
        show (if cn_src po re x then (0 : Int) else 1000) = 1000 ∨ (-0 ≤ (if cn_src po re x then (0 : Int) else 1000) ∧ (if cn_src po re x then (0 : Int) else 1000) ≤ 0)
        by_cases f : cn_src po re x
        · rw [if_pos f]
          exact Or.inr ⟨by decide, by decide⟩
        · rw [if_neg f]
          exact Or.inl rfl
      · intro x hx e
        have e' : (if cn_src po re x then (0 : Int) else 1000) ≠ 1000 := e
        show q x - 0 ≤ (if cn_src po re x then (0 : Int) else 1000)
        by_cases f : cn_src po re x
        · rw [if_pos f, hS x hx f]
          decide
        · rw [if_neg f] at e'
          exact absurd rfl e'
      · intro x hx f e
        have e' : (if cn_src po re x then (0 : Int) else 1000) ≠ 1000 := e
        rw [if_neg f] at e'
        exact absurd rfl e'
      · intro x hx f e
        have e' : (if cn_src po re x then (0 : Int) else 1000) ≠ 1000 := e
        rw [if_neg f] at e'
        exact absurd rfl e'
    · intro n a ⟨d, p, ts, fl⟩
      exact br_t (by decide) (hpost a.1 a.2 d p ts (cn_Fl_e fl))
    · intro n t a ht3 ⟨d, p, ts, fl⟩ ih
      refine br_f (nI_ge (b := 343) ht3 (by decide)) ⟨by decide, by decide, nm_r (e' := nI (t % 49 / 7)) ?_ ⟨by decide, nm_r (e' := nI (t % 7)) (cn_r7 (by omega)) ?_⟩⟩
      · rw [cn_r49 (by omega), cn_q7 (by omega)]
      · have e := h (t % 49 / 7) (t % 7) (by omega) (by omega)
        have step := cn_fw1 fg tr po pa pe am ow re a.1 a.2 (post := post) (J := wY_findWays_51 post fg n) ht hg h hq hS ht3 ts fl (fun pc' be' d' p' ts' fl' => ih (pc', be') ⟨d', p', ts', fl'⟩)
        rw [cn_iy]
        refine ⟨cn_in49 (by omega) (by omega), ?_⟩
        rw [cn_cl (by omega)]
        unfold cn_cost at step
        refine cn_ble 0 _ cn_i_0.symm (cn_I_of ow _) cn_n0 (cn_nrI _) (fun c => ?_) (fun c => ?_)
        · rw [e] at c
          rw [if_neg (by omega)] at step
          exact step
        · rw [e] at c
          rw [if_pos (by omega)] at step
          exact step
  · intro n k a hk ha ih
    have key : ∀ y : Int32, y = cn_i (if cn_src po re k then 0 else 1000) → wY_findWays_35 post (wY_findWays_2 post fg n) (nI k) y (nI k) fg tr po pa pe am ow re a.1 a.2 := by
      intro y hy
      refine ⟨cn_in7 hk, nm_e ⟨cn_in7 hk, nm_e (nm_r (nI_1 k) (ih (_, _) (fun w hw => ?_)))⟩⟩
      rw [cn_cl (by omega)]
      by_cases f : w = k
      · subst f
        exact ⟨pk_us.trans hy, pk_us⟩
      · exact ⟨(pk_un f).trans (ha w (by omega)).1, (pk_un f).trans (ha w (by omega)).2⟩
    refine br_f (cn_f7 hk) ⟨cn_in7 hk, cn_in7 hk, ?_⟩
    rw [cn_cl (by omega)]
    refine cn_ble (cn_I re k) (cn_I po k) (cn_I_of re k) (cn_I_of po k) (cn_nrI _) (cn_nrI _) (fun c => key _ ?_) (fun c => key _ ?_)
    · rw [if_neg (show ¬ cn_src po re k by unfold cn_src; omega)]
      decide
    · rw [if_pos (show cn_src po re k from c)]
      decide
end
end
section
theorem cn_m1lt : (-1 : Int32) < 0 := by decide
theorem cn_fin7 {n : Nat} (h : n < 7) : ¬ nI n < 0 := nI_pos (by omega)

section
variable (fg : Int32) (tr po pa pe am ow re pc be : Nat → Int32)

theorem cn_chY {post : Int32 → Prop} {d : Nat → Int} {p : Nat → Nat} (ts : cn_TP pc be d p) (hd : ∀ w, w < 7 → -1000 ≤ d w ∧ d w ≤ 1000)
    (h1 : ∀ z, z < 7 → cn_I re z < cn_I po z → d z ≠ 1000 → post (nI z)) (h0 : (∀ w, w < 7 → cn_I re w < cn_I po w → d w = 1000) → post (-1)) :
    wpY_cheapest post (fg, tr, po, pa, pe, am, ow, re, pc, be) := by
  refine loop_0 (fun n k (x : Int32) => wY_cheapest_4 post fg tr po pa pe am ow re pc be n x (nI k))
    (fun k x => (x = -1 ∧ ∀ w, w < k → cn_I re w < cn_I po w → d w = 1000) ∨ ∃ z, z < 7 ∧ x = nI z ∧ cn_I re z < cn_I po z ∧ d z ≠ 1000) 7 (-1) (Or.inl ⟨rfl, fun w hw => by omega⟩) ?_ ?_
  · intro n x hx
    rcases hx with ⟨rfl, a⟩ | ⟨z, hz, rfl, a, b⟩
    · exact br_t cn_t7 (h0 a)
    · exact br_t cn_t7 (h1 z hz a b)
  · intro n k x hk hx ih
    have b := hd k hk
    refine br_f (cn_f7 hk) ⟨cn_in7 hk, cn_in7 hk, ?_⟩
    rw [cn_cl (by omega)]
    have keep : (cn_I re k < cn_I po k → d k = 1000) → wY_cheapest_4 post fg tr po pa pe am ow re pc be n x (nI (k + 1)) := by
      intro q
      refine ih x ?_
      rcases hx with ⟨e, a⟩ | a
      · refine Or.inl ⟨e, fun w hw => ?_⟩
        by_cases f : w = k
        · subst f; exact q
        · exact a w (by omega)
      · exact Or.inr a
    refine cn_ble _ _ (cn_I_of po k) (cn_I_of re k) (cn_nrI _) (cn_nrI _) (fun c => nm_r (nI_1 k) (keep (fun q => by omega))) (fun c => ⟨cn_in7 hk, ?_⟩)
    refine cn_ble 1000 (d k) (by decide) (ts k hk).1 ⟨by decide, by decide⟩ ⟨by omega, by omega⟩ (fun c2 => nm_r (nI_1 k) (keep (fun q => by omega))) (fun c2 => ?_)
    rcases hx with ⟨rfl, a⟩ | ⟨z, hz, rfl, a, b⟩
    · exact br_t cn_m1lt (nm_r (nI_1 k) (ih _ (Or.inr ⟨k, hk, rfl, c, by omega⟩)))
    · refine br_f (cn_fin7 hz) ⟨cn_in7 hk, cn_in7 hz, ?_⟩
      exact br_c (fun _ => nm_r (nI_1 k) (ih _ (Or.inr ⟨z, hz, rfl, a, b⟩))) (fun _ => nm_r (nI_1 k) (ih _ (Or.inr ⟨k, hk, rfl, c, by omega⟩)))

theorem cn_wiY {post : Int32 → Prop} {g : Nat → Nat → Int} {q d : Nat → Int} {p : Nat → Nat} {z L : Nat} {S : Nat → Prop} (ht : cn_T (cn_I tr)) (hg : cn_St (cn_I tr) g) (h : cn_TY ow g)
    (hz : z < 7) (ts : cn_TP pc be d p) (hw : cn_Wy (cn_I tr) g S q p z L) (hroot : p (cn_it p L z) = cn_it p L z)
    (hun : ∀ w, w < 7 → -60000 ≤ cn_I po w - cn_I re w ∧ cn_I po w - cn_I re w ≤ 60000) (h1 : cn_I po (cn_it p L z) < cn_I re (cn_it p L z)) (h2 : cn_I re z < cn_I po z)
    (hpost : ∀ a : Int, 1 ≤ a → a ≤ cn_I re (cn_it p L z) - cn_I po (cn_it p L z) → a ≤ cn_I po z - cn_I re z → (∀ j, j < L → a ≤ cn_room (cn_I tr) g (cn_it p (j + 1) z) (cn_it p j z)) → post (cn_i a)) :
    wpY_widthTo post (fg, tr, po, pa, pe, am, ow, re, pc, be) (nI z) := by
  obtain ⟨l1, l2, l3, l4, l5, l6⟩ := hw
  have bz := hun z hz
  have b0 := l3 L (Nat.le_refl _)
  have br := hun _ b0
  unfold wpY_widthTo
  dsimp only
  refine ⟨cn_in7 hz, cn_in7 hz, nm_r (e' := cn_i (cn_I po z - cn_I re z)) ?_ ?_⟩
  · rw [cn_cl (by omega), cn_i_sub, ← cn_I_of, ← cn_I_of]
  refine loop_0 (fun n i (x : Int32 × Int32) => wY_widthTo_19 post fg tr po pa pe am ow re pc be n x.1 x.2 (nI i))
    (fun i x => x.2 = nI (cn_it p i z) ∧ ∃ a : Int, x.1 = cn_i a ∧ 1 ≤ a ∧ a ≤ cn_I po z - cn_I re z ∧ ∀ j, j < i → a ≤ cn_room (cn_I tr) g (cn_it p (j + 1) z) (cn_it p j z)) L (_, nI z)
    ⟨rfl, _, rfl, by omega, by omega, fun j hj => by omega⟩ ?_ ?_
  · intro n x ⟨x1, a, x2, a1, a3, a4⟩
    obtain ⟨y, y'⟩ := x
    have x1' : y' = nI (cn_it p L z) := x1
    have x2' : y = cn_i a := x2
    subst x1' x2'
    obtain ⟨t1, t2, t3⟩ := ts _ b0
    rw [if_pos hroot] at t2
    refine br_f (cn_f7 (by omega)) ⟨cn_in7 b0, br_t ?_ ⟨cn_in7 b0, cn_in7 b0, nm_r (e' := cn_i (cn_I re (cn_it p L z) - cn_I po (cn_it p L z))) ?_ ?_⟩⟩
    · rw [cn_cl (by omega), t2]
      exact cn_m1lt
    · rw [cn_cl (by omega), cn_i_sub, ← cn_I_of, ← cn_I_of]
    · refine cn_ble a _ rfl rfl ⟨by omega, by omega⟩ ⟨by omega, by omega⟩ (fun c => hpost a a1 c a3 a4) (fun c => hpost _ (by omega) (by omega) (by omega) (fun j hj => ?_))
      have := a4 j hj
      omega
  · intro n i x hi ⟨x1, a, x2, a1, a3, a4⟩ ih
    obtain ⟨y, y'⟩ := x
    have x1' : y' = nI (cn_it p i z) := x1
    have x2' : y = cn_i a := x2
    subst x1' x2'
    have b1 := l3 i (by omega)
    have b2 := l3 (i + 1) (by omega)
    have ne : p (cn_it p i z) ≠ cn_it p i z := by
      rw [← cn_it_r p i z]
      exact fun e => l5 i (i + 1) (by omega) (by omega) e.symm
    obtain ⟨t1, t2, t3⟩ := ts _ b1
    rw [if_neg ne, ← cn_it_r p i z] at t2
    have rb := cn_room_b ht hg b2 b1
    have rp := (l6 i hi).1
    refine br_f (cn_f7 (by omega)) ⟨cn_in7 b1, ?_⟩
    rw [cn_cl (by omega), t2]
    refine br_f (cn_fin7 b2) ⟨cn_in7 b1, cn_rmY fg tr po pa pe am ow re pc be h b2 b1 ?_⟩
    refine cn_ble a _ rfl rfl ⟨by omega, by omega⟩ ⟨by omega, by omega⟩ (fun c => ⟨cn_in7 b1, nm_r (e' := nI (cn_it p (i + 1) z)) ?_ (nm_r (nI_1 i) (ih (_, _) ⟨rfl, a, rfl, a1, a3, fun j hj => ?_⟩))⟩)
      (fun c => ⟨cn_in7 b1, nm_r (e' := nI (cn_it p (i + 1) z)) ?_ (nm_r (nI_1 i) (ih (_, _) ⟨rfl, _, rfl, by omega, by omega, fun j hj => ?_⟩))⟩)
    · rw [cn_cl (by omega), t2]
    · by_cases e : j = i
      · subst e; exact c
      · exact a4 j (by omega)
    · rw [cn_cl (by omega), t2]
    · by_cases e : j = i
      · subst e; exact Int.le_refl _
      · have := a4 j (by omega)
        omega

theorem cn_adY {g : Nat → Nat → Int} {u v : Nat} {a : Int} (ht : cn_T (cn_I tr)) (hg : cn_St (cn_I tr) g) (h : cn_TY ow g) (hu : u < 7) (hv : v < 7) (huv : u ≠ v) (ha : 0 ≤ a) (ha' : a ≤ 2000) :
    cn_TY (upd (upd ow (u * 7 + v) (ow (u * 7 + v) + cn_i a)) (v * 7 + u) (upd ow (u * 7 + v) (ow (u * 7 + v) + cn_i a) (v * 7 + u) - cn_i a)) (cn_add g u v a) := by
  have gb := cn_g_b ht hg hu hv
  have gb' := cn_g_b ht hg hv hu
  have e := h v u hv hu
  have e' := h u v hu hv
  have x : (ow (u * 7 + v) + cn_i a).toInt = g u v + a := by
    rw [cn_I_of ow, e', ← cn_i_add, cn_ti (by omega) (by omega)]
  have y : (ow (v * 7 + u) - cn_i a).toInt = g v u - a := by
    rw [cn_I_of ow, e, ← cn_i_sub, cn_ti (by omega) (by omega)]
  rw [pk_un (show v * 7 + u ≠ u * 7 + v by omega)]
  intro x1 y1 hx hy
  rw [cn_I_up, cn_I_up, x, y]
  by_cases f : x1 = u ∧ y1 = v
  · obtain ⟨rfl, rfl⟩ := f
    rw [cn_up_n (by omega), cn_up_s, cn_add_1]
  · by_cases f' : x1 = v ∧ y1 = u
    · obtain ⟨rfl, rfl⟩ := f'
      rw [cn_up_s, cn_add_2 huv]
    · rw [cn_up_n (by omega), cn_up_n (by omega), cn_add_3 f f']
      exact h x1 y1 hx hy

theorem cn_snY {post : SY → Prop} {g : Nat → Nat → Int} {q d : Nat → Int} {p : Nat → Nat} {z L : Nat} {S : Nat → Prop} {a : Int} (ht : cn_T (cn_I tr)) (hg : cn_St (cn_I tr) g) (h : cn_TY ow g)
    (hq : cn_Opt (cn_I tr) g q) (hz : z < 7) (ts : cn_TP pc be d p) (hw : cn_Wy (cn_I tr) g S q p z L) (hroot : p (cn_it p L z) = cn_it p L z)
    (hrz : cn_it p L z ≠ z) (hre : ∀ w, w < 7 → -1000000 ≤ cn_I re w ∧ cn_I re w ≤ 1000000) (a1 : 1 ≤ a) (a2 : a ≤ 100000)
    (a4 : ∀ j, j < L → a ≤ cn_room (cn_I tr) g (cn_it p (j + 1) z) (cn_it p j z))
    (hpost : ∀ ow' re' g', cn_TY ow' g' → cn_W2 (cn_I tr) q p z L a g L g' → cn_I re' = cn_up (cn_up (cn_I re) z (cn_I re z + a)) (cn_it p L z) (cn_I re (cn_it p L z) - a) →
      post (fg, tr, po, pa, pe, am, ow', re', pc, be)) :
    wpY_sendTo post (fg, tr, po, pa, pe, am, ow, re, pc, be) (nI z) (cn_i a) := by
  have W := hw
  obtain ⟨l1, l2, l3, l4, l5, l6⟩ := hw
  have b0 := l3 L (Nat.le_refl _)
  have r1 := hre z hz
  have r2 := hre _ b0
  unfold wpY_sendTo
  dsimp only
  refine ⟨cn_in7 hz, cn_in7 hz, nm_e ?_⟩
  refine loop_0 (fun n i (x : Int32 × (Nat → Int32)) => wY_sendTo_19 post (cn_i a) fg n x.1 (nI i) tr po pa pe am x.2 _ pc be)
    (fun i x => x.1 = nI (cn_it p i z) ∧ ∃ g', cn_TY x.2 g' ∧ cn_W2 (cn_I tr) q p z L a g i g') L (nI z, ow) ⟨rfl, g, h, cn_W2_0 hg hq⟩ ?_ ?_
  · intro n x ⟨x1, g', x2, x3⟩
    obtain ⟨y, ow1⟩ := x
    have x1' : y = nI (cn_it p L z) := x1
    subst x1'
    obtain ⟨t1, t2, t3⟩ := ts _ b0
    rw [if_pos hroot] at t2
    refine br_f (cn_f7 (by omega)) ⟨cn_in7 b0, br_t ?_ ⟨cn_in7 b0, cn_in7 b0, nm_e (hpost _ _ g' x2 x3 ?_)⟩⟩
    · rw [cn_cl (by omega), t2]
      exact cn_m1lt
    · rw [cn_cl (by omega), cn_cl (by omega), cn_I_up, cn_I_up, pk_un hrz]
      have e1 : (re z + cn_i a).toInt = cn_I re z + a := by
        rw [cn_I_of re z, ← cn_i_add, cn_ti (by omega) (by omega)]
      have e2 : (re (cn_it p L z) - cn_i a).toInt = cn_I re (cn_it p L z) - a := by
        rw [cn_I_of re, ← cn_i_sub, cn_ti (by omega) (by omega)]
      rw [e1, e2]
  · intro n i x hi ⟨x1, g', x2, x3⟩ ih
    obtain ⟨y, ow1⟩ := x
    have x1' : y = nI (cn_it p i z) := x1
    subst x1'
    have b1 := l3 i (by omega)
    have b2 := l3 (i + 1) (by omega)
    have ne : p (cn_it p i z) ≠ cn_it p i z := by
      rw [← cn_it_r p i z]
      exact fun e => l5 i (i + 1) (by omega) (by omega) e.symm
    have ne' : cn_it p (i + 1) z ≠ cn_it p i z := by
      rw [cn_it_r p i z]
      exact ne
    obtain ⟨t1, t2, t3⟩ := ts _ b1
    rw [if_neg ne, ← cn_it_r p i z] at t2
    have rb := cn_room_b ht hg b2 b1
    have a5 := a4 i hi
    refine br_f (cn_f7 (by omega)) ⟨cn_in7 b1, ?_⟩
    rw [cn_cl (by omega), t2]
    refine br_f (cn_fin7 b2) ⟨cn_in7 b1, nm_e ?_⟩
    rw [cn_iy, cn_iy, cn_cl (by omega), cn_cl (by omega)]
    refine ⟨cn_in49 b2 b1, cn_in49 b2 b1, nm_e ⟨cn_in49 b1 b2, cn_in49 b1 b2, nm_e (nm_r (nI_1 i) (ih (_, _) ⟨rfl, _, ?_, cn_W2_s (by omega) hi (cn_T2 ht) W a5 x3⟩))⟩⟩
    exact cn_adY tr ow1 ht x3.1 x2 b2 b1 ne' (by omega) (by omega)
end
end
section
/-- Y's settling, t rounds done: going on, or all settled -/
def cn_YI (tr po : Nat → Int32) (k : Nat) (x : Int32) (ow re : Nat → Int32) : Prop :=
  (x = 1 ∧ ∃ g q, cn_Se (cn_I tr) (cn_I po) k g (fun w => cn_I po w - cn_I re w) q ∧ cn_TY ow g ∧ ∀ s, s < 7 → cn_src po re s → q s = 0) ∨
  (x = 0 ∧ ∃ g, cn_TY ow g ∧ cn_Debts (cn_I tr) (cn_I po) (cn_tot g))

section
variable (fg : Int32) (tr po pa pe am ow re pc be : Nat → Int32)

theorem cn_suY {post : Int32 → SY → Prop} {g : Nat → Nat → Int} (h : cn_TY ow g) (hp : post (cn_i (cn_tot g)) (fg, tr, po, pa, pe, am, ow, re, pc, be)) :
    ∃ n, wY_debts_93 post fg tr po pa pe am ow re pc be n 0 0 := by
  have e : cn_sum (fun j => cn_pp (cn_I ow j)) 49 = cn_tot g := by
    rw [cn_sum49]
    exact cn_sum_congr (fun u hu => cn_sum_congr (fun v hv => congrArg cn_pp (h u v hu hv)))
  refine loop_0 (fun n k (s : Int32) => wY_debts_93 post fg tr po pa pe am ow re pc be n s (nI k)) (fun k s => s = cn_i (cn_sum (fun j => cn_pp (cn_I ow j)) k)) 49 0 cn_i_0.symm ?_ ?_
  · intro n s hs
    subst hs
    rw [e]
    exact br_t cn_t49 hp
  · intro n k s hk hs ih
    subst hs
    refine br_f (cn_f49 hk) ⟨vp_in_nI (by omega) (by decide), ?_⟩
    rw [cn_cl (by omega)]
    refine cn_ble _ 0 (cn_I_of ow k) cn_i_0.symm (cn_nrI _) cn_n0 (fun c => nm_r (nI_1 k) (ih _ ?_)) (fun c => ⟨vp_in_nI (by omega) (by decide), nm_r (e' := cn_i (cn_sum (fun j => cn_pp (cn_I ow j)) (k + 1))) ?_ (nm_r (nI_1 k) (ih _ rfl))⟩)
    · rw [cn_sum_s, cn_pp, if_neg (by omega), Int.add_zero]
    · rw [cn_sum_s, cn_pp, if_pos c, cn_i_add, ← cn_I_of]

theorem cn_deY {post : Int32 → SY → Prop} (J : cn_Inv fg tr po pa pe am)
    (h : ∀ ow' re' pc' be' r, cn_Debts (cn_I tr) (cn_I po) r → post (cn_i r) (fg, tr, po, pa, pe, am, ow', re', pc', be')) :
    wpY_debts post (fg, tr, po, pa, pe, am, ow, re, pc, be) := by
  have P := cn_Inv_P J
  have ht := J.1
  have hok := cn_Ok_of J.2.1 J.2.2.1
  refine loop_0 (fun n k (s : (Nat → Int32) × (Nat → Int32)) => wY_debts_2 post fg n (nI k) tr po pa pe am s.1 s.2 pc be) (fun k s => ∀ j, j < k → s.1 j = 0 ∧ s.2 (j / 7) = 0) 49 (ow, re) (fun j hj => by omega) ?_ ?_
  · intro n s hs
    obtain ⟨ow, re⟩ := s
    refine br_t cn_t49 ?_
    refine loop_0 (fun n k (s : Int32 × (Nat → Int32) × (Nat → Int32) × (Nat → Int32) × (Nat → Int32)) => wY_debts_35 post n s.1 (nI k) fg tr po pa pe am s.2.1 s.2.2.1 s.2.2.2.1 s.2.2.2.2)
      (fun k s => cn_YI tr po k s.1 s.2.1 s.2.2.1) 20000 (1, ow, re, pc, be) ?_ ?_ ?_
    · have r0 : ∀ w, w < 7 → cn_I re w = 0 := by
        intro w hw
        have e : re (w * 7 / 7) = 0 := (hs (w * 7) (by omega)).2
        rw [Nat.mul_div_cancel _ (by decide)] at e
        show (re w).toInt = 0
        rw [e]
        decide
      refine Or.inl ⟨rfl, _, _, cn_Se_0 hok (fun u v _ _ => ht _) (fun w hw => ?_), fun u v hu hv => ?_, fun _ _ _ => rfl⟩
      · rw [r0 w hw, Int.sub_zero]
      · have e : ow (u * 7 + v) = 0 := (hs (u * 7 + v) (by omega)).1
        show (ow (u * 7 + v)).toInt = 0
        rw [e]
        decide
    · intro n s hI
      obtain ⟨x, ow1, re1, pc1, be1⟩ := s
      refine br_t (by decide) ?_
      rcases hI with ⟨_, g, q, se, ty, _⟩ | ⟨_, g, ty, db⟩
      · exact cn_suY fg tr po pa pe am ow1 re1 pc1 be1 ty (h _ _ _ _ _ (cn_Se_fin se (cn_Se_e3 hok se (by decide))))
      · exact cn_suY fg tr po pa pe am ow1 re1 pc1 be1 ty (h _ _ _ _ _ db)
    · intro n k s hk hI ih
      obtain ⟨x, ow1, re1, pc1, be1⟩ := s
      refine br_f (nI_ge (b := 20000) hk (by decide)) ?_
      rcases hI with ⟨hx, g, q, se, ty, hS⟩ | ⟨hx, g, ty, db⟩
      · have hx' : x = 1 := hx
        subst hx'
        have ub := cn_Se_b ht P se
        refine br_f cn_10 (cn_fwY fg tr po pa pe am ow1 re1 pc1 be1 ht se.1 ty se.2.1 hS (fun pc2 be2 d p ts ro => ?_))
        obtain ⟨ws, cl⟩ := cn_Ro_e (K := 7) (by decide) (by decide) (cn_Opt_Pt se.2.1) hS (cn_cost_b g) ro
        have db : ∀ w, w < 7 → -1000 ≤ d w ∧ d w ≤ 1000 := by
          intro w hw
          rcases ws.2.1 w hw with x | x <;> omega
        refine cn_chY fg tr po pa pe am ow1 re1 pc2 be2 ts db (fun z hz pos rz => br_f (cn_fin7 hz) (br_f cn_10 ?_)) (fun none => br_t cn_m1lt (br_t rfl (nm_r (nI_1 k) (ih (0, ow1, re1, pc2, be2) (Or.inr ⟨rfl, g, ty, cn_Se_fin se (cn_Se_e1 hok se (fun s hs => ?_))⟩)))))
        · obtain ⟨q', L, o1, o2, wy⟩ := cn_way (by decide) (by decide) se.2.1 ws cl hz rz
          have b0 := wy.2.2.1 L (Nat.le_refl _)
          have rt : p (cn_it p L z) = cn_it p L z := (ws.1 _ b0 wy.2.1).2
          have neg : cn_I po (cn_it p L z) < cn_I re1 (cn_it p L z) := wy.2.1
          have rz' : cn_it p L z ≠ z := by
            intro e
            rw [e] at neg
            omega
          have ubz := ub z hz
          refine cn_wiY fg tr po pa pe am ow1 re1 pc2 be2 ht se.1 ty hz ts wy rt ub neg pos (fun a a1 a2 a3 a4 => ?_)
          refine cn_snY fg tr po pa pe am ow1 re1 pc2 be2 ht se.1 ty o1 hz ts wy rt rz' (fun w hw => ?_) a1 ?_ a4 (fun ow3 re3 g3 ty3 w2 e => nm_r (nI_1 k) (ih (1, ow3, re3, pc2, be2) (Or.inl ⟨rfl, g3, q', ?_, ty3, fun s hs he => ?_⟩)))
          · have x := ub w hw
            have y := P w hw
            dsimp only at x
            omega
          · dsimp only at ubz
            omega
          · have un' : (fun w => cn_I po w - cn_I re3 w) = cn_up (cn_up (fun w => cn_I po w - cn_I re1 w) (cn_it p L z) (cn_I po (cn_it p L z) - cn_I re1 (cn_it p L z) + a)) z (cn_I po z - cn_I re1 z - a) := by
              funext w
              rw [e]
              by_cases f : w = z
              · subst f
                rw [cn_up_s, cn_up_n (fun q => rz' q.symm), cn_up_s]
                omega
              · rw [cn_up_n f]
                by_cases f' : w = cn_it p L z
                · subst f'
                  rw [cn_up_s, cn_up_s]
                  omega
                · rw [cn_up_n f', cn_up_n f', cn_up_n f]
            show cn_Se (cn_I tr) (cn_I po) (k + 1) g3 (fun w => cn_I po w - cn_I re3 w) q'
            rw [un']
            exact cn_Se_s (un := fun w => cn_I po w - cn_I re1 w) se b0 hz a1 (by omega) (by omega) rfl w2
          · refine o2 s hs ?_
            have he' : cn_I po s < cn_I re3 s := he
            show cn_I po s < cn_I re1 s
            rw [e] at he'
            by_cases f' : s = cn_it p L z
            · subst f'
              exact neg
            · rw [cn_up_n f'] at he'
              by_cases f : s = z
              · subst f
                rw [cn_up_s] at he'
                omega
              · rw [cn_up_n f] at he'
                exact he'
        · show 0 ≤ cn_I po s - cn_I re1 s
          apply Classical.byContradiction
          intro n
          have sr : cn_src po re1 s := by
            show cn_I po s < cn_I re1 s
            omega
          have ds : d s ≠ 1000 := by
            have := (ws.1 s hs sr).1
            omega
          obtain ⟨v, v1, v2, v3⟩ := cn_reach hs hok se.1 se.2.2.1 ds (by dsimp only; omega) (fun u v hu hv du R => by
            have a := cl u v hu hv du R
            have b := cn_cost_b g u v
            rcases ws.2.1 u hu with x | x
            · exact absurd x du
            · omega)
          exact v2 (none v v1 (by dsimp only at v3; omega))
      · have hx' : x = 0 := hx
        subst hx'
        exact br_t rfl (cn_suY fg tr po pa pe am ow1 re1 pc1 be1 ty (h _ _ _ _ _ db))
  · intro n k s hk hs ih
    refine br_f (cn_f49 hk) ⟨vp_in_nI (by omega) (by decide), nm_e ⟨cn_70, ?_⟩⟩
    rw [cn_q7 (by omega)]
    refine ⟨cn_in7 (by omega), nm_e (nm_r (nI_1 k) (ih (_, _) (fun j hj => ?_)))⟩
    rw [cn_cl (by omega), cn_cl (by omega)]
    refine ⟨?_, ?_⟩
    · by_cases e : j = k
      · subst e; exact pk_us
      · exact (pk_un e).trans (hs j (by omega)).1
    · by_cases e : j / 7 = k / 7
      · rw [e]; exact pk_us
      · exact (pk_un e).trans (hs j (by
          by_cases f : j = k
          · subst f; exact absurd rfl e
          · omega)).2
end

theorem i_vc_debts {k : Nat} {u : SX} {v : SY} (I : i_Rel k u v) (hk : k + 4 ≤ 2048) : wpX_debts (fun r u' => wpY_debts (fun r' v' => r' = r ∧ i_Rel (k + 4) u' v') v) u := by
  obtain ⟨fg, tr, po, pa, pe, am, ow, un, di, pr, ow', re, pc, be, rfl, rfl, J⟩ := I
  refine cn_deX fg tr po pa pe am ow un di pr J (fun _ _ _ _ r d => cn_deY fg tr po pa pe am ow' re pc be J (fun _ _ _ _ r' d' => ⟨?_, cn_mk J⟩))
  rw [cn_Debts_eq d' d]
end
