section
theorem pk_us {f : Nat → Int32} {k : Nat} {x : Int32} : upd f k x k = x := if_pos rfl
theorem pk_un {f : Nat → Int32} {k j : Nat} {x : Int32} (h : j ≠ k) : upd f k x j = f j := if_neg h
theorem pk_sub {a b : Nat} (h : b ≤ a) : nI a - nI b = nI (a - b) := by
  obtain ⟨c, rfl⟩ : ∃ c, a = c + b := ⟨a - b, by omega⟩
  rw [← nI_add, Int32.add_sub_cancel, Nat.add_sub_cancel]
theorem pk_mul (a b : Nat) : nI a * nI b = nI (a * b) := (Int32.ofNat_mul a b).symm
theorem pk_div {a d : Nat} (ha : a < 2 ^ 31) (h0 : 0 < d) (hd : d < 2 ^ 31) : nI a / nI d = nI (a / d) := by
  apply Int32.toInt_inj.mp
  rw [lg_idiv_nonneg (by rw [nI_toInt ha]; omega) (by rw [nI_toInt hd]; omega), nI_toInt ha, nI_toInt hd, nI_toInt (Nat.lt_of_le_of_lt (Nat.div_le_self a d) ha)]
  first | rfl | exact (Int.natCast_ediv _ _).symm
theorem pk_rem {a d : Nat} (ha : a < 2 ^ 31) (h0 : 0 < d) (hd : d < 2 ^ 31) : nI a - nI a / nI d * nI d = nI (a % d) := by
  rw [pk_div ha h0 hd, pk_mul, pk_sub (Nat.div_mul_le_self a d)]
  exact congrArg nI (by have := Nat.div_add_mod' a d; omega)
theorem pk_ix (x : Int32) {n : Nat} (hn : n < 2 ^ 31) : x < 0 ∨ nI n ≤ x ∨ ∃ j : Nat, j < n ∧ x = nI j := by
  by_cases h : x < 0
  · exact Or.inl h
  · obtain ⟨j, hj, rfl⟩ := nI_of h
    by_cases h2 : j < n
    · exact Or.inr (Or.inr ⟨j, h2, rfl⟩)
    · exact Or.inr (Or.inl (nI_le (by omega) hj))
theorem pk_le {x y : Int32} {A B : Prop} (a b : Nat) (f : a ≤ b → A) (g : b < a → B) (hx : x = nI a := by rfl) (hy : y = nI b := by rfl) (ha : a < 2 ^ 31 := by omega) (hb : b < 2 ^ 31 := by omega) : (x ≤ y → A) ∧ (¬ x ≤ y → B) := by
  subst hx hy
  rw [nI_leI ha hb]
  exact ⟨f, fun z => g (by omega)⟩
theorem pk_lt {x y : Int32} {A B : Prop} (a b : Nat) (f : a < b → A) (g : b ≤ a → B) (hx : x = nI a := by rfl) (hy : y = nI b := by rfl) (ha : a < 2 ^ 31 := by omega) (hb : b < 2 ^ 31 := by omega) : (x < y → A) ∧ (¬ x < y → B) := by
  subst hx hy
  rw [nI_ltI ha hb]
  exact ⟨f, fun z => g (by omega)⟩
theorem pk_eq {x y : Int32} {A B : Prop} (a b : Nat) (f : a = b → A) (g : a ≠ b → B) (hx : x = nI a := by rfl) (hy : y = nI b := by rfl) (ha : a < 2 ^ 31 := by omega) (hb : b < 2 ^ 31 := by omega) : (x = y → A) ∧ (¬ x = y → B) := by
  subst hx hy
  rw [nI_eq ha hb]
  exact ⟨f, g⟩
theorem pk_in {x : Int32} (n N : Nat) (h : n < N) (hx : x = nI n := by rfl) (hN : N < 2 ^ 31 := by omega) : vp_in x N := by
  subst hx
  exact vp_in_nI h hN
theorem pk_cl {x : Int32} (n : Nat) (hx : x = nI n := by rfl) (h : n < 2 ^ 31 := by omega) : x.toNatClampNeg = n := by
  subst hx
  exact nI_clamp h
theorem pk_tn {n : Nat} (h : n < 2 ^ 32) : (nI n).toBitVec.toNat = n := Nat.mod_eq_of_lt h
theorem pk_and (x : Int32) {m : Int32} (k : Nat) (hm : m.toBitVec.toNat = 2 ^ k - 1) : x &&& m = nI (x.toBitVec.toNat % 2 ^ k) := by
  apply Int32.toBitVec_inj.mp
  apply BitVec.eq_of_toNat_eq
  rw [Int32.toBitVec_and, BitVec.toNat_and, hm, Nat.and_two_pow_sub_one_eq_mod]
  show _ = (BitVec.ofNat 32 _).toNat
  rw [BitVec.toNat_ofNat]
  exact (Nat.mod_eq_of_lt (Nat.lt_of_le_of_lt (Nat.mod_le _ _) x.toBitVec.isLt)).symm
theorem pk_andN {n : Nat} (h : n < 2 ^ 32) {m : Int32} (k : Nat) (hm : m.toBitVec.toNat = 2 ^ k - 1) : nI n &&& m = nI (n % 2 ^ k) := by
  rw [pk_and _ k hm, pk_tn h]
theorem pk_shl (a s : Int32) (k : Nat) (hs : (s.toBitVec.smod 32).toNat = k) : (a <<< s).toBitVec.toNat = a.toBitVec.toNat * 2 ^ k % 2 ^ 32 := by
  show (a.toBitVec <<< (s.toBitVec.smod 32).toNat).toNat = _
  rw [hs, BitVec.toNat_shiftLeft, Nat.shiftLeft_eq]
theorem pk_shlN {n : Nat} (s : Int32) (k : Nat) (hs : (s.toBitVec.smod 32).toNat = k) (h : n * 2 ^ k < 2 ^ 32) : nI n <<< s = nI (n * 2 ^ k) := by
  apply Int32.toBitVec_inj.mp
  apply BitVec.eq_of_toNat_eq
  have hn : n < 2 ^ 32 := Nat.lt_of_le_of_lt (Nat.le_mul_of_pos_right n (Nat.two_pow_pos k)) h
  rw [pk_shl _ _ k hs, pk_tn hn, pk_tn h, Nat.mod_eq_of_lt h]
theorem pk_shr (a s : Int32) (k : Nat) (hs : (s.toBitVec.smod 32).toNat = k) : (a >>> s).toInt = a.toInt >>> k := by
  show (a.toBitVec.sshiftRight (s.toBitVec.smod 32).toNat).toInt = _
  rw [hs, BitVec.toInt_sshiftRight]
  rfl
theorem pk_shrN {n : Nat} (h : n < 2 ^ 31) (s : Int32) (k : Nat) (hs : (s.toBitVec.smod 32).toNat = k) : nI n >>> s = nI (n / 2 ^ k) := by
  apply Int32.toInt_inj.mp
  have h2 : n / 2 ^ k ≤ n := Nat.div_le_self _ _
  rw [pk_shr _ _ k hs, nI_toInt h, nI_toInt (by omega), Int.shiftRight_eq_div_pow]
  rfl
theorem pk_loop {σ : Type} (W : Nat → Nat → σ → Prop) (I : Nat → σ → Prop) (e i0 : Nat) (s : σ) (hi : i0 ≤ e) (h0 : I i0 s) (hx : ∀ n s, I e s → W (n + 1) e s)
    (hs : ∀ n i s, i < e → I i s → (∀ s', I (i + 1) s' → W n (i + 1) s') → W (n + 1) i s) : ∃ n, W n i0 s :=
  ⟨e + 1, loop_i W I e hx hs (e + 1) i0 s hi (by omega) h0⟩
theorem pk_least (P : Nat → Prop) (h : ∃ k, P k) : ∃ k, P k ∧ ∀ j, j < k → ¬ P j := by
  obtain ⟨k, hk⟩ := h
  induction k using Nat.strongRecOn with
  | ind k ih =>
    by_cases e : ∃ j, j < k ∧ P j
    · obtain ⟨j, hj, pj⟩ := e
      exact ih j hj pj
    · exact ⟨k, hk, fun j hj pj => e ⟨j, hj, pj⟩⟩
theorem s_l : ∀ n, n < 32 → ((nI n &&& 31).toBitVec.smod 32).toNat = n := by decide +kernel
theorem nx_and (a b : Nat) : nI a &&& nI b = nI (a &&& b) := by
  apply Int32.toBitVec_inj.1
  show BitVec.ofNat 32 a &&& BitVec.ofNat 32 b = BitVec.ofNat 32 (a &&& b)
  apply BitVec.eq_of_getLsbD_eq
  intro i hi
  simp [hi]
end
section
/-- sums over 0 .. n-1 -/
def cn_sum (f : Nat → Int) : Nat → Int
  | 0 => 0
  | n + 1 => cn_sum f n + f n

theorem cn_sum_s (f : Nat → Int) (n : Nat) : cn_sum f (n + 1) = cn_sum f n + f n := rfl

theorem cn_sum_congr {f g : Nat → Int} {n : Nat} (h : ∀ i, i < n → f i = g i) : cn_sum f n = cn_sum g n := by
  induction n with
  | zero => rfl
  | succ n ih => rw [cn_sum_s, cn_sum_s, ih (fun i hi => h i (by omega)), h n (by omega)]

theorem cn_sum_add (f g : Nat → Int) (n : Nat) : cn_sum (fun i => f i + g i) n = cn_sum f n + cn_sum g n := by
  induction n with
  | zero => rfl
  | succ n ih => rw [cn_sum_s, cn_sum_s, cn_sum_s, ih]; omega

theorem cn_sum_sub (f g : Nat → Int) (n : Nat) : cn_sum (fun i => f i - g i) n = cn_sum f n - cn_sum g n := by
  induction n with
  | zero => rfl
  | succ n ih => rw [cn_sum_s, cn_sum_s, cn_sum_s, ih]; omega

theorem cn_sum_neg (f : Nat → Int) (n : Nat) : cn_sum (fun i => - f i) n = - cn_sum f n := by
  induction n with
  | zero => rfl
  | succ n ih => rw [cn_sum_s, cn_sum_s, ih]; omega

theorem cn_sum_mul (c : Int) (f : Nat → Int) (n : Nat) : cn_sum (fun i => c * f i) n = c * cn_sum f n := by
  induction n with
  | zero => exact (Int.mul_zero c).symm
  | succ n ih => rw [cn_sum_s, cn_sum_s, ih, Int.mul_add]

theorem cn_sum_0 (n : Nat) : cn_sum (fun _ => 0) n = 0 := by
  induction n with
  | zero => rfl
  | succ n ih => rw [cn_sum_s, ih]; rfl

theorem cn_sum_le {f g : Nat → Int} {n : Nat} (h : ∀ i, i < n → f i ≤ g i) : cn_sum f n ≤ cn_sum g n := by
  induction n with
  | zero => exact Int.le_refl _
  | succ n ih =>
    rw [cn_sum_s, cn_sum_s]
    have a := ih (fun i hi => h i (by omega))
    have b := h n (by omega)
    omega

theorem cn_sum_nn {f : Nat → Int} {n : Nat} (h : ∀ i, i < n → 0 ≤ f i) : 0 ≤ cn_sum f n := by
  have a := cn_sum_le (f := fun _ => 0) (g := f) (n := n) h
  rw [cn_sum_0] at a
  exact a

theorem cn_sum_ub {f : Nat → Int} {n : Nat} {b : Int} (h : ∀ i, i < n → f i ≤ b) : cn_sum f n ≤ b * n := by
  induction n with
  | zero => show (0 : Int) ≤ b * 0; omega
  | succ n ih =>
    rw [cn_sum_s]
    have a := ih (fun i hi => h i (by omega))
    have c := h n (by omega)
    have e : b * ((n + 1 : Nat) : Int) = b * (n : Int) + b := by rw [Int.natCast_add, Int.mul_add]; simp
    omega

theorem cn_sum_swap (f : Nat → Nat → Int) (m n : Nat) :
    cn_sum (fun i => cn_sum (fun j => f i j) n) m = cn_sum (fun j => cn_sum (fun i => f i j) m) n := by
  induction m with
  | zero => exact (cn_sum_0 n).symm
  | succ m ih =>
    rw [cn_sum_s, ih, ← cn_sum_add]
    exact cn_sum_congr (fun j _ => rfl)

theorem cn_sum_split (f : Nat → Int) (a b : Nat) : cn_sum f (a + b) = cn_sum f a + cn_sum (fun i => f (a + i)) b := by
  induction b with
  | zero => show cn_sum f a = cn_sum f a + 0; omega
  | succ b ih =>
    rw [← Nat.add_assoc, cn_sum_s, cn_sum_s, ih]
    omega

/-- one place of a function anew -/
def cn_up (f : Nat → Int) (k : Nat) (x : Int) : Nat → Int := fun j => if j = k then x else f j
theorem cn_up_s {f : Nat → Int} {k : Nat} {x : Int} : cn_up f k x k = x := if_pos rfl
theorem cn_up_n {f : Nat → Int} {k j : Nat} {x : Int} (h : j ≠ k) : cn_up f k x j = f j := if_neg h
def cn_un (f : Nat → Nat) (k x : Nat) : Nat → Nat := fun j => if j = k then x else f j
theorem cn_un_s {f : Nat → Nat} {k x : Nat} : cn_un f k x k = x := if_pos rfl
theorem cn_un_n {f : Nat → Nat} {k j x : Nat} (h : j ≠ k) : cn_un f k x j = f j := if_neg h

theorem cn_sum_up_o (f : Nat → Int) {k n : Nat} (x : Int) (h : n ≤ k) : cn_sum (cn_up f k x) n = cn_sum f n :=
  cn_sum_congr (fun i hi => cn_up_n (by omega))

theorem cn_sum_up (f : Nat → Int) {k n : Nat} (x : Int) (h : k < n) : cn_sum (cn_up f k x) n = cn_sum f n + (x - f k) := by
  induction n with
  | zero => omega
  | succ n ih =>
    rw [cn_sum_s, cn_sum_s]
    by_cases e : k = n
    · subst e
      rw [cn_sum_up_o f x (Nat.le_refl _), cn_up_s]; omega
    · rw [ih (by omega), cn_up_n (by omega)]; omega

/-- a sum above 0 has a place above 0 -/
theorem cn_sum_ex {f : Nat → Int} {n : Nat} (h : 0 < cn_sum f n) : ∃ i, i < n ∧ 0 < f i := by
  induction n with
  | zero => exact absurd h (by show ¬ (0 : Int) < 0; omega)
  | succ n ih =>
    rw [cn_sum_s] at h
    by_cases e : 0 < f n
    · exact ⟨n, by omega, e⟩
    · obtain ⟨i, hi, p⟩ := ih (by omega)
      exact ⟨i, by omega, p⟩

/-- nowhere below 0, and the sum is 0: 0 everywhere -/
theorem cn_sum_z {f : Nat → Int} {n : Nat} (h : ∀ i, i < n → 0 ≤ f i) (e : cn_sum f n ≤ 0) : ∀ i, i < n → f i = 0 := by
  induction n with
  | zero => intro i hi; omega
  | succ n ih =>
    rw [cn_sum_s] at e
    have a := cn_sum_nn (f := f) (n := n) (fun i hi => h i (by omega))
    have b := h n (by omega)
    intro i hi
    by_cases q : i = n
    · subst q; omega
    · exact ih (fun i hi => h i (by omega)) (by omega) i (by omega)

/-- how many places hold -/
def cn_cnt (P : Nat → Bool) : Nat → Nat
  | 0 => 0
  | n + 1 => cn_cnt P n + (if P n then 1 else 0)
theorem cn_cnt_s (P : Nat → Bool) (n : Nat) : cn_cnt P (n + 1) = cn_cnt P n + (if P n then 1 else 0) := rfl

theorem cn_cnt_le (P : Nat → Bool) (n : Nat) : cn_cnt P n ≤ n := by
  induction n with
  | zero => exact Nat.le_refl _
  | succ n ih => rw [cn_cnt_s]; split <;> omega

theorem cn_cnt_1 {P : Nat → Bool} {u n : Nat} (hu : u < n) (h : P u = false) : cn_cnt P n + 1 ≤ n := by
  induction n with
  | zero => omega
  | succ n ih =>
    rw [cn_cnt_s]
    by_cases e : u = n
    · subst e
      have a := cn_cnt_le P u
      rw [h]; simp; omega
    · have a := ih (by omega)
      split <;> omega

theorem cn_cnt_2 {P : Nat → Bool} {u v n : Nat} (hu : u < n) (hv : v < n) (huv : u ≠ v) (h : P u = false) (h' : P v = false) : cn_cnt P n + 2 ≤ n := by
  induction n with
  | zero => omega
  | succ n ih =>
    rw [cn_cnt_s]
    by_cases e : u = n
    · subst e
      have a := cn_cnt_1 (P := P) (u := v) (n := u) (by omega) h'
      rw [h]; simp; omega
    · by_cases e' : v = n
      · subst e'
        have a := cn_cnt_1 (P := P) (u := u) (n := v) (by omega) h
        rw [h']; simp; omega
      · have a := ih (by omega) (by omega)
        split <;> omega

theorem cn_cnt_mono {P Q : Nat → Bool} {n : Nat} (h : ∀ i, i < n → P i = true → Q i = true) : cn_cnt P n ≤ cn_cnt Q n := by
  induction n with
  | zero => exact Nat.le_refl _
  | succ n ih =>
    rw [cn_cnt_s, cn_cnt_s]
    have a := ih (fun i hi => h i (by omega))
    have b := h n (by omega)
    by_cases e : P n = true
    · rw [if_pos e, if_pos (b e)]; omega
    · rw [if_neg e]; omega

theorem cn_cnt_lt {P Q : Nat → Bool} {w n : Nat} (h : ∀ i, i < n → P i = true → Q i = true) (hw : w < n) (hP : P w = false) (hQ : Q w = true) : cn_cnt P n < cn_cnt Q n := by
  induction n with
  | zero => omega
  | succ n ih =>
    rw [cn_cnt_s, cn_cnt_s]
    by_cases e : w = n
    · subst e
      have a := cn_cnt_mono (P := P) (Q := Q) (n := w) (fun i hi => h i (by omega))
      rw [hP, hQ]; simp; omega
    · have a := ih (fun i hi => h i (by omega)) (by omega)
      have b := h n (by omega)
      by_cases e2 : P n = true
      · rw [if_pos e2, if_pos (b e2)]; omega
      · rw [if_neg e2]; omega
end
section
/-- whole numbers as ints -/
def cn_i (x : Int) : Int32 := Int32.ofInt x
theorem cn_i_add (a b : Int) : cn_i (a + b) = cn_i a + cn_i b := Int32.ofInt_add a b
theorem cn_i_sub (a b : Int) : cn_i (a - b) = cn_i a - cn_i b := Int32.ofInt_sub a b
theorem cn_i_mul (a b : Int) : cn_i (a * b) = cn_i a * cn_i b := Int32.ofInt_mul a b
theorem cn_i_neg (a : Int) : cn_i (-a) = - cn_i a := Int32.ofInt_neg a
theorem cn_i_of (x : Int32) : cn_i x.toInt = x := Int32.ofInt_toInt x
theorem cn_i_n (n : Nat) : cn_i (n : Int) = nI n := Int32.ofInt_eq_ofNat
theorem cn_i_0 : cn_i 0 = 0 := by decide
theorem cn_i_1 : cn_i 1 = 1 := by decide
theorem cn_ti {a : Int} (h : -2147483648 ≤ a) (h' : a < 2147483648) : (cn_i a).toInt = a := Int32.toInt_ofInt_of_le h h'
theorem cn_lo (x : Int32) : -2147483648 ≤ x.toInt := Int32.le_toInt x
theorem cn_hi (x : Int32) : x.toInt < 2147483648 := Int32.toInt_lt x
/-- near 0 -/
def cn_nr (a : Int) : Prop := -2000000000 ≤ a ∧ a ≤ 2000000000
theorem cn_le {a b : Int} (ha : cn_nr a) (hb : cn_nr b) : cn_i a ≤ cn_i b ↔ a ≤ b := by
  unfold cn_nr at ha hb
  rw [Int32.le_iff_toInt_le, cn_ti (by omega) (by omega), cn_ti (by omega) (by omega)]
theorem cn_lt {a b : Int} (ha : cn_nr a) (hb : cn_nr b) : cn_i a < cn_i b ↔ a < b := by
  unfold cn_nr at ha hb
  rw [Int32.lt_iff_toInt_lt, cn_ti (by omega) (by omega), cn_ti (by omega) (by omega)]
theorem cn_eq {a b : Int} (ha : cn_nr a) (hb : cn_nr b) : cn_i a = cn_i b ↔ a = b := by
  unfold cn_nr at ha hb
  rw [← Int32.toInt_inj, cn_ti (by omega) (by omega), cn_ti (by omega) (by omega)]
/-- branches by whole numbers -/
theorem cn_ble {x y : Int32} {A B : Prop} (a b : Int) (hx : x = cn_i a) (hy : y = cn_i b) (ha : cn_nr a) (hb : cn_nr b) (f : a ≤ b → A) (g : b < a → B) : (x ≤ y → A) ∧ (¬ x ≤ y → B) := by
  subst hx hy
  rw [cn_le ha hb]
  exact ⟨f, fun z => g (by omega)⟩
theorem cn_blt {x y : Int32} {A B : Prop} (a b : Int) (hx : x = cn_i a) (hy : y = cn_i b) (ha : cn_nr a) (hb : cn_nr b) (f : a < b → A) (g : b ≤ a → B) : (x < y → A) ∧ (¬ x < y → B) := by
  subst hx hy
  rw [cn_lt ha hb]
  exact ⟨f, fun z => g (by omega)⟩
theorem cn_beq {x y : Int32} {A B : Prop} (a b : Int) (hx : x = cn_i a) (hy : y = cn_i b) (ha : cn_nr a) (hb : cn_nr b) (f : a = b → A) (g : a ≠ b → B) : (x = y → A) ∧ (¬ x = y → B) := by
  subst hx hy
  rw [cn_eq ha hb]
  exact ⟨f, g⟩
theorem cn_n0 : cn_nr 0 := by unfold cn_nr; omega
/-- an array's contents as whole numbers -/
def cn_I (a : Nat → Int32) : Nat → Int := fun j => (a j).toInt
theorem cn_I_of (a : Nat → Int32) (j : Nat) : a j = cn_i (cn_I a j) := (cn_i_of _).symm
theorem cn_I_up (a : Nat → Int32) (k : Nat) (x : Int32) : cn_I (upd a k x) = cn_up (cn_I a) k x.toInt := by
  funext j
  unfold cn_I cn_up upd
  by_cases e : j = k
  · rw [if_pos e, if_pos e]
  · rw [if_neg e, if_neg e]
/-- indices -/
theorem cn_ix (u v : Nat) : nI u * 7 + nI v = nI (u * 7 + v) := by
  rw [show (7 : Int32) = nI 7 from rfl, pk_mul, nI_add]
theorem cn_iy (u v : Nat) : 7 * nI u + nI v = nI (u * 7 + v) := by
  rw [show (7 : Int32) = nI 7 from rfl, pk_mul, nI_add, Nat.mul_comm]
theorem cn_in49 {u v : Nat} (hu : u < 7) (hv : v < 7) : vp_in (nI (u * 7 + v)) 49 := vp_in_nI (by omega) (by decide)
theorem cn_in7 {u : Nat} (hu : u < 7) : vp_in (nI u) 7 := vp_in_nI hu (by decide)
theorem cn_cl {n : Nat} (h : n < 1000) : (nI n).toNatClampNeg = n := nI_clamp (by omega)
theorem cn_q7 {p : Nat} (h : p < 1000) : nI p / 7 = nI (p / 7) := pk_div (d := 7) (by omega) (by decide) (by decide)
theorem cn_r7 {p : Nat} (h : p < 1000) : nI p - nI p / 7 * 7 = nI (p % 7) := pk_rem (d := 7) (by omega) (by decide) (by decide)
theorem cn_r49 {p : Nat} (h : p < 1000) : nI p - nI p / 49 * 49 = nI (p % 49) := pk_rem (d := 49) (by omega) (by decide) (by decide)
/-- the members of a set -/
def cn_bit (k j : Nat) : Bool := decide (k / 2 ^ j % 2 = 1)
theorem cn_bit_v {m k : Nat} (hm : m < 128) (hk : k < 7) : (nI m >>> (nI k &&& 31)) &&& 1 = nI (m / 2 ^ k % 2) := by
  rw [pk_shrN (by omega) _ k (s_l k (by omega))]
  have e := Nat.div_le_self m (2 ^ k)
  exact pk_andN (m := 1) (by omega) 1 (by decide)
theorem cn_bit_1 {m k : Nat} (hm : m < 128) (hk : k < 7) : (nI m >>> (nI k &&& 31)) &&& 1 = 1 ↔ cn_bit m k = true := by
  rw [cn_bit_v hm hk]
  unfold cn_bit
  rw [decide_eq_true_iff]
  exact nI_eq (b := 1) (by omega) (by decide)
theorem cn_sh {k : Nat} (hk : k < 7) : (1 : Int32) <<< (nI k &&& 31) = nI (2 ^ k) := by
  have e : 2 ^ k < 2 ^ 7 := Nat.pow_lt_pow_right (by decide) hk
  have h := pk_shlN (n := 1) (nI k &&& 31) k (s_l k (by omega)) (by omega)
  rw [Nat.one_mul] at h
  exact h
theorem cn_bit_in : ∀ k, k < 7 → ∀ s, s < 128 → (s &&& 2 ^ k = 2 ^ k ↔ cn_bit s k = true) := by decide +kernel
theorem cn_bit_out : ∀ k, k < 7 → ∀ s, s < 128 → (s &&& 2 ^ k = 0 ↔ ¬ cn_bit s k = true) := by decide +kernel
theorem cn_bit_pw : ∀ k, k < 7 → ∀ j, j < 7 → (cn_bit (2 ^ k) j = true ↔ j = k) := by decide +kernel
theorem cn_pw {k : Nat} (hk : k < 7) : 2 ^ k < 128 := by
  have e : 2 ^ k < 2 ^ 7 := Nat.pow_lt_pow_right (by decide) hk
  omega
theorem cn_and0 {m s : Nat} (hm : m < 128) (hs : s < 128) : (nI s &&& nI m = nI m) ↔ s &&& m = m := by
  rw [nx_and]
  have e : s &&& m ≤ m := Nat.and_le_right
  exact nI_eq (by omega) (by omega)
theorem cn_and1 {m s : Nat} (hm : m < 128) (hs : s < 128) : (nI s &&& nI m = 0) ↔ s &&& m = 0 := by
  rw [nx_and]
  have e : s &&& m ≤ m := Nat.and_le_right
  exact nI_eq (b := 0) (by omega) (by decide)
def cn_set7 (b0 b1 b2 b3 b4 b5 b6 : Bool) : Nat := b0.toNat + 2 * b1.toNat + 4 * b2.toNat + 8 * b3.toNat + 16 * b4.toNat + 32 * b5.toNat + 64 * b6.toNat
theorem cn_set7_lt : ∀ b0 b1 b2 b3 b4 b5 b6 : Bool, cn_set7 b0 b1 b2 b3 b4 b5 b6 < 128 := by decide +kernel
theorem cn_set7_b : ∀ b0 b1 b2 b3 b4 b5 b6 : Bool, cn_bit (cn_set7 b0 b1 b2 b3 b4 b5 b6) 0 = b0 ∧ cn_bit (cn_set7 b0 b1 b2 b3 b4 b5 b6) 1 = b1 ∧ cn_bit (cn_set7 b0 b1 b2 b3 b4 b5 b6) 2 = b2 ∧ cn_bit (cn_set7 b0 b1 b2 b3 b4 b5 b6) 3 = b3 ∧ cn_bit (cn_set7 b0 b1 b2 b3 b4 b5 b6) 4 = b4 ∧ cn_bit (cn_set7 b0 b1 b2 b3 b4 b5 b6) 5 = b5 ∧ cn_bit (cn_set7 b0 b1 b2 b3 b4 b5 b6) 6 = b6 := by decide +kernel
theorem cn_set (M : Nat → Bool) : ∃ k, k < 128 ∧ ∀ j, j < 7 → cn_bit k j = M j := by
  refine ⟨cn_set7 (M 0) (M 1) (M 2) (M 3) (M 4) (M 5) (M 6), cn_set7_lt _ _ _ _ _ _ _, fun j hj => ?_⟩
  obtain ⟨h0, h1, h2, h3, h4, h5, h6⟩ := cn_set7_b (M 0) (M 1) (M 2) (M 3) (M 4) (M 5) (M 6)
  have e : j = 0 ∨ j = 1 ∨ j = 2 ∨ j = 3 ∨ j = 4 ∨ j = 5 ∨ j = 6 := by omega
  rcases e with rfl | rfl | rfl | rfl | rfl | rfl | rfl
  · exact h0
  · exact h1
  · exact h2
  · exact h3
  · exact h4
  · exact h5
  · exact h6
end
section
/-- g u v: what u owes v (below 0: v owes u). What a step from u to v can take, and what one of it costs -/
def cn_room (t : Nat → Int) (g : Nat → Nat → Int) (u v : Nat) : Int := if g u v < 0 then - g u v else t (v * 7 + u) - g u v
def cn_cost (g : Nat → Nat → Int) (u v : Nat) : Int := if g u v < 0 then -1 else 1
/-- a state of debts -/
def cn_St (t : Nat → Int) (g : Nat → Nat → Int) : Prop := ∀ u v, u < 7 → v < 7 → g u v = - g v u ∧ g u v ≤ t (v * 7 + u)
def cn_Opt (t : Nat → Int) (g : Nat → Nat → Int) (q : Nat → Int) : Prop := ∀ u v, u < 7 → v < 7 → u ≠ v → 0 < cn_room t g u v → q v - q u ≤ cn_cost g u v
def cn_po (g : Nat → Nat → Int) (u : Nat) : Int := cn_sum (fun v => g v u) 7
def cn_abs (x : Int) : Int := if 0 ≤ x then x else -x
def cn_pp (x : Int) : Int := if 0 < x then x else 0
/-- twice the sum of all debts -/
def cn_ab (g : Nat → Nat → Int) : Int := cn_sum (fun u => cn_sum (fun v => cn_abs (g u v)) 7) 7
/-- the sum of all debts -/
def cn_tot (g : Nat → Nat → Int) : Int := cn_sum (fun u => cn_sum (fun v => cn_pp (g u v)) 7) 7

theorem cn_loc {t1 t2 x y e : Int} (hx1 : x ≤ t1) (hx2 : -t2 ≤ x) (hy1 : y ≤ t1) (hy2 : -t2 ≤ y)
    (h1 : 0 < (if x < 0 then -x else t1 - x) → e ≤ (if x < 0 then -1 else 1))
    (h2 : 0 < (if -x < 0 then x else t2 + x) → -e ≤ (if -x < 0 then -1 else 1)) :
    e * (y - x) ≤ cn_abs y - cn_abs x := by
  unfold cn_abs
  rcases Int.lt_trichotomy (y - x) 0 with h | h | h
  · have k : e * (y - x) = (-e) * (-(y - x)) := (Int.neg_mul_neg _ _).symm
    rw [k]
    by_cases hp : -x < 0
    · rw [if_pos hp, if_pos hp] at h2
      have m := Int.mul_le_mul_of_nonneg_right (h2 (by omega)) (c := -(y - x)) (by omega)
      generalize (-e) * (-(y - x)) = w at *
      split <;> split <;> omega
    · rw [if_neg hp, if_neg hp] at h2
      have m := Int.mul_le_mul_of_nonneg_right (h2 (by omega)) (c := -(y - x)) (by omega)
      generalize (-e) * (-(y - x)) = w at *
      split <;> split <;> omega
  · rw [h, Int.mul_zero]
    split <;> split <;> omega
  · by_cases hp : x < 0
    · rw [if_pos hp, if_pos hp] at h1
      have m := Int.mul_le_mul_of_nonneg_right (h1 (by omega)) (c := y - x) (by omega)
      generalize e * (y - x) = w at *
      split <;> split <;> omega
    · rw [if_neg hp, if_neg hp] at h1
      have m := Int.mul_le_mul_of_nonneg_right (h1 (by omega)) (c := y - x) (by omega)
      generalize e * (y - x) = w at *
      split <;> split <;> omega

theorem cn_least {t q : Nat → Int} {g f : Nat → Nat → Int} (hf : cn_St t f) (hq : cn_Opt t f q) (hg : cn_St t g)
    (hp : ∀ u, u < 7 → cn_po g u = cn_po f u) : cn_ab f ≤ cn_ab g := by
  have loc : ∀ u v, u < 7 → v < 7 → (q v - q u) * (g u v - f u v) ≤ cn_abs (g u v) - cn_abs (f u v) := by
    intro u v hu hv
    by_cases huv : u = v
    · subst huv
      have a := (hg u u hu hu).1
      have b := (hf u u hu hu).1
      have a' : g u u = 0 := by omega
      have b' : f u u = 0 := by omega
      rw [a', b', Int.sub_self, Int.sub_self]
      decide
    · have h1 := hq u v hu hv huv
      have h2 := hq v u hv hu (fun z => huv z.symm)
      have gy := hg u v hu hv
      have gz := hg v u hv hu
      have fy := hf u v hu hv
      have fz := hf v u hv hu
      unfold cn_room cn_cost at h1 h2
      have ev : f v u = - f u v := fz.1
      rw [ev, Int.neg_neg, Int.sub_neg] at h2
      exact cn_loc (t1 := t (v * 7 + u)) (t2 := t (u * 7 + v)) fy.2 (by omega) gy.2 (by omega) h1 (fun z => by have := h2 z; omega)
  have col : ∀ v, v < 7 → cn_sum (fun u => g u v - f u v) 7 = 0 := by
    intro v hv
    rw [cn_sum_sub]
    have := hp v hv
    unfold cn_po at this
    omega
  have row : ∀ u, u < 7 → cn_sum (fun v => g u v - f u v) 7 = 0 := by
    intro u hu
    have e : cn_sum (fun v => g u v - f u v) 7 = cn_sum (fun v => - (g v u - f v u)) 7 := by
      refine cn_sum_congr (fun v hv => ?_)
      have a := (hg u v hu hv).1
      have b := (hf u v hu hv).1
      omega
    rw [e, cn_sum_neg, col u hu]
    rfl
  have z1 : cn_sum (fun u => cn_sum (fun v => q v * (g u v - f u v)) 7) 7 = 0 := by
    rw [cn_sum_swap, ← cn_sum_0 7]
    refine cn_sum_congr (fun v hv => ?_)
    rw [cn_sum_mul, col v hv, Int.mul_zero]
  have z2 : cn_sum (fun u => cn_sum (fun v => q u * (g u v - f u v)) 7) 7 = 0 := by
    rw [← cn_sum_0 7]
    refine cn_sum_congr (fun u hu => ?_)
    rw [cn_sum_mul, row u hu, Int.mul_zero]
  have z : cn_sum (fun u => cn_sum (fun v => (q v - q u) * (g u v - f u v)) 7) 7 = 0 := by
    have e : cn_sum (fun u => cn_sum (fun v => (q v - q u) * (g u v - f u v)) 7) 7
        = cn_sum (fun u => cn_sum (fun v => q v * (g u v - f u v)) 7 - cn_sum (fun v => q u * (g u v - f u v)) 7) 7 := by
      refine cn_sum_congr (fun u _ => ?_)
      rw [← cn_sum_sub]
      exact cn_sum_congr (fun v _ => Int.sub_mul _ _ _)
    rw [e, cn_sum_sub, z1, z2]
    rfl
  have w : cn_sum (fun u => cn_sum (fun v => (q v - q u) * (g u v - f u v)) 7) 7
      ≤ cn_sum (fun u => cn_sum (fun v => cn_abs (g u v)) 7 - cn_sum (fun v => cn_abs (f u v)) 7) 7 := by
    refine cn_sum_le (fun u hu => ?_)
    rw [← cn_sum_sub]
    exact cn_sum_le (fun v hv => loc u v hu hv)
  rw [z, cn_sum_sub] at w
  unfold cn_ab
  omega

/-- the 49 places as seven rows of seven -/
theorem cn_sum49 (o : Nat → Int) : cn_sum o 49 = cn_sum (fun u => cn_sum (fun v => o (u * 7 + v)) 7) 7 := by
  have h : ∀ n, cn_sum o (n * 7) = cn_sum (fun u => cn_sum (fun v => o (u * 7 + v)) 7) n := by
    intro n
    induction n with
    | zero => rfl
    | succ n ih => rw [Nat.succ_mul, cn_sum_split, ih]; rfl
  exact h 7

theorem cn_ab_tot {t : Nat → Int} {g : Nat → Nat → Int} (hg : cn_St t g) : cn_ab g = 2 * cn_tot g := by
  have e : cn_ab g = cn_sum (fun u => cn_sum (fun v => cn_pp (g u v)) 7 + cn_sum (fun v => cn_pp (g v u)) 7) 7 := by
    unfold cn_ab
    refine cn_sum_congr (fun u hu => ?_)
    rw [← cn_sum_add]
    refine cn_sum_congr (fun v hv => ?_)
    have a := (hg u v hu hv).1
    unfold cn_abs cn_pp
    split <;> split <;> split <;> omega
  rw [e, cn_sum_add, cn_sum_swap (fun u v => cn_pp (g v u))]
  unfold cn_tot
  omega

theorem cn_anti {f : Nat → Nat → Int} {n : Nat} (h : ∀ u v, u < n → v < n → f u v = - f v u) : cn_sum (fun u => cn_sum (fun v => f u v) n) n = 0 := by
  have a := cn_sum_swap f n n
  have b : cn_sum (fun j => cn_sum (fun i => f i j) n) n = - cn_sum (fun u => cn_sum (fun v => f u v) n) n := by
    rw [← cn_sum_neg]
    refine cn_sum_congr (fun j hj => ?_)
    rw [← cn_sum_neg]
    exact cn_sum_congr (fun i hi => h i j hi hj)
  omega

theorem cn_po_sum {t : Nat → Int} {g : Nat → Nat → Int} (hg : cn_St t g) : cn_sum (cn_po g) 7 = 0 :=
  cn_anti (f := fun w v => g v w) (n := 7) (fun u v hu hv => (hg v u hv hu).1)

/-- u owes v so much more -/
def cn_add (g : Nat → Nat → Int) (u v : Nat) (a : Int) : Nat → Nat → Int :=
  fun x y => if x = u ∧ y = v then g u v + a else if x = v ∧ y = u then g v u - a else g x y

theorem cn_add_1 {g : Nat → Nat → Int} {u v : Nat} {a : Int} : cn_add g u v a u v = g u v + a := if_pos ⟨rfl, rfl⟩
theorem cn_add_2 {g : Nat → Nat → Int} {u v : Nat} {a : Int} (h : u ≠ v) : cn_add g u v a v u = g v u - a := by
  unfold cn_add
  rw [if_neg (fun z => h z.2), if_pos ⟨rfl, rfl⟩]
theorem cn_add_3 {g : Nat → Nat → Int} {u v x y : Nat} {a : Int} (h : ¬ (x = u ∧ y = v)) (h' : ¬ (x = v ∧ y = u)) : cn_add g u v a x y = g x y := by
  unfold cn_add
  rw [if_neg h, if_neg h']

theorem cn_add_St {t : Nat → Int} {g : Nat → Nat → Int} {u v : Nat} {a : Int} (hg : cn_St t g) (hu : u < 7) (hv : v < 7) (huv : u ≠ v) (ha : 0 ≤ a) (hr : a ≤ cn_room t g u v)
    (ht : ∀ u v, u < 7 → v < 7 → 0 ≤ t (u * 7 + v)) : cn_St t (cn_add g u v a) := by
  have A := hg u v hu hv
  have B := hg v u hv hu
  have T1 := ht u v hu hv
  have T2 := ht v u hv hu
  unfold cn_room at hr
  have r1 : g u v + a ≤ t (v * 7 + u) := by split at hr <;> omega
  intro x y hx hy
  by_cases e : x = u ∧ y = v
  · obtain ⟨rfl, rfl⟩ := e
    rw [cn_add_1, cn_add_2 huv]
    exact ⟨by omega, r1⟩
  · by_cases e' : x = v ∧ y = u
    · obtain ⟨rfl, rfl⟩ := e'
      rw [cn_add_1, cn_add_2 huv]
      exact ⟨by omega, by omega⟩
    · rw [cn_add_3 e e', cn_add_3 (fun z => e' ⟨z.2, z.1⟩) (fun z => e ⟨z.2, z.1⟩)]
      exact hg x y hx hy

theorem cn_add_Opt {t q : Nat → Int} {g : Nat → Nat → Int} {u v : Nat} {a : Int} (hg : cn_St t g) (hq : cn_Opt t g q) (hu : u < 7) (hv : v < 7) (huv : u ≠ v) (ha : 0 ≤ a) (hr : a ≤ cn_room t g u v)
    (ht : q v - q u = cn_cost g u v) : cn_Opt t (cn_add g u v a) q := by
  have A := hg u v hu hv
  have B := hg v u hv hu
  have pair : (0 < cn_room t (cn_add g u v a) u v → q v - q u ≤ cn_cost (cn_add g u v a) u v) ∧ (q u - q v ≤ cn_cost (cn_add g u v a) v u) := by
    unfold cn_cost at ht ⊢
    unfold cn_room at hr
    rw [cn_add_1, cn_add_2 huv]
    refine ⟨fun _ => ?_, ?_⟩
    · split at hr <;> split at ht <;> split <;> omega
    · split at hr <;> split at ht <;> split <;> omega
  intro x y hx hy hxy hp
  by_cases e : x = u ∧ y = v
  · obtain ⟨rfl, rfl⟩ := e
    exact pair.1 hp
  · by_cases e' : x = v ∧ y = u
    · obtain ⟨rfl, rfl⟩ := e'
      exact pair.2
    · unfold cn_room at hp
      unfold cn_cost
      rw [cn_add_3 e e'] at hp ⊢
      exact hq x y hx hy hxy hp

theorem cn_add_po {g : Nat → Nat → Int} {u v w : Nat} {a : Int} (hu : u < 7) (hv : v < 7) (huv : u ≠ v) :
    cn_po (cn_add g u v a) w = cn_po g w + (if w = v then a else 0) - (if w = u then a else 0) := by
  unfold cn_po
  by_cases e : w = v
  · subst e
    rw [if_pos rfl, if_neg (fun z => huv z.symm)]
    have k : cn_sum (fun x => cn_add g u w a x w) 7 = cn_sum (cn_up (fun x => g x w) u (g u w + a)) 7 := by
      refine cn_sum_congr (fun x hx => ?_)
      by_cases f : x = u
      · subst f
        rw [cn_up_s]
        exact cn_add_1
      · rw [cn_up_n f]
        exact cn_add_3 (fun z => f z.1) (fun z => huv z.2.symm)
    rw [k, cn_sum_up _ _ hu]
    omega
  · rw [if_neg e]
    by_cases e' : w = u
    · subst e'
      rw [if_pos rfl]
      have k : cn_sum (fun x => cn_add g w v a x w) 7 = cn_sum (cn_up (fun x => g x w) v (g v w - a)) 7 := by
        refine cn_sum_congr (fun x hx => ?_)
        by_cases f : x = v
        · subst f
          rw [cn_up_s]
          exact cn_add_2 huv
        · rw [cn_up_n f]
          exact cn_add_3 (fun z => e z.2) (fun z => f z.1)
      rw [k, cn_sum_up _ _ hv]
      omega
    · rw [if_neg e']
      have k : cn_sum (fun x => cn_add g u v a x w) 7 = cn_sum (fun x => g x w) 7 :=
        cn_sum_congr (fun x hx => cn_add_3 (fun z => e z.2) (fun z => e' z.2))
      rw [k]
      omega
end
section
/-- the search for shortest ways from the members S: labels d (U: not reached), p the member before; R the steps that can be made, c their costs, q a potential that is b on S -/
def cn_Ws (R : Nat → Nat → Prop) (c : Nat → Nat → Int) (q : Nat → Int) (b : Int) (S : Nat → Prop) (U B : Int) (d : Nat → Int) (p : Nat → Nat) : Prop :=
  (∀ s, s < 7 → S s → d s = 0 ∧ p s = s) ∧
  (∀ v, v < 7 → d v = U ∨ (-B ≤ d v ∧ d v ≤ B)) ∧
  (∀ v, v < 7 → d v ≠ U → q v - b ≤ d v) ∧
  (∀ v, v < 7 → ¬ S v → d v ≠ U → p v < 7 ∧ d (p v) ≠ U ∧ R (p v) v ∧ d (p v) + c (p v) v ≤ d v) ∧
  (∃ r : Nat → Nat, ∀ v, v < 7 → ¬ S v → d v ≠ U → r (p v) < r v)

/-- the potential is right for every step -/
def cn_Pt (R : Nat → Nat → Prop) (c : Nat → Nat → Int) (q : Nat → Int) : Prop := ∀ u v, u < 7 → v < 7 → R u v → q v - q u ≤ c u v

def cn_it (p : Nat → Nat) : Nat → Nat → Nat
  | 0, v => v
  | n + 1, v => cn_it p n (p v)
theorem cn_it_0 (p : Nat → Nat) (v : Nat) : cn_it p 0 v = v := rfl
theorem cn_it_s (p : Nat → Nat) (n v : Nat) : cn_it p (n + 1) v = cn_it p n (p v) := rfl
theorem cn_it_fix {p : Nat → Nat} {s : Nat} (h : p s = s) : ∀ n, cn_it p n s = s := by
  intro n
  induction n with
  | zero => rfl
  | succ n ih => rw [cn_it_s, h, ih]
theorem cn_it_r (p : Nat → Nat) (n v : Nat) : cn_it p (n + 1) v = p (cn_it p n v) := by
  induction n generalizing v with
  | zero => rfl
  | succ n ih => rw [cn_it_s, ih, ← cn_it_s]

section
variable {R : Nat → Nat → Prop} {c : Nat → Nat → Int} {q : Nat → Int} {b : Int} {S : Nat → Prop} {U B : Int} {d : Nat → Int} {p : Nat → Nat}

theorem cn_Ws_up (h : cn_Ws R c q b S U B d p) {B' : Int} (hB : B ≤ B') : cn_Ws R c q b S U B' d p := by
  obtain ⟨h1, h2, h3⟩ := h
  refine ⟨h1, fun v hv => ?_, h3⟩
  rcases h2 v hv with a | a
  · exact Or.inl a
  · exact Or.inr ⟨by omega, by omega⟩

/-- up the tree, label less potential doesn't rise -/
theorem cn_anc (hR : cn_Pt R c q) (h : cn_Ws R c q b S U B d p) {v : Nat} (hv : ¬ S v) :
    ∀ n w, w < 7 → d w ≠ U → cn_it p n w = v → d v ≠ U ∧ d v - q v ≤ d w - q w := by
  obtain ⟨h1, h2, h3, h4, h5⟩ := h
  intro n
  induction n with
  | zero =>
    intro w hw hd e
    rw [cn_it_0] at e
    subst e
    exact ⟨hd, Int.le_refl _⟩
  | succ n ih =>
    intro w hw hd e
    by_cases hws : S w
    · rw [cn_it_fix (h1 w hw hws).2] at e
      subst e
      exact absurd hws hv
    · obtain ⟨a, b, e1, e2⟩ := h4 w hw hws hd
      rw [cn_it_s] at e
      obtain ⟨x, y⟩ := ih (p w) a b e
      have z := hR (p w) w a hw e1
      exact ⟨x, by omega⟩

/-- a step that makes a label less -/
theorem cn_relax (hR : cn_Pt R c q) (hS : ∀ s, s < 7 → S s → q s = b) (h : cn_Ws R c q b S U B d p) {u v : Nat} (hu : u < 7) (hv : v < 7)
    (hdu : d u ≠ U) (ha : R u v) (hl : d u + c u v < d v) (hc : -1 ≤ c u v ∧ c u v ≤ 1) (hB' : B + 1 < U) :
    ¬ S v ∧ u ≠ v ∧ cn_Ws R c q b S U (B + 1) (cn_up d v (d u + c u v)) (cn_un p v u) := by
  have W := h
  obtain ⟨h1, h2, h3, h4, r, h5⟩ := h
  have z := hR u v hu hv ha
  have l := h3 u hu hdu
  have vs : ¬ S v := by
    intro e
    have x := (h1 v hv e).1
    have y := hS v hv e
    omega
  have uv : u ≠ v := by
    intro e
    subst e
    omega
  have ub : -B ≤ d u ∧ d u ≤ B := by
    rcases h2 u hu with a | a
    · exact absurd a hdu
    · exact a
  have nd : ∀ n, cn_it p n u ≠ v := by
    intro n e
    obtain ⟨x, y⟩ := cn_anc hR W vs n u hu hdu e
    omega
  have nw : d u + c u v ≠ U := by omega
  refine ⟨vs, uv, ?_, ?_, ?_, ?_, ?_⟩
  · intro s hs he
    have sv : s ≠ v := fun e => vs (e ▸ he)
    rw [cn_up_n sv, cn_un_n sv]
    exact h1 s hs he
  · intro w hw
    by_cases e : w = v
    · subst e
      rw [cn_up_s]
      exact Or.inr ⟨by omega, by omega⟩
    · rw [cn_up_n e]
      rcases h2 w hw with a | a
      · exact Or.inl a
      · exact Or.inr ⟨by omega, by omega⟩
  · intro w hw hd
    by_cases e : w = v
    · subst e
      rw [cn_up_s]
      omega
    · rw [cn_up_n e] at hd ⊢
      exact h3 w hw hd
  · intro w hw hws hd
    by_cases e : w = v
    · subst e
      rw [cn_un_s, cn_up_n uv, cn_up_s]
      exact ⟨hu, hdu, ha, Int.le_refl _⟩
    · rw [cn_up_n e] at hd
      rw [cn_un_n e, cn_up_n e]
      obtain ⟨a, b, e1, e2⟩ := h4 w hw hws hd
      by_cases f : p w = v
      · rw [f] at e1 e2 a ⊢
        rw [cn_up_s]
        exact ⟨a, nw, e1, by omega⟩
      · rw [cn_up_n f]
        exact ⟨a, b, e1, e2⟩
  · classical
    refine ⟨fun w => if ∃ n, cn_it p n w = v then r w + (r u + 1) else r w, ?_⟩
    intro w hw hws hd
    by_cases e : w = v
    · subst e
      rw [cn_un_s]
      have a : ¬ ∃ n, cn_it p n u = w := fun ⟨n, hn⟩ => nd n hn
      have b : ∃ n, cn_it p n w = w := ⟨0, rfl⟩
      show (if ∃ n, cn_it p n u = w then r u + (r u + 1) else r u) < (if ∃ n, cn_it p n w = w then r w + (r u + 1) else r w)
      rw [if_neg a, if_pos b]
      omega
    · rw [cn_up_n e] at hd
      rw [cn_un_n e]
      have k := h5 w hw hws hd
      show (if ∃ n, cn_it p n (p w) = v then r (p w) + (r u + 1) else r (p w)) < (if ∃ n, cn_it p n w = v then r w + (r u + 1) else r w)
      by_cases f : ∃ n, cn_it p n w = v
      · have g : ∃ n, cn_it p n (p w) = v := by
          obtain ⟨n, hn⟩ := f
          cases n with
          | zero => exact absurd hn e
          | succ n => exact ⟨n, hn⟩
        rw [if_pos f, if_pos g]
        omega
      · have g : ¬ ∃ n, cn_it p n (p w) = v := fun ⟨n, hn⟩ => f ⟨n + 1, hn⟩
        rw [if_neg f, if_neg g]
        exact k

/-- six rounds over all steps: no label can be made less any more -/
theorem cn_done {H : Nat → Nat → Int} {K : Nat} (hK : 6 ≤ K) (hR : cn_Pt R c q) (hS : ∀ s, s < 7 → S s → q s = b) (hc : ∀ u v, -1 ≤ c u v ∧ c u v ≤ 1) (hB : B < U)
    (h : cn_Ws R c q b S U B (H K) p) (h0 : ∀ s, s < 7 → S s → H 0 s ≤ 0)
    (hm : ∀ k v, k < K → v < 7 → H (k + 1) v ≤ H k v)
    (hst : ∀ k u v, k < K → u < 7 → v < 7 → H k u < U → R u v → H (k + 1) v ≤ H k u + c u v) :
    ∀ u v, u < 7 → v < 7 → H K u ≠ U → R u v → H K v ≤ H K u + c u v := by
  have W := h
  obtain ⟨h1, h2, h3, h4, r, h5⟩ := h
  intro u v hu hv hd ha
  have mono : ∀ v, v < 7 → ∀ i j, i + j ≤ K → H (i + j) v ≤ H i v := by
    intro v hv i j
    induction j with
    | zero => intro _; exact Int.le_refl _
    | succ j jh =>
      intro hj
      have x := jh (by omega)
      have y := hm (i + j) v (by omega) hv
      rw [Nat.add_assoc] at y
      omega
  by_cases vs : S v
  · have x := h3 u hu hd
    have y := hR u v hu hv ha
    have z := hS v hv vs
    have w := (h1 v hv vs).1
    omega
  by_cases an : ∃ n, cn_it p n u = v
  · obtain ⟨n, hn⟩ := an
    obtain ⟨x, y⟩ := cn_anc hR W vs n u hu hd hn
    have b := hR u v hu hv ha
    omega
  have nd : ∀ n, cn_it p n u ≠ v := fun n hn => an ⟨n, hn⟩
  have bnd : ∀ w, w < 7 → H K w ≠ U → H K w < U := by
    intro w hw e
    rcases h2 w hw with a | a
    · exact absurd a e
    · omega
  -- below the top of the tree the labels come early
  have key : ∀ n, n ≤ 6 → ∀ w, w < 7 → H K w ≠ U → (∀ m, cn_it p m w ≠ v) → cn_cnt (fun x => decide (r x < r w) && decide (x ≠ v)) 7 ≤ n → H n w ≤ H K w := by
    intro n
    induction n with
    | zero =>
      intro _ w hw hdw hnd hcw
      by_cases ws : S w
      · have x := h0 w hw ws
        have y := (h1 w hw ws).1
        omega
      · obtain ⟨a, b, e1, e2⟩ := h4 w hw ws hdw
        have k := h5 w hw ws hdw
        have nv : p w ≠ v := hnd 1
        have f := cn_cnt_lt (P := fun _ => false) (Q := fun x => decide (r x < r w) && decide (x ≠ v)) (w := p w) (n := 7) (fun i _ z => by simp at z) a rfl (by simp [k, nv])
        omega
    | succ n ih =>
      intro hn w hw hdw hnd hcw
      by_cases ws : S w
      · have x := h0 w hw ws
        have y := (h1 w hw ws).1
        have z := mono w hw 0 (n + 1) (by omega)
        rw [Nat.zero_add] at z
        omega
      · obtain ⟨a, b, e1, e2⟩ := h4 w hw ws hdw
        have k := h5 w hw ws hdw
        have nv : p w ≠ v := hnd 1
        have f := cn_cnt_lt (P := fun x => decide (r x < r (p w)) && decide (x ≠ v)) (Q := fun x => decide (r x < r w) && decide (x ≠ v)) (w := p w) (n := 7)
          (fun i _ z => by simp at z ⊢; exact ⟨by omega, z.2⟩) a (by simp) (by simp [k, nv])
        have g := ih (by omega) (p w) a b (fun m => hnd (m + 1)) (by omega)
        have bw := bnd (p w) a b
        have x := hst n (p w) w (by omega) a hw (by omega) e1
        omega
  have uv : u ≠ v := nd 0
  have five := cn_cnt_2 (P := fun x => decide (r x < r u) && decide (x ≠ v)) (u := u) (v := v) (n := 7) hu hv uv (by simp) (by simp)
  have e := key 5 (by omega) u hu hd nd (by omega)
  have bu := bnd u hu hd
  have x := hst 5 u v (by omega) hu hv (by omega) ha
  have y := mono v hv 6 (K - 6) (by omega)
  rw [show 6 + (K - 6) = K by omega] at y
  have x' : H 6 v ≤ H 5 u + c u v := x
  omega
end

section
variable {R : Nat → Nat → Prop} {c : Nat → Nat → Int} {q : Nat → Int} {b : Int} {S : Nat → Prop} {U B : Int} {p : Nat → Nat}

/-- within a round over all steps, begun with the labels d0: those below place m are done -/
def cn_Pa (R : Nat → Nat → Prop) (c : Nat → Nat → Int) (q : Nat → Int) (b : Int) (S : Nat → Prop) (U B : Int) (d0 : Nat → Int) (m : Nat) (d : Nat → Int) (p : Nat → Nat) : Prop :=
  cn_Ws R c q b S U (B + m) d p ∧ (∀ w, w < 7 → d w ≤ d0 w) ∧ ∀ u v, u < 7 → v < 7 → u * 7 + v < m → d0 u < U → R u v → d v ≤ d0 u + c u v

theorem cn_Pa_0 {d : Nat → Int} (h : cn_Ws R c q b S U B d p) : cn_Pa R c q b S U B d 0 d p :=
  ⟨cn_Ws_up h (by omega), fun _ _ => Int.le_refl _, fun u v _ _ hu => by omega⟩

theorem cn_Pa_no {d0 d : Nat → Int} {u v : Nat} (hu : u < 7) (hv : v < 7) (h : cn_Pa R c q b S U B d0 (u * 7 + v) d p) (hn : d u < U → R u v → ¬ d u + c u v < d v) :
    cn_Pa R c q b S U B d0 (u * 7 + (v + 1)) d p := by
  obtain ⟨a, e, f⟩ := h
  refine ⟨cn_Ws_up a (by omega), e, fun x y hx hy hm hd ha => ?_⟩
  by_cases z : x * 7 + y < u * 7 + v
  · exact f x y hx hy z hd ha
  · have e1 : x = u := by omega
    have e2 : y = v := by omega
    subst e1 e2
    have k := e x hx
    have w := hn (by omega) ha
    omega

theorem cn_Pa_row {d0 d : Nat → Int} {u : Nat} (hu : u < 7) (h : cn_Pa R c q b S U B d0 (u * 7) d p) (hn : d u = U) : cn_Pa R c q b S U B d0 ((u + 1) * 7) d p := by
  have key : ∀ j, j ≤ 7 → cn_Pa R c q b S U B d0 (u * 7 + j) d p := by
    intro j
    induction j with
    | zero => intro _; exact h
    | succ j ih => intro hj; exact cn_Pa_no hu (by omega) (ih (by omega)) (fun z => by omega)
  have k := key 7 (by omega)
  rw [Nat.succ_mul]
  exact k

theorem cn_Pa_yes {d0 d : Nat → Int} {u v : Nat} (hR : cn_Pt R c q) (hS : ∀ s, s < 7 → S s → q s = b) (hc : ∀ u v, -1 ≤ c u v ∧ c u v ≤ 1) (hB : B + 100 < U)
    (hu : u < 7) (hv : v < 7) (h : cn_Pa R c q b S U B d0 (u * 7 + v) d p) (hdu : d u ≠ U) (ha : R u v) (hl : d u + c u v < d v) :
    cn_Pa R c q b S U B d0 (u * 7 + (v + 1)) (cn_up d v (d u + c u v)) (cn_un p v u) := by
  obtain ⟨a, e, f⟩ := h
  obtain ⟨vs, uv, W⟩ := cn_relax hR hS a hu hv hdu ha hl (hc u v) (by omega)
  refine ⟨cn_Ws_up W (by omega), fun w hw => ?_, fun x y hx hy hm hd ha' => ?_⟩
  · have k := e w hw
    by_cases x : w = v
    · subst x
      rw [cn_up_s]
      omega
    · rw [cn_up_n x]
      exact k
  · have k := e x hx
    by_cases z : x * 7 + y < u * 7 + v
    · have l := f x y hx hy z hd ha'
      by_cases yv : y = v
      · subst yv
        rw [cn_up_s]
        omega
      · rw [cn_up_n yv]
        exact l
    · have e1 : x = u := by omega
      have e2 : y = v := by omega
      subst e1 e2
      rw [cn_up_s]
      omega

/-- between the rounds: k of them are done -/
def cn_Ro (R : Nat → Nat → Prop) (c : Nat → Nat → Int) (q : Nat → Int) (b : Int) (S : Nat → Prop) (U : Int) (k : Nat) (d : Nat → Int) (p : Nat → Nat) : Prop :=
  cn_Ws R c q b S U (49 * k) d p ∧ ∃ H : Nat → Nat → Int, H k = d ∧ (∀ s, s < 7 → S s → H 0 s ≤ 0) ∧ (∀ j v, j < k → v < 7 → H (j + 1) v ≤ H j v) ∧
    (∀ j u v, j < k → u < 7 → v < 7 → H j u < U → R u v → H (j + 1) v ≤ H j u + c u v)

theorem cn_Ro_0 {d : Nat → Int} (h : cn_Ws R c q b S U 0 d p) : cn_Ro R c q b S U 0 d p :=
  ⟨cn_Ws_up h (by omega), fun _ => d, rfl, fun s hs he => Int.le_of_eq (h.1 s hs he).1, fun j v hj => by omega, fun j u v hj => by omega⟩

theorem cn_Ro_s {k : Nat} {d d' : Nat → Int} {p' : Nat → Nat} (h : cn_Ro R c q b S U k d p) (h' : cn_Pa R c q b S U (49 * k) d 49 d' p') : cn_Ro R c q b S U (k + 1) d' p' := by
  obtain ⟨a, H, e, z, m, st⟩ := h
  obtain ⟨a', b', f'⟩ := h'
  refine ⟨cn_Ws_up a' (by omega), fun j => if j = k + 1 then d' else H j, if_pos rfl, ?_, ?_, ?_⟩
  · intro s hs he
    show (if 0 = k + 1 then d' else H 0) s ≤ 0
    rw [if_neg (by omega)]
    exact z s hs he
  · intro j v hj hv
    show (if j + 1 = k + 1 then d' else H (j + 1)) v ≤ (if j = k + 1 then d' else H j) v
    by_cases x : j = k
    · subst x
      rw [if_pos rfl, if_neg (by omega), e]
      exact b' v hv
    · rw [if_neg (by omega), if_neg (by omega)]
      exact m j v (by omega) hv
  · intro j u v hj hu hv hd ha
    have hd' : (if j = k + 1 then d' else H j) u < U := hd
    show (if j + 1 = k + 1 then d' else H (j + 1)) v ≤ (if j = k + 1 then d' else H j) u + c u v
    by_cases x : j = k
    · subst x
      rw [if_neg (by omega), e] at hd'
      rw [if_pos rfl, if_neg (by omega), e]
      exact f' u v hu hv (by omega) hd' ha
    · rw [if_neg (by omega)] at hd'
      rw [if_neg (by omega), if_neg (by omega)]
      exact st j u v (by omega) hu hv hd' ha

/-- the search has ended: labels that no step makes less -/
theorem cn_Ro_e {d : Nat → Int} {K : Nat} (hK : 6 ≤ K) (hU : 49 * (K : Int) < U) (hR : cn_Pt R c q) (hS : ∀ s, s < 7 → S s → q s = b) (hc : ∀ u v, -1 ≤ c u v ∧ c u v ≤ 1) (h : cn_Ro R c q b S U K d p) :
    cn_Ws R c q b S U (49 * K) d p ∧ ∀ u v, u < 7 → v < 7 → d u ≠ U → R u v → d v ≤ d u + c u v := by
  obtain ⟨a, H, e, z, m, st⟩ := h
  subst e
  exact ⟨a, cn_done hK hR hS hc hU a z m st⟩

theorem cn_bound (q : Nat → Int) (n : Nat) : ∃ K : Int, ∀ v, v < n → - q v ≤ K := by
  induction n with
  | zero => exact ⟨0, fun v hv => by omega⟩
  | succ n ih =>
    obtain ⟨K, h⟩ := ih
    by_cases e : - q n ≤ K
    · refine ⟨K, fun v hv => ?_⟩
      by_cases x : v = n
      · subst x; exact e
      · exact h v (by omega)
    · refine ⟨- q n, fun v hv => ?_⟩
      by_cases x : v = n
      · subst x; exact Int.le_refl _
      · have := h v (by omega)
        omega

/-- the labels are a potential; where they don't reach, the old one, far up -/
theorem cn_newpot {d : Nat → Int} (hU : B + 1 < U) (hR : cn_Pt R c q) (hc : ∀ u v, -1 ≤ c u v ∧ c u v ≤ 1)
    (h : cn_Ws R c q b S U B d p) (hd : ∀ u v, u < 7 → v < 7 → d u ≠ U → R u v → d v ≤ d u + c u v) :
    ∃ q' : Nat → Int, cn_Pt R c q' ∧ ∀ v, v < 7 → d v ≠ U → q' v = d v := by
  obtain ⟨h1, h2, h3⟩ := h
  obtain ⟨K, hK⟩ := cn_bound q 7
  refine ⟨fun v => if d v = U then q v + K + (B + 1) else d v, ?_, fun v hv e => if_neg e⟩
  intro u v hu hv ha
  have k := hK u hu
  have w := hc u v
  show (if d v = U then q v + K + (B + 1) else d v) - (if d u = U then q u + K + (B + 1) else d u) ≤ c u v
  by_cases eu : d u = U
  · rw [if_pos eu]
    by_cases ev : d v = U
    · rw [if_pos ev]
      have := hR u v hu hv ha
      omega
    · rw [if_neg ev]
      rcases h2 v hv with x | x
      · exact absurd x ev
      · omega
  · rw [if_neg eu]
    have w := hd u v hu hv eu ha
    have ub : d u ≤ B := by
      rcases h2 u hu with x | x
      · exact absurd x eu
      · exact x.2
    have ev : d v ≠ U := by omega
    rw [if_neg ev]
    omega

/-- the way back from a member that was reached -/
theorem cn_chain {d : Nat → Int} (h : cn_Ws R c q b S U B d p) {z : Nat} (hz : z < 7) (hd : d z ≠ U) :
    ∃ L, L ≤ 6 ∧ S (cn_it p L z) ∧ (∀ i, i ≤ L → cn_it p i z < 7 ∧ d (cn_it p i z) ≠ U) ∧ (∀ i, i < L → ¬ S (cn_it p i z)) ∧ (∀ i j, i < j → j ≤ L → cn_it p i z ≠ cn_it p j z) := by
  obtain ⟨h1, h2, h3, h4, r, h5⟩ := h
  have key : ∀ n w, w < 7 → d w ≠ U → cn_cnt (fun x => decide (r x < r w)) 7 ≤ n →
      ∃ L, L ≤ n ∧ S (cn_it p L w) ∧ (∀ i, i ≤ L → cn_it p i w < 7 ∧ d (cn_it p i w) ≠ U) ∧ (∀ i, i < L → ¬ S (cn_it p i w)) ∧ (∀ i j, i < j → j ≤ L → r (cn_it p j w) < r (cn_it p i w)) := by
    intro n
    induction n with
    | zero =>
      intro w hw hdw hc
      by_cases ws : S w
      · refine ⟨0, Nat.le_refl _, ws, fun i hi => ?_, fun i hi => by omega, fun i j a b => by omega⟩
        have : i = 0 := by omega
        subst this
        exact ⟨hw, hdw⟩
      · obtain ⟨a, b, e1, e2⟩ := h4 w hw ws hdw
        have k := h5 w hw ws hdw
        have f := cn_cnt_lt (P := fun _ => false) (Q := fun x => decide (r x < r w)) (w := p w) (n := 7) (fun i _ y => by simp at y) a rfl (by simp [k])
        omega
    | succ n ih =>
      intro w hw hdw hc
      by_cases ws : S w
      · refine ⟨0, by omega, ws, fun i hi => ?_, fun i hi => by omega, fun i j a b => by omega⟩
        have : i = 0 := by omega
        subst this
        exact ⟨hw, hdw⟩
      · obtain ⟨a, b, e1, e2⟩ := h4 w hw ws hdw
        have k := h5 w hw ws hdw
        have f := cn_cnt_lt (P := fun x => decide (r x < r (p w))) (Q := fun x => decide (r x < r w)) (w := p w) (n := 7)
          (fun i _ y => by simp at y ⊢; omega) a (by simp) (by simp [k])
        obtain ⟨L, l1, l2, l3, l4, l5⟩ := ih (p w) a b (by omega)
        refine ⟨L + 1, by omega, l2, fun i hi => ?_, fun i hi => ?_, fun i j x y => ?_⟩
        · cases i with
          | zero => exact ⟨hw, hdw⟩
          | succ i => exact l3 i (by omega)
        · cases i with
          | zero => exact ws
          | succ i => exact l4 i (by omega)
        · cases j with
          | zero => omega
          | succ j =>
            cases i with
            | zero =>
              show r (cn_it p j (p w)) < r w
              cases j with
              | zero => exact k
              | succ j =>
                have m := l5 0 (j + 1) (by omega) (by omega)
                rw [cn_it_0] at m
                omega
            | succ i => exact l5 i j (by omega) (by omega)
  have six := cn_cnt_1 (P := fun x => decide (r x < r z)) (u := z) (n := 7) hz (by simp)
  obtain ⟨L, l1, l2, l3, l4, l5⟩ := key 6 z hz hd (by omega)
  exact ⟨L, l1, l2, l3, l4, fun i j a b e => by have := l5 i j a b; rw [e] at this; omega⟩
end
end
section
/-- the steps that can be made -/
def cn_R (t : Nat → Int) (g : Nat → Nat → Int) (u v : Nat) : Prop := u ≠ v ∧ 0 < cn_room t g u v
theorem cn_Opt_Pt {t q : Nat → Int} {g : Nat → Nat → Int} (h : cn_Opt t g q) : cn_Pt (cn_R t g) (cn_cost g) q := fun u v hu hv ha => h u v hu hv ha.1 ha.2
theorem cn_Pt_Opt {t q : Nat → Int} {g : Nat → Nat → Int} (h : cn_Pt (cn_R t g) (cn_cost g) q) : cn_Opt t g q := fun u v hu hv a b => h u v hu hv ⟨a, b⟩
theorem cn_cost_b (g : Nat → Nat → Int) (u v : Nat) : -1 ≤ cn_cost g u v ∧ cn_cost g u v ≤ 1 := by
  unfold cn_cost
  split <;> omega

/-- a way from a member of S to z, back by p, of L steps, all tight for q -/
def cn_Wy (t : Nat → Int) (g : Nat → Nat → Int) (S : Nat → Prop) (q : Nat → Int) (p : Nat → Nat) (z L : Nat) : Prop :=
  L ≤ 6 ∧ S (cn_it p L z) ∧ (∀ i, i ≤ L → cn_it p i z < 7) ∧ (∀ i, i < L → ¬ S (cn_it p i z)) ∧ (∀ i j, i < j → j ≤ L → cn_it p i z ≠ cn_it p j z) ∧
  (∀ i, i < L → 0 < cn_room t g (cn_it p (i + 1) z) (cn_it p i z) ∧ q (cn_it p i z) - q (cn_it p (i + 1) z) = cn_cost g (cn_it p (i + 1) z) (cn_it p i z))

theorem cn_way {t q d : Nat → Int} {g : Nat → Nat → Int} {S : Nat → Prop} {p : Nat → Nat} {b U B : Int} {z : Nat} (hU : B + 1 < U) (hU0 : 0 < U) (hq : cn_Opt t g q)
    (h : cn_Ws (cn_R t g) (cn_cost g) q b S U B d p) (hd : ∀ u v, u < 7 → v < 7 → d u ≠ U → cn_R t g u v → d v ≤ d u + cn_cost g u v) (hz : z < 7) (hdz : d z ≠ U) :
    ∃ q' L, cn_Opt t g q' ∧ (∀ s, s < 7 → S s → q' s = 0) ∧ cn_Wy t g S q' p z L := by
  obtain ⟨q', h1, h2⟩ := cn_newpot hU (cn_Opt_Pt hq) (cn_cost_b g) h hd
  obtain ⟨L, l1, l2, l3, l4, l5⟩ := cn_chain h hz hdz
  obtain ⟨w1, w2, w3, w4, w5⟩ := h
  refine ⟨q', L, cn_Pt_Opt h1, fun s hs he => ?_, l1, l2, fun i hi => (l3 i hi).1, l4, l5, fun i hi => ?_⟩
  · have e := (w1 s hs he).1
    rw [h2 s hs (by omega), e]
  · obtain ⟨a1, a2⟩ := l3 i (by omega)
    obtain ⟨b1, b2⟩ := l3 (i + 1) (by omega)
    obtain ⟨c1, c2, c3, c4⟩ := w4 (cn_it p i z) a1 (l4 i hi) a2
    rw [← cn_it_r p i z] at c1 c2 c3 c4
    have e := hd _ _ b1 a1 b2 c3
    refine ⟨c3.2, ?_⟩
    rw [h2 _ a1 a2, h2 _ b1 b2]
    omega

/-- the second walk along the way: i steps are done -/
def cn_W2 (t q : Nat → Int) (p : Nat → Nat) (z L : Nat) (a : Int) (g0 : Nat → Nat → Int) (i : Nat) (g : Nat → Nat → Int) : Prop :=
  cn_St t g ∧ cn_Opt t g q ∧
  (∀ w, w < 7 → cn_po g w = cn_po g0 w + (if w = z then a else 0) - (if w = cn_it p i z then a else 0)) ∧
  (∀ j, i ≤ j → j < L → g (cn_it p (j + 1) z) (cn_it p j z) = g0 (cn_it p (j + 1) z) (cn_it p j z))

theorem cn_W2_0 {t q : Nat → Int} {g : Nat → Nat → Int} {p : Nat → Nat} {z L : Nat} {a : Int} (ho : cn_St t g) (hq : cn_Opt t g q) : cn_W2 t q p z L a g 0 g := by
  refine ⟨ho, hq, fun w hw => ?_, fun j _ _ => rfl⟩
  rw [cn_it_0]
  omega

theorem cn_W2_r {t q : Nat → Int} {g0 g : Nat → Nat → Int} {p : Nat → Nat} {z L i : Nat} {a : Int} (hi : i < L) (h : cn_W2 t q p z L a g0 i g) :
    cn_room t g (cn_it p (i + 1) z) (cn_it p i z) = cn_room t g0 (cn_it p (i + 1) z) (cn_it p i z) := by
  have f1 := h.2.2.2 i (Nat.le_refl _) hi
  unfold cn_room
  rw [f1]

theorem cn_W2_s {t q : Nat → Int} {g0 g : Nat → Nat → Int} {S : Nat → Prop} {p : Nat → Nat} {z L i : Nat} {a : Int} (ha : 0 ≤ a) (hi : i < L) (ht : ∀ u v, u < 7 → v < 7 → 0 ≤ t (u * 7 + v))
    (hw : cn_Wy t g0 S q p z L) (hr : a ≤ cn_room t g0 (cn_it p (i + 1) z) (cn_it p i z))
    (h : cn_W2 t q p z L a g0 i g) : cn_W2 t q p z L a g0 (i + 1) (cn_add g (cn_it p (i + 1) z) (cn_it p i z) a) := by
  have hr' := cn_W2_r hi h
  obtain ⟨h1, h2, h3, h4⟩ := h
  obtain ⟨w1, w2, hin, w4, hne, w6⟩ := hw
  have hv := hin i (by omega)
  have hu := hin (i + 1) (by omega)
  have huv : cn_it p (i + 1) z ≠ cn_it p i z := fun e => hne i (i + 1) (by omega) (by omega) e.symm
  have f1 := h4 i (Nat.le_refl _) hi
  have ht' : q (cn_it p i z) - q (cn_it p (i + 1) z) = cn_cost g (cn_it p (i + 1) z) (cn_it p i z) := by
    have := (w6 i hi).2
    unfold cn_cost at this ⊢
    rw [f1]
    exact this
  refine ⟨cn_add_St h1 hu hv huv ha (by omega) ht, cn_add_Opt h1 h2 hu hv huv ha (by omega) ht', fun w hw => ?_, fun j hj hjL => ?_⟩
  · rw [cn_add_po hu hv huv, h3 w hw]
    omega
  · have n1 := hne i j (by omega) (by omega)
    have n2 := hne i (j + 1) (by omega) (by omega)
    have g1 := h4 j (by omega) hjL
    rw [cn_add_3 (fun e => n1 e.2.symm) (fun e => n2 e.1.symm)]
    exact g1

/-- the room of a set -/
def cn_rm (t P : Nat → Int) (M : Nat → Bool) : Int :=
  cn_sum (fun u => if M u then cn_sum (fun v => if M v then 0 else t (u * 7 + v)) 7 - P u else 0) 7
def cn_Ok (t P : Nat → Int) : Prop := (∀ M : Nat → Bool, 0 ≤ cn_rm t P M) ∧ cn_sum P 7 = 0

/-- the room is the trust out of the set less its positions -/
theorem cn_rm_eq (t P : Nat → Int) (M : Nat → Bool) :
    cn_rm t P M = cn_sum (fun u => if M u then cn_sum (fun v => if M v then 0 else t (u * 7 + v)) 7 else 0) 7 - cn_sum (fun u => if M u then P u else 0) 7 := by
  rw [← cn_sum_sub]
  unfold cn_rm
  refine cn_sum_congr (fun u _ => ?_)
  show (if M u then cn_sum (fun v => if M v then 0 else t (u * 7 + v)) 7 - P u else 0) = (if M u then cn_sum (fun v => if M v then 0 else t (u * 7 + v)) 7 else 0) - (if M u then P u else 0)
  by_cases e : M u = true
  · rw [if_pos e, if_pos e, if_pos e]
  · rw [if_neg e, if_neg e, if_neg e]
    rfl

/-- a debtor reaches a creditor -/
theorem cn_reach {t P un d : Nat → Int} {g : Nat → Nat → Int} {U : Int} {s : Nat} (hs : s < 7) (hok : cn_Ok t P) (hn : cn_St t g) (hun : ∀ w, w < 7 → un w = P w - cn_po g w)
    (hds : d s ≠ U) (hneg : un s < 0) (hcl : ∀ u v, u < 7 → v < 7 → d u ≠ U → cn_R t g u v → d v ≠ U) : ∃ v, v < 7 ∧ d v ≠ U ∧ 0 < un v := by
  obtain ⟨M, hM⟩ : ∃ M : Nat → Bool, M = fun v => decide (d v = U) := ⟨_, rfl⟩
  have rm := hok.1 M
  rw [cn_rm_eq] at rm
  have Mt : ∀ v, M v = true → d v = U := by
    intro v h
    rw [hM] at h
    exact of_decide_eq_true h
  have Mf : ∀ v, ¬ M v = true → d v ≠ U := by
    intro v h e
    rw [hM] at h
    exact h (decide_eq_true e)
  -- what the set is owed from without
  have e2 : cn_sum (fun v => if M v then cn_po g v else 0) 7
      = cn_sum (fun v => cn_sum (fun x => if M v then (if M x then g x v else 0) else 0) 7) 7 + cn_sum (fun v => if M v then cn_sum (fun x => if M x then 0 else t (v * 7 + x)) 7 else 0) 7 := by
    rw [← cn_sum_add]
    refine cn_sum_congr (fun v hv => ?_)
    by_cases e : M v = true
    · rw [if_pos e, if_pos e]
      have k : cn_sum (fun x => if M v then (if M x then g x v else 0) else 0) 7 = cn_sum (fun x => if M x then g x v else 0) 7 :=
        cn_sum_congr (fun x _ => if_pos e)
      rw [k, ← cn_sum_add]
      unfold cn_po
      refine cn_sum_congr (fun x hx => ?_)
      show g x v = (if M x then g x v else 0) + (if M x then 0 else t (v * 7 + x))
      by_cases f : M x = true
      · rw [if_pos f, if_pos f]
        omega
      · rw [if_neg f, if_neg f]
        have dx := Mf x f
        have dv := Mt v e
        have xv : x ≠ v := fun z => dx (z ▸ dv)
        have nr : ¬ 0 < cn_room t g x v := fun z => hcl x v hx hv dx ⟨xv, z⟩ dv
        have A := hn x v hx hv
        unfold cn_room at nr
        by_cases b : g x v < 0
        · rw [if_pos b] at nr
          omega
        · rw [if_neg b] at nr
          omega
    · rw [if_neg e, if_neg e]
      have k : cn_sum (fun x => if M v then (if M x then g x v else 0) else 0) 7 = cn_sum (fun _ => 0) 7 :=
        cn_sum_congr (fun x _ => if_neg e)
      rw [k, cn_sum_0]
      rfl
  have e3 : cn_sum (fun v => cn_sum (fun x => if M v then (if M x then g x v else 0) else 0) 7) 7 = 0 := by
    refine cn_anti (f := fun v x => if M v then (if M x then g x v else 0) else 0) (fun u v hu hv => ?_)
    show (if M u then (if M v then g v u else 0) else 0) = - (if M v then (if M u then g u v else 0) else 0)
    have a := (hn v u hv hu).1
    by_cases e : M u = true
    · by_cases f : M v = true
      · rw [if_pos e, if_pos f, if_pos f, if_pos e]
        exact a
      · rw [if_pos e, if_neg f, if_neg f]
        rfl
    · rw [if_neg e]
      by_cases f : M v = true
      · rw [if_pos f, if_neg e]
        rfl
      · rw [if_neg f]
        rfl
  -- within and without
  have tot : cn_sum un 7 = 0 := by
    have k : cn_sum un 7 = cn_sum (fun w => P w - cn_po g w) 7 := cn_sum_congr hun
    rw [k, cn_sum_sub, hok.2, cn_po_sum hn]
    rfl
  have within : cn_sum (fun v => if M v then un v else 0) 7 = cn_sum (fun v => if M v then P v else 0) 7 - cn_sum (fun v => if M v then cn_po g v else 0) 7 := by
    rw [← cn_sum_sub]
    refine cn_sum_congr (fun v hv => ?_)
    show (if M v then un v else 0) = (if M v then P v else 0) - (if M v then cn_po g v else 0)
    by_cases e : M v = true
    · rw [if_pos e, if_pos e, if_pos e]
      exact hun v hv
    · rw [if_neg e, if_neg e, if_neg e]
      rfl
  have both : cn_sum un 7 = cn_sum (fun v => if M v then un v else 0) 7 + cn_sum (fun v => if M v then 0 else un v) 7 := by
    rw [← cn_sum_add]
    refine cn_sum_congr (fun v _ => ?_)
    show un v = (if M v then un v else 0) + (if M v then 0 else un v)
    by_cases e : M v = true
    · rw [if_pos e, if_pos e]
      omega
    · rw [if_neg e, if_neg e]
      omega
  apply Classical.byContradiction
  intro no
  have le : ∀ v, v < 7 → 0 ≤ - (if M v then 0 else un v) := by
    intro v hv
    by_cases e : M v = true
    · rw [if_pos e]
      decide
    · rw [if_neg e]
      have : ¬ 0 < un v := fun z => no ⟨v, hv, Mf v e, z⟩
      omega
  have z := cn_sum_z (f := fun v => - (if M v then 0 else un v)) (n := 7) le (by rw [cn_sum_neg]; omega) s hs
  have ms : ¬ M s = true := fun y => hds (Mt s y)
  have z' : - (if M s then 0 else un s) = 0 := z
  rw [if_neg ms] at z'
  omega

/-- what is still to be settled -/
def cn_mu (un : Nat → Int) : Int := cn_sum (fun w => if 0 < un w then un w else 0) 7

theorem cn_mu_s {un : Nat → Int} {s z : Nat} {a : Int} (hz : z < 7) (hsz : s ≠ z) (hs : un s + a ≤ 0) (ha : 0 ≤ a) (hz1 : 0 < un z) (hz2 : a ≤ un z) :
    cn_mu (cn_up (cn_up un s (un s + a)) z (un z - a)) = cn_mu un - a := by
  unfold cn_mu
  have k : cn_sum (fun w => if 0 < cn_up (cn_up un s (un s + a)) z (un z - a) w then cn_up (cn_up un s (un s + a)) z (un z - a) w else 0) 7
      = cn_sum (cn_up (fun w => if 0 < un w then un w else 0) z (un z - a)) 7 := by
    refine cn_sum_congr (fun w _ => ?_)
    show (if 0 < cn_up (cn_up un s (un s + a)) z (un z - a) w then cn_up (cn_up un s (un s + a)) z (un z - a) w else 0) = _
    by_cases e : w = z
    · subst e
      rw [cn_up_s, cn_up_s]
      split <;> omega
    · rw [cn_up_n e, cn_up_n e]
      by_cases f : w = s
      · subst f
        rw [cn_up_s, if_neg (by omega), if_neg (by omega)]
      · rw [cn_up_n f]
  rw [k, cn_sum_up _ _ hz]
  show _ + (un z - a - (if 0 < un z then un z else 0)) = _
  rw [if_pos hz1]
  omega

theorem cn_mu_0 {t P : Nat → Int} (hok : cn_Ok t P) (ht : ∀ u v, u < 7 → v < 7 → t (u * 7 + v) ≤ 1000) : cn_mu P ≤ 12000 := by
  obtain ⟨M, hM⟩ : ∃ M : Nat → Bool, M = fun v => decide (0 < P v) := ⟨_, rfl⟩
  have rm := hok.1 M
  rw [cn_rm_eq] at rm
  have e1' : cn_mu P = cn_sum (fun u => if M u then P u else 0) 7 := by
    refine cn_sum_congr (fun u _ => ?_)
    have hu : M u = decide (0 < P u) := by rw [hM]
    rw [hu]
    by_cases e : 0 < P u
    · rw [if_pos e, if_pos (decide_eq_true e)]
    · rw [if_neg e, if_neg (fun z => e (of_decide_eq_true z))]
  generalize hc : cn_sum (fun v => if M v then 0 else 1) 7 = c at *
  generalize hk : cn_sum (fun v => if M v then 1 else 0) 7 = k at *
  have kc : k + c = 7 := by
    rw [← hc, ← hk, ← cn_sum_add]
    have : cn_sum (fun v => (if M v then (1 : Int) else 0) + (if M v then 0 else 1)) 7 = cn_sum (fun _ => 1) 7 := by
      refine cn_sum_congr (fun v _ => ?_)
      by_cases e : M v = true
      · rw [if_pos e, if_pos e]; rfl
      · rw [if_neg e, if_neg e]; rfl
    rw [this]
    rfl
  have k0 : 0 ≤ k := by
    rw [← hk]
    refine cn_sum_nn (fun v _ => ?_)
    split <;> decide
  have c0 : 0 ≤ c := by
    rw [← hc]
    refine cn_sum_nn (fun v _ => ?_)
    split <;> decide
  have le : cn_sum (fun u => if M u then cn_sum (fun v => if M v then 0 else t (u * 7 + v)) 7 else 0) 7 ≤ (1000 * c) * k := by
    rw [← hk, ← cn_sum_mul]
    refine cn_sum_le (fun u hu => ?_)
    by_cases e : M u = true
    · rw [if_pos e, if_pos e, Int.mul_one, ← hc, ← cn_sum_mul]
      refine cn_sum_le (fun v hv => ?_)
      by_cases f : M v = true
      · rw [if_pos f, if_pos f]
        decide
      · rw [if_neg f, if_neg f]
        have := ht u v hu hv
        omega
    · rw [if_neg e, if_neg e]
      omega
  have kk : k = 0 ∨ k = 1 ∨ k = 2 ∨ k = 3 ∨ k = 4 ∨ k = 5 ∨ k = 6 ∨ k = 7 := by omega
  rcases kk with x | x | x | x | x | x | x | x <;> rw [x] at le <;> omega

/-- the settling: k rounds are done -/
def cn_Se (t P : Nat → Int) (k : Nat) (g : Nat → Nat → Int) (un q : Nat → Int) : Prop :=
  cn_St t g ∧ cn_Opt t g q ∧ (∀ w, w < 7 → un w = P w - cn_po g w) ∧ cn_mu un + k ≤ 12000

theorem cn_Se_0 {t P un : Nat → Int} (hok : cn_Ok t P) (ht : ∀ u v, u < 7 → v < 7 → 0 ≤ t (u * 7 + v) ∧ t (u * 7 + v) ≤ 1000)
    (hun : ∀ w, w < 7 → un w = P w) : cn_Se t P 0 (fun _ _ => 0) un (fun _ => 0) := by
  refine ⟨fun u v hu hv => ?_, fun u v hu hv _ _ => ?_, fun w hw => ?_, ?_⟩
  · have := ht v u hv hu
    show (0 : Int) = -0 ∧ (0 : Int) ≤ t (v * 7 + u)
    exact ⟨by omega, by omega⟩
  · show (0 : Int) - 0 ≤ if (0 : Int) < 0 then -1 else 1
    decide
  · have k : cn_po (fun _ _ => 0) w = 0 := cn_sum_0 7
    rw [hun w hw, k]
    omega
  · have k : cn_mu un = cn_mu P := by
      refine cn_sum_congr (fun w hw => ?_)
      show (if 0 < un w then un w else 0) = (if 0 < P w then P w else 0)
      rw [hun w hw]
    have := cn_mu_0 hok (fun u v hu hv => (ht u v hu hv).2)
    rw [k]
    omega

theorem cn_Se_s {t P q q' un : Nat → Int} {g g' : Nat → Nat → Int} {p : Nat → Nat} {s z k L : Nat} {a : Int} (h : cn_Se t P k g un q) (hs : s < 7) (hz : z < 7)
    (ha : 1 ≤ a) (hsn : a ≤ - un s) (hzp : a ≤ un z) (hL : cn_it p L z = s) (w2 : cn_W2 t q' p z L a g L g') :
    cn_Se t P (k + 1) g' (cn_up (cn_up un s (un s + a)) z (un z - a)) q' := by
  obtain ⟨h1, h2, h3, h4⟩ := h
  obtain ⟨w1, wq, wp, wr⟩ := w2
  have sz : s ≠ z := by
    intro e
    subst e
    omega
  refine ⟨w1, wq, fun w hw => ?_, ?_⟩
  · have e := wp w hw
    rw [hL] at e
    have f := h3 w hw
    by_cases x : w = z
    · subst x
      rw [cn_up_s]
      rw [if_pos rfl, if_neg (fun y => sz y.symm)] at e
      omega
    · rw [cn_up_n x]
      rw [if_neg x] at e
      by_cases y : w = s
      · subst y
        rw [cn_up_s]
        rw [if_pos rfl] at e
        omega
      · rw [cn_up_n y]
        rw [if_neg y] at e
        omega
  · rw [cn_mu_s hz sz (by omega) (by omega) (by omega) hzp]
    omega

theorem cn_Se_sum {t P q un : Nat → Int} {g : Nat → Nat → Int} {k : Nat} (hok : cn_Ok t P) (h : cn_Se t P k g un q) : cn_sum un 7 = 0 := by
  have e : cn_sum un 7 = cn_sum (fun w => P w - cn_po g w) 7 := cn_sum_congr h.2.2.1
  rw [e, cn_sum_sub, hok.2, cn_po_sum h.1]
  rfl

/-- no debtor is left: all is settled -/
theorem cn_Se_e1 {t P q un : Nat → Int} {g : Nat → Nat → Int} {k : Nat} (hok : cn_Ok t P) (h : cn_Se t P k g un q) (he : ∀ w, w < 7 → 0 ≤ un w) : ∀ w, w < 7 → un w = 0 :=
  cn_sum_z he (by have := cn_Se_sum hok h; omega)

/-- no creditor is left: all is settled -/
theorem cn_Se_e2 {t P q un : Nat → Int} {g : Nat → Nat → Int} {k : Nat} (hok : cn_Ok t P) (h : cn_Se t P k g un q) (he : ∀ w, w < 7 → un w ≤ 0) : ∀ w, w < 7 → un w = 0 := by
  intro w hw
  have x := cn_sum_z (f := fun w => - un w) (n := 7) (fun w hw => by have := he w hw; omega) (by rw [cn_sum_neg]; have := cn_Se_sum hok h; omega) w hw
  have x' : - un w = 0 := x
  omega

theorem cn_mu_pos {un : Nat → Int} {z : Nat} (hz : z < 7) (h : 0 < un z) : 0 < cn_mu un := by
  apply Classical.byContradiction
  intro n
  have nn : ∀ w, w < 7 → 0 ≤ (if 0 < un w then un w else 0) := by
    intro w _
    split <;> omega
  have y : (if 0 < un z then un z else 0) = 0 := cn_sum_z (f := fun w => if 0 < un w then un w else 0) (n := 7) nn (by unfold cn_mu at n; omega) z hz
  rw [if_pos h] at y
  omega

/-- 12000 rounds are done: all is settled -/
theorem cn_Se_e3 {t P q un : Nat → Int} {g : Nat → Nat → Int} {k : Nat} (hok : cn_Ok t P) (h : cn_Se t P k g un q) (he : 12000 ≤ k) : ∀ w, w < 7 → un w = 0 :=
  cn_Se_e2 hok h (fun w hw => by
    by_cases e : 0 < un w
    · have a := cn_mu_pos hw e
      have b := h.2.2.2
      omega
    · omega)

/-- the least sum of all debts in a state with positions P -/
def cn_Debts (t P : Nat → Int) (r : Int) : Prop :=
  (∃ g, cn_St t g ∧ (∀ u, u < 7 → cn_po g u = P u) ∧ cn_ab g = 2 * r) ∧ ∀ g, cn_St t g → (∀ u, u < 7 → cn_po g u = P u) → 2 * r ≤ cn_ab g

theorem cn_Debts_eq {t P : Nat → Int} {r r' : Int} (h : cn_Debts t P r) (h' : cn_Debts t P r') : r = r' := by
  obtain ⟨⟨g, a, b, c⟩, d⟩ := h
  obtain ⟨⟨g', a', b', c'⟩, d'⟩ := h'
  have x := d g' a' b'
  have y := d' g a b
  omega

theorem cn_Se_fin {t P q un : Nat → Int} {g : Nat → Nat → Int} {k : Nat} (h : cn_Se t P k g un q) (hz : ∀ w, w < 7 → un w = 0) : cn_Debts t P (cn_tot g) := by
  obtain ⟨h1, h2, h3, h4⟩ := h
  have pos : ∀ u, u < 7 → cn_po g u = P u := by
    intro u hu
    have a := h3 u hu
    have b := hz u hu
    omega
  refine ⟨⟨g, h1, pos, cn_ab_tot h1⟩, fun f hf hp => ?_⟩
  rw [← cn_ab_tot h1]
  exact cn_least h1 h2 hf (fun u hu => (hp u hu).trans (pos u hu).symm)
end
section
theorem cn_rm_congr {t t' P P' : Nat → Int} {M M' : Nat → Bool} (ht : ∀ u v, u < 7 → v < 7 → t (u * 7 + v) = t' (u * 7 + v)) (hP : ∀ u, u < 7 → P u = P' u) (hM : ∀ u, u < 7 → M u = M' u) :
    cn_rm t P M = cn_rm t' P' M' := by
  refine cn_sum_congr (fun u hu => ?_)
  have e : cn_sum (fun v => if M v then 0 else t (u * 7 + v)) 7 = cn_sum (fun v => if M' v then 0 else t' (u * 7 + v)) 7 :=
    cn_sum_congr (fun v hv => by rw [hM v hv, ht u v hu hv])
  rw [e, hM u hu, hP u hu]

/-- a trust anew -/
theorem cn_rm_t {t P : Nat → Int} {M : Nat → Bool} {u v : Nat} {y : Int} (hu : u < 7) (hv : v < 7) :
    cn_rm (cn_up t (u * 7 + v) y) P M = cn_rm t P M + (if M u = true ∧ ¬ M v = true then y - t (u * 7 + v) else 0) := by
  unfold cn_rm
  have far : ∀ a, a < 7 → a ≠ u → cn_sum (fun b => if M b then 0 else cn_up t (u * 7 + v) y (a * 7 + b)) 7 = cn_sum (fun b => if M b then 0 else t (a * 7 + b)) 7 := by
    intro a ha e
    refine cn_sum_congr (fun b hb => ?_)
    rw [cn_up_n (by omega)]
  have near : cn_sum (fun b => if M b then 0 else cn_up t (u * 7 + v) y (u * 7 + b)) 7 = cn_sum (fun b => if M b then 0 else t (u * 7 + b)) 7 + (if M v then 0 else y - t (u * 7 + v)) := by
    have k : cn_sum (fun b => if M b then 0 else cn_up t (u * 7 + v) y (u * 7 + b)) 7 = cn_sum (cn_up (fun b => if M b then 0 else t (u * 7 + b)) v (if M v then 0 else y)) 7 := by
      refine cn_sum_congr (fun b hb => ?_)
      by_cases e : b = v
      · subst e
        rw [cn_up_s, cn_up_s]
      · rw [cn_up_n e, cn_up_n (by omega)]
    rw [k, cn_sum_up _ _ hv]
    by_cases e : M v = true
    · simp only [e, if_true]
      omega
    · simp only [e]
      rfl
  have k : cn_sum (fun a => if M a then cn_sum (fun b => if M b then 0 else cn_up t (u * 7 + v) y (a * 7 + b)) 7 - P a else 0) 7
      = cn_sum (cn_up (fun a => if M a then cn_sum (fun b => if M b then 0 else t (a * 7 + b)) 7 - P a else 0) u
        (if M u then cn_sum (fun b => if M b then 0 else t (u * 7 + b)) 7 + (if M v then 0 else y - t (u * 7 + v)) - P u else 0)) 7 := by
    refine cn_sum_congr (fun a ha => ?_)
    by_cases e : a = u
    · subst e
      rw [cn_up_s, near]
    · rw [cn_up_n e, far a ha e]
  rw [k, cn_sum_up _ _ hu]
  by_cases e : M u = true
  · by_cases f : M v = true
    · simp only [e, f, if_true, not_true, and_false, if_false]
      omega
    · simp only [e, f, if_true]
      simp
      omega
  · simp only [e]
    simp

/-- a position anew -/
theorem cn_rm_P {t P : Nat → Int} {M : Nat → Bool} {w : Nat} {y : Int} (hw : w < 7) :
    cn_rm t (cn_up P w y) M = cn_rm t P M - (if M w = true then y - P w else 0) := by
  unfold cn_rm
  have k : cn_sum (fun a => if M a then cn_sum (fun b => if M b then 0 else t (a * 7 + b)) 7 - cn_up P w y a else 0) 7
      = cn_sum (cn_up (fun a => if M a then cn_sum (fun b => if M b then 0 else t (a * 7 + b)) 7 - P a else 0) w
        (if M w then cn_sum (fun b => if M b then 0 else t (w * 7 + b)) 7 - y else 0)) 7 := by
    refine cn_sum_congr (fun a ha => ?_)
    by_cases e : a = w
    · subst e
      rw [cn_up_s, cn_up_s]
    · rw [cn_up_n e, cn_up_n e]
  rw [k, cn_sum_up _ _ hw]
  by_cases e : M w = true
  · simp only [e, if_true]
    omega
  · simp only [e]
    simp

/-- trusts as they may be -/
def cn_T (t : Nat → Int) : Prop := ∀ j, 0 ≤ t j ∧ t j ≤ 1000

theorem cn_in_b {t : Nat → Int} {M : Nat → Bool} {u : Nat} (ht : cn_T t) : 0 ≤ cn_sum (fun b => if M b then 0 else t (u * 7 + b)) 7 ∧ cn_sum (fun b => if M b then 0 else t (u * 7 + b)) 7 ≤ 7000 := by
  refine ⟨cn_sum_nn (fun b _ => ?_), ?_⟩
  · have := ht (u * 7 + b)
    split <;> omega
  · refine Int.le_trans (cn_sum_ub (b := 1000) (fun b _ => ?_)) (by omega)
    have := ht (u * 7 + b)
    split <;> omega

theorem cn_rm_hi {t P : Nat → Int} {M : Nat → Bool} (ht : cn_T t) : cn_rm t P M ≤ cn_sum (fun u => if M u then 7000 - P u else 0) 7 := by
  refine cn_sum_le (fun u hu => ?_)
  have := (cn_in_b (M := M) (u := u) ht).2
  split <;> omega

theorem cn_rm_b {t P : Nat → Int} {M : Nat → Bool} (ht : cn_T t) (hP : ∀ w, w < 7 → -1000000 ≤ P w ∧ P w ≤ 1000000) : -8000000 ≤ cn_rm t P M ∧ cn_rm t P M ≤ 8000000 := by
  refine ⟨?_, ?_⟩
  · have h : cn_sum (fun _ => -1000000) 7 ≤ cn_rm t P M := by
      refine cn_sum_le (fun u hu => ?_)
      have a := (cn_in_b (M := M) (u := u) ht).1
      have b := hP u hu
      split <;> omega
    have e : cn_sum (fun _ => -1000000) 7 = -7000000 := by decide
    omega
  · have h : cn_rm t P M ≤ cn_sum (fun _ => 1007000) 7 := by
      refine cn_sum_le (fun u hu => ?_)
      have a := (cn_in_b (M := M) (u := u) ht).2
      have b := hP u hu
      split <;> omega
    have e : cn_sum (fun _ => 1007000) 7 = 7049000 := by decide
    omega

/-- positions that are possible are near 0 -/
theorem cn_P_b {t P : Nat → Int} (ht : cn_T t) (hr : ∀ k, k < 128 → 0 ≤ cn_rm t P (cn_bit k)) (hs : cn_sum P 7 = 0) : ∀ w, w < 7 → -50000 ≤ P w ∧ P w ≤ 50000 := by
  intro w hw
  have all : ∀ M : Nat → Bool, 0 ≤ cn_rm t P M := by
    intro M
    obtain ⟨k, hk, e⟩ := cn_set M
    have := hr k hk
    rw [cn_rm_congr (t' := t) (P' := P) (M' := M) (fun _ _ _ _ => rfl) (fun _ _ => rfl) e] at this
    exact this
  have up : P w ≤ 7000 := by
    have a := all (fun u => decide (u = w))
    have b := cn_rm_hi (P := P) (M := fun u => decide (u = w)) ht
    have e : cn_sum (fun u => if decide (u = w) = true then 7000 - P u else 0) 7 = cn_sum (cn_up (fun _ => 0) w (7000 - P w)) 7 := by
      refine cn_sum_congr (fun u _ => ?_)
      by_cases f : u = w
      · subst f
        rw [cn_up_s, if_pos (decide_eq_true rfl)]
      · rw [cn_up_n f, if_neg (fun z => f (of_decide_eq_true z))]
    rw [e, cn_sum_up _ _ hw, cn_sum_0] at b
    omega
  have lo : -P w ≤ 42000 := by
    have a := all (fun u => decide (u ≠ w))
    have b := cn_rm_hi (P := P) (M := fun u => decide (u ≠ w)) ht
    have e : cn_sum (fun u => if decide (u ≠ w) = true then 7000 - P u else 0) 7 = cn_sum (cn_up (fun u => 7000 - P u) w 0) 7 := by
      refine cn_sum_congr (fun u _ => ?_)
      by_cases f : u = w
      · subst f
        rw [cn_up_s, if_neg (fun z => (of_decide_eq_true z) rfl)]
      · rw [cn_up_n f, if_pos (decide_eq_true f)]
    rw [e, cn_sum_up _ _ hw, cn_sum_sub, hs] at b
    have c : cn_sum (fun _ => (7000 : Int)) 7 = 49000 := by decide
    omega
  omega

theorem cn_Ok_of {t P : Nat → Int} (hr : ∀ k, k < 128 → 0 ≤ cn_rm t P (cn_bit k)) (hs : cn_sum P 7 = 0) : cn_Ok t P := by
  refine ⟨fun M => ?_, hs⟩
  obtain ⟨k, hk, e⟩ := cn_set M
  have := hr k hk
  rw [cn_rm_congr (t' := t) (P' := P) (M' := M) (fun _ _ _ _ => rfl) (fun _ _ => rfl) e] at this
  exact this

/-- the least room of the sets below n that have m and have nothing of x (and of m itself) -/
def cn_lr (t P : Nat → Int) (m x : Nat) : Nat → Int
  | 0 => cn_rm t P (cn_bit m)
  | n + 1 => if n &&& m = m ∧ n &&& x = 0 ∧ cn_rm t P (cn_bit n) < cn_lr t P m x n then cn_rm t P (cn_bit n) else cn_lr t P m x n

def cn_Lr (t P : Nat → Int) (m x : Nat) (r : Int) : Prop :=
  (∀ s, s < 128 → s &&& m = m → s &&& x = 0 → r ≤ cn_rm t P (cn_bit s)) ∧ ∃ s, s < 128 ∧ s &&& m = m ∧ s &&& x = 0 ∧ r = cn_rm t P (cn_bit s)

theorem cn_Lr_eq {t P : Nat → Int} {m x : Nat} {r r' : Int} (h : cn_Lr t P m x r) (h' : cn_Lr t P m x r') : r = r' := by
  obtain ⟨a, s, s1, s2, s3, s4⟩ := h
  obtain ⟨a', s', s1', s2', s3', s4'⟩ := h'
  have x := a s' s1' s2' s3'
  have y := a' s s1 s2 s3
  omega

theorem cn_lr_Lr {t P : Nat → Int} {m x : Nat} (hm : m < 128) (hx : m &&& x = 0) : cn_Lr t P m x (cn_lr t P m x 128) := by
  have key : ∀ n, n ≤ 128 → (∀ s, s < n → s &&& m = m → s &&& x = 0 → cn_lr t P m x n ≤ cn_rm t P (cn_bit s)) ∧ ∃ s, s < 128 ∧ s &&& m = m ∧ s &&& x = 0 ∧ cn_lr t P m x n = cn_rm t P (cn_bit s) := by
    intro n
    induction n with
    | zero => intro _; exact ⟨fun s hs => by omega, m, hm, Nat.and_self m, hx, rfl⟩
    | succ n ih =>
      intro hn
      obtain ⟨a, b⟩ := ih (by omega)
      have e : cn_lr t P m x (n + 1) = if n &&& m = m ∧ n &&& x = 0 ∧ cn_rm t P (cn_bit n) < cn_lr t P m x n then cn_rm t P (cn_bit n) else cn_lr t P m x n := rfl
      by_cases c : n &&& m = m ∧ n &&& x = 0 ∧ cn_rm t P (cn_bit n) < cn_lr t P m x n
      · rw [if_pos c] at e
        rw [e]
        refine ⟨fun s hs h1 h2 => ?_, n, by omega, c.1, c.2.1, rfl⟩
        by_cases f : s = n
        · subst f; exact Int.le_refl _
        · have := a s (by omega) h1 h2
          omega
      · rw [if_neg c] at e
        rw [e]
        refine ⟨fun s hs h1 h2 => ?_, b⟩
        by_cases f : s = n
        · subst f
          have : ¬ cn_rm t P (cn_bit s) < cn_lr t P m x s := fun z => c ⟨h1, h2, z⟩
          omega
        · exact a s (by omega) h1 h2
  exact key 128 (Nat.le_refl _)

theorem cn_lr_b {t P : Nat → Int} {m x : Nat} (ht : cn_T t) (hP : ∀ w, w < 7 → -1000000 ≤ P w ∧ P w ≤ 1000000) : ∀ n, -8000000 ≤ cn_lr t P m x n ∧ cn_lr t P m x n ≤ 8000000 := by
  intro n
  induction n with
  | zero => exact cn_rm_b ht hP
  | succ n ih =>
    have e : cn_lr t P m x (n + 1) = if n &&& m = m ∧ n &&& x = 0 ∧ cn_rm t P (cn_bit n) < cn_lr t P m x n then cn_rm t P (cn_bit n) else cn_lr t P m x n := rfl
    rw [e]
    split
    · exact cn_rm_b ht hP
    · exact ih

/-- what Y has of it behind n sets -/
def cn_Ly (t P : Nat → Int) (m x n : Nat) (r : Int) : Prop :=
  (r = -1 ∧ ∀ s, s < n → s &&& m = m → ¬ s &&& x = 0) ∨
  ((∀ s, s < n → s &&& m = m → s &&& x = 0 → r ≤ cn_rm t P (cn_bit s)) ∧ ∃ s, s < n ∧ s &&& m = m ∧ s &&& x = 0 ∧ r = cn_rm t P (cn_bit s))

theorem cn_Ly_0 {t P : Nat → Int} {m x : Nat} : cn_Ly t P m x 0 (-1) := Or.inl ⟨rfl, fun s hs => by omega⟩

theorem cn_Ly_no {t P : Nat → Int} {m x n : Nat} {r : Int} (h : cn_Ly t P m x n r) (hn : n &&& m = m → ¬ n &&& x = 0) : cn_Ly t P m x (n + 1) r := by
  rcases h with ⟨a, b⟩ | ⟨a, s, s1, s2⟩
  · refine Or.inl ⟨a, fun s hs h1 => ?_⟩
    by_cases f : s = n
    · subst f; exact hn h1
    · exact b s (by omega) h1
  · refine Or.inr ⟨fun s hs h1 h2 => ?_, s, by omega, s2⟩
    by_cases f : s = n
    · subst f; exact absurd h2 (hn h1)
    · exact a s (by omega) h1 h2

theorem cn_Ly_new {t P : Nat → Int} {m x n : Nat} {r : Int} (h : cn_Ly t P m x n r) (h1 : n &&& m = m) (h2 : n &&& x = 0)
    (hc : r < 0 ∨ cn_rm t P (cn_bit n) < r) (hr : ∀ s, s < 128 → 0 ≤ cn_rm t P (cn_bit s)) (hn : n < 128) : cn_Ly t P m x (n + 1) (cn_rm t P (cn_bit n)) := by
  refine Or.inr ⟨fun s hs g1 g2 => ?_, n, by omega, h1, h2, rfl⟩
  by_cases f : s = n
  · subst f; exact Int.le_refl _
  · rcases h with ⟨a, b⟩ | ⟨a, s', s1, s2, s3, s4⟩
    · exact absurd g2 (b s (by omega) g1)
    · have x := a s (by omega) g1 g2
      have y := hr s' (by omega)
      omega

theorem cn_Ly_keep {t P : Nat → Int} {m x n : Nat} {r : Int} (h : cn_Ly t P m x n r)
    (hc : ¬ r < 0) (hc' : ¬ cn_rm t P (cn_bit n) < r) : cn_Ly t P m x (n + 1) r := by
  rcases h with ⟨a, b⟩ | ⟨a, s', s1, s2⟩
  · omega
  · refine Or.inr ⟨fun s hs g1 g2 => ?_, s', by omega, s2⟩
    by_cases f : s = n
    · subst f; omega
    · exact a s (by omega) g1 g2

theorem cn_Ly_e {t P : Nat → Int} {m x : Nat} {r : Int} (h : cn_Ly t P m x 128 r) (hm : m < 128) (hx : m &&& x = 0) : cn_Lr t P m x r := by
  rcases h with ⟨a, b⟩ | h
  · exact absurd hx (b m hm (Nat.and_self m))
  · exact h

theorem cn_Ly_b {t P : Nat → Int} {m x n : Nat} {r : Int} (h : cn_Ly t P m x n r) (ht : cn_T t) (hP : ∀ w, w < 7 → -1000000 ≤ P w ∧ P w ≤ 1000000) : -8000000 ≤ r ∧ r ≤ 8000000 := by
  rcases h with ⟨a, b⟩ | ⟨a, s', s1, s2, s3, s4⟩
  · omega
  · rw [s4]
    exact cn_rm_b ht hP
end
