/-- whole numbers as ints -/
def cn_i (x : Int) : Int32 := Int32.ofInt x
theorem cn_i_add (a b : Int) : cn_i (a + b) = cn_i a + cn_i b := Int32.ofInt_add a b
theorem cn_i_sub (a b : Int) : cn_i (a - b) = cn_i a - cn_i b := Int32.ofInt_sub a b
theorem cn_i_mul (a b : Int) : cn_i (a * b) = cn_i a * cn_i b := Int32.ofInt_mul a b
theorem cn_i_neg (a : Int) : cn_i (-a) = - cn_i a := Int32.ofInt_neg a
theorem cn_i_of (x : Int32) : cn_i x.toInt = x := Int32.ofInt_toInt x
theorem cn_i_n (n : Nat) : cn_i (n : Int) = nI n := Int32.ofInt_eq_ofNat
theorem cn_i_0 : cn_i 0 = 0 := by decide
theorem cn_i_1 : cn_i 1 = 1 := by decide
theorem cn_ti {a : Int} (h : -2147483648 ≤ a) (h' : a < 2147483648) : (cn_i a).toInt = a := Int32.toInt_ofInt_of_le h h'
theorem cn_lo (x : Int32) : -2147483648 ≤ x.toInt := Int32.le_toInt x
theorem cn_hi (x : Int32) : x.toInt < 2147483648 := Int32.toInt_lt x
/-- near 0 -/
def cn_nr (a : Int) : Prop := -2147483648 ≤ a ∧ a ≤ 2147483647
theorem cn_le {a b : Int} (ha : cn_nr a) (hb : cn_nr b) : cn_i a ≤ cn_i b ↔ a ≤ b := by
  unfold cn_nr at ha hb
  rw [Int32.le_iff_toInt_le, cn_ti (by omega) (by omega), cn_ti (by omega) (by omega)]
theorem cn_lt {a b : Int} (ha : cn_nr a) (hb : cn_nr b) : cn_i a < cn_i b ↔ a < b := by
  unfold cn_nr at ha hb
  rw [Int32.lt_iff_toInt_lt, cn_ti (by omega) (by omega), cn_ti (by omega) (by omega)]
theorem cn_eq {a b : Int} (ha : cn_nr a) (hb : cn_nr b) : cn_i a = cn_i b ↔ a = b := by
  unfold cn_nr at ha hb
  rw [← Int32.toInt_inj, cn_ti (by omega) (by omega), cn_ti (by omega) (by omega)]
/-- branches by whole numbers -/
theorem cn_ble {x y : Int32} {A B : Prop} (a b : Int) (hx : x = cn_i a) (hy : y = cn_i b) (ha : cn_nr a) (hb : cn_nr b) (f : a ≤ b → A) (g : b < a → B) : (x ≤ y → A) ∧ (¬ x ≤ y → B) := by
  subst hx hy
  rw [cn_le ha hb]
  exact ⟨f, fun z => g (by omega)⟩
theorem cn_blt {x y : Int32} {A B : Prop} (a b : Int) (hx : x = cn_i a) (hy : y = cn_i b) (ha : cn_nr a) (hb : cn_nr b) (f : a < b → A) (g : b ≤ a → B) : (x < y → A) ∧ (¬ x < y → B) := by
  subst hx hy
  rw [cn_lt ha hb]
  exact ⟨f, fun z => g (by omega)⟩
theorem cn_beq {x y : Int32} {A B : Prop} (a b : Int) (hx : x = cn_i a) (hy : y = cn_i b) (ha : cn_nr a) (hb : cn_nr b) (f : a = b → A) (g : a ≠ b → B) : (x = y → A) ∧ (¬ x = y → B) := by
  subst hx hy
  rw [cn_eq ha hb]
  exact ⟨f, g⟩
theorem cn_n0 : cn_nr 0 := by unfold cn_nr; omega
/-- an array's contents as whole numbers -/
def cn_I (a : Nat → Int32) : Nat → Int := fun j => (a j).toInt
theorem cn_I_of (a : Nat → Int32) (j : Nat) : a j = cn_i (cn_I a j) := (cn_i_of _).symm
theorem cn_I_up (a : Nat → Int32) (k : Nat) (x : Int32) : cn_I (upd a k x) = cn_up (cn_I a) k x.toInt := by
  funext j
  unfold cn_I cn_up upd
  by_cases e : j = k
  · rw [if_pos e, if_pos e]
  · rw [if_neg e, if_neg e]
/-- indices -/
theorem cn_ix (u v : Nat) : nI u * 7 + nI v = nI (u * 7 + v) := by
  rw [show (7 : Int32) = nI 7 from rfl, pk_mul, nI_add]
theorem cn_iy (u v : Nat) : 7 * nI u + nI v = nI (u * 7 + v) := by
  rw [show (7 : Int32) = nI 7 from rfl, pk_mul, nI_add, Nat.mul_comm]
theorem cn_in49 {u v : Nat} (hu : u < 7) (hv : v < 7) : vp_in (nI (u * 7 + v)) 49 := vp_in_nI (by omega) (by decide)
theorem cn_in7 {u : Nat} (hu : u < 7) : vp_in (nI u) 7 := vp_in_nI hu (by decide)
theorem cn_cl {n : Nat} (h : n < 1000) : (nI n).toNatClampNeg = n := nI_clamp (by omega)
theorem cn_q7 {p : Nat} (h : p < 1000) : nI p / 7 = nI (p / 7) := pk_div (d := 7) (by omega) (by decide) (by decide)
theorem cn_r7 {p : Nat} (h : p < 1000) : nI p - nI p / 7 * 7 = nI (p % 7) := pk_rem (d := 7) (by omega) (by decide) (by decide)
theorem cn_r49 {p : Nat} (h : p < 1000) : nI p - nI p / 49 * 49 = nI (p % 49) := pk_rem (d := 49) (by omega) (by decide) (by decide)
/-- the members of a set -/
def cn_bit (k j : Nat) : Bool := decide (k / 2 ^ j % 2 = 1)
theorem cn_bit_v {m k : Nat} (hm : m < 128) (hk : k < 7) : (nI m >>> (nI k &&& 31)) &&& 1 = nI (m / 2 ^ k % 2) := by
  rw [pk_shrN (by omega) _ k (s_l k (by omega))]
  have e := Nat.div_le_self m (2 ^ k)
  exact pk_andN (m := 1) (by omega) 1 (by decide)
theorem cn_bit_1 {m k : Nat} (hm : m < 128) (hk : k < 7) : (nI m >>> (nI k &&& 31)) &&& 1 = 1 ↔ cn_bit m k = true := by
  rw [cn_bit_v hm hk]
  unfold cn_bit
  rw [decide_eq_true_iff]
  exact nI_eq (b := 1) (by omega) (by decide)
theorem cn_sh {k : Nat} (hk : k < 7) : (1 : Int32) <<< (nI k &&& 31) = nI (2 ^ k) := by
  have e : 2 ^ k < 2 ^ 7 := Nat.pow_lt_pow_right (by decide) hk
  have h := pk_shlN (n := 1) (nI k &&& 31) k (s_l k (by omega)) (by omega)
  rw [Nat.one_mul] at h
  exact h
theorem cn_bit_in : ∀ k, k < 7 → ∀ s, s < 128 → (s &&& 2 ^ k = 2 ^ k ↔ cn_bit s k = true) := by decide +kernel
theorem cn_bit_out : ∀ k, k < 7 → ∀ s, s < 128 → (s &&& 2 ^ k = 0 ↔ ¬ cn_bit s k = true) := by decide +kernel
theorem cn_bit_pw : ∀ k, k < 7 → ∀ j, j < 7 → (cn_bit (2 ^ k) j = true ↔ j = k) := by decide +kernel
theorem cn_pw {k : Nat} (hk : k < 7) : 2 ^ k < 128 := by
  have e : 2 ^ k < 2 ^ 7 := Nat.pow_lt_pow_right (by decide) hk
  omega
theorem cn_and0 {m s : Nat} (hm : m < 128) (hs : s < 128) : (nI s &&& nI m = nI m) ↔ s &&& m = m := by
  rw [nx_and]
  have e : s &&& m ≤ m := Nat.and_le_right
  exact nI_eq (by omega) (by omega)
theorem cn_and1 {m s : Nat} (hm : m < 128) (hs : s < 128) : (nI s &&& nI m = 0) ↔ s &&& m = 0 := by
  rw [nx_and]
  have e : s &&& m ≤ m := Nat.and_le_right
  exact nI_eq (b := 0) (by omega) (by decide)
def cn_set7 (b0 b1 b2 b3 b4 b5 b6 : Bool) : Nat := b0.toNat + 2 * b1.toNat + 4 * b2.toNat + 8 * b3.toNat + 16 * b4.toNat + 32 * b5.toNat + 64 * b6.toNat
theorem cn_set7_lt : ∀ b0 b1 b2 b3 b4 b5 b6 : Bool, cn_set7 b0 b1 b2 b3 b4 b5 b6 < 128 := by decide +kernel
theorem cn_set7_b : ∀ b0 b1 b2 b3 b4 b5 b6 : Bool, cn_bit (cn_set7 b0 b1 b2 b3 b4 b5 b6) 0 = b0 ∧ cn_bit (cn_set7 b0 b1 b2 b3 b4 b5 b6) 1 = b1 ∧ cn_bit (cn_set7 b0 b1 b2 b3 b4 b5 b6) 2 = b2 ∧ cn_bit (cn_set7 b0 b1 b2 b3 b4 b5 b6) 3 = b3 ∧ cn_bit (cn_set7 b0 b1 b2 b3 b4 b5 b6) 4 = b4 ∧ cn_bit (cn_set7 b0 b1 b2 b3 b4 b5 b6) 5 = b5 ∧ cn_bit (cn_set7 b0 b1 b2 b3 b4 b5 b6) 6 = b6 := by decide +kernel
theorem cn_set (M : Nat → Bool) : ∃ k, k < 128 ∧ ∀ j, j < 7 → cn_bit k j = M j := by
  refine ⟨cn_set7 (M 0) (M 1) (M 2) (M 3) (M 4) (M 5) (M 6), cn_set7_lt _ _ _ _ _ _ _, fun j hj => ?_⟩
  obtain ⟨h0, h1, h2, h3, h4, h5, h6⟩ := cn_set7_b (M 0) (M 1) (M 2) (M 3) (M 4) (M 5) (M 6)
  have e : j = 0 ∨ j = 1 ∨ j = 2 ∨ j = 3 ∨ j = 4 ∨ j = 5 ∨ j = 6 := by omega
  rcases e with rfl | rfl | rfl | rfl | rfl | rfl | rfl
  · exact h0
  · exact h1
  · exact h2
  · exact h3
  · exact h4
  · exact h5
  · exact h6
