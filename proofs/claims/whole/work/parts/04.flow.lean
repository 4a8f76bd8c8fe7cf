/-- g u v: what u owes v (below 0: v owes u). What a step from u to v can take, and what one of it costs -/
def cn_room (t : Nat → Int) (g : Nat → Nat → Int) (u v : Nat) : Int := if g u v < 0 then - g u v else t (v * 7 + u) - g u v
def cn_cost (g : Nat → Nat → Int) (u v : Nat) : Int := if g u v < 0 then -1 else 1
/-- a state of debts -/
def cn_St (t : Nat → Int) (g : Nat → Nat → Int) : Prop := ∀ u v, u < 7 → v < 7 → g u v = - g v u ∧ g u v ≤ t (v * 7 + u)
def cn_Opt (t : Nat → Int) (g : Nat → Nat → Int) (q : Nat → Int) : Prop := ∀ u v, u < 7 → v < 7 → u ≠ v → 0 < cn_room t g u v → q v - q u ≤ cn_cost g u v
def cn_po (g : Nat → Nat → Int) (u : Nat) : Int := cn_sum (fun v => g v u) 7
def cn_abs (x : Int) : Int := if 0 ≤ x then x else -x
def cn_pp (x : Int) : Int := if 0 < x then x else 0
/-- twice the sum of all debts -/
def cn_ab (g : Nat → Nat → Int) : Int := cn_sum (fun u => cn_sum (fun v => cn_abs (g u v)) 7) 7
/-- the sum of all debts -/
def cn_tot (g : Nat → Nat → Int) : Int := cn_sum (fun u => cn_sum (fun v => cn_pp (g u v)) 7) 7

theorem cn_loc {t1 t2 x y e : Int} (hx1 : x ≤ t1) (hx2 : -t2 ≤ x) (hy1 : y ≤ t1) (hy2 : -t2 ≤ y)
    (h1 : 0 < (if x < 0 then -x else t1 - x) → e ≤ (if x < 0 then -1 else 1))
    (h2 : 0 < (if -x < 0 then x else t2 + x) → -e ≤ (if -x < 0 then -1 else 1)) :
    e * (y - x) ≤ cn_abs y - cn_abs x := by
  unfold cn_abs
  rcases Int.lt_trichotomy (y - x) 0 with h | h | h
  · have k : e * (y - x) = (-e) * (-(y - x)) := (Int.neg_mul_neg _ _).symm
    rw [k]
    by_cases hp : -x < 0
    · rw [if_pos hp, if_pos hp] at h2
      have m := Int.mul_le_mul_of_nonneg_right (h2 (by omega)) (c := -(y - x)) (by omega)
      generalize (-e) * (-(y - x)) = w at *
      split <;> split <;> omega
    · rw [if_neg hp, if_neg hp] at h2
      have m := Int.mul_le_mul_of_nonneg_right (h2 (by omega)) (c := -(y - x)) (by omega)
      generalize (-e) * (-(y - x)) = w at *
      split <;> split <;> omega
  · rw [h, Int.mul_zero]
    split <;> split <;> omega
  · by_cases hp : x < 0
    · rw [if_pos hp, if_pos hp] at h1
      have m := Int.mul_le_mul_of_nonneg_right (h1 (by omega)) (c := y - x) (by omega)
      generalize e * (y - x) = w at *
      split <;> split <;> omega
    · rw [if_neg hp, if_neg hp] at h1
      have m := Int.mul_le_mul_of_nonneg_right (h1 (by omega)) (c := y - x) (by omega)
      generalize e * (y - x) = w at *
      split <;> split <;> omega

theorem cn_least {t q : Nat → Int} {g f : Nat → Nat → Int} (hf : cn_St t f) (hq : cn_Opt t f q) (hg : cn_St t g)
    (hp : ∀ u, u < 7 → cn_po g u = cn_po f u) : cn_ab f ≤ cn_ab g := by
  have loc : ∀ u v, u < 7 → v < 7 → (q v - q u) * (g u v - f u v) ≤ cn_abs (g u v) - cn_abs (f u v) := by
    intro u v hu hv
    by_cases huv : u = v
    · subst huv
      have a := (hg u u hu hu).1
      have b := (hf u u hu hu).1
      have a' : g u u = 0 := by omega
      have b' : f u u = 0 := by omega
      rw [a', b', Int.sub_self, Int.sub_self]
      decide
    · have h1 := hq u v hu hv huv
      have h2 := hq v u hv hu (fun z => huv z.symm)
      have gy := hg u v hu hv
      have gz := hg v u hv hu
      have fy := hf u v hu hv
      have fz := hf v u hv hu
      unfold cn_room cn_cost at h1 h2
      have ev : f v u = - f u v := fz.1
      rw [ev, Int.neg_neg, Int.sub_neg] at h2
      exact cn_loc (t1 := t (v * 7 + u)) (t2 := t (u * 7 + v)) fy.2 (by omega) gy.2 (by omega) h1 (fun z => by have := h2 z; omega)
  have col : ∀ v, v < 7 → cn_sum (fun u => g u v - f u v) 7 = 0 := by
    intro v hv
    rw [cn_sum_sub]
    have := hp v hv
    unfold cn_po at this
    omega
  have row : ∀ u, u < 7 → cn_sum (fun v => g u v - f u v) 7 = 0 := by
    intro u hu
    have e : cn_sum (fun v => g u v - f u v) 7 = cn_sum (fun v => - (g v u - f v u)) 7 := by
      refine cn_sum_congr (fun v hv => ?_)
      have a := (hg u v hu hv).1
      have b := (hf u v hu hv).1
      omega
    rw [e, cn_sum_neg, col u hu]
    rfl
  have z1 : cn_sum (fun u => cn_sum (fun v => q v * (g u v - f u v)) 7) 7 = 0 := by
    rw [cn_sum_swap, ← cn_sum_0 7]
    refine cn_sum_congr (fun v hv => ?_)
    rw [cn_sum_mul, col v hv, Int.mul_zero]
  have z2 : cn_sum (fun u => cn_sum (fun v => q u * (g u v - f u v)) 7) 7 = 0 := by
    rw [← cn_sum_0 7]
    refine cn_sum_congr (fun u hu => ?_)
    rw [cn_sum_mul, row u hu, Int.mul_zero]
  have z : cn_sum (fun u => cn_sum (fun v => (q v - q u) * (g u v - f u v)) 7) 7 = 0 := by
    have e : cn_sum (fun u => cn_sum (fun v => (q v - q u) * (g u v - f u v)) 7) 7
        = cn_sum (fun u => cn_sum (fun v => q v * (g u v - f u v)) 7 - cn_sum (fun v => q u * (g u v - f u v)) 7) 7 := by
      refine cn_sum_congr (fun u _ => ?_)
      rw [← cn_sum_sub]
      exact cn_sum_congr (fun v _ => Int.sub_mul _ _ _)
    rw [e, cn_sum_sub, z1, z2]
    rfl
  have w : cn_sum (fun u => cn_sum (fun v => (q v - q u) * (g u v - f u v)) 7) 7
      ≤ cn_sum (fun u => cn_sum (fun v => cn_abs (g u v)) 7 - cn_sum (fun v => cn_abs (f u v)) 7) 7 := by
    refine cn_sum_le (fun u hu => ?_)
    rw [← cn_sum_sub]
    exact cn_sum_le (fun v hv => loc u v hu hv)
  rw [z, cn_sum_sub] at w
  unfold cn_ab
  omega

/-- the 49 places as seven rows of seven -/
theorem cn_sum49 (o : Nat → Int) : cn_sum o 49 = cn_sum (fun u => cn_sum (fun v => o (u * 7 + v)) 7) 7 := by
  have h : ∀ n, cn_sum o (n * 7) = cn_sum (fun u => cn_sum (fun v => o (u * 7 + v)) 7) n := by
    intro n
    induction n with
    | zero => rfl
    | succ n ih => rw [Nat.succ_mul, cn_sum_split, ih]; rfl
  exact h 7

theorem cn_ab_tot {t : Nat → Int} {g : Nat → Nat → Int} (hg : cn_St t g) : cn_ab g = 2 * cn_tot g := by
  have e : cn_ab g = cn_sum (fun u => cn_sum (fun v => cn_pp (g u v)) 7 + cn_sum (fun v => cn_pp (g v u)) 7) 7 := by
    unfold cn_ab
    refine cn_sum_congr (fun u hu => ?_)
    rw [← cn_sum_add]
    refine cn_sum_congr (fun v hv => ?_)
    have a := (hg u v hu hv).1
    unfold cn_abs cn_pp
    split <;> split <;> split <;> omega
  rw [e, cn_sum_add, cn_sum_swap (fun u v => cn_pp (g v u))]
  unfold cn_tot
  omega

theorem cn_anti {f : Nat → Nat → Int} {n : Nat} (h : ∀ u v, u < n → v < n → f u v = - f v u) : cn_sum (fun u => cn_sum (fun v => f u v) n) n = 0 := by
  have a := cn_sum_swap f n n
  have b : cn_sum (fun j => cn_sum (fun i => f i j) n) n = - cn_sum (fun u => cn_sum (fun v => f u v) n) n := by
    rw [← cn_sum_neg]
    refine cn_sum_congr (fun j hj => ?_)
    rw [← cn_sum_neg]
    exact cn_sum_congr (fun i hi => h i j hi hj)
  omega

theorem cn_po_sum {t : Nat → Int} {g : Nat → Nat → Int} (hg : cn_St t g) : cn_sum (cn_po g) 7 = 0 :=
  cn_anti (f := fun w v => g v w) (n := 7) (fun u v hu hv => (hg v u hv hu).1)

/-- u owes v so much more -/
def cn_add (g : Nat → Nat → Int) (u v : Nat) (a : Int) : Nat → Nat → Int :=
  fun x y => if x = u ∧ y = v then g u v + a else if x = v ∧ y = u then g v u - a else g x y

theorem cn_add_1 {g : Nat → Nat → Int} {u v : Nat} {a : Int} : cn_add g u v a u v = g u v + a := if_pos ⟨rfl, rfl⟩
theorem cn_add_2 {g : Nat → Nat → Int} {u v : Nat} {a : Int} (h : u ≠ v) : cn_add g u v a v u = g v u - a := by
  unfold cn_add
  rw [if_neg (fun z => h z.2), if_pos ⟨rfl, rfl⟩]
theorem cn_add_3 {g : Nat → Nat → Int} {u v x y : Nat} {a : Int} (h : ¬ (x = u ∧ y = v)) (h' : ¬ (x = v ∧ y = u)) : cn_add g u v a x y = g x y := by
  unfold cn_add
  rw [if_neg h, if_neg h']

theorem cn_add_St {t : Nat → Int} {g : Nat → Nat → Int} {u v : Nat} {a : Int} (hg : cn_St t g) (hu : u < 7) (hv : v < 7) (huv : u ≠ v) (ha : 0 ≤ a) (hr : a ≤ cn_room t g u v)
    (ht : ∀ u v, u < 7 → v < 7 → 0 ≤ t (u * 7 + v)) : cn_St t (cn_add g u v a) := by
  have A := hg u v hu hv
  have B := hg v u hv hu
  have T1 := ht u v hu hv
  have T2 := ht v u hv hu
  unfold cn_room at hr
  have r1 : g u v + a ≤ t (v * 7 + u) := by split at hr <;> omega
  intro x y hx hy
  by_cases e : x = u ∧ y = v
  · obtain ⟨rfl, rfl⟩ := e
    rw [cn_add_1, cn_add_2 huv]
    exact ⟨by omega, r1⟩
  · by_cases e' : x = v ∧ y = u
    · obtain ⟨rfl, rfl⟩ := e'
      rw [cn_add_1, cn_add_2 huv]
      exact ⟨by omega, by omega⟩
    · rw [cn_add_3 e e', cn_add_3 (fun z => e' ⟨z.2, z.1⟩) (fun z => e ⟨z.2, z.1⟩)]
      exact hg x y hx hy

theorem cn_add_Opt {t q : Nat → Int} {g : Nat → Nat → Int} {u v : Nat} {a : Int} (hg : cn_St t g) (hq : cn_Opt t g q) (hu : u < 7) (hv : v < 7) (huv : u ≠ v) (ha : 0 ≤ a) (hr : a ≤ cn_room t g u v)
    (ht : q v - q u = cn_cost g u v) : cn_Opt t (cn_add g u v a) q := by
  have A := hg u v hu hv
  have B := hg v u hv hu
  have pair : (0 < cn_room t (cn_add g u v a) u v → q v - q u ≤ cn_cost (cn_add g u v a) u v) ∧ (q u - q v ≤ cn_cost (cn_add g u v a) v u) := by
    unfold cn_cost at ht ⊢
    unfold cn_room at hr
    rw [cn_add_1, cn_add_2 huv]
    refine ⟨fun _ => ?_, ?_⟩
    · split at hr <;> split at ht <;> split <;> omega
    · split at hr <;> split at ht <;> split <;> omega
  intro x y hx hy hxy hp
  by_cases e : x = u ∧ y = v
  · obtain ⟨rfl, rfl⟩ := e
    exact pair.1 hp
  · by_cases e' : x = v ∧ y = u
    · obtain ⟨rfl, rfl⟩ := e'
      exact pair.2
    · unfold cn_room at hp
      unfold cn_cost
      rw [cn_add_3 e e'] at hp ⊢
      exact hq x y hx hy hxy hp

theorem cn_add_po {g : Nat → Nat → Int} {u v w : Nat} {a : Int} (hu : u < 7) (hv : v < 7) (huv : u ≠ v) :
    cn_po (cn_add g u v a) w = cn_po g w + (if w = v then a else 0) - (if w = u then a else 0) := by
  unfold cn_po
  by_cases e : w = v
  · subst e
    rw [if_pos rfl, if_neg (fun z => huv z.symm)]
    have k : cn_sum (fun x => cn_add g u w a x w) 7 = cn_sum (cn_up (fun x => g x w) u (g u w + a)) 7 := by
      refine cn_sum_congr (fun x hx => ?_)
      by_cases f : x = u
      · subst f
        rw [cn_up_s]
        exact cn_add_1
      · rw [cn_up_n f]
        exact cn_add_3 (fun z => f z.1) (fun z => huv z.2.symm)
    rw [k, cn_sum_up _ _ hu]
    omega
  · rw [if_neg e]
    by_cases e' : w = u
    · subst e'
      rw [if_pos rfl]
      have k : cn_sum (fun x => cn_add g w v a x w) 7 = cn_sum (cn_up (fun x => g x w) v (g v w - a)) 7 := by
        refine cn_sum_congr (fun x hx => ?_)
        by_cases f : x = v
        · subst f
          rw [cn_up_s]
          exact cn_add_2 huv
        · rw [cn_up_n f]
          exact cn_add_3 (fun z => e z.2) (fun z => f z.1)
      rw [k, cn_sum_up _ _ hv]
      omega
    · rw [if_neg e']
      have k : cn_sum (fun x => cn_add g u v a x w) 7 = cn_sum (fun x => g x w) 7 :=
        cn_sum_congr (fun x hx => cn_add_3 (fun z => e z.2) (fun z => e' z.2))
      rw [k]
      omega
