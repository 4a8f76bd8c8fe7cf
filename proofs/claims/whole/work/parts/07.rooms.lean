theorem cn_rm_congr {t t' P P' : Nat → Int} {M M' : Nat → Bool} (ht : ∀ u v, u < 7 → v < 7 → t (u * 7 + v) = t' (u * 7 + v)) (hP : ∀ u, u < 7 → P u = P' u) (hM : ∀ u, u < 7 → M u = M' u) :
    cn_rm t P M = cn_rm t' P' M' := by
  refine cn_sum_congr (fun u hu => ?_)
  have e : cn_sum (fun v => if M v then 0 else t (u * 7 + v)) 7 = cn_sum (fun v => if M' v then 0 else t' (u * 7 + v)) 7 :=
    cn_sum_congr (fun v hv => by rw [hM v hv, ht u v hu hv])
  rw [e, hM u hu, hP u hu]

/-- a trust anew -/
theorem cn_rm_t {t P : Nat → Int} {M : Nat → Bool} {u v : Nat} {y : Int} (hu : u < 7) (hv : v < 7) :
    cn_rm (cn_up t (u * 7 + v) y) P M = cn_rm t P M + (if M u = true ∧ ¬ M v = true then y - t (u * 7 + v) else 0) := by
  unfold cn_rm
  have far : ∀ a, a < 7 → a ≠ u → cn_sum (fun b => if M b then 0 else cn_up t (u * 7 + v) y (a * 7 + b)) 7 = cn_sum (fun b => if M b then 0 else t (a * 7 + b)) 7 := by
    intro a ha e
    refine cn_sum_congr (fun b hb => ?_)
    rw [cn_up_n (by omega)]
  have near : cn_sum (fun b => if M b then 0 else cn_up t (u * 7 + v) y (u * 7 + b)) 7 = cn_sum (fun b => if M b then 0 else t (u * 7 + b)) 7 + (if M v then 0 else y - t (u * 7 + v)) := by
    have k : cn_sum (fun b => if M b then 0 else cn_up t (u * 7 + v) y (u * 7 + b)) 7 = cn_sum (cn_up (fun b => if M b then 0 else t (u * 7 + b)) v (if M v then 0 else y)) 7 := by
      refine cn_sum_congr (fun b hb => ?_)
      by_cases e : b = v
      · subst e
        rw [cn_up_s, cn_up_s]
      · rw [cn_up_n e, cn_up_n (by omega)]
    rw [k, cn_sum_up _ _ hv]
    by_cases e : M v = true
    · simp only [e, if_true]
      omega
    · simp only [e]
      rfl
  have k : cn_sum (fun a => if M a then cn_sum (fun b => if M b then 0 else cn_up t (u * 7 + v) y (a * 7 + b)) 7 - P a else 0) 7
      = cn_sum (cn_up (fun a => if M a then cn_sum (fun b => if M b then 0 else t (a * 7 + b)) 7 - P a else 0) u
        (if M u then cn_sum (fun b => if M b then 0 else t (u * 7 + b)) 7 + (if M v then 0 else y - t (u * 7 + v)) - P u else 0)) 7 := by
    refine cn_sum_congr (fun a ha => ?_)
    by_cases e : a = u
    · subst e
      rw [cn_up_s, near]
    · rw [cn_up_n e, far a ha e]
  rw [k, cn_sum_up _ _ hu]
  by_cases e : M u = true
  · by_cases f : M v = true
    · simp only [e, f, if_true, not_true, and_false, if_false]
      omega
    · simp only [e, f, if_true]
      simp
      omega
  · simp only [e]
    simp

/-- a position anew -/
theorem cn_rm_P {t P : Nat → Int} {M : Nat → Bool} {w : Nat} {y : Int} (hw : w < 7) :
    cn_rm t (cn_up P w y) M = cn_rm t P M - (if M w = true then y - P w else 0) := by
  unfold cn_rm
  have k : cn_sum (fun a => if M a then cn_sum (fun b => if M b then 0 else t (a * 7 + b)) 7 - cn_up P w y a else 0) 7
      = cn_sum (cn_up (fun a => if M a then cn_sum (fun b => if M b then 0 else t (a * 7 + b)) 7 - P a else 0) w
        (if M w then cn_sum (fun b => if M b then 0 else t (w * 7 + b)) 7 - y else 0)) 7 := by
    refine cn_sum_congr (fun a ha => ?_)
    by_cases e : a = w
    · subst e
      rw [cn_up_s, cn_up_s]
    · rw [cn_up_n e, cn_up_n e]
  rw [k, cn_sum_up _ _ hw]
  by_cases e : M w = true
  · simp only [e, if_true]
    omega
  · simp only [e]
    simp

/-- trusts as they may be -/
def cn_T (t : Nat → Int) : Prop := ∀ j, 0 ≤ t j ∧ t j ≤ 1000

theorem cn_in_b {t : Nat → Int} {M : Nat → Bool} {u : Nat} (ht : cn_T t) : 0 ≤ cn_sum (fun b => if M b then 0 else t (u * 7 + b)) 7 ∧ cn_sum (fun b => if M b then 0 else t (u * 7 + b)) 7 ≤ 7000 := by
  refine ⟨cn_sum_nn (fun b _ => ?_), ?_⟩
  · have := ht (u * 7 + b)
    split <;> omega
  · refine Int.le_trans (cn_sum_ub (b := 1000) (fun b _ => ?_)) (by omega)
    have := ht (u * 7 + b)
    split <;> omega

theorem cn_rm_hi {t P : Nat → Int} {M : Nat → Bool} (ht : cn_T t) : cn_rm t P M ≤ cn_sum (fun u => if M u then 7000 - P u else 0) 7 := by
  refine cn_sum_le (fun u hu => ?_)
  have := (cn_in_b (M := M) (u := u) ht).2
  split <;> omega

theorem cn_rm_b {t P : Nat → Int} {M : Nat → Bool} (ht : cn_T t) (hP : ∀ w, w < 7 → -1000000 ≤ P w ∧ P w ≤ 1000000) : -8000000 ≤ cn_rm t P M ∧ cn_rm t P M ≤ 8000000 := by
  refine ⟨?_, ?_⟩
  · have h : cn_sum (fun _ => -1000000) 7 ≤ cn_rm t P M := by
      refine cn_sum_le (fun u hu => ?_)
      have a := (cn_in_b (M := M) (u := u) ht).1
      have b := hP u hu
      split <;> omega
    have e : cn_sum (fun _ => -1000000) 7 = -7000000 := by decide
    omega
  · have h : cn_rm t P M ≤ cn_sum (fun _ => 1007000) 7 := by
      refine cn_sum_le (fun u hu => ?_)
      have a := (cn_in_b (M := M) (u := u) ht).2
      have b := hP u hu
      split <;> omega
    have e : cn_sum (fun _ => 1007000) 7 = 7049000 := by decide
    omega

/-- positions that are possible are near 0 -/
theorem cn_P_b {t P : Nat → Int} (ht : cn_T t) (hr : ∀ k, k < 128 → 0 ≤ cn_rm t P (cn_bit k)) (hs : cn_sum P 7 = 0) : ∀ w, w < 7 → -50000 ≤ P w ∧ P w ≤ 50000 := by
  intro w hw
  have all : ∀ M : Nat → Bool, 0 ≤ cn_rm t P M := by
    intro M
    obtain ⟨k, hk, e⟩ := cn_set M
    have := hr k hk
    rw [cn_rm_congr (t' := t) (P' := P) (M' := M) (fun _ _ _ _ => rfl) (fun _ _ => rfl) e] at this
    exact this
  have up : P w ≤ 7000 := by
    have a := all (fun u => decide (u = w))
    have b := cn_rm_hi (P := P) (M := fun u => decide (u = w)) ht
    have e : cn_sum (fun u => if decide (u = w) = true then 7000 - P u else 0) 7 = cn_sum (cn_up (fun _ => 0) w (7000 - P w)) 7 := by
      refine cn_sum_congr (fun u _ => ?_)
      by_cases f : u = w
      · subst f
        rw [cn_up_s, if_pos (decide_eq_true rfl)]
      · rw [cn_up_n f, if_neg (fun z => f (of_decide_eq_true z))]
    rw [e, cn_sum_up _ _ hw, cn_sum_0] at b
    omega
  have lo : -P w ≤ 42000 := by
    have a := all (fun u => decide (u ≠ w))
    have b := cn_rm_hi (P := P) (M := fun u => decide (u ≠ w)) ht
    have e : cn_sum (fun u => if decide (u ≠ w) = true then 7000 - P u else 0) 7 = cn_sum (cn_up (fun u => 7000 - P u) w 0) 7 := by
      refine cn_sum_congr (fun u _ => ?_)
      by_cases f : u = w
      · subst f
        rw [cn_up_s, if_neg (fun z => (of_decide_eq_true z) rfl)]
      · rw [cn_up_n f, if_pos (decide_eq_true f)]
    rw [e, cn_sum_up _ _ hw, cn_sum_sub, hs] at b
    have c : cn_sum (fun _ => (7000 : Int)) 7 = 49000 := by decide
    omega
  omega

theorem cn_Ok_of {t P : Nat → Int} (hr : ∀ k, k < 128 → 0 ≤ cn_rm t P (cn_bit k)) (hs : cn_sum P 7 = 0) : cn_Ok t P := by
  refine ⟨fun M => ?_, hs⟩
  obtain ⟨k, hk, e⟩ := cn_set M
  have := hr k hk
  rw [cn_rm_congr (t' := t) (P' := P) (M' := M) (fun _ _ _ _ => rfl) (fun _ _ => rfl) e] at this
  exact this

/-- the least room of the sets below n that have m and have nothing of x (and of m itself) -/
def cn_lr (t P : Nat → Int) (m x : Nat) : Nat → Int
  | 0 => cn_rm t P (cn_bit m)
  | n + 1 => if n &&& m = m ∧ n &&& x = 0 ∧ cn_rm t P (cn_bit n) < cn_lr t P m x n then cn_rm t P (cn_bit n) else cn_lr t P m x n

def cn_Lr (t P : Nat → Int) (m x : Nat) (r : Int) : Prop :=
  (∀ s, s < 128 → s &&& m = m → s &&& x = 0 → r ≤ cn_rm t P (cn_bit s)) ∧ ∃ s, s < 128 ∧ s &&& m = m ∧ s &&& x = 0 ∧ r = cn_rm t P (cn_bit s)

theorem cn_Lr_eq {t P : Nat → Int} {m x : Nat} {r r' : Int} (h : cn_Lr t P m x r) (h' : cn_Lr t P m x r') : r = r' := by
  obtain ⟨a, s, s1, s2, s3, s4⟩ := h
  obtain ⟨a', s', s1', s2', s3', s4'⟩ := h'
  have x := a s' s1' s2' s3'
  have y := a' s s1 s2 s3
  omega

theorem cn_lr_Lr {t P : Nat → Int} {m x : Nat} (hm : m < 128) (hx : m &&& x = 0) : cn_Lr t P m x (cn_lr t P m x 128) := by
  have key : ∀ n, n ≤ 128 → (∀ s, s < n → s &&& m = m → s &&& x = 0 → cn_lr t P m x n ≤ cn_rm t P (cn_bit s)) ∧ ∃ s, s < 128 ∧ s &&& m = m ∧ s &&& x = 0 ∧ cn_lr t P m x n = cn_rm t P (cn_bit s) := by
    intro n
    induction n with
    | zero => intro _; exact ⟨fun s hs => by omega, m, hm, Nat.and_self m, hx, rfl⟩
    | succ n ih =>
      intro hn
      obtain ⟨a, b⟩ := ih (by omega)
      have e : cn_lr t P m x (n + 1) = if n &&& m = m ∧ n &&& x = 0 ∧ cn_rm t P (cn_bit n) < cn_lr t P m x n then cn_rm t P (cn_bit n) else cn_lr t P m x n := rfl
      by_cases c : n &&& m = m ∧ n &&& x = 0 ∧ cn_rm t P (cn_bit n) < cn_lr t P m x n
      · rw [if_pos c] at e
        rw [e]
        refine ⟨fun s hs h1 h2 => ?_, n, by omega, c.1, c.2.1, rfl⟩
        by_cases f : s = n
        · subst f; exact Int.le_refl _
        · have := a s (by omega) h1 h2
          omega
      · rw [if_neg c] at e
        rw [e]
        refine ⟨fun s hs h1 h2 => ?_, b⟩
        by_cases f : s = n
        · subst f
          have : ¬ cn_rm t P (cn_bit s) < cn_lr t P m x s := fun z => c ⟨h1, h2, z⟩
          omega
        · exact a s (by omega) h1 h2
  exact key 128 (Nat.le_refl _)

theorem cn_lr_b {t P : Nat → Int} {m x : Nat} (ht : cn_T t) (hP : ∀ w, w < 7 → -1000000 ≤ P w ∧ P w ≤ 1000000) : ∀ n, -8000000 ≤ cn_lr t P m x n ∧ cn_lr t P m x n ≤ 8000000 := by
  intro n
  induction n with
  | zero => exact cn_rm_b ht hP
  | succ n ih =>
    have e : cn_lr t P m x (n + 1) = if n &&& m = m ∧ n &&& x = 0 ∧ cn_rm t P (cn_bit n) < cn_lr t P m x n then cn_rm t P (cn_bit n) else cn_lr t P m x n := rfl
    rw [e]
    split
    · exact cn_rm_b ht hP
    · exact ih

/-- what Y has of it behind n sets -/
def cn_Ly (t P : Nat → Int) (m x n : Nat) (r : Int) : Prop :=
  (r = -1 ∧ ∀ s, s < n → s &&& m = m → ¬ s &&& x = 0) ∨
  ((∀ s, s < n → s &&& m = m → s &&& x = 0 → r ≤ cn_rm t P (cn_bit s)) ∧ ∃ s, s < n ∧ s &&& m = m ∧ s &&& x = 0 ∧ r = cn_rm t P (cn_bit s))

theorem cn_Ly_0 {t P : Nat → Int} {m x : Nat} : cn_Ly t P m x 0 (-1) := Or.inl ⟨rfl, fun s hs => by omega⟩

theorem cn_Ly_no {t P : Nat → Int} {m x n : Nat} {r : Int} (h : cn_Ly t P m x n r) (hn : n &&& m = m → ¬ n &&& x = 0) : cn_Ly t P m x (n + 1) r := by
  rcases h with ⟨a, b⟩ | ⟨a, s, s1, s2⟩
  · refine Or.inl ⟨a, fun s hs h1 => ?_⟩
    by_cases f : s = n
    · subst f; exact hn h1
    · exact b s (by omega) h1
  · refine Or.inr ⟨fun s hs h1 h2 => ?_, s, by omega, s2⟩
    by_cases f : s = n
    · subst f; exact absurd h2 (hn h1)
    · exact a s (by omega) h1 h2

theorem cn_Ly_new {t P : Nat → Int} {m x n : Nat} {r : Int} (h : cn_Ly t P m x n r) (h1 : n &&& m = m) (h2 : n &&& x = 0)
    (hc : r < 0 ∨ cn_rm t P (cn_bit n) < r) (hr : ∀ s, s < 128 → 0 ≤ cn_rm t P (cn_bit s)) (hn : n < 128) : cn_Ly t P m x (n + 1) (cn_rm t P (cn_bit n)) := by
  refine Or.inr ⟨fun s hs g1 g2 => ?_, n, by omega, h1, h2, rfl⟩
  by_cases f : s = n
  · subst f; exact Int.le_refl _
  · rcases h with ⟨a, b⟩ | ⟨a, s', s1, s2, s3, s4⟩
    · exact absurd g2 (b s (by omega) g1)
    · have x := a s (by omega) g1 g2
      have y := hr s' (by omega)
      omega

theorem cn_Ly_keep {t P : Nat → Int} {m x n : Nat} {r : Int} (h : cn_Ly t P m x n r)
    (hc : ¬ r < 0) (hc' : ¬ cn_rm t P (cn_bit n) < r) : cn_Ly t P m x (n + 1) r := by
  rcases h with ⟨a, b⟩ | ⟨a, s', s1, s2⟩
  · omega
  · refine Or.inr ⟨fun s hs g1 g2 => ?_, s', by omega, s2⟩
    by_cases f : s = n
    · subst f; omega
    · exact a s (by omega) g1 g2

theorem cn_Ly_e {t P : Nat → Int} {m x : Nat} {r : Int} (h : cn_Ly t P m x 128 r) (hm : m < 128) (hx : m &&& x = 0) : cn_Lr t P m x r := by
  rcases h with ⟨a, b⟩ | h
  · exact absurd hx (b m hm (Nat.and_self m))
  · exact h

theorem cn_Ly_b {t P : Nat → Int} {m x n : Nat} {r : Int} (h : cn_Ly t P m x n r) (ht : cn_T t) (hP : ∀ w, w < 7 → -1000000 ≤ P w ∧ P w ≤ 1000000) : -8000000 ≤ r ∧ r ≤ 8000000 := by
  rcases h with ⟨a, b⟩ | ⟨a, s', s1, s2, s3, s4⟩
  · omega
  · rw [s4]
    exact cn_rm_b ht hP
