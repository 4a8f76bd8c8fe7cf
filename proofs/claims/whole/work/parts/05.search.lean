/-- the search for shortest ways from the members S: labels d (U: not reached), p the member before; R the steps that can be made, c their costs, q a potential that is b on S -/
def cn_Ws (R : Nat → Nat → Prop) (c : Nat → Nat → Int) (q : Nat → Int) (b : Int) (S : Nat → Prop) (U B : Int) (d : Nat → Int) (p : Nat → Nat) : Prop :=
  (∀ s, s < 7 → S s → d s = 0 ∧ p s = s) ∧
  (∀ v, v < 7 → d v = U ∨ (-B ≤ d v ∧ d v ≤ B)) ∧
  (∀ v, v < 7 → d v ≠ U → q v - b ≤ d v) ∧
  (∀ v, v < 7 → ¬ S v → d v ≠ U → p v < 7 ∧ d (p v) ≠ U ∧ R (p v) v ∧ d (p v) + c (p v) v ≤ d v) ∧
  (∃ r : Nat → Nat, ∀ v, v < 7 → ¬ S v → d v ≠ U → r (p v) < r v)

/-- the potential is right for every step -/
def cn_Pt (R : Nat → Nat → Prop) (c : Nat → Nat → Int) (q : Nat → Int) : Prop := ∀ u v, u < 7 → v < 7 → R u v → q v - q u ≤ c u v

def cn_it (p : Nat → Nat) : Nat → Nat → Nat
  | 0, v => v
  | n + 1, v => cn_it p n (p v)
theorem cn_it_0 (p : Nat → Nat) (v : Nat) : cn_it p 0 v = v := rfl
theorem cn_it_s (p : Nat → Nat) (n v : Nat) : cn_it p (n + 1) v = cn_it p n (p v) := rfl
theorem cn_it_fix {p : Nat → Nat} {s : Nat} (h : p s = s) : ∀ n, cn_it p n s = s := by
  intro n
  induction n with
  | zero => rfl
  | succ n ih => rw [cn_it_s, h, ih]
theorem cn_it_r (p : Nat → Nat) (n v : Nat) : cn_it p (n + 1) v = p (cn_it p n v) := by
  induction n generalizing v with
  | zero => rfl
  | succ n ih => rw [cn_it_s, ih, ← cn_it_s]

section
variable {R : Nat → Nat → Prop} {c : Nat → Nat → Int} {q : Nat → Int} {b : Int} {S : Nat → Prop} {U B : Int} {d : Nat → Int} {p : Nat → Nat}

theorem cn_Ws_up (h : cn_Ws R c q b S U B d p) {B' : Int} (hB : B ≤ B') : cn_Ws R c q b S U B' d p := by
  obtain ⟨h1, h2, h3⟩ := h
  refine ⟨h1, fun v hv => ?_, h3⟩
  rcases h2 v hv with a | a
  · exact Or.inl a
  · exact Or.inr ⟨by omega, by omega⟩

/-- up the tree, label less potential doesn't rise -/
theorem cn_anc (hR : cn_Pt R c q) (h : cn_Ws R c q b S U B d p) {v : Nat} (hv : ¬ S v) :
    ∀ n w, w < 7 → d w ≠ U → cn_it p n w = v → d v ≠ U ∧ d v - q v ≤ d w - q w := by
  obtain ⟨h1, h2, h3, h4, h5⟩ := h
  intro n
  induction n with
  | zero =>
    intro w hw hd e
    rw [cn_it_0] at e
    subst e
    exact ⟨hd, Int.le_refl _⟩
  | succ n ih =>
    intro w hw hd e
    by_cases hws : S w
    · rw [cn_it_fix (h1 w hw hws).2] at e
      subst e
      exact absurd hws hv
    · obtain ⟨a, b, e1, e2⟩ := h4 w hw hws hd
      rw [cn_it_s] at e
      obtain ⟨x, y⟩ := ih (p w) a b e
      have z := hR (p w) w a hw e1
      exact ⟨x, by omega⟩

/-- a step that makes a label less -/
theorem cn_relax (hR : cn_Pt R c q) (hS : ∀ s, s < 7 → S s → q s = b) (h : cn_Ws R c q b S U B d p) {u v : Nat} (hu : u < 7) (hv : v < 7)
    (hdu : d u ≠ U) (ha : R u v) (hl : d u + c u v < d v) (hc : -1 ≤ c u v ∧ c u v ≤ 1) (hB' : B + 1 < U) :
    ¬ S v ∧ u ≠ v ∧ cn_Ws R c q b S U (B + 1) (cn_up d v (d u + c u v)) (cn_un p v u) := by
  have W := h
  obtain ⟨h1, h2, h3, h4, r, h5⟩ := h
  have z := hR u v hu hv ha
  have l := h3 u hu hdu
  have vs : ¬ S v := by
    intro e
    have x := (h1 v hv e).1
    have y := hS v hv e
    omega
  have uv : u ≠ v := by
    intro e
    subst e
    omega
  have ub : -B ≤ d u ∧ d u ≤ B := by
    rcases h2 u hu with a | a
    · exact absurd a hdu
    · exact a
  have nd : ∀ n, cn_it p n u ≠ v := by
    intro n e
    obtain ⟨x, y⟩ := cn_anc hR W vs n u hu hdu e
    omega
  have nw : d u + c u v ≠ U := by omega
  refine ⟨vs, uv, ?_, ?_, ?_, ?_, ?_⟩
  · intro s hs he
    have sv : s ≠ v := fun e => vs (e ▸ he)
    rw [cn_up_n sv, cn_un_n sv]
    exact h1 s hs he
  · intro w hw
    by_cases e : w = v
    · subst e
      rw [cn_up_s]
      exact Or.inr ⟨by omega, by omega⟩
    · rw [cn_up_n e]
      rcases h2 w hw with a | a
      · exact Or.inl a
      · exact Or.inr ⟨by omega, by omega⟩
  · intro w hw hd
    by_cases e : w = v
    · subst e
      rw [cn_up_s]
      omega
    · rw [cn_up_n e] at hd ⊢
      exact h3 w hw hd
  · intro w hw hws hd
    by_cases e : w = v
    · subst e
      rw [cn_un_s, cn_up_n uv, cn_up_s]
      exact ⟨hu, hdu, ha, Int.le_refl _⟩
    · rw [cn_up_n e] at hd
      rw [cn_un_n e, cn_up_n e]
      obtain ⟨a, b, e1, e2⟩ := h4 w hw hws hd
      by_cases f : p w = v
      · rw [f] at e1 e2 a ⊢
        rw [cn_up_s]
        exact ⟨a, nw, e1, by omega⟩
      · rw [cn_up_n f]
        exact ⟨a, b, e1, e2⟩
  · classical
    refine ⟨fun w => if ∃ n, cn_it p n w = v then r w + (r u + 1) else r w, ?_⟩
    intro w hw hws hd
    by_cases e : w = v
    · subst e
      rw [cn_un_s]
      have a : ¬ ∃ n, cn_it p n u = w := fun ⟨n, hn⟩ => nd n hn
      have b : ∃ n, cn_it p n w = w := ⟨0, rfl⟩
      show (if ∃ n, cn_it p n u = w then r u + (r u + 1) else r u) < (if ∃ n, cn_it p n w = w then r w + (r u + 1) else r w)
      rw [if_neg a, if_pos b]
      omega
    · rw [cn_up_n e] at hd
      rw [cn_un_n e]
      have k := h5 w hw hws hd
      show (if ∃ n, cn_it p n (p w) = v then r (p w) + (r u + 1) else r (p w)) < (if ∃ n, cn_it p n w = v then r w + (r u + 1) else r w)
      by_cases f : ∃ n, cn_it p n w = v
      · have g : ∃ n, cn_it p n (p w) = v := by
          obtain ⟨n, hn⟩ := f
          cases n with
          | zero => exact absurd hn e
          | succ n => exact ⟨n, hn⟩
        rw [if_pos f, if_pos g]
        omega
      · have g : ¬ ∃ n, cn_it p n (p w) = v := fun ⟨n, hn⟩ => f ⟨n + 1, hn⟩
        rw [if_neg f, if_neg g]
        exact k

/-- six rounds over all steps: no label can be made less any more -/
theorem cn_done {H : Nat → Nat → Int} {K : Nat} (hK : 6 ≤ K) (hR : cn_Pt R c q) (hS : ∀ s, s < 7 → S s → q s = b) (hc : ∀ u v, -1 ≤ c u v ∧ c u v ≤ 1) (hB : B < U)
    (h : cn_Ws R c q b S U B (H K) p) (h0 : ∀ s, s < 7 → S s → H 0 s ≤ 0)
    (hm : ∀ k v, k < K → v < 7 → H (k + 1) v ≤ H k v)
    (hst : ∀ k u v, k < K → u < 7 → v < 7 → H k u < U → R u v → H (k + 1) v ≤ H k u + c u v) :
    ∀ u v, u < 7 → v < 7 → H K u ≠ U → R u v → H K v ≤ H K u + c u v := by
  have W := h
  obtain ⟨h1, h2, h3, h4, r, h5⟩ := h
  intro u v hu hv hd ha
  have mono : ∀ v, v < 7 → ∀ i j, i + j ≤ K → H (i + j) v ≤ H i v := by
    intro v hv i j
    induction j with
    | zero => intro _; exact Int.le_refl _
    | succ j jh =>
      intro hj
      have x := jh (by omega)
      have y := hm (i + j) v (by omega) hv
      rw [Nat.add_assoc] at y
      omega
  by_cases vs : S v
  · have x := h3 u hu hd
    have y := hR u v hu hv ha
    have z := hS v hv vs
    have w := (h1 v hv vs).1
    omega
  by_cases an : ∃ n, cn_it p n u = v
  · obtain ⟨n, hn⟩ := an
    obtain ⟨x, y⟩ := cn_anc hR W vs n u hu hd hn
    have b := hR u v hu hv ha
    omega
  have nd : ∀ n, cn_it p n u ≠ v := fun n hn => an ⟨n, hn⟩
  have bnd : ∀ w, w < 7 → H K w ≠ U → H K w < U := by
    intro w hw e
    rcases h2 w hw with a | a
    · exact absurd a e
    · omega
  -- below the top of the tree the labels come early
  have key : ∀ n, n ≤ 6 → ∀ w, w < 7 → H K w ≠ U → (∀ m, cn_it p m w ≠ v) → cn_cnt (fun x => decide (r x < r w) && decide (x ≠ v)) 7 ≤ n → H n w ≤ H K w := by
    intro n
    induction n with
    | zero =>
      intro _ w hw hdw hnd hcw
      by_cases ws : S w
      · have x := h0 w hw ws
        have y := (h1 w hw ws).1
        omega
      · obtain ⟨a, b, e1, e2⟩ := h4 w hw ws hdw
        have k := h5 w hw ws hdw
        have nv : p w ≠ v := hnd 1
        have f := cn_cnt_lt (P := fun _ => false) (Q := fun x => decide (r x < r w) && decide (x ≠ v)) (w := p w) (n := 7) (fun i _ z => by simp at z) a rfl (by simp [k, nv])
        omega
    | succ n ih =>
      intro hn w hw hdw hnd hcw
      by_cases ws : S w
      · have x := h0 w hw ws
        have y := (h1 w hw ws).1
        have z := mono w hw 0 (n + 1) (by omega)
        rw [Nat.zero_add] at z
        omega
      · obtain ⟨a, b, e1, e2⟩ := h4 w hw ws hdw
        have k := h5 w hw ws hdw
        have nv : p w ≠ v := hnd 1
        have f := cn_cnt_lt (P := fun x => decide (r x < r (p w)) && decide (x ≠ v)) (Q := fun x => decide (r x < r w) && decide (x ≠ v)) (w := p w) (n := 7)
          (fun i _ z => by simp at z ⊢; exact ⟨by omega, z.2⟩) a (by simp) (by simp [k, nv])
        have g := ih (by omega) (p w) a b (fun m => hnd (m + 1)) (by omega)
        have bw := bnd (p w) a b
        have x := hst n (p w) w (by omega) a hw (by omega) e1
        omega
  have uv : u ≠ v := nd 0
  have five := cn_cnt_2 (P := fun x => decide (r x < r u) && decide (x ≠ v)) (u := u) (v := v) (n := 7) hu hv uv (by simp) (by simp)
  have e := key 5 (by omega) u hu hd nd (by omega)
  have bu := bnd u hu hd
  have x := hst 5 u v (by omega) hu hv (by omega) ha
  have y := mono v hv 6 (K - 6) (by omega)
  rw [show 6 + (K - 6) = K by omega] at y
  have x' : H 6 v ≤ H 5 u + c u v := x
  omega
end

section
variable {R : Nat → Nat → Prop} {c : Nat → Nat → Int} {q : Nat → Int} {b : Int} {S : Nat → Prop} {U B : Int} {p : Nat → Nat}

/-- within a round over all steps, begun with the labels d0: those below place m are done -/
def cn_Pa (R : Nat → Nat → Prop) (c : Nat → Nat → Int) (q : Nat → Int) (b : Int) (S : Nat → Prop) (U B : Int) (d0 : Nat → Int) (m : Nat) (d : Nat → Int) (p : Nat → Nat) : Prop :=
  cn_Ws R c q b S U (B + m) d p ∧ (∀ w, w < 7 → d w ≤ d0 w) ∧ ∀ u v, u < 7 → v < 7 → u * 7 + v < m → d0 u < U → R u v → d v ≤ d0 u + c u v

theorem cn_Pa_0 {d : Nat → Int} (h : cn_Ws R c q b S U B d p) : cn_Pa R c q b S U B d 0 d p :=
  ⟨cn_Ws_up h (by omega), fun _ _ => Int.le_refl _, fun u v _ _ hu => by omega⟩

theorem cn_Pa_no {d0 d : Nat → Int} {u v : Nat} (hu : u < 7) (hv : v < 7) (h : cn_Pa R c q b S U B d0 (u * 7 + v) d p) (hn : d u < U → R u v → ¬ d u + c u v < d v) :
    cn_Pa R c q b S U B d0 (u * 7 + (v + 1)) d p := by
  obtain ⟨a, e, f⟩ := h
  refine ⟨cn_Ws_up a (by omega), e, fun x y hx hy hm hd ha => ?_⟩
  by_cases z : x * 7 + y < u * 7 + v
  · exact f x y hx hy z hd ha
  · have e1 : x = u := by omega
    have e2 : y = v := by omega
    subst e1 e2
    have k := e x hx
    have w := hn (by omega) ha
    omega

theorem cn_Pa_row {d0 d : Nat → Int} {u : Nat} (hu : u < 7) (h : cn_Pa R c q b S U B d0 (u * 7) d p) (hn : d u = U) : cn_Pa R c q b S U B d0 ((u + 1) * 7) d p := by
  have key : ∀ j, j ≤ 7 → cn_Pa R c q b S U B d0 (u * 7 + j) d p := by
    intro j
    induction j with
    | zero => intro _; exact h
    | succ j ih => intro hj; exact cn_Pa_no hu (by omega) (ih (by omega)) (fun z => by omega)
  have k := key 7 (by omega)
  rw [Nat.succ_mul]
  exact k

theorem cn_Pa_yes {d0 d : Nat → Int} {u v : Nat} (hR : cn_Pt R c q) (hS : ∀ s, s < 7 → S s → q s = b) (hc : ∀ u v, -1 ≤ c u v ∧ c u v ≤ 1) (hB : B + 100 < U)
    (hu : u < 7) (hv : v < 7) (h : cn_Pa R c q b S U B d0 (u * 7 + v) d p) (hdu : d u ≠ U) (ha : R u v) (hl : d u + c u v < d v) :
    cn_Pa R c q b S U B d0 (u * 7 + (v + 1)) (cn_up d v (d u + c u v)) (cn_un p v u) := by
  obtain ⟨a, e, f⟩ := h
  obtain ⟨vs, uv, W⟩ := cn_relax hR hS a hu hv hdu ha hl (hc u v) (by omega)
  refine ⟨cn_Ws_up W (by omega), fun w hw => ?_, fun x y hx hy hm hd ha' => ?_⟩
  · have k := e w hw
    by_cases x : w = v
    · subst x
      rw [cn_up_s]
      omega
    · rw [cn_up_n x]
      exact k
  · have k := e x hx
    by_cases z : x * 7 + y < u * 7 + v
    · have l := f x y hx hy z hd ha'
      by_cases yv : y = v
      · subst yv
        rw [cn_up_s]
        omega
      · rw [cn_up_n yv]
        exact l
    · have e1 : x = u := by omega
      have e2 : y = v := by omega
      subst e1 e2
      rw [cn_up_s]
      omega

/-- between the rounds: k of them are done -/
def cn_Ro (R : Nat → Nat → Prop) (c : Nat → Nat → Int) (q : Nat → Int) (b : Int) (S : Nat → Prop) (U : Int) (k : Nat) (d : Nat → Int) (p : Nat → Nat) : Prop :=
  cn_Ws R c q b S U (49 * k) d p ∧ ∃ H : Nat → Nat → Int, H k = d ∧ (∀ s, s < 7 → S s → H 0 s ≤ 0) ∧ (∀ j v, j < k → v < 7 → H (j + 1) v ≤ H j v) ∧
    (∀ j u v, j < k → u < 7 → v < 7 → H j u < U → R u v → H (j + 1) v ≤ H j u + c u v)

theorem cn_Ro_0 {d : Nat → Int} (h : cn_Ws R c q b S U 0 d p) : cn_Ro R c q b S U 0 d p :=
  ⟨cn_Ws_up h (by omega), fun _ => d, rfl, fun s hs he => Int.le_of_eq (h.1 s hs he).1, fun j v hj => by omega, fun j u v hj => by omega⟩

theorem cn_Ro_s {k : Nat} {d d' : Nat → Int} {p' : Nat → Nat} (h : cn_Ro R c q b S U k d p) (h' : cn_Pa R c q b S U (49 * k) d 49 d' p') : cn_Ro R c q b S U (k + 1) d' p' := by
  obtain ⟨a, H, e, z, m, st⟩ := h
  obtain ⟨a', b', f'⟩ := h'
  refine ⟨cn_Ws_up a' (by omega), fun j => if j = k + 1 then d' else H j, if_pos rfl, ?_, ?_, ?_⟩
  · intro s hs he
    show (if 0 = k + 1 then d' else H 0) s ≤ 0
    rw [if_neg (by omega)]
    exact z s hs he
  · intro j v hj hv
    show (if j + 1 = k + 1 then d' else H (j + 1)) v ≤ (if j = k + 1 then d' else H j) v
    by_cases x : j = k
    · subst x
      rw [if_pos rfl, if_neg (by omega), e]
      exact b' v hv
    · rw [if_neg (by omega), if_neg (by omega)]
      exact m j v (by omega) hv
  · intro j u v hj hu hv hd ha
    have hd' : (if j = k + 1 then d' else H j) u < U := hd
    show (if j + 1 = k + 1 then d' else H (j + 1)) v ≤ (if j = k + 1 then d' else H j) u + c u v
    by_cases x : j = k
    · subst x
      rw [if_neg (by omega), e] at hd'
      rw [if_pos rfl, if_neg (by omega), e]
      exact f' u v hu hv (by omega) hd' ha
    · rw [if_neg (by omega)] at hd'
      rw [if_neg (by omega), if_neg (by omega)]
      exact st j u v (by omega) hu hv hd' ha

/-- the search has ended: labels that no step makes less -/
theorem cn_Ro_e {d : Nat → Int} {K : Nat} (hK : 6 ≤ K) (hU : 49 * (K : Int) < U) (hR : cn_Pt R c q) (hS : ∀ s, s < 7 → S s → q s = b) (hc : ∀ u v, -1 ≤ c u v ∧ c u v ≤ 1) (h : cn_Ro R c q b S U K d p) :
    cn_Ws R c q b S U (49 * K) d p ∧ ∀ u v, u < 7 → v < 7 → d u ≠ U → R u v → d v ≤ d u + c u v := by
  obtain ⟨a, H, e, z, m, st⟩ := h
  subst e
  exact ⟨a, cn_done hK hR hS hc hU a z m st⟩

theorem cn_bound (q : Nat → Int) (n : Nat) : ∃ K : Int, ∀ v, v < n → - q v ≤ K := by
  induction n with
  | zero => exact ⟨0, fun v hv => by omega⟩
  | succ n ih =>
    obtain ⟨K, h⟩ := ih
    by_cases e : - q n ≤ K
    · refine ⟨K, fun v hv => ?_⟩
      by_cases x : v = n
      · subst x; exact e
      · exact h v (by omega)
    · refine ⟨- q n, fun v hv => ?_⟩
      by_cases x : v = n
      · subst x; exact Int.le_refl _
      · have := h v (by omega)
        omega

/-- the labels are a potential; where they don't reach, the old one, far up -/
theorem cn_newpot {d : Nat → Int} (hU : B + 1 < U) (hR : cn_Pt R c q) (hc : ∀ u v, -1 ≤ c u v ∧ c u v ≤ 1)
    (h : cn_Ws R c q b S U B d p) (hd : ∀ u v, u < 7 → v < 7 → d u ≠ U → R u v → d v ≤ d u + c u v) :
    ∃ q' : Nat → Int, cn_Pt R c q' ∧ ∀ v, v < 7 → d v ≠ U → q' v = d v := by
  obtain ⟨h1, h2, h3⟩ := h
  obtain ⟨K, hK⟩ := cn_bound q 7
  refine ⟨fun v => if d v = U then q v + K + (B + 1) else d v, ?_, fun v hv e => if_neg e⟩
  intro u v hu hv ha
  have k := hK u hu
  have w := hc u v
  show (if d v = U then q v + K + (B + 1) else d v) - (if d u = U then q u + K + (B + 1) else d u) ≤ c u v
  by_cases eu : d u = U
  · rw [if_pos eu]
    by_cases ev : d v = U
    · rw [if_pos ev]
      have := hR u v hu hv ha
      omega
    · rw [if_neg ev]
      rcases h2 v hv with x | x
      · exact absurd x ev
      · omega
  · rw [if_neg eu]
    have w := hd u v hu hv eu ha
    have ub : d u ≤ B := by
      rcases h2 u hu with x | x
      · exact absurd x eu
      · exact x.2
    have ev : d v ≠ U := by omega
    rw [if_neg ev]
    omega

/-- the way back from a member that was reached -/
theorem cn_chain {d : Nat → Int} (h : cn_Ws R c q b S U B d p) {z : Nat} (hz : z < 7) (hd : d z ≠ U) :
    ∃ L, L ≤ 6 ∧ S (cn_it p L z) ∧ (∀ i, i ≤ L → cn_it p i z < 7 ∧ d (cn_it p i z) ≠ U) ∧ (∀ i, i < L → ¬ S (cn_it p i z)) ∧ (∀ i j, i < j → j ≤ L → cn_it p i z ≠ cn_it p j z) := by
  obtain ⟨h1, h2, h3, h4, r, h5⟩ := h
  have key : ∀ n w, w < 7 → d w ≠ U → cn_cnt (fun x => decide (r x < r w)) 7 ≤ n →
      ∃ L, L ≤ n ∧ S (cn_it p L w) ∧ (∀ i, i ≤ L → cn_it p i w < 7 ∧ d (cn_it p i w) ≠ U) ∧ (∀ i, i < L → ¬ S (cn_it p i w)) ∧ (∀ i j, i < j → j ≤ L → r (cn_it p j w) < r (cn_it p i w)) := by
    intro n
    induction n with
    | zero =>
      intro w hw hdw hc
      by_cases ws : S w
      · refine ⟨0, Nat.le_refl _, ws, fun i hi => ?_, fun i hi => by omega, fun i j a b => by omega⟩
        have : i = 0 := by omega
        subst this
        exact ⟨hw, hdw⟩
      · obtain ⟨a, b, e1, e2⟩ := h4 w hw ws hdw
        have k := h5 w hw ws hdw
        have f := cn_cnt_lt (P := fun _ => false) (Q := fun x => decide (r x < r w)) (w := p w) (n := 7) (fun i _ y => by simp at y) a rfl (by simp [k])
        omega
    | succ n ih =>
      intro w hw hdw hc
      by_cases ws : S w
      · refine ⟨0, by omega, ws, fun i hi => ?_, fun i hi => by omega, fun i j a b => by omega⟩
        have : i = 0 := by omega
        subst this
        exact ⟨hw, hdw⟩
      · obtain ⟨a, b, e1, e2⟩ := h4 w hw ws hdw
        have k := h5 w hw ws hdw
        have f := cn_cnt_lt (P := fun x => decide (r x < r (p w))) (Q := fun x => decide (r x < r w)) (w := p w) (n := 7)
          (fun i _ y => by simp at y ⊢; omega) a (by simp) (by simp [k])
        obtain ⟨L, l1, l2, l3, l4, l5⟩ := ih (p w) a b (by omega)
        refine ⟨L + 1, by omega, l2, fun i hi => ?_, fun i hi => ?_, fun i j x y => ?_⟩
        · cases i with
          | zero => exact ⟨hw, hdw⟩
          | succ i => exact l3 i (by omega)
        · cases i with
          | zero => exact ws
          | succ i => exact l4 i (by omega)
        · cases j with
          | zero => omega
          | succ j =>
            cases i with
            | zero =>
              show r (cn_it p j (p w)) < r w
              cases j with
              | zero => exact k
              | succ j =>
                have m := l5 0 (j + 1) (by omega) (by omega)
                rw [cn_it_0] at m
                omega
            | succ i => exact l5 i j (by omega) (by omega)
  have six := cn_cnt_1 (P := fun x => decide (r x < r z)) (u := z) (n := 7) hz (by simp)
  obtain ⟨L, l1, l2, l3, l4, l5⟩ := key 6 z hz hd (by omega)
  exact ⟨L, l1, l2, l3, l4, fun i j a b e => by have := l5 i j a b; rw [e] at this; omega⟩
end
