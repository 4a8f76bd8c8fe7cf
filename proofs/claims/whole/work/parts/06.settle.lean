/-- the steps that can be made -/
def cn_R (t : Nat → Int) (g : Nat → Nat → Int) (u v : Nat) : Prop := u ≠ v ∧ 0 < cn_room t g u v
theorem cn_Opt_Pt {t q : Nat → Int} {g : Nat → Nat → Int} (h : cn_Opt t g q) : cn_Pt (cn_R t g) (cn_cost g) q := fun u v hu hv ha => h u v hu hv ha.1 ha.2
theorem cn_Pt_Opt {t q : Nat → Int} {g : Nat → Nat → Int} (h : cn_Pt (cn_R t g) (cn_cost g) q) : cn_Opt t g q := fun u v hu hv a b => h u v hu hv ⟨a, b⟩
theorem cn_cost_b (g : Nat → Nat → Int) (u v : Nat) : -1 ≤ cn_cost g u v ∧ cn_cost g u v ≤ 1 := by
  unfold cn_cost
  split <;> omega

/-- a way from a member of S to z, back by p, of L steps, all tight for q -/
def cn_Wy (t : Nat → Int) (g : Nat → Nat → Int) (S : Nat → Prop) (q : Nat → Int) (p : Nat → Nat) (z L : Nat) : Prop :=
  L ≤ 6 ∧ S (cn_it p L z) ∧ (∀ i, i ≤ L → cn_it p i z < 7) ∧ (∀ i, i < L → ¬ S (cn_it p i z)) ∧ (∀ i j, i < j → j ≤ L → cn_it p i z ≠ cn_it p j z) ∧
  (∀ i, i < L → 0 < cn_room t g (cn_it p (i + 1) z) (cn_it p i z) ∧ q (cn_it p i z) - q (cn_it p (i + 1) z) = cn_cost g (cn_it p (i + 1) z) (cn_it p i z))

theorem cn_way {t q d : Nat → Int} {g : Nat → Nat → Int} {S : Nat → Prop} {p : Nat → Nat} {b U B : Int} {z : Nat} (hU : B + 1 < U) (hU0 : 0 < U) (hq : cn_Opt t g q)
    (h : cn_Ws (cn_R t g) (cn_cost g) q b S U B d p) (hd : ∀ u v, u < 7 → v < 7 → d u ≠ U → cn_R t g u v → d v ≤ d u + cn_cost g u v) (hz : z < 7) (hdz : d z ≠ U) :
    ∃ q' L, cn_Opt t g q' ∧ (∀ s, s < 7 → S s → q' s = 0) ∧ cn_Wy t g S q' p z L := by
  obtain ⟨q', h1, h2⟩ := cn_newpot hU (cn_Opt_Pt hq) (cn_cost_b g) h hd
  obtain ⟨L, l1, l2, l3, l4, l5⟩ := cn_chain h hz hdz
  obtain ⟨w1, w2, w3, w4, w5⟩ := h
  refine ⟨q', L, cn_Pt_Opt h1, fun s hs he => ?_, l1, l2, fun i hi => (l3 i hi).1, l4, l5, fun i hi => ?_⟩
  · have e := (w1 s hs he).1
    rw [h2 s hs (by omega), e]
  · obtain ⟨a1, a2⟩ := l3 i (by omega)
    obtain ⟨b1, b2⟩ := l3 (i + 1) (by omega)
    obtain ⟨c1, c2, c3, c4⟩ := w4 (cn_it p i z) a1 (l4 i hi) a2
    rw [← cn_it_r p i z] at c1 c2 c3 c4
    have e := hd _ _ b1 a1 b2 c3
    refine ⟨c3.2, ?_⟩
    rw [h2 _ a1 a2, h2 _ b1 b2]
    omega

/-- the second walk along the way: i steps are done -/
def cn_W2 (t q : Nat → Int) (p : Nat → Nat) (z L : Nat) (a : Int) (g0 : Nat → Nat → Int) (i : Nat) (g : Nat → Nat → Int) : Prop :=
  cn_St t g ∧ cn_Opt t g q ∧
  (∀ w, w < 7 → cn_po g w = cn_po g0 w + (if w = z then a else 0) - (if w = cn_it p i z then a else 0)) ∧
  (∀ j, i ≤ j → j < L → g (cn_it p (j + 1) z) (cn_it p j z) = g0 (cn_it p (j + 1) z) (cn_it p j z))

theorem cn_W2_0 {t q : Nat → Int} {g : Nat → Nat → Int} {p : Nat → Nat} {z L : Nat} {a : Int} (ho : cn_St t g) (hq : cn_Opt t g q) : cn_W2 t q p z L a g 0 g := by
  refine ⟨ho, hq, fun w hw => ?_, fun j _ _ => rfl⟩
  rw [cn_it_0]
  omega

theorem cn_W2_r {t q : Nat → Int} {g0 g : Nat → Nat → Int} {p : Nat → Nat} {z L i : Nat} {a : Int} (hi : i < L) (h : cn_W2 t q p z L a g0 i g) :
    cn_room t g (cn_it p (i + 1) z) (cn_it p i z) = cn_room t g0 (cn_it p (i + 1) z) (cn_it p i z) := by
  have f1 := h.2.2.2 i (Nat.le_refl _) hi
  unfold cn_room
  rw [f1]

theorem cn_W2_s {t q : Nat → Int} {g0 g : Nat → Nat → Int} {S : Nat → Prop} {p : Nat → Nat} {z L i : Nat} {a : Int} (ha : 0 ≤ a) (hi : i < L) (ht : ∀ u v, u < 7 → v < 7 → 0 ≤ t (u * 7 + v))
    (hw : cn_Wy t g0 S q p z L) (hr : a ≤ cn_room t g0 (cn_it p (i + 1) z) (cn_it p i z))
    (h : cn_W2 t q p z L a g0 i g) : cn_W2 t q p z L a g0 (i + 1) (cn_add g (cn_it p (i + 1) z) (cn_it p i z) a) := by
  have hr' := cn_W2_r hi h
  obtain ⟨h1, h2, h3, h4⟩ := h
  obtain ⟨w1, w2, hin, w4, hne, w6⟩ := hw
  have hv := hin i (by omega)
  have hu := hin (i + 1) (by omega)
  have huv : cn_it p (i + 1) z ≠ cn_it p i z := fun e => hne i (i + 1) (by omega) (by omega) e.symm
  have f1 := h4 i (Nat.le_refl _) hi
  have ht' : q (cn_it p i z) - q (cn_it p (i + 1) z) = cn_cost g (cn_it p (i + 1) z) (cn_it p i z) := by
    have := (w6 i hi).2
    unfold cn_cost at this ⊢
    rw [f1]
    exact this
  refine ⟨cn_add_St h1 hu hv huv ha (by omega) ht, cn_add_Opt h1 h2 hu hv huv ha (by omega) ht', fun w hw => ?_, fun j hj hjL => ?_⟩
  · rw [cn_add_po hu hv huv, h3 w hw]
    omega
  · have n1 := hne i j (by omega) (by omega)
    have n2 := hne i (j + 1) (by omega) (by omega)
    have g1 := h4 j (by omega) hjL
    rw [cn_add_3 (fun e => n1 e.2.symm) (fun e => n2 e.1.symm)]
    exact g1

/-- the room of a set -/
def cn_rm (t P : Nat → Int) (M : Nat → Bool) : Int :=
  cn_sum (fun u => if M u then cn_sum (fun v => if M v then 0 else t (u * 7 + v)) 7 - P u else 0) 7
def cn_Ok (t P : Nat → Int) : Prop := (∀ M : Nat → Bool, 0 ≤ cn_rm t P M) ∧ cn_sum P 7 = 0

/-- the room is the trust out of the set less its positions -/
theorem cn_rm_eq (t P : Nat → Int) (M : Nat → Bool) :
    cn_rm t P M = cn_sum (fun u => if M u then cn_sum (fun v => if M v then 0 else t (u * 7 + v)) 7 else 0) 7 - cn_sum (fun u => if M u then P u else 0) 7 := by
  rw [← cn_sum_sub]
  unfold cn_rm
  refine cn_sum_congr (fun u _ => ?_)
  show (if M u then cn_sum (fun v => if M v then 0 else t (u * 7 + v)) 7 - P u else 0) = (if M u then cn_sum (fun v => if M v then 0 else t (u * 7 + v)) 7 else 0) - (if M u then P u else 0)
  by_cases e : M u = true
  · rw [if_pos e, if_pos e, if_pos e]
  · rw [if_neg e, if_neg e, if_neg e]
    rfl

/-- a debtor reaches a creditor -/
theorem cn_reach {t P un d : Nat → Int} {g : Nat → Nat → Int} {U : Int} {s : Nat} (hs : s < 7) (hok : cn_Ok t P) (hn : cn_St t g) (hun : ∀ w, w < 7 → un w = P w - cn_po g w)
    (hds : d s ≠ U) (hneg : un s < 0) (hcl : ∀ u v, u < 7 → v < 7 → d u ≠ U → cn_R t g u v → d v ≠ U) : ∃ v, v < 7 ∧ d v ≠ U ∧ 0 < un v := by
  obtain ⟨M, hM⟩ : ∃ M : Nat → Bool, M = fun v => decide (d v = U) := ⟨_, rfl⟩
  have rm := hok.1 M
  rw [cn_rm_eq] at rm
  have Mt : ∀ v, M v = true → d v = U := by
    intro v h
    rw [hM] at h
    exact of_decide_eq_true h
  have Mf : ∀ v, ¬ M v = true → d v ≠ U := by
    intro v h e
    rw [hM] at h
    exact h (decide_eq_true e)
  -- what the set is owed from without
  have e2 : cn_sum (fun v => if M v then cn_po g v else 0) 7
      = cn_sum (fun v => cn_sum (fun x => if M v then (if M x then g x v else 0) else 0) 7) 7 + cn_sum (fun v => if M v then cn_sum (fun x => if M x then 0 else t (v * 7 + x)) 7 else 0) 7 := by
    rw [← cn_sum_add]
    refine cn_sum_congr (fun v hv => ?_)
    by_cases e : M v = true
    · rw [if_pos e, if_pos e]
      have k : cn_sum (fun x => if M v then (if M x then g x v else 0) else 0) 7 = cn_sum (fun x => if M x then g x v else 0) 7 :=
        cn_sum_congr (fun x _ => if_pos e)
      rw [k, ← cn_sum_add]
      unfold cn_po
      refine cn_sum_congr (fun x hx => ?_)
      show g x v = (if M x then g x v else 0) + (if M x then 0 else t (v * 7 + x))
      by_cases f : M x = true
      · rw [if_pos f, if_pos f]
        omega
      · rw [if_neg f, if_neg f]
        have dx := Mf x f
        have dv := Mt v e
        have xv : x ≠ v := fun z => dx (z ▸ dv)
        have nr : ¬ 0 < cn_room t g x v := fun z => hcl x v hx hv dx ⟨xv, z⟩ dv
        have A := hn x v hx hv
        unfold cn_room at nr
        by_cases b : g x v < 0
        · rw [if_pos b] at nr
          omega
        · rw [if_neg b] at nr
          omega
    · rw [if_neg e, if_neg e]
      have k : cn_sum (fun x => if M v then (if M x then g x v else 0) else 0) 7 = cn_sum (fun _ => 0) 7 :=
        cn_sum_congr (fun x _ => if_neg e)
      rw [k, cn_sum_0]
      rfl
  have e3 : cn_sum (fun v => cn_sum (fun x => if M v then (if M x then g x v else 0) else 0) 7) 7 = 0 := by
    refine cn_anti (f := fun v x => if M v then (if M x then g x v else 0) else 0) (fun u v hu hv => ?_)
    show (if M u then (if M v then g v u else 0) else 0) = - (if M v then (if M u then g u v else 0) else 0)
    have a := (hn v u hv hu).1
    by_cases e : M u = true
    · by_cases f : M v = true
      · rw [if_pos e, if_pos f, if_pos f, if_pos e]
        exact a
      · rw [if_pos e, if_neg f, if_neg f]
        rfl
    · rw [if_neg e]
      by_cases f : M v = true
      · rw [if_pos f, if_neg e]
        rfl
      · rw [if_neg f]
        rfl
  -- within and without
  have tot : cn_sum un 7 = 0 := by
    have k : cn_sum un 7 = cn_sum (fun w => P w - cn_po g w) 7 := cn_sum_congr hun
    rw [k, cn_sum_sub, hok.2, cn_po_sum hn]
    rfl
  have within : cn_sum (fun v => if M v then un v else 0) 7 = cn_sum (fun v => if M v then P v else 0) 7 - cn_sum (fun v => if M v then cn_po g v else 0) 7 := by
    rw [← cn_sum_sub]
    refine cn_sum_congr (fun v hv => ?_)
    show (if M v then un v else 0) = (if M v then P v else 0) - (if M v then cn_po g v else 0)
    by_cases e : M v = true
    · rw [if_pos e, if_pos e, if_pos e]
      exact hun v hv
    · rw [if_neg e, if_neg e, if_neg e]
      rfl
  have both : cn_sum un 7 = cn_sum (fun v => if M v then un v else 0) 7 + cn_sum (fun v => if M v then 0 else un v) 7 := by
    rw [← cn_sum_add]
    refine cn_sum_congr (fun v _ => ?_)
    show un v = (if M v then un v else 0) + (if M v then 0 else un v)
    by_cases e : M v = true
    · rw [if_pos e, if_pos e]
      omega
    · rw [if_neg e, if_neg e]
      omega
  apply Classical.byContradiction
  intro no
  have le : ∀ v, v < 7 → 0 ≤ - (if M v then 0 else un v) := by
    intro v hv
    by_cases e : M v = true
    · rw [if_pos e]
      decide
    · rw [if_neg e]
      have : ¬ 0 < un v := fun z => no ⟨v, hv, Mf v e, z⟩
      omega
  have z := cn_sum_z (f := fun v => - (if M v then 0 else un v)) (n := 7) le (by rw [cn_sum_neg]; omega) s hs
  have ms : ¬ M s = true := fun y => hds (Mt s y)
  have z' : - (if M s then 0 else un s) = 0 := z
  rw [if_neg ms] at z'
  omega

/-- what is still to be settled -/
def cn_mu (un : Nat → Int) : Int := cn_sum (fun w => if 0 < un w then un w else 0) 7

theorem cn_mu_s {un : Nat → Int} {s z : Nat} {a : Int} (hz : z < 7) (hsz : s ≠ z) (hs : un s + a ≤ 0) (ha : 0 ≤ a) (hz1 : 0 < un z) (hz2 : a ≤ un z) :
    cn_mu (cn_up (cn_up un s (un s + a)) z (un z - a)) = cn_mu un - a := by
  unfold cn_mu
  have k : cn_sum (fun w => if 0 < cn_up (cn_up un s (un s + a)) z (un z - a) w then cn_up (cn_up un s (un s + a)) z (un z - a) w else 0) 7
      = cn_sum (cn_up (fun w => if 0 < un w then un w else 0) z (un z - a)) 7 := by
    refine cn_sum_congr (fun w _ => ?_)
    show (if 0 < cn_up (cn_up un s (un s + a)) z (un z - a) w then cn_up (cn_up un s (un s + a)) z (un z - a) w else 0) = _
    by_cases e : w = z
    · subst e
      rw [cn_up_s, cn_up_s]
      split <;> omega
    · rw [cn_up_n e, cn_up_n e]
      by_cases f : w = s
      · subst f
        rw [cn_up_s, if_neg (by omega), if_neg (by omega)]
      · rw [cn_up_n f]
  rw [k, cn_sum_up _ _ hz]
  show _ + (un z - a - (if 0 < un z then un z else 0)) = _
  rw [if_pos hz1]
  omega

theorem cn_mu_0 {t P : Nat → Int} (hok : cn_Ok t P) (ht : ∀ u v, u < 7 → v < 7 → t (u * 7 + v) ≤ 1000) : cn_mu P ≤ 12000 := by
  obtain ⟨M, hM⟩ : ∃ M : Nat → Bool, M = fun v => decide (0 < P v) := ⟨_, rfl⟩
  have rm := hok.1 M
  rw [cn_rm_eq] at rm
  have e1' : cn_mu P = cn_sum (fun u => if M u then P u else 0) 7 := by
    refine cn_sum_congr (fun u _ => ?_)
    have hu : M u = decide (0 < P u) := by rw [hM]
    rw [hu]
    by_cases e : 0 < P u
    · rw [if_pos e, if_pos (decide_eq_true e)]
    · rw [if_neg e, if_neg (fun z => e (of_decide_eq_true z))]
  generalize hc : cn_sum (fun v => if M v then 0 else 1) 7 = c at *
  generalize hk : cn_sum (fun v => if M v then 1 else 0) 7 = k at *
  have kc : k + c = 7 := by
    rw [← hc, ← hk, ← cn_sum_add]
    have : cn_sum (fun v => (if M v then (1 : Int) else 0) + (if M v then 0 else 1)) 7 = cn_sum (fun _ => 1) 7 := by
      refine cn_sum_congr (fun v _ => ?_)
      by_cases e : M v = true
      · rw [if_pos e, if_pos e]; rfl
      · rw [if_neg e, if_neg e]; rfl
    rw [this]
    rfl
  have k0 : 0 ≤ k := by
    rw [← hk]
    refine cn_sum_nn (fun v _ => ?_)
    split <;> decide
  have c0 : 0 ≤ c := by
    rw [← hc]
    refine cn_sum_nn (fun v _ => ?_)
    split <;> decide
  have le : cn_sum (fun u => if M u then cn_sum (fun v => if M v then 0 else t (u * 7 + v)) 7 else 0) 7 ≤ (1000 * c) * k := by
    rw [← hk, ← cn_sum_mul]
    refine cn_sum_le (fun u hu => ?_)
    by_cases e : M u = true
    · rw [if_pos e, if_pos e, Int.mul_one, ← hc, ← cn_sum_mul]
      refine cn_sum_le (fun v hv => ?_)
      by_cases f : M v = true
      · rw [if_pos f, if_pos f]
        decide
      · rw [if_neg f, if_neg f]
        have := ht u v hu hv
        omega
    · rw [if_neg e, if_neg e]
      omega
  have kk : k = 0 ∨ k = 1 ∨ k = 2 ∨ k = 3 ∨ k = 4 ∨ k = 5 ∨ k = 6 ∨ k = 7 := by omega
  rcases kk with x | x | x | x | x | x | x | x <;> rw [x] at le <;> omega

/-- the settling: k rounds are done -/
def cn_Se (t P : Nat → Int) (k : Nat) (g : Nat → Nat → Int) (un q : Nat → Int) : Prop :=
  cn_St t g ∧ cn_Opt t g q ∧ (∀ w, w < 7 → un w = P w - cn_po g w) ∧ cn_mu un + k ≤ 12000

theorem cn_Se_0 {t P un : Nat → Int} (hok : cn_Ok t P) (ht : ∀ u v, u < 7 → v < 7 → 0 ≤ t (u * 7 + v) ∧ t (u * 7 + v) ≤ 1000)
    (hun : ∀ w, w < 7 → un w = P w) : cn_Se t P 0 (fun _ _ => 0) un (fun _ => 0) := by
  refine ⟨fun u v hu hv => ?_, fun u v hu hv _ _ => ?_, fun w hw => ?_, ?_⟩
  · have := ht v u hv hu
    show (0 : Int) = -0 ∧ (0 : Int) ≤ t (v * 7 + u)
    exact ⟨by omega, by omega⟩
  · show (0 : Int) - 0 ≤ if (0 : Int) < 0 then -1 else 1
    decide
  · have k : cn_po (fun _ _ => 0) w = 0 := cn_sum_0 7
    rw [hun w hw, k]
    omega
  · have k : cn_mu un = cn_mu P := by
      refine cn_sum_congr (fun w hw => ?_)
      show (if 0 < un w then un w else 0) = (if 0 < P w then P w else 0)
      rw [hun w hw]
    have := cn_mu_0 hok (fun u v hu hv => (ht u v hu hv).2)
    rw [k]
    omega

theorem cn_Se_s {t P q q' un : Nat → Int} {g g' : Nat → Nat → Int} {p : Nat → Nat} {s z k L : Nat} {a : Int} (h : cn_Se t P k g un q) (hs : s < 7) (hz : z < 7)
    (ha : 1 ≤ a) (hsn : a ≤ - un s) (hzp : a ≤ un z) (hL : cn_it p L z = s) (w2 : cn_W2 t q' p z L a g L g') :
    cn_Se t P (k + 1) g' (cn_up (cn_up un s (un s + a)) z (un z - a)) q' := by
  obtain ⟨h1, h2, h3, h4⟩ := h
  obtain ⟨w1, wq, wp, wr⟩ := w2
  have sz : s ≠ z := by
    intro e
    subst e
    omega
  refine ⟨w1, wq, fun w hw => ?_, ?_⟩
  · have e := wp w hw
    rw [hL] at e
    have f := h3 w hw
    by_cases x : w = z
    · subst x
      rw [cn_up_s]
      rw [if_pos rfl, if_neg (fun y => sz y.symm)] at e
      omega
    · rw [cn_up_n x]
      rw [if_neg x] at e
      by_cases y : w = s
      · subst y
        rw [cn_up_s]
        rw [if_pos rfl] at e
        omega
      · rw [cn_up_n y]
        rw [if_neg y] at e
        omega
  · rw [cn_mu_s hz sz (by omega) (by omega) (by omega) hzp]
    omega

theorem cn_Se_sum {t P q un : Nat → Int} {g : Nat → Nat → Int} {k : Nat} (hok : cn_Ok t P) (h : cn_Se t P k g un q) : cn_sum un 7 = 0 := by
  have e : cn_sum un 7 = cn_sum (fun w => P w - cn_po g w) 7 := cn_sum_congr h.2.2.1
  rw [e, cn_sum_sub, hok.2, cn_po_sum h.1]
  rfl

/-- no debtor is left: all is settled -/
theorem cn_Se_e1 {t P q un : Nat → Int} {g : Nat → Nat → Int} {k : Nat} (hok : cn_Ok t P) (h : cn_Se t P k g un q) (he : ∀ w, w < 7 → 0 ≤ un w) : ∀ w, w < 7 → un w = 0 :=
  cn_sum_z he (by have := cn_Se_sum hok h; omega)

/-- no creditor is left: all is settled -/
theorem cn_Se_e2 {t P q un : Nat → Int} {g : Nat → Nat → Int} {k : Nat} (hok : cn_Ok t P) (h : cn_Se t P k g un q) (he : ∀ w, w < 7 → un w ≤ 0) : ∀ w, w < 7 → un w = 0 := by
  intro w hw
  have x := cn_sum_z (f := fun w => - un w) (n := 7) (fun w hw => by have := he w hw; omega) (by rw [cn_sum_neg]; have := cn_Se_sum hok h; omega) w hw
  have x' : - un w = 0 := x
  omega

theorem cn_mu_pos {un : Nat → Int} {z : Nat} (hz : z < 7) (h : 0 < un z) : 0 < cn_mu un := by
  apply Classical.byContradiction
  intro n
  have nn : ∀ w, w < 7 → 0 ≤ (if 0 < un w then un w else 0) := by
    intro w _
    split <;> omega
  have y : (if 0 < un z then un z else 0) = 0 := cn_sum_z (f := fun w => if 0 < un w then un w else 0) (n := 7) nn (by unfold cn_mu at n; omega) z hz
  rw [if_pos h] at y
  omega

/-- 12000 rounds are done: all is settled -/
theorem cn_Se_e3 {t P q un : Nat → Int} {g : Nat → Nat → Int} {k : Nat} (hok : cn_Ok t P) (h : cn_Se t P k g un q) (he : 12000 ≤ k) : ∀ w, w < 7 → un w = 0 :=
  cn_Se_e2 hok h (fun w hw => by
    by_cases e : 0 < un w
    · have a := cn_mu_pos hw e
      have b := h.2.2.2
      omega
    · omega)

/-- the least sum of all debts in a state with positions P -/
def cn_Debts (t P : Nat → Int) (r : Int) : Prop :=
  (∃ g, cn_St t g ∧ (∀ u, u < 7 → cn_po g u = P u) ∧ cn_ab g = 2 * r) ∧ ∀ g, cn_St t g → (∀ u, u < 7 → cn_po g u = P u) → 2 * r ≤ cn_ab g

theorem cn_Debts_eq {t P : Nat → Int} {r r' : Int} (h : cn_Debts t P r) (h' : cn_Debts t P r') : r = r' := by
  obtain ⟨⟨g, a, b, c⟩, d⟩ := h
  obtain ⟨⟨g', a', b', c'⟩, d'⟩ := h'
  have x := d g' a' b'
  have y := d' g a b
  omega

theorem cn_Se_fin {t P q un : Nat → Int} {g : Nat → Nat → Int} {k : Nat} (h : cn_Se t P k g un q) (hz : ∀ w, w < 7 → un w = 0) : cn_Debts t P (cn_tot g) := by
  obtain ⟨h1, h2, h3, h4⟩ := h
  have pos : ∀ u, u < 7 → cn_po g u = P u := by
    intro u hu
    have a := h3 u hu
    have b := hz u hu
    omega
  refine ⟨⟨g, h1, pos, cn_ab_tot h1⟩, fun f hf hp => ?_⟩
  rw [← cn_ab_tot h1]
  exact cn_least h1 h2 hf (fun u hu => (hp u hu).trans (pos u hu).symm)
