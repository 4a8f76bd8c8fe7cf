/-- Y's owed holds g -/
def cn_TY (ow : Nat → Int32) (g : Nat → Nat → Int) : Prop := ∀ u v, u < 7 → v < 7 → cn_I ow (u * 7 + v) = g u v
/-- the labels and the members before; -1 where none is -/
def cn_TP (pc be : Nat → Int32) (d : Nat → Int) (p : Nat → Nat) : Prop := ∀ w, w < 7 → pc w = cn_i (d w) ∧ be w = (if p w = w then -1 else nI (p w)) ∧ p w < 7
/-- who still owes too little -/
def cn_src (po re : Nat → Int32) (w : Nat) : Prop := cn_I po w < cn_I re w

section
variable {R : Nat → Nat → Prop} {c : Nat → Nat → Int} {q : Nat → Int} {S : Nat → Prop}
/-- place t of the one loop over all steps of all rounds -/
def cn_Fl (R : Nat → Nat → Prop) (c : Nat → Nat → Int) (q : Nat → Int) (S : Nat → Prop) (t : Nat) (d : Nat → Int) (p : Nat → Nat) : Prop :=
  ∃ d0 p0, cn_Ro R c q 0 S 1000 (t / 49) d0 p0 ∧ cn_Pa R c q 0 S 1000 (49 * ((t / 49 : Nat) : Int)) d0 (t % 49) d p ∧ (t % 49 = 0 → d0 = d ∧ p0 = p)

theorem cn_Fl_0 {d : Nat → Int} {p : Nat → Nat} (h : cn_Ws R c q 0 S 1000 0 d p) : cn_Fl R c q S 0 d p :=
  ⟨d, p, cn_Ro_0 h, cn_Pa_0 (cn_Ws_up h (by omega)), fun _ => ⟨rfl, rfl⟩⟩

theorem cn_Fl_s {t : Nat} {d0 d : Nat → Int} {p0 p : Nat → Nat} (h : cn_Ro R c q 0 S 1000 (t / 49) d0 p0) (h' : cn_Pa R c q 0 S 1000 (49 * ((t / 49 : Nat) : Int)) d0 (t % 49 + 1) d p) : cn_Fl R c q S (t + 1) d p := by
  by_cases e : t % 49 + 1 = 49
  · have e1 : (t + 1) / 49 = t / 49 + 1 := by omega
    have e2 : (t + 1) % 49 = 0 := by omega
    rw [e] at h'
    have r := cn_Ro_s h h'
    unfold cn_Fl
    rw [e1, e2]
    exact ⟨d, p, r, cn_Pa_0 r.1, fun _ => ⟨rfl, rfl⟩⟩
  · have e1 : (t + 1) / 49 = t / 49 := by omega
    have e2 : (t + 1) % 49 = t % 49 + 1 := by omega
    unfold cn_Fl
    rw [e1, e2]
    exact ⟨d0, p0, h, h', fun z => by omega⟩

theorem cn_Fl_e {d : Nat → Int} {p : Nat → Nat} (h : cn_Fl R c q S 343 d p) : cn_Ro R c q 0 S 1000 7 d p := by
  obtain ⟨d0, p0, r, _, e⟩ := h
  obtain ⟨rfl, rfl⟩ := e (by decide)
  exact r
end

section
variable (fg : Int32) (tr po pa pe am ow re pc be : Nat → Int32)

theorem cn_rmY {post : Int32 → Prop} {g : Nat → Nat → Int} {u v : Nat} (h : cn_TY ow g) (hu : u < 7) (hv : v < 7) (hp : post (cn_i (cn_room (cn_I tr) g u v))) :
    wpY_room post (fg, tr, po, pa, pe, am, ow, re, pc, be) (nI u) (nI v) := by
  unfold wpY_room
  dsimp only
  rw [cn_iy, cn_iy]
  refine ⟨cn_in49 hu hv, nm_e ?_⟩
  rw [cn_cl (by omega), cn_cl (by omega)]
  have e := h u v hu hv
  unfold cn_room at hp
  refine cn_ble 0 _ cn_i_0.symm (cn_I_of ow _) cn_n0 (cn_nrI _) (fun c => ⟨cn_in49 hv hu, ?_⟩) (fun c => ?_)
  · rw [e] at c
    rw [if_neg (by omega), cn_i_sub] at hp
    rw [cn_I_of tr, cn_I_of ow, e]
    exact hp
  · rw [e] at c
    rw [if_pos (by omega), cn_i_neg] at hp
    rw [cn_I_of ow, e]
    exact hp

theorem cn_fw1 {post : SY → Prop} {J : Int32 → (Nat → Int32) → (Nat → Int32) → (Nat → Int32) → (Nat → Int32) → (Nat → Int32) → (Nat → Int32) → (Nat → Int32) → (Nat → Int32) → (Nat → Int32) → Prop}
    {g : Nat → Nat → Int} {q d : Nat → Int} {p : Nat → Nat} {t : Nat} (ht : cn_T (cn_I tr)) (hg : cn_St (cn_I tr) g) (h : cn_TY ow g)
    (hq : cn_Opt (cn_I tr) g q) (hS : ∀ s, s < 7 → cn_src po re s → q s = 0) (ht3 : t < 343) (ts : cn_TP pc be d p)
    (hp : cn_Fl (cn_R (cn_I tr) g) (cn_cost g) q (cn_src po re) t d p)
    (hJ : ∀ pc' be' d' p', cn_TP pc' be' d' p' → cn_Fl (cn_R (cn_I tr) g) (cn_cost g) q (cn_src po re) (t + 1) d' p' → J (nI (t + 1)) tr po pa pe am ow re pc' be') :
    wY_findWays_90 post J (nI t) (nI (t % 49 / 7)) (nI (t % 7)) (cn_i (cn_cost g (t % 49 / 7) (t % 7))) fg tr po pa pe am ow re pc be := by
  obtain ⟨d0, p0, ro, pa1, _⟩ := hp
  generalize hu' : t % 49 / 7 = u
  generalize hv' : t % 7 = v
  have hu : u < 7 := by omega
  have hv : v < 7 := by omega
  have m : t % 49 = u * 7 + v := by omega
  have m1 : t % 49 + 1 = u * 7 + (v + 1) := by omega
  have k6 : t / 49 ≤ 6 := by omega
  have bd : ∀ w, w < 7 → -1000 ≤ d w ∧ d w ≤ 1000 := by
    intro w hw
    rcases pa1.1.2.1 w hw with x | x <;> omega
  have du := bd u hu
  have dv := bd v hv
  have cb := cn_cost_b g u v
  have rb := cn_room_b ht hg hu hv
  rw [m] at pa1
  have keep : (d u < 1000 → cn_R (cn_I tr) g u v → ¬ d u + cn_cost g u v < d v) → J (nI (t + 1)) tr po pa pe am ow re pc be := by
    intro z
    refine hJ pc be d p ts (cn_Fl_s ro ?_)
    rw [m1]
    exact cn_Pa_no hu hv pa1 z
  refine pk_eq u v (fun e => nm_r (nI_1 t) (keep (fun _ R => absurd e R.1))) (fun ne => ⟨cn_in7 hu, ?_⟩)
  rw [cn_cl (n := u) (by omega), cn_cl (n := v) (by omega)]
  refine cn_ble 1000 (d u) (by decide) (ts u hu).1 ⟨by decide, by decide⟩ ⟨by omega, by omega⟩ (fun c1 => nm_r (nI_1 t) (keep (fun z => by omega))) (fun c1 => cn_rmY fg tr po pa pe am ow re pc be h hu hv ?_)
  refine cn_ble _ 0 rfl cn_i_0.symm ⟨by omega, by omega⟩ cn_n0 (fun c2 => nm_r (nI_1 t) (keep (fun _ R => by have := R.2; omega))) (fun c2 => ⟨cn_in7 hu, cn_in7 hv, ?_⟩)
  rw [(ts u hu).1, ← cn_i_add]
  refine cn_ble (d v) (d u + cn_cost g u v) (ts v hv).1 rfl ⟨by omega, by omega⟩ ⟨by omega, by omega⟩ (fun c3 => nm_r (nI_1 t) (keep (fun _ _ => by omega))) (fun c3 => ⟨cn_in7 hu, cn_in7 hv, nm_e ⟨cn_in7 hv, nm_e (nm_r (nI_1 t) ?_)⟩⟩)
  refine hJ _ _ (cn_up d v (d u + cn_cost g u v)) (cn_un p v u) ?_ (cn_Fl_s ro ?_)
  · intro w hw
    by_cases f : w = v
    · subst f
      rw [cn_up_s, cn_un_s, if_neg ne]
      exact ⟨pk_us, pk_us, hu⟩
    · rw [cn_up_n f, cn_un_n f]
      exact ⟨(pk_un f).trans (ts w hw).1, (pk_un f).trans (ts w hw).2.1, (ts w hw).2.2⟩
  · rw [m1]
    exact cn_Pa_yes (cn_Opt_Pt hq) hS (cn_cost_b g) (by omega) hu hv pa1 (by omega) ⟨ne, c2⟩ c3

theorem cn_fwY {post : SY → Prop} {g : Nat → Nat → Int} {q : Nat → Int} (ht : cn_T (cn_I tr)) (hg : cn_St (cn_I tr) g) (h : cn_TY ow g)
    (hq : cn_Opt (cn_I tr) g q) (hS : ∀ s, s < 7 → cn_src po re s → q s = 0)
    (hpost : ∀ pc' be' d' p', cn_TP pc' be' d' p' → cn_Ro (cn_R (cn_I tr) g) (cn_cost g) q 0 (cn_src po re) 1000 7 d' p' → post (fg, tr, po, pa, pe, am, ow, re, pc', be')) :
    wpY_findWays post (fg, tr, po, pa, pe, am, ow, re, pc, be) := by
  classical
  refine loop_0 (fun n k (a : (Nat → Int32) × (Nat → Int32)) => wY_findWays_2 post fg n (nI k) tr po pa pe am ow re a.1 a.2)
    (fun k a => ∀ w, w < k → a.1 w = cn_i (if cn_src po re w then 0 else 1000) ∧ a.2 w = -1) 7 (pc, be) (fun w hw => by omega) ?_ ?_
  · intro n a ha
    refine br_t cn_t7 ?_
    refine loop_0 (fun n t (a : (Nat → Int32) × (Nat → Int32)) => wY_findWays_51 post fg n (nI t) tr po pa pe am ow re a.1 a.2)
      (fun t a => ∃ d p, cn_TP a.1 a.2 d p ∧ cn_Fl (cn_R (cn_I tr) g) (cn_cost g) q (cn_src po re) t d p) 343 a ?_ ?_ ?_
    · refine ⟨fun w => if cn_src po re w then 0 else 1000, fun w => w, fun w hw => ⟨(ha w hw).1, ?_, hw⟩, cn_Fl_0 ⟨?_, ?_, ?_, ?_, fun _ => 0, ?_⟩⟩
      · rw [if_pos rfl]
        exact (ha w hw).2
      · intro x hx e
        exact ⟨if_pos e, rfl⟩
      · intro x hx
        show (if cn_src po re x then (0 : Int) else 1000) = 1000 ∨ (-0 ≤ (if cn_src po re x then (0 : Int) else 1000) ∧ (if cn_src po re x then (0 : Int) else 1000) ≤ 0)
        by_cases f : cn_src po re x
        · rw [if_pos f]
          exact Or.inr ⟨by decide, by decide⟩
        · rw [if_neg f]
          exact Or.inl rfl
      · intro x hx e
        have e' : (if cn_src po re x then (0 : Int) else 1000) ≠ 1000 := e
        show q x - 0 ≤ (if cn_src po re x then (0 : Int) else 1000)
        by_cases f : cn_src po re x
        · rw [if_pos f, hS x hx f]
          decide
        · rw [if_neg f] at e'
          exact absurd rfl e'
      · intro x hx f e
        have e' : (if cn_src po re x then (0 : Int) else 1000) ≠ 1000 := e
        rw [if_neg f] at e'
        exact absurd rfl e'
      · intro x hx f e
        have e' : (if cn_src po re x then (0 : Int) else 1000) ≠ 1000 := e
        rw [if_neg f] at e'
        exact absurd rfl e'
    · intro n a ⟨d, p, ts, fl⟩
      exact br_t (by decide) (hpost a.1 a.2 d p ts (cn_Fl_e fl))
    · intro n t a ht3 ⟨d, p, ts, fl⟩ ih
      refine br_f (nI_ge (b := 343) ht3 (by decide)) ⟨by decide, by decide, nm_r (e' := nI (t % 49 / 7)) ?_ ⟨by decide, nm_r (e' := nI (t % 7)) (cn_r7 (by omega)) ?_⟩⟩
      · rw [cn_r49 (by omega), cn_q7 (by omega)]
      · have e := h (t % 49 / 7) (t % 7) (by omega) (by omega)
        have step := cn_fw1 fg tr po pa pe am ow re a.1 a.2 (post := post) (J := wY_findWays_51 post fg n) ht hg h hq hS ht3 ts fl (fun pc' be' d' p' ts' fl' => ih (pc', be') ⟨d', p', ts', fl'⟩)
        rw [cn_iy]
        refine ⟨cn_in49 (by omega) (by omega), ?_⟩
        rw [cn_cl (by omega)]
        unfold cn_cost at step
        refine cn_ble 0 _ cn_i_0.symm (cn_I_of ow _) cn_n0 (cn_nrI _) (fun c => ?_) (fun c => ?_)
        · rw [e] at c
          rw [if_neg (by omega)] at step
          exact step
        · rw [e] at c
          rw [if_pos (by omega)] at step
          exact step
  · intro n k a hk ha ih
    have key : ∀ y : Int32, y = cn_i (if cn_src po re k then 0 else 1000) → wY_findWays_35 post (wY_findWays_2 post fg n) (nI k) y (nI k) fg tr po pa pe am ow re a.1 a.2 := by
      intro y hy
      refine ⟨cn_in7 hk, nm_e ⟨cn_in7 hk, nm_e (nm_r (nI_1 k) (ih (_, _) (fun w hw => ?_)))⟩⟩
      rw [cn_cl (by omega)]
      by_cases f : w = k
      · subst f
        exact ⟨pk_us.trans hy, pk_us⟩
      · exact ⟨(pk_un f).trans (ha w (by omega)).1, (pk_un f).trans (ha w (by omega)).2⟩
    refine br_f (cn_f7 hk) ⟨cn_in7 hk, cn_in7 hk, ?_⟩
    rw [cn_cl (by omega)]
    refine cn_ble (cn_I re k) (cn_I po k) (cn_I_of re k) (cn_I_of po k) (cn_nrI _) (cn_nrI _) (fun c => key _ ?_) (fun c => key _ ?_)
    · rw [if_neg (show ¬ cn_src po re k by unfold cn_src; omega)]
      decide
    · rw [if_pos (show cn_src po re k from c)]
      decide
end
