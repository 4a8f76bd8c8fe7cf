theorem cn_g_b {t : Nat → Int} {g : Nat → Nat → Int} (ht : cn_T t) (hg : cn_St t g) {u v : Nat} (hu : u < 7) (hv : v < 7) : -1000 ≤ g u v ∧ g u v ≤ 1000 := by
  have a := hg u v hu hv
  have b := hg v u hv hu
  have c := ht (v * 7 + u)
  have d := ht (u * 7 + v)
  omega
theorem cn_room_b {t : Nat → Int} {g : Nat → Nat → Int} (ht : cn_T t) (hg : cn_St t g) {u v : Nat} (hu : u < 7) (hv : v < 7) : 0 ≤ cn_room t g u v ∧ cn_room t g u v ≤ 2000 := by
  have a := cn_g_b ht hg hu hv
  have b := hg u v hu hv
  have c := ht (v * 7 + u)
  unfold cn_room
  split <;> omega
theorem cn_T2 {t : Nat → Int} (ht : cn_T t) : ∀ u v, u < 7 → v < 7 → 0 ≤ t (u * 7 + v) := fun _ _ _ _ => (ht _).1

/-- X's owed holds g -/
def cn_TX (ow : Nat → Int32) (g : Nat → Nat → Int) : Prop := ∀ u v, u < 7 → v < 7 → cn_I ow (u * 7 + v) = cn_pp (g u v)
/-- the labels and the members before -/
def cn_TS (di pr : Nat → Int32) (d : Nat → Int) (p : Nat → Nat) : Prop := ∀ w, w < 7 → di w = cn_i (d w) ∧ pr w = nI (p w) ∧ p w < 7

section
variable (fg : Int32) (tr po pa pe am ow un di pr : Nat → Int32)

theorem cn_scX {post : Int32 → Prop} {g : Nat → Nat → Int} {u v : Nat} (hg : cn_St (cn_I tr) g) (h : cn_TX ow g) (hu : u < 7) (hv : v < 7) (hp : post (cn_i (cn_cost g u v))) :
    wpX_stepCost post (fg, tr, po, pa, pe, am, ow, un, di, pr) (nI u) (nI v) := by
  unfold wpX_stepCost
  dsimp only
  rw [cn_ix]
  refine ⟨cn_in49 hv hu, ?_⟩
  rw [cn_cl (by omega)]
  have e := h v u hv hu
  have a := (hg v u hv hu).1
  have b := cn_nrI (ow (v * 7 + u))
  refine cn_ble _ 0 (cn_I_of ow _) cn_i_0.symm b cn_n0 (fun c => ?_) (fun c => ?_)
  · rw [e] at c
    unfold cn_cost at hp
    unfold cn_pp at c
    rw [if_neg (by split at c <;> omega)] at hp
    exact hp
  · rw [e] at c
    unfold cn_cost at hp
    unfold cn_pp at c
    rw [if_pos (by split at c <;> omega)] at hp
    exact hp

theorem cn_srX {post : Int32 → Prop} {g : Nat → Nat → Int} {u v : Nat} (hg : cn_St (cn_I tr) g) (h : cn_TX ow g) (hu : u < 7) (hv : v < 7) (hp : post (cn_i (cn_room (cn_I tr) g u v))) :
    wpX_stepRoom post (fg, tr, po, pa, pe, am, ow, un, di, pr) (nI u) (nI v) := by
  unfold wpX_stepRoom
  dsimp only
  rw [cn_ix, cn_ix]
  refine ⟨cn_in49 hv hu, nm_e ?_⟩
  rw [cn_cl (by omega), cn_cl (by omega)]
  have e := h v u hv hu
  have e' := h u v hu hv
  have a := (hg v u hv hu).1
  have b := cn_nrI (ow (v * 7 + u))
  refine cn_ble _ 0 (cn_I_of ow _) cn_i_0.symm b cn_n0 (fun c => ⟨cn_in49 hv hu, cn_in49 hu hv, ?_⟩) (fun c => ?_)
  · rw [e] at c
    unfold cn_room at hp
    unfold cn_pp at c e'
    have n : ¬ g u v < 0 := by split at c <;> omega
    rw [if_neg n, cn_i_sub] at hp
    have q : cn_I ow (u * 7 + v) = g u v := by rw [e']; split <;> omega
    rw [cn_I_of tr, cn_I_of ow, q]
    exact hp
  · rw [e] at c
    unfold cn_room at hp
    unfold cn_pp at c e
    have n : g u v < 0 := by split at c <;> omega
    rw [if_pos n] at hp
    have q : cn_I ow (v * 7 + u) = - g u v := by rw [e]; split <;> omega
    rw [cn_I_of ow, q]
    exact hp

theorem cn_tsX {post : SX → Prop} {g : Nat → Nat → Int} {q d0 d : Nat → Int} {p : Nat → Nat} {b B : Int} {S : Nat → Prop} {u : Nat} (ht : cn_T (cn_I tr)) (hg : cn_St (cn_I tr) g) (h : cn_TX ow g)
    (hq : cn_Opt (cn_I tr) g q) (hS : ∀ s, s < 7 → S s → q s = b) (hB : B + 100 < 1000000) (hu : u < 7) (ts : cn_TS di pr d p)
    (hp : cn_Pa (cn_R (cn_I tr) g) (cn_cost g) q b S 1000000 B d0 (u * 7) d p)
    (hpost : ∀ di' pr' d' p', cn_TS di' pr' d' p' → cn_Pa (cn_R (cn_I tr) g) (cn_cost g) q b S 1000000 B d0 ((u + 1) * 7) d' p' → post (fg, tr, po, pa, pe, am, ow, un, di', pr')) :
    wpX_takeStepsFrom post (fg, tr, po, pa, pe, am, ow, un, di, pr) (nI u) := by
  have bd : ∀ {m : Nat} {d : Nat → Int} {p : Nat → Nat}, m ≤ 49 → cn_Pa (cn_R (cn_I tr) g) (cn_cost g) q b S 1000000 B d0 m d p → ∀ w, w < 7 → -1000000 ≤ d w ∧ d w ≤ 1000000 := by
    intro m d p hm H w hw
    rcases H.1.2.1 w hw with x | x <;> omega
  refine ⟨cn_in7 hu, ?_⟩
  rw [cn_cl (by omega)]
  have db := bd (by omega) hp u hu
  refine cn_beq (d u) 1000000 (ts u hu).1 (by decide) ⟨by omega, by omega⟩ ⟨by decide, by decide⟩ (fun e => hpost di pr d p ts (cn_Pa_row hu hp e)) (fun e => ?_)
  refine loop_0 (fun n v (s : (Nat → Int32) × (Nat → Int32)) => wX_takeStepsFrom_14 post (nI u) fg n (nI v) tr po pa pe am ow un s.1 s.2)
    (fun v s => ∃ d p, cn_TS s.1 s.2 d p ∧ cn_Pa (cn_R (cn_I tr) g) (cn_cost g) q b S 1000000 B d0 (u * 7 + v) d p ∧ d u ≠ 1000000) 7 (di, pr) ⟨d, p, ts, hp, e⟩ ?_ ?_
  · intro n s hs
    obtain ⟨d, p, ts, hp, e⟩ := hs
    rw [← Nat.succ_mul] at hp
    exact br_t cn_t7 (hpost s.1 s.2 d p ts hp)
  · intro n v s hv hs ih
    obtain ⟨d, p, ts, hp, e⟩ := hs
    have du := bd (by omega) hp u hu
    have dv := bd (by omega) hp v hv
    have cb := cn_cost_b g u v
    have rb := cn_room_b ht hg hu hv
    have keep : (cn_R (cn_I tr) g u v → ¬ d u + cn_cost g u v < d v) → wX_takeStepsFrom_14 post (nI u) fg n (nI (v + 1)) tr po pa pe am ow un s.1 s.2 :=
      fun z => ih s ⟨d, p, ts, cn_Pa_no hu hv hp (fun _ => z), e⟩
    refine br_f (cn_f7 hv) ⟨cn_in7 hu, cn_scX fg tr po pa pe am ow un s.1 s.2 hg h hu hv (nm_r (e' := cn_i (d u + cn_cost g u v)) ?_ ?_)⟩
    · rw [cn_cl (by omega), (ts u hu).1, cn_i_add]
    · refine pk_eq u v (fun z => nm_r (nI_1 v) (keep (fun R => absurd z R.1))) (fun z => cn_srX fg tr po pa pe am ow un s.1 s.2 hg h hu hv ?_)
      refine cn_ble _ 0 rfl cn_i_0.symm ⟨by omega, by omega⟩ cn_n0 (fun c => nm_r (nI_1 v) (keep (fun R => by have := R.2; omega))) (fun c => ⟨cn_in7 hv, ?_⟩)
      rw [cn_cl (by omega)]
      refine cn_ble (d v) (d u + cn_cost g u v) (ts v hv).1 rfl ⟨by omega, by omega⟩ ⟨by omega, by omega⟩ (fun c2 => nm_r (nI_1 v) (keep (fun R => by omega))) (fun c2 => ⟨cn_in7 hv, nm_e ⟨cn_in7 hv, nm_e (nm_r (nI_1 v) ?_)⟩⟩)
      refine ih (_, _) ⟨cn_up d v (d u + cn_cost g u v), cn_un p v u, ?_, cn_Pa_yes (cn_Opt_Pt hq) hS (cn_cost_b g) hB hu hv hp e ⟨z, c⟩ c2, ?_⟩
      · intro w hw
        by_cases f : w = v
        · subst f
          rw [cn_up_s, cn_un_s]
          exact ⟨pk_us, pk_us, hu⟩
        · rw [cn_up_n f, cn_un_n f]
          exact ⟨(pk_un f).trans (ts w hw).1, (pk_un f).trans (ts w hw).2.1, (ts w hw).2.2⟩
      · rw [cn_up_n z]
        exact e

theorem cn_fsX {post : SX → Prop} {g : Nat → Nat → Int} {q : Nat → Int} {s : Nat} (ht : cn_T (cn_I tr)) (hg : cn_St (cn_I tr) g) (h : cn_TX ow g)
    (hq : cn_Opt (cn_I tr) g q) (hs : s < 7)
    (hpost : ∀ di' pr' d' p', cn_TS di' pr' d' p' → cn_Ro (cn_R (cn_I tr) g) (cn_cost g) q (q s) (fun w => w = s) 1000000 6 d' p' → post (fg, tr, po, pa, pe, am, ow, un, di', pr')) :
    wpX_findShortestWays post (fg, tr, po, pa, pe, am, ow, un, di, pr) (nI s) := by
  refine loop_0 (fun n k (a : (Nat → Int32) × (Nat → Int32)) => wX_findShortestWays_2 post (nI s) fg n (nI k) tr po pa pe am ow un a.1 a.2)
    (fun k a => ∀ w, w < k → a.1 w = 1000000 ∧ a.2 w = nI s) 7 (di, pr) (fun w hw => by omega) ?_ ?_
  · intro n a ha
    refine br_t cn_t7 ⟨cn_in7 hs, nm_e ?_⟩
    refine loop_0 (fun n k (a : (Nat → Int32) × (Nat → Int32)) => wX_findShortestWays_38 post n (nI (k + 1)) fg tr po pa pe am ow un a.1 a.2)
      (fun k a => ∃ d p, cn_TS a.1 a.2 d p ∧ cn_Ro (cn_R (cn_I tr) g) (cn_cost g) q (q s) (fun w => w = s) 1000000 k d p) 6 (_, _) ?_ ?_ ?_
    · refine ⟨cn_up (fun _ => 1000000) s 0, fun _ => s, fun w hw => ?_, cn_Ro_0 ⟨?_, ?_, ?_, ?_, fun _ => 0, ?_⟩⟩
      · rw [cn_cl (by omega)]
        by_cases f : w = s
        · subst f
          rw [cn_up_s]
          exact ⟨pk_us, (ha w hw).2, hs⟩
        · rw [cn_up_n f]
          exact ⟨(pk_un f).trans (ha w hw).1, (ha w hw).2, hs⟩
      · intro x hx e
        subst e
        exact ⟨cn_up_s, rfl⟩
      · intro x hx
        by_cases f : x = s
        · subst f
          rw [cn_up_s]
          exact Or.inr ⟨by omega, by omega⟩
        · rw [cn_up_n f]
          exact Or.inl rfl
      · intro x hx e
        by_cases f : x = s
        · subst f
          rw [cn_up_s]
          omega
        · rw [cn_up_n f] at e
          exact absurd rfl e
      · intro x hx f e
        rw [cn_up_n f] at e
        exact absurd rfl e
      · intro x hx f e
        rw [cn_up_n f] at e
        exact absurd rfl e
    · intro n a ⟨d, p, ts, ro⟩
      exact br_t cn_t7 (hpost a.1 a.2 d p ts ro)
    · intro n k a hk ⟨d, p, ts, ro⟩ ih
      refine br_f (cn_f7 (k := k + 1) (by omega)) ?_
      refine loop_0 (fun n' u (a : (Nat → Int32) × (Nat → Int32)) => wX_findShortestWays_46 post (wX_findShortestWays_38 post n) (nI (k + 1)) n' (nI u) fg tr po pa pe am ow un a.1 a.2)
        (fun u a => ∃ d' p', cn_TS a.1 a.2 d' p' ∧ cn_Pa (cn_R (cn_I tr) g) (cn_cost g) q (q s) (fun w => w = s) 1000000 (49 * k) d (u * 7) d' p') 7 a ⟨d, p, ts, cn_Pa_0 ro.1⟩ ?_ ?_
      · intro n' a ⟨d', p', ts', hp⟩
        exact br_t cn_t7 (nm_r (nI_1 (k + 1)) (ih a ⟨d', p', ts', cn_Ro_s ro hp⟩))
      · intro n' u a hu ⟨d', p', ts', hp⟩ ih'
        refine br_f (cn_f7 hu) (cn_tsX fg tr po pa pe am ow un a.1 a.2 ht hg h hq (fun x _ e => by rw [e]) (by omega) hu ts' hp (fun di' pr' d'' p'' ts'' hp'' => nm_r (nI_1 u) (ih' (di', pr') ⟨d'', p'', ts'', hp''⟩)))
  · intro n k a hk ha ih
    refine br_f (cn_f7 hk) ⟨cn_in7 hk, nm_e ⟨cn_in7 hk, nm_e (nm_r (nI_1 k) (ih (_, _) ?_))⟩⟩
    intro w hw
    rw [cn_cl (by omega)]
    by_cases f : w = k
    · subst f
      exact ⟨pk_us, pk_us⟩
    · exact ⟨(pk_un f).trans (ha w (by omega)).1, (pk_un f).trans (ha w (by omega)).2⟩
end
