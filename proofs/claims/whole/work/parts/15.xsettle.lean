theorem cn_po_b {t : Nat → Int} {g : Nat → Nat → Int} (ht : cn_T t) (hg : cn_St t g) {w : Nat} (hw : w < 7) : -7000 ≤ cn_po g w ∧ cn_po g w ≤ 7000 := by
  refine ⟨?_, ?_⟩
  · have h : cn_sum (fun _ => -1000) 7 ≤ cn_po g w := cn_sum_le (fun v hv => (cn_g_b ht hg hv hw).1)
    have e : cn_sum (fun _ => -1000) 7 = -7000 := by decide
    omega
  · have h : cn_po g w ≤ cn_sum (fun _ => 1000) 7 := cn_sum_le (fun v hv => (cn_g_b ht hg hv hw).2)
    have e : cn_sum (fun _ => 1000) 7 = 7000 := by decide
    omega

theorem cn_Se_b {t P un q : Nat → Int} {k : Nat} {g : Nat → Nat → Int} (ht : cn_T t) (hP : ∀ w, w < 7 → -50000 ≤ P w ∧ P w ≤ 50000) (h : cn_Se t P k g un q) : ∀ w, w < 7 → -60000 ≤ un w ∧ un w ≤ 60000 := by
  intro w hw
  have a := h.2.2.1 w hw
  have b := hP w hw
  have c := cn_po_b ht h.1 hw
  omega

theorem cn_m1 : cn_i (-1) = -1 := by decide
theorem cn_nm1 {n : Nat} (h : n < 7) : ¬ nI n = -1 := by
  intro e
  have := congrArg Int32.toInt e
  rw [nI_toInt (by omega), show (-1 : Int32).toInt = -1 by decide] at this
  omega

theorem cn_pp_add {t : Nat → Int} {g : Nat → Nat → Int} {u v : Nat} {a : Int} (hg : cn_St t g) (hu : u < 7) (hv : v < 7) (ha : 0 ≤ a) (hr : a ≤ cn_room t g u v) :
    (0 < cn_pp (g v u) → cn_pp (g v u - a) = cn_pp (g v u) - a ∧ cn_pp (g u v + a) = cn_pp (g u v)) ∧ (cn_pp (g v u) ≤ 0 → cn_pp (g u v + a) = cn_pp (g u v) + a ∧ cn_pp (g v u - a) = cn_pp (g v u)) := by
  have e := (hg u v hu hv).1
  unfold cn_room at hr
  unfold cn_pp
  refine ⟨fun h => ?_, fun h => ?_⟩
  · split at h <;> split at hr <;> (refine ⟨?_, ?_⟩ <;> (repeat' split) <;> omega)
  · split at h <;> split at hr <;> (refine ⟨?_, ?_⟩ <;> (repeat' split) <;> omega)

section
variable (fg : Int32) (tr po pa pe am ow un di pr : Nat → Int32)

theorem cn_fdX {post : Int32 → Prop} (h1 : ∀ s, s < 7 → cn_I un s < 0 → post (nI s)) (h0 : (∀ w, w < 7 → 0 ≤ cn_I un w) → post (-1)) : wpX_firstDebtor post (fg, tr, po, pa, pe, am, ow, un, di, pr) := by
  refine loop_0 (fun n k (_ : Unit) => wX_firstDebtor_2 post fg tr po pa pe am ow un di pr n (nI k)) (fun k _ => ∀ w, w < k → 0 ≤ cn_I un w) 7 () (fun w hw => by omega) ?_ ?_
  · intro n _ a
    exact br_t cn_t7 (h0 a)
  · intro n k _ hk a ih
    refine br_f (cn_f7 hk) ⟨cn_in7 hk, ?_⟩
    rw [cn_cl (by omega)]
    refine cn_ble 0 (cn_I un k) cn_i_0.symm (cn_I_of un k) cn_n0 (cn_nrI _) (fun c => nm_r (nI_1 k) (ih () (fun w hw => ?_))) (fun c => h1 k hk c)
    by_cases e : w = k
    · subst e; exact c
    · exact a w (by omega)

theorem cn_fcX {post : Int32 → Prop} {d : Nat → Int} {p : Nat → Nat} (ts : cn_TS di pr d p) (hd : ∀ w, w < 7 → -1000000 ≤ d w ∧ d w ≤ 1000000) (h1 : ∀ z, z < 7 → 0 < cn_I un z → d z ≠ 1000000 → post (nI z))
    (h0 : (∀ w, w < 7 → 0 < cn_I un w → d w = 1000000) → post (-1)) : wpX_firstReachedCreditor post (fg, tr, po, pa, pe, am, ow, un, di, pr) := by
  refine loop_0 (fun n k (_ : Unit) => wX_firstReachedCreditor_2 post fg tr po pa pe am ow un di pr n (nI k)) (fun k _ => ∀ w, w < k → 0 < cn_I un w → d w = 1000000) 7 () (fun w hw => by omega) ?_ ?_
  · intro n _ a
    exact br_t cn_t7 (h0 a)
  · intro n k _ hk a ih
    have b := hd k hk
    refine br_f (cn_f7 hk) ⟨cn_in7 hk, ?_⟩
    rw [cn_cl (by omega)]
    have keep : (0 < cn_I un k → d k = 1000000) → wX_firstReachedCreditor_2 post fg tr po pa pe am ow un di pr n (nI (k + 1)) := by
      intro z
      refine ih () (fun w hw => ?_)
      by_cases e : w = k
      · subst e; exact z
      · exact a w (by omega)
    refine cn_ble (cn_I un k) 0 (cn_I_of un k) cn_i_0.symm (cn_nrI _) cn_n0 (fun c => nm_r (nI_1 k) (keep (fun z => by omega))) (fun c => ⟨cn_in7 hk, ?_⟩)
    exact cn_ble 1000000 (d k) (by decide) (ts k hk).1 ⟨by decide, by decide⟩ ⟨by omega, by omega⟩ (fun c2 => nm_r (nI_1 k) (keep (fun z => by omega))) (fun c2 => h1 k hk c (by omega))

theorem cn_adX {post : SX → Prop} {g : Nat → Nat → Int} {u v : Nat} {a : Int} (hg : cn_St (cn_I tr) g) (ht : cn_T (cn_I tr)) (h : cn_TX ow g) (hu : u < 7) (hv : v < 7) (huv : u ≠ v) (ha : 0 ≤ a) (hr : a ≤ cn_room (cn_I tr) g u v)
    (hp : ∀ ow', cn_TX ow' (cn_add g u v a) → post (fg, tr, po, pa, pe, am, ow', un, di, pr)) : wpX_addDebt post (fg, tr, po, pa, pe, am, ow, un, di, pr) (nI u) (nI v) (cn_i a) := by
  unfold wpX_addDebt
  dsimp only
  rw [cn_ix, cn_ix]
  refine ⟨cn_in49 hv hu, ?_⟩
  rw [cn_cl (by omega), cn_cl (by omega)]
  have e := h v u hv hu
  have e' := h u v hu hv
  have rb := cn_room_b ht hg hu hv
  have gb := cn_g_b ht hg hu hv
  have gb' := cn_g_b ht hg hv hu
  obtain ⟨A1, A2⟩ := cn_pp_add hg hu hv ha hr
  refine cn_ble _ 0 (cn_I_of ow _) cn_i_0.symm (cn_nrI _) cn_n0 (fun c => ⟨cn_in49 hu hv, cn_in49 hu hv, nm_e (hp _ ?_)⟩) (fun c => ⟨cn_in49 hv hu, cn_in49 hv hu, nm_e (hp _ ?_)⟩)
  · rw [e] at c
    obtain ⟨B1, B2⟩ := A2 c
    have x : (ow (u * 7 + v) + cn_i a).toInt = cn_pp (g u v) + a := by
      rw [cn_I_of ow, e', ← cn_i_add, cn_ti (by unfold cn_pp; split <;> omega) (by unfold cn_pp; split <;> omega)]
    intro x1 y1 hx hy
    rw [cn_I_up]
    by_cases f : x1 = u ∧ y1 = v
    · obtain ⟨rfl, rfl⟩ := f
      rw [cn_up_s, cn_add_1, x, B1]
    · rw [cn_up_n (by omega)]
      by_cases f' : x1 = v ∧ y1 = u
      · obtain ⟨rfl, rfl⟩ := f'
        rw [cn_add_2 huv, e, B2]
      · rw [cn_add_3 f f']
        exact h x1 y1 hx hy
  · rw [e] at c
    obtain ⟨B1, B2⟩ := A1 c
    have x : (ow (v * 7 + u) - cn_i a).toInt = cn_pp (g v u) - a := by
      rw [cn_I_of ow, e, ← cn_i_sub, cn_ti (by unfold cn_pp; split <;> omega) (by unfold cn_pp; split <;> omega)]
    intro x1 y1 hx hy
    rw [cn_I_up]
    by_cases f' : x1 = v ∧ y1 = u
    · obtain ⟨rfl, rfl⟩ := f'
      rw [cn_up_s, cn_add_2 huv, x, B1]
    · rw [cn_up_n (by omega)]
      by_cases f : x1 = u ∧ y1 = v
      · obtain ⟨rfl, rfl⟩ := f
        rw [cn_add_1, e', B2]
      · rw [cn_add_3 f f']
        exact h x1 y1 hx hy

theorem cn_sbX {post : SX → Prop} {g : Nat → Nat → Int} {q d : Nat → Int} {p : Nat → Nat} {s z L : Nat} (ht : cn_T (cn_I tr)) (hg : cn_St (cn_I tr) g) (h : cn_TX ow g)
    (hq : cn_Opt (cn_I tr) g q) (hs : s < 7) (hz : z < 7) (ts : cn_TS di pr d p) (hw : cn_Wy (cn_I tr) g (fun w => w = s) q p z L)
    (hun : ∀ w, w < 7 → -60000 ≤ cn_I un w ∧ cn_I un w ≤ 60000) (h1 : cn_I un s < 0) (h2 : 0 < cn_I un z)
    (hpost : ∀ ow' un' g' a, cn_TX ow' g' → 1 ≤ a → a ≤ - cn_I un s → a ≤ cn_I un z → cn_W2 (cn_I tr) q p z L a g L g' →
      cn_I un' = cn_up (cn_up (cn_I un) s (cn_I un s + a)) z (cn_I un z - a) → post (fg, tr, po, pa, pe, am, ow', un', di, pr)) :
    wpX_settleBetween post (fg, tr, po, pa, pe, am, ow, un, di, pr) (nI s) (nI z) := by
  have W := hw
  obtain ⟨l1, l2, l3, l4, l5, l6⟩ := hw
  have bs := hun s hs
  have bz := hun z hz
  have sz : s ≠ z := by
    intro e
    subst e
    omega
  -- the second walk and the end
  have second : ∀ a : Int, 1 ≤ a → a ≤ - cn_I un s → a ≤ cn_I un z → (∀ j, j < L → a ≤ cn_room (cn_I tr) g (cn_it p (j + 1) z) (cn_it p j z)) →
      ∃ n, wX_settleBetween_97 post (nI s) (nI z) (cn_i a) n (nI z) 0 fg tr po pa pe am ow un di pr := by
    intro a a1 a2 a3 a4
    refine loop_0 (fun n i (x : Int32 × (Nat → Int32)) => wX_settleBetween_97 post (nI s) (nI z) (cn_i a) n x.1 (nI i) fg tr po pa pe am x.2 un di pr)
      (fun i x => x.1 = nI (cn_it p i z) ∧ ∃ g', cn_TX x.2 g' ∧ cn_W2 (cn_I tr) q p z L a g i g') L (nI z, ow) ⟨rfl, g, h, cn_W2_0 hg hq⟩ ?_ ?_
    · intro n x ⟨x1, g', x2, x3⟩
      refine br_f (cn_f7 (by omega)) (br_t ?_ ?_)
      · rw [x1, l2]
      · refine ⟨cn_in7 hs, cn_in7 hs, nm_e ⟨cn_in7 hz, cn_in7 hz, nm_e (hpost _ _ g' a x2 a1 a2 a3 x3 ?_)⟩⟩
        rw [cn_cl (by omega), cn_cl (by omega), cn_I_up, cn_I_up, pk_un (fun e => sz e.symm)]
        have e1 : (un s + cn_i a).toInt = cn_I un s + a := by
          rw [cn_I_of un s, ← cn_i_add, cn_ti (by omega) (by omega)]
        have e2 : (un z - cn_i a).toInt = cn_I un z - a := by
          rw [cn_I_of un z, ← cn_i_sub, cn_ti (by omega) (by omega)]
        rw [e1, e2]
    · intro n i x hi ⟨x1, g', x2, x3⟩ ih
      obtain ⟨y, ow1⟩ := x
      have x1' : y = nI (cn_it p i z) := x1
      subst x1'
      have b1 := l3 i (by omega)
      have b2 := l3 (i + 1) (by omega)
      obtain ⟨t1, t2, t3⟩ := ts _ b1
      rw [← cn_it_r p i z] at t2 t3
      have ne : cn_it p (i + 1) z ≠ cn_it p i z := fun e => l5 i (i + 1) (by omega) (by omega) e.symm
      refine br_f (cn_f7 (by omega)) (br_f (fun e => l4 i hi ((nI_eq (by omega) (by omega)).mp e)) ⟨cn_in7 b1, ?_⟩)
      rw [cn_cl (by omega), t2]
      have rr := cn_W2_r hi x3
      have a5 := a4 i hi
      refine cn_adX fg tr po pa pe am ow1 un di pr x3.1 ht x2 b2 b1 ne (by omega) (by omega) (fun ow2 x2' => ⟨cn_in7 b1, nm_r (e' := nI (cn_it p (i + 1) z)) ?_ (nm_r (nI_1 i) (ih (_, ow2) ⟨rfl, _, x2', cn_W2_s (by omega) hi (cn_T2 ht) W a5 x3⟩))⟩)
      exact t2
  -- the first walk
  have first : ∀ a : Int, 1 ≤ a → a ≤ - cn_I un s → a ≤ cn_I un z → ∃ n, wX_settleBetween_35 post (nI s) (nI z) fg tr po pa pe am ow un di pr n (cn_i a) (nI z) 0 := by
    intro a a1 a2 a3
    refine loop_0 (fun n i (x : Int32 × Int32) => wX_settleBetween_35 post (nI s) (nI z) fg tr po pa pe am ow un di pr n x.1 x.2 (nI i))
      (fun i x => x.2 = nI (cn_it p i z) ∧ ∃ a : Int, x.1 = cn_i a ∧ 1 ≤ a ∧ a ≤ - cn_I un s ∧ a ≤ cn_I un z ∧ ∀ j, j < i → a ≤ cn_room (cn_I tr) g (cn_it p (j + 1) z) (cn_it p j z)) L (cn_i a, nI z)
      ⟨rfl, a, rfl, a1, a2, a3, fun j hj => by omega⟩ ?_ ?_
    · intro n x ⟨x1, a, x2, a1, a2, a3, a4⟩
      refine br_f (cn_f7 (by omega)) (br_t ?_ ?_)
      · rw [x1, l2]
      · rw [x2]
        exact second a a1 a2 a3 a4
    · intro n i x hi ⟨x1, a, x2, a1, a2, a3, a4⟩ ih
      obtain ⟨y, y'⟩ := x
      have x1' : y' = nI (cn_it p i z) := x1
      have x2' : y = cn_i a := x2
      subst x1' x2'
      have b1 := l3 i (by omega)
      have b2 := l3 (i + 1) (by omega)
      obtain ⟨t1, t2, t3⟩ := ts _ b1
      rw [← cn_it_r p i z] at t2 t3
      refine br_f (cn_f7 (by omega)) (br_f (fun e => l4 i hi ((nI_eq (by omega) (by omega)).mp e)) ⟨cn_in7 b1, ?_⟩)
      rw [cn_cl (by omega), t2]
      have rb := cn_room_b ht hg b2 b1
      have rp := (l6 i hi).1
      refine cn_srX fg tr po pa pe am ow un di pr hg h b2 b1 ?_
      refine cn_ble a _ rfl rfl ⟨by omega, by omega⟩ ⟨by omega, by omega⟩ (fun c => ⟨cn_in7 b1, nm_r (e' := nI (cn_it p (i + 1) z)) ?_ (nm_r (nI_1 i) (ih (_, _) ⟨rfl, a, rfl, a1, a2, a3, fun j hj => ?_⟩))⟩)
        (fun c => ⟨cn_in7 b1, nm_r (e' := nI (cn_it p (i + 1) z)) ?_ (nm_r (nI_1 i) (ih (_, _) ⟨rfl, _, rfl, by omega, by omega, by omega, fun j hj => ?_⟩))⟩)
      · rw [cn_cl (by omega), t2]
      · by_cases e : j = i
        · subst e; exact c
        · exact a4 j (by omega)
      · rw [cn_cl (by omega), t2]
      · by_cases e : j = i
        · subst e; exact Int.le_refl _
        · have := a4 j (by omega)
          omega
  unfold wpX_settleBetween
  dsimp only
  refine ⟨cn_in7 hs, nm_r (e' := cn_i (- cn_I un s)) ?_ ⟨cn_in7 hz, ?_⟩⟩
  · rw [cn_cl (by omega), cn_i_neg, ← cn_I_of]
  · rw [cn_cl (by omega)]
    exact cn_ble (- cn_I un s) (cn_I un z) rfl (cn_I_of un z) ⟨by omega, by omega⟩ ⟨by omega, by omega⟩ (fun c => first _ (by omega) (by omega) (by omega))
      (fun c => ⟨cn_in7 hz, nm_r (cn_I_of un z) (first _ (by omega) (by omega) (by omega))⟩)
end
