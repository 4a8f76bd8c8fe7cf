theorem cn_m1lt : (-1 : Int32) < 0 := by decide
theorem cn_fin7 {n : Nat} (h : n < 7) : ¬ nI n < 0 := nI_pos (by omega)

section
variable (fg : Int32) (tr po pa pe am ow re pc be : Nat → Int32)

theorem cn_chY {post : Int32 → Prop} {d : Nat → Int} {p : Nat → Nat} (ts : cn_TP pc be d p) (hd : ∀ w, w < 7 → -1000 ≤ d w ∧ d w ≤ 1000)
    (h1 : ∀ z, z < 7 → cn_I re z < cn_I po z → d z ≠ 1000 → post (nI z)) (h0 : (∀ w, w < 7 → cn_I re w < cn_I po w → d w = 1000) → post (-1)) :
    wpY_cheapest post (fg, tr, po, pa, pe, am, ow, re, pc, be) := by
  refine loop_0 (fun n k (x : Int32) => wY_cheapest_4 post fg tr po pa pe am ow re pc be n x (nI k))
    (fun k x => (x = -1 ∧ ∀ w, w < k → cn_I re w < cn_I po w → d w = 1000) ∨ ∃ z, z < 7 ∧ x = nI z ∧ cn_I re z < cn_I po z ∧ d z ≠ 1000) 7 (-1) (Or.inl ⟨rfl, fun w hw => by omega⟩) ?_ ?_
  · intro n x hx
    rcases hx with ⟨rfl, a⟩ | ⟨z, hz, rfl, a, b⟩
    · exact br_t cn_t7 (h0 a)
    · exact br_t cn_t7 (h1 z hz a b)
  · intro n k x hk hx ih
    have b := hd k hk
    refine br_f (cn_f7 hk) ⟨cn_in7 hk, cn_in7 hk, ?_⟩
    rw [cn_cl (by omega)]
    have keep : (cn_I re k < cn_I po k → d k = 1000) → wY_cheapest_4 post fg tr po pa pe am ow re pc be n x (nI (k + 1)) := by
      intro q
      refine ih x ?_
      rcases hx with ⟨e, a⟩ | a
      · refine Or.inl ⟨e, fun w hw => ?_⟩
        by_cases f : w = k
        · subst f; exact q
        · exact a w (by omega)
      · exact Or.inr a
    refine cn_ble _ _ (cn_I_of po k) (cn_I_of re k) (cn_nrI _) (cn_nrI _) (fun c => nm_r (nI_1 k) (keep (fun q => by omega))) (fun c => ⟨cn_in7 hk, ?_⟩)
    refine cn_ble 1000 (d k) (by decide) (ts k hk).1 ⟨by decide, by decide⟩ ⟨by omega, by omega⟩ (fun c2 => nm_r (nI_1 k) (keep (fun q => by omega))) (fun c2 => ?_)
    rcases hx with ⟨rfl, a⟩ | ⟨z, hz, rfl, a, b⟩
    · exact br_t cn_m1lt (nm_r (nI_1 k) (ih _ (Or.inr ⟨k, hk, rfl, c, by omega⟩)))
    · refine br_f (cn_fin7 hz) ⟨cn_in7 hk, cn_in7 hz, ?_⟩
      exact br_c (fun _ => nm_r (nI_1 k) (ih _ (Or.inr ⟨z, hz, rfl, a, b⟩))) (fun _ => nm_r (nI_1 k) (ih _ (Or.inr ⟨k, hk, rfl, c, by omega⟩)))

theorem cn_wiY {post : Int32 → Prop} {g : Nat → Nat → Int} {q d : Nat → Int} {p : Nat → Nat} {z L : Nat} {S : Nat → Prop} (ht : cn_T (cn_I tr)) (hg : cn_St (cn_I tr) g) (h : cn_TY ow g)
    (hz : z < 7) (ts : cn_TP pc be d p) (hw : cn_Wy (cn_I tr) g S q p z L) (hroot : p (cn_it p L z) = cn_it p L z)
    (hun : ∀ w, w < 7 → -60000 ≤ cn_I po w - cn_I re w ∧ cn_I po w - cn_I re w ≤ 60000) (h1 : cn_I po (cn_it p L z) < cn_I re (cn_it p L z)) (h2 : cn_I re z < cn_I po z)
    (hpost : ∀ a : Int, 1 ≤ a → a ≤ cn_I re (cn_it p L z) - cn_I po (cn_it p L z) → a ≤ cn_I po z - cn_I re z → (∀ j, j < L → a ≤ cn_room (cn_I tr) g (cn_it p (j + 1) z) (cn_it p j z)) → post (cn_i a)) :
    wpY_widthTo post (fg, tr, po, pa, pe, am, ow, re, pc, be) (nI z) := by
  obtain ⟨l1, l2, l3, l4, l5, l6⟩ := hw
  have bz := hun z hz
  have b0 := l3 L (Nat.le_refl _)
  have br := hun _ b0
  unfold wpY_widthTo
  dsimp only
  refine ⟨cn_in7 hz, cn_in7 hz, nm_r (e' := cn_i (cn_I po z - cn_I re z)) ?_ ?_⟩
  · rw [cn_cl (by omega), cn_i_sub, ← cn_I_of, ← cn_I_of]
  refine loop_0 (fun n i (x : Int32 × Int32) => wY_widthTo_19 post fg tr po pa pe am ow re pc be n x.1 x.2 (nI i))
    (fun i x => x.2 = nI (cn_it p i z) ∧ ∃ a : Int, x.1 = cn_i a ∧ 1 ≤ a ∧ a ≤ cn_I po z - cn_I re z ∧ ∀ j, j < i → a ≤ cn_room (cn_I tr) g (cn_it p (j + 1) z) (cn_it p j z)) L (_, nI z)
    ⟨rfl, _, rfl, by omega, by omega, fun j hj => by omega⟩ ?_ ?_
  · intro n x ⟨x1, a, x2, a1, a3, a4⟩
    obtain ⟨y, y'⟩ := x
    have x1' : y' = nI (cn_it p L z) := x1
    have x2' : y = cn_i a := x2
    subst x1' x2'
    obtain ⟨t1, t2, t3⟩ := ts _ b0
    rw [if_pos hroot] at t2
    refine br_f (cn_f7 (by omega)) ⟨cn_in7 b0, br_t ?_ ⟨cn_in7 b0, cn_in7 b0, nm_r (e' := cn_i (cn_I re (cn_it p L z) - cn_I po (cn_it p L z))) ?_ ?_⟩⟩
    · rw [cn_cl (by omega), t2]
      exact cn_m1lt
    · rw [cn_cl (by omega), cn_i_sub, ← cn_I_of, ← cn_I_of]
    · refine cn_ble a _ rfl rfl ⟨by omega, by omega⟩ ⟨by omega, by omega⟩ (fun c => hpost a a1 c a3 a4) (fun c => hpost _ (by omega) (by omega) (by omega) (fun j hj => ?_))
      have := a4 j hj
      omega
  · intro n i x hi ⟨x1, a, x2, a1, a3, a4⟩ ih
    obtain ⟨y, y'⟩ := x
    have x1' : y' = nI (cn_it p i z) := x1
    have x2' : y = cn_i a := x2
    subst x1' x2'
    have b1 := l3 i (by omega)
    have b2 := l3 (i + 1) (by omega)
    have ne : p (cn_it p i z) ≠ cn_it p i z := by
      rw [← cn_it_r p i z]
      exact fun e => l5 i (i + 1) (by omega) (by omega) e.symm
    obtain ⟨t1, t2, t3⟩ := ts _ b1
    rw [if_neg ne, ← cn_it_r p i z] at t2
    have rb := cn_room_b ht hg b2 b1
    have rp := (l6 i hi).1
    refine br_f (cn_f7 (by omega)) ⟨cn_in7 b1, ?_⟩
    rw [cn_cl (by omega), t2]
    refine br_f (cn_fin7 b2) ⟨cn_in7 b1, cn_rmY fg tr po pa pe am ow re pc be h b2 b1 ?_⟩
    refine cn_ble a _ rfl rfl ⟨by omega, by omega⟩ ⟨by omega, by omega⟩ (fun c => ⟨cn_in7 b1, nm_r (e' := nI (cn_it p (i + 1) z)) ?_ (nm_r (nI_1 i) (ih (_, _) ⟨rfl, a, rfl, a1, a3, fun j hj => ?_⟩))⟩)
      (fun c => ⟨cn_in7 b1, nm_r (e' := nI (cn_it p (i + 1) z)) ?_ (nm_r (nI_1 i) (ih (_, _) ⟨rfl, _, rfl, by omega, by omega, fun j hj => ?_⟩))⟩)
    · rw [cn_cl (by omega), t2]
    · by_cases e : j = i
      · subst e; exact c
      · exact a4 j (by omega)
    · rw [cn_cl (by omega), t2]
    · by_cases e : j = i
      · subst e; exact Int.le_refl _
      · have := a4 j (by omega)
        omega

theorem cn_adY {g : Nat → Nat → Int} {u v : Nat} {a : Int} (ht : cn_T (cn_I tr)) (hg : cn_St (cn_I tr) g) (h : cn_TY ow g) (hu : u < 7) (hv : v < 7) (huv : u ≠ v) (ha : 0 ≤ a) (ha' : a ≤ 2000) :
    cn_TY (upd (upd ow (u * 7 + v) (ow (u * 7 + v) + cn_i a)) (v * 7 + u) (upd ow (u * 7 + v) (ow (u * 7 + v) + cn_i a) (v * 7 + u) - cn_i a)) (cn_add g u v a) := by
  have gb := cn_g_b ht hg hu hv
  have gb' := cn_g_b ht hg hv hu
  have e := h v u hv hu
  have e' := h u v hu hv
  have x : (ow (u * 7 + v) + cn_i a).toInt = g u v + a := by
    rw [cn_I_of ow, e', ← cn_i_add, cn_ti (by omega) (by omega)]
  have y : (ow (v * 7 + u) - cn_i a).toInt = g v u - a := by
    rw [cn_I_of ow, e, ← cn_i_sub, cn_ti (by omega) (by omega)]
  rw [pk_un (show v * 7 + u ≠ u * 7 + v by omega)]
  intro x1 y1 hx hy
  rw [cn_I_up, cn_I_up, x, y]
  by_cases f : x1 = u ∧ y1 = v
  · obtain ⟨rfl, rfl⟩ := f
    rw [cn_up_n (by omega), cn_up_s, cn_add_1]
  · by_cases f' : x1 = v ∧ y1 = u
    · obtain ⟨rfl, rfl⟩ := f'
      rw [cn_up_s, cn_add_2 huv]
    · rw [cn_up_n (by omega), cn_up_n (by omega), cn_add_3 f f']
      exact h x1 y1 hx hy

theorem cn_snY {post : SY → Prop} {g : Nat → Nat → Int} {q d : Nat → Int} {p : Nat → Nat} {z L : Nat} {S : Nat → Prop} {a : Int} (ht : cn_T (cn_I tr)) (hg : cn_St (cn_I tr) g) (h : cn_TY ow g)
    (hq : cn_Opt (cn_I tr) g q) (hz : z < 7) (ts : cn_TP pc be d p) (hw : cn_Wy (cn_I tr) g S q p z L) (hroot : p (cn_it p L z) = cn_it p L z)
    (hrz : cn_it p L z ≠ z) (hre : ∀ w, w < 7 → -1000000 ≤ cn_I re w ∧ cn_I re w ≤ 1000000) (a1 : 1 ≤ a) (a2 : a ≤ 100000)
    (a4 : ∀ j, j < L → a ≤ cn_room (cn_I tr) g (cn_it p (j + 1) z) (cn_it p j z))
    (hpost : ∀ ow' re' g', cn_TY ow' g' → cn_W2 (cn_I tr) q p z L a g L g' → cn_I re' = cn_up (cn_up (cn_I re) z (cn_I re z + a)) (cn_it p L z) (cn_I re (cn_it p L z) - a) →
      post (fg, tr, po, pa, pe, am, ow', re', pc, be)) :
    wpY_sendTo post (fg, tr, po, pa, pe, am, ow, re, pc, be) (nI z) (cn_i a) := by
  have W := hw
  obtain ⟨l1, l2, l3, l4, l5, l6⟩ := hw
  have b0 := l3 L (Nat.le_refl _)
  have r1 := hre z hz
  have r2 := hre _ b0
  unfold wpY_sendTo
  dsimp only
  refine ⟨cn_in7 hz, cn_in7 hz, nm_e ?_⟩
  refine loop_0 (fun n i (x : Int32 × (Nat → Int32)) => wY_sendTo_19 post (cn_i a) fg n x.1 (nI i) tr po pa pe am x.2 _ pc be)
    (fun i x => x.1 = nI (cn_it p i z) ∧ ∃ g', cn_TY x.2 g' ∧ cn_W2 (cn_I tr) q p z L a g i g') L (nI z, ow) ⟨rfl, g, h, cn_W2_0 hg hq⟩ ?_ ?_
  · intro n x ⟨x1, g', x2, x3⟩
    obtain ⟨y, ow1⟩ := x
    have x1' : y = nI (cn_it p L z) := x1
    subst x1'
    obtain ⟨t1, t2, t3⟩ := ts _ b0
    rw [if_pos hroot] at t2
    refine br_f (cn_f7 (by omega)) ⟨cn_in7 b0, br_t ?_ ⟨cn_in7 b0, cn_in7 b0, nm_e (hpost _ _ g' x2 x3 ?_)⟩⟩
    · rw [cn_cl (by omega), t2]
      exact cn_m1lt
    · rw [cn_cl (by omega), cn_cl (by omega), cn_I_up, cn_I_up, pk_un hrz]
      have e1 : (re z + cn_i a).toInt = cn_I re z + a := by
        rw [cn_I_of re z, ← cn_i_add, cn_ti (by omega) (by omega)]
      have e2 : (re (cn_it p L z) - cn_i a).toInt = cn_I re (cn_it p L z) - a := by
        rw [cn_I_of re, ← cn_i_sub, cn_ti (by omega) (by omega)]
      rw [e1, e2]
  · intro n i x hi ⟨x1, g', x2, x3⟩ ih
    obtain ⟨y, ow1⟩ := x
    have x1' : y = nI (cn_it p i z) := x1
    subst x1'
    have b1 := l3 i (by omega)
    have b2 := l3 (i + 1) (by omega)
    have ne : p (cn_it p i z) ≠ cn_it p i z := by
      rw [← cn_it_r p i z]
      exact fun e => l5 i (i + 1) (by omega) (by omega) e.symm
    have ne' : cn_it p (i + 1) z ≠ cn_it p i z := by
      rw [cn_it_r p i z]
      exact ne
    obtain ⟨t1, t2, t3⟩ := ts _ b1
    rw [if_neg ne, ← cn_it_r p i z] at t2
    have rb := cn_room_b ht hg b2 b1
    have a5 := a4 i hi
    refine br_f (cn_f7 (by omega)) ⟨cn_in7 b1, ?_⟩
    rw [cn_cl (by omega), t2]
    refine br_f (cn_fin7 b2) ⟨cn_in7 b1, nm_e ?_⟩
    rw [cn_iy, cn_iy, cn_cl (by omega), cn_cl (by omega)]
    refine ⟨cn_in49 b2 b1, cn_in49 b2 b1, nm_e ⟨cn_in49 b1 b2, cn_in49 b1 b2, nm_e (nm_r (nI_1 i) (ih (_, _) ⟨rfl, _, ?_, cn_W2_s (by omega) hi (cn_T2 ht) W a5 x3⟩))⟩⟩
    exact cn_adY tr ow1 ht x3.1 x2 b2 b1 ne' (by omega) (by omega)
end
