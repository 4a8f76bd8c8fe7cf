def cn_G (t : Nat → Int) (m : Nat) (p : Nat) : Int := if cn_bit m (p / 7) = true then (if cn_bit m (p % 7) = true then 0 else t p) else 0
theorem cn_G_sum (t P : Nat → Int) (m : Nat) : cn_sum (cn_G t m) 49 - cn_sum (fun u => if cn_bit m u then P u else 0) 7 = cn_rm t P (cn_bit m) := by
  rw [cn_rm_eq, cn_sum49]
  have e : cn_sum (fun u => cn_sum (fun v => cn_G t m (u * 7 + v)) 7) 7 = cn_sum (fun u => if cn_bit m u then cn_sum (fun v => if cn_bit m v then 0 else t (u * 7 + v)) 7 else 0) 7 := by
    refine cn_sum_congr (fun u hu => ?_)
    by_cases c : cn_bit m u = true
    · rw [if_pos c]
      refine cn_sum_congr (fun v hv => ?_)
      unfold cn_G
      rw [show (u * 7 + v) / 7 = u by omega, show (u * 7 + v) % 7 = v by omega, if_pos c]
    · rw [if_neg c, ← cn_sum_0 7]
      refine cn_sum_congr (fun v hv => ?_)
      unfold cn_G
      rw [show (u * 7 + v) / 7 = u by omega, if_neg c]
  rw [e]
theorem cn_70 : ¬ (7 : Int32) = 0 := by decide

section
variable (fg : Int32) (tr po pa pe am ow un di pr : Nat → Int32)

theorem cn_slY {post : Int32 → Prop} {m : Nat} (hm : m < 128) (h : post (cn_i (cn_rm (cn_I tr) (cn_I po) (cn_bit m)))) : wpY_slack post (fg, tr, po, pa, pe, am, ow, un, di, pr) (nI m) := by
  refine loop_0 (fun n k (s : Int32) => wY_slack_4 post (nI m) fg tr po pa pe am ow un di pr n s (nI k)) (fun k s => s = cn_i (cn_sum (cn_G (cn_I tr) m) k)) 49 0 ?_ ?_ ?_
  · exact cn_i_0.symm
  · intro n s hs
    subst hs
    refine br_t cn_t49 ?_
    refine loop_0 (fun n k (s : Int32) => wY_slack_55 post (nI m) fg tr po pa pe am ow un di pr n s (nI k)) (fun k s => s = cn_i (cn_sum (cn_G (cn_I tr) m) 49 - cn_sum (fun u => if cn_bit m u then cn_I po u else 0) k)) 7 _ ?_ ?_ ?_
    · rw [show cn_sum (fun u => if cn_bit m u then cn_I po u else 0) 0 = 0 from rfl, Int.sub_zero]
    · intro n s hs
      subst hs
      rw [cn_G_sum]
      exact br_t cn_t7 h
    · intro n k s hk hs ih
      subst hs
      refine br_f (cn_f7 hk) (cn_conY fg tr po pa pe am ow un di pr hm hk (fun e => br_f cn_10 ⟨cn_in7 hk, nm_r (e' := cn_i (cn_sum (cn_G (cn_I tr) m) 49 - cn_sum (fun u => if cn_bit m u then cn_I po u else 0) (k + 1))) ?_ (nm_r (nI_1 k) (ih _ rfl))⟩) (fun e => br_t rfl (nm_r (nI_1 k) (ih _ ?_))))
      · rw [cn_cl (by omega), cn_sum_s _ k, if_pos e, ← Int.sub_sub, cn_i_sub _ (cn_I po k), ← cn_I_of]
      · rw [cn_sum_s _ k, if_neg e, Int.add_zero]
  · intro n k s hk hs ih
    subst hs
    refine br_f (cn_f49 hk) ⟨cn_70, ?_⟩
    rw [cn_q7 (by omega), ← cn_q7 (p := k) (by omega), cn_r7 (by omega), cn_q7 (by omega)]
    refine cn_conY fg tr po pa pe am ow un di pr hm (by omega) (fun e => br_f cn_10 ⟨cn_70, cn_conY fg tr po pa pe am ow un di pr hm (by omega) (fun f => br_f cn_10 (nm_r (nI_1 k) (ih _ ?_))) (fun f => br_t rfl ⟨vp_in_nI (by omega) (by decide), nm_r (e' := cn_i (cn_sum (cn_G (cn_I tr) m) (k + 1))) ?_ (nm_r (nI_1 k) (ih _ rfl))⟩)⟩) (fun e => br_t rfl (nm_r (nI_1 k) (ih _ ?_)))
    · rw [cn_sum_s _ k, cn_G, if_pos e, if_pos f, Int.add_zero]
    · rw [cn_cl (by omega), cn_sum_s _ k, cn_G, if_pos e, if_neg f, cn_i_add, ← cn_I_of]
    · rw [cn_sum_s _ k, cn_G, if_neg e, Int.add_zero]

theorem cn_psY {post : Int32 → Prop} (ht : cn_T (cn_I tr)) (hP : ∀ w, w < 7 → -1000000 ≤ cn_I po w ∧ cn_I po w ≤ 1000000)
    (h1 : (∀ k, k < 128 → 0 ≤ cn_rm (cn_I tr) (cn_I po) (cn_bit k)) → post 1) (h0 : ¬ (∀ k, k < 128 → 0 ≤ cn_rm (cn_I tr) (cn_I po) (cn_bit k)) → post 0) :
    wpY_isPossible post (fg, tr, po, pa, pe, am, ow, un, di, pr) := by
  refine loop_0 (fun n k (s : Int32) => wY_isPossible_4 post fg tr po pa pe am ow un di pr n s (nI k))
    (fun k s => (s = 1 ∧ ∀ j, j < k → 0 ≤ cn_rm (cn_I tr) (cn_I po) (cn_bit j)) ∨ (s = 0 ∧ ∃ j, j < 128 ∧ cn_rm (cn_I tr) (cn_I po) (cn_bit j) < 0)) 128 1 ?_ ?_ ?_
  · exact Or.inl ⟨rfl, fun j hj => by omega⟩
  · intro n s hs
    rcases hs with ⟨rfl, a⟩ | ⟨rfl, j, hj, a⟩
    · exact br_t cn_t128 ⟨lw_bz_n 1, h1 a⟩
    · exact br_t cn_t128 ⟨lw_bz_n 0, h0 (fun z => by have := z j hj; omega)⟩
  · intro n k s hk hs ih
    refine br_f (cn_f128 hk) ?_
    rcases hs with ⟨rfl, a⟩ | ⟨rfl, a⟩
    · refine br_f cn_10 (cn_slY fg tr po pa pe am ow un di pr hk ?_)
      have b2 := cn_rm_b (M := cn_bit k) ht hP
      refine cn_blt _ 0 rfl cn_i_0.symm ⟨by omega, by omega⟩ cn_n0 (fun c => nm_r (nI_1 k) (ih _ (Or.inr ⟨rfl, k, hk, c⟩))) (fun c => nm_r (nI_1 k) (ih _ (Or.inl ⟨rfl, fun j hj => ?_⟩)))
      by_cases e : j = k
      · subst e; exact c
      · exact a j (by omega)
    · exact br_t rfl (nm_r (nI_1 k) (ih _ (Or.inr ⟨rfl, a⟩)))

theorem cn_lsY {post : Int32 → Prop} {m x : Nat} (hm : m < 128) (hx : x < 7) (hmx : m &&& 2 ^ x = 0) (ht : cn_T (cn_I tr)) (hP : ∀ w, w < 7 → -1000000 ≤ cn_I po w ∧ cn_I po w ≤ 1000000)
    (hr : ∀ k, k < 128 → 0 ≤ cn_rm (cn_I tr) (cn_I po) (cn_bit k)) (h : post (cn_i (cn_lr (cn_I tr) (cn_I po) m (2 ^ x) 128))) : wpY_leastSlack post (fg, tr, po, pa, pe, am, ow, un, di, pr) (nI m) (nI x) := by
  refine loop_0 (fun n k (s : Int32) => wY_leastSlack_5 post (nI m) (nI x) fg tr po pa pe am ow un di pr n s (nI k))
    (fun k s => ∃ r, s = cn_i r ∧ cn_Ly (cn_I tr) (cn_I po) m (2 ^ x) k r) 128 (-1) ?_ ?_ ?_
  · exact ⟨-1, by decide, cn_Ly_0⟩
  · intro n s hs
    obtain ⟨r, rfl, e⟩ := hs
    rw [cn_Lr_eq (cn_Ly_e e hm hmx) (cn_lr_Lr hm hmx)]
    exact br_t cn_t128 h
  · intro n k s hk hs ih
    obtain ⟨r, rfl, y⟩ := hs
    have b1 := cn_Ly_b y ht hP
    have b2 := cn_rm_b (M := cn_bit k) ht hP
    refine br_f (cn_f128 hk) ?_
    by_cases c1 : k &&& m = m
    · refine br_t ((cn_and0 hm hk).mpr c1) (cn_conY fg tr po pa pe am ow un di pr hk hx (fun e => br_f cn_10 (nm_r (nI_1 k) (ih _ ⟨r, rfl, cn_Ly_no y (fun _ z => (cn_bit_out x hx k hk).mp z e)⟩))) (fun e => br_t rfl (cn_slY fg tr po pa pe am ow un di pr hk ?_)))
      have c2 := (cn_bit_out x hx k hk).mpr e
      refine cn_blt r 0 rfl cn_i_0.symm ⟨by omega, by omega⟩ cn_n0 (fun c => nm_r (nI_1 k) (ih _ ⟨_, rfl, cn_Ly_new y c1 c2 (Or.inl c) hr hk⟩)) (fun c => ?_)
      refine cn_ble _ _ rfl rfl ⟨by omega, by omega⟩ ⟨by omega, by omega⟩ (fun c3 => nm_r (nI_1 k) (ih _ ⟨r, rfl, cn_Ly_keep y (by omega) (by omega)⟩)) (fun c3 => nm_r (nI_1 k) (ih _ ⟨_, rfl, cn_Ly_new y c1 c2 (Or.inr c3) hr hk⟩))
    · exact br_f (fun z => c1 ((cn_and0 hm hk).mp z)) (nm_r (nI_1 k) (ih _ ⟨r, rfl, cn_Ly_no y (fun z => absurd z c1)⟩))
end
