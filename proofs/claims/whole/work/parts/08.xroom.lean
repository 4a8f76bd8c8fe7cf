theorem cn_t7 : (7 : Int32) ≤ nI 7 := by decide
theorem cn_f7 {k : Nat} (h : k < 7) : ¬ (7 : Int32) ≤ nI k := nI_ge (b := 7) h (by decide)
theorem cn_t49 : (49 : Int32) ≤ nI 49 := by decide
theorem cn_f49 {k : Nat} (h : k < 49) : ¬ (49 : Int32) ≤ nI k := nI_ge (b := 49) h (by decide)
theorem cn_t128 : (128 : Int32) ≤ nI 128 := by decide
theorem cn_f128 {k : Nat} (h : k < 128) : ¬ (128 : Int32) ≤ nI k := nI_ge (b := 128) h (by decide)
theorem cn_10 : ¬ (1 : Int32) = 0 := by decide

def cn_mem (x : Int32) : Prop := ∃ a, a < 7 ∧ x = nI a
def cn_two (x y : Int32) : Prop := ∃ a b, a < 7 ∧ b < 7 ∧ a ≠ b ∧ x = nI a ∧ y = nI b
theorem cn_nmem1 {x : Int32} (h : x < 0) : ¬ cn_mem x := fun ⟨a, ha, e⟩ => nI_pos (n := a) (by omega) (e ▸ h)
theorem cn_nmem2 {x : Int32} (h : 7 ≤ x) : ¬ cn_mem x := fun ⟨_, ha, e⟩ => cn_f7 ha (e ▸ h)

theorem cn_mX {post : Int32 → Prop} {x : Int32} (h1 : cn_mem x → post 1) (h0 : ¬ cn_mem x → post 0) : wpX_isMember post x := by
  rcases pk_ix x (n := 7) (by decide) with a | a | ⟨j, hj, rfl⟩
  · exact br_t a (h0 (cn_nmem1 a))
  · exact br_f (fun z => by
      have h : (7 : Int32) < 0 := Int32.lt_of_le_of_lt a z
      exact absurd h (by decide)) (br_t a (h0 (cn_nmem2 a)))
  · exact br_f (nI_pos (by omega)) (br_f (cn_f7 hj) (h1 ⟨j, hj, rfl⟩))

theorem cn_2X {post : Int32 → Prop} {x y : Int32} (h1 : cn_two x y → post 1) (h0 : ¬ cn_two x y → post 0) : wpX_areTwoMembers post x y := by
  unfold wpX_areTwoMembers
  refine cn_mX (fun hx => br_f cn_10 (cn_mX (fun hy => br_f cn_10 ?_) (fun hy => br_t rfl (h0 ?_)))) (fun hx => br_t rfl (h0 ?_))
  · obtain ⟨a, ha, rfl⟩ := hx
    obtain ⟨b, hb, rfl⟩ := hy
    refine pk_eq a b (fun e => h0 ?_) (fun e => h1 ⟨a, b, ha, hb, e, rfl, rfl⟩)
    rintro ⟨a', b', ha', hb', ne, e1, e2⟩
    rw [nI_eq (by omega) (by omega)] at e1 e2
    omega
  · rintro ⟨a, b, ha, hb, ne, e1, e2⟩
    exact hy ⟨b, hb, e2⟩
  · rintro ⟨a, b, ha, hb, ne, e1, e2⟩
    exact hx ⟨a, ha, e1⟩

theorem cn_mY {A B : Prop} {x : Int32} (h1 : cn_mem x → B) (h0 : ¬ cn_mem x → A) : (x < 0 → A) ∧ (¬ x < 0 → (6 < x → A) ∧ (¬ 6 < x → B)) := by
  rcases pk_ix x (n := 7) (by decide) with a | a | ⟨j, hj, rfl⟩
  · exact br_t a (h0 (cn_nmem1 a))
  · exact br_f (fun z => by
      have h : (7 : Int32) < 0 := Int32.lt_of_le_of_lt a z
      exact absurd h (by decide)) (br_t (Int32.lt_of_lt_of_le (by decide : (6 : Int32) < 7) a) (h0 (cn_nmem2 a)))
  · exact br_f (nI_pos (by omega)) (br_f (nI_nlt (a := 6) (by omega) (by decide)) (h1 ⟨j, hj, rfl⟩))

section
variable (fg : Int32) (tr po pa pe am ow un di pr : Nat → Int32)

theorem cn_2Y {post : Int32 → Prop} {x y : Int32} (h1 : cn_two x y → post 1) (h0 : ¬ cn_two x y → post 0) : wpY_isPair post (fg, tr, po, pa, pe, am, ow, un, di, pr) x y := by
  unfold wpY_isPair
  refine cn_mY (fun hx => cn_mY (fun hy => ?_) (fun hy => h0 ?_)) (fun hx => h0 ?_)
  · obtain ⟨a, ha, rfl⟩ := hx
    obtain ⟨b, hb, rfl⟩ := hy
    refine pk_eq a b (fun e => h0 ?_) (fun e => h1 ⟨a, b, ha, hb, e, rfl, rfl⟩)
    rintro ⟨a', b', ha', hb', ne, e1, e2⟩
    rw [nI_eq (by omega) (by omega)] at e1 e2
    omega
  · rintro ⟨a, b, ha, hb, ne, e1, e2⟩
    exact hy ⟨b, hb, e2⟩
  · rintro ⟨a, b, ha, hb, ne, e1, e2⟩
    exact hx ⟨a, ha, e1⟩

theorem cn_conX {post : Int32 → Prop} {m k : Nat} (hm : m < 128) (hk : k < 7) (h1 : cn_bit m k = true → post 1) (h0 : ¬ cn_bit m k = true → post 0) : wpX_contains post (nI m) (nI k) := by
  unfold wpX_contains
  rw [cn_bit_1 hm hk]
  exact br_c h1 h0
theorem cn_conY {post : Int32 → Prop} {m k : Nat} (hm : m < 128) (hk : k < 7) (h1 : cn_bit m k = true → post 1) (h0 : ¬ cn_bit m k = true → post 0) : wpY_in post (fg, tr, po, pa, pe, am, ow, un, di, pr) (nI m) (nI k) := by
  unfold wpY_in
  dsimp only
  rw [cn_bit_1 hm hk]
  exact br_c h1 h0

theorem cn_troX {post : Int32 → Prop} {m u : Nat} (hm : m < 128) (hu : u < 7)
    (h : post (cn_i (cn_sum (fun v => if cn_bit m v then 0 else cn_I tr (u * 7 + v)) 7))) : wpX_trustOutOf post (fg, tr, po, pa, pe, am, ow, un, di, pr) (nI m) (nI u) := by
  refine loop_0 (fun n k (s : Int32) => wX_trustOutOf_5 post (nI m) (nI u) fg tr po pa pe am ow un di pr n s (nI k)) (fun k s => s = cn_i (cn_sum (fun v => if cn_bit m v then 0 else cn_I tr (u * 7 + v)) k)) 7 0 ?_ ?_ ?_
  · exact cn_i_0.symm
  · intro n s hs
    subst hs
    exact br_t cn_t7 h
  · intro n k s hk hs ih
    subst hs
    refine br_f (cn_f7 hk) (cn_conX hm hk (fun e => br_f cn_10 (nm_r (nI_1 k) (ih _ ?_))) (fun e => br_t rfl ⟨?_, nm_r (e' := cn_i (cn_sum (fun v => if cn_bit m v then 0 else cn_I tr (u * 7 + v)) (k + 1))) ?_ (nm_r (nI_1 k) (ih _ rfl))⟩))
    · rw [cn_sum_s, if_pos e, Int.add_zero]
    · rw [cn_ix]
      exact cn_in49 hu hk
    · rw [cn_ix, cn_cl (by omega), cn_sum_s, if_neg e, cn_i_add, ← cn_I_of]

theorem cn_roomX {post : Int32 → Prop} {m : Nat} (hm : m < 128) (h : post (cn_i (cn_rm (cn_I tr) (cn_I po) (cn_bit m)))) : wpX_room post (fg, tr, po, pa, pe, am, ow, un, di, pr) (nI m) := by
  refine loop_0 (fun n k (s : Int32) => wX_room_4 post (nI m) fg tr po pa pe am ow un di pr n s (nI k))
    (fun k s => s = cn_i (cn_sum (fun u => if cn_bit m u then cn_sum (fun v => if cn_bit m v then 0 else cn_I tr (u * 7 + v)) 7 - cn_I po u else 0) k)) 7 0 ?_ ?_ ?_
  · exact cn_i_0.symm
  · intro n s hs
    subst hs
    exact br_t cn_t7 h
  · intro n k s hk hs ih
    subst hs
    refine br_f (cn_f7 hk) (cn_conX hm hk (fun e => br_f cn_10 (cn_troX fg tr po pa pe am ow un di pr hm hk ⟨cn_in7 hk, nm_r (e' := cn_i (cn_sum (fun u => if cn_bit m u then cn_sum (fun v => if cn_bit m v then 0 else cn_I tr (u * 7 + v)) 7 - cn_I po u else 0) (k + 1))) ?_ (nm_r (nI_1 k) (ih _ rfl))⟩)) (fun e => br_t rfl (nm_r (nI_1 k) (ih _ ?_))))
    · rw [cn_cl (by omega), cn_sum_s _ k, if_pos e, cn_i_add, cn_i_sub, ← cn_I_of]
    · rw [cn_sum_s, if_neg e, Int.add_zero]

theorem cn_lrX {post : Int32 → Prop} {m x : Nat} (hm : m < 128) (hx : x < 128) (ht : cn_T (cn_I tr)) (hP : ∀ w, w < 7 → -1000000 ≤ cn_I po w ∧ cn_I po w ≤ 1000000)
    (h : post (cn_i (cn_lr (cn_I tr) (cn_I po) m x 128))) : wpX_leastRoom post (fg, tr, po, pa, pe, am, ow, un, di, pr) (nI m) (nI x) := by
  unfold wpX_leastRoom
  refine cn_roomX fg tr po pa pe am ow un di pr hm ?_
  refine loop_0 (fun n k (s : Int32) => wX_leastRoom_9 post (nI m) (nI x) fg tr po pa pe am ow un di pr n s (nI k))
    (fun k s => s = cn_i (cn_lr (cn_I tr) (cn_I po) m x k)) 128 _ ?_ ?_ ?_
  · rfl
  · intro n s hs
    subst hs
    exact br_t cn_t128 h
  · intro n k s hk hs ih
    subst hs
    have b1 := cn_lr_b (m := m) (x := x) ht hP k
    have b2 := cn_rm_b (M := cn_bit k) ht hP
    have e0 : cn_lr (cn_I tr) (cn_I po) m x (k + 1) = if k &&& m = m ∧ k &&& x = 0 ∧ cn_rm (cn_I tr) (cn_I po) (cn_bit k) < cn_lr (cn_I tr) (cn_I po) m x k then cn_rm (cn_I tr) (cn_I po) (cn_bit k) else cn_lr (cn_I tr) (cn_I po) m x k := rfl
    refine br_f (cn_f128 hk) ?_
    by_cases c1 : k &&& m = m
    · refine br_t ((cn_and0 hm hk).mpr c1) ?_
      by_cases c2 : k &&& x = 0
      · refine br_t ((cn_and1 hx hk).mpr c2) (cn_roomX fg tr po pa pe am ow un di pr hk ?_)
        refine cn_ble _ _ rfl rfl ⟨by omega, by omega⟩ ⟨by omega, by omega⟩ (fun c3 => nm_r (nI_1 k) (ih _ ?_)) (fun c3 => nm_r (nI_1 k) (ih _ ?_))
        · rw [e0, if_neg (fun z => by omega)]
        · rw [e0, if_pos ⟨c1, c2, c3⟩]
      · refine br_f (fun z => c2 ((cn_and1 hx hk).mp z)) (nm_r (nI_1 k) (ih _ ?_))
        rw [e0, if_neg (fun z => c2 z.2.1)]
    · refine br_f (fun z => c1 ((cn_and0 hm hk).mp z)) (nm_r (nI_1 k) (ih _ ?_))
      rw [e0, if_neg (fun z => c1 z.1)]
end
