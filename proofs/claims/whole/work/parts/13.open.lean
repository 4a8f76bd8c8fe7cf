/-- a pair counts -/
def cn_c (tr po : Nat → Int32) (x : Int32) (p : Nat) : Int :=
  if p / 7 = p % 7 then 0 else if cn_i (cn_lr (cn_I tr) (cn_I po) (2 ^ (p % 7)) (2 ^ (p / 7)) 128) < x then 0 else 1

section
variable (fg : Int32) (tr po pa pe am ow un di pr : Nat → Int32)

theorem cn_opX {post : Int32 → Prop} (x : Int32) (J : cn_Inv fg tr po pa pe am) (h : post (cn_i (cn_sum (cn_c tr po x) 49))) : wpX_open post (fg, tr, po, pa, pe, am, ow, un, di, pr) x := by
  refine loop_0 (fun n k (s : Int32) => wX_open_4 post x fg tr po pa pe am ow un di pr n s (nI k)) (fun k s => s = cn_i (cn_sum (cn_c tr po x) (k * 7))) 7 0 ?_ ?_ ?_
  · exact cn_i_0.symm
  · intro n s hs
    subst hs
    exact br_t cn_t7 h
  · intro n u s hu hs ih
    subst hs
    refine br_f (cn_f7 hu) ?_
    refine loop_0 (fun n' v (s : Int32) => wX_open_13 post (wX_open_4 post x fg tr po pa pe am ow un di pr n) x (nI u) fg tr po pa pe am ow un di pr n' s (nI v)) (fun v s => s = cn_i (cn_sum (cn_c tr po x) (u * 7 + v))) 7 _ rfl ?_ ?_
    · intro n' s hs
      subst hs
      refine br_t cn_t7 (nm_r (nI_1 u) (ih _ ?_))
      rw [Nat.succ_mul]
    · intro n' v s hv hs ih'
      subst hs
      have d1 : (u * 7 + v) / 7 = u := by omega
      have d2 : (u * 7 + v) % 7 = v := by omega
      refine br_f (cn_f7 hv) (pk_eq u v (fun e => nm_r (nI_1 v) (ih' _ ?_)) (fun e => cn_mostX fg tr po pa pe am ow un di pr hu hv e J ?_))
      · rw [← Nat.add_assoc, cn_sum_s, cn_c, d1, d2, if_pos e, Int.add_zero]
      · refine br_c (fun c => nm_r (nI_1 v) (ih' _ ?_)) (fun c => nm_r (e' := cn_i (cn_sum (cn_c tr po x) (u * 7 + (v + 1)))) ?_ (nm_r (nI_1 v) (ih' _ rfl)))
        · rw [← Nat.add_assoc, cn_sum_s, cn_c, d1, d2, if_neg e, if_pos c, Int.add_zero]
        · rw [← Nat.add_assoc, cn_sum_s, cn_c, d1, d2, if_neg e, if_neg c, cn_i_add, cn_i_1]

theorem cn_opY {post : Int32 → Prop} (x : Int32) (J : cn_Inv fg tr po pa pe am) (h : post (cn_i (cn_sum (cn_c tr po x) 49))) : wpY_open post (fg, tr, po, pa, pe, am, ow, un, di, pr) x := by
  refine loop_0 (fun n k (s : Int32) => wY_open_4 post x fg tr po pa pe am ow un di pr n s (nI k)) (fun k s => s = cn_i (cn_sum (cn_c tr po x) k)) 49 0 ?_ ?_ ?_
  · exact cn_i_0.symm
  · intro n s hs
    subst hs
    exact br_t cn_t49 h
  · intro n k s hk hs ih
    subst hs
    refine br_f (cn_f49 hk) ⟨cn_70, cn_70, ?_⟩
    rw [cn_r7 (by omega), cn_q7 (by omega)]
    refine pk_eq (k / 7) (k % 7) (fun e => nm_r (nI_1 k) (ih _ ?_)) (fun e => ⟨cn_70, cn_70, cn_mostY fg tr po pa pe am ow un di pr (by omega) (by omega) e J ?_⟩)
    · rw [cn_sum_s, cn_c, if_pos e, Int.add_zero]
    · refine br_c (fun c => nm_r (nI_1 k) (ih _ ?_)) (fun c => nm_r (e' := cn_i (cn_sum (cn_c tr po x) (k + 1))) ?_ (nm_r (nI_1 k) (ih _ rfl)))
      · rw [cn_sum_s, cn_c, if_neg e, if_pos c, Int.add_zero]
      · rw [cn_sum_s, cn_c, if_neg e, if_neg c, cn_i_add, cn_i_1]
end

theorem i_vc_open {k : Nat} {u : SX} {v : SY} (I : i_Rel k u v) (hk : k + 4 ≤ 2048) (v1 : Int32) : wpX_open (fun r => wpY_open (fun r' => r' = r ∧ i_Rel (k + 4) u v) v v1) u v1 := by
  obtain ⟨fg, tr, po, pa, pe, am, ow, un, di, pr, ow', re, pc, be, rfl, rfl, J⟩ := I
  exact cn_opX fg tr po pa pe am ow un di pr v1 J (cn_opY fg tr po pa pe am ow' re pc be v1 J ⟨rfl, cn_mk J⟩)
