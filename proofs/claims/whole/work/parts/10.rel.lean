/-- what both sides keep alike, and its bounds -/
def cn_Inv (fg : Int32) (tr po pa pe am : Nat → Int32) : Prop :=
  cn_T (cn_I tr) ∧ (∀ k, k < 128 → 0 ≤ cn_rm (cn_I tr) (cn_I po) (cn_bit k)) ∧ cn_sum (cn_I po) 7 = 0 ∧
  ∃ f : Nat, f ≤ 6 ∧ fg = nI f ∧ ∀ i, i < f → vp_in (pa i) 7 ∧ vp_in (pe i) 7 ∧ 0 ≤ cn_I am i ∧ cn_I am i ≤ 10000

def i_Rel (_ : Nat) (u : SX) (v : SY) : Prop :=
  ∃ (fg : Int32) (tr po pa pe am ow un di pr ow' re pc be : Nat → Int32), u = (fg, tr, po, pa, pe, am, ow, un, di, pr) ∧ v = (fg, tr, po, pa, pe, am, ow', re, pc, be) ∧ cn_Inv fg tr po pa pe am

theorem i_up {k : Nat} {u : SX} {v : SY} (h : i_Rel k u v) : i_Rel (k + 4) u v := h

theorem cn_mk {k : Nat} {fg : Int32} {tr po pa pe am ow un di pr ow' re pc be : Nat → Int32} (J : cn_Inv fg tr po pa pe am) :
    i_Rel k (fg, tr, po, pa, pe, am, ow, un, di, pr) (fg, tr, po, pa, pe, am, ow', re, pc, be) :=
  ⟨fg, tr, po, pa, pe, am, ow, un, di, pr, ow', re, pc, be, rfl, rfl, J⟩

theorem cn_I0 : cn_I (fun _ => 0) = fun _ => 0 := by
  funext j
  show (0 : Int32).toInt = 0
  decide

theorem i_vc0 : wpX_init (fun u => wpY_init (fun v => i_Rel 0 u v)) := by
  refine cn_mk (k := 0) ⟨?_, ?_, ?_, 0, by decide, rfl, fun i hi => by omega⟩
  · rw [cn_I0]
    exact fun j => (show (0 : Int) ≤ 0 ∧ (0 : Int) ≤ 1000 by decide)
  · intro k hk
    rw [cn_I0]
    have e : cn_rm (fun _ => 0) (fun _ => 0) (cn_bit k) = cn_sum (fun _ => 0) 7 := by
      refine cn_sum_congr (fun u hu => ?_)
      have e2 : cn_sum (fun v => if cn_bit k v then (0 : Int) else 0) 7 = cn_sum (fun _ => 0) 7 := cn_sum_congr (fun v _ => by split <;> rfl)
      show (if cn_bit k u then cn_sum (fun v => if cn_bit k v then (0 : Int) else 0) 7 - 0 else 0) = 0
      rw [e2, cn_sum_0]
      split <;> rfl
    rw [e, cn_sum_0]
    decide
  · rw [cn_I0, cn_sum_0]

theorem cn_Inv_P {fg : Int32} {tr po pa pe am : Nat → Int32} (J : cn_Inv fg tr po pa pe am) : ∀ w, w < 7 → -50000 ≤ cn_I po w ∧ cn_I po w ≤ 50000 := cn_P_b J.1 J.2.1 J.2.2.1
theorem cn_Inv_P' {fg : Int32} {tr po pa pe am : Nat → Int32} (J : cn_Inv fg tr po pa pe am) : ∀ w, w < 7 → -1000000 ≤ cn_I po w ∧ cn_I po w ≤ 1000000 :=
  fun w hw => by have := cn_Inv_P J w hw; omega

theorem cn_2Xt {post : Int32 → Prop} {x y : Int32} (h : cn_two x y) (p : post 1) : wpX_areTwoMembers post x y := cn_2X (fun _ => p) (fun n => absurd h n)
theorem cn_2Xf {post : Int32 → Prop} {x y : Int32} (h : ¬ cn_two x y) (p : post 0) : wpX_areTwoMembers post x y := cn_2X (fun n => absurd n h) (fun _ => p)

theorem cn_nrI (x : Int32) : cn_nr x.toInt := ⟨cn_lo x, by have := cn_hi x; omega⟩
theorem cn_lei (x y : Int32) : x ≤ y ↔ x.toInt ≤ y.toInt := Int32.le_iff_toInt_le
theorem cn_lti (x y : Int32) : x < y ↔ x.toInt < y.toInt := Int32.lt_iff_toInt_lt
theorem cn_ti0 : (0 : Int32).toInt = 0 := by decide
theorem cn_lt0 (x : Int32) : x < 0 ↔ x.toInt < 0 := by rw [cn_lti, cn_ti0]
theorem cn_0le (x : Int32) : 0 ≤ x ↔ 0 ≤ x.toInt := by rw [cn_lei, cn_ti0]

/-- the room that is left for trust -/
theorem cn_1000 {x y : Int32} (h : 0 ≤ y.toInt ∧ y.toInt ≤ 1000) : x ≤ 1000 - y ↔ x.toInt ≤ 1000 - y.toInt := by
  have e : (1000 : Int32) - y = cn_i (1000 - y.toInt) := by rw [cn_i_sub, cn_i_of]; rfl
  rw [e, cn_lei, cn_ti (by omega) (by omega)]

section
variable (fg : Int32) (tr po pa pe am ow un di pr : Nat → Int32)

theorem cn_2Yt {post : Int32 → Prop} {x y : Int32} (h : cn_two x y) (p : post 1) : wpY_isPair post (fg, tr, po, pa, pe, am, ow, un, di, pr) x y := cn_2Y fg tr po pa pe am ow un di pr (fun _ => p) (fun n => absurd h n)
theorem cn_2Yf {post : Int32 → Prop} {x y : Int32} (h : ¬ cn_two x y) (p : post 0) : wpY_isPair post (fg, tr, po, pa, pe, am, ow, un, di, pr) x y := cn_2Y fg tr po pa pe am ow un di pr (fun n => absurd n h) (fun _ => p)

theorem cn_and_pw {a b : Nat} (ha : a < 7) (hb : b < 7) (ne : a ≠ b) : 2 ^ a &&& 2 ^ b = 0 := by
  rw [cn_bit_out b hb (2 ^ a) (cn_pw ha), cn_bit_pw a ha b hb]
  exact fun z => ne z.symm

theorem cn_mostX {post : Int32 → Prop} {a b : Nat} (ha : a < 7) (hb : b < 7) (ne : a ≠ b) (J : cn_Inv fg tr po pa pe am) (h : post (cn_i (cn_lr (cn_I tr) (cn_I po) (2 ^ b) (2 ^ a) 128))) :
    wpX_most post (fg, tr, po, pa, pe, am, ow, un, di, pr) (nI a) (nI b) := by
  unfold wpX_most
  refine cn_2Xt ⟨a, b, ha, hb, ne, rfl, rfl⟩ (br_f cn_10 ?_)
  rw [cn_sh ha, cn_sh hb]
  exact cn_lrX fg tr po pa pe am ow un di pr (cn_pw hb) (cn_pw ha) J.1 (cn_Inv_P' J) h

theorem cn_slackY {post : Int32 → Prop} {a b : Nat} (ha : a < 7) (hb : b < 7) (ne : a ≠ b) (J : cn_Inv fg tr po pa pe am) (h : post (cn_i (cn_lr (cn_I tr) (cn_I po) (2 ^ b) (2 ^ a) 128))) :
    wpY_leastSlack post (fg, tr, po, pa, pe, am, ow, un, di, pr) ((1 : Int32) <<< (nI b &&& 31)) (nI a) := by
  rw [cn_sh hb]
  exact cn_lsY fg tr po pa pe am ow un di pr (cn_pw hb) ha (cn_and_pw hb ha (fun z => ne z.symm)) J.1 (cn_Inv_P' J) J.2.1 h

theorem cn_mostY {post : Int32 → Prop} {a b : Nat} (ha : a < 7) (hb : b < 7) (ne : a ≠ b) (J : cn_Inv fg tr po pa pe am) (h : post (cn_i (cn_lr (cn_I tr) (cn_I po) (2 ^ b) (2 ^ a) 128))) :
    wpY_most post (fg, tr, po, pa, pe, am, ow, un, di, pr) (nI a) (nI b) := by
  unfold wpY_most
  exact cn_2Yt fg tr po pa pe am ow un di pr ⟨a, b, ha, hb, ne, rfl, rfl⟩ (br_f cn_10 (cn_slackY fg tr po pa pe am ow un di pr ha hb ne J h))
end

theorem i_vc_most {k : Nat} {u : SX} {v : SY} (I : i_Rel k u v) (hk : k + 4 ≤ 2048) (v1 : Int32) (v2 : Int32) : wpX_most (fun r => wpY_most (fun r' => r' = r ∧ i_Rel (k + 4) u v) v v1 v2) u v1 v2 := by
  obtain ⟨fg, tr, po, pa, pe, am, ow, un, di, pr, ow', re, pc, be, rfl, rfl, J⟩ := I
  by_cases h : cn_two v1 v2
  · obtain ⟨a, b, ha, hb, ne, rfl, rfl⟩ := h
    exact cn_mostX fg tr po pa pe am ow un di pr ha hb ne J (cn_mostY fg tr po pa pe am ow' re pc be ha hb ne J ⟨rfl, cn_mk J⟩)
  · unfold wpX_most wpY_most
    exact cn_2Xf h (br_t rfl (cn_2Yf fg tr po pa pe am ow' re pc be h (br_t rfl ⟨rfl, cn_mk J⟩)))

theorem i_vc_trusted {k : Nat} {u : SX} {v : SY} (I : i_Rel k u v) (hk : k + 4 ≤ 2048) (v1 : Int32) (v2 : Int32) : wpX_trusted (fun r => wpY_trusted (fun r' => r' = r ∧ i_Rel (k + 4) u v) v v1 v2) u v1 v2 := by
  obtain ⟨fg, tr, po, pa, pe, am, ow, un, di, pr, ow', re, pc, be, rfl, rfl, J⟩ := I
  unfold wpX_trusted wpY_trusted
  by_cases h : cn_two v1 v2
  · have h2 := h
    obtain ⟨a, b, ha, hb, ne, rfl, rfl⟩ := h
    rw [cn_ix, cn_iy]
    exact cn_2Xt h2 (br_f cn_10 ⟨cn_in49 ha hb, cn_2Yt fg tr po pa pe am ow' re pc be h2 (br_f cn_10 ⟨cn_in49 ha hb, rfl, cn_mk J⟩)⟩)
  · exact cn_2Xf h (br_t rfl (cn_2Yf fg tr po pa pe am ow' re pc be h (br_t rfl ⟨rfl, cn_mk J⟩)))

theorem i_vc_position {k : Nat} {u : SX} {v : SY} (I : i_Rel k u v) (hk : k + 4 ≤ 2048) (v1 : Int32) : wpX_position (fun r => wpY_position (fun r' => r' = r ∧ i_Rel (k + 4) u v) v v1) u v1 := by
  obtain ⟨fg, tr, po, pa, pe, am, ow, un, di, pr, ow', re, pc, be, rfl, rfl, J⟩ := I
  unfold wpX_position wpY_position
  refine cn_mX (fun h => br_f cn_10 ?_) (fun h => br_t rfl (cn_mY (fun n => absurd n h) (fun _ => ⟨rfl, cn_mk J⟩)))
  have h2 := h
  obtain ⟨a, ha, rfl⟩ := h
  exact ⟨cn_in7 ha, cn_mY (fun _ => ⟨cn_in7 ha, rfl, cn_mk J⟩) (fun n => absurd h2 n)⟩

theorem i_vc_forget {k : Nat} {u : SX} {v : SY} (I : i_Rel k u v) (hk : k + 4 ≤ 2048) : wpX_forget (fun r u' => wpY_forget (fun r' v' => r' = r ∧ i_Rel (k + 4) u' v') v) u := by
  obtain ⟨fg, tr, po, pa, pe, am, ow, un, di, pr, ow', re, pc, be, rfl, rfl, J⟩ := I
  exact ⟨rfl, cn_mk ⟨J.1, J.2.1, J.2.2.1, 0, by decide, rfl, fun i hi => by omega⟩⟩

theorem i_vc_spread {k : Nat} {u : SX} {v : SY} (I : i_Rel k u v) (hk : k + 4 ≤ 2048) (v1 : Int32) (v2 : Int32) : wpX_spread (fun r => wpY_spread (fun r' => r' = r ∧ i_Rel (k + 4) u v) v v1 v2) u v1 v2 := by
  obtain ⟨fg, tr, po, pa, pe, am, ow, un, di, pr, ow', re, pc, be, rfl, rfl, J⟩ := I
  unfold wpX_spread wpY_spread
  refine cn_mX (fun h => br_f cn_10 ?_) (fun h => br_t rfl (cn_mY (fun n => absurd n h) (fun _ => ⟨rfl, cn_mk J⟩)))
  have h2 := h
  obtain ⟨a, ha, rfl⟩ := h
  by_cases c1 : v2 < 1
  · exact br_t c1 (cn_mY (fun _ => br_t c1 ⟨rfl, cn_mk J⟩) (fun n => absurd h2 n))
  · refine br_f c1 ?_
    by_cases c2 : (128 : Int32) ≤ v2
    · have c3 : (127 : Int32) < v2 := Int32.lt_of_lt_of_le (by decide) c2
      exact br_t c2 (cn_mY (fun _ => br_f c1 (br_t c3 ⟨rfl, cn_mk J⟩)) (fun n => absurd h2 n))
    · refine br_f c2 ?_
      obtain ⟨m, hm, rfl⟩ : ∃ m : Nat, m < 128 ∧ v2 = nI m := by
        rcases pk_ix v2 (n := 128) (by decide) with a | a | a
        · exact absurd (Int32.lt_trans a (by decide)) c1
        · exact absurd a c2
        · exact a
      have c3 : ¬ (127 : Int32) < nI m := nI_nlt (a := 127) (by omega) (by decide)
      refine cn_conX hm ha (fun e => br_f cn_10 (cn_mY (fun _ => br_f c1 (br_f c3 ?_)) (fun n => absurd h2 n))) (fun e => br_t rfl ?_)
      · exact cn_conY fg tr po pa pe am ow' re pc be hm ha (fun _ => br_f cn_10 ⟨rfl, cn_mk J⟩) (fun n => absurd e n)
      · rw [cn_sh ha]
        refine cn_lrX fg tr po pa pe am ow un di pr hm (cn_pw ha) J.1 (cn_Inv_P' J) (cn_mY (fun _ => br_f c1 (br_f c3 ?_)) (fun n => absurd h2 n))
        refine cn_conY fg tr po pa pe am ow' re pc be hm ha (fun n => absurd n e) (fun _ => br_t rfl ?_)
        exact cn_lsY fg tr po pa pe am ow' re pc be hm ha ((cn_bit_out a ha m hm).mpr e) J.1 (cn_Inv_P' J) J.2.1 ⟨rfl, cn_mk J⟩
