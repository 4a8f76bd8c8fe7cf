theorem cn_ned {x y : Int32} : -(x - y) = y - x := by
  apply Int32.toInt_inj.mp
  have e1 : -(x - y) = cn_i (-(x.toInt - y.toInt)) := by rw [cn_i_neg, cn_i_sub, cn_i_of, cn_i_of]
  have e2 : y - x = cn_i (y.toInt - x.toInt) := by rw [cn_i_sub, cn_i_of, cn_i_of]
  rw [e1, e2, show -(x.toInt - y.toInt) = y.toInt - x.toInt by omega]

theorem i_vc_leastDebt {k : Nat} {u : SX} {v : SY} (I : i_Rel k u v) (hk : k + 4 ≤ 2048) (v1 : Int32) (v2 : Int32) : wpX_leastDebt (fun r => wpY_leastDebt (fun r' => r' = r ∧ i_Rel (k + 4) u v) v v1 v2) u v1 v2 := by
  obtain ⟨fg, tr, po, pa, pe, am, ow, un, di, pr, ow', re, pc, be, rfl, rfl, J⟩ := I
  unfold wpX_leastDebt wpY_leastDebt
  by_cases h : cn_two v1 v2
  · have h2 := h
    obtain ⟨a, b, ha, hb, ne, rfl, rfl⟩ := h
    rw [cn_ix, cn_ix, cn_iy, cn_iy]
    refine cn_2Xt h2 (br_f cn_10 ?_)
    by_cases c : nI a ≤ nI b
    · refine br_t c ⟨cn_in49 ha hb, nm_e ⟨cn_in49 hb ha, cn_mostX fg tr po pa pe am ow un di pr ha hb ne J (nm_e ?_)⟩⟩
      by_cases d : -tr (nI (a * 7 + b)).toNatClampNeg ≤ tr (nI (b * 7 + a)).toNatClampNeg - cn_i (cn_lr (cn_I tr) (cn_I po) (2 ^ b) (2 ^ a) 128)
      · refine br_t d (cn_2Yt fg tr po pa pe am ow' re pc be h2 (br_f cn_10 (br_t c (cn_slackY fg tr po pa pe am ow' re pc be ha hb ne J ⟨cn_in49 hb ha, nm_e ⟨cn_in49 ha hb, ?_⟩⟩))))
        rw [cn_ned]
        exact br_c (fun d' => ⟨cn_in49 ha hb, Int32.le_antisymm d d', cn_mk J⟩) (fun _ => ⟨rfl, cn_mk J⟩)
      · refine br_f d (cn_2Yt fg tr po pa pe am ow' re pc be h2 (br_f cn_10 (br_t c (cn_slackY fg tr po pa pe am ow' re pc be ha hb ne J ⟨cn_in49 hb ha, nm_e ⟨cn_in49 ha hb, ?_⟩⟩))))
        rw [cn_ned]
        exact br_t (Int32.le_of_lt (Int32.not_le.mp d)) ⟨cn_in49 ha hb, rfl, cn_mk J⟩
    · exact br_f c (cn_2Yt fg tr po pa pe am ow' re pc be h2 (br_f cn_10 (br_f c ⟨rfl, cn_mk J⟩)))
  · exact cn_2Xf h (br_t rfl (cn_2Yf fg tr po pa pe am ow' re pc be h (br_t rfl ⟨rfl, cn_mk J⟩)))

theorem i_vc_greatestDebt {k : Nat} {u : SX} {v : SY} (I : i_Rel k u v) (hk : k + 4 ≤ 2048) (v1 : Int32) (v2 : Int32) : wpX_greatestDebt (fun r => wpY_greatestDebt (fun r' => r' = r ∧ i_Rel (k + 4) u v) v v1 v2) u v1 v2 := by
  obtain ⟨fg, tr, po, pa, pe, am, ow, un, di, pr, ow', re, pc, be, rfl, rfl, J⟩ := I
  unfold wpX_greatestDebt wpY_greatestDebt
  by_cases h : cn_two v1 v2
  · have h2 := h
    obtain ⟨a, b, ha, hb, ne, rfl, rfl⟩ := h
    rw [cn_ix, cn_ix, cn_iy, cn_iy]
    refine cn_2Xt h2 (br_f cn_10 ?_)
    by_cases c : nI a ≤ nI b
    · refine br_t c ⟨cn_in49 hb ha, nm_e (cn_mostX fg tr po pa pe am ow un di pr hb ha (fun z => ne z.symm) J ⟨cn_in49 ha hb, nm_e ?_⟩)⟩
      by_cases d : cn_i (cn_lr (cn_I tr) (cn_I po) (2 ^ a) (2 ^ b) 128) - tr (nI (a * 7 + b)).toNatClampNeg ≤ tr (nI (b * 7 + a)).toNatClampNeg
      · refine br_t d (cn_2Yt fg tr po pa pe am ow' re pc be h2 (br_f cn_10 (br_t c (cn_slackY fg tr po pa pe am ow' re pc be hb ha (fun z => ne z.symm) J ⟨cn_in49 ha hb, nm_e ⟨cn_in49 hb ha, ?_⟩⟩))))
        exact br_c (fun d' => ⟨cn_in49 hb ha, Int32.le_antisymm d' d, cn_mk J⟩) (fun _ => ⟨rfl, cn_mk J⟩)
      · refine br_f d (cn_2Yt fg tr po pa pe am ow' re pc be h2 (br_f cn_10 (br_t c (cn_slackY fg tr po pa pe am ow' re pc be hb ha (fun z => ne z.symm) J ⟨cn_in49 ha hb, nm_e ⟨cn_in49 hb ha, ?_⟩⟩))))
        exact br_t (Int32.le_of_lt (Int32.not_le.mp d)) ⟨cn_in49 hb ha, rfl, cn_mk J⟩
    · exact br_f c (cn_2Yt fg tr po pa pe am ow' re pc be h2 (br_f cn_10 (br_f c ⟨rfl, cn_mk J⟩)))
  · exact cn_2Xf h (br_t rfl (cn_2Yf fg tr po pa pe am ow' re pc be h (br_t rfl ⟨rfl, cn_mk J⟩)))

/-- a listed payment made -/
def cn_ms (s : Int32) (a b : Nat) (x : Int32) (q : Nat → Int32) : Nat → Int32 := upd (upd q a (q a - s * x)) b (upd q a (q a - s * x) b + s * x)
def cn_mv (s : Int32) (pa pe am : Nat → Int32) (q : Nat → Int32) : Nat → (Nat → Int32)
  | 0 => q
  | n + 1 => cn_ms s (pa n).toNatClampNeg (pe n).toNatClampNeg (am n) (cn_mv s pa pe am q n)
/-- what the listed payments do to a position -/
def cn_D (pa pe am : Nat → Int32) (j : Nat) : Nat → Int
  | 0 => 0
  | n + 1 => cn_D pa pe am j n + (if j = (pe n).toNatClampNeg then cn_I am n else 0) - (if j = (pa n).toNatClampNeg then cn_I am n else 0)

theorem cn_ms_v (s a' b' : Int) (a b : Nat) (x p : Int) (q : Nat → Int32) (j : Nat) (hj : q j = cn_i p) :
    cn_ms (cn_i s) a b (cn_i x) q j = cn_i (p + s * ((if j = b then x else 0) - (if j = a then x else 0))) := by
  unfold cn_ms
  by_cases eb : j = b
  · subst eb
    rw [pk_us, if_pos rfl]
    by_cases ea : j = a
    · subst ea
      rw [pk_us, if_pos rfl, hj, ← cn_i_mul, ← cn_i_sub, ← cn_i_add, Int.sub_self, Int.mul_zero, Int.add_zero, Int.sub_add_cancel]
    · rw [pk_un ea, if_neg ea, hj, ← cn_i_mul, ← cn_i_add, Int.sub_zero]
  · rw [pk_un eb, if_neg eb]
    by_cases ea : j = a
    · subst ea
      rw [pk_us, if_pos rfl, hj, ← cn_i_mul, ← cn_i_sub, Int.zero_sub, Int.mul_neg, Int.sub_eq_add_neg]
    · rw [pk_un ea, if_neg ea, hj, Int.sub_self, Int.mul_zero, Int.add_zero]

theorem cn_mv_v (s : Int) (pa pe am q : Nat → Int32) (j : Nat) (p : Int) (hj : q j = cn_i p) : ∀ n, cn_mv (cn_i s) pa pe am q n j = cn_i (p + s * cn_D pa pe am j n) := by
  intro n
  induction n with
  | zero =>
    show q j = _
    rw [hj, cn_D, Int.mul_zero, Int.add_zero]
  | succ n ih =>
    have e := cn_ms_v s 0 0 (pa n).toNatClampNeg (pe n).toNatClampNeg (cn_I am n) _ (cn_mv (cn_i s) pa pe am q n) j ih
    rw [← cn_I_of] at e
    rw [cn_mv, e, cn_D]
    congr 1
    rw [Int.add_assoc, ← Int.mul_add]
    congr 2
    omega

theorem cn_mv_back (pa pe am q : Nat → Int32) (n : Nat) : cn_mv (-1) pa pe am (cn_mv 1 pa pe am q n) n = q := by
  funext j
  have e1 := cn_mv_v 1 pa pe am q j (cn_I q j) (cn_I_of q j) n
  have e2 := cn_mv_v (-1) pa pe am (cn_mv 1 pa pe am q n) j _ e1 n
  have e3 : cn_mv (-1) pa pe am (cn_mv 1 pa pe am q n) n j = _ := e2
  rw [e3, cn_I_of q j]
  congr 1
  omega

theorem cn_D_b {pa pe am : Nat → Int32} {j n : Nat} (h : ∀ i, i < n → 0 ≤ cn_I am i ∧ cn_I am i ≤ 10000) : -(10000 * (n : Int)) ≤ cn_D pa pe am j n ∧ cn_D pa pe am j n ≤ 10000 * n := by
  induction n with
  | zero => rw [cn_D]; exact ⟨by decide, by decide⟩
  | succ n ih =>
    have a := ih (fun i hi => h i (by omega))
    have b := h n (by omega)
    rw [cn_D]
    split <;> split <;> omega

theorem cn_D_s {pa pe am : Nat → Int32} {n : Nat} (h : ∀ i, i < n → (pa i).toNatClampNeg < 7 ∧ (pe i).toNatClampNeg < 7) : cn_sum (fun j => cn_D pa pe am j n) 7 = 0 := by
  induction n with
  | zero => exact cn_sum_0 7
  | succ n ih =>
    have a := ih (fun i hi => h i (by omega))
    obtain ⟨b, c⟩ := h n (by omega)
    have one : ∀ w x, w < 7 → cn_sum (fun j => if j = w then x else 0) 7 = x := by
      intro w x hw
      have e : cn_sum (fun j => if j = w then x else 0) 7 = cn_sum (cn_up (fun _ => 0) w x) 7 := cn_sum_congr (fun j _ => rfl)
      rw [e, cn_sum_up _ _ hw, cn_sum_0]
      omega
    have e : cn_sum (fun j => cn_D pa pe am j (n + 1)) 7 = cn_sum (fun j => cn_D pa pe am j n) 7 + cn_sum (fun j => if j = (pe n).toNatClampNeg then cn_I am n else 0) 7 - cn_sum (fun j => if j = (pa n).toNatClampNeg then cn_I am n else 0) 7 := by
      rw [← cn_sum_add, ← cn_sum_sub]
      exact cn_sum_congr (fun j _ => rfl)
    rw [e, a, one _ _ b, one _ _ c]
    omega

theorem cn_inlt {x : Int32} {n : Nat} (h : vp_in x n) : x.toNatClampNeg < n := by
  unfold vp_in at h
  omega

section
variable (tr pa pe am ow un di pr : Nat → Int32)

theorem cn_mvX {post : SX → Prop} {f : Nat} (s : Int32) (po : Nat → Int32) (hf : f ≤ 6) (hl : ∀ i, i < f → vp_in (pa i) 7 ∧ vp_in (pe i) 7)
    (h : post (nI f, tr, cn_mv s pa pe am po f, pa, pe, am, ow, un, di, pr)) : wpX_moveGathered post (nI f, tr, po, pa, pe, am, ow, un, di, pr) s := by
  refine loop_0 (fun n k (q : Nat → Int32) => wX_moveGathered_2 post s (nI f) n (nI k) tr q pa pe am ow un di pr) (fun k q => q = cn_mv s pa pe am po k) f po ?_ ?_ ?_
  · rfl
  · intro n q hq
    subst hq
    exact br_t (Int32.le_refl _) h
  · intro n k q hk hq ih
    subst hq
    obtain ⟨h1, h2⟩ := hl k hk
    have hi : vp_in (nI k) 6 := vp_in_nI (by omega) (by decide)
    refine br_f (nI_ge hk (by omega)) ?_
    rw [cn_cl (by omega)]
    exact ⟨hi, h1, hi, h1, nm_e ⟨hi, h2, hi, h2, nm_e (nm_r (nI_1 k) (ih _ rfl))⟩⟩

theorem cn_mvY {post : SY → Prop} {f : Nat} (s : Int32) (po : Nat → Int32) (hf : f ≤ 6) (hl : ∀ i, i < f → vp_in (pa i) 7 ∧ vp_in (pe i) 7)
    (h : post (nI f, tr, cn_mv s pa pe am po f, pa, pe, am, ow, un, di, pr)) : wpY_payAll post (nI f, tr, po, pa, pe, am, ow, un, di, pr) s := by
  refine loop_0 (fun n k (q : Nat → Int32) => wY_payAll_2 post s (nI f) n (nI k) tr q pa pe am ow un di pr) (fun k q => q = cn_mv s pa pe am po k) f po ?_ ?_ ?_
  · rfl
  · intro n q hq
    subst hq
    exact br_t (Int32.le_refl _) h
  · intro n k q hk hq ih
    subst hq
    obtain ⟨h1, h2⟩ := hl k hk
    have hi : vp_in (nI k) 6 := vp_in_nI (by omega) (by decide)
    refine br_f (nI_ge hk (by omega)) ?_
    rw [cn_cl (by omega)]
    exact ⟨hi, hi, h1, hi, h1, nm_e ⟨hi, hi, h2, hi, h2, nm_e (nm_r (nI_1 k) (ih _ rfl))⟩⟩
end

theorem i_vc_clear {k : Nat} {u : SX} {v : SY} (I : i_Rel k u v) (hk : k + 4 ≤ 2048) : wpX_clear (fun r u' => wpY_clear (fun r' v' => r' = r ∧ i_Rel (k + 4) u' v') v) u := by
  obtain ⟨fg, tr, po, pa, pe, am, ow, un, di, pr, ow', re, pc, be, rfl, rfl, J⟩ := I
  unfold wpX_clear wpY_clear
  have P := cn_Inv_P J
  have J' := J
  obtain ⟨j1, j2, j3, f, hf, rfl, j4⟩ := J
  have hl : ∀ i, i < f → vp_in (pa i) 7 ∧ vp_in (pe i) 7 := fun i hi => ⟨(j4 i hi).1, (j4 i hi).2.1⟩
  have ev : ∀ j, cn_mv 1 pa pe am po f j = cn_i (cn_I po j + 1 * cn_D pa pe am j f) := fun j => cn_mv_v 1 pa pe am po j _ (cn_I_of po j) f
  have eb : ∀ j, j < 7 → cn_I (cn_mv 1 pa pe am po f) j = cn_I po j + cn_D pa pe am j f := by
    intro j hj
    have a := P j hj
    have b := cn_D_b (pa := pa) (pe := pe) (am := am) (j := j) (n := f) (fun i hi => (j4 i hi).2.2)
    unfold cn_I at *
    rw [ev j, cn_ti (by omega) (by omega)]
    omega
  have Q : ∀ w, w < 7 → -1000000 ≤ cn_I (cn_mv 1 pa pe am po f) w ∧ cn_I (cn_mv 1 pa pe am po f) w ≤ 1000000 := by
    intro w hw
    have a := P w hw
    have b := cn_D_b (pa := pa) (pe := pe) (am := am) (j := w) (n := f) (fun i hi => (j4 i hi).2.2)
    rw [eb w hw]
    omega
  have S : cn_sum (cn_I (cn_mv 1 pa pe am po f)) 7 = 0 := by
    have e : cn_sum (cn_I (cn_mv 1 pa pe am po f)) 7 = cn_sum (fun j => cn_I po j + cn_D pa pe am j f) 7 := cn_sum_congr eb
    have e2 : cn_sum (fun j => cn_I po j) 7 = 0 := j3
    rw [e, cn_sum_add, e2, cn_D_s (fun i hi => ⟨cn_inlt (hl i hi).1, cn_inlt (hl i hi).2⟩)]
    rfl
  have L := cn_lr_Lr (t := cn_I tr) (P := cn_I (cn_mv 1 pa pe am po f)) (m := 0) (x := 0) (by decide) (by decide)
  have lb := cn_lr_b (m := 0) (x := 0) j1 Q 128
  refine cn_mvX tr pa pe am ow un di pr 1 po hf hl ?_
  refine cn_lrX (nI f) tr _ pa pe am ow un di pr (m := 0) (x := 0) (by decide) (by decide) j1 Q ?_
  refine cn_ble 0 _ cn_i_0.symm rfl cn_n0 ⟨by omega, by omega⟩ (fun c => ?_) (fun c => ?_)
  · have all : ∀ s, s < 128 → 0 ≤ cn_rm (cn_I tr) (cn_I (cn_mv 1 pa pe am po f)) (cn_bit s) := by
      intro s hs
      have := L.1 s hs (Nat.and_zero s) (Nat.and_zero s)
      omega
    refine cn_mvY tr pa pe am ow' re pc be 1 po hf hl ?_
    refine cn_psY (nI f) tr _ pa pe am ow' re pc be j1 Q (fun _ => br_f cn_10 ⟨rfl, cn_mk ⟨j1, all, S, 0, by decide, rfl, fun i hi => by omega⟩⟩) (fun n => absurd all n)
  · refine cn_mvX tr pa pe am ow un di pr (-1) _ hf hl ?_
    refine cn_mvY tr pa pe am ow' re pc be 1 po hf hl ?_
    refine cn_psY (nI f) tr _ pa pe am ow' re pc be j1 Q (fun n => ?_) (fun _ => br_t rfl (cn_mvY tr pa pe am ow' re pc be (-1) _ hf hl ?_))
    · obtain ⟨s, s0, s1, s2, s3⟩ := L.2
      have := n s s0
      omega
    · rw [cn_mv_back]
      exact ⟨rfl, cn_mk J'⟩
