theorem cn_Inv_t {fg : Int32} {tr po pa pe am : Nat → Int32} {a b : Nat} {x : Int32} (J : cn_Inv fg tr po pa pe am) (ha : a < 7) (hb : b < 7)
    (hx : 0 ≤ x.toInt ∧ x.toInt ≤ 1000) (hr : ∀ s, s < 128 → cn_bit s a = true → ¬ cn_bit s b = true → 0 ≤ cn_rm (cn_I tr) (cn_I po) (cn_bit s) + (x.toInt - cn_I tr (a * 7 + b))) :
    cn_Inv fg (upd tr (a * 7 + b) x) po pa pe am := by
  obtain ⟨j1, j2, j3⟩ := J
  refine ⟨?_, ?_, j3⟩
  · rw [cn_I_up]
    intro j
    by_cases e : j = a * 7 + b
    · subst e
      rw [cn_up_s]
      exact hx
    · rw [cn_up_n e]
      exact j1 j
  · intro k hk
    rw [cn_I_up, cn_rm_t ha hb]
    have := j2 k hk
    by_cases c : cn_bit k a = true ∧ ¬ cn_bit k b = true
    · rw [if_pos c]
      exact hr k hk c.1 c.2
    · rw [if_neg c]
      omega

theorem i_vc_trust {k : Nat} {u : SX} {v : SY} (I : i_Rel k u v) (hk : k + 4 ≤ 2048) (v1 : Int32) (v2 : Int32) (v3 : Int32) : wpX_trust (fun r u' => wpY_trust (fun r' v' => r' = r ∧ i_Rel (k + 4) u' v') v v1 v2 v3) u v1 v2 v3 := by
  obtain ⟨fg, tr, po, pa, pe, am, ow, un, di, pr, ow', re, pc, be, rfl, rfl, J⟩ := I
  unfold wpX_trust wpY_trust
  by_cases h : cn_two v1 v2
  · have h2 := h
    obtain ⟨a, b, ha, hb, ne, rfl, rfl⟩ := h
    rw [cn_ix, cn_iy, cn_cl (by omega)]
    refine cn_2Xt h2 (br_f cn_10 (nm_e ?_))
    rw [cn_cl (by omega)]
    by_cases c1 : v3 < 0
    · exact br_t c1 (cn_2Yt fg tr po pa pe am ow' re pc be h2 (br_f cn_10 (br_t c1 ⟨rfl, cn_mk J⟩)))
    · refine br_f c1 ⟨cn_in49 ha hb, ?_⟩
      by_cases c2 : v3 ≤ 1000 - tr (a * 7 + b)
      · refine br_t c2 ⟨cn_in49 ha hb, cn_in49 ha hb, nm_e ⟨cn_in49 ha hb, ?_⟩⟩
        refine cn_2Yt fg tr po pa pe am ow' re pc be h2 (br_f cn_10 (br_f c1 ⟨cn_in49 ha hb, br_t c2 ⟨cn_in49 ha hb, cn_in49 ha hb, nm_e ⟨cn_in49 ha hb, rfl, cn_mk ?_⟩⟩⟩))
        have t := J.1 (a * 7 + b)
        have t' : 0 ≤ (tr (a * 7 + b)).toInt ∧ (tr (a * 7 + b)).toInt ≤ 1000 := t
        rw [cn_1000 t'] at c2
        rw [cn_lt0] at c1
        have e : (tr (a * 7 + b) + v3).toInt = (tr (a * 7 + b)).toInt + v3.toInt := by
          have : tr (a * 7 + b) + v3 = cn_i ((tr (a * 7 + b)).toInt + v3.toInt) := by rw [cn_i_add, cn_i_of, cn_i_of]
          rw [this, cn_ti (by omega) (by omega)]
        refine cn_Inv_t J ha hb (by rw [e]; omega) (fun s hs _ _ => ?_)
        have := J.2.1 s hs
        rw [e]
        unfold cn_I at *
        omega
      · exact br_f c2 (cn_2Yt fg tr po pa pe am ow' re pc be h2 (br_f cn_10 (br_f c1 ⟨cn_in49 ha hb, br_f c2 ⟨rfl, cn_mk J⟩⟩)))
  · exact cn_2Xf h (br_t rfl (cn_2Yf fg tr po pa pe am ow' re pc be h (br_t rfl ⟨rfl, cn_mk J⟩)))

theorem cn_back (f : Nat → Int32) (i : Nat) (x : Int32) : upd (upd f i (f i - x)) i (upd f i (f i - x) i + x) = f := by
  funext j
  by_cases e : j = i
  · subst e
    rw [pk_us, pk_us, Int32.sub_add_cancel]
  · rw [pk_un e, pk_un e]

theorem i_vc_withdraw {k : Nat} {u : SX} {v : SY} (I : i_Rel k u v) (hk : k + 4 ≤ 2048) (v1 : Int32) (v2 : Int32) (v3 : Int32) : wpX_withdraw (fun r u' => wpY_withdraw (fun r' v' => r' = r ∧ i_Rel (k + 4) u' v') v v1 v2 v3) u v1 v2 v3 := by
  obtain ⟨fg, tr, po, pa, pe, am, ow, un, di, pr, ow', re, pc, be, rfl, rfl, J⟩ := I
  unfold wpX_withdraw wpY_withdraw
  by_cases h : cn_two v1 v2
  · have h2 := h
    obtain ⟨a, b, ha, hb, ne, rfl, rfl⟩ := h
    rw [cn_ix, cn_iy, cn_cl (by omega), cn_sh ha, cn_sh hb]
    refine cn_2Xt h2 (br_f cn_10 (nm_e ?_))
    rw [cn_cl (by omega)]
    by_cases c1 : v3 < 0
    · exact br_t c1 (cn_2Yt fg tr po pa pe am ow' re pc be h2 (br_f cn_10 (br_t c1 ⟨rfl, cn_mk J⟩)))
    · refine br_f c1 ⟨cn_in49 ha hb, ?_⟩
      by_cases c2 : v3 ≤ tr (a * 7 + b)
      · refine br_t c2 (cn_lrX fg tr po pa pe am ow un di pr (cn_pw ha) (cn_pw hb) J.1 (cn_Inv_P' J) ?_)
        have d1 : ¬ v3.toInt < 0 := fun z => c1 ((cn_lt0 v3).mpr z)
        have d2 := (cn_lei _ _).mp c2
        have t : 0 ≤ (tr (a * 7 + b)).toInt ∧ (tr (a * 7 + b)).toInt ≤ 1000 := J.1 (a * 7 + b)
        have e : (tr (a * 7 + b) - v3).toInt = (tr (a * 7 + b)).toInt - v3.toInt := by
          have : tr (a * 7 + b) - v3 = cn_i ((tr (a * 7 + b)).toInt - v3.toInt) := by rw [cn_i_sub, cn_i_of, cn_i_of]
          rw [this, cn_ti (by omega) (by omega)]
        have e' : cn_I tr (a * 7 + b) = (tr (a * 7 + b)).toInt := rfl
        have lb := cn_lr_b (m := 2 ^ a) (x := 2 ^ b) J.1 (cn_Inv_P' J) 128
        have L := cn_lr_Lr (t := cn_I tr) (P := cn_I po) (cn_pw ha) (cn_and_pw ha hb ne)
        have T' : cn_T (cn_I (upd tr (a * 7 + b) (tr (a * 7 + b) - v3))) := by
          rw [cn_I_up]
          intro j
          by_cases q : j = a * 7 + b
          · subst q
            rw [cn_up_s, e]
            omega
          · rw [cn_up_n q]
            exact J.1 j
        have rm' : ∀ s, cn_rm (cn_I (upd tr (a * 7 + b) (tr (a * 7 + b) - v3))) (cn_I po) (cn_bit s) = cn_rm (cn_I tr) (cn_I po) (cn_bit s) + (if cn_bit s a = true ∧ ¬ cn_bit s b = true then - v3.toInt else 0) := by
          intro s
          rw [cn_I_up, cn_rm_t ha hb, e, e']
          congr 1
          split <;> omega
        refine cn_ble v3.toInt _ (cn_i_of v3).symm rfl (cn_nrI v3) ⟨by omega, by omega⟩ (fun c3 => ?_) (fun c3 => ?_)
        · have J' : cn_Inv fg (upd tr (a * 7 + b) (tr (a * 7 + b) - v3)) po pa pe am := by
            refine cn_Inv_t J ha hb (by rw [e]; omega) (fun s hs s1 s2 => ?_)
            have := L.1 s hs ((cn_bit_in a ha s hs).mpr s1) ((cn_bit_out b hb s hs).mpr s2)
            rw [e]
            omega
          refine ⟨cn_in49 ha hb, cn_in49 ha hb, nm_e ⟨cn_in49 ha hb, ?_⟩⟩
          refine cn_2Yt fg tr po pa pe am ow' re pc be h2 (br_f cn_10 (br_f c1 ⟨cn_in49 ha hb, br_t c2 ⟨cn_in49 ha hb, cn_in49 ha hb, nm_e ?_⟩⟩))
          exact cn_psY fg _ po pa pe am ow' re pc be T' (cn_Inv_P' J) (fun _ => br_f cn_10 ⟨cn_in49 ha hb, rfl, cn_mk J'⟩) (fun n => absurd J'.2.1 n)
        · refine cn_2Yt fg tr po pa pe am ow' re pc be h2 (br_f cn_10 (br_f c1 ⟨cn_in49 ha hb, br_t c2 ⟨cn_in49 ha hb, cn_in49 ha hb, nm_e ?_⟩⟩))
          refine cn_psY fg _ po pa pe am ow' re pc be T' (cn_Inv_P' J) (fun n => ?_) (fun _ => br_t rfl ⟨cn_in49 ha hb, cn_in49 ha hb, nm_e ?_⟩)
          · obtain ⟨s, s0, s1, s2, s3⟩ := L.2
            have q := n s s0
            rw [rm', if_pos ⟨(cn_bit_in a ha s s0).mp s1, (cn_bit_out b hb s s0).mp s2⟩] at q
            omega
          · rw [cn_back]
            exact ⟨rfl, cn_mk J⟩
      · exact br_f c2 (cn_2Yt fg tr po pa pe am ow' re pc be h2 (br_f cn_10 (br_f c1 ⟨cn_in49 ha hb, br_f c2 ⟨rfl, cn_mk J⟩⟩)))
  · exact cn_2Xf h (br_t rfl (cn_2Yf fg tr po pa pe am ow' re pc be h (br_t rfl ⟨rfl, cn_mk J⟩)))

theorem cn_Inv_p {fg : Int32} {tr po pa pe am : Nat → Int32} {a b : Nat} {x : Int32} (J : cn_Inv fg tr po pa pe am) (ha : a < 7) (hb : b < 7) (ne : a ≠ b)
    (h0 : 0 ≤ x.toInt) (hr : x.toInt ≤ cn_lr (cn_I tr) (cn_I po) (2 ^ b) (2 ^ a) 128) : cn_Inv fg tr (upd (upd po a (po a - x)) b (upd po a (po a - x) b + x)) pa pe am := by
  have P := cn_Inv_P J
  have lb := cn_lr_b (m := 2 ^ b) (x := 2 ^ a) J.1 (cn_Inv_P' J) 128
  have L := cn_lr_Lr (t := cn_I tr) (P := cn_I po) (cn_pw hb) (cn_and_pw hb ha (fun z => ne z.symm))
  obtain ⟨j1, j2, j3, j4⟩ := J
  have pa' : -50000 ≤ (po a).toInt ∧ (po a).toInt ≤ 50000 := P a ha
  have pb' : -50000 ≤ (po b).toInt ∧ (po b).toInt ≤ 50000 := P b hb
  have e1 : (po a - x).toInt = (po a).toInt - x.toInt := by
    have : po a - x = cn_i ((po a).toInt - x.toInt) := by rw [cn_i_sub, cn_i_of, cn_i_of]
    rw [this, cn_ti (by omega) (by omega)]
  have e2 : (po b + x).toInt = (po b).toInt + x.toInt := by
    have : po b + x = cn_i ((po b).toInt + x.toInt) := by rw [cn_i_add, cn_i_of, cn_i_of]
    rw [this, cn_ti (by omega) (by omega)]
  have e : cn_I (upd (upd po a (po a - x)) b (upd po a (po a - x) b + x)) = cn_up (cn_up (cn_I po) a (cn_I po a - x.toInt)) b (cn_I po b + x.toInt) := by
    rw [cn_I_up, cn_I_up, pk_un (fun z => ne z.symm), e1, e2]
    rfl
  have n1 : cn_up (cn_I po) a (cn_I po a - x.toInt) b = cn_I po b := cn_up_n (fun z => ne z.symm)
  refine ⟨j1, fun s hs => ?_, ?_, j4⟩
  · rw [e, cn_rm_P hb, cn_rm_P ha, n1]
    have q := j2 s hs
    have r := L.1 s hs
    rw [cn_bit_in b hb s hs, cn_bit_out a ha s hs] at r
    by_cases ca : cn_bit s a = true
    · rw [if_pos ca]
      split <;> omega
    · rw [if_neg ca]
      by_cases cb : cn_bit s b = true
      · have := r cb ca
        rw [if_pos cb]
        omega
      · rw [if_neg cb]
        omega
  · rw [e, cn_sum_up _ _ hb, cn_sum_up _ _ ha, n1, j3]
    omega

theorem i_vc_pay {k : Nat} {u : SX} {v : SY} (I : i_Rel k u v) (hk : k + 4 ≤ 2048) (v1 : Int32) (v2 : Int32) (v3 : Int32) : wpX_pay (fun r u' => wpY_pay (fun r' v' => r' = r ∧ i_Rel (k + 4) u' v') v v1 v2 v3) u v1 v2 v3 := by
  obtain ⟨fg, tr, po, pa, pe, am, ow, un, di, pr, ow', re, pc, be, rfl, rfl, J⟩ := I
  unfold wpX_pay wpY_pay
  by_cases h : cn_two v1 v2
  · have h2 := h
    obtain ⟨a, b, ha, hb, ne, rfl, rfl⟩ := h
    refine cn_2Xt h2 (br_f cn_10 ?_)
    by_cases c1 : 0 ≤ v3
    · refine br_t c1 (cn_mostX fg tr po pa pe am ow un di pr ha hb ne J ?_)
      have lb := cn_lr_b (m := 2 ^ b) (x := 2 ^ a) J.1 (cn_Inv_P' J) 128
      by_cases c2 : v3 ≤ cn_i (cn_lr (cn_I tr) (cn_I po) (2 ^ b) (2 ^ a) 128)
      · refine br_t c2 ⟨cn_in7 ha, cn_in7 ha, nm_e ⟨cn_in7 hb, cn_in7 hb, nm_e ⟨cn_in7 ha, ?_⟩⟩⟩
        refine cn_2Yt fg tr po pa pe am ow' re pc be h2 (br_f cn_10 (br_t c1 (cn_slackY fg tr po pa pe am ow' re pc be ha hb ne J (br_t c2 ⟨cn_in7 ha, cn_in7 ha, nm_e ⟨cn_in7 hb, cn_in7 hb, nm_e ⟨cn_in7 ha, rfl, cn_mk ?_⟩⟩⟩))))
        rw [cn_cl (by omega), cn_cl (by omega)]
        rw [cn_lei, cn_ti (by omega) (by omega)] at c2
        exact cn_Inv_p J ha hb ne ((cn_0le v3).mp c1) c2
      · exact br_f c2 (cn_2Yt fg tr po pa pe am ow' re pc be h2 (br_f cn_10 (br_t c1 (cn_slackY fg tr po pa pe am ow' re pc be ha hb ne J (br_f c2 ⟨rfl, cn_mk J⟩)))))
    · exact br_f c1 (cn_2Yt fg tr po pa pe am ow' re pc be h2 (br_f cn_10 (br_f c1 ⟨rfl, cn_mk J⟩)))
  · exact cn_2Xf h (br_t rfl (cn_2Yf fg tr po pa pe am ow' re pc be h (br_t rfl ⟨rfl, cn_mk J⟩)))

theorem i_vc_gather {k : Nat} {u : SX} {v : SY} (I : i_Rel k u v) (hk : k + 4 ≤ 2048) (v1 : Int32) (v2 : Int32) (v3 : Int32) : wpX_gather (fun r u' => wpY_gather (fun r' v' => r' = r ∧ i_Rel (k + 4) u' v') v v1 v2 v3) u v1 v2 v3 := by
  obtain ⟨fg, tr, po, pa, pe, am, ow, un, di, pr, ow', re, pc, be, rfl, rfl, J⟩ := I
  unfold wpX_gather wpY_gather
  by_cases h : cn_two v1 v2
  · refine cn_2Xt h (br_f cn_10 ?_)
    by_cases c1 : v3 < 0
    · exact br_t c1 (cn_2Yt fg tr po pa pe am ow' re pc be h (br_f cn_10 (br_t c1 ⟨rfl, cn_mk J⟩)))
    · refine br_f c1 ?_
      by_cases c2 : v3 ≤ 10000
      · refine br_t c2 ?_
        have J' := J
        obtain ⟨j1, j2, j3, f, hf, rfl, j4⟩ := J
        by_cases c3 : f = 6
        · subst c3
          exact br_f (nI_nlt (a := 6) (b := 6) (by decide) (by decide)) (cn_2Yt (nI 6) tr po pa pe am ow' re pc be h (br_f cn_10 (br_f c1 (br_t c2 (br_t (by decide) ⟨rfl, cn_mk J'⟩)))))
        · have hi : vp_in (nI f) 6 := vp_in_nI (by omega) (by decide)
          refine br_t (nI_lt (b := 6) (by omega) (by decide)) ⟨hi, nm_e ⟨hi, nm_e ⟨hi, nm_e (nm_e ?_)⟩⟩⟩
          refine cn_2Yt (nI f) tr po pa pe am ow' re pc be h (br_f cn_10 (br_f c1 (br_t c2 (br_f (fun z => c3 ((nI_eq (b := 6) (by omega) (by decide)).mp z)) ⟨hi, nm_e ⟨hi, nm_e ⟨hi, nm_e (nm_e ⟨rfl, cn_mk ?_⟩)⟩⟩⟩))))
          rw [cn_cl (by omega), nI_1]
          refine ⟨j1, j2, j3, f + 1, by omega, rfl, fun i hi' => ?_⟩
          obtain ⟨a, b, ha, hb, ne, rfl, rfl⟩ := h
          by_cases e : i = f
          · subst e
            rw [pk_us, pk_us, cn_I, pk_us]
            refine ⟨cn_in7 ha, cn_in7 hb, ?_⟩
            rw [cn_lt0] at c1
            rw [cn_lei, show (10000 : Int32).toInt = 10000 by decide] at c2
            omega
          · rw [pk_un e, pk_un e, cn_I, pk_un e]
            exact j4 i (by omega)
      · exact br_f c2 (cn_2Yt fg tr po pa pe am ow' re pc be h (br_f cn_10 (br_f c1 (br_f c2 ⟨rfl, cn_mk J⟩))))
  · exact cn_2Xf h (br_t rfl (cn_2Yf fg tr po pa pe am ow' re pc be h (br_t rfl ⟨rfl, cn_mk J⟩)))
