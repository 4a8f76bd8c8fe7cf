section
variable (fg : Int32) (tr po pa pe am ow un di pr : Nat → Int32)

theorem cn_seX {post : SX → Prop} (J : cn_Inv fg tr po pa pe am)
    (h : ∀ ow' un' di' pr' g, cn_TX ow' g → cn_Debts (cn_I tr) (cn_I po) (cn_tot g) → post (fg, tr, po, pa, pe, am, ow', un', di', pr')) :
    wpX_settle post (fg, tr, po, pa, pe, am, ow, un, di, pr) := by
  have P := cn_Inv_P J
  have ht := J.1
  have hok := cn_Ok_of J.2.1 J.2.2.1
  refine loop_0 (fun n k (ow : Nat → Int32) => wX_settle_2 post fg n (nI k) tr po pa pe am ow un di pr) (fun k ow => ∀ j, j < k → ow j = 0) 49 ow (fun j hj => by omega) ?_ ?_
  · intro n ow how
    refine br_t cn_t49 ?_
    refine loop_0 (fun n k (un : Nat → Int32) => wX_settle_23 post fg n (nI k) tr po pa pe am ow un di pr) (fun k un => ∀ j, j < k → un j = po j) 7 un (fun j hj => by omega) ?_ ?_
    · intro n un hun
      refine br_t cn_t7 ?_
      refine loop_0 (fun n k (s : (Nat → Int32) × (Nat → Int32) × (Nat → Int32) × (Nat → Int32)) => wX_settle_49 post n (nI k) fg tr po pa pe am s.1 s.2.1 s.2.2.1 s.2.2.2)
        (fun k s => ∃ g q, cn_Se (cn_I tr) (cn_I po) k g (cn_I s.2.1) q ∧ cn_TX s.1 g) 12000 (ow, un, di, pr) ?_ ?_ ?_
      · refine ⟨_, _, cn_Se_0 hok (fun u v _ _ => ht _) (fun w hw => congrArg Int32.toInt (hun w hw)), fun u v hu hv => ?_⟩
        show (ow (u * 7 + v)).toInt = 0
        rw [how _ (by omega)]
        decide
      · intro n s ⟨g, q, se, tx⟩
        exact br_t (by decide) (h _ _ _ _ g tx (cn_Se_fin se (cn_Se_e3 hok se (Nat.le_refl _))))
      · intro n k s hk ⟨g, q, se, tx⟩ ih
        obtain ⟨ow1, un1, di1, pr1⟩ := s
        have ub := cn_Se_b ht P se
        refine br_f (nI_ge (b := 12000) hk (by decide)) (cn_fdX fg tr po pa pe am ow1 un1 di1 pr1 (fun s hs neg => br_f (cn_nm1 hs) ?_) (fun all => br_t rfl (h _ _ _ _ g tx (cn_Se_fin se (cn_Se_e1 hok se all)))))
        refine cn_fsX fg tr po pa pe am ow1 un1 di1 pr1 ht se.1 tx se.2.1 hs (fun di2 pr2 d p ts ro => ?_)
        obtain ⟨ws, cl⟩ := cn_Ro_e (Nat.le_refl 6) (by decide) (cn_Opt_Pt se.2.1) (fun x _ e => by rw [e]) (cn_cost_b g) ro
        have db : ∀ w, w < 7 → -1000000 ≤ d w ∧ d w ≤ 1000000 := by
          intro w hw
          rcases ws.2.1 w hw with x | x <;> omega
        refine cn_fcX fg tr po pa pe am ow1 un1 di2 pr2 ts db (fun z hz pos rz => br_f (cn_nm1 hz) ?_) (fun none => ?_)
        · obtain ⟨q', L, o1, o2, wy⟩ := cn_way (by decide) (by decide) se.2.1 ws cl hz rz
          refine cn_sbX fg tr po pa pe am ow1 un1 di2 pr2 ht se.1 tx o1 hs hz ts wy ub neg pos (fun ow3 un3 g3 a tx3 a1 a2 a3 w2 e => nm_r (nI_1 k) (ih (ow3, un3, di2, pr2) ⟨g3, q', ?_, tx3⟩))
          show cn_Se (cn_I tr) (cn_I po) (k + 1) g3 (cn_I un3) q'
          rw [e]
          exact cn_Se_s se hs hz a1 a2 a3 wy.2.1 w2
        · have ds : d s ≠ 1000000 := by
            have := (ws.1 s hs rfl).1
            omega
          obtain ⟨v, v1, v2, v3⟩ := cn_reach hs hok se.1 se.2.2.1 ds neg (fun u v hu hv du R => by
            have a := cl u v hu hv du R
            have b := cn_cost_b g u v
            rcases ws.2.1 u hu with x | x
            · exact absurd x du
            · omega)
          exact absurd (none v v1 v3) v2
    · intro n k un hk hun ih
      refine br_f (cn_f7 hk) ⟨cn_in7 hk, cn_in7 hk, nm_e (nm_r (nI_1 k) (ih _ (fun j hj => ?_)))⟩
      rw [cn_cl (by omega)]
      by_cases e : j = k
      · subst e; exact pk_us
      · exact (pk_un e).trans (hun j (by omega))
  · intro n k ow hk how ih
    refine br_f (cn_f49 hk) ⟨vp_in_nI (by omega) (by decide), nm_e (nm_r (nI_1 k) (ih _ (fun j hj => ?_)))⟩
    rw [cn_cl (by omega)]
    by_cases e : j = k
    · subst e; exact pk_us
    · exact (pk_un e).trans (how j (by omega))

theorem cn_deX {post : Int32 → SX → Prop} (J : cn_Inv fg tr po pa pe am)
    (h : ∀ ow' un' di' pr' r, cn_Debts (cn_I tr) (cn_I po) r → post (cn_i r) (fg, tr, po, pa, pe, am, ow', un', di', pr')) :
    wpX_debts post (fg, tr, po, pa, pe, am, ow, un, di, pr) := by
  unfold wpX_debts
  refine cn_seX fg tr po pa pe am ow un di pr J (fun ow1 un1 di1 pr1 g tx db => ?_)
  have e : cn_sum (cn_I ow1) 49 = cn_tot g := by
    rw [cn_sum49]
    exact cn_sum_congr (fun u hu => cn_sum_congr (fun v hv => tx u v hu hv))
  refine loop_0 (fun n k (s : Int32) => wX_debts_8 post fg tr po pa pe am ow1 un1 di1 pr1 n s (nI k)) (fun k s => s = cn_i (cn_sum (cn_I ow1) k)) 49 0 cn_i_0.symm ?_ ?_
  · intro n s hs
    subst hs
    rw [e]
    exact br_t cn_t49 (h _ _ _ _ _ db)
  · intro n k s hk hs ih
    subst hs
    refine br_f (cn_f49 hk) ⟨vp_in_nI (by omega) (by decide), nm_r (e' := cn_i (cn_sum (cn_I ow1) (k + 1))) ?_ (nm_r (nI_1 k) (ih _ rfl))⟩
    rw [cn_cl (by omega), cn_sum_s, cn_i_add, ← cn_I_of]
end
