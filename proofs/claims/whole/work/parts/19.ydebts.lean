/-- Y's settling, t rounds done: going on, or all settled -/
def cn_YI (tr po : Nat → Int32) (k : Nat) (x : Int32) (ow re : Nat → Int32) : Prop :=
  (x = 1 ∧ ∃ g q, cn_Se (cn_I tr) (cn_I po) k g (fun w => cn_I po w - cn_I re w) q ∧ cn_TY ow g ∧ ∀ s, s < 7 → cn_src po re s → q s = 0) ∨
  (x = 0 ∧ ∃ g, cn_TY ow g ∧ cn_Debts (cn_I tr) (cn_I po) (cn_tot g))

section
variable (fg : Int32) (tr po pa pe am ow re pc be : Nat → Int32)

theorem cn_suY {post : Int32 → SY → Prop} {g : Nat → Nat → Int} (h : cn_TY ow g) (hp : post (cn_i (cn_tot g)) (fg, tr, po, pa, pe, am, ow, re, pc, be)) :
    ∃ n, wY_debts_93 post fg tr po pa pe am ow re pc be n 0 0 := by
  have e : cn_sum (fun j => cn_pp (cn_I ow j)) 49 = cn_tot g := by
    rw [cn_sum49]
    exact cn_sum_congr (fun u hu => cn_sum_congr (fun v hv => congrArg cn_pp (h u v hu hv)))
  refine loop_0 (fun n k (s : Int32) => wY_debts_93 post fg tr po pa pe am ow re pc be n s (nI k)) (fun k s => s = cn_i (cn_sum (fun j => cn_pp (cn_I ow j)) k)) 49 0 cn_i_0.symm ?_ ?_
  · intro n s hs
    subst hs
    rw [e]
    exact br_t cn_t49 hp
  · intro n k s hk hs ih
    subst hs
    refine br_f (cn_f49 hk) ⟨vp_in_nI (by omega) (by decide), ?_⟩
    rw [cn_cl (by omega)]
    refine cn_ble _ 0 (cn_I_of ow k) cn_i_0.symm (cn_nrI _) cn_n0 (fun c => nm_r (nI_1 k) (ih _ ?_)) (fun c => ⟨vp_in_nI (by omega) (by decide), nm_r (e' := cn_i (cn_sum (fun j => cn_pp (cn_I ow j)) (k + 1))) ?_ (nm_r (nI_1 k) (ih _ rfl))⟩)
    · rw [cn_sum_s, cn_pp, if_neg (by omega), Int.add_zero]
    · rw [cn_sum_s, cn_pp, if_pos c, cn_i_add, ← cn_I_of]

theorem cn_deY {post : Int32 → SY → Prop} (J : cn_Inv fg tr po pa pe am)
    (h : ∀ ow' re' pc' be' r, cn_Debts (cn_I tr) (cn_I po) r → post (cn_i r) (fg, tr, po, pa, pe, am, ow', re', pc', be')) :
    wpY_debts post (fg, tr, po, pa, pe, am, ow, re, pc, be) := by
  have P := cn_Inv_P J
  have ht := J.1
  have hok := cn_Ok_of J.2.1 J.2.2.1
  refine loop_0 (fun n k (s : (Nat → Int32) × (Nat → Int32)) => wY_debts_2 post fg n (nI k) tr po pa pe am s.1 s.2 pc be) (fun k s => ∀ j, j < k → s.1 j = 0 ∧ s.2 (j / 7) = 0) 49 (ow, re) (fun j hj => by omega) ?_ ?_
  · intro n s hs
    obtain ⟨ow, re⟩ := s
    refine br_t cn_t49 ?_
    refine loop_0 (fun n k (s : Int32 × (Nat → Int32) × (Nat → Int32) × (Nat → Int32) × (Nat → Int32)) => wY_debts_35 post n s.1 (nI k) fg tr po pa pe am s.2.1 s.2.2.1 s.2.2.2.1 s.2.2.2.2)
      (fun k s => cn_YI tr po k s.1 s.2.1 s.2.2.1) 20000 (1, ow, re, pc, be) ?_ ?_ ?_
    · have r0 : ∀ w, w < 7 → cn_I re w = 0 := by
        intro w hw
        have e : re (w * 7 / 7) = 0 := (hs (w * 7) (by omega)).2
        rw [Nat.mul_div_cancel _ (by decide)] at e
        show (re w).toInt = 0
        rw [e]
        decide
      refine Or.inl ⟨rfl, _, _, cn_Se_0 hok (fun u v _ _ => ht _) (fun w hw => ?_), fun u v hu hv => ?_, fun _ _ _ => rfl⟩
      · rw [r0 w hw, Int.sub_zero]
      · have e : ow (u * 7 + v) = 0 := (hs (u * 7 + v) (by omega)).1
        show (ow (u * 7 + v)).toInt = 0
        rw [e]
        decide
    · intro n s hI
      obtain ⟨x, ow1, re1, pc1, be1⟩ := s
      refine br_t (by decide) ?_
      rcases hI with ⟨_, g, q, se, ty, _⟩ | ⟨_, g, ty, db⟩
      · exact cn_suY fg tr po pa pe am ow1 re1 pc1 be1 ty (h _ _ _ _ _ (cn_Se_fin se (cn_Se_e3 hok se (by decide))))
      · exact cn_suY fg tr po pa pe am ow1 re1 pc1 be1 ty (h _ _ _ _ _ db)
    · intro n k s hk hI ih
      obtain ⟨x, ow1, re1, pc1, be1⟩ := s
      refine br_f (nI_ge (b := 20000) hk (by decide)) ?_
      rcases hI with ⟨hx, g, q, se, ty, hS⟩ | ⟨hx, g, ty, db⟩
      · have hx' : x = 1 := hx
        subst hx'
        have ub := cn_Se_b ht P se
        refine br_f cn_10 (cn_fwY fg tr po pa pe am ow1 re1 pc1 be1 ht se.1 ty se.2.1 hS (fun pc2 be2 d p ts ro => ?_))
        obtain ⟨ws, cl⟩ := cn_Ro_e (K := 7) (by decide) (by decide) (cn_Opt_Pt se.2.1) hS (cn_cost_b g) ro
        have db : ∀ w, w < 7 → -1000 ≤ d w ∧ d w ≤ 1000 := by
          intro w hw
          rcases ws.2.1 w hw with x | x <;> omega
        refine cn_chY fg tr po pa pe am ow1 re1 pc2 be2 ts db (fun z hz pos rz => br_f (cn_fin7 hz) (br_f cn_10 ?_)) (fun none => br_t cn_m1lt (br_t rfl (nm_r (nI_1 k) (ih (0, ow1, re1, pc2, be2) (Or.inr ⟨rfl, g, ty, cn_Se_fin se (cn_Se_e1 hok se (fun s hs => ?_))⟩)))))
        · obtain ⟨q', L, o1, o2, wy⟩ := cn_way (by decide) (by decide) se.2.1 ws cl hz rz
          have b0 := wy.2.2.1 L (Nat.le_refl _)
          have rt : p (cn_it p L z) = cn_it p L z := (ws.1 _ b0 wy.2.1).2
          have neg : cn_I po (cn_it p L z) < cn_I re1 (cn_it p L z) := wy.2.1
          have rz' : cn_it p L z ≠ z := by
            intro e
            rw [e] at neg
            omega
          have ubz := ub z hz
          refine cn_wiY fg tr po pa pe am ow1 re1 pc2 be2 ht se.1 ty hz ts wy rt ub neg pos (fun a a1 a2 a3 a4 => ?_)
          refine cn_snY fg tr po pa pe am ow1 re1 pc2 be2 ht se.1 ty o1 hz ts wy rt rz' (fun w hw => ?_) a1 ?_ a4 (fun ow3 re3 g3 ty3 w2 e => nm_r (nI_1 k) (ih (1, ow3, re3, pc2, be2) (Or.inl ⟨rfl, g3, q', ?_, ty3, fun s hs he => ?_⟩)))
          · have x := ub w hw
            have y := P w hw
            dsimp only at x
            omega
          · dsimp only at ubz
            omega
          · have un' : (fun w => cn_I po w - cn_I re3 w) = cn_up (cn_up (fun w => cn_I po w - cn_I re1 w) (cn_it p L z) (cn_I po (cn_it p L z) - cn_I re1 (cn_it p L z) + a)) z (cn_I po z - cn_I re1 z - a) := by
              funext w
              rw [e]
              by_cases f : w = z
              · subst f
                rw [cn_up_s, cn_up_n (fun q => rz' q.symm), cn_up_s]
                omega
              · rw [cn_up_n f]
                by_cases f' : w = cn_it p L z
                · subst f'
                  rw [cn_up_s, cn_up_s]
                  omega
                · rw [cn_up_n f', cn_up_n f', cn_up_n f]
            show cn_Se (cn_I tr) (cn_I po) (k + 1) g3 (fun w => cn_I po w - cn_I re3 w) q'
            rw [un']
            exact cn_Se_s (un := fun w => cn_I po w - cn_I re1 w) se b0 hz a1 (by omega) (by omega) rfl w2
          · refine o2 s hs ?_
            have he' : cn_I po s < cn_I re3 s := he
            show cn_I po s < cn_I re1 s
            rw [e] at he'
            by_cases f' : s = cn_it p L z
            · subst f'
              exact neg
            · rw [cn_up_n f'] at he'
              by_cases f : s = z
              · subst f
                rw [cn_up_s] at he'
                omega
              · rw [cn_up_n f] at he'
                exact he'
        · show 0 ≤ cn_I po s - cn_I re1 s
          apply Classical.byContradiction
          intro n
          have sr : cn_src po re1 s := by
            show cn_I po s < cn_I re1 s
            omega
          have ds : d s ≠ 1000 := by
            have := (ws.1 s hs sr).1
            omega
          obtain ⟨v, v1, v2, v3⟩ := cn_reach hs hok se.1 se.2.2.1 ds (by dsimp only; omega) (fun u v hu hv du R => by
            have a := cl u v hu hv du R
            have b := cn_cost_b g u v
            rcases ws.2.1 u hu with x | x
            · exact absurd x du
            · omega)
          exact v2 (none v v1 (by dsimp only at v3; omega))
      · have hx' : x = 0 := hx
        subst hx'
        exact br_t rfl (cn_suY fg tr po pa pe am ow1 re1 pc1 be1 ty (h _ _ _ _ _ db))
  · intro n k s hk hs ih
    refine br_f (cn_f49 hk) ⟨vp_in_nI (by omega) (by decide), nm_e ⟨cn_70, ?_⟩⟩
    rw [cn_q7 (by omega)]
    refine ⟨cn_in7 (by omega), nm_e (nm_r (nI_1 k) (ih (_, _) (fun j hj => ?_)))⟩
    rw [cn_cl (by omega), cn_cl (by omega)]
    refine ⟨?_, ?_⟩
    · by_cases e : j = k
      · subst e; exact pk_us
      · exact (pk_un e).trans (hs j (by omega)).1
    · by_cases e : j / 7 = k / 7
      · rw [e]; exact pk_us
      · exact (pk_un e).trans (hs j (by
          by_cases f : j = k
          · subst f; exact absurd rfl e
          · omega)).2
end

theorem i_vc_debts {k : Nat} {u : SX} {v : SY} (I : i_Rel k u v) (hk : k + 4 ≤ 2048) : wpX_debts (fun r u' => wpY_debts (fun r' v' => r' = r ∧ i_Rel (k + 4) u' v') v) u := by
  obtain ⟨fg, tr, po, pa, pe, am, ow, un, di, pr, ow', re, pc, be, rfl, rfl, J⟩ := I
  refine cn_deX fg tr po pa pe am ow un di pr J (fun _ _ _ _ r d => cn_deY fg tr po pa pe am ow' re pc be J (fun _ _ _ _ r' d' => ⟨?_, cn_mk J⟩))
  rw [cn_Debts_eq d' d]
