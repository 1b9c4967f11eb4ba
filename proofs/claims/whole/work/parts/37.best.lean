/-! best, judge, fits -/
def dS (σ : Sto) (nb ng g d : Nat) : Int32 := sumN (fun b => alM σ ng (lonM σ (nI b) (nI d)) g) nb
def bst (v : Nat → Int32) : Nat → Nat × Int32
  | 0 => (0, v 0)
  | n + 1 => if v (n + 1) ≤ (bst v n).2 then bst v n else (n + 1, v (n + 1))
theorem bst_le (v : Nat → Int32) : ∀ n, (bst v n).1 ≤ n := by
  intro n
  induction n with
  | zero => exact Nat.le_refl 0
  | succ n ih =>
    by_cases c : v (n + 1) ≤ (bst v n).2
    · rw [show bst v (n + 1) = bst v n from if_pos c]; omega
    · rw [show bst v (n + 1) = (n + 1, v (n + 1)) from if_neg c]; exact Nat.le_refl _
section BEST
variable {σ : Sto} {N nb ns ng nh : Nat}
theorem c_onDay (h : Rl σ N nb ns ng nh) {τ : Sto} (hf0 : Fr Scr σ τ) {g d : Nat} (hg : g < ng) (hd : d < 1000) : Ok (f_X7_almsOnDay τ (nI g) (nI d)) (fun y => Fr Scr σ y.1 ∧ y.2 = dS σ nb ng g d) := by
  have hng : ng ≤ 6 := h.1.1.2.2.1
  have hnb : nb ≤ 4 := h.1.1.1
  unfold f_X7_almsOnDay
  rw [ok_bs, ok_bs, ok_bE2]
  refine lp_for (fun i t => Fr Scr σ t.1 ∧ t.2.1 = sumN (fun b => alM σ ng (lonM σ (nI b) (nI d)) g) i ∧ t.2.2 = nI i) nb (FU_big (by omega)) ⟨hf0, rfl, rfl⟩ ?_ ?_
  · rintro i ⟨ρ, x1, x2⟩ hi ⟨hf, e1, e2⟩
    dsimp only at hf e1 e2 ⊢
    subst e1 e2
    obtain ⟨hP, hS, -⟩ := h.fr hf
    unfold f_X7_almsOnDay_l5
    rw [(c_cnt hP).1, bd2_eq, if_neg (nI_ge hi (by omega)), ok_bd1]
    refine ok_mono (c_showAt hP hS (inB_n hi (by omega)) (rg_nI (m := 1000) (a := d) (by omega) (by omega))) (fun ρ2 hw => ?_)
    have hw : SW ρ ρ2 ns ng (lonM ρ (nI i) (nI d)) := hw
    rw [c_almsN (show ng ≤ 7 by omega) hw.2.1.1 hg, bd2_eq]
    simp only [bsN, nI_1]
    refine ok_some.mpr (Or.inl ⟨_, rfl, hf.tr hw.scr, ?_, rfl⟩)
    dsimp only
    rw [(hw.2.2.1 g hg).2.2, (hw.2.2.1 g hg).1.2, vw_gf hf, vw_co hf, vw_lon hf, sumN_s]
    rfl
  · rintro ⟨ρ, x1, x2⟩ ⟨hf, e1, e2⟩
    dsimp only at hf e1 e2 ⊢
    subst e1 e2
    obtain ⟨hP, hS, -⟩ := h.fr hf
    unfold f_X7_almsOnDay_l5
    rw [(c_cnt hP).1, bd2_eq, if_pos (nI_le (Nat.le_refl nb) (by omega)), ok_some]
    exact ⟨_, rfl, ok_some.mpr ⟨hf, rfl⟩⟩
theorem m_onDay (h : Rl σ N nb ns ng nh) {τ : Sto} (hf0 : Fr Scr σ τ) {g d : Nat} (hg : g < ng) (a x3 x4 : Int32) : Ok (lpF (fun t => f_X8_best_l47 (nI g) a x3 x4 (nI d) t.1 t.2.1 t.2.2) FU (τ, (0 : Int32), (0 : Int32))) (fun y => Fr Scr σ y.1 ∧ y.2.1 = dS σ nb ng g d) := by
  have hng : ng ≤ 6 := h.1.1.2.2.1
  have hnb : nb ≤ 4 := h.1.1.1
  refine lp_for (fun i t => Fr Scr σ t.1 ∧ t.2.1 = sumN (fun b => alM σ ng (lonM σ (nI b) (nI d)) g) i ∧ t.2.2 = nI i) nb (FU_big (by omega)) ⟨hf0, rfl, rfl⟩ ?_ ?_
  · rintro i ⟨ρ, x1, x2⟩ hi ⟨hf, e1, e2⟩
    dsimp only at hf e1 e2 ⊢
    subst e1 e2
    obtain ⟨hP, hS, -⟩ := h.fr hf
    unfold f_X8_best_l47
    obtain ⟨ρ2, e, hf2, h61, hok, e8, eco⟩ := m_found hP hS (lonM ρ (nI i) (nI d))
    have hlo : f_X8_longOn ρ (nI i) (nI d) = some (ρ, lonM ρ (nI i) (nI d)) := m_longOn _ (inB_n (show i < 4 by omega) (by omega)) hP.y0
    rw [hP.2.1.1, if_neg (nI_ge hi (by omega)), hlo, bd2_eq, hP.2.1.2.2.1, e, bd1_eq, m_almsN hok (by omega) hg, bd2_eq]
    simp only [bsN, nI_1]
    refine ok_some.mpr (Or.inl ⟨_, rfl, hf.tr hf2, ?_, rfl⟩)
    dsimp only
    rw [(h61 g hg).1, eco, vw_gf hf, vw_co hf, vw_lon hf, sumN_s]
    rfl
  · rintro ⟨ρ, x1, x2⟩ ⟨hf, e1, e2⟩
    dsimp only at hf e1 e2 ⊢
    subst e1 e2
    obtain ⟨hP, hS, -⟩ := h.fr hf
    unfold f_X8_best_l47
    rw [hP.2.1.1, if_pos (nI_le (Nat.le_refl nb) (by omega)), ok_some]
    exact ⟨_, rfl, hf, rfl⟩
end BEST
theorem s_best (a w : Int32) : CallR (fun σ => f_X7_best σ a w) (fun σ => f_X8_best σ a w) := by
  intro N σ hN hR
  obtain ⟨nb, ns, ng, nh, h⟩ := hR
  have hng : ng ≤ 6 := h.1.1.2.2.1
  obtain ⟨yn, hyn, ey⟩ := nI_rg (m := 60) (h.1.2.2.2.1.2.up (by omega) (by omega))
  have hy1 : 1 ≤ yn := by
    have := h.1.2.2.2.1.2.1
    rw [ey, nI_toInt (by omega)] at this
    omega
  refine stp_look (f7 := fun σ => f_X7_best σ a w) (f8 := fun σ => f_X8_best σ a w) h (v := if inB a ng = true then (if rgB w 0 1 = true then (if w = 0 then nI (bst (dS σ nb ng a.toNatClampNeg) (yn - 1)).1 else (bst (dS σ nb ng a.toNatClampNeg) (yn - 1)).2) else -1000000002) else -1000000001) ?_ (fun τ hf => ?_)
  · have hP := h.1
    unfold f_X7_best f_X7_best_j24 f_X7_best_j91
    rw [(c_hasK hP a).2.2.1, bd2_eq, bB_if, rg_if]
    by_cases c1 : inB a ng = true
    · rw [if_pos c1, if_pos c1]
      show Ok (if rgB w 0 1 = true then _ else _) _
      by_cases c3 : rgB w 0 1 = true
      · rw [if_pos c3, if_pos c3]
        obtain ⟨g, hg, rfl⟩ := inB_ex c1 (by omega)
        rw [nI_clamp (by omega), ok_bs, ok_bd2]
        refine ok_mono (c_onDay h Fr.rf hg (d := 0) (by omega)) (fun y hy => ?_)
        obtain ⟨σ4, v5⟩ := y
        obtain ⟨hf4, e5⟩ := hy
        dsimp only at hf4 e5 ⊢
        subst e5
        rw [ok_bs, ok_bs, ok_bE3]
        have key : Ok (lpF (fun t => f_X7_best_l40 (nI g) w t.1 t.2.1 t.2.2.1 t.2.2.2) FU (σ4, (0 : Int32), dS σ nb ng g 0, (1 : Int32))) (fun y => Fr Scr σ y.1 ∧ y.2.1 = nI (bst (dS σ nb ng g) (yn - 1)).1 ∧ y.2.2.1 = (bst (dS σ nb ng g) (yn - 1)).2) := by
          refine lp_for (fun j t => Fr Scr σ t.1 ∧ t.2.1 = nI (bst (dS σ nb ng g) j).1 ∧ t.2.2.1 = (bst (dS σ nb ng g) j).2 ∧ t.2.2.2 = nI (j + 1)) (yn - 1) (FU_big (by omega)) ⟨hf4, rfl, rfl, rfl⟩ ?_ ?_
          · rintro j ⟨ρ, x1, x2, x3⟩ hj ⟨hf, e1, e2, e3⟩
            dsimp only at hf e1 e2 e3 ⊢
            subst e1 e2 e3
            have hPr := (h.fr hf).1
            have ey2 : ρ.1 39 0 = nI yn := (hf 39 0 (by unfold Scr; omega)).trans ey
            unfold f_X7_best_l40 f_X7_best_j75
            rw [c_days hPr, bd2_eq, ey2, if_neg (nI_ge (show j + 1 < yn by omega) (by omega)), ok_bd2]
            refine ok_mono (c_onDay h hf hg (d := j + 1) (by omega)) (fun y hy => ?_)
            rw [hy.2]
            simp only [bsN, nI_1]
            by_cases c : dS σ nb ng g (j + 1) ≤ (bst (dS σ nb ng g) j).2
            · rw [if_pos c]
              refine ok_some.mpr (Or.inl ⟨_, rfl, hy.1, ?_, ?_, rfl⟩)
              · rw [show bst (dS σ nb ng g) (j + 1) = bst (dS σ nb ng g) j from if_pos c]
              · rw [show bst (dS σ nb ng g) (j + 1) = bst (dS σ nb ng g) j from if_pos c]
            · rw [if_neg c]
              refine ok_some.mpr (Or.inl ⟨_, rfl, hy.1, ?_, ?_, rfl⟩)
              · rw [show bst (dS σ nb ng g) (j + 1) = (j + 1, dS σ nb ng g (j + 1)) from if_neg c]
              · rw [show bst (dS σ nb ng g) (j + 1) = (j + 1, dS σ nb ng g (j + 1)) from if_neg c]
          · rintro ⟨ρ, x1, x2, x3⟩ ⟨hf, e1, e2, e3⟩
            dsimp only at hf e1 e2 e3 ⊢
            subst e1 e2 e3
            have hPr := (h.fr hf).1
            have ey2 : ρ.1 39 0 = nI yn := (hf 39 0 (by unfold Scr; omega)).trans ey
            unfold f_X7_best_l40
            rw [c_days hPr, bd2_eq, ey2, if_pos (nI_le (by omega) (by omega)), ok_some]
            exact ⟨_, rfl, hf, rfl, rfl⟩
        refine ok_mono key (fun y hy => ?_)
        rw [sif, ok_some]
        refine ⟨hy.1, ?_⟩
        show (if w = 0 then y.2.1 else y.2.2.1) = _
        rw [hy.2.1, hy.2.2]
      · rw [if_neg c3, if_neg c3, ok_some]; exact ⟨Fr.rf, rfl⟩
    · rw [if_neg c1, if_neg c1, ok_some]; exact ⟨Fr.rf, rfl⟩
  · have hP := (h.fr hf).1
    unfold f_X8_best f_X8_best_j148
    rw [m_isBeggar hP.2.1.2.2.1 (by omega), bd2_eq, bB_if, m_inI τ w _ _ (li := 0) (hi := 1) (by decide) (by decide), bd2_eq, bB_if]
    by_cases c1 : inB a ng = true
    · rw [if_pos c1, if_pos c1]
      by_cases c3 : rgB w 0 1 = true
      · rw [if_pos c3, if_pos c3]
        obtain ⟨g, hg, rfl⟩ := inB_ex c1 (by omega)
        rw [nI_clamp (by omega), ok_bs, ok_bs, ok_bs, ok_bE3]
        have key : Ok (lpF (fun t => f_X8_best_l32 (nI g) w t.1 t.2.1 t.2.2.1 t.2.2.2) FU (τ, (-1 : Int32), (0 : Int32), (0 : Int32))) (fun y => Fr Scr σ y.1 ∧ y.2.1 = nI (bst (dS σ nb ng g) (yn - 1)).1 ∧ y.2.2.1 = (bst (dS σ nb ng g) (yn - 1)).2) := by
          refine lp_for (fun j t => Fr Scr σ t.1 ∧ t.2.2.2 = nI j ∧ (j = 0 → t.2.1 = -1 ∧ t.2.2.1 = 0) ∧ (∀ i, j = i + 1 → t.2.1 = nI (bst (dS σ nb ng g) i).1 ∧ t.2.2.1 = (bst (dS σ nb ng g) i).2)) yn (FU_big (by omega)) ⟨hf, rfl, fun _ => ⟨rfl, rfl⟩, fun i q => absurd q.symm (Nat.succ_ne_zero i)⟩ ?_ ?_
          · rintro j ⟨ρ, x1, x2, x3⟩ hj ⟨hfr, e3, i0, i1⟩
            dsimp only at hfr e3 i0 i1 ⊢
            subst e3
            have ey2 : ρ.1 39 0 = nI yn := (hfr 39 0 (by unfold Scr; omega)).trans ey
            unfold f_X8_best_l32
            rw [ey2, if_neg (nI_ge hj (by omega)), ok_bs, ok_bs, ok_bE2]
            refine ok_mono (m_onDay h hfr hg w x1 x2) (fun y hy => ?_)
            rw [hy.2]
            unfold f_X8_best_j99 f_X8_best_j104 f_X8_best_j117 f_X8_best_j130
            simp only [bsN, nI_1]
            by_cases c0 : j = 0
            · subst c0
              obtain ⟨q1, q2⟩ := i0 rfl
              subst q1 q2
              rw [if_pos (by decide), if_neg (by decide), if_neg (by decide), ok_some]
              refine Or.inl ⟨_, rfl, hy.1, rfl, fun q => absurd q (Nat.succ_ne_zero 0), fun i q => ?_⟩
              have : i = 0 := by omega
              subst this
              exact ⟨rfl, rfl⟩
            · obtain ⟨i, rfl⟩ : ∃ i, j = i + 1 := ⟨j - 1, by omega⟩
              obtain ⟨q1, q2⟩ := i1 i rfl
              subst q1 q2
              have := bst_le (dS σ nb ng g) i
              have hneg : ¬ nI (bst (dS σ nb ng g) i).1 < 0 := i_nlt.mpr (by rw [nI_toInt (by omega)]; show (0 : Int) ≤ _; omega)
              rw [if_neg hneg]
              by_cases c : dS σ nb ng g (i + 1) ≤ (bst (dS σ nb ng g) i).2
              · rw [if_pos c, if_pos trivial, if_pos trivial, ok_some]
                refine Or.inl ⟨_, rfl, hy.1, rfl, fun q => absurd q (Nat.succ_ne_zero _), fun i' q => ?_⟩
                have : i' = i + 1 := by omega
                subst this
                rw [show bst (dS σ nb ng g) (i + 1) = bst (dS σ nb ng g) i from if_pos c]
                exact ⟨rfl, rfl⟩
              · rw [if_neg c, if_neg (by decide), if_neg (by decide), ok_some]
                refine Or.inl ⟨_, rfl, hy.1, rfl, fun q => absurd q (Nat.succ_ne_zero _), fun i' q => ?_⟩
                have : i' = i + 1 := by omega
                subst this
                rw [show bst (dS σ nb ng g) (i + 1) = (i + 1, dS σ nb ng g (i + 1)) from if_neg c]
                exact ⟨rfl, rfl⟩
          · rintro ⟨ρ, x1, x2, x3⟩ ⟨hfr, e3, i0, i1⟩
            dsimp only at hfr e3 i0 i1 ⊢
            subst e3
            have ey2 : ρ.1 39 0 = nI yn := (hfr 39 0 (by unfold Scr; omega)).trans ey
            unfold f_X8_best_l32
            rw [ey2, if_pos (nI_le (Nat.le_refl yn) (by omega)), ok_some]
            exact ⟨_, rfl, hfr, i1 (yn - 1) (by omega)⟩
        refine ok_mono key (fun y hy => ?_)
        rw [sif, ok_some]
        refine ⟨fun k j q => (hy.1 k j q).trans (hf k j q).symm, ?_⟩
        show (if w = 0 then y.2.1 else y.2.2.1) = _
        rw [hy.2.1, hy.2.2]
      · rw [if_neg c3, if_neg c3, ok_some]; exact ⟨Fr.rf, rfl⟩
    · rw [if_neg c1, if_neg c1, ok_some]; exact ⟨Fr.rf, rfl⟩
theorem c_cell26 {σ : Sto} {k j n : Nat} (h : σ.1 26 2 = nI n) (hn : n ≤ 30) (hk : k < n) (hj : j < 4) : f_X4_cell_26 σ (nI k) (nI j) = some (σ, σ.1 27 (4 * k + j)) := by
  unfold f_X4_cell_26 f_X4_cell_26_j35
  have hp : ∀ m, m < 2 ^ 31 → ¬ nI m < 0 := fun m hm => i_nlt.mpr (by rw [nI_toInt hm]; show (0 : Int) ≤ _; omega)
  have e4 : (4 : Int32) = nI 4 := rfl
  rw [if_neg (hp k (by omega)), h, if_neg (nI_ge hk (by omega)), if_neg (hp j (by omega)), e4, if_pos (nI_lt hj (by omega)), pk_mul, nI_add, inB_n (by omega) (by omega), gd_true, nI_clamp (by omega)]
theorem c_cell24 {σ : Sto} {k j n : Nat} (h : σ.1 24 2 = nI n) (hn : n ≤ 10) (hk : k < n) (hj : j < 4) : f_X4_cell_24 σ (nI k) (nI j) = some (σ, σ.1 25 (4 * k + j)) := by
  unfold f_X4_cell_24 f_X4_cell_24_j35
  have hp : ∀ m, m < 2 ^ 31 → ¬ nI m < 0 := fun m hm => i_nlt.mpr (by rw [nI_toInt hm]; show (0 : Int) ≤ _; omega)
  have e4 : (4 : Int32) = nI 4 := rfl
  rw [if_neg (hp k (by omega)), h, if_neg (nI_ge hk (by omega)), if_neg (hp j (by omega)), e4, if_pos (nI_lt hj (by omega)), pk_mul, nI_add, inB_n (by omega) (by omega), gd_true, nI_clamp (by omega)]
theorem s_judge : CallR f_X7_judge f_X8_judge := by
  intro N σ hN hR
  obtain ⟨nb, ns, ng, nh, h⟩ := hR
  have hng : ng ≤ 6 := h.1.1.2.2.1
  have hnb : nb ≤ 4 := h.1.1.1
  obtain ⟨b0, nk, hnk, b1, b2, b3⟩ := h.2.2.2.2.1
  obtain ⟨K, hK, k1, k2⟩ := first_no (fun k => alM σ ng (lonM σ (σ.1 27 (4 * k)) (σ.1 39 13)) (σ.1 27 (4 * k + 1)).toNatClampNeg = σ.1 27 (4 * k + 2)) nk
  refine stp_look h (v := if K = nk then -1 else nI K) ?_ (fun τ hf => ?_)
  · unfold f_X7_judge
    rw [ok_bs, ok_bR1]
    -- a step of it
    have step : ∀ ρ, Fr Scr σ ρ → ∀ i, i < nk → Ok (f_X7_judge_l2 ρ (nI i)) (fun y => ∃ ρ2, Fr Scr σ ρ2 ∧ y = if alM σ ng (lonM σ (σ.1 27 (4 * i)) (σ.1 39 13)) (σ.1 27 (4 * i + 1)).toNatClampNeg = σ.1 27 (4 * i + 2) then .inl (ρ2, nI (i + 1)) else .inr (.inl (ρ2, nI i))) := by
      intro ρ hfr i hi
      obtain ⟨hP, hS, -⟩ := h.fr hfr
      have r27 : ρ.1 27 = σ.1 27 := vw_row hfr (by omega)
      have e26 : ρ.1 26 2 = nI nk := (hfr 26 2 (by unfold Scr; omega)).trans b1
      have c0 : f_X4_cell_26 ρ (nI i) (0 : Int32) = _ := c_cell26 (j := 0) e26 hnk hi (by omega)
      obtain ⟨⟨m1, m2⟩, m3⟩ := b3 i hi
      obtain ⟨g, hg, eg⟩ := inB_ex m2 (by omega)
      unfold f_X7_judge_l2
      rw [e26, if_neg (nI_ge hi (by omega)), c0, bd2_eq, r27, ok_bd1]
      refine ok_mono (c_showAt hP hS (b := σ.1 27 (4 * i + 0)) m1 hS.2.2.2.2.2) (fun ρ2 hw => ?_)
      rw [hS.2.2.1.2.1] at hw
      have hw : SW ρ ρ2 ns ng (lonM ρ (σ.1 27 (4 * i)) (ρ.1 39 13)) := hw
      have hfr2 : Fr Scr σ ρ2 := hfr.tr hw.scr
      have r27b : ρ2.1 27 = σ.1 27 := vw_row hfr2 (by omega)
      have e26b : ρ2.1 26 2 = nI nk := (hfr2 26 2 (by unfold Scr; omega)).trans b1
      have c1 : f_X4_cell_26 ρ2 (nI i) (1 : Int32) = _ := c_cell26 (j := 1) e26b hnk hi (by omega)
      have c2 : f_X4_cell_26 ρ2 (nI i) (2 : Int32) = _ := c_cell26 (j := 2) e26b hnk hi (by omega)
      rw [c1, bd2_eq, r27b, eg, c_almsN (show ng ≤ 7 by omega) hw.2.1.1 hg, bd2_eq, c2, bd2_eq, r27b, nI_clamp (by omega), (hw.2.2.1 g hg).2.2, (hw.2.2.1 g hg).1.2, vw_gf hfr, vw_co hfr, vw_lon hfr, hfr 39 13 (by unfold Scr; omega)]
      by_cases c : gfM σ ng (lonM σ (σ.1 27 (4 * i)) (σ.1 39 13)) g - coM σ g = σ.1 27 (4 * i + 2)
      · rw [if_pos c, ok_bs, nI_1, ok_some]
        exact ⟨ρ2, hfr2, (if_pos c).symm⟩
      · rw [if_neg c, ok_some]
        exact ⟨ρ2, hfr2, (if_neg c).symm⟩
    refine lp_for (fun i t => Fr Scr σ t.1 ∧ t.2 = nI i) K (FU_big (by omega)) ⟨Fr.rf, rfl⟩ ?_ ?_
    · rintro i ⟨ρ, x⟩ hi ⟨hfr, e⟩
      dsimp only at hfr e ⊢
      subst e
      refine ok_mono (step ρ hfr i (by omega)) (fun y hy => ?_)
      obtain ⟨ρ2, hf2, e⟩ := hy
      rw [if_pos (k1 i hi)] at e
      exact Or.inl ⟨_, e, hf2, rfl⟩
    · rintro ⟨ρ, x⟩ ⟨hfr, e⟩
      dsimp only at hfr e ⊢
      subst e
      by_cases c : K = nk
      · subst c
        have e26 : ρ.1 26 2 = nI K := (hfr 26 2 (by unfold Scr; omega)).trans b1
        unfold f_X7_judge_l2
        rw [e26, if_pos (nI_le (Nat.le_refl K) (by omega)), ok_some]
        refine ⟨_, rfl, fun u q => (by cases q), fun z q => ?_⟩
        cases q
        rw [if_pos rfl]
        exact ok_some.mpr ⟨hfr, rfl⟩
      · refine ok_mono (step ρ hfr K (by omega)) (fun y hy => ?_)
        obtain ⟨ρ2, hf2, e⟩ := hy
        rw [if_neg (k2.resolve_left c)] at e
        refine ⟨_, e, fun u q => ?_, fun z q => (by cases q)⟩
        cases q
        rw [if_neg c]
        exact ok_some.mpr ⟨hf2, rfl⟩
  · unfold f_X8_judge
    rw [ok_bs, ok_bR1]
    have step : ∀ ρ, Fr Scr σ ρ → ∀ i, i < nk → Ok (f_X8_judge_l2 ρ (nI i)) (fun y => ∃ ρ2, Fr Scr σ ρ2 ∧ y = if alM σ ng (lonM σ (σ.1 27 (4 * i)) (σ.1 39 13)) (σ.1 27 (4 * i + 1)).toNatClampNeg = σ.1 27 (4 * i + 2) then .inl (ρ2, nI (i + 1)) else .inr (.inl (ρ2, nI i))) := by
      intro ρ hfr i hi
      obtain ⟨hP, hS, -⟩ := h.fr hfr
      have e52 : ρ.1 39 52 = nI nk := (hfr 39 52 (by unfold Scr; omega)).trans b2
      obtain ⟨⟨m1, m2⟩, m3, m4, m5⟩ := b3 i hi
      obtain ⟨g, hg, eg⟩ := inB_ex m2 (by omega)
      have r68 : ρ.1 68 i = σ.1 27 (4 * i) := (hfr 68 i (by unfold Scr; omega)).trans m3
      obtain ⟨ρ2, e, hf2, h61, hok, e8, eco⟩ := m_found hP hS (lonM ρ (σ.1 27 (4 * i)) (ρ.1 39 13))
      have hfr2 : Fr Scr σ ρ2 := hfr.tr hf2
      have r69 : ρ2.1 69 i = nI g := ((hfr2 69 i (by unfold Scr; omega)).trans m4).trans eg
      have r70 : ρ2.1 70 i = σ.1 27 (4 * i + 2) := (hfr2 70 i (by unfold Scr; omega)).trans m5
      unfold f_X8_judge_l2
      rw [e52, if_neg (nI_ge hi (by omega)), inB_n (show i < 30 by omega) (by omega), gd_true, nI_clamp (show i < 2 ^ 31 by omega), r68, m_now hP m1, bd2_eq, hP.2.1.2.2.1, e, bd1_eq, gd_true, r69, m_almsN hok (by omega) hg, bd2_eq, gd_true, r70, (h61 g hg).1, eco, vw_gf hfr, vw_co hfr, vw_lon hfr, hfr 39 13 (by unfold Scr; omega), eg, nI_clamp (by omega)]
      by_cases c : gfM σ ng (lonM σ (σ.1 27 (4 * i)) (σ.1 39 13)) g - coM σ g = σ.1 27 (4 * i + 2)
      · rw [if_pos c, ok_bs, nI_1, ok_some]
        exact ⟨ρ2, hfr2, (if_pos c).symm⟩
      · rw [if_neg c, ok_some]
        exact ⟨ρ2, hfr2, (if_neg c).symm⟩
    refine lp_for (fun i t => Fr Scr σ t.1 ∧ t.2 = nI i) K (FU_big (by omega)) ⟨hf, rfl⟩ ?_ ?_
    · rintro i ⟨ρ, x⟩ hi ⟨hfr, e⟩
      dsimp only at hfr e ⊢
      subst e
      refine ok_mono (step ρ hfr i (by omega)) (fun y hy => ?_)
      obtain ⟨ρ2, hf2, e⟩ := hy
      rw [if_pos (k1 i hi)] at e
      exact Or.inl ⟨_, e, hf2, rfl⟩
    · rintro ⟨ρ, x⟩ ⟨hfr, e⟩
      dsimp only at hfr e ⊢
      subst e
      have back : ∀ {ρ2 : Sto}, Fr Scr σ ρ2 → Fr Scr τ ρ2 := fun {ρ2} q k j z => (q k j z).trans (hf k j z).symm
      by_cases c : K = nk
      · subst c
        have e26 : ρ.1 39 52 = nI K := (hfr 39 52 (by unfold Scr; omega)).trans b2
        unfold f_X8_judge_l2
        rw [e26, if_pos (nI_le (Nat.le_refl K) (by omega)), ok_some]
        refine ⟨_, rfl, fun u q => (by cases q), fun z q => ?_⟩
        cases q
        rw [if_pos rfl]
        exact ok_some.mpr ⟨back hfr, rfl⟩
      · refine ok_mono (step ρ hfr K (by omega)) (fun y hy => ?_)
        obtain ⟨ρ2, hf2, e⟩ := hy
        rw [if_neg (k2.resolve_left c)] at e
        refine ⟨_, e, fun u q => ?_, fun z q => (by cases q)⟩
        cases q
        rw [if_neg c]
        exact ok_some.mpr ⟨back hf2, rfl⟩
abbrev taleOk (σ : Sto) (x : Int32) (k : Nat) : Prop := lenS (x + σ.1 42 (σ.1 25 (4 * k + 2)).toNatClampNeg) (σ.1 43 (σ.1 25 (4 * k + 2)).toNatClampNeg) (σ.1 44 (σ.1 25 (4 * k + 2)).toNatClampNeg) (σ.1 65 k) = σ.1 67 k
def talesB (σ : Sto) (x : Int32) : Nat → Bool
  | 0 => true
  | n + 1 => talesB σ x n && decide (taleOk σ x n)
theorem tales_all {σ : Sto} {x : Int32} : ∀ {n : Nat}, (∀ k, k < n → taleOk σ x k) → talesB σ x n = true := by
  intro n
  induction n with
  | zero => intro _; rfl
  | succ n ih =>
    intro h
    show (talesB σ x n && decide (taleOk σ x n)) = true
    rw [ih (fun k q => h k (by omega)), decide_eq_true (h n (by omega))]
    rfl
theorem tales_no {σ : Sto} {x : Int32} {k : Nat} (hk : ¬ taleOk σ x k) : ∀ {n : Nat}, k < n → talesB σ x n = false := by
  intro n
  induction n with
  | zero => intro q; omega
  | succ n ih =>
    intro q
    show (talesB σ x n && decide (taleOk σ x n)) = false
    by_cases e : k = n
    · subst e
      rw [decide_eq_false hk, Bool.and_false]
    · rw [ih (by omega)]
      rfl
theorem c_tales {σ : Sto} {N nb ns ng nh nt : Nat} (h : Rl σ N nb ns ng nh) (hnt : nt ≤ 10) (t1 : σ.1 24 2 = nI nt) (t3 : ∀ k, k < nt → (inB (σ.1 25 (4 * k)) nb = true ∧ rgI (σ.1 25 (4 * k + 1)) 0 999 ∧ inB (σ.1 25 (4 * k + 2)) ns = true) ∧ σ.1 65 k = lonS (σ.1 39 0) (σ.1 40 (σ.1 25 (4 * k)).toNatClampNeg) (σ.1 41 (σ.1 25 (4 * k)).toNatClampNeg) (σ.1 25 (4 * k + 1)) ∧ σ.1 66 k = σ.1 25 (4 * k + 2) ∧ σ.1 67 k = σ.1 25 (4 * k + 3)) (x : Int32) : f_X7_fitsAllTales σ x = some (σ, bB (talesB σ x nt)) := by
  have hP := h.1
  have hns : ns ≤ 6 := hP.1.2.1
  obtain ⟨K, hK, k1, k2⟩ := first_no (taleOk σ x) nt
  have step : ∀ i, i < nt → f_X7_fitsAllTales_l2 x σ (nI i) = if taleOk σ x i then some (.inl (σ, nI (i + 1))) else some (.inr (.inl (σ, 0))) := by
    intro i hi
    obtain ⟨⟨m1, m2, m3⟩, m4, m5, m6⟩ := t3 i hi
    have c0 : f_X4_cell_24 σ (nI i) (0 : Int32) = _ := c_cell24 (j := 0) t1 hnt hi (by omega)
    have c1 : f_X4_cell_24 σ (nI i) (1 : Int32) = _ := c_cell24 (j := 1) t1 hnt hi (by omega)
    have c2 : f_X4_cell_24 σ (nI i) (2 : Int32) = _ := c_cell24 (j := 2) t1 hnt hi (by omega)
    have c3 : f_X4_cell_24 σ (nI i) (3 : Int32) = _ := c_cell24 (j := 3) t1 hnt hi (by omega)
    obtain ⟨s, hs, es⟩ := inB_ex m3 (by omega)
    have lo := c_longOf hP (b := σ.1 25 (4 * i + 0)) m1 (σ.1 25 (4 * i + 1))
    have m4' : lonS (σ.1 39 0) (σ.1 40 (σ.1 25 (4 * i + 0)).toNatClampNeg) (σ.1 41 (σ.1 25 (4 * i + 0)).toNatClampNeg) (σ.1 25 (4 * i + 1)) = σ.1 65 i := m4.symm
    have eq : f_X7_fitsAllTales_l2 x σ (nI i) = if lenS (x + σ.1 42 s) (σ.1 43 s) (σ.1 44 s) (σ.1 65 i) = σ.1 67 i then some (.inl (σ, nI (i + 1))) else some (.inr (.inl (σ, 0))) := by
      unfold f_X7_fitsAllTales_l2
      rw [t1, if_neg (nI_ge hi (by omega)), c2, bd2_eq, bs_eq, es, (c_spot hP hs).1, bd2_eq, bs_eq, c0, bd2_eq, c1, bd2_eq, lo, bd2_eq, bs_eq, c_shadeOn hP hs, bd2_eq, c3, bd2_eq, ← m6, m4', bs_eq, nI_1, show zB (0 : Int32) = true by decide, gd_true]
    have et : taleOk σ x i ↔ lenS (x + σ.1 42 s) (σ.1 43 s) (σ.1 44 s) (σ.1 65 i) = σ.1 67 i := by
      unfold taleOk
      rw [es, nI_clamp (by omega)]
    by_cases c : taleOk σ x i
    · rw [if_pos c, eq, if_pos (et.mp c)]
    · rw [if_neg c, eq, if_neg (fun q => c (et.mpr q))]
  unfold f_X7_fitsAllTales
  refine ok_fun ?_
  rw [ok_bs, ok_bR1]
  refine lp_for (fun i t => t = (σ, nI i)) K (FU_big (by omega)) rfl ?_ ?_
  · rintro i t hi rfl
    dsimp only
    rw [step i (by omega), if_pos (k1 i hi), ok_some]
    exact Or.inl ⟨_, rfl, rfl⟩
  · rintro t rfl
    dsimp only
    by_cases c : K = nt
    · subst c
      unfold f_X7_fitsAllTales_l2
      rw [t1, if_pos (nI_le (Nat.le_refl K) (by omega)), ok_some]
      refine ⟨_, rfl, fun u q => (by cases q), fun z q => ?_⟩
      cases q
      rw [show zB (1 : Int32) = true by decide, gd_true, ok_some, tales_all k1]
      rfl
    · rw [step K (by omega), if_neg (k2.resolve_left c), ok_some]
      refine ⟨_, rfl, fun u q => ?_, fun z q => (by cases q)⟩
      cases q
      rw [ok_some, tales_no (k2.resolve_left c) (show K < nt by omega)]
      rfl
theorem m_tales {σ : Sto} {N nb ns ng nh nt : Nat} (h : Rl σ N nb ns ng nh) (hnt : nt ≤ 10) (t2 : σ.1 39 48 = nI nt) (t3 : ∀ k, k < nt → (inB (σ.1 25 (4 * k)) nb = true ∧ rgI (σ.1 25 (4 * k + 1)) 0 999 ∧ inB (σ.1 25 (4 * k + 2)) ns = true) ∧ σ.1 65 k = lonS (σ.1 39 0) (σ.1 40 (σ.1 25 (4 * k)).toNatClampNeg) (σ.1 41 (σ.1 25 (4 * k)).toNatClampNeg) (σ.1 25 (4 * k + 1)) ∧ σ.1 66 k = σ.1 25 (4 * k + 2) ∧ σ.1 67 k = σ.1 25 (4 * k + 3)) (x : Int32) : f_X8_isAsTold σ x = some (σ, bB (talesB σ x nt)) := by
  have hP := h.1
  have hns : ns ≤ 6 := hP.1.2.1
  unfold f_X8_isAsTold
  rw [bs_eq, bs_eq]
  have hl : lpF (fun t => f_X8_isAsTold_l4 x t.1 t.2.1 t.2.2) FU (σ, (1 : Int32), (0 : Int32)) = some (σ, bB (talesB σ x nt), nI nt) := by
    refine lp_eq (fun i => (σ, bB (talesB σ x i), nI i)) nt (FU_big (by omega)) (fun i hi => ?_) ?_
    · dsimp only
      obtain ⟨⟨m1, m2, m3⟩, m4, m5, m6⟩ := t3 i hi
      unfold f_X8_isAsTold_l4 f_X8_isAsTold_j58 f_X8_isAsTold_j59
      rw [t2, if_neg (nI_ge hi (by omega)), inB_n (show i < 10 by omega) (by omega), nI_clamp (show i < 2 ^ 31 by omega), m5, inB_up m3 hns]
      simp only [gd_true, bsN, nI_1]
      rw [m_lengthBy _ _ (inB_up m3 hns), bd2_eq]
      have hs : talesB σ x (i + 1) = (talesB σ x i && decide (taleOk σ x i)) := rfl
      cases ht : talesB σ x i with
      | false =>
        rw [hs, ht, if_pos (by decide)]
        rfl
      | true =>
        rw [hs, ht, if_neg (by decide)]
        by_cases c : taleOk σ x i
        · rw [decide_eq_true c]
          unfold taleOk at c
          rw [if_pos c]
          rfl
        · rw [decide_eq_false c]
          unfold taleOk at c
          rw [if_neg c]
          rfl
    · dsimp only
      unfold f_X8_isAsTold_l4
      rw [t2, if_pos (nI_le (Nat.le_refl nt) (by omega))]
  rw [hl, bE2_eq, zB_bB, gd_true]
def ftR (p : Nat → Bool) : Nat → Int32 × Int32 × Int32
  | 0 => (0, -1, -1)
  | n + 1 => if p (n + 1) = true then ((ftR p n).1 + 1, if (ftR p n).2.1 = -1 then nI (n + 1) else (ftR p n).2.1, nI (n + 1)) else ftR p n
theorem ftR_in (p : Nat → Bool) : ∀ n, n ≤ 110 → (ftR p n).2.1 = -1 ∨ inB (ftR p n).2.1 200 = true := by
  intro n
  induction n with
  | zero => intro _; exact Or.inl rfl
  | succ n ih =>
    intro hn
    cases hp : p (n + 1) with
    | false =>
      rw [show ftR p (n + 1) = ftR p n from if_neg (by rw [hp]; decide)]
      exact ih (by omega)
    | true =>
      rw [show ftR p (n + 1) = _ from if_pos hp]
      dsimp only
      by_cases c : (ftR p n).2.1 = -1
      · rw [if_pos c]; exact Or.inr (inB_n (by omega) (by omega))
      · rw [if_neg c]; exact ih (by omega)
theorem s_fits (w : Int32) : CallR (fun σ => f_X7_fits σ w) (fun σ => f_X8_fits σ w) := by
  intro N σ hN hR
  obtain ⟨nb, ns, ng, nh, h⟩ := id hR
  obtain ⟨t0, nt, hnt, t1, t2, t3⟩ := h.2.2.2.1
  have e110 : (110 : Int32) = nI 110 := rfl
  have nlt : ∀ i, i < 110 → ¬ (110 : Int32) < nI (i + 1) := fun i hi q => by
    have := i_lt.mp q
    rw [nI_toInt (by omega)] at this
    have z : (110 : Int32).toInt = 110 := rfl
    omega
  have l7 : lpF (fun t => f_X7_fits_l22 w t.1 t.2.1 t.2.2.1 t.2.2.2.1 t.2.2.2.2) FU (σ, (0 : Int32), (-1 : Int32), (-1 : Int32), (1 : Int32)) = some (σ, (ftR (fun x => talesB σ (nI x) nt) 110).1, (ftR (fun x => talesB σ (nI x) nt) 110).2.1, (ftR (fun x => talesB σ (nI x) nt) 110).2.2, nI 111) := by
    refine lp_eq (fun i => (σ, (ftR (fun x => talesB σ (nI x) nt) i).1, (ftR (fun x => talesB σ (nI x) nt) i).2.1, (ftR (fun x => talesB σ (nI x) nt) i).2.2, nI (i + 1))) 110 (FU_big (by omega)) (fun i hi => ?_) ?_
    · dsimp only
      unfold f_X7_fits_l22 f_X7_fits_j57 f_X7_fits_j52 f_X7_fits_j57
      rw [if_neg (nlt i hi), c_tales h hnt t1 t3, bd2_eq]
      simp only [bsN, nI_1]
      cases hp : talesB σ (nI (i + 1)) nt with
      | false =>
        rw [if_pos (by decide), show ftR (fun x => talesB σ (nI x) nt) (i + 1) = ftR (fun x => talesB σ (nI x) nt) i from if_neg (by dsimp only; rw [hp]; decide)]
      | true =>
        rw [if_neg (by decide), show ftR (fun x => talesB σ (nI x) nt) (i + 1) = _ from if_pos hp]
        dsimp only
        by_cases c : (ftR (fun x => talesB σ (nI x) nt) i).2.1 = -1
        · rw [if_pos c, if_pos c]
        · rw [if_neg c, if_neg c]
    · rfl
  have l8 : lpF (fun t => f_X8_fits_l25 w t.1 t.2.1 t.2.2.1 t.2.2.2.1 t.2.2.2.2) FU (σ, (0 : Int32), (-1 : Int32), (-1 : Int32), (1 : Int32)) = some (σ, (ftR (fun x => talesB σ (nI x) nt) 110).1, (ftR (fun x => talesB σ (nI x) nt) 110).2.1, (ftR (fun x => talesB σ (nI x) nt) 110).2.2, nI 111) := by
    refine lp_eq (fun i => (σ, (ftR (fun x => talesB σ (nI x) nt) i).1, (ftR (fun x => talesB σ (nI x) nt) i).2.1, (ftR (fun x => talesB σ (nI x) nt) i).2.2, nI (i + 1))) 110 (FU_big (by omega)) (fun i hi => ?_) ?_
    · dsimp only
      unfold f_X8_fits_l25 f_X8_fits_j59 f_X8_fits_j54 f_X8_fits_j59
      rw [if_neg (nlt i hi), m_tales h hnt t2 t3, bd2_eq]
      simp only [bsN, nI_1]
      cases hp : talesB σ (nI (i + 1)) nt with
      | false =>
        rw [if_pos (by decide), show ftR (fun x => talesB σ (nI x) nt) (i + 1) = ftR (fun x => talesB σ (nI x) nt) i from if_neg (by dsimp only; rw [hp]; decide)]
      | true =>
        rw [if_neg (by decide), show ftR (fun x => talesB σ (nI x) nt) (i + 1) = _ from if_pos hp]
        dsimp only
        rcases ftR_in (fun x => talesB σ (nI x) nt) i (by omega) with c | c
        · rw [if_neg (m1_nle c), if_pos c]
        · rw [if_pos (inB_0le c), if_neg (inB_ne c)]
    · rfl
  refine stp_eq (f7 := fun σ => f_X7_fits σ w) (f8 := fun σ => f_X8_fits σ w) hR (v := if rgB w 0 2 = true then (if w = 0 then (ftR (fun x => talesB σ (nI x) nt) 110).1 else if w = 1 then (ftR (fun x => talesB σ (nI x) nt) 110).2.1 else (ftR (fun x => talesB σ (nI x) nt) 110).2.2) else -1000000002) ?_ ?_
  · unfold f_X7_fits f_X7_fits_j9 f_X7_fits_j80
    rw [rg_if]
    show (if rgB w 0 2 = true then _ else _) = _
    by_cases c : rgB w 0 2 = true
    · rw [if_pos c, if_pos c, bs_eq, bs_eq, bs_eq, bs_eq, l7]
      show (if w = 0 then _ else if w = 1 then _ else _) = _
      rw [sif, sif]
    · rw [if_neg c, if_neg c]
  · unfold f_X8_fits f_X8_fits_j84
    rw [m_inI σ w _ _ (li := 0) (hi := 2) (by decide) (by decide), bd2_eq, bB_if]
    by_cases c : rgB w 0 2 = true
    · rw [if_pos c, if_pos c, bs_eq, bs_eq, bs_eq, bs_eq, l8]
      show (if w = 0 then _ else if w = 1 then _ else _) = _
      rw [sif, sif]
    · rw [if_neg c, if_neg c]
