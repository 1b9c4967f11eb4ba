/-! calls that look: spot, beggar, hat, shadow; calls that change little: law, day, seed, tear -/
section VIEW
variable {σ τ : Sto} {nb ns ng nh : Nat} {D : Int}
theorem vw_row (hf : Fr Scr σ τ) {k : Nat} (h : (k ≤ 3 ∨ k = 5 ∨ (10 ≤ k ∧ k ≤ 27) ∨ (40 ≤ k ∧ k ≤ 51) ∨ 65 ≤ k)) : τ.1 k = σ.1 k := hf.row (fun j => by unfold Scr; omega)
theorem vw_hg (hf : Fr Scr σ τ) : hgM τ = hgM σ := by
  unfold hgM
  rw [vw_row hf (k := 45) (by omega), vw_row hf (k := 46) (by omega), vw_row hf (k := 49) (by omega)]
theorem vw_co (hf : Fr Scr σ τ) : coM τ = coM σ := by
  unfold coM
  rw [vw_row hf (k := 47) (by omega), vw_row hf (k := 49) (by omega)]
theorem vw_sh (hf : Fr Scr σ τ) (n : Nat) (lg : Int32) : shM τ n lg = shM σ n lg := by
  unfold shM
  rw [vw_hg hf, vw_row hf (k := 42) (by omega), vw_row hf (k := 43) (by omega), vw_row hf (k := 44) (by omega), vw_row hf (k := 48) (by omega)]
theorem vw_gf (hf : Fr Scr σ τ) (n : Nat) (lg : Int32) : gfM τ n lg = gfM σ n lg := by
  unfold gfM
  rw [vw_sh hf, vw_row hf (k := 48) (by omega), hf 39 18 (by unfold Scr; omega)]
/-- how long at a bell on a day -/
def lonM (σ : Sto) (b d : Int32) : Int32 := lonS (σ.1 39 0) (σ.1 40 b.toNatClampNeg) (σ.1 41 b.toNatClampNeg) d
theorem vw_lon (hf : Fr Scr σ τ) (b d : Int32) : lonM τ b d = lonM σ b d := by
  unfold lonM
  rw [vw_row hf (k := 40) (by omega), vw_row hf (k := 41) (by omega), hf 39 0 (by unfold Scr; omega)]
theorem m_now (h : PL σ nb ns ng nh) {b : Int32} (hb : inB b nb = true) : f_X8_longNow σ b = some (σ, lonM σ b (σ.1 39 13)) := h.long hb
theorem m_find (h : PL σ nb ns ng nh) (hs : SN σ ns ng nh D) (lg : Int32) : f_X8_findAlms σ (nI ng) lg = some (sc (sc σ 60 (fillN (shM σ ng lg) (σ.1 60) ng)) 61 (fillN (gfM σ ng lg) (σ.1 61) ng)) := m_findAlms lg (SN.okv h hs) (by have := h.1.2.2.1; omega)
theorem fr_find {f g : Nat → Int32} : Fr Scr σ (sc (sc σ 60 f) 61 g) := (Fr.rf.sc (fun j => by unfold Scr; omega)).sc (fun j => by unfold Scr; omega)
theorem SW.scr {lg : Int32} (h : SW σ τ ns ng lg) : Fr Scr σ τ := h.1.mono (fun k j q => by unfold Scr; omega)
end VIEW
theorem s_spot (a w : Int32) : CallR (fun σ => f_X7_spot σ a w) (fun σ => f_X8_spot σ a w) := by
  intro N σ hN hR
  obtain ⟨nb, ns, ng, nh, h⟩ := hR
  obtain ⟨hP, hS, hT, hA, hB, hI⟩ := id h
  have hns : ns ≤ 6 := hP.1.2.1
  refine stp_eq (f7 := fun σ => f_X7_spot σ a w) (f8 := fun σ => f_X8_spot σ a w) ⟨nb, ns, ng, nh, h⟩ (v := if inB a ns = true then (if w = 0 then σ.1 42 a.toNatClampNeg else if w = 1 then σ.1 43 a.toNatClampNeg else if w = 2 then σ.1 44 a.toNatClampNeg else if w = 3 then whoN (σ.1 48) a ng else -1000000002) else -1000000001) ?_ ?_
  · unfold f_X7_spot f_X7_spot_j24 f_X7_spot_j53
    rw [(c_hasK hP a).2.1, bd2_eq, bB_if]
    by_cases c : inB a ns = true
    · rw [if_pos c, if_pos c]
      obtain ⟨s, hs, rfl⟩ := inB_ex c (by omega)
      rw [nI_clamp (by omega)]
      obtain ⟨n0, n1, n2⟩ := c_spot hP hs
      by_cases c0 : w = 0
      · subst c0
        rw [if_neg (by decide), if_pos (by decide), if_neg (by decide), n0, if_pos rfl]; rfl
      · rw [if_neg c0]
        by_cases c1 : w = 1
        · subst c1
          rw [if_neg (by decide), if_pos (by decide), if_neg (by decide), n1, if_pos rfl]; rfl
        · rw [if_neg c1]
          by_cases c2 : w = 2
          · subst c2
            rw [if_neg (by decide), if_pos (by decide), if_neg (by decide), n2, if_pos rfl]; rfl
          · rw [if_neg c2]
            by_cases c3 : w = 3
            · subst c3
              rw [if_neg (by decide), if_pos (by decide), if_pos rfl, if_pos rfl, c_whoEq hP hS (inB_iff.mp c).1, bd2_eq]
            · rw [rg_if, if_neg ?_, if_neg c3]
              intro q
              have q := rgB_iff.mp q
              obtain ⟨q1, q2⟩ := q
              have z0 : (0 : Int32).toInt = 0 := rfl
              have z1 : (1 : Int32).toInt = 1 := rfl
              have z2 : (2 : Int32).toInt = 2 := rfl
              have z3 : (3 : Int32).toInt = 3 := rfl
              have e0 : ¬ w.toInt = (0 : Int32).toInt := fun e => c0 (i_eq.mpr e)
              have e1 : ¬ w.toInt = (1 : Int32).toInt := fun e => c1 (i_eq.mpr e)
              have e2 : ¬ w.toInt = (2 : Int32).toInt := fun e => c2 (i_eq.mpr e)
              have e3 : ¬ w.toInt = (3 : Int32).toInt := fun e => c3 (i_eq.mpr e)
              omega
    · rw [if_neg c, if_neg c]
  · unfold f_X8_spot f_X8_spot_j71
    rw [m_isSpot hP.2.1.2.1 (by omega), bd2_eq, bB_if]
    by_cases c : inB a ns = true
    · rw [if_pos c, if_pos c, inB_up c hns, hP.2.1.2.2.1, m_whoIsOn σ a (by have := hP.1.2.2.1; omega), bd2_eq]
      simp only [gd_true, sif]
    · rw [if_neg c, if_neg c]
theorem c_tallOf {σ : Sto} {nb ns ng nh : Nat} {D : Int} (h : PL σ nb ns ng nh) (hs : SN σ ns ng nh D) {g : Nat} (hg : g < ng) : f_X7_tallOf σ (nI g) = some (σ, hgM σ g + adS (σ.1 42) (σ.1 48 g)) := by
  have hng : ng ≤ 6 := h.1.2.2.1
  have hns : ns ≤ 6 := h.1.2.1
  have hnh : nh ≤ 4 := h.1.2.2.2
  have eg : (nI g).toNatClampNeg = g := nI_clamp (by omega)
  have e49 : ∀ x, f_X7_tallOf_j49 σ x (σ.1 48 g) = some (σ, x + adS (σ.1 42) (σ.1 48 g)) := by
    intro x
    unfold f_X7_tallOf_j49 f_X7_tallOf_j69
    rcases (hs.1.2.1 g hg).2 with q | q
    · rw [if_pos q]
      unfold adS
      rw [if_neg (m1_nle q), Int32.add_zero]
    · obtain ⟨s, hs1, es⟩ := inB_ex q (by omega)
      rw [if_neg (inB_ne q)]
      unfold adS
      rw [if_pos (inB_0le q), es, (c_spot h hs1).1, bd2_eq, bs_eq, nI_clamp (by omega)]
  unfold f_X7_tallOf
  rw [c_beg h hg, bd2_eq, bs_eq, c_hatEq h hs hg, bd2_eq, bs_eq, inB_n (show g < 6 by omega) (by omega), gd_true, bs_eq, eg, (hs.1.2.1 g hg).1, e49]
  rcases hs.2.1.2.2.1 g hg with q | q
  · rw [if_pos q]
    unfold hgM
    have : adS (σ.1 46) (σ.1 49 g) = 0 := by
      unfold adS
      rw [if_neg (m1_nle q)]
    rw [this, Int32.add_zero]
  · obtain ⟨i, hi, ei⟩ := inB_ex q (by omega)
    rw [if_neg (inB_ne q)]
    have e : adS (σ.1 46) (σ.1 49 g) = σ.1 46 i := by
      unfold adS
      rw [if_pos (inB_0le q), ei, nI_clamp (by omega)]
    unfold hgM
    rw [e, ei, (c_hatn h hi).1, bd2_eq, bs_eq, e49]
theorem s_beggar (a w : Int32) : CallR (fun σ => f_X7_beggar σ a w) (fun σ => f_X8_beggar σ a w) := by
  intro N σ hN hR
  obtain ⟨nb, ns, ng, nh, h⟩ := hR
  obtain ⟨hP, hS, hT, hA, hB, hI⟩ := id h
  have hng : ng ≤ 6 := hP.1.2.2.1
  refine stp_eq (f7 := fun σ => f_X7_beggar σ a w) (f8 := fun σ => f_X8_beggar σ a w) ⟨nb, ns, ng, nh, h⟩ (v := if inB a ng = true then (if w = 0 then σ.1 45 a.toNatClampNeg else if w = 1 then σ.1 48 a.toNatClampNeg else if w = 2 then σ.1 49 a.toNatClampNeg else if w = 3 then hgM σ a.toNatClampNeg + adS (σ.1 42) (σ.1 48 a.toNatClampNeg) else if w = 4 then σ.1 50 a.toNatClampNeg else -1000000002) else -1000000001) ?_ ?_
  · unfold f_X7_beggar
    rw [(c_hasK hP a).2.2.1, bd2_eq, bB_if]
    by_cases c : inB a ng = true
    · rw [if_pos c, if_pos c, inB_up c hng]
      obtain ⟨g, hg, rfl⟩ := inB_ex c (by omega)
      rw [nI_clamp (by omega), c_beg hP hg, c_hatEq hP hS hg, c_tallOf hP hS hg, (hS.1.2.1 g hg).1, hS.2.2.1.1 g hg]
      simp only [gd_true, bd2_eq, sif]
    · rw [if_neg c, if_neg c]
  · unfold f_X8_beggar
    rw [m_isBeggar hP.2.1.2.2.1 (by omega), bd2_eq, bB_if]
    by_cases c : inB a ng = true
    · rw [if_pos c, if_pos c]
      obtain ⟨g, hg, rfl⟩ := inB_ex c (by omega)
      rw [nI_clamp (by omega), inB_n (show g < 7 by omega) (by omega), inB_n (show g < 6 by omega) (by omega), m_tallN (SN.okv hP hS) (by omega) hg]
      simp only [gd_true, bd2_eq, sif]
    · rw [if_neg c, if_neg c]
theorem s_hat (a w : Int32) : CallR (fun σ => f_X7_hat σ a w) (fun σ => f_X8_hat σ a w) := by
  intro N σ hN hR
  obtain ⟨nb, ns, ng, nh, h⟩ := hR
  obtain ⟨hP, hS, hT, hA, hB, hI⟩ := id h
  have hnh : nh ≤ 4 := hP.1.2.2.2
  refine stp_eq (f7 := fun σ => f_X7_hat σ a w) (f8 := fun σ => f_X8_hat σ a w) ⟨nb, ns, ng, nh, h⟩ (v := if inB a nh = true then (if w = 0 then σ.1 46 a.toNatClampNeg else if w = 1 then σ.1 47 a.toNatClampNeg else if w = 2 then σ.1 12 a.toNatClampNeg else -1000000002) else -1000000001) ?_ ?_
  · unfold f_X7_hat f_X7_hat_j24 f_X7_hat_j54
    rw [(c_hasK hP a).2.2.2, bd2_eq, bB_if]
    by_cases c : inB a nh = true
    · rw [if_pos c, if_pos c, inB_up c hnh, gd_true]
      obtain ⟨i, hi, rfl⟩ := inB_ex c (by omega)
      rw [nI_clamp (by omega)]
      obtain ⟨n0, n1⟩ := c_hatn hP hi
      by_cases c0 : w = 0
      · subst c0
        rw [if_neg (by decide), if_pos (by decide), if_neg (by decide), n0, if_pos rfl]; rfl
      · rw [if_neg c0]
        by_cases c1 : w = 1
        · subst c1
          rw [if_neg (by decide), if_pos (by decide), if_neg (by decide), n1, if_pos rfl]; rfl
        · rw [if_neg c1]
          by_cases c2 : w = 2
          · subst c2
            rw [if_neg (by decide), if_pos (by decide), if_pos rfl, if_pos rfl]
          · rw [rg_if, if_neg ?_, if_neg c2]
            intro q
            obtain ⟨q1, q2⟩ := rgB_iff.mp q
            have z0 : (0 : Int32).toInt = 0 := rfl
            have z1 : (1 : Int32).toInt = 1 := rfl
            have z2 : (2 : Int32).toInt = 2 := rfl
            have e0 : ¬ w.toInt = (0 : Int32).toInt := fun e => c0 (i_eq.mpr e)
            have e1 : ¬ w.toInt = (1 : Int32).toInt := fun e => c1 (i_eq.mpr e)
            have e2 : ¬ w.toInt = (2 : Int32).toInt := fun e => c2 (i_eq.mpr e)
            omega
    · rw [if_neg c, if_neg c]
  · unfold f_X8_hat f_X8_hat_j53
    rw [m_isHat hP.2.1.2.2.2 (by omega), bd2_eq, bB_if]
    by_cases c : inB a nh = true
    · rw [if_pos c, if_pos c, inB_up c hnh]
      obtain ⟨i, hi, rfl⟩ := inB_ex c (by omega)
      rw [m_wearer hP hS hi, nI_clamp (by omega), bd2_eq]
      simp only [gd_true, sif]
    · rw [if_neg c, if_neg c]
/-- shadow, alms of one at a bell -/
theorem s_shadow (b a w : Int32) : CallR (fun σ => f_X7_shadow σ b a w) (fun σ => f_X8_shadow σ b a w) := by
  intro N σ hN hR
  obtain ⟨nb, ns, ng, nh, h⟩ := hR
  have hng : ng ≤ 6 := h.1.1.2.2.1
  refine stp_look (f7 := fun σ => f_X7_shadow σ b a w) (f8 := fun σ => f_X8_shadow σ b a w) h (v := if inB b nb = true then (if inB a ng = true then (if rgB w 0 1 = true then (if w = 0 then shM σ ng (lonM σ b (σ.1 39 13)) a.toNatClampNeg else gfM σ ng (lonM σ b (σ.1 39 13)) a.toNatClampNeg - coM σ a.toNatClampNeg) else -1000000002) else -1000000001) else -1000000001) ?_ (fun τ hf => ?_)
  · obtain ⟨hP, hS, -⟩ := h
    unfold f_X7_shadow f_X7_shadow_j24 f_X7_shadow_j36 f_X7_shadow_j75
    rw [(c_hasK hP b).1, bd2_eq, bB_if, (c_hasK hP a).2.2.1, bd2_eq, bB_if, rg_if]
    by_cases c1 : inB b nb = true
    · rw [if_pos c1, if_pos c1]
      by_cases c2 : inB a ng = true
      · rw [if_pos c2, if_pos c2]
        show Ok (if rgB w 0 1 = true then _ else _) _
        by_cases c3 : rgB w 0 1 = true
        · rw [if_pos c3, if_pos c3, ok_bd1]
          obtain ⟨g, hg, rfl⟩ := inB_ex c2 (by omega)
          refine ok_mono (c_showAt hP hS c1 hS.2.2.2.2.2) (fun τ hw => ?_)
          rw [hS.2.2.1.2.1] at hw
          have hw : SW σ τ ns ng (lonM σ b (σ.1 39 13)) := hw
          have eg := hw.2.2.1 g hg
          rw [inB_n (show g < 7 by omega) (by omega), gd_true, nI_clamp (by omega)]
          rw [c_almsN (show ng ≤ 7 by omega) hw.2.1.1 hg, bd2_eq, sif, ok_some]
          refine ⟨hw.scr, ?_⟩
          rw [eg.2.1, eg.2.2, eg.1.2]
        · rw [if_neg c3, if_neg c3, ok_some]; exact ⟨Fr.rf, rfl⟩
      · rw [if_neg c2, if_neg c2, ok_some]; exact ⟨Fr.rf, rfl⟩
    · rw [if_neg c1, if_neg c1, ok_some]; exact ⟨Fr.rf, rfl⟩
  · have hl := vw_lon hf b (σ.1 39 13)
    have e13 : τ.1 39 13 = σ.1 39 13 := hf 39 13 (by unfold Scr; omega)
    obtain ⟨hP, hS, -⟩ := h.fr hf
    rw [← vw_sh hf, ← vw_gf hf, ← vw_co hf, ← hl, ← e13]
    unfold f_X8_shadow f_X8_shadow_j16 f_X8_shadow_j63
    rw [m_isBell hP.2.1.1 (by have := hP.1.1; omega), bd2_eq, bB_if, m_isBeggar hP.2.1.2.2.1 (by omega), bd2_eq, bB_if, m_inI τ w _ _ (li := 0) (hi := 1) (by decide) (by decide), bd2_eq, bB_if]
    by_cases c1 : inB b nb = true
    · rw [if_pos c1, if_pos c1]
      by_cases c2 : inB a ng = true
      · rw [if_pos c2, if_pos c2]
        by_cases c3 : rgB w 0 1 = true
        · rw [if_pos c3, if_pos c3, m_now hP c1, bd2_eq, hP.2.1.2.2.1, m_find hP hS, bd1_eq]
          obtain ⟨g, hg, rfl⟩ := inB_ex c2 (by omega)
          generalize hT : sc (sc τ 60 (fillN (shM τ ng (lonM τ b (τ.1 39 13))) (τ.1 60) ng)) 61 (fillN (gfM τ ng (lonM τ b (τ.1 39 13))) (τ.1 61) ng) = T
          have hfT : Fr Scr τ T := by rw [← hT]; exact fr_find
          have t60 : T.1 60 g = shM τ ng (lonM τ b (τ.1 39 13)) g := by rw [← hT]; exact fillN_in hg
          have t61 : T.1 61 g = gfM τ ng (lonM τ b (τ.1 39 13)) g := by rw [← hT]; exact fillN_in hg
          obtain ⟨hPT, hST, -⟩ := (h.fr hf).fr hfT
          rw [inB_n (show g < 7 by omega) (by omega), gd_true, m_almsN (SN.okv hPT hST) (by omega) hg, bd2_eq, nI_clamp (by omega), sif, ok_some, vw_co hfT]
          refine ⟨hfT, ?_⟩
          rw [t60, t61]
        · rw [if_neg c3, if_neg c3, ok_some]; exact ⟨Fr.rf, rfl⟩
      · rw [if_neg c2, if_neg c2, ok_some]; exact ⟨Fr.rf, rfl⟩
    · rw [if_neg c1, if_neg c1, ok_some]; exact ⟨Fr.rf, rfl⟩
