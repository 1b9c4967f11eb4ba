/-! standing: one code, all codes, the call -/
theorem MI.k39 {σ Y : Sto} {ng : Nat} (h : MI σ Y ng) {j : Nat} (hj : j ≤ 22 ∨ (42 ≤ j ∧ j ≤ 46) ∨ 48 ≤ j) : Y.1 39 j = σ.1 39 j := h.1 39 j (by unfold Scr; omega)
theorem MI.row {σ Y : Sto} {ng : Nat} (h : MI σ Y ng) {k : Nat} (hk : (40 ≤ k ∧ k ≤ 47) ∨ k = 49 ∨ k = 50) : Y.1 k = σ.1 k := funext (fun j => h.1 k j (by unfold Scr; omega))
theorem m_tryOne {σ Y : Sto} {N nb ns ng nh m c T : Nat} {b x : Int32} {a : Option (Int32 × Nat)} (h : Rl σ N nb ns ng nh) (hb : inB b nb = true) (hx : x = -1 ∨ inB x ng = true) (hm : m ≤ 6) (hT : T < 2 ^ 31) (hc : c < T) (hY : MI σ Y ng) (hA : AccM Y ng ns a) (hin : InA (okB ng ns m) (vlC σ ng ns (lonM σ b (σ.1 39 13)) x) a) : Ok (f_X8_findStanding_l63 b x (nI T) (nI m) Y (nI c)) (fun y => ∃ Z, y = .inl (Z, nI (c + 1)) ∧ MI σ Z ng ∧ AccM Z ng ns (stepF (okB ng ns m) (vlC σ ng ns (lonM σ b (σ.1 39 13)) x) a c)) := by
  have hng : ng ≤ 6 := h.1.1.2.2.1
  have hns : ns ≤ 6 := h.1.1.2.1
  have hnb : nb ≤ 4 := h.1.1.1
  obtain ⟨hP, hS, -⟩ := id h
  have hd : rgI (σ.1 39 13) 0 (99 * N) := by rw [← hS.2.2.1.2.1]; exact hS.2.2.2.2.2
  have hlg := lonM_rg hP hb hd
  have y8 : Y.1 39 8 = nI ng := (hY.k39 (by omega)).trans hP.2.1.2.2.1
  have y4 : Y.1 39 4 = nI ns := (hY.k39 (by omega)).trans hP.2.1.2.1
  unfold f_X8_findStanding_l63
  rw [if_neg (nI_ge hc hT), ok_bd2]
  refine ok_mono (m_standBy hng hns hm (by omega) y8 y4) (fun w hw => ?_)
  obtain ⟨Z, v⟩ := w
  obtain ⟨e1, hf, hp⟩ := hw
  dsimp only at e1 hf hp ⊢
  subst e1
  have hZ : MI σ Z ng := ⟨hY.1.tr (hf.mono (fun k j q => Or.inr q)), fun g hg => by rw [hf 62 g (by omega), hf 63 g (by omega)]; exact hY.2 g hg⟩
  have zA : AccM Z ng ns a := by
    cases a with
    | none => exact (hf 39 47 (by omega)).trans hA
    | some p => exact ⟨(hf 39 47 (by omega)).trans hA.1, fun s hs => (hf 64 s (by omega)).trans (hA.2 s hs)⟩
  have z8 : Z.1 39 8 = nI ng := (hZ.k39 (by omega)).trans hP.2.1.2.2.1
  have z4 : Z.1 39 4 = nI ns := (hZ.k39 (by omega)).trans hP.2.1.2.1
  unfold f_X8_findStanding_j166
  cases ho : okB ng ns m c with
  | false =>
    rw [if_pos (show bB false = 0 by rfl), ok_bs, ok_some, nI_1]
    refine ⟨Z, rfl, hZ, ?_⟩
    have : stepF (okB ng ns m) (vlC σ ng ns (lonM σ b (σ.1 39 13)) x) a c = a := if_neg (by rw [ho]; decide)
    rw [this]
    exact zA
  | true =>
    have hp2 := hp ho
    obtain ⟨j1, j2, j3⟩ := spC_ok hng hns ho
    rw [if_neg (show ¬ bB true = 0 by decide)]
    have hlo : f_X8_longNow Z b = some (Z, lonM σ b (σ.1 39 13)) := by
      have y0 : ¬ Z.1 39 0 = 0 := by rw [hZ.k39 (by omega)]; exact hP.y0
      rw [m_longNow (inB_up hb hnb) y0, hZ.k39 (by omega), hZ.row (k := 40) (by omega), hZ.row (k := 41) (by omega), hZ.k39 (by omega)]
      rfl
    have hok : Okv Z ng := by
      intro g hg
      rw [hp2 g hg, hZ.row (k := 49) (by omega)]
      refine ⟨?_, (SN.okv hP hS g hg).2⟩
      rcases j2 g hg with q | q
      · exact Or.inl q
      · exact Or.inr (inB_up q hns)
    have hv := vl_rg h hlg hx ho
    generalize hlgE : lonM σ b (σ.1 39 13) = lg at *
    rw [hlo, bd2_eq, z8, m_findAlms lg hok (by omega), bd1_eq]
    generalize hU : sc (sc Z 60 (fillN (shM Z ng lg) (Z.1 60) ng)) 61 (fillN (gfM Z ng lg) (Z.1 61) ng) = U
    have hUM : MI σ U ng := by
      rw [← hU]
      exact ⟨(hZ.1.sc (fun j => by unfold Scr; omega)).sc (fun j => by unfold Scr; omega), hZ.2⟩
    have uA : AccM U ng ns a := by rw [← hU]; exact zA
    have u8 : U.1 39 8 = nI ng := by rw [← hU]; exact z8
    have u4 : U.1 39 4 = nI ns := by rw [← hU]; exact z4
    have hokU : Okv U ng := by rw [← hU]; exact hok
    have u48 : U.1 48 = Z.1 48 := by rw [← hU]; rfl
    have eh : hgM Z = hgM σ := by unfold hgM; rw [hZ.row (k := 45) (by omega), hZ.row (k := 46) (by omega), hZ.row (k := 49) (by omega)]
    have ecU : coM U = coM σ := by
      have e1 : coM U = coM Z := by rw [← hU]; rfl
      rw [e1]
      unfold coM
      rw [hZ.row (k := 47) (by omega), hZ.row (k := 49) (by omega)]
    have ual : ∀ g, g < ng → U.1 61 g - coM U g = alS σ ng lg (spC ng ns c) g := by
      intro g hg
      have e61 : U.1 61 g = gfM Z ng lg g := by rw [← hU, sc_same, fillN_in hg]
      have egf : gfM Z ng lg g = giftS (σ.1 39 18) (spC ng ns c) (shadeS (hgM σ) (σ.1 42) (σ.1 43) (σ.1 44) (spC ng ns c) ng lg) ng g := by
        unfold gfM shM
        rw [hZ.k39 (by omega), eh, hZ.row (k := 42) (by omega), hZ.row (k := 43) (by omega), hZ.row (k := 44) (by omega)]
        exact gift_cong (by omega) hp2 (shade_cong (by omega) hp2) g hg
      rw [e61, egf, ecU]
      rfl
    -- keep the better
    have fin : Ok (f_X8_findStanding_j114 U b x (nI T) (nI m) (nI c) (vlC σ ng ns lg x c)) (fun y => ∃ Z, y = .inl (Z, nI (c + 1)) ∧ MI σ Z ng ∧ AccM Z ng ns (stepF (okB ng ns m) (vlC σ ng ns lg x) a c)) := by
      unfold f_X8_findStanding_j114 f_X8_findStanding_j166
      rw [ok_bs]
      have put : Ok (bs (su U 39 47 (vlC σ ng ns lg x c)) fun σ22 => bs (0 : Int32) fun z23 => bE1 (lpF (fun t => f_X8_findStanding_l134 b x (nI T) (nI m) (nI c) t.1 t.2) FU (σ22, z23)) (fun σ28 z29 => bs (nI c + (1 : Int32)) fun z14 => some (.inl (σ28, z14)))) (fun y : (Sto × Int32) ⊕ (Sto × Int32) => ∃ Z, y = .inl (Z, nI (c + 1)) ∧ MI σ Z ng ∧ AccM Z ng ns (some (vlC σ ng ns lg x c, c))) := by
        rw [ok_bs, ok_bs, ok_bE1]
        refine ok_mono (m_rowL (Y := su U 39 47 (vlC σ ng ns lg x c)) hng hns u8 u4 _ _ _ _ _) (fun r hr => ?_)
        obtain ⟨hfr, hrow⟩ := hr
        rw [ok_bs, ok_some, nI_1]
        refine ⟨r.1, rfl, ⟨(hUM.1.su (Or.inl (by unfold Scr; omega))).tr (hfr.mono (fun k j q => Or.inl (by unfold Scr; omega))), fun g hg => ?_⟩, ?_, fun s hs => ?_⟩
        · rw [hfr 62 g (by omega), hfr 63 g (by omega)]
          exact hUM.2 g hg
        · rw [hfr 39 47 (by omega)]
          rfl
        · rw [hrow s hs]
          show whoN (U.1 48) (nI s) ng = plR ng ns c s
          rw [u48, whoN_cong hp2]
          exact (who_who j3 (by rw [nI_toInt (by omega)]; omega) (j1 s hs)).symm
      cases a with
      | none =>
        have e47 : U.1 39 47 = -1000000000 := uA
        rw [e47, if_neg (fun q => by
          have h1 := i_le.mp q
          have h2 := hv.1
          have z : (-1000000000 : Int32).toInt = -1000000000 := rfl
          omega), stepF_none ho]
        exact put
      | some p =>
        have e47 : U.1 39 47 = p.1 := uA.1
        rw [e47]
        by_cases cv : vlC σ ng ns lg x c ≤ p.1
        · rw [if_pos cv, stepF_le ho cv, ok_bs, ok_some, nI_1]
          exact ⟨U, rfl, hUM, uA⟩
        · rw [if_neg cv, stepF_gt ho cv]
          exact put
    rcases hx with q | q
    · rw [if_pos q, u8, m_almsOfAll hokU (by omega), bd2_eq, sumN_cong (f := alS σ ng lg (spC ng ns c)) ual]
      have ev : sumN (alS σ ng lg (spC ng ns c)) ng = vlC σ ng ns lg x c := (if_pos q).symm
      rw [ev]
      exact fin
    · obtain ⟨g, hg, eg⟩ := inB_ex q (by omega)
      rw [if_neg (inB_ne q)]
      have e1 : vlC σ ng ns lg x c = alS σ ng lg (spC ng ns c) g := by
        have e0 : vlC σ ng ns lg x c = alS σ ng lg (spC ng ns c) x.toNatClampNeg := if_neg (inB_ne q)
        rw [e0, eg, nI_clamp (by omega)]
      rw [show f_X8_almsOf U x = some (U, vlC σ ng ns lg x c) by rw [e1]; rw [eg, m_almsN hokU (by omega) hg, ual g hg], bd2_eq]
      exact fin
