/-! standing: the call -/
theorem m_saveAll {Y : Sto} {ng : Nat} (hng : ng ≤ 6) (h8 : Y.1 39 8 = nI ng) : Ok (f_X8_saveAll Y) (fun Z => Fr (fun k j => k = 62 ∨ k = 63) Y Z ∧ ∀ g, g < ng → Z.1 62 g = Y.1 48 g ∧ Z.1 63 g = Y.1 49 g) := by
  unfold f_X8_saveAll
  rw [ok_bs, ok_bE1]
  refine lp_for (fun i t => t.2 = nI i ∧ Fr (fun k j => k = 62 ∨ k = 63) Y t.1 ∧ ∀ g, g < i → t.1.1 62 g = Y.1 48 g ∧ t.1.1 63 g = Y.1 49 g) ng (FU_big (by omega)) ⟨rfl, Fr.rf, fun g q => absurd q (Nat.not_lt_zero g)⟩ ?_ ?_
  · rintro i ⟨Z, x⟩ hi ⟨e, hf, hr⟩
    dsimp only at e hf hr ⊢
    subst e
    have e8 : Z.1 39 8 = nI ng := (hf 39 8 (by omega)).trans h8
    unfold f_X8_saveAll_l2
    rw [e8, if_neg (nI_ge hi (by omega)), inB_n (show i < 7 by omega) (by omega), inB_n (show i < 6 by omega) (by omega)]
    simp only [gd_true, bsN, nI_clamp (show i < 2 ^ 31 by omega), nI_1]
    rw [ok_some]
    refine Or.inl ⟨_, rfl, rfl, (hf.su (Or.inl rfl)).su (Or.inr rfl), fun g hg => ?_⟩
    by_cases q : g = i
    · subst q
      refine ⟨?_, ?_⟩
      · rw [su_at, if_neg (by omega), su_at, if_pos ⟨rfl, rfl⟩]; exact hf 48 g (by omega)
      · rw [su_at, if_pos ⟨rfl, rfl⟩]; exact hf 49 g (by omega)
    · rw [su_at, if_neg (by omega), su_at, if_neg (by omega), su_at, if_neg (by omega), su_at, if_neg (by omega)]
      exact hr g (by omega)
  · rintro ⟨Z, x⟩ ⟨e, hf, hr⟩
    dsimp only at e hf hr ⊢
    subst e
    have e8 : Z.1 39 8 = nI ng := (hf 39 8 (by omega)).trans h8
    unfold f_X8_saveAll_l2
    rw [e8, if_pos (nI_le (Nat.le_refl ng) (by omega)), ok_some]
    exact ⟨_, rfl, ok_some.mpr ⟨hf, hr⟩⟩
theorem m_putBack {Y : Sto} {ng : Nat} (hng : ng ≤ 6) (h8 : Y.1 39 8 = nI ng) : Ok (f_X8_putBack Y) (fun Z => Fr (fun k j => (k = 48 ∨ k = 49) ∧ j < ng) Y Z ∧ ∀ g, g < ng → Z.1 48 g = Y.1 62 g ∧ Z.1 49 g = Y.1 63 g) := by
  unfold f_X8_putBack
  rw [ok_bs, ok_bE1]
  refine lp_for (fun i t => t.2 = nI i ∧ Fr (fun k j => (k = 48 ∨ k = 49) ∧ j < ng) Y t.1 ∧ ∀ g, g < i → t.1.1 48 g = Y.1 62 g ∧ t.1.1 49 g = Y.1 63 g) ng (FU_big (by omega)) ⟨rfl, Fr.rf, fun g q => absurd q (Nat.not_lt_zero g)⟩ ?_ ?_
  · rintro i ⟨Z, x⟩ hi ⟨e, hf, hr⟩
    dsimp only at e hf hr ⊢
    subst e
    have e8 : Z.1 39 8 = nI ng := (hf 39 8 (by omega)).trans h8
    unfold f_X8_putBack_l2
    rw [e8, if_neg (nI_ge hi (by omega)), inB_n (show i < 7 by omega) (by omega), inB_n (show i < 6 by omega) (by omega)]
    simp only [gd_true, bsN, nI_clamp (show i < 2 ^ 31 by omega), nI_1]
    rw [ok_some]
    refine Or.inl ⟨_, rfl, rfl, (hf.su ⟨Or.inl rfl, hi⟩).su ⟨Or.inr rfl, hi⟩, fun g hg => ?_⟩
    by_cases q : g = i
    · subst q
      refine ⟨?_, ?_⟩
      · rw [su_at, if_neg (by omega), su_at, if_pos ⟨rfl, rfl⟩]; exact hf 62 g (by omega)
      · rw [su_at, if_pos ⟨rfl, rfl⟩]; exact hf 63 g (by omega)
    · rw [su_at, if_neg (by omega), su_at, if_neg (by omega), su_at, if_neg (by omega), su_at, if_neg (by omega)]
      exact hr g (by omega)
  · rintro ⟨Z, x⟩ ⟨e, hf, hr⟩
    dsimp only at e hf hr ⊢
    subst e
    have e8 : Z.1 39 8 = nI ng := (hf 39 8 (by omega)).trans h8
    unfold f_X8_putBack_l2
    rw [e8, if_pos (nI_le (Nat.le_refl ng) (by omega)), ok_some]
    exact ⟨_, rfl, ok_some.mpr ⟨hf, hr⟩⟩
theorem pow_big {ng : Nat} (hng : ng ≤ 6) : ∀ {n : Nat}, n ≤ 6 → (ng + 1) ^ n ≤ 117649 := fun {n} hn => Nat.le_trans (Nat.pow_le_pow_left (show ng + 1 ≤ 7 by omega) n) (Nat.pow_le_pow_right (show 0 < 7 by omega) hn)
theorem m_powL {Y : Sto} {ng ns : Nat} (hng : ng ≤ 6) (hns : ns ≤ 6) (h8 : Y.1 39 8 = nI ng) (h4 : Y.1 39 4 = nI ns) (a b : Int32) : lpF (fun t => f_X8_findStanding_l5 a b t.1 t.2.1 t.2.2) FU (Y, (1 : Int32), (0 : Int32)) = some (Y, nI ((ng + 1) ^ ns), nI ns) := by
  refine lp_eq (fun i => (Y, nI ((ng + 1) ^ i), nI i)) ns (FU_big (by omega)) (fun i hi => ?_) ?_
  · dsimp only
    unfold f_X8_findStanding_l5
    rw [h4, if_neg (nI_ge hi (by omega)), h8, nI_1, pk_mul, bs_eq, bs_eq, nI_1, Nat.pow_succ]
  · dsimp only
    unfold f_X8_findStanding_l5
    rw [h4, if_pos (nI_le (Nat.le_refl ns) (by omega))]
theorem m_allCodes {σ Y : Sto} {N nb ns ng nh m : Nat} {b x : Int32} (h : Rl σ N nb ns ng nh) (hb : inB b nb = true) (hx : x = -1 ∨ inB x ng = true) (hm : m ≤ 6) (hY : MI σ Y ng) (hA : AccM Y ng ns none) : Ok (lpF (fun t => f_X8_findStanding_l63 b x (nI ((ng + 1) ^ ns)) (nI m) t.1 t.2) FU (Y, (0 : Int32))) (fun y => MI σ y.1 ng ∧ AccM y.1 ng ns (foldF (okB ng ns m) (vlC σ ng ns (lonM σ b (σ.1 39 13)) x) 0 ((ng + 1) ^ ns) none)) := by
  have hng : ng ≤ 6 := h.1.1.2.2.1
  have hns : ns ≤ 6 := h.1.1.2.1
  have hT := pow_big hng hns
  generalize hTe : (ng + 1) ^ ns = T at hT ⊢
  refine lp_for (fun i t => t.2 = nI i ∧ MI σ t.1 ng ∧ AccM t.1 ng ns (foldF (okB ng ns m) (vlC σ ng ns (lonM σ b (σ.1 39 13)) x) 0 i none)) T (FU_big (by omega)) ⟨rfl, hY, hA⟩ ?_ ?_
  · rintro i ⟨Z, c⟩ hi ⟨e, hZ, zA⟩
    dsimp only at e hZ zA ⊢
    subst e
    refine ok_mono (m_tryOne h hb hx hm (by omega) hi hZ zA (foldF_in i)) (fun y hy => ?_)
    obtain ⟨W, e, hW, wA⟩ := hy
    refine Or.inl ⟨_, e, rfl, hW, ?_⟩
    show AccM W ng ns (stepF _ _ _ (0 + i))
    rw [Nat.zero_add]
    exact wA
  · rintro ⟨Z, c⟩ ⟨e, hZ, zA⟩
    dsimp only at e hZ zA ⊢
    subst e
    unfold f_X8_findStanding_l63
    rw [if_pos (nI_le (Nat.le_refl T) (by omega)), ok_some]
    exact ⟨_, rfl, hZ, zA⟩
theorem m_standJ {σ τ : Sto} {N nb ns ng nh : Nat} {b x w : Int32} (h : Rl σ N nb ns ng nh) (hf0 : Fr Scr σ τ) (hb : inB b nb = true) (hx : x = -1 ∨ inB x ng = true) (hw : w = -1 ∨ inB w ns = true) : Ok (f_X8_standing_j37 τ b x w) (fun y => Fr Scr τ y.1 ∧ y.2 = stA σ ng ns (mnN ng ns) (lonM σ b (σ.1 39 13)) x w) := by
  have hng : ng ≤ 6 := h.1.1.2.2.1
  have hns : ns ≤ 6 := h.1.1.2.1
  have hPt := (h.fr hf0).1
  unfold f_X8_standing_j37 f_X8_standing_j69
  rw [ok_bd1]
  refine ok_mono (m_saveAll hng hPt.2.1.2.2.1) (fun Y hY => ?_)
  obtain ⟨hf1, hs1⟩ := hY
  have hMI : MI σ Y ng := by
    refine ⟨(hf0.mono (fun k j q => Or.inl q)).tr (hf1.mono (fun k j q => Or.inl (by unfold Scr; omega))), fun g hg => ?_⟩
    rw [(hs1 g hg).1, (hs1 g hg).2, hf0 48 g (by unfold Scr; omega), hf0 49 g (by unfold Scr; omega)]
    exact ⟨rfl, rfl⟩
  have y8 : Y.1 39 8 = nI ng := (hMI.k39 (by omega)).trans h.1.2.1.2.2.1
  have y4 : Y.1 39 4 = nI ns := (hMI.k39 (by omega)).trans h.1.2.1.2.1
  have hm : mnN ng ns ≤ ng ∧ mnN ng ns ≤ ns := by unfold mnN; split <;> omega
  unfold f_X8_findStanding
  rw [ok_bd1, ok_bs, ok_bs, m_powL hng hns y8 y4, bE2_eq, y8, y4]
  -- how many stand
  have em : ∀ {β : Type} (f : Int32 → β), (if nI ng ≤ nI ns then f (nI ng) else f (nI ns)) = f (nI (mnN ng ns)) := by
    intro β f
    unfold mnN
    by_cases c : ns < ng
    · rw [if_neg (nI_ge c (by omega)), if_pos c]
    · rw [if_pos (nI_le (by omega) (by omega)), if_neg c]
  rw [em (fun z => f_X8_findStanding_j51 Y b x (nI ((ng + 1) ^ ns)) z)]
  unfold f_X8_findStanding_j51
  rw [ok_bs, ok_bs, ok_bs, ok_bE1]
  have hM2 : MI σ (su Y 39 47 (-1000000000)) ng := ⟨hMI.1.su (Or.inl (by unfold Scr; omega)), hMI.2⟩
  refine ok_mono (m_allCodes (m := mnN ng ns) h hb hx (by omega) hM2 rfl) (fun y hy => ok_some.mpr ?_)
  obtain ⟨Z, c⟩ := y
  obtain ⟨hZ, zA⟩ := hy
  dsimp only at hZ zA ⊢
  have z8 : Z.1 39 8 = nI ng := (hZ.k39 (by omega)).trans h.1.2.1.2.2.1
  rw [ok_bd1]
  refine ok_mono (m_putBack hng z8) (fun W hW => ?_)
  obtain ⟨hfW, hrW⟩ := hW
  have hfin : Fr Scr τ W := by
    intro k j q
    by_cases c1 : (k = 48 ∨ k = 49) ∧ j < ng
    · rcases c1.1 with e | e
      · subst e
        rw [(hrW j c1.2).1, (hZ.2 j c1.2).1, hf0 48 j q]
      · subst e
        rw [(hrW j c1.2).2, (hZ.2 j c1.2).2, hf0 49 j q]
    · rw [hfW k j c1, hf0 k j q]
      exact hZ.1 k j (fun z => z.elim q (fun z => c1 ⟨Or.inl z.1, z.2⟩))
  have hsm := foldF_some (V := vlC σ ng ns (lonM σ b (σ.1 39 13)) x) (a := none) (lo := 0) (n := (ng + 1) ^ ns) (by
    obtain ⟨c, c1, c2⟩ := ok_ex hm.1 hm.2
    exact ⟨c, by omega, by omega, c2⟩)
  unfold stA
  cases e : foldF (okB ng ns (mnN ng ns)) (vlC σ ng ns (lonM σ b (σ.1 39 13)) x) 0 ((ng + 1) ^ ns) none with
  | none => exact absurd e hsm
  | some p =>
    rw [e] at zA
    obtain ⟨q2, q3⟩ := zA
    rcases hw with q | q
    · rw [if_pos q, ok_some]
      refine ⟨hfin, ?_⟩
      dsimp only
      rw [if_pos q, hfW 39 47 (by omega)]
      exact q2
    · obtain ⟨s, hs, es⟩ := inB_ex q (by omega)
      rw [if_neg (inB_ne q), inB_up q hns, gd_true, ok_some]
      refine ⟨hfin, ?_⟩
      dsimp only
      rw [if_neg (inB_ne q), hfW 64 _ (by omega), es, nI_clamp (by omega)]
      exact q3 s hs
theorem s_standing (b x w : Int32) : CallR (fun σ => f_X7_standing σ b x w) (fun σ => f_X8_standing σ b x w) := by
  intro N σ hN hR
  obtain ⟨nb, ns, ng, nh, h⟩ := hR
  have hng : ng ≤ 6 := h.1.1.2.2.1
  have hns : ns ≤ 6 := h.1.1.2.1
  have hnb : nb ≤ 4 := h.1.1.1
  refine stp_look (f7 := fun σ => f_X7_standing σ b x w) (f8 := fun σ => f_X8_standing σ b x w) h (v := if inB b nb = true then (if x = -1 ∨ inB x ng = true then (if w = -1 ∨ inB w ns = true then stA σ ng ns (mnN ng ns) (lonM σ b (σ.1 39 13)) x w else -1000000001) else -1000000001) else -1000000001) ?_ (fun τ hf => ?_)
  · have hP := h.1
    unfold f_X7_standing f_X7_standing_j29 f_X7_standing_j46
    rw [(c_hasK hP b).1, bd2_eq, bB_if, (c_hasK hP x).2.2.1, bd2_eq, bB_if, (c_hasK hP w).2.1, bd2_eq, bB_if]
    by_cases c1 : inB b nb = true
    · rw [if_pos c1, if_pos c1]
      have inner : Ok (if w = -1 then f_X7_standing_j49 σ b x w else if inB w ns = true then f_X7_standing_j49 σ b x w else some (σ, -1000000001)) (fun y => Fr Scr σ y.1 ∧ y.2 = if w = -1 ∨ inB w ns = true then stA σ ng ns (mnN ng ns) (lonM σ b (σ.1 39 13)) x w else -1000000001) ∨ ¬ (x = -1 ∨ inB x ng = true) := by
        by_cases c2 : x = -1 ∨ inB x ng = true
        · refine Or.inl ?_
          by_cases c3 : w = -1
          · rw [if_pos c3, if_pos (Or.inl c3)]
            exact c_standJ h c1 c2 (Or.inl c3)
          · rw [if_neg c3]
            by_cases c4 : inB w ns = true
            · rw [if_pos c4, if_pos (Or.inr c4)]
              exact c_standJ h c1 c2 (Or.inr c4)
            · rw [if_neg c4, if_neg (fun q => q.elim c3 c4), ok_some]
              exact ⟨Fr.rf, rfl⟩
        · exact Or.inr c2
      by_cases c2 : x = -1
      · rw [if_pos c2, if_pos (Or.inl c2)]
        exact inner.resolve_right (fun q => q (Or.inl c2))
      · rw [if_neg c2]
        by_cases c4 : inB x ng = true
        · rw [if_pos c4, if_pos (Or.inr c4)]
          exact inner.resolve_right (fun q => q (Or.inr c4))
        · rw [if_neg c4, if_neg (fun q => q.elim c2 c4), ok_some]
          exact ⟨Fr.rf, rfl⟩
    · rw [if_neg c1, if_neg c1, ok_some]
      exact ⟨Fr.rf, rfl⟩
  · have hP := (h.fr hf).1
    unfold f_X8_standing f_X8_standing_j21 f_X8_standing_j34
    rw [m_isBell hP.2.1.1 (by omega), bd2_eq, bB_if, m_isBeggar hP.2.1.2.2.1 (by omega), bd2_eq, bB_if, m_isSpot hP.2.1.2.1 (by omega), bd2_eq, bB_if]
    by_cases c1 : inB b nb = true
    · rw [if_pos c1, if_pos c1]
      have inner : Ok (if w = -1 then f_X8_standing_j37 τ b x w else if inB w ns = true then f_X8_standing_j37 τ b x w else some (τ, -1000000001)) (fun y => Fr Scr τ y.1 ∧ y.2 = if w = -1 ∨ inB w ns = true then stA σ ng ns (mnN ng ns) (lonM σ b (σ.1 39 13)) x w else -1000000001) ∨ ¬ (x = -1 ∨ inB x ng = true) := by
        by_cases c2 : x = -1 ∨ inB x ng = true
        · refine Or.inl ?_
          by_cases c3 : w = -1
          · rw [if_pos c3, if_pos (Or.inl c3)]
            exact m_standJ h hf c1 c2 (Or.inl c3)
          · rw [if_neg c3]
            by_cases c4 : inB w ns = true
            · rw [if_pos c4, if_pos (Or.inr c4)]
              exact m_standJ h hf c1 c2 (Or.inr c4)
            · rw [if_neg c4, if_neg (fun q => q.elim c3 c4), ok_some]
              exact ⟨Fr.rf, rfl⟩
        · exact Or.inr c2
      by_cases c2 : x = -1
      · rw [if_pos c2, if_pos (Or.inl c2)]
        exact inner.resolve_right (fun q => q (Or.inl c2))
      · rw [if_neg c2]
        by_cases c4 : inB x ng = true
        · rw [if_pos c4, if_pos (Or.inr c4)]
          exact inner.resolve_right (fun q => q (Or.inr c4))
        · rw [if_neg c4, if_neg (fun q => q.elim c2 c4), ok_some]
          exact ⟨Fr.rf, rfl⟩
    · rw [if_neg c1, if_neg c1, ok_some]
      exact ⟨Fr.rf, rfl⟩
