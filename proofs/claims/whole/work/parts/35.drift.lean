/-! drift -/
/-- never by computing -/
theorem bsN {α β : Type} (x : α) (k : α → β) : bs x k = k x := Eq.trans (Eq.refl (bs x k)) (Eq.refl (k x))
theorem x_draw {σ μ : Sto} {ns ng nh : Nat} {D : Int} (hs : SN2 σ μ ns ng nh D) {m : Nat} (h0 : 0 < m) (hm : m < 2 ^ 31) : ∃ r s, r < m ∧ f_X6_draw_10 σ (nI m) = some (su σ 10 6 s, nI r) ∧ f_X8_draw μ (nI m) = some (su μ 39 19 s, nI r) ∧ SN2 (su σ 10 6 s) (su μ 39 19 s) ns ng nh D := by
  obtain ⟨a, b, ⟨c1, c2, c3, c4, c5⟩, d1, d2, d3⟩ := hs
  obtain ⟨n, hn, en⟩ : ∃ n : Nat, n < 2 ^ 31 ∧ σ.1 10 6 = nI n := ⟨(σ.1 10 6).toNatClampNeg, by have := cl_toInt d2; have := Int32.toInt_lt (σ.1 10 6); omega, (nI_cl d2).symm⟩
  refine ⟨drw n / 65536 % m, nI (drw n), Nat.mod_lt _ h0, c_draw en hn h0 hm, m_draw (c5.symm.trans en) hn h0 hm, a, b, ⟨c1, c2, c3, c4, rfl⟩, d1, ?_, d3⟩
  show 0 ≤ (nI (drw n)).toInt
  rw [nI_toInt (drw_lt n)]
  omega
theorem fr_PL {σ τ : Sto} {nb ns ng nh : Nat} (h : PL σ nb ns ng nh) (hf : Fr dC7 σ τ) : PL τ nb ns ng nh := h.cg (fun k j q => hf k j (by unfold dPL at q; unfold dC7; omega))
theorem fr_PP {σ τ μ ρ : Sto} (h : PP σ μ) (hf : Fr dC7 σ τ) (hg : Fr dC8 μ ρ) : PP τ ρ := fun k j q => (hg k j (by unfold dPL at q; unfold dC8; omega)).trans ((h k j q).trans (hf k j (by unfold dPL at q; unfold dC7; omega)).symm)
theorem x_bells {σ μ : Sto} {nb ns ng nh : Nat} {D : Int} (h : PL σ nb ns ng nh) (hp : PP σ μ) (hs : SN2 σ μ ns ng nh D) : Ok (lpF (fun t => f_X7_passDayByDraws_l4 t.1 t.2.1 t.2.2) FU (σ, (0 : Int32), (0 : Int32))) (fun y => Ok (lpF (fun t => f_X8_dayNow_l4 t.1 t.2.1 t.2.2) FU (μ, (0 : Int32), (0 : Int32))) (fun z => z.2.1 = y.2.1 ∧ Fr dC7 σ y.1 ∧ Fr dC8 μ z.1 ∧ SN2 y.1 z.1 ns ng nh D)) := by
  have hnb : nb ≤ 4 := h.1.1
  refine lp_two (fun i x y => y.2.1 = x.2.1 ∧ (x.2.2 = nI i ∧ y.2.2 = nI i) ∧ Fr dC7 σ x.1 ∧ Fr dC8 μ y.1 ∧ SN2 x.1 y.1 ns ng nh D) nb (FU_big (by omega)) ⟨rfl, ⟨rfl, rfl⟩, Fr.rf, Fr.rf, hs⟩ ?_ ?_
  · rintro i ⟨τ, x1, x2⟩ ⟨ρ, y1, y2⟩ hi ⟨e1, ⟨e2, e3⟩, hf, hg, hss⟩
    dsimp only at e1 e2 e3 hf hg hss ⊢
    subst e1 e2 e3
    have hPt := fr_PL h hf
    have hPP := fr_PP hp hf hg
    have hb : inB (nI i) nb = true := inB_n hi (by omega)
    obtain ⟨r, s, hr, d7, d8, hs2⟩ := x_draw hss (m := 4) (by decide) (by decide)
    have d7' : f_X6_draw_10 τ (4 : Int32) = _ := d7
    have d8' : f_X8_draw ρ (4 : Int32) = _ := d8
    unfold f_X7_passDayByDraws_l4 f_X8_dayNow_l4 f_X7_passDayByDraws_j35 f_X8_dayNow_j29
    rw [(c_cnt hPt).1, bd2_eq, if_neg (nI_ge hi (by omega)), (hPP.pl hPt).2.1.1, if_neg (nI_ge hi (by omega)), d7', bd2_eq, d8', bd2_eq]
    have hfd : Fr dC7 τ (su τ 10 6 s) := Fr.rf.su (by unfold dC7; omega)
    have hgd : Fr dC8 ρ (su ρ 39 19 s) := Fr.rf.su (by unfold dC8; omega)
    simp only [bs_eq, nI_1]
    by_cases c : nI r = 0
    · rw [if_pos c, if_pos c, ok_some]
      refine ⟨_, rfl, ok_some.mpr ⟨_, rfl, ?_, ⟨rfl, rfl⟩, hf.tr hfd, hg.tr hgd, hs2⟩⟩
      exact Int32.add_zero _
    · rw [if_neg c, if_neg c, ok_bd2]
      refine ok_mono (x_ring (fr_PL hPt hfd) (fr_PP hPP hfd hgd) hs2 hb) (fun y hy => ok_some.mpr ⟨_, rfl, ?_⟩)
      rw [ok_bd2]
      refine ok_mono hy.2 (fun z hz => ok_some.mpr ⟨_, rfl, ?_, ⟨rfl, rfl⟩, (hf.tr hfd).tr hy.1, (hg.tr hgd).tr hz.2.1, hz.2.2⟩)
      dsimp only
      rw [hz.1]
  · rintro ⟨τ, x1, x2⟩ ⟨ρ, y1, y2⟩ ⟨e1, ⟨e2, e3⟩, hf, hg, hss⟩
    dsimp only at e1 e2 e3 hf hg hss ⊢
    subst e1 e2 e3
    have hPt := fr_PL h hf
    have hPP := fr_PP hp hf hg
    unfold f_X7_passDayByDraws_l4 f_X8_dayNow_l4
    rw [(c_cnt hPt).1, bd2_eq, if_pos (nI_le (Nat.le_refl nb) (by omega)), (hPP.pl hPt).2.1.1, if_pos (nI_le (Nat.le_refl nb) (by omega)), ok_some]
    exact ⟨_, rfl, ok_some.mpr ⟨_, rfl, rfl, hf, hg, hss⟩⟩
theorem c_who2 {σ μ : Sto} {nb ns ng nh : Nat} {D : Int} (h : PL σ nb ns ng nh) (hs : SN2 σ μ ns ng nh D) {s : Int32} (h0 : 0 ≤ s.toInt) : f_X6_whoIsOn_10 σ s = some (σ, whoN (μ.1 48) s ng) := by
  obtain ⟨⟨τ, r⟩, h1, rfl, h2⟩ := c_whoIsOn σ s
  rw [h1]
  have h3 : IsWho (μ.1 48) s ng r := by
    rcases h2 with ⟨k1, k2⟩ | ⟨g, k1, k2, k3⟩
    · exact Or.inl ⟨k1, fun g hg => by rw [← (hs.1.2.1 g hg).1]; exact k2 g (by have := h.1.2.2.1; omega)⟩
    · by_cases q : g < ng
      · exact Or.inr ⟨g, q, k2, by rw [← (hs.1.2.1 g q).1]; exact k3⟩
      · exfalso
        have := hs.1.1 g k1 (by omega)
        rw [this] at k3
        rw [← k3] at h0
        exact absurd h0 (by decide)
  show some (τ, r) = some (τ, whoN (μ.1 48) s ng)
  rw [who_who hs.1.2.2 h0 h3]
theorem upd_self (f : Nat → Int32) (g : Nat) : upd f g (f g) = f := by
  funext j
  by_cases e : j = g
  · subst e; exact pk_us
  · exact pk_un e
theorem x_day {σ μ : Sto} {nb ns ng nh : Nat} {D : Int} (h : PL σ nb ns ng nh) (hp : PP σ μ) (hs : SN2 σ μ ns ng nh D) (hD : D ≤ 1000000) (hg0 : 0 < ng) (hs0 : 0 < ns) : Ok (f_X7_passDayByDraws σ) (fun y => Fr dC7 σ y.1 ∧ Ok (f_X8_dayNow μ) (fun z => z.2 = y.2 ∧ Fr dC8 μ z.1 ∧ SN2 y.1 z.1 ns ng nh (D + 1))) := by
  have hng : ng ≤ 6 := h.1.2.2.1
  have hns : ns ≤ 6 := h.1.2.1
  unfold f_X7_passDayByDraws
  rw [ok_bs, ok_bs, ok_bE2]
  refine ok_mono (x_bells h hp hs) (fun y hy => ?_)
  obtain ⟨z, e8, hz, hf, hg, hss⟩ := hy
  obtain ⟨τ, y1, y2⟩ := y
  obtain ⟨ρ, z1, z2⟩ := z
  have u8 : f_X8_dayNow μ = f_X8_dayNow μ := rfl
  conv at u8 => rhs; unfold f_X8_dayNow
  rw [bs_eq, bs_eq, e8, bE2_eq] at u8
  rw [u8]
  dsimp only at hz hf hg hss
  subst hz
  simp only [bsN]
  -- the day
  have hday : SN2 (su τ 10 3 (τ.1 10 3 + 1)) (su ρ 39 13 (ρ.1 39 13 + 1)) ns ng nh (D + 1) := by
    obtain ⟨a, b, ⟨c1, c2, c3, c4, c5⟩, d1, d2, d3⟩ := hss
    refine ⟨a, b, ⟨c1, ?_, c3, c4, c5⟩, d1, d2, ?_⟩
    · show τ.1 10 3 + 1 = ρ.1 39 13 + 1
      rw [c2]
    · show rgI (τ.1 10 3 + 1) 0 (D + 1)
      have h1 : rgI (1 : Int32) 1 1 := ⟨by decide, by decide⟩
      exact (d3.add h1 (by omega) (by omega)).up (by omega) (by omega)
  have hf1 : Fr dC7 σ (su τ 10 3 (τ.1 10 3 + 1)) := hf.su (by unfold dC7; omega)
  have hg1 : Fr dC8 μ (su ρ 39 13 (ρ.1 39 13 + 1)) := hg.su (by unfold dC8; omega)
  have e8 : (su ρ 39 13 (ρ.1 39 13 + 1)).1 39 8 = nI ng := ((fr_PP hp hf hg).pl (fr_PL h hf)).2.1.2.2.1
  rw [e8]
  generalize su τ 10 3 (τ.1 10 3 + 1) = τ1 at hday hf1 ⊢
  generalize su ρ 39 13 (ρ.1 39 13 + 1) = ρ1 at hday hg1 ⊢
  obtain ⟨g, sg, hgl, d7, d8, hs2⟩ := x_draw hday (m := ng) hg0 (by omega)
  have hP1 := fr_PL h hf1
  rw [(c_cnt hP1).2.2.1, bd2_eq, d7, bd2_eq, d8, bd2_eq]
  have hf2 : Fr dC7 σ (su τ1 10 6 sg) := hf1.su (by unfold dC7; omega)
  have hg2 : Fr dC8 μ (su ρ1 39 19 sg) := hg1.su (by unfold dC8; omega)
  generalize su τ1 10 6 sg = τ2 at hs2 hf2 ⊢
  generalize su ρ1 39 19 sg = ρ2 at hs2 hg2 ⊢
  have hP2 := fr_PL h hf2
  have hM2 := (fr_PP hp hf2 hg2).pl hP2
  obtain ⟨s, ss, hsl, d7, d8, hs3⟩ := x_draw hs2 (m := ns) hs0 (by omega)
  rw [(c_cnt hP2).2.1, bd2_eq, d7, bd2_eq, hM2.2.1.2.1, d8, bd2_eq]
  have hf3 : Fr dC7 σ (su τ2 10 6 ss) := hf2.su (by unfold dC7; omega)
  have hg3 : Fr dC8 μ (su ρ2 39 19 ss) := hg2.su (by unfold dC8; omega)
  generalize su τ2 10 6 ss = τ3 at hs3 hf3 ⊢
  generalize su ρ2 39 19 ss = ρ3 at hs3 hg3 ⊢
  have hP3 := fr_PL h hf3
  have hM3 := (fr_PP hp hf3 hg3).pl hP3
  have h0 : 0 ≤ (nI s).toInt := by rw [nI_toInt (by omega)]; omega
  have isn : inB (nI s) ns = true := inB_n hsl (by omega)
  rw [(c_hasK hP3 (nI g)).2.2.1, bd2_eq, has_y (inB_n hgl (by omega)), c_who2 hP3 hs3 h0, bd2_eq, hM3.2.1.2.2.1, m_whoIsOn ρ3 (nI s) (show ng ≤ 7 by omega), bd2_eq]
  unfold f_X7_passDayByDraws_j120 f_X8_dayNow_j95
  rcases whoN_is (ρ3.1 48) (nI s) ng with ⟨k1, k2⟩ | ⟨g1, k1, k2, k3⟩
  · rw [k1, if_pos rfl, if_neg (by decide), inB_n (show g < 6 by omega) (by omega), inB_n (show g < 7 by omega) (by omega)]
    simp only [gd_true, bs_eq, nI_clamp (show g < 2 ^ 31 by omega)]
    rw [ok_some]
    refine ⟨hf3.su (by unfold dC7; omega), ok_some.mpr ⟨rfl, hg3.su (by unfold dC8; omega), ?_⟩⟩
    exact SR.go hs3 hng hns hgl (Or.inr isn) (fun g' q1 q2 q3 => absurd q3 (k2 g' q1))
  · rw [k2, if_neg (nI_ne_m1 (by omega)), if_pos (nI_pos' (by omega)), inB_n (show g < 7 by omega) (by omega)]
    simp only [gd_true, bs_eq, nI_clamp (show g < 2 ^ 31 by omega)]
    rw [ok_some]
    refine ⟨hf3, ok_some.mpr ⟨rfl, hg3.su (by unfold dC8; omega), ?_⟩⟩
    unfold SN2
    rw [su_same, upd_self]
    exact hs3
theorem s_drift (a : Int32) : CallR (fun σ => f_X7_drift σ a) (fun σ => f_X8_drift σ a) := by
  intro N σ hN hR
  obtain ⟨nb, ns, ng, nh, h⟩ := id hR
  have hP := h.1
  have hng : ng ≤ 6 := hP.1.2.2.1
  have hns : ns ≤ 6 := hP.1.2.1
  have p7 : f_X7_drift σ a = if rgB a 1 99 = true then (if nI ng = 0 then some (σ, -1000000003) else if nI ns = 0 then some (σ, -1000000003) else bE2 (lpF (fun t => f_X7_drift_l43 a t.1 t.2.1 t.2.2) FU (σ, (0 : Int32), (0 : Int32))) (fun σ11 z12 z13 => some (σ11, z12))) else some (σ, -1000000002) := by
    unfold f_X7_drift f_X7_drift_j11 f_X7_drift_j36
    rw [rg_if, (c_cnt hP).2.2.1, bd2_eq, (c_cnt hP).2.1, bd2_eq]
    rfl
  have p8 : ∀ μ, PP σ μ → f_X8_drift μ a = if rgB a 1 99 = true then (if nI ng = 0 then some (μ, -1000000003) else if nI ns = 0 then some (μ, -1000000003) else bE2 (lpF (fun t => f_X8_drift_l37 a t.1 t.2.1 t.2.2) FU (μ, (0 : Int32), (0 : Int32))) (fun σ11 z12 z13 => some (σ11, z12))) else some (μ, -1000000002) := by
    intro μ hp
    have hM := hp.pl hP
    unfold f_X8_drift f_X8_drift_j29
    rw [m_inI _ a _ _ (li := 1) (hi := 99) (by decide) (by decide), bd2_eq, bB_if, hM.2.1.2.2.1, hM.2.1.2.1]
    rfl
  have same : ∀ v, f_X7_drift σ a = some (σ, v) → f_X8_drift σ a = some (σ, v) → Ok (f_X7_drift σ a) (fun y => Ok (f_X8_drift y.1 a) (fun z => z.2 = y.2 ∧ R (N + 1) z.1)) := fun v e7 e8 => stp_eq (f7 := fun σ => f_X7_drift σ a) (f8 := fun σ => f_X8_drift σ a) hR e7 e8
  by_cases c1 : rgB a 1 99 = true
  · by_cases c2 : nI ng = 0
    · refine same (-1000000003) ?_ ?_
      · rw [p7, if_pos c1, if_pos c2]
      · rw [p8 σ (fun _ _ _ => rfl), if_pos c1, if_pos c2]
    · by_cases c3 : nI ns = 0
      · refine same (-1000000003) ?_ ?_
        · rw [p7, if_pos c1, if_neg c2, if_pos c3]
        · rw [p8 σ (fun _ _ _ => rfl), if_pos c1, if_neg c2, if_pos c3]
      · have hg0 : 0 < ng := by
          rcases Nat.eq_zero_or_pos ng with q | q
          · rw [q] at c2; exact absurd rfl c2
          · exact q
        have hs0 : 0 < ns := by
          rcases Nat.eq_zero_or_pos ns with q | q
          · rw [q] at c3; exact absurd rfl c3
          · exact q
        obtain ⟨m, hm, rfl⟩ := nI_rg (m := 99) ((rgB_iff.mp c1).up (by omega) (by omega))
        refine call_two (f7 := fun σ => f_X7_drift σ (nI m)) (f8 := fun σ => f_X8_drift σ (nI m)) h (fun μ hp hs => ?_)
        show Ok (f_X7_drift σ (nI m)) (fun y => _ ∧ Ok (f_X8_drift μ (nI m)) _)
        rw [p7, if_pos c1, if_neg c2, if_neg c3, p8 μ hp, if_pos c1, if_neg c2, if_neg c3, ok_bE2]
        have key : Ok (lpF (fun t => f_X7_drift_l43 (nI m) t.1 t.2.1 t.2.2) FU (σ, (0 : Int32), (0 : Int32))) (fun y => Ok (lpF (fun t => f_X8_drift_l37 (nI m) t.1 t.2.1 t.2.2) FU (μ, (0 : Int32), (0 : Int32))) (fun z => z.2.1 = y.2.1 ∧ Fr dC7 σ y.1 ∧ Fr dC8 μ z.1 ∧ SN2 y.1 z.1 ns ng nh (99 * (N + 1 : Nat)))) := by
          refine lp_two (fun i x y => y.2.1 = x.2.1 ∧ (x.2.2 = nI i ∧ y.2.2 = nI i) ∧ Fr dC7 σ x.1 ∧ Fr dC8 μ y.1 ∧ SN2 x.1 y.1 ns ng nh (99 * (N : Nat) + (i : Nat))) m (FU_big (by omega)) ⟨rfl, ⟨rfl, rfl⟩, Fr.rf, Fr.rf, hs.up (by omega)⟩ ?_ ?_
          · rintro i ⟨τ, x1, x2⟩ ⟨ρ, y1, y2⟩ hi ⟨e1, ⟨e2, e3⟩, hf, hg, hss⟩
            dsimp only at e1 e2 e3 hf hg hss ⊢
            subst e1 e2 e3
            unfold f_X7_drift_l43 f_X8_drift_l37
            rw [if_neg (nI_ge hi (by omega)), if_neg (nI_ge hi (by omega)), ok_bd2]
            refine ok_mono (x_day (fr_PL hP hf) (fr_PP hp hf hg) hss (by omega) hg0 hs0) (fun y hy => ?_)
            simp only [bs_eq, nI_1]
            refine ok_some.mpr ⟨_, rfl, ?_⟩
            rw [ok_bd2]
            refine ok_mono hy.2 (fun z hz => ok_some.mpr ⟨_, rfl, ?_, ⟨rfl, rfl⟩, hf.tr hy.1, hg.tr hz.2.1, hz.2.2.up (by omega)⟩)
            dsimp only
            rw [hz.1]
          · rintro ⟨τ, x1, x2⟩ ⟨ρ, y1, y2⟩ ⟨e1, ⟨e2, e3⟩, hf, hg, hss⟩
            dsimp only at e1 e2 e3 hf hg hss ⊢
            subst e1 e2 e3
            unfold f_X7_drift_l43 f_X8_drift_l37
            rw [if_pos (nI_le (Nat.le_refl m) (by omega)), if_pos (nI_le (Nat.le_refl m) (by omega)), ok_some]
            exact ⟨_, rfl, ok_some.mpr ⟨_, rfl, rfl, hf, hg, hss.up (by omega)⟩⟩
        refine ok_mono key (fun y hy => ok_some.mpr ?_)
        obtain ⟨z, e8, hz, hf, hg, hss⟩ := hy
        refine ⟨hf, ?_⟩
        rw [ok_bE2]
        exact ⟨z, e8, ok_some.mpr ⟨hz, hg, hss⟩⟩
  · refine same (-1000000002) ?_ ?_
    · rw [p7, if_neg c1]
    · rw [p8 σ (fun _ _ _ => rfl), if_neg c1]
