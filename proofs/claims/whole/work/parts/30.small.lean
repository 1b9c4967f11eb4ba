/-! law, day, seed, tear, go, lend -/
theorem call_of {f7 f8 : Sto → Option (Sto × Int32)} {N : Nat} {σ τ ρ : Sto} {v : Int32} (h7 : f7 σ = some (τ, v)) (h8 : f8 τ = some (ρ, v)) (hR : R (N + 1) ρ) : Ok (f7 σ) (fun y => Ok (f8 y.1) (fun z => z.2 = y.2 ∧ R (N + 1) z.1)) := by
  rw [h7, ok_some]
  show Ok (f8 τ) _
  rw [h8, ok_some]
  exact ⟨rfl, hR⟩
theorem R.up {N M : Nat} {σ : Sto} (h : R N σ) (hM : N ≤ M) : R M σ := by
  obtain ⟨nb, ns, ng, nh, h⟩ := h
  exact ⟨nb, ns, ng, nh, h.up hM⟩
/-- all of the relation but the state stays -/
theorem Rl.st {σ τ : Sto} {N nb ns ng nh : Nat} (h : Rl σ N nb ns ng nh) (hf : Fr dSN σ τ) (hs : SN τ ns ng nh (99 * (N + 1 : Nat))) : R (N + 1) τ := by
  obtain ⟨a, b, c, d, e, f⟩ := h.up (show N ≤ N + 1 by omega)
  exact ⟨nb, ns, ng, nh, a.cg (fun k j q => hf k j (by unfold dPL at q; unfold dSN; omega)), hs, c.cg (fun k j q => hf k j (by unfold dTX at q; unfold dSN; omega)), d.cg (fun k j q => hf k j (by unfold dTA at q; unfold dSN; omega)), e.cg (fun k j q => hf k j (by unfold dBK at q; unfold dSN; omega)), f.cg (fun k j q => hf k j (by unfold dIM at q; unfold dSN; omega))⟩
theorem s_law (a : Int32) : CallR (fun σ => f_X7_law σ a) (fun σ => f_X8_law σ a) := by
  intro N σ hN hR
  obtain ⟨nb, ns, ng, nh, h⟩ := id hR
  obtain ⟨hP, hS, -⟩ := id h
  by_cases c : rgB a 0 2 = true
  · refine call_of (f7 := fun σ => f_X7_law σ a) (f8 := fun σ => f_X8_law σ a) (τ := su σ 10 5 a) (ρ := su (su σ 10 5 a) 39 18 a) (v := σ.1 10 5) ?_ ?_ ?_
    · unfold f_X7_law f_X7_law_j9
      rw [rg_if]
      show (if rgB a 0 2 = true then _ else _) = _
      rw [if_pos c]
      rfl
    · unfold f_X8_law
      rw [m_inI _ a _ _ (li := 0) (hi := 2) (by decide) (by decide), bd2_eq, bB_if, if_pos c]
      show some (_, σ.1 39 18) = _
      rw [hS.2.2.1.2.2.2.1]
    · refine h.st ((Fr.rf.su (by unfold dSN; omega)).su (by unfold dSN; omega)) ?_
      obtain ⟨a1, a2, a3, a4⟩ := (h.up (show N ≤ N + 1 by omega)).2.1
      exact ⟨a1, a2, ⟨a3.1, a3.2.1, a3.2.2.1, rfl, a3.2.2.2.2⟩, ⟨rgB_iff.mp c, a4.2⟩⟩
  · refine stp_eq (f7 := fun σ => f_X7_law σ a) (f8 := fun σ => f_X8_law σ a) hR (v := -1000000002) ?_ ?_
    · unfold f_X7_law f_X7_law_j9
      rw [rg_if]
      show (if rgB a 0 2 = true then _ else _) = _
      rw [if_neg c]
    · unfold f_X8_law
      rw [m_inI _ a _ _ (li := 0) (hi := 2) (by decide) (by decide), bd2_eq, bB_if, if_neg c]
theorem s_day (a : Int32) : CallR (fun σ => f_X7_day σ a) (fun σ => f_X8_day σ a) := by
  intro N σ hN hR
  obtain ⟨nb, ns, ng, nh, h⟩ := id hR
  obtain ⟨hP, hS, -⟩ := id h
  by_cases c : rgB a 1 99 = true
  · have hca := rgB_iff.mp c
    have hd := hS.2.2.2.2.2
    refine call_of (f7 := fun σ => f_X7_day σ a) (f8 := fun σ => f_X8_day σ a) (τ := su σ 10 3 (σ.1 10 3 + a)) (ρ := su (su σ 10 3 (σ.1 10 3 + a)) 39 13 (σ.1 39 13 + a)) (v := σ.1 10 3 + a) ?_ ?_ ?_
    · unfold f_X7_day f_X7_day_j11
      rw [rg_if]
      show (if rgB a 1 99 = true then _ else _) = _
      rw [if_pos c]
      rfl
    · unfold f_X8_day
      rw [m_inI _ a _ _ (li := 1) (hi := 99) (by decide) (by decide), bd2_eq, bB_if, if_pos c]
      show some (_, σ.1 39 13 + a) = _
      rw [hS.2.2.1.2.1]
      rfl
    · refine h.st ((Fr.rf.su (by unfold dSN; omega)).su (by unfold dSN; omega)) ?_
      obtain ⟨a1, a2, a3, a4⟩ := (h.up (show N ≤ N + 1 by omega)).2.1
      have e : σ.1 10 3 + a = σ.1 39 13 + a := by rw [hS.2.2.1.2.1]
      refine ⟨a1, a2, ⟨a3.1, e, a3.2.2⟩, ⟨a4.1, a4.2.1, ?_⟩⟩
      show rgI (σ.1 10 3 + a) 0 _
      have := hd.add hca (by omega) (by omega)
      exact this.up (by omega) (by omega)
  · refine stp_eq (f7 := fun σ => f_X7_day σ a) (f8 := fun σ => f_X8_day σ a) hR (v := -1000000002) ?_ ?_
    · unfold f_X7_day f_X7_day_j11
      rw [rg_if]
      show (if rgB a 1 99 = true then _ else _) = _
      rw [if_neg c]
    · unfold f_X8_day
      rw [m_inI _ a _ _ (li := 1) (hi := 99) (by decide) (by decide), bd2_eq, bB_if, if_neg c]
theorem s_seed (a : Int32) : CallR (fun σ => f_X7_seed σ a) (fun σ => f_X8_seed σ a) := by
  intro N σ hN hR
  obtain ⟨nb, ns, ng, nh, h⟩ := id hR
  obtain ⟨hP, hS, -⟩ := id h
  by_cases c : 0 ≤ a
  · refine call_of (f7 := fun σ => f_X7_seed σ a) (f8 := fun σ => f_X8_seed σ a) (τ := su σ 10 6 a) (ρ := su (su σ 10 6 a) 39 19 a) (v := σ.1 10 6) ?_ ?_ ?_
    · unfold f_X7_seed
      rw [if_pos c]
      rfl
    · unfold f_X8_seed
      rw [if_pos c]
      show some (_, σ.1 39 19) = _
      rw [hS.2.2.1.2.2.2.2]
    · refine h.st ((Fr.rf.su (by unfold dSN; omega)).su (by unfold dSN; omega)) ?_
      obtain ⟨a1, a2, a3, a4⟩ := (h.up (show N ≤ N + 1 by omega)).2.1
      exact ⟨a1, a2, ⟨a3.1, a3.2.1, a3.2.2.1, a3.2.2.2.1, rfl⟩, ⟨a4.1, i_le.mp c, a4.2.2⟩⟩
  · refine stp_eq (f7 := fun σ => f_X7_seed σ a) (f8 := fun σ => f_X8_seed σ a) hR (v := -1000000002) ?_ ?_
    · unfold f_X7_seed
      rw [if_neg c]
    · unfold f_X8_seed
      rw [if_neg c]
theorem s_tear : CallR f_X7_tear f_X8_tear := by
  intro N σ hN hR
  obtain ⟨nb, ns, ng, nh, h⟩ := id hR
  obtain ⟨hP, hS, hT, hA, hB, hI⟩ := h.up (show N ≤ N + 1 by omega)
  obtain ⟨ta0, nt, -, t1, t2, -⟩ := id hA
  obtain ⟨bk0, nk, -, b1, b2, -⟩ := id hB
  refine call_of (τ := su (su σ 24 2 0) 26 2 0) (ρ := su (su (su (su σ 24 2 0) 26 2 0) 39 52 0) 39 48 0) (v := σ.1 24 2 + σ.1 26 2) rfl ?_ ?_
  · show some (_, σ.1 39 52 + σ.1 39 48) = _
    rw [t1, t2, b1, b2, nI_add, nI_add, Nat.add_comm]
  · have hf : Fr (fun k j => (k = 24 ∧ j = 2) ∨ (k = 26 ∧ j = 2) ∨ (k = 39 ∧ (j = 52 ∨ j = 48))) σ (su (su (su (su σ 24 2 0) 26 2 0) 39 52 0) 39 48 0) := (((Fr.rf.su (by omega)).su (by omega)).su (by omega)).su (by omega)
    exact ⟨nb, ns, ng, nh, hP.cg (fun k j q => hf k j (by unfold dPL at q; omega)), hS.cg (fun k j q => hf k j (by unfold dSN at q; omega)), hT.cg (fun k j q => hf k j (by unfold dTX at q; omega)), ⟨ta0, 0, by omega, rfl, rfl, fun k q => absurd q (Nat.not_lt_zero k)⟩, ⟨bk0, 0, by omega, rfl, rfl, fun k q => absurd q (Nat.not_lt_zero k)⟩, hI.cg (fun k j q => hf k j (by unfold dIM at q; omega))⟩
/-- one goes to a spot, or away -/
theorem SR.go {ns ng nh : Nat} {D : Int} {w v u : Nat → Int32} {d gv lw sd : Int32} {sp ht pu : Nat → Int32} {d' gv' lw' sd' : Int32} (h : SR ns ng nh D w v u d gv lw sd sp ht pu d' gv' lw' sd') (hng : ng ≤ 6) (hns : ns ≤ 6) {g : Nat} (hg : g < ng) {s : Int32} (hs : s = -1 ∨ inB s ns = true) (hfree : ∀ g', g' < ng → g' ≠ g → sp g' = s → s = -1) : SR ns ng nh D (upd w g s) v u d gv lw sd (upd sp g s) ht pu d' gv' lw' sd' := by
  obtain ⟨⟨a1, a2, a3⟩, b, c⟩ := h
  refine ⟨⟨fun g' h1 h2 => ?_, fun g' h1 => ?_, fun g1 g2 h1 h2 e h0 => ?_⟩, b, c⟩
  · rw [pk_un (by omega)]; exact a1 g' h1 h2
  · by_cases q : g' = g
    · subst q; rw [pk_us, pk_us]; exact ⟨rfl, hs⟩
    · rw [pk_un q, pk_un q]; exact a2 g' h1
  · have neg : s = -1 → ¬ 0 ≤ s.toInt := fun e2 => by rw [e2]; decide
    by_cases q1 : g1 = g
    · subst q1
      by_cases q2 : g2 = g1
      · exact q2.symm
      · rw [pk_us] at e h0
        rw [pk_un q2] at e
        exact absurd h0 (neg (hfree g2 h2 q2 e.symm))
    · rw [pk_un q1] at e h0
      by_cases q2 : g2 = g
      · subst q2
        rw [pk_us] at e
        rw [e] at h0
        exact absurd h0 (neg (hfree g1 h1 q1 e))
      · rw [pk_un q2] at e
        exact a3 g1 g2 h1 h2 e h0
theorem s_go (a s : Int32) : CallR (fun σ => f_X7_go σ a s) (fun σ => f_X8_go σ a s) := by
  intro N σ hN hR
  obtain ⟨nb, ns, ng, nh, h⟩ := id hR
  obtain ⟨hP, hS, -⟩ := id h
  have hng : ng ≤ 6 := hP.1.2.2.1
  have hns : ns ≤ 6 := hP.1.2.1
  by_cases c : inB a ng = true
  · obtain ⟨g, hg, rfl⟩ := inB_ex c (by omega)
    have eg : (nI g).toNatClampNeg = g := nI_clamp (by omega)
    -- the move itself
    have move : (s = -1 ∨ inB s ns = true) → (∀ g', g' < ng → g' ≠ g → σ.1 48 g' = s → s = -1) → f_X7_go σ (nI g) s = f_X7_go_j63 σ (nI g) s → (∀ τ, Fr (fun k j => k = 11) σ τ → f_X8_go τ (nI g) s = f_X8_go_j56 τ (nI g) s) → Ok (f_X7_go σ (nI g) s) (fun y => Ok (f_X8_go y.1 (nI g) s) (fun z => z.2 = y.2 ∧ R (N + 1) z.1)) := by
      intro hs hfree e7 e8
      refine call_of (f7 := fun σ => f_X7_go σ (nI g) s) (f8 := fun σ => f_X8_go σ (nI g) s) (τ := su σ 11 g s) (ρ := su (su σ 11 g s) 48 g s) (v := σ.1 11 g) ?_ ?_ ?_
      · show f_X7_go σ (nI g) s = _
        rw [e7]
        unfold f_X7_go_j63
        rw [inB_n (show g < 6 by omega) (by omega), gd_true, eg]
        rfl
      · show f_X8_go (su σ 11 g s) (nI g) s = _
        rw [e8 _ (Fr.rf.su rfl)]
        unfold f_X8_go_j56
        rw [inB_n (show g < 7 by omega) (by omega), gd_true, eg]
        show some (_, σ.1 48 g) = _
        rw [(hS.1.2.1 g hg).1]
      · refine h.st ((Fr.rf.su (by unfold dSN; omega)).su (by unfold dSN; omega)) ?_
        exact SR.go (h.up (show N ≤ N + 1 by omega)).2.1 hng hns hg hs hfree
    have p7 : f_X7_go σ (nI g) s = if s = -1 then f_X7_go_j32 σ (nI g) s else if inB s ns = true then f_X7_go_j32 σ (nI g) s else f_X7_go_j29 σ := by
      unfold f_X7_go
      rw [(c_hasK hP (nI g)).2.2.1, bd2_eq, bB_if, if_pos c, (c_hasK hP s).2.1, bd2_eq, bB_if]
    have p8 : ∀ τ, PL τ nb ns ng nh → f_X8_go τ (nI g) s = if s = -1 then f_X8_go_j24 τ (nI g) s else if inB s ns = true then f_X8_go_j24 τ (nI g) s else f_X8_go_j21 τ := by
      intro τ hPt
      unfold f_X8_go
      rw [m_isBeggar hPt.2.1.2.2.1 (by omega), bd2_eq, bB_if, if_pos c, m_isSpot hPt.2.1.2.1 (by omega), bd2_eq, bB_if]
    have pl : ∀ τ, Fr (fun k j => k = 11) σ τ → PL τ nb ns ng nh := fun τ hf => hP.cg (fun k j q => hf k j (by unfold dPL at q; omega))
    by_cases c1 : s = -1
    · refine move (Or.inl c1) (fun _ _ _ _ => c1) ?_ (fun τ hf => ?_)
      · rw [p7, if_pos c1]
        unfold f_X7_go_j32 f_X7_go_j49
        rw [if_pos c1, bs_eq, if_pos rfl]
      · rw [p8 τ (pl τ hf), if_pos c1]
        unfold f_X8_go_j24 f_X8_go_j42
        rw [if_pos c1, bs_eq, if_pos (by decide)]
    · by_cases c2 : inB s ns = true
      · have h0 := (inB_iff.mp c2).1
        have w7 : f_X7_go σ (nI g) s = f_X7_go_j49 σ (nI g) s (whoN (σ.1 48) s ng) := by
          rw [p7, if_neg c1, if_pos c2]
          unfold f_X7_go_j32
          rw [if_neg c1, c_whoEq hP hS h0, bd2_eq]
        have w8 : ∀ τ, Fr (fun k j => k = 11) σ τ → f_X8_go τ (nI g) s = f_X8_go_j42 τ (nI g) s (whoN (σ.1 48) s ng) := by
          intro τ hf
          have hPt := pl τ hf
          rw [p8 τ hPt, if_neg c1, if_pos c2]
          unfold f_X8_go_j24
          rw [if_neg c1, hPt.2.1.2.2.1, m_whoIsOn τ s (by omega), bd2_eq, show τ.1 48 = σ.1 48 from funext (fun j => hf 48 j (by omega))]
        rcases whoN_is (σ.1 48) s ng with ⟨k1, k2⟩ | ⟨g1, k1, k2, k3⟩
        · refine move (Or.inr c2) (fun g' q1 q2 q3 => absurd q3 (k2 g' q1)) ?_ (fun τ hf => ?_)
          · rw [w7, k1]
            unfold f_X7_go_j49
            rw [bs_eq, if_pos rfl]
          · rw [w8 τ hf, k1]
            unfold f_X8_go_j42
            rw [bs_eq, if_pos (by decide)]
        · by_cases c3 : g1 = g
          · subst c3
            refine move (Or.inr c2) (fun g' q1 q2 q3 => ?_) ?_ (fun τ hf => ?_)
            · exact absurd (hS.1.2.2 g' g1 q1 k1 (q3.trans k3.symm) (by rw [q3]; exact h0)) q2
            · rw [w7, k2]
              unfold f_X7_go_j49
              rw [bs_eq, if_neg (nI_ne_m1 (by omega)), if_pos rfl]
            · rw [w8 τ hf, k2]
              unfold f_X8_go_j42
              rw [bs_eq, if_neg (nI_pos (by omega)), if_pos rfl]
          · have hne : ¬ nI g1 = nI g := fun e => c3 ((nI_eq (by omega) (by omega)).mp e)
            refine stp_eq (f7 := fun σ => f_X7_go σ (nI g) s) (f8 := fun σ => f_X8_go σ (nI g) s) hR (v := -1000000003) ?_ ?_
            · show f_X7_go σ (nI g) s = _
              rw [w7, k2]
              unfold f_X7_go_j49
              rw [bs_eq, if_neg (nI_ne_m1 (by omega)), if_neg hne]
            · show f_X8_go σ (nI g) s = _
              rw [w8 σ Fr.rf, k2]
              unfold f_X8_go_j42
              rw [bs_eq, if_neg (nI_pos (by omega)), if_neg hne]
      · refine stp_eq (f7 := fun σ => f_X7_go σ (nI g) s) (f8 := fun σ => f_X8_go σ (nI g) s) hR (v := -1000000001) ?_ ?_
        · show f_X7_go σ (nI g) s = _
          rw [p7, if_neg c1, if_neg c2]; rfl
        · show f_X8_go σ (nI g) s = _
          rw [p8 σ hP, if_neg c1, if_neg c2]; rfl
  · refine stp_eq (f7 := fun σ => f_X7_go σ a s) (f8 := fun σ => f_X8_go σ a s) hR (v := -1000000001) ?_ ?_
    · unfold f_X7_go
      rw [(c_hasK hP a).2.2.1, bd2_eq, bB_if, if_neg c]; rfl
    · unfold f_X8_go
      rw [m_isBeggar hP.2.1.2.2.1 (by omega), bd2_eq, bB_if, if_neg c]; rfl
