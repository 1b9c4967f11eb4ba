/-! keep, goBack -/
theorem cpy_0 {f g : Nat → Int32} {n k : Nat} (h : k < n) : va_cpy f g 0 0 n k = f k := by
  unfold va_cpy
  rw [if_pos ⟨Nat.zero_le k, by omega⟩, Nat.zero_add, Nat.sub_zero]
theorem SR.cgp {ns ng nh : Nat} {D : Int} {w v u : Nat → Int32} {d gv lw sd : Int32} {sp ht pu : Nat → Int32} {d' gv' lw' sd' : Int32} (h : SR ns ng nh D w v u d gv lw sd sp ht pu d' gv' lw' sd') (hng : ng ≤ 6) (hnh : nh ≤ 4) {w2 v2 u2 sp2 ht2 pu2 : Nat → Int32} (hw : ∀ g, g < 6 → w2 g = w g) (hv : ∀ g, g < 4 → v2 g = v g) (hu : ∀ g, g < 6 → u2 g = u g) (hsp : ∀ g, g < 6 → sp2 g = sp g) (hht : ∀ g, g < 6 → ht2 g = ht g) (hpu : ∀ g, g < 6 → pu2 g = pu g) : SR ns ng nh D w2 v2 u2 d gv lw sd sp2 ht2 pu2 d' gv' lw' sd' := by
  obtain ⟨⟨a1, a2, a3⟩, ⟨b1, b2, b3, b4⟩, ⟨c1, c2⟩, d1⟩ := h
  refine ⟨⟨fun g h1 h2 => ?_, fun g h1 => ?_, fun g g' h1 h2 e h0 => ?_⟩, ⟨fun i h1 h2 => ?_, fun i h1 => ?_, fun g h1 => ?_, fun g i h1 h2 => ?_⟩, ⟨fun g h1 => ?_, c2⟩, d1⟩
  · rw [hw g h1]; exact a1 g h1 h2
  · rw [hw g (by omega), hsp g (by omega)]; exact a2 g h1
  · rw [hsp g (by omega), hsp g' (by omega)] at e
    rw [hsp g (by omega)] at h0
    exact a3 g g' h1 h2 e h0
  · rw [hv i h1]; exact b1 i h1 h2
  · rw [hv i (by omega)]; exact b2 i h1
  · rw [hht g (by omega)]; exact b3 g h1
  · rw [hht g (by omega), hv i (by omega)]; exact b4 g i h1 h2
  · rw [hu g (by omega), hpu g (by omega)]; exact c1 g h1
/-- one state taken over from another -/
def Bec (σ τ : Sto) (b c : Nat) : Prop := Fr (fun k j => b ≤ k ∧ k ≤ b + 3) σ τ ∧ (∀ j, j < 6 → τ.1 (b + 1) j = σ.1 (c + 1) j) ∧ (∀ j, j < 4 → τ.1 (b + 2) j = σ.1 (c + 2) j) ∧ (∀ j, j < 6 → τ.1 (b + 3) j = σ.1 (c + 3) j) ∧ τ.1 b 3 = σ.1 c 3 ∧ τ.1 b 4 = σ.1 c 4 ∧ τ.1 b 5 = σ.1 c 5 ∧ τ.1 b 6 = σ.1 c 6
theorem c_bec_15_10 (σ : Sto) : Ok (f_X6_become_15_10 σ) (fun τ => Bec σ τ 15 10) := by
  unfold f_X6_become_15_10
  refine ok_gd.mpr ⟨by decide, ok_bs.mpr (ok_gd.mpr ⟨by decide, ok_bs.mpr (ok_gd.mpr ⟨by decide, ok_bs.mpr (ok_bs.mpr (ok_bs.mpr (ok_bs.mpr (ok_bs.mpr (ok_some.mpr ?_)))))⟩)⟩)⟩
  refine ⟨((((((Fr.rf.sc (fun j => by omega)).sc (fun j => by omega)).sc (fun j => by omega)).su (by omega)).su (by omega)).su (by omega)).su (by omega), fun j hj => ?_, fun j hj => ?_, fun j hj => ?_, rfl, rfl, rfl, rfl⟩
  · exact cpy_0 (f := σ.1 11) (g := σ.1 16) hj
  · exact cpy_0 (f := σ.1 12) (g := σ.1 17) hj
  · exact cpy_0 (f := σ.1 13) (g := σ.1 18) hj
theorem c_bec_19_10 (σ : Sto) : Ok (f_X6_become_19_10 σ) (fun τ => Bec σ τ 19 10) := by
  unfold f_X6_become_19_10
  refine ok_gd.mpr ⟨by decide, ok_bs.mpr (ok_gd.mpr ⟨by decide, ok_bs.mpr (ok_gd.mpr ⟨by decide, ok_bs.mpr (ok_bs.mpr (ok_bs.mpr (ok_bs.mpr (ok_bs.mpr (ok_some.mpr ?_)))))⟩)⟩)⟩
  refine ⟨((((((Fr.rf.sc (fun j => by omega)).sc (fun j => by omega)).sc (fun j => by omega)).su (by omega)).su (by omega)).su (by omega)).su (by omega), fun j hj => ?_, fun j hj => ?_, fun j hj => ?_, rfl, rfl, rfl, rfl⟩
  · exact cpy_0 (f := σ.1 11) (g := σ.1 20) hj
  · exact cpy_0 (f := σ.1 12) (g := σ.1 21) hj
  · exact cpy_0 (f := σ.1 13) (g := σ.1 22) hj
theorem c_bec_10_15 (σ : Sto) : Ok (f_X6_become_10_15 σ) (fun τ => Bec σ τ 10 15) := by
  unfold f_X6_become_10_15
  refine ok_gd.mpr ⟨by decide, ok_bs.mpr (ok_gd.mpr ⟨by decide, ok_bs.mpr (ok_gd.mpr ⟨by decide, ok_bs.mpr (ok_bs.mpr (ok_bs.mpr (ok_bs.mpr (ok_bs.mpr (ok_some.mpr ?_)))))⟩)⟩)⟩
  refine ⟨((((((Fr.rf.sc (fun j => by omega)).sc (fun j => by omega)).sc (fun j => by omega)).su (by omega)).su (by omega)).su (by omega)).su (by omega), fun j hj => ?_, fun j hj => ?_, fun j hj => ?_, rfl, rfl, rfl, rfl⟩
  · exact cpy_0 (f := σ.1 16) (g := σ.1 11) hj
  · exact cpy_0 (f := σ.1 17) (g := σ.1 12) hj
  · exact cpy_0 (f := σ.1 18) (g := σ.1 13) hj
theorem c_bec_10_19 (σ : Sto) : Ok (f_X6_become_10_19 σ) (fun τ => Bec σ τ 10 19) := by
  unfold f_X6_become_10_19
  refine ok_gd.mpr ⟨by decide, ok_bs.mpr (ok_gd.mpr ⟨by decide, ok_bs.mpr (ok_gd.mpr ⟨by decide, ok_bs.mpr (ok_bs.mpr (ok_bs.mpr (ok_bs.mpr (ok_bs.mpr (ok_some.mpr ?_)))))⟩)⟩)⟩
  refine ⟨((((((Fr.rf.sc (fun j => by omega)).sc (fun j => by omega)).sc (fun j => by omega)).su (by omega)).su (by omega)).su (by omega)).su (by omega), fun j hj => ?_, fun j hj => ?_, fun j hj => ?_, rfl, rfl, rfl, rfl⟩
  · exact cpy_0 (f := σ.1 20) (g := σ.1 11) hj
  · exact cpy_0 (f := σ.1 21) (g := σ.1 12) hj
  · exact cpy_0 (f := σ.1 22) (g := σ.1 13) hj
theorem nI_ad (a b : Nat) : nI a + nI b = nI (a + b) := nI_add a b
theorem m_keepL {σ : Sto} (x : Int32) {z : Nat} (hz : z ≤ 25) : Ok (lpF (fun t => f_X8_keep_l20 x (nI z) t.1 t.2) FU (σ, (0 : Int32))) (fun y => Fr (fun k j => k = 71 ∧ z ≤ j ∧ j < z + 22) σ y.1 ∧ ∀ g, g < 6 → y.1.1 71 (z + g) = σ.1 48 g ∧ y.1.1 71 (z + 6 + g) = σ.1 49 g ∧ y.1.1 71 (z + 12 + g) = σ.1 50 g) := by
  refine lp_for (fun i t => t.2 = nI i ∧ Fr (fun k j => k = 71 ∧ z ≤ j ∧ j < z + 22) σ t.1 ∧ ∀ g, g < i → t.1.1 71 (z + g) = σ.1 48 g ∧ t.1.1 71 (z + 6 + g) = σ.1 49 g ∧ t.1.1 71 (z + 12 + g) = σ.1 50 g) 6 (FU_big (by omega)) ⟨rfl, Fr.rf, fun g h => absurd h (Nat.not_lt_zero g)⟩ ?_ ?_
  · rintro i ⟨τ, x3⟩ hi ⟨e, hf, hr⟩
    dsimp only at e hf hr
    subst e
    have e6 : (6 : Int32) = nI 6 := rfl
    have e12 : (12 : Int32) = nI 12 := rfl
    unfold f_X8_keep_l20
    dsimp only
    rw [e6, e12, if_neg (nI_ge hi (by decide)), nI_add, nI_add, nI_add, nI_add, nI_add]
    simp only [inB_n (show i < 7 by omega) (by decide), inB_n (show i < 6 by omega) (by decide), inB_n (show z + i < 50 by omega) (by decide), inB_n (show z + 6 + i < 50 by omega) (by decide), inB_n (show z + 12 + i < 50 by omega) (by decide), gd_true, bs_eq, nI_clamp (show i < 2 ^ 31 by omega), nI_clamp (show z + i < 2 ^ 31 by omega), nI_clamp (show z + 6 + i < 2 ^ 31 by omega), nI_clamp (show z + 12 + i < 2 ^ 31 by omega), nI_1]
    rw [ok_some]
    refine Or.inl ⟨_, rfl, rfl, ((hf.su (by omega)).su (by omega)).su (by omega), fun g hg => ?_⟩
    have c48 : τ.1 48 i = σ.1 48 i := hf 48 i (by omega)
    have c49 : (su τ 71 (z + i) (τ.1 48 i)).1 49 i = σ.1 49 i := hf 49 i (by omega)
    have c50 : (su (su τ 71 (z + i) (τ.1 48 i)) 71 (z + 6 + i) ((su τ 71 (z + i) (τ.1 48 i)).1 49 i)).1 50 i = σ.1 50 i := hf 50 i (by omega)
    rw [c50, c49, c48]
    by_cases q : g = i
    · subst q
      refine ⟨?_, ?_, ?_⟩
      · rw [su_at, if_neg (by omega), su_at, if_neg (by omega), su_at, if_pos ⟨rfl, rfl⟩]
      · rw [su_at, if_neg (by omega), su_at, if_pos ⟨rfl, rfl⟩]
      · rw [su_at, if_pos ⟨rfl, rfl⟩]
    · refine ⟨?_, ?_, ?_⟩
      · rw [su_at, if_neg (by omega), su_at, if_neg (by omega), su_at, if_neg (by omega)]
        exact (hr g (by omega)).1
      · rw [su_at, if_neg (by omega), su_at, if_neg (by omega), su_at, if_neg (by omega)]
        exact (hr g (by omega)).2.1
      · rw [su_at, if_neg (by omega), su_at, if_neg (by omega), su_at, if_neg (by omega)]
        exact (hr g (by omega)).2.2
  · rintro ⟨τ, x3⟩ ⟨e, hf, hr⟩
    dsimp only at e hf hr
    subst e
    unfold f_X8_keep_l20
    rw [if_pos (show (6 : Int32) ≤ nI 6 by decide), ok_some]
    exact ⟨_, rfl, hf, hr⟩
theorem m_backL {σ : Sto} {z : Nat} (hz : z ≤ 25) : Ok (lpF (fun t => f_X8_goBack_l33 (nI z) t.1 t.2) FU (σ, (0 : Int32))) (fun y => Fr (fun k j => 48 ≤ k ∧ k ≤ 50) σ y.1 ∧ ∀ g, g < 6 → y.1.1 48 g = σ.1 71 (z + g) ∧ y.1.1 49 g = σ.1 71 (z + 6 + g) ∧ y.1.1 50 g = σ.1 71 (z + 12 + g)) := by
  refine lp_for (fun i t => t.2 = nI i ∧ Fr (fun k j => 48 ≤ k ∧ k ≤ 50) σ t.1 ∧ ∀ g, g < i → t.1.1 48 g = σ.1 71 (z + g) ∧ t.1.1 49 g = σ.1 71 (z + 6 + g) ∧ t.1.1 50 g = σ.1 71 (z + 12 + g)) 6 (FU_big (by omega)) ⟨rfl, Fr.rf, fun g h => absurd h (Nat.not_lt_zero g)⟩ ?_ ?_
  · rintro i ⟨τ, x3⟩ hi ⟨e, hf, hr⟩
    dsimp only at e hf hr
    subst e
    have e6 : (6 : Int32) = nI 6 := rfl
    have e12 : (12 : Int32) = nI 12 := rfl
    unfold f_X8_goBack_l33
    dsimp only
    rw [e6, e12, if_neg (nI_ge hi (by decide)), nI_add, nI_add, nI_add, nI_add, nI_add]
    simp only [inB_n (show i < 7 by omega) (by decide), inB_n (show i < 6 by omega) (by decide), inB_n (show z + i < 50 by omega) (by decide), inB_n (show z + 6 + i < 50 by omega) (by decide), inB_n (show z + 12 + i < 50 by omega) (by decide), gd_true, bs_eq, nI_clamp (show i < 2 ^ 31 by omega), nI_clamp (show z + i < 2 ^ 31 by omega), nI_clamp (show z + 6 + i < 2 ^ 31 by omega), nI_clamp (show z + 12 + i < 2 ^ 31 by omega), nI_1]
    rw [ok_some]
    refine Or.inl ⟨_, rfl, rfl, ((hf.su (by omega)).su (by omega)).su (by omega), fun g hg => ?_⟩
    have c48 : τ.1 71 (z + i) = σ.1 71 (z + i) := hf 71 _ (by omega)
    have c49 : (su τ 48 i (τ.1 71 (z + i))).1 71 (z + 6 + i) = σ.1 71 (z + 6 + i) := hf 71 _ (by omega)
    have c50 : (su (su τ 48 i (τ.1 71 (z + i))) 49 i ((su τ 48 i (τ.1 71 (z + i))).1 71 (z + 6 + i))).1 71 (z + 12 + i) = σ.1 71 (z + 12 + i) := hf 71 _ (by omega)
    rw [c50, c49, c48]
    by_cases q : g = i
    · subst q
      refine ⟨?_, ?_, ?_⟩
      · rw [su_at, if_neg (by omega), su_at, if_neg (by omega), su_at, if_pos ⟨rfl, rfl⟩]
      · rw [su_at, if_neg (by omega), su_at, if_pos ⟨rfl, rfl⟩]
      · rw [su_at, if_pos ⟨rfl, rfl⟩]
    · refine ⟨?_, ?_, ?_⟩
      · rw [su_at, if_neg (by omega), su_at, if_neg (by omega), su_at, if_neg (by omega)]
        exact (hr g (by omega)).1
      · rw [su_at, if_neg (by omega), su_at, if_neg (by omega), su_at, if_neg (by omega)]
        exact (hr g (by omega)).2.1
      · rw [su_at, if_neg (by omega), su_at, if_neg (by omega), su_at, if_neg (by omega)]
        exact (hr g (by omega)).2.2
  · rintro ⟨τ, x3⟩ ⟨e, hf, hr⟩
    dsimp only at e hf hr
    subst e
    unfold f_X8_goBack_l33
    rw [if_pos (show (6 : Int32) ≤ nI 6 by decide), ok_some]
    exact ⟨_, rfl, hf, hr⟩
theorem lt2 {i : Nat} (h : i < 2) : i = 0 ∨ i = 1 := by omega
theorem nar1 : vp_nar .boolean (1 : Int32) = 1 := by decide
theorem c_keep {σ : Sto} {i : Nat} (hi : i < 2) : Ok (f_X7_keep σ (nI i)) (fun y => y.2 = 1 ∧ ∃ τ, Bec σ τ (15 + 4 * i) 10 ∧ y.1 = su τ 23 i 1) := by
  unfold f_X7_keep
  rcases lt2 hi with e | e
  · subst e
    rw [if_neg (show ¬ nI 0 < 0 by decide), if_pos (show nI 0 < 2 by decide), if_pos (show nI 0 = 0 by decide), ok_gd]
    refine ⟨by decide, ok_bd1.mpr (ok_mono (c_bec_15_10 σ) (fun τ hτ => ?_))⟩
    rw [ok_gd]
    exact ⟨by decide, ok_some.mpr ⟨rfl, τ, hτ, rfl⟩⟩
  · subst e
    rw [if_neg (show ¬ nI 1 < 0 by decide), if_pos (show nI 1 < 2 by decide), if_neg (show ¬ nI 1 = 0 by decide), ok_gd]
    refine ⟨by decide, ok_bd1.mpr (ok_mono (c_bec_19_10 σ) (fun τ hτ => ?_))⟩
    rw [ok_gd]
    exact ⟨by decide, ok_some.mpr ⟨rfl, τ, hτ, rfl⟩⟩
theorem m_keep {σ : Sto} {i : Nat} (hi : i < 2) : Ok (f_X8_keep σ (nI i)) (fun y => y.2 = 1 ∧ ∃ τ, Fr (fun k j => k = 71 ∧ 25 * i ≤ j ∧ j < 25 * i + 22) σ τ ∧ (∀ g, g < 6 → τ.1 71 (25 * i + g) = σ.1 48 g ∧ τ.1 71 (25 * i + 6 + g) = σ.1 49 g ∧ τ.1 71 (25 * i + 12 + g) = σ.1 50 g) ∧ (τ.1 71 (25 * i + 18) = σ.1 39 13 ∧ τ.1 71 (25 * i + 19) = σ.1 39 17 ∧ τ.1 71 (25 * i + 20) = σ.1 39 18 ∧ τ.1 71 (25 * i + 21) = σ.1 39 19) ∧ y.1 = su τ 72 i 1) := by
  unfold f_X8_keep
  have hr : rgB (nI i) 0 1 = true := by
    rcases lt2 hi with e | e
    · subst e; decide
    · subst e; decide
  have e25 : (25 : Int32) = nI 25 := rfl
  have e18 : (18 : Int32) = nI 18 := rfl
  have e19 : (19 : Int32) = nI 19 := rfl
  have e20 : (20 : Int32) = nI 20 := rfl
  have e21 : (21 : Int32) = nI 21 := rfl
  rw [m_inI _ _ _ _ (li := 0) (hi := 1) (by decide) (by decide), bd2_eq, hr, bB_t, if_neg (by decide), e25, pk_mul, e18, e19, e20, e21, bs_eq, bs_eq, ok_bE1]
  refine ok_mono (m_keepL (nI i) (show 25 * i ≤ 25 by omega)) (fun y hy => ?_)
  obtain ⟨hf, hrow⟩ := hy
  simp only [nI_add, bs_eq, inB_n (show 25 * i + 18 < 50 by omega) (by decide), inB_n (show 25 * i + 19 < 50 by omega) (by decide), inB_n (show 25 * i + 20 < 50 by omega) (by decide), inB_n (show 25 * i + 21 < 50 by omega) (by decide), inB_n hi (by decide), gd_true, nI_clamp (show i < 2 ^ 31 by omega), nI_clamp (show 25 * i + 18 < 2 ^ 31 by omega), nI_clamp (show 25 * i + 19 < 2 ^ 31 by omega), nI_clamp (show 25 * i + 20 < 2 ^ 31 by omega), nI_clamp (show 25 * i + 21 < 2 ^ 31 by omega)]
  rw [ok_some, nar1]
  refine ⟨rfl, _, (((hf.su (by omega)).su (by omega)).su (by omega)).su (by omega), fun g hg => ⟨?_, ?_, ?_⟩, ⟨?_, ?_, ?_, ?_⟩, rfl⟩
  · rw [su_at, if_neg (by omega), su_at, if_neg (by omega), su_at, if_neg (by omega), su_at, if_neg (by omega)]
    exact (hrow g hg).1
  · rw [su_at, if_neg (by omega), su_at, if_neg (by omega), su_at, if_neg (by omega), su_at, if_neg (by omega)]
    exact (hrow g hg).2.1
  · rw [su_at, if_neg (by omega), su_at, if_neg (by omega), su_at, if_neg (by omega), su_at, if_neg (by omega)]
    exact (hrow g hg).2.2
  · rw [su_at, if_neg (by omega), su_at, if_neg (by omega), su_at, if_neg (by omega), su_at, if_pos ⟨rfl, rfl⟩]
    exact hf 39 13 (by omega)
  · rw [su_at, if_neg (by omega), su_at, if_neg (by omega), su_at, if_pos ⟨rfl, rfl⟩]
    exact hf 39 17 (by omega)
  · rw [su_at, if_neg (by omega), su_at, if_pos ⟨rfl, rfl⟩]
    exact hf 39 18 (by omega)
  · rw [su_at, if_pos ⟨rfl, rfl⟩]
    exact hf 39 19 (by omega)
theorem s_keep (a : Int32) : CallR (fun σ => f_X7_keep σ a) (fun σ => f_X8_keep σ a) := by
  intro N σ hN hR
  obtain ⟨nb, ns, ng, nh, h⟩ := id hR
  obtain ⟨hP, hS, hT, hA, hB, hI⟩ := h.up (show N ≤ N + 1 by omega)
  by_cases c : inB a 2 = true
  · obtain ⟨i, hi, rfl⟩ := inB_ex c (by decide)
    refine ok_mono (c_keep hi) (fun y hy => ?_)
    obtain ⟨y1, y2⟩ := y
    obtain ⟨e1, τ, hb, e2⟩ := hy
    dsimp only at e1 e2 ⊢
    subst e1 e2
    refine ok_mono (m_keep hi) (fun z hz => ?_)
    obtain ⟨z1, z2⟩ := z
    obtain ⟨e1, ρ, hf, hrow, ⟨q1, q2, q3, q4⟩, e2⟩ := hz
    dsimp only at e1 e2 ⊢
    subst e1 e2
    refine ⟨rfl, ?_⟩
    obtain ⟨b0, b1, b2, b3, b4, b5, b6, b7⟩ := hb
    have hfa : Fr (fun k j => (15 + 4 * i ≤ k ∧ k ≤ 15 + 4 * i + 3) ∨ (k = 23 ∧ j = i) ∨ (k = 71 ∧ 25 * i ≤ j ∧ j < 25 * i + 22) ∨ (k = 72 ∧ j = i)) σ (su ρ 72 i 1) := ((((b0.mono (fun k j q => by omega)).su (by omega)).tr (hf.mono (fun k j q => by omega)))).su (by omega)
    refine ⟨nb, ns, ng, nh, hP.cg (fun k j q => hfa k j (by unfold dPL at q; omega)), hS.cg (fun k j q => hfa k j (by unfold dSN at q; omega)), hT.cg (fun k j q => hfa k j (by unfold dTX at q; omega)), hA.cg (fun k j q => hfa k j (by unfold dTA at q; omega)), hB.cg (fun k j q => hfa k j (by unfold dBK at q; omega)), fun m hm => ?_⟩
    by_cases e : m = i
    · subst e
      have r23 : (su ρ 72 m 1).1 23 m = 1 := by
        rw [su_at, if_neg (by omega), hf 23 m (by omega), su_at, if_pos ⟨rfl, rfl⟩]
      have r72 : (su ρ 72 m 1).1 72 m = 1 := by
        rw [su_at, if_pos ⟨rfl, rfl⟩]
      rw [r23, r72]
      refine ⟨⟨rfl, Or.inr rfl⟩, fun _ => ?_⟩
      -- the rows of the image, back to the state's
      have k1 : ∀ k j, 15 + 4 * m ≤ k → k ≤ 15 + 4 * m + 3 → (su ρ 72 m 1).1 k j = τ.1 k j := by
        intro k j h1 h2
        rw [su_at, if_neg (by omega), hf k j (by omega), su_at, if_neg (by omega)]
      have k2 : ∀ j, (su ρ 72 m 1).1 71 j = ρ.1 71 j := fun j => rfl
      have s48 : ∀ j, (su τ 23 m 1).1 48 j = σ.1 48 j := fun j => b0 48 j (by omega)
      have s49 : ∀ j, (su τ 23 m 1).1 49 j = σ.1 49 j := fun j => b0 49 j (by omega)
      have s50 : ∀ j, (su τ 23 m 1).1 50 j = σ.1 50 j := fun j => b0 50 j (by omega)
      have s39 : ∀ j, (su τ 23 m 1).1 39 j = σ.1 39 j := fun j => b0 39 j (by omega)
      rw [k1 _ 3 (by omega) (by omega), k1 _ 4 (by omega) (by omega), k1 _ 5 (by omega) (by omega), k1 _ 6 (by omega) (by omega), k2, k2, k2, k2, q1, q2, q3, q4, b4, b5, b6, b7, s39, s39, s39, s39]
      refine SR.cgp hS hP.1.2.2.1 hP.1.2.2.2 (fun g hg => ?_) (fun g hg => ?_) (fun g hg => ?_) (fun g hg => ?_) (fun g hg => ?_) (fun g hg => ?_)
      · rw [k1 _ g (by omega) (by omega), show 16 + 4 * m = 15 + 4 * m + 1 by omega, b1 g hg]
      · rw [k1 _ g (by omega) (by omega), show 17 + 4 * m = 15 + 4 * m + 2 by omega, b2 g hg]
      · rw [k1 _ g (by omega) (by omega), show 18 + 4 * m = 15 + 4 * m + 3 by omega, b3 g hg]
      · rw [k2, (hrow g hg).1, s48]
      · rw [k2, (hrow g hg).2.1, s49]
      · rw [k2, (hrow g hg).2.2, s50]
    · have old := hI m hm
      rw [hfa 23 m (by omega), hfa 72 m (by omega)]
      refine ⟨old.1, fun q => ?_⟩
      have row : ∀ k, (k = 15 + 4 * m ∨ k = 16 + 4 * m ∨ k = 17 + 4 * m ∨ k = 18 + 4 * m) → (su ρ 72 i 1).1 k = σ.1 k := fun k hk => funext (fun j => hfa k j (by omega))
      have r71 : ∀ j, j < 22 → (su ρ 72 i 1).1 71 (25 * m + j) = σ.1 71 (25 * m + j) := fun j hj => hfa 71 _ (by omega)
      rw [row _ (by omega), row _ (by omega), row _ (by omega), row _ (by omega), r71 18 (by omega), r71 19 (by omega), r71 20 (by omega), r71 21 (by omega)]
      refine SR.cgp (old.2 q) hP.1.2.2.1 hP.1.2.2.2 (fun g hg => rfl) (fun g hg => rfl) (fun g hg => rfl) (fun g hg => r71 g (by omega)) (fun g hg => ?_) (fun g hg => ?_)
      · have := r71 (6 + g) (by omega)
        rw [← Nat.add_assoc] at this
        exact this
      · have := r71 (12 + g) (by omega)
        rw [← Nat.add_assoc] at this
        exact this
  · refine stp_eq (f7 := fun σ => f_X7_keep σ a) (f8 := fun σ => f_X8_keep σ a) hR (v := -1000000001) ?_ ?_
    · unfold f_X7_keep f_X7_keep_j9
      by_cases c1 : a < 0
      · rw [if_pos c1]
      · rw [if_neg c1, if_neg]
        intro q
        exact c (inB_iff.mpr ⟨i_nlt.mp c1, i_lt.mp q⟩)
    · unfold f_X8_keep
      have hr : rgB a 0 1 = inB a 2 := rg_inB a 2
      rw [m_inI _ _ _ _ (li := 0) (hi := 1) (by decide) (by decide), bd2_eq, hr, bB_if, if_neg c]
theorem c_back {σ : Sto} {i : Nat} (hi : i < 2) : Ok (f_X7_goBack σ (nI i)) (fun y => (σ.1 23 i = 0 → y = (σ, -1000000003)) ∧ (¬ σ.1 23 i = 0 → y.2 = 1 ∧ Bec σ y.1 10 (15 + 4 * i))) := by
  unfold f_X7_goBack
  rcases lt2 hi with e | e
  · subst e
    rw [if_neg (show ¬ nI 0 < 0 by decide), if_pos (show nI 0 < 2 by decide), if_pos (show nI 0 = 0 by decide), ok_gd]
    refine ⟨by decide, ok_if.mpr ⟨fun q => ?_, fun q => ?_⟩⟩
    · exact ok_some.mpr ⟨fun _ => rfl, fun q2 => absurd q q2⟩
    · rw [ok_gd]
      exact ⟨by decide, ok_bd1.mpr (ok_mono (c_bec_10_15 σ) (fun τ hτ => ok_some.mpr ⟨fun q2 => absurd q2 q, fun _ => ⟨rfl, hτ⟩⟩))⟩
  · subst e
    rw [if_neg (show ¬ nI 1 < 0 by decide), if_pos (show nI 1 < 2 by decide), if_neg (show ¬ nI 1 = 0 by decide), ok_gd]
    refine ⟨by decide, ok_if.mpr ⟨fun q => ?_, fun q => ?_⟩⟩
    · exact ok_some.mpr ⟨fun _ => rfl, fun q2 => absurd q q2⟩
    · rw [ok_gd]
      exact ⟨by decide, ok_bd1.mpr (ok_mono (c_bec_10_19 σ) (fun τ hτ => ok_some.mpr ⟨fun q2 => absurd q2 q, fun _ => ⟨rfl, hτ⟩⟩))⟩
theorem m_back {σ : Sto} {i : Nat} (hi : i < 2) : Ok (f_X8_goBack σ (nI i)) (fun y => (σ.1 72 i = 0 → y = (σ, -1000000003)) ∧ (¬ σ.1 72 i = 0 → y.2 = 1 ∧ Fr (fun k j => (48 ≤ k ∧ k ≤ 50) ∨ (k = 39 ∧ (j = 13 ∨ j = 17 ∨ j = 18 ∨ j = 19))) σ y.1 ∧ (∀ g, g < 6 → y.1.1 48 g = σ.1 71 (25 * i + g) ∧ y.1.1 49 g = σ.1 71 (25 * i + 6 + g) ∧ y.1.1 50 g = σ.1 71 (25 * i + 12 + g)) ∧ (y.1.1 39 13 = σ.1 71 (25 * i + 18) ∧ y.1.1 39 17 = σ.1 71 (25 * i + 19) ∧ y.1.1 39 18 = σ.1 71 (25 * i + 20) ∧ y.1.1 39 19 = σ.1 71 (25 * i + 21)))) := by
  unfold f_X8_goBack
  have hr : rgB (nI i) 0 1 = true := by
    rcases lt2 hi with e | e
    · subst e; decide
    · subst e; decide
  have e25 : (25 : Int32) = nI 25 := rfl
  have e18 : (18 : Int32) = nI 18 := rfl
  have e19 : (19 : Int32) = nI 19 := rfl
  have e20 : (20 : Int32) = nI 20 := rfl
  have e21 : (21 : Int32) = nI 21 := rfl
  rw [m_inI _ _ _ _ (li := 0) (hi := 1) (by decide) (by decide), bd2_eq, hr, bB_t, if_neg (by decide), inB_n hi (by decide), gd_true, nI_clamp (show i < 2 ^ 31 by omega)]
  refine ok_if.mpr ⟨fun q => ok_some.mpr ⟨fun _ => rfl, fun q2 => absurd q q2⟩, fun q => ?_⟩
  rw [e25, pk_mul, e18, e19, e20, e21, bs_eq, bs_eq, ok_bE1]
  refine ok_mono (m_backL (show 25 * i ≤ 25 by omega)) (fun y hy => ?_)
  obtain ⟨hf, hrow⟩ := hy
  simp only [nI_add, bs_eq, inB_n (show 25 * i + 18 < 50 by omega) (by decide), inB_n (show 25 * i + 19 < 50 by omega) (by decide), inB_n (show 25 * i + 20 < 50 by omega) (by decide), inB_n (show 25 * i + 21 < 50 by omega) (by decide), gd_true, nI_clamp (show 25 * i + 18 < 2 ^ 31 by omega), nI_clamp (show 25 * i + 19 < 2 ^ 31 by omega), nI_clamp (show 25 * i + 20 < 2 ^ 31 by omega), nI_clamp (show 25 * i + 21 < 2 ^ 31 by omega)]
  rw [ok_some]
  exact ⟨fun q2 => absurd q2 q, fun _ => ⟨rfl, ((((hf.mono (fun k j z => Or.inl z)).su (by omega)).su (by omega)).su (by omega)).su (by omega), hrow, hf 71 _ (by omega), hf 71 _ (by omega), hf 71 _ (by omega), hf 71 _ (by omega)⟩⟩
theorem s_goBack (a : Int32) : CallR (fun σ => f_X7_goBack σ a) (fun σ => f_X8_goBack σ a) := by
  intro N σ hN hR
  obtain ⟨nb, ns, ng, nh, h⟩ := id hR
  obtain ⟨hP, hS, hT, hA, hB, hI⟩ := h.up (show N ≤ N + 1 by omega)
  by_cases c : inB a 2 = true
  · obtain ⟨i, hi, rfl⟩ := inB_ex c (by decide)
    have old := hI i hi
    refine ok_mono (c_back hi) (fun y hy => ?_)
    by_cases q : σ.1 23 i = 0
    · rw [hy.1 q]
      refine ok_mono (m_back hi) (fun z hz => ?_)
      have := hz.1 (old.1.1.symm.trans q)
      rw [this]
      exact ⟨rfl, hR.up (by omega)⟩
    · obtain ⟨y1, y2⟩ := y
      obtain ⟨e1, b0, b1, b2, b3, b4, b5, b6, b7⟩ := hy.2 q
      dsimp only at e1 b0 b1 b2 b3 b4 b5 b6 b7 ⊢
      subst e1
      refine ok_mono (m_back hi) (fun z hz => ?_)
      have q72 : ¬ y1.1 72 i = 0 := by
        rw [b0 72 i (by omega), ← old.1.1]
        exact q
      obtain ⟨z1, z2⟩ := z
      obtain ⟨e1, hf, hrow, q1, q2, q3, q4⟩ := hz.2 q72
      dsimp only at e1 hf hrow q1 q2 q3 q4 ⊢
      subst e1
      refine ⟨rfl, h.st ((b0.mono (fun k j z => by unfold dSN; omega)).tr (hf.mono (fun k j z => by unfold dSN; omega))) ?_⟩
      have o2 := old.2 (old.1.2.resolve_left q)
      unfold SN
      have s71 : ∀ j, y1.1 71 j = σ.1 71 j := fun j => b0 71 j (by omega)
      rw [hf 10 3 (by omega), hf 10 4 (by omega), hf 10 5 (by omega), hf 10 6 (by omega), b4, b5, b6, b7, q1, q2, q3, q4, s71, s71, s71, s71]
      refine SR.cgp o2 hP.1.2.2.1 hP.1.2.2.2 (fun g hg => ?_) (fun g hg => ?_) (fun g hg => ?_) (fun g hg => ?_) (fun g hg => ?_) (fun g hg => ?_)
      · rw [hf 11 g (by omega), show 16 + 4 * i = 15 + 4 * i + 1 by omega]; exact b1 g hg
      · rw [hf 12 g (by omega), show 17 + 4 * i = 15 + 4 * i + 2 by omega]; exact b2 g hg
      · rw [hf 13 g (by omega), show 18 + 4 * i = 15 + 4 * i + 3 by omega]; exact b3 g hg
      · rw [(hrow g hg).1, s71]
      · rw [(hrow g hg).2.1, s71]
      · rw [(hrow g hg).2.2, s71]
  · refine stp_eq (f7 := fun σ => f_X7_goBack σ a) (f8 := fun σ => f_X8_goBack σ a) hR (v := -1000000001) ?_ ?_
    · unfold f_X7_goBack f_X7_goBack_j9
      by_cases c1 : a < 0
      · rw [if_pos c1]
      · rw [if_neg c1, if_neg]
        intro q
        exact c (inB_iff.mpr ⟨i_nlt.mp c1, i_lt.mp q⟩)
    · unfold f_X8_goBack
      have hr : rgB a 0 1 = inB a 2 := rg_inB a 2
      rw [m_inI _ _ _ _ (li := 0) (hi := 1) (by decide) (by decide), bd2_eq, hr, bB_if, if_neg c]
