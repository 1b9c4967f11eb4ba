/-! hats: the reference's way through the codes -/
theorem htP_ok {σ : Sto} {ng nh c : Nat} (hng : ng ≤ 6) (hnh : nh ≤ 4) (h : okH σ ng nh c = true) : (∀ s, s < nh → IsWho (htP ng nh c) (nI s) ng (rowH ng nh c s)) ∧ (∀ g, g < ng → htP ng nh c g = -1 ∨ inB (htP ng nh c g) nh = true) ∧ Inj (htP ng nh c) ng := by
  obtain ⟨nd, -⟩ := okH_iff.mp h
  have dl : ∀ s, dgT (ng + 1) nh c s < ng + 1 := fun s => dgT_lt (Nat.succ_pos ng)
  have who : ∀ g, g < ng → ∀ s, s < nh → htP ng nh c g = nI s → dgT (ng + 1) nh c s = g + 1 := by
    intro g hg s hs e
    rcases whoN_is (rowH ng nh c) (nI g) nh with ⟨k1, k2⟩ | ⟨s', k1, k2, k3⟩
    · exact absurd (k1.symm.trans e).symm (nI_ne_m1 (by omega))
    · have e2 : s' = s := (nI_eq (by omega) (by omega)).mp (k2.symm.trans e)
      subst e2
      exact rwH_nI (by omega) (Nat.lt_trans (dl s') (by omega)) k3
  refine ⟨fun s hs => ?_, fun g hg => htP_in hnh, fun g g' h1 h2 e h0 => ?_⟩
  · have hl := dl s
    rcases Nat.eq_zero_or_pos (dgT (ng + 1) nh c s) with cd | cd
    · refine Or.inl ⟨?_, fun g hg e => ?_⟩
      · show rwH (dgT (ng + 1) nh c s) = -1
        rw [cd]
        rfl
      · have := who g hg s hs e
        omega
    · refine Or.inr ⟨dgT (ng + 1) nh c s - 1, by omega, if_neg (by omega), ?_⟩
      exact htP_some hng hnh (by omega) nd hs (by omega)
  · rcases whoN_is (rowH ng nh c) (nI g) nh with ⟨k1, k2⟩ | ⟨s', k1, k2, k3⟩
    · have : htP ng nh c g = -1 := k1
      rw [this] at h0
      exact absurd h0 (by decide)
    · have e1 := who g h1 s' k1 k2
      have e2 := who g' h2 s' k1 (e.symm.trans k2)
      omega
theorem m_lendClr {Y : Sto} {ng : Nat} (hng : ng ≤ 6) (h8 : Y.1 39 8 = nI ng) (a b : Int32) : Ok (lpF (fun t => f_X8_lendBy_l7 a b t.1 t.2) FU (Y, (0 : Int32))) (fun y => Fr (fun k j => k = 49 ∧ j < ng) Y y.1 ∧ ∀ g, g < ng → y.1.1 49 g = -1) := by
  refine lp_for (fun i t => t.2 = nI i ∧ Fr (fun k j => k = 49 ∧ j < ng) Y t.1 ∧ ∀ g, g < i → t.1.1 49 g = -1) ng (FU_big (by omega)) ⟨rfl, Fr.rf, fun g q => absurd q (Nat.not_lt_zero g)⟩ ?_ ?_
  · rintro i ⟨Z, x⟩ hi ⟨e, hf, hr⟩
    dsimp only at e hf hr ⊢
    subst e
    have e8 : Z.1 39 8 = nI ng := (hf 39 8 (by omega)).trans h8
    unfold f_X8_lendBy_l7
    rw [e8, if_neg (nI_ge hi (by omega)), inB_n (show i < 7 by omega) (by omega), gd_true, ok_bs, ok_bs, ok_some, nI_clamp (show i < 2 ^ 31 by omega), nI_1]
    refine Or.inl ⟨_, rfl, rfl, hf.su ⟨rfl, hi⟩, fun g hg => ?_⟩
    rw [su_at]
    by_cases q : g = i
    · subst q; rw [if_pos ⟨rfl, rfl⟩]
    · rw [if_neg (fun z => q z.2)]; exact hr g (by omega)
  · rintro ⟨Z, x⟩ ⟨e, hf, hr⟩
    dsimp only at e hf hr ⊢
    subst e
    have e8 : Z.1 39 8 = nI ng := (hf 39 8 (by omega)).trans h8
    unfold f_X8_lendBy_l7
    rw [e8, if_pos (nI_le (Nat.le_refl ng) (by omega)), ok_some]
    exact ⟨_, rfl, hf, hr⟩
/-- no one with two of the hats lo .. hi-1, and all who have one stand -/
def gdH (σ : Sto) (dg : Nat → Nat) (lo hi : Nat) : Prop := (∀ s s', lo ≤ s → s < hi → lo ≤ s' → s' < hi → dg s = dg s' → 0 < dg s → s = s') ∧ ∀ s, lo ≤ s → s < hi → 0 < dg s → stB σ (dg s - 1) = true
theorem m_lendL {σ Y : Sto} {ng nh c : Nat} (hng : ng ≤ 6) (hnh : nh ≤ 4) (hc : c < 2 ^ 31) (h8 : Y.1 39 8 = nI ng) (h48 : ∀ g, Y.1 48 g = σ.1 48 g) (h0 : ∀ g, g < ng → Y.1 49 g = -1) : Ok (lpF (fun t => f_X8_lendBy_l38 t.1 t.2.1 t.2.2.1 t.2.2.2) FU (Y, nI c, (1 : Int32), nI nh + (-1))) (fun y => Fr (fun k j => k = 49 ∧ j < ng) Y y.1 ∧ (∃ b, y.2.2.1 = bB b ∧ (b = true ↔ gdH σ (dgT (ng + 1) nh c) 0 nh)) ∧ ∀ g, g < ng → WhoD (dgT (ng + 1) nh c) 0 nh (g + 1) (y.1.1 49 g)) := by
  refine lp_for (fun i t => t.2.2.2 = nI (nh - i) + (-1) ∧ t.2.1 = nI (c / (ng + 1) ^ i) ∧ Fr (fun k j => k = 49 ∧ j < ng) Y t.1 ∧ (∃ b, t.2.2.1 = bB b ∧ (b = true ↔ gdH σ (dgT (ng + 1) nh c) (nh - i) nh)) ∧ ∀ g, g < ng → WhoD (dgT (ng + 1) nh c) (nh - i) nh (g + 1) (t.1.1 49 g)) nh (FU_big (by omega)) ⟨rfl, by rw [Nat.pow_zero, Nat.div_one], Fr.rf, ⟨true, rfl, ⟨fun _ => ⟨fun s s' h1 h2 => by omega, fun s h1 h2 => by omega⟩, fun _ => rfl⟩⟩, fun g hg => Or.inl ⟨h0 g hg, fun s h1 h2 => by omega⟩⟩ ?_ ?_
  · rintro i ⟨Z, x3, x5, x6⟩ hi ⟨e6, e3, hf, ⟨b, e5, hb⟩, hw⟩
    dsimp only at e6 e3 hf e5 hw ⊢
    obtain ⟨s, hs⟩ : ∃ s, nh - i = s + 1 := ⟨nh - i - 1, by omega⟩
    rw [hs, pk_m1] at e6
    subst e6 e3 e5
    rw [hs] at hb hw
    have e8 : Z.1 39 8 = nI ng := (hf 39 8 (by omega)).trans h8
    have e48 : ∀ g, Z.1 48 g = σ.1 48 g := fun g => (hf 48 g (by omega)).trans (h48 g)
    have es : nh - (i + 1) = s := by omega
    have hneg : ¬ nI s < 0 := nI_pos (by omega)
    have hq : c / (ng + 1) ^ i < 2 ^ 31 := Nat.lt_of_le_of_lt (Nat.div_le_self _ _) hc
    have hz : nzI (nI (ng + 1)) = true := decide_eq_true (fun q => by
      have := i_eq.mp q
      rw [nI_toInt (by omega)] at this
      have z : (0 : Int32).toInt = 0 := rfl
      omega)
    have ed : c / (ng + 1) ^ i % (ng + 1) = dgT (ng + 1) nh c s := by
      unfold dgT
      rw [show nh - 1 - s = i by omega]
    have er : iR (nI (c / (ng + 1) ^ i)) (nI (ng + 1)) = nI (dgT (ng + 1) nh c s) := by
      rw [← ed]
      exact pk_rem hq (by omega) (by omega)
    have ev : nI (c / (ng + 1) ^ i) / nI (ng + 1) = nI (c / (ng + 1) ^ (i + 1)) := by
      rw [pk_div hq (by omega) (by omega), Nat.div_div_eq_div_mul, Nat.pow_succ]
    have hdl : dgT (ng + 1) nh c s < ng + 1 := Nat.mod_lt _ (Nat.succ_pos ng)
    unfold f_X8_lendBy_l38 f_X8_lendBy_j97 f_X8_lendBy_j98 f_X8_lendBy_j108
    rw [if_neg hneg, e8, nI_1, hz, er, ev]
    simp only [bsN, gd_true]
    generalize hdg : dgT (ng + 1) nh c = dg at *
    rcases Nat.eq_zero_or_pos (dg s) with c1 | c1
    · rw [c1, if_pos (show nI 0 - 1 < 0 by decide), ok_some]
      refine Or.inl ⟨_, rfl, by rw [es], rfl, hf, ⟨b, rfl, ?_⟩, fun g hg => ?_⟩
      · rw [es, hb]
        constructor
        · intro nd
          refine ⟨fun s1 s2 h1 h2 h3 h4 e hl => ?_, fun s1 h1 h2 hl => ?_⟩
          · by_cases q1 : s1 = s
            · subst q1; omega
            · by_cases q2 : s2 = s
              · subst q2; omega
              · exact nd.1 s1 s2 (by omega) h2 (by omega) h4 e hl
          · by_cases q1 : s1 = s
            · subst q1; omega
            · exact nd.2 s1 (by omega) h2 hl
        · exact fun nd => ⟨fun s1 s2 h1 h2 h3 h4 => nd.1 s1 s2 (by omega) h2 (by omega) h4, fun s1 h1 h2 => nd.2 s1 (by omega) h2⟩
      · rw [es]
        rcases hw g hg with ⟨k1, k2⟩ | ⟨s', k1, k2, k3, k4⟩
        · refine Or.inl ⟨k1, fun s' h1 h2 => ?_⟩
          by_cases q2 : s' = s
          · subst q2; omega
          · exact k2 s' (by omega) h2
        · exact Or.inr ⟨s', by omega, k2, k3, k4⟩
    · obtain ⟨g0, eg0⟩ : ∃ g0, dg s = g0 + 1 := ⟨dg s - 1, by omega⟩
      have hg0 : g0 < ng := by omega
      have em1 : nI (g0 + 1) - 1 = nI g0 := pk_sub (b := 1) (by omega)
      rw [eg0, em1, if_neg (nI_pos (show g0 < 2 ^ 31 by omega)), inB_n (show g0 < 7 by omega) (by omega)]
      simp only [gd_true, nI_clamp (show g0 < 2 ^ 31 by omega)]
      -- the new places
      have nw : ∀ g, g < ng → WhoD dg s nh (g + 1) ((su Z 49 g0 (nI s)).1 49 g) := by
        intro g hg
        rw [su_at]
        by_cases q : g = g0
        · rw [if_pos ⟨rfl, q⟩]
          exact Or.inr ⟨s, Nat.le_refl s, by omega, rfl, by omega⟩
        · rw [if_neg (fun z => q z.2)]
          rcases hw g hg with ⟨k1, k2⟩ | ⟨s', k1, k2, k3, k4⟩
          · refine Or.inl ⟨k1, fun s' h1 h2 => ?_⟩
            by_cases q2 : s' = s
            · subst q2; omega
            · exact k2 s' (by omega) h2
          · exact Or.inr ⟨s', by omega, k2, k3, k4⟩
      have hfn : Fr (fun k j => k = 49 ∧ j < ng) Y (su Z 49 g0 (nI s)) := hf.su ⟨rfl, hg0⟩
      have out0 : ¬ gdH σ dg s nh → Ok (some (Sum.inl (su Z 49 g0 (nI s), nI (c / (ng + 1) ^ (i + 1)), (0 : Int32), nI s + (-1)) : (Sto × Int32 × Int32 × Int32) ⊕ (Sto × Int32 × Int32 × Int32))) (fun y => (∃ x', y = .inl x' ∧ x'.2.2.2 = nI (nh - (i + 1)) + (-1) ∧ x'.2.1 = nI (c / (ng + 1) ^ (i + 1)) ∧ Fr (fun k j => k = 49 ∧ j < ng) Y x'.1 ∧ (∃ b, x'.2.2.1 = bB b ∧ (b = true ↔ gdH σ dg (nh - (i + 1)) nh)) ∧ ∀ g, g < ng → WhoD dg (nh - (i + 1)) nh (g + 1) (x'.1.1 49 g)) ∨ ∃ e, y = .inr e ∧ Fr (fun k j => k = 49 ∧ j < ng) Y e.1 ∧ (∃ b, e.2.2.1 = bB b ∧ (b = true ↔ gdH σ dg 0 nh)) ∧ ∀ g, g < ng → WhoD dg 0 nh (g + 1) (e.1.1 49 g)) := by
        intro no
        rw [ok_some]
        refine Or.inl ⟨_, rfl, by rw [es], rfl, hfn, ⟨false, rfl, ⟨fun z => (by cases z), fun nd => ?_⟩⟩, by rw [es]; exact nw⟩
        rw [es] at nd
        exact absurd nd no
      cases b with
      | false =>
        rw [if_pos (show bB false = 0 by rfl)]
        refine out0 (fun nd => ?_)
        have := hb.mpr ⟨fun s1 s2 h1 h2 h3 h4 => nd.1 s1 s2 (by omega) h2 (by omega) h4, fun s1 h1 h2 => nd.2 s1 (by omega) h2⟩
        cases this
      | true =>
        rw [if_neg (show ¬ bB true = 0 by decide)]
        have hnd := hb.mp rfl
        by_cases cs : Z.1 48 g0 < 0
        · rw [if_pos cs]
          refine out0 (fun nd => ?_)
          have h1 := nd.2 s (Nat.le_refl s) (by omega) (by omega)
          rw [eg0] at h1
          have h2 : (0 : Int32) ≤ σ.1 48 g0 := of_decide_eq_true h1
          rw [e48] at cs
          have h3 := i_le.mp h2
          have h4 := i_lt.mp cs
          omega
        · rw [if_neg cs]
          rcases hw g0 hg0 with ⟨k1, k2⟩ | ⟨s', k1, k2, k3, k4⟩
          · rw [k1, if_neg (by decide), ok_some]
            refine Or.inl ⟨_, rfl, by rw [es], rfl, hfn, ⟨true, rfl, ⟨fun _ => ?_, fun _ => rfl⟩⟩, by rw [es]; exact nw⟩
            rw [es]
            refine ⟨fun s1 s2 h1 h2 h3 h4 e hl => ?_, fun s1 h1 h2 hl => ?_⟩
            · by_cases q1 : s1 = s
              · subst q1
                by_cases q2 : s2 = s1
                · exact q2.symm
                · exact absurd (e.symm.trans eg0) (k2 s2 (by omega) h4)
              · by_cases q2 : s2 = s
                · subst q2
                  exact absurd (e.trans eg0) (k2 s1 (by omega) h2)
                · exact hnd.1 s1 s2 (by omega) h2 (by omega) h4 e hl
            · by_cases q1 : s1 = s
              · subst q1
                rw [eg0]
                refine decide_eq_true ?_
                rw [← e48]
                exact i_le.mpr (i_nlt.mp cs)
              · exact hnd.2 s1 (by omega) h2 hl
          · rw [k3, if_pos (nI_pos' (by omega))]
            refine out0 (fun nd => ?_)
            have := nd.1 s' s (by omega) k2 (Nat.le_refl s) (by omega) (k4.trans eg0.symm) (by omega)
            omega
  · rintro ⟨Z, x3, x5, x6⟩ ⟨e6, e3, hf, hb, hw⟩
    dsimp only at e6 e3 hf hb hw ⊢
    rw [Nat.sub_self] at e6 hb hw
    subst e6
    unfold f_X8_lendBy_l38
    rw [if_pos (show nI 0 + (-1) < 0 by decide), ok_some]
    exact ⟨_, rfl, hf, hb, hw⟩
theorem m_lendBy {σ Y : Sto} {ng nh c : Nat} (hng : ng ≤ 6) (hnh : nh ≤ 4) (hc : c < 2 ^ 31) (h8 : Y.1 39 8 = nI ng) (h10 : Y.1 39 10 = nI nh) (h48 : ∀ g, Y.1 48 g = σ.1 48 g) : Ok (f_X8_lendBy Y (nI c)) (fun y => y.2 = bB (okH σ ng nh c) ∧ Fr (fun k j => k = 49 ∧ j < ng) Y y.1 ∧ (okH σ ng nh c = true → ∀ g, g < ng → y.1.1 49 g = htP ng nh c g)) := by
  unfold f_X8_lendBy
  rw [ok_bs, ok_bs, ok_bs, ok_bE1]
  refine ok_mono (m_lendClr hng h8 _ _) (fun y hy => ?_)
  obtain ⟨Z, x⟩ := y
  obtain ⟨hf, hr⟩ := hy
  dsimp only at hf hr ⊢
  have z8 : Z.1 39 8 = nI ng := (hf 39 8 (by omega)).trans h8
  have z10 : Z.1 39 10 = nI nh := (hf 39 10 (by omega)).trans h10
  have e1 : nI nh - 1 = nI nh + (-1) := by
    rcases Nat.eq_zero_or_pos nh with q | q
    · subst q; decide
    · obtain ⟨k, rfl⟩ : ∃ k, nh = k + 1 := ⟨nh - 1, by omega⟩
      rw [pk_m1]
      exact pk_sub (b := 1) (by omega)
  rw [ok_bs, z10, e1, ok_bE3]
  refine ok_mono (m_lendL (σ := σ) hng hnh hc z8 (fun g => (hf 48 g (by omega)).trans (h48 g)) hr) (fun w hw => ?_)
  obtain ⟨W, w3, w5, w6⟩ := w
  obtain ⟨hg, ⟨b, e5, hb⟩, hp⟩ := hw
  dsimp only at hg e5 hp ⊢
  subst e5
  rw [zB_bB, gd_true, ok_some]
  have hbo : b = okH σ ng nh c := by
    have ndI : gdH σ (dgT (ng + 1) nh c) 0 nh ↔ okH σ ng nh c = true := by
      rw [okH_iff]
      exact ⟨fun nd => ⟨fun s h1 s' h2 => nd.1 s s' (Nat.zero_le s) h1 (Nat.zero_le s') h2, fun s h1 => nd.2 s (Nat.zero_le s) h1⟩, fun nd => ⟨fun s s' _ h1 _ h2 => nd.1 s h1 s' h2, fun s _ h1 => nd.2 s h1⟩⟩
    cases e : okH σ ng nh c with
    | false =>
      cases b with
      | false => rfl
      | true => rw [ndI.mp (hb.mp rfl)] at e; cases e
    | true => exact hb.mpr (ndI.mpr e)
  refine ⟨by rw [hbo], hf.tr hg, fun ho g hgg => ?_⟩
  obtain ⟨nd, -⟩ := okH_iff.mp ho
  rcases hp g hgg with ⟨k1, k2⟩ | ⟨s, -, k2, k3, k4⟩
  · rw [k1]
    exact (htP_none hng hgg (fun s hs => k2 s (Nat.zero_le s) hs)).symm
  · rw [k3]
    exact (htP_some hng hnh hgg nd k2 k4).symm
