/-! standing: the reference's way through the codes -/
def WhoD (dg : Nat → Nat) (lo hi g : Nat) (r : Int32) : Prop := (r = -1 ∧ ∀ s, lo ≤ s → s < hi → ¬ dg s = g) ∨ ∃ s, lo ≤ s ∧ s < hi ∧ r = nI s ∧ dg s = g
theorem cntR_front (ng : Nat) (dg : Nat → Nat) (lo i : Nat) : cntR ng dg lo (i + 1) = cntR ng dg (lo + 1) i + (if dg lo < ng then 1 else 0) := by
  rw [Nat.add_comm i 1, cntR_add]
  show 0 + (if dg (lo + 0) < ng then 1 else 0) + _ = _
  rw [Nat.add_zero]
  omega
theorem m_standClr {Y : Sto} {ng : Nat} (hng : ng ≤ 6) (h8 : Y.1 39 8 = nI ng) (a b c d : Int32) : Ok (lpF (fun t => f_X8_standBy_l11 a b c d t.1 t.2) FU (Y, (0 : Int32))) (fun y => Fr (fun k j => k = 48 ∧ j < ng) Y y.1 ∧ ∀ g, g < ng → y.1.1 48 g = -1) := by
  refine lp_for (fun i t => t.2 = nI i ∧ Fr (fun k j => k = 48 ∧ j < ng) Y t.1 ∧ ∀ g, g < i → t.1.1 48 g = -1) ng (FU_big (by omega)) ⟨rfl, Fr.rf, fun g q => absurd q (Nat.not_lt_zero g)⟩ ?_ ?_
  · rintro i ⟨Z, x⟩ hi ⟨e, hf, hr⟩
    dsimp only at e hf hr ⊢
    subst e
    have e8 : Z.1 39 8 = nI ng := (hf 39 8 (by omega)).trans h8
    unfold f_X8_standBy_l11
    rw [e8, if_neg (nI_ge hi (by omega)), inB_n (show i < 7 by omega) (by omega), gd_true, ok_bs, ok_bs, ok_some, nI_clamp (show i < 2 ^ 31 by omega), nI_1]
    refine Or.inl ⟨_, rfl, rfl, hf.su ⟨rfl, hi⟩, fun g hg => ?_⟩
    rw [su_at]
    by_cases q : g = i
    · subst q; rw [if_pos ⟨rfl, rfl⟩]
    · rw [if_neg (fun z => q z.2)]; exact hr g (by omega)
  · rintro ⟨Z, x⟩ ⟨e, hf, hr⟩
    dsimp only at e hf hr ⊢
    subst e
    have e8 : Z.1 39 8 = nI ng := (hf 39 8 (by omega)).trans h8
    unfold f_X8_standBy_l11
    rw [e8, if_pos (nI_le (Nat.le_refl ng) (by omega)), ok_some]
    exact ⟨_, rfl, hf, hr⟩
theorem m_standL {Y : Sto} {ng ns c : Nat} (hng : ng ≤ 6) (hns : ns ≤ 6) (hc : c < 2 ^ 31) (h8 : Y.1 39 8 = nI ng) (h0 : ∀ g, g < ng → Y.1 48 g = -1) (a : Int32) : Ok (lpF (fun t => f_X8_standBy_l42 a t.1 t.2.1 t.2.2.1 t.2.2.2.1 t.2.2.2.2) FU (Y, nI c, (0 : Int32), (1 : Int32), nI ns + (-1))) (fun y => Fr (fun k j => k = 48 ∧ j < ng) Y y.1 ∧ y.2.2.1 = nI (cntR ng (dgT (ng + 1) ns c) 0 ns) ∧ (∃ b, y.2.2.2.1 = bB b ∧ (b = true ↔ noDup ng (dgT (ng + 1) ns c) 0 ns)) ∧ ∀ g, g < ng → WhoD (dgT (ng + 1) ns c) 0 ns g (y.1.1 48 g)) := by
  refine lp_for (fun i t => t.2.2.2.2 = nI (ns - i) + (-1) ∧ t.2.1 = nI (c / (ng + 1) ^ i) ∧ Fr (fun k j => k = 48 ∧ j < ng) Y t.1 ∧ t.2.2.1 = nI (cntR ng (dgT (ng + 1) ns c) (ns - i) i) ∧ (∃ b, t.2.2.2.1 = bB b ∧ (b = true ↔ noDup ng (dgT (ng + 1) ns c) (ns - i) ns)) ∧ ∀ g, g < ng → WhoD (dgT (ng + 1) ns c) (ns - i) ns g (t.1.1 48 g)) ns (FU_big (by omega)) ⟨rfl, by rw [Nat.pow_zero, Nat.div_one], Fr.rf, rfl, ⟨true, rfl, ⟨fun _ s s' h1 h2 => by omega, fun _ => rfl⟩⟩, fun g hg => Or.inl ⟨h0 g hg, fun s h1 h2 => by omega⟩⟩ ?_ ?_
  · rintro i ⟨Z, x3, x4, x5, x6⟩ hi ⟨e6, e3, hf, e4, ⟨b, e5, hb⟩, hw⟩
    dsimp only at e6 e3 hf e4 e5 hw ⊢
    obtain ⟨s, hs⟩ : ∃ s, ns - i = s + 1 := ⟨ns - i - 1, by omega⟩
    rw [hs, pk_m1] at e6
    subst e6 e3 e4 e5
    rw [hs] at hb hw ⊢
    have e8 : Z.1 39 8 = nI ng := (hf 39 8 (by omega)).trans h8
    have es : ns - (i + 1) = s := by omega
    have hneg : ¬ nI s < 0 := i_nlt.mpr (by rw [nI_toInt (by omega)]; show (0 : Int) ≤ _; omega)
    have hq : c / (ng + 1) ^ i < 2 ^ 31 := Nat.lt_of_le_of_lt (Nat.div_le_self _ _) hc
    have hz : nzI (nI (ng + 1)) = true := decide_eq_true (fun q => by
      have := i_eq.mp q
      rw [nI_toInt (by omega)] at this
      have z : (0 : Int32).toInt = 0 := rfl
      omega)
    have ed : c / (ng + 1) ^ i % (ng + 1) = dgT (ng + 1) ns c s := by
      unfold dgT
      rw [show ns - 1 - s = i by omega]
    have er : iR (nI (c / (ng + 1) ^ i)) (nI (ng + 1)) = nI (dgT (ng + 1) ns c s) := by
      rw [← ed]
      exact pk_rem hq (by omega) (by omega)
    have ev : nI (c / (ng + 1) ^ i) / nI (ng + 1) = nI (c / (ng + 1) ^ (i + 1)) := by
      rw [pk_div hq (by omega) (by omega), Nat.div_div_eq_div_mul, Nat.pow_succ]
    have hdl : dgT (ng + 1) ns c s < ng + 1 := Nat.mod_lt _ (Nat.succ_pos ng)
    have hcf := cntR_front ng (dgT (ng + 1) ns c) s i
    unfold f_X8_standBy_l42 f_X8_standBy_j94 f_X8_standBy_j95 f_X8_standBy_j109
    rw [if_neg hneg, e8, nI_1, hz, er, ev]
    simp only [bsN, gd_true, nI_1]
    generalize hdg : dgT (ng + 1) ns c = dg at *
    by_cases c1 : dg s < ng
    · rw [if_pos c1] at hcf
      rw [if_neg (nI_ge c1 (by omega)), inB_n (show dg s < 7 by omega) (by omega), gd_true, gd_true, nI_clamp (show dg s < 2 ^ 31 by omega)]
      -- the new places
      have nw : ∀ g, g < ng → WhoD dg s ns g ((su Z 48 (dg s) (nI s)).1 48 g) := by
        intro g hg
        rw [su_at]
        by_cases q : g = dg s
        · rw [if_pos ⟨rfl, q⟩]
          exact Or.inr ⟨s, Nat.le_refl s, by omega, rfl, q.symm⟩
        · rw [if_neg (fun z => q z.2)]
          rcases hw g hg with ⟨k1, k2⟩ | ⟨s', k1, k2, k3, k4⟩
          · refine Or.inl ⟨k1, fun s' h1 h2 => ?_⟩
            by_cases q2 : s' = s
            · subst q2; exact fun z => q z.symm
            · exact k2 s' (by omega) h2
          · exact Or.inr ⟨s', by omega, k2, k3, k4⟩
      have hfn : Fr (fun k j => k = 48 ∧ j < ng) Y (su Z 48 (dg s) (nI s)) := hf.su ⟨rfl, c1⟩
      have nofree : (∃ s', s + 1 ≤ s' ∧ s' < ns ∧ dg s' = dg s) → ¬ noDup ng dg s ns := by
        rintro ⟨s', h1, h2, h3⟩ nd
        have := nd s' s (by omega) h2 (Nat.le_refl s) (by omega) h3 (by omega)
        omega
      cases b with
      | false =>
        rw [if_pos (show bB false = 0 by rfl), ok_some]
        refine Or.inl ⟨_, rfl, by rw [es], rfl, hfn, by rw [es, hcf], ⟨false, rfl, ⟨fun z => (by cases z), fun nd => ?_⟩⟩, by rw [es]; exact nw⟩
        rw [es] at nd
        exact hb.mpr (fun s1 s2 h1 h2 h3 h4 => nd s1 s2 (by omega) h2 (by omega) h4)
      | true =>
        rw [if_neg (show ¬ bB true = 0 by decide)]
        have hnd := hb.mp rfl
        rcases hw (dg s) c1 with ⟨k1, k2⟩ | ⟨s', k1, k2, k3, k4⟩
        · rw [k1, if_neg (by decide), gd_true, ok_some]
          refine Or.inl ⟨_, rfl, by rw [es], rfl, hfn, by rw [es, hcf], ⟨true, rfl, ⟨fun _ => ?_, fun _ => rfl⟩⟩, by rw [es]; exact nw⟩
          rw [es]
          intro s1 s2 h1 h2 h3 h4 e hl
          by_cases q1 : s1 = s
          · subst q1
            by_cases q2 : s2 = s1
            · exact q2.symm
            · exact absurd e.symm (k2 s2 (by omega) h4)
          · by_cases q2 : s2 = s
            · subst q2
              exact absurd e (k2 s1 (by omega) h2)
            · exact hnd s1 s2 (by omega) h2 (by omega) h4 e hl
        · rw [k3, if_pos (nI_pos' (by omega)), ok_some]
          refine Or.inl ⟨_, rfl, by rw [es], rfl, hfn, by rw [es, hcf], ⟨false, rfl, ⟨fun z => (by cases z), fun nd => ?_⟩⟩, by rw [es]; exact nw⟩
          rw [es] at nd
          exact absurd nd (nofree ⟨s', k1, k2, k4⟩)
    · rw [if_neg c1] at hcf
      have e1 : dg s = ng := by omega
      rw [if_pos (nI_le (by omega) (by omega)), ok_some]
      refine Or.inl ⟨_, rfl, by rw [es], rfl, hf, by rw [es, hcf]; rfl, ⟨b, rfl, ?_⟩, fun g hg => ?_⟩
      · rw [es, hb]
        constructor
        · intro nd s1 s2 h1 h2 h3 h4 e hl
          by_cases q1 : s1 = s
          · subst q1; omega
          · by_cases q2 : s2 = s
            · subst q2; omega
            · exact nd s1 s2 (by omega) h2 (by omega) h4 e hl
        · exact fun nd s1 s2 h1 h2 h3 h4 => nd s1 s2 (by omega) h2 (by omega) h4
      · rw [es]
        rcases hw g hg with ⟨k1, k2⟩ | ⟨s', k1, k2, k3, k4⟩
        · refine Or.inl ⟨k1, fun s' h1 h2 => ?_⟩
          by_cases q2 : s' = s
          · subst q2; omega
          · exact k2 s' (by omega) h2
        · exact Or.inr ⟨s', by omega, k2, k3, k4⟩
  · rintro ⟨Z, x3, x4, x5, x6⟩ ⟨e6, e3, hf, e4, hb, hw⟩
    dsimp only at e6 e3 hf e4 hb hw ⊢
    rw [Nat.sub_self] at e6 e4 hb hw
    subst e6
    unfold f_X8_standBy_l42
    rw [if_pos (show nI 0 + (-1) < 0 by decide), ok_some]
    exact ⟨_, rfl, hf, e4, hb, hw⟩
