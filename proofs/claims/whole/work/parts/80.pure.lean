/-! the law: every run of calls -/
theorem R_init {σ : Sto} (h : Init σ) : R 0 σ := by
  obtain ⟨w0, v0, u0, w1, v1, u1, w2, v2, u2, hw0, hv0, hu0, hw1, hv1, hu1, hw2, hv2, hu2, rfl⟩ := h
  refine ⟨0, 0, 0, 0, ?_, ?_, ?_, ?_, ?_, ?_⟩
  · refine ⟨⟨by omega, by omega, by omega, by omega⟩, ⟨rfl, rfl, rfl, rfl⟩, ⟨rfl, rfl, rfl, rfl⟩, ⟨Or.inl ⟨rfl, rfl⟩, ?_⟩, fun i hi => absurd hi (Nat.not_lt_zero i), fun i hi => absurd hi (Nat.not_lt_zero i), fun i hi => absurd hi (Nat.not_lt_zero i), fun i hi => absurd hi (Nat.not_lt_zero i)⟩
    show rgI (12 : Int32) 1 60
    exact ⟨by decide, by decide⟩
  · refine ⟨⟨fun g h1 _ => hw0 g h1, fun g hg => absurd hg (Nat.not_lt_zero g), fun g g' hg => absurd hg (Nat.not_lt_zero g)⟩, ⟨fun i h1 _ => hv0 i h1, fun i hi => absurd hi (Nat.not_lt_zero i), fun g hg => absurd hg (Nat.not_lt_zero g), fun g i hg => absurd hg (Nat.not_lt_zero g)⟩, ⟨fun g hg => absurd hg (Nat.not_lt_zero g), rfl, rfl, rfl, rfl⟩, ?_, ?_, ?_⟩
    · show rgI (0 : Int32) 0 2
      exact ⟨by decide, by decide⟩
    · show (0 : Int) ≤ (0 : Int32).toInt
      decide
    · show rgI (0 : Int32) 0 _
      exact ⟨by decide, by decide⟩
  · exact ⟨⟨0, by omega, rfl, rfl, fun i hi => absurd hi (Nat.not_lt_zero i)⟩, rfl⟩
  · exact ⟨rfl, 0, by omega, rfl, rfl, fun k hk => absurd hk (Nat.not_lt_zero k)⟩
  · exact ⟨rfl, 0, by omega, rfl, rfl, fun k hk => absurd hk (Nat.not_lt_zero k)⟩
  · intro i hi
    exact ⟨⟨rfl, Or.inl rfl⟩, fun q => absurd (show (0 : Int32) = 1 from q) (by decide)⟩
def LwI (i : Nat) (y : (Sto × Int32) ⊕ ((Sto × Int32) ⊕ (Sto × Int32))) : Prop := ∃ σ', y = .inl (σ', nI (5 * (i + 1))) ∧ R (i + 1) σ'
theorem law_next {L i : Nat} {xs : Nat → Int32} {σ : Sto} (hR : R (i + 1) σ) : Ok (f_law_j1051 L xs σ (nI (5 * i))) (LwI i) := by
  have e5 : (5 : Int32) = nI 5 := rfl
  unfold f_law_j1051
  rw [ok_bs, ok_some, e5, nI_add]
  exact ⟨σ, by rw [show 5 * (i + 1) = 5 * i + 5 by omega], hR⟩
theorem law_call {f7 f8 : Sto → Option (Sto × Int32)} (hc : CallR f7 f8) {L i : Nat} {xs : Nat → Int32} {σ : Sto} (hi : i < 512) (hR : R i σ) : Ok (bd2 (f7 σ) fun σ3 v4 => bd2 (f8 σ3) fun σ5 v6 => if v4 = v6 then (f_law_j1051 L xs σ5 (nI (5 * i))) else (some (.inr (.inl (σ5, (0 : Int32)))))) (LwI i) := by
  rw [ok_bd2]
  refine ok_mono (hc i σ hi hR) (fun y hy => ?_)
  rw [ok_bd2]
  refine ok_mono hy (fun z hz => ?_)
  rw [if_pos hz.1.symm]
  exact law_next hz.2
theorem R_up {N M : Nat} {σ : Sto} (h : R N σ) (hM : N ≤ M) : R M σ := by
  obtain ⟨nb, ns, ng, nh, h⟩ := h
  exact ⟨nb, ns, ng, nh, h.up hM⟩
theorem law_step {L i : Nat} {xs : Nat → Int32} {σ : Sto} (hL : L ≤ 2560) (hi : 5 * i + 5 ≤ L) (hR : R i σ) : Ok (f_law_l18 L xs σ (nI (5 * i))) (LwI i) := by
  have h512 : i < 512 := by omega
  have e1 : nI (5 * i) + (1 : Int32) = nI (5 * i + 1) := nI_add _ 1
  have e2 : nI (5 * i) + (2 : Int32) = nI (5 * i + 2) := nI_add _ 2
  have e3 : nI (5 * i) + (3 : Int32) = nI (5 * i + 3) := nI_add _ 3
  have e4 : nI (5 * i) + (4 : Int32) = nI (5 * i + 4) := nI_add _ 4
  have b0 : inB (nI (5 * i)) L = true := inB_n (by omega) (by omega)
  have b1 : inB (nI (5 * i + 1)) L = true := inB_n (by omega) (by omega)
  have b2 : inB (nI (5 * i + 2)) L = true := inB_n (by omega) (by omega)
  have b3 : inB (nI (5 * i + 3)) L = true := inB_n (by omega) (by omega)
  have b4 : inB (nI (5 * i + 4)) L = true := inB_n (by omega) (by omega)
  have hlt : ¬ (Int32.ofNat L - (5 : Int32)) < nI (5 * i) := by
    have es : Int32.ofNat L - (5 : Int32) = nI (L - 5) := pk_sub (a := L) (b := 5) (by omega)
    rw [es]
    exact fun q => by have := (nI_ltI (by omega) (by omega)).mp q; omega
  unfold f_law_l18
  rw [if_neg hlt]
  simp only [e1, e2, e3, e4, b0, b1, b2, b3, b4, gd_true]
  refine ok_if.mpr ⟨fun _ => law_call (s_feed _ _) h512 hR, fun _ => ?_⟩
  refine ok_if.mpr ⟨fun _ => law_call s_square h512 hR, fun _ => ?_⟩
  refine ok_if.mpr ⟨fun _ => law_call s_fault h512 hR, fun _ => ?_⟩
  refine ok_if.mpr ⟨fun _ => law_call (s_told _) h512 hR, fun _ => ?_⟩
  refine ok_if.mpr ⟨fun _ => law_call (s_bell _ _) h512 hR, fun _ => ?_⟩
  refine ok_if.mpr ⟨fun _ => law_call (s_spot _ _) h512 hR, fun _ => ?_⟩
  refine ok_if.mpr ⟨fun _ => law_call (s_beggar _ _) h512 hR, fun _ => ?_⟩
  refine ok_if.mpr ⟨fun _ => law_call (s_hat _ _) h512 hR, fun _ => ?_⟩
  refine ok_if.mpr ⟨fun _ => law_call (s_shadow _ _ _) h512 hR, fun _ => ?_⟩
  refine ok_if.mpr ⟨fun _ => law_call (s_go _ _) h512 hR, fun _ => ?_⟩
  refine ok_if.mpr ⟨fun _ => law_call (s_lend _ _) h512 hR, fun _ => ?_⟩
  refine ok_if.mpr ⟨fun _ => law_call (s_law _) h512 hR, fun _ => ?_⟩
  refine ok_if.mpr ⟨fun _ => law_call (s_ring _) h512 hR, fun _ => ?_⟩
  refine ok_if.mpr ⟨fun _ => law_call (s_day _) h512 hR, fun _ => ?_⟩
  refine ok_if.mpr ⟨fun _ => law_call (s_drift _) h512 hR, fun _ => ?_⟩
  refine ok_if.mpr ⟨fun _ => law_call (s_standing _ _ _) h512 hR, fun _ => ?_⟩
  refine ok_if.mpr ⟨fun _ => law_call (s_hats _ _) h512 hR, fun _ => ?_⟩
  refine ok_if.mpr ⟨fun _ => law_call (s_giant _ _ _ _) h512 hR, fun _ => ?_⟩
  refine ok_if.mpr ⟨fun _ => law_call (s_peace _ _) h512 hR, fun _ => ?_⟩
  refine ok_if.mpr ⟨fun _ => law_call (s_bread _ _) h512 hR, fun _ => ?_⟩
  refine ok_if.mpr ⟨fun _ => law_call (s_best _ _) h512 hR, fun _ => ?_⟩
  refine ok_if.mpr ⟨fun _ => law_call (s_tell _ _ _ _) h512 hR, fun _ => ?_⟩
  refine ok_if.mpr ⟨fun _ => law_call (s_fits _) h512 hR, fun _ => ?_⟩
  refine ok_if.mpr ⟨fun _ => law_call (s_write _ _ _) h512 hR, fun _ => ?_⟩
  refine ok_if.mpr ⟨fun _ => law_call s_tear h512 hR, fun _ => ?_⟩
  refine ok_if.mpr ⟨fun _ => law_call s_judge h512 hR, fun _ => ?_⟩
  refine ok_if.mpr ⟨fun _ => law_call (s_seed _) h512 hR, fun _ => ?_⟩
  refine ok_if.mpr ⟨fun _ => law_call (s_keep _) h512 hR, fun _ => ?_⟩
  refine ok_if.mpr ⟨fun _ => law_call (s_goBack _) h512 hR, fun _ => ?_⟩
  exact law_next (R_up hR (by omega))
theorem law_pure (L : Nat) (hL : L ≤ 2560) (xs : Nat → Int32) (σ : Sto) (h0 : Init σ) : ∃ σ2 : Sto, f_law L xs σ = some (σ2, 1) := by
  have key : Ok (f_law L xs σ) (fun y => y.2 = 1) := by
    unfold f_law
    rw [ok_bs, ok_bR1]
    refine lp_for (fun i t => t.2 = nI (5 * i) ∧ R i t.1) (L / 5) (FU_big (by omega)) ⟨rfl, R_init h0⟩ ?_ ?_
    · rintro i ⟨Z, x⟩ hi ⟨e, hR⟩
      dsimp only at e hR ⊢
      subst e
      refine ok_mono (law_step hL (by omega) hR) (fun y hy => ?_)
      obtain ⟨σ', e, hR'⟩ := hy
      exact Or.inl ⟨_, e, rfl, hR'⟩
    · rintro ⟨Z, x⟩ ⟨e, hR⟩
      dsimp only at e hR ⊢
      subst e
      have hlt : (Int32.ofNat L - (5 : Int32)) < nI (5 * (L / 5)) := by
        by_cases c : 5 ≤ L
        · have es : Int32.ofNat L - (5 : Int32) = nI (L - 5) := pk_sub (a := L) (b := 5) c
          rw [es]
          exact nI_lt (by omega) (by omega)
        · have : ∀ l, l < 5 → (Int32.ofNat l - (5 : Int32)) < nI (5 * (l / 5)) := by decide
          exact this L (by omega)
      unfold f_law_l18
      rw [if_pos hlt, ok_some]
      refine ⟨_, rfl, fun u hu => (by cases hu), fun z hz => ?_⟩
      cases hz
      exact ok_some.mpr rfl
  obtain ⟨⟨σ2, v⟩, h1, h2⟩ := key
  have h2 : v = 1 := h2
  subst h2
  exact ⟨σ2, h1⟩
