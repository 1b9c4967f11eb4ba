/-! peace, bread, best -/
theorem gift_rg {lw : Int32} {sp sh : Nat → Int32} {n : Nat} (hn : n ≤ 7) (hsh : ∀ g, g < n → rgI (sh g) 0 100000) {g : Nat} (hg : g < n) : rgI (giftS lw sp sh n g) 0 700000 := by
  unfold giftS
  have h1 := hsh g hg
  by_cases c0 : lw = 0
  · rw [if_pos c0]; exact h1.up (by omega) (by omega)
  · rw [if_neg c0]
    by_cases c1 : lw = 1
    · rw [if_pos c1]
      by_cases c2 : nI g = longN sp sh n
      · rw [if_pos c2]
        exact (sumN_rg n (by omega) (by omega) (by omega) hsh).up (by omega) (by omega)
      · rw [if_neg c2]; exact ⟨by decide, by decide⟩
    · rw [if_neg c1]
      by_cases c2 : sh g ≤ 50
      · rw [if_pos c2]; exact h1.up (by omega) (by omega)
      · rw [if_neg c2]; exact ⟨by decide, by decide⟩
section LOOK2
variable {σ τ : Sto} {nb ns ng nh : Nat} {D : Int}
theorem sh_rg (h : PL σ nb ns ng nh) (hs : SN σ ns ng nh D) {lg : Int32} (hl : rgI lg 0 1000) : ∀ g, g < ng → rgI (shM σ ng lg g) 0 100000 :=
  shade_rg h.1.2.1 (fun g q => (hs.1.2.1 g q).2) (fun g q => (hgM_rg h hs g q).1.up (by omega) (by omega)) (fun s q => (h.2.2.2.2.2.1 s q).2) hl
theorem gf_rg (h : PL σ nb ns ng nh) (hs : SN σ ns ng nh D) {lg : Int32} (hl : rgI lg 0 1000) {g : Nat} (hg : g < ng) : rgI (gfM σ ng lg g) 0 700000 := gift_rg (by have := h.1.2.2.1; omega) (sh_rg h hs hl) hg
/-- what one gets, at a bell's length -/
def alM (σ : Sto) (ng : Nat) (lg : Int32) : Nat → Int32 := fun g => gfM σ ng lg g - coM σ g
theorem vw_al (hf : Fr Scr σ τ) (n : Nat) (lg : Int32) : alM τ n lg = alM σ n lg := by
  unfold alM
  rw [vw_gf hf, vw_co hf]
theorem al_rg (h : PL σ nb ns ng nh) (hs : SN σ ns ng nh D) {lg : Int32} (hl : rgI lg 0 1000) {g : Nat} (hg : g < ng) : rgI (alM σ ng lg g) (-50) 700000 :=
  ((gf_rg h hs hl hg).sub (hgM_rg h hs g hg).2 (by omega) (by omega)).up (by omega) (by omega)
theorem lonM_rg (h : PL σ nb ns ng nh) {b : Int32} (hb : inB b nb = true) {d : Int32} (hd : rgI d 0 D) : rgI (lonM σ b d) 0 1000 := (long_rg h hb hd).up (by omega) (by omega)
end LOOK2
def lackF (al : Nat → Int32) (x : Int32) : Nat → Int32 := fun g => if x ≤ al g then 0 else x - al g
theorem lack_max {a x : Int32} (ha : rgI a (-50) 700000) (hx : rgI x 0 999) : iMax 0 (x - a) = if x ≤ a then 0 else x - a := by
  obtain ⟨a1, a2⟩ := ha
  obtain ⟨x1, x2⟩ := hx
  have e := fb_subI (x := x) (y := a) (by omega) (by omega)
  have z : (0 : Int32).toInt = 0 := rfl
  unfold iMax
  by_cases c : x ≤ a
  · rw [if_pos c, if_neg]
    intro q
    have h1 := i_lt.mp q
    have h2 := i_le.mp c
    omega
  · rw [if_neg c, if_pos]
    have h2 := i_nle.mp c
    exact i_lt.mpr (by omega)
theorem lack_rg {al : Nat → Int32} {x : Int32} {g : Nat} (ha : rgI (al g) (-50) 700000) (hx : rgI x 0 999) : rgI (lackF al x g) 0 1049 := by
  unfold lackF
  obtain ⟨a1, a2⟩ := ha
  obtain ⟨x1, x2⟩ := hx
  have e := fb_subI (x := x) (y := al g) (by omega) (by omega)
  by_cases c : x ≤ al g
  · rw [if_pos c]; exact ⟨by decide, by decide⟩
  · rw [if_neg c]
    have h2 := i_nle.mp c
    exact ⟨by omega, by omega⟩
theorem lack_mono {al : Nat → Int32} {x : Nat} (hx : x + 1 ≤ 999) : ∀ n, n ≤ 10 → (∀ g, g < n → rgI (al g) (-50) 700000) → (sumN (lackF al (nI x)) n).toInt ≤ (sumN (lackF al (nI (x + 1))) n).toInt := by
  have x1 : rgI (nI x) 0 999 := rg_nI (m := 999) (by omega) (by omega)
  have x2 : rgI (nI (x + 1)) 0 999 := rg_nI (m := 999) (by omega) (by omega)
  intro n
  induction n with
  | zero =>
    intro _ _
    show (0 : Int32).toInt ≤ (0 : Int32).toInt
    exact Int.le_refl _
  | succ n ih =>
    intro hn ha
    have i1 := ih (by omega) (fun g q => ha g (by omega))
    have r1 := sumN_rg (f := lackF al (nI x)) (l := 0) (h := 1049) n (by omega) (by omega) (by omega) (fun g q => lack_rg (ha g (by omega)) x1)
    have r2 := sumN_rg (f := lackF al (nI (x + 1))) (l := 0) (h := 1049) n (by omega) (by omega) (by omega) (fun g q => lack_rg (ha g (by omega)) x2)
    have q1 := lack_rg (ha n (by omega)) x1
    have q2 := lack_rg (ha n (by omega)) x2
    rw [sumN_s, sumN_s]
    obtain ⟨u1, u2⟩ := r1
    obtain ⟨v1, v2⟩ := r2
    have le : (lackF al (nI x) n).toInt ≤ (lackF al (nI (x + 1)) n).toInt := by
      obtain ⟨a1, a2⟩ := ha n (by omega)
      have e1 := fb_subI (x := nI x) (y := al n) (by rw [nI_toInt (by omega)]; omega) (by rw [nI_toInt (by omega)]; omega)
      have e2 := fb_subI (x := nI (x + 1)) (y := al n) (by rw [nI_toInt (by omega)]; omega) (by rw [nI_toInt (by omega)]; omega)
      rw [nI_toInt (by omega)] at e1 e2
      by_cases c1 : nI x ≤ al n
      · have : lackF al (nI x) n = 0 := if_pos c1
        rw [this]
        exact q2.1
      · have c2 : ¬ nI (x + 1) ≤ al n := by
          intro q
          have h1 := i_nle.mp c1
          have h2 := i_le.mp q
          rw [nI_toInt (by omega)] at h1 h2
          omega
        have l1 : lackF al (nI x) n = nI x - al n := if_neg c1
        have l2 : lackF al (nI (x + 1)) n = nI (x + 1) - al n := if_neg c2
        rw [l1, l2, e1, e2]
        omega
    obtain ⟨w1, w2⟩ := q1
    obtain ⟨z1, z2⟩ := q2
    rw [fb_addI (by omega) (by omega), fb_addI (by omega) (by omega)]
    omega
theorem c_lackOf {τ : Sto} {n : Nat} {al : Nat → Int32} {x : Int32} (hn : n ≤ 7) (h1 : τ.1 28 1 = nI n) (ha : ∀ g, g < n → τ.1 32 g - τ.1 30 g = al g ∧ rgI (al g) (-50) 700000) (hx : rgI x 0 999) : f_X5_lackOf_28 τ x = some (τ, sumN (lackF al x) n) := by
  unfold f_X5_lackOf_28
  rw [bs_eq, bs_eq]
  have hl : lpF (fun t => f_X5_lackOf_28_l4 x t.1 t.2.1 t.2.2) FU (τ, (0 : Int32), (0 : Int32)) = some (τ, sumN (lackF al x) n, nI n) := by
    refine lp_eq (fun i => (τ, sumN (lackF al x) i, nI i)) n (FU_big (by omega)) (fun i hi => ?_) ?_
    · dsimp only
      unfold f_X5_lackOf_28_l4
      rw [h1, if_neg (nI_ge hi (by omega)), inB_n (show i < 7 by omega) (by omega)]
      simp only [gd_true, bs_eq, nI_clamp (show i < 2 ^ 31 by omega), nI_1]
      rw [(ha i hi).1, lack_max (ha i hi).2 hx]
      rfl
    · dsimp only
      unfold f_X5_lackOf_28_l4
      rw [h1, if_pos (nI_le (Nat.le_refl n) (by omega))]
  rw [hl, bE2_eq]
theorem m_lacksFor {τ : Sto} {n : Nat} {al : Nat → Int32} (x : Int32) (hn : n ≤ 7) (h8 : τ.1 39 8 = nI n) (hv : Okv τ n) (ha : ∀ g, g < n → τ.1 61 g - coM τ g = al g) : f_X8_lacksFor τ x = some (τ, sumN (lackF al x) n) := by
  unfold f_X8_lacksFor
  rw [bs_eq, bs_eq]
  have hl : lpF (fun t => f_X8_lacksFor_l4 x t.1 t.2.1 t.2.2) FU (τ, (0 : Int32), (0 : Int32)) = some (τ, sumN (lackF al x) n, nI n) := by
    refine lp_eq (fun i => (τ, sumN (lackF al x) i, nI i)) n (FU_big (by omega)) (fun i hi => ?_) ?_
    · dsimp only
      unfold f_X8_lacksFor_l4 f_X8_lacksFor_j33
      rw [h8, if_neg (nI_ge hi (by omega)), m_almsN hv hn hi]
      simp only [bd2_eq, bs_eq, nI_1]
      rw [ha i hi, sumN_s]
      by_cases c : x ≤ al i
      · rw [if_pos c, show lackF al x i = 0 from if_pos c]
      · rw [if_neg c, show lackF al x i = x - al i from if_neg c, m_almsN hv hn hi, bd2_eq, ha i hi]
    · dsimp only
      unfold f_X8_lacksFor_l4
      rw [h8, if_pos (nI_le (Nat.le_refl n) (by omega))]
  rw [hl, bE2_eq]
section LOOK3
variable {σ τ : Sto} {nb ns ng nh : Nat} {D : Int}
/-- the reference after it found the alms -/
theorem m_found (h : PL τ nb ns ng nh) (hs : SN τ ns ng nh D) (lg : Int32) : ∃ ρ, f_X8_findAlms τ (nI ng) lg = some ρ ∧ Fr Scr τ ρ ∧ (∀ g, g < ng → ρ.1 61 g = gfM τ ng lg g ∧ ρ.1 60 g = shM τ ng lg g) ∧ Okv ρ ng ∧ ρ.1 39 8 = nI ng ∧ coM ρ = coM τ := by
  refine ⟨_, m_find h hs lg, fr_find, fun g hg => ⟨?_, ?_⟩, ?_, ?_, ?_⟩
  · rw [sc_same]; exact fillN_in hg
  · rw [sc_at, if_neg (by omega), sc_same]; exact fillN_in hg
  · exact SN.okv h hs
  · exact h.2.1.2.2.1
  · rfl
end LOOK3
theorem s_peace (b x : Int32) : CallR (fun σ => f_X7_peace σ b x) (fun σ => f_X8_peace σ b x) := by
  intro N σ hN hR
  obtain ⟨nb, ns, ng, nh, h⟩ := hR
  have hng : ng ≤ 6 := h.1.1.2.2.1
  have hnb : nb ≤ 4 := h.1.1.1
  refine stp_look (f7 := fun σ => f_X7_peace σ b x) (f8 := fun σ => f_X8_peace σ b x) h (v := if inB b nb = true then (if rgB x 0 999 = true then sumN (lackF (alM σ ng (lonM σ b (σ.1 39 13))) x) ng else -1000000002) else -1000000001) ?_ (fun τ hf => ?_)
  · obtain ⟨hP, hS, -⟩ := h
    unfold f_X7_peace f_X7_peace_j26
    rw [(c_hasK hP b).1, bd2_eq, bB_if, rg_if]
    by_cases c1 : inB b nb = true
    · rw [if_pos c1, if_pos c1]
      show Ok (if rgB x 0 999 = true then _ else _) _
      by_cases c3 : rgB x 0 999 = true
      · rw [if_pos c3, if_pos c3, ok_bd1]
        refine ok_mono (c_showAt hP hS c1 hS.2.2.2.2.2) (fun τ hw => ?_)
        rw [hS.2.2.1.2.1] at hw
        have hw : SW σ τ ns ng (lonM σ b (σ.1 39 13)) := hw
        have hd : rgI (σ.1 39 13) 0 (99 * N) := by rw [← hS.2.2.1.2.1]; exact hS.2.2.2.2.2
        rw [c_lackOf (n := ng) (al := alM σ ng (lonM σ b (σ.1 39 13))) (by omega) hw.2.1.1 (fun g hg => ⟨?_, al_rg hP hS (lonM_rg hP c1 hd) hg⟩) (rgB_iff.mp c3), bd2_eq, ok_some]
        · exact ⟨hw.scr, rfl⟩
        · rw [(hw.2.2.1 g hg).2.2, (hw.2.2.1 g hg).1.2]; rfl
      · rw [if_neg c3, if_neg c3, ok_some]; exact ⟨Fr.rf, rfl⟩
    · rw [if_neg c1, if_neg c1, ok_some]; exact ⟨Fr.rf, rfl⟩
  · have hl := vw_lon hf b (σ.1 39 13)
    have e13 : τ.1 39 13 = σ.1 39 13 := hf 39 13 (by unfold Scr; omega)
    obtain ⟨hP, hS, -⟩ := h.fr hf
    rw [← vw_al hf, ← hl, ← e13]
    unfold f_X8_peace
    rw [m_isBell hP.2.1.1 (by omega), bd2_eq, bB_if, m_inI τ x _ _ (li := 0) (hi := 999) (by decide) (by decide), bd2_eq, bB_if]
    by_cases c1 : inB b nb = true
    · rw [if_pos c1, if_pos c1]
      by_cases c3 : rgB x 0 999 = true
      · rw [if_pos c3, if_pos c3, m_now hP c1, bd2_eq, hP.2.1.2.2.1]
        obtain ⟨ρ, e, hf2, h61, hok, e8, eco⟩ := m_found hP hS (lonM τ b (τ.1 39 13))
        rw [e, bd1_eq, m_lacksFor (n := ng) (al := alM τ ng (lonM τ b (τ.1 39 13))) x (by omega) e8 hok (fun g hg => ?_), bd2_eq, ok_some]
        · exact ⟨hf2, rfl⟩
        · rw [(h61 g hg).1, eco]; rfl
      · rw [if_neg c3, if_neg c3, ok_some]; exact ⟨Fr.rf, rfl⟩
    · rw [if_neg c1, if_neg c1, ok_some]; exact ⟨Fr.rf, rfl⟩
/-- the last x of 0 .. 999 with lack enough, one more -/
theorem first_no (p : Nat → Prop) [∀ i, Decidable (p i)] : ∀ m, ∃ K, K ≤ m ∧ (∀ x, x < K → p x) ∧ (K = m ∨ ¬ p K) := by
  intro m
  induction m with
  | zero => exact ⟨0, Nat.le_refl 0, fun x q => absurd q (Nat.not_lt_zero x), Or.inl rfl⟩
  | succ m ih =>
    obtain ⟨K, h1, h2, h3⟩ := ih
    rcases h3 with q | q
    · subst q
      by_cases c : p K
      · refine ⟨K + 1, Nat.le_refl _, fun x hx => ?_, Or.inl rfl⟩
        by_cases e : x = K
        · subst e; exact c
        · exact h2 x (by omega)
      · exact ⟨K, by omega, h2, Or.inr c⟩
    · exact ⟨K, by omega, h2, Or.inr q⟩
theorem c_bread {τ : Sto} {n K : Nat} {al : Nat → Int32} {a : Int32} (hn : n ≤ 7) (h1 : τ.1 28 1 = nI n) (ha : ∀ g, g < n → τ.1 32 g - τ.1 30 g = al g ∧ rgI (al g) (-50) 700000) (hK : K ≤ 1000) (k1 : ∀ x, x < K → sumN (lackF al (nI x)) n ≤ a) (k2 : K = 1000 ∨ ¬ sumN (lackF al (nI K)) n ≤ a) : lpF (fun t => f_X7_bread_l46 a t.1 t.2.1 t.2.2) FU (τ, (-1 : Int32), (0 : Int32)) = some (τ, nI K + (-1), nI K) := by
  have e0 : (τ, (-1 : Int32), (0 : Int32)) = (fun i => (τ, nI i + (-1), nI i)) 0 := rfl
  have e999 : (999 : Int32) = nI 999 := rfl
  have nlt : ∀ {x : Int32}, x ≤ a → ¬ a < x := fun {x} q => i_nlt.mpr (i_le.mp q)
  rw [e0]
  refine lp_eq (fun i => (τ, nI i + (-1), nI i)) K (FU_big (by omega)) (fun i hi => ?_) ?_
  · dsimp only
    unfold f_X7_bread_l46
    rw [e999, if_neg (show ¬ nI 999 < nI i from fun q => by have := i_lt.mp q; rw [nI_toInt (by omega), nI_toInt (by omega)] at this; omega), c_lackOf hn h1 ha (rg_nI (m := 999) (by omega) (by omega)), bd2_eq, if_neg (nlt (k1 i hi)), bs_eq, bs_eq, pk_m1, nI_1]
  · dsimp only
    unfold f_X7_bread_l46
    rcases k2 with q | q
    · rw [e999, if_pos (nI_lt (by omega) (by omega))]
    · by_cases c : K = 1000
      · rw [e999, if_pos (nI_lt (by omega) (by omega))]
      · rw [e999, if_neg (show ¬ nI 999 < nI K from fun q => by have := i_lt.mp q; rw [nI_toInt (by omega), nI_toInt (by omega)] at this; omega), c_lackOf hn h1 ha (rg_nI (m := 999) (by omega) (by omega)), bd2_eq, if_pos (i_lt.mpr (i_nle.mp q))]
theorem m_bread {τ : Sto} {n K : Nat} {al : Nat → Int32} {a : Int32} (hn : n ≤ 7) (h8 : τ.1 39 8 = nI n) (hv : Okv τ n) (ha : ∀ g, g < n → τ.1 61 g - coM τ g = al g) (hK : K ≤ 1000) (k1 : ∀ x, x < K → sumN (lackF al (nI x)) n ≤ a) (k2 : ∀ x, K ≤ x → x < 1000 → ¬ sumN (lackF al (nI x)) n ≤ a) : lpF (fun t => f_X8_bread_l43 a t.1 t.2) FU (τ, (999 : Int32)) = some (τ, nI K + (-1)) := by
  have e0 : (τ, (999 : Int32)) = (fun i => (τ, nI (1000 - i) + (-1))) 0 := rfl
  rw [e0]
  have hd : ∀ m, m < 1000 → ¬ nI m < 0 := fun m hm => i_nlt.mpr (by rw [nI_toInt (by omega)]; show (0 : Int) ≤ _; omega)
  refine lp_eq (fun i => (τ, nI (1000 - i) + (-1))) (1000 - K) (FU_big (by omega)) (fun i hi => ?_) ?_
  · dsimp only
    obtain ⟨m, hm⟩ : ∃ m, 1000 - i = m + 1 := ⟨999 - i, by omega⟩
    rw [hm, show 1000 - (i + 1) = m by omega, pk_m1]
    unfold f_X8_bread_l43
    rw [if_neg (hd m (by omega)), m_lacksFor (nI m) hn h8 hv ha, bd2_eq, if_neg (k2 m (by omega) (by omega)), bs_eq]
  · dsimp only
    rw [show 1000 - (1000 - K) = K by omega]
    unfold f_X8_bread_l43
    by_cases c : K = 0
    · subst c
      rw [if_pos (show nI 0 + (-1) < 0 by decide)]
    · obtain ⟨m, rfl⟩ : ∃ m, K = m + 1 := ⟨K - 1, by omega⟩
      rw [pk_m1, if_neg (hd m (by omega)), m_lacksFor (nI m) hn h8 hv ha, bd2_eq, if_pos (k1 m (by omega))]
theorem s_bread (b a : Int32) : CallR (fun σ => f_X7_bread σ b a) (fun σ => f_X8_bread σ b a) := by
  intro N σ hN hR
  obtain ⟨nb, ns, ng, nh, h⟩ := hR
  have hng : ng ≤ 6 := h.1.1.2.2.1
  have hnb : nb ≤ 4 := h.1.1.1
  obtain ⟨K, hK, k1, k2⟩ := first_no (fun x => sumN (lackF (alM σ ng (lonM σ b (σ.1 39 13))) (nI x)) ng ≤ a) 1000
  have hd : rgI (σ.1 39 13) 0 (99 * N) := by rw [← h.2.1.2.2.1.2.1]; exact h.2.1.2.2.2.2.2
  refine stp_look (f7 := fun σ => f_X7_bread σ b a) (f8 := fun σ => f_X8_bread σ b a) h (v := if inB b nb = true then (if rgB a 0 9999 = true then nI K + (-1) else -1000000002) else -1000000001) ?_ (fun τ hf => ?_)
  · obtain ⟨hP, hS, -⟩ := h
    unfold f_X7_bread f_X7_bread_j26
    rw [(c_hasK hP b).1, bd2_eq, bB_if, rg_if]
    by_cases c1 : inB b nb = true
    · rw [if_pos c1, if_pos c1]
      show Ok (if rgB a 0 9999 = true then _ else _) _
      by_cases c3 : rgB a 0 9999 = true
      · rw [if_pos c3, if_pos c3, ok_bd1]
        refine ok_mono (c_showAt hP hS c1 hS.2.2.2.2.2) (fun τ hw => ?_)
        rw [hS.2.2.1.2.1] at hw
        have hw : SW σ τ ns ng (lonM σ b (σ.1 39 13)) := hw
        rw [bs_eq, bs_eq, c_bread (n := ng) (K := K) (al := alM σ ng (lonM σ b (σ.1 39 13))) (by omega) hw.2.1.1 (fun g hg => ⟨?_, al_rg hP hS (lonM_rg hP c1 hd) hg⟩) hK k1 k2, bE2_eq, ok_some]
        · exact ⟨hw.scr, rfl⟩
        · rw [(hw.2.2.1 g hg).2.2, (hw.2.2.1 g hg).1.2]; rfl
      · rw [if_neg c3, if_neg c3, ok_some]; exact ⟨Fr.rf, rfl⟩
    · rw [if_neg c1, if_neg c1, ok_some]; exact ⟨Fr.rf, rfl⟩
  · have hl := vw_lon hf b (σ.1 39 13)
    have e13 : τ.1 39 13 = σ.1 39 13 := hf 39 13 (by unfold Scr; omega)
    have hP0 := h.1
    have hS0 := h.2.1
    obtain ⟨hP, hS, -⟩ := h.fr hf
    unfold f_X8_bread
    rw [m_isBell hP.2.1.1 (by omega), bd2_eq, bB_if, m_inI τ a _ _ (li := 0) (hi := 9999) (by decide) (by decide), bd2_eq, bB_if]
    by_cases c1 : inB b nb = true
    · rw [if_pos c1, if_pos c1]
      by_cases c3 : rgB a 0 9999 = true
      · rw [if_pos c3, if_pos c3, m_now hP c1, bd2_eq, hP.2.1.2.2.1, e13, hl]
        obtain ⟨ρ, e, hf2, h61, hok, e8, eco⟩ := m_found hP hS (lonM σ b (σ.1 39 13))
        have k3 : ∀ j x, x = K + j → x < 1000 → ¬ sumN (lackF (alM σ ng (lonM σ b (σ.1 39 13))) (nI x)) ng ≤ a := by
          intro j
          induction j with
          | zero =>
            intro x e0 hx
            rcases k2 with q | q
            · omega
            · rw [e0, Nat.add_zero]; exact q
          | succ j ih =>
            intro x e0 hx q
            have h3 := ih (x - 1) (by omega) (by omega)
            have h4 := lack_mono (al := alM σ ng (lonM σ b (σ.1 39 13))) (x := x - 1) (by omega) ng (by omega) (fun g hg => al_rg hP0 hS0 (lonM_rg hP0 c1 hd) hg)
            rw [show x - 1 + 1 = x by omega] at h4
            have h5 := i_nle.mp h3
            have h6 := i_le.mp q
            omega
        rw [e, bd1_eq, bs_eq, m_bread (n := ng) (K := K) (al := alM σ ng (lonM σ b (σ.1 39 13))) (by omega) e8 hok (fun g hg => ?_) hK k1 (fun x q1 q2 => k3 (x - K) x (by omega) q2), bE1_eq, ok_some]
        · exact ⟨hf2, rfl⟩
        · rw [(h61 g hg).1, eco, vw_gf hf, vw_co hf]; rfl
      · rw [if_neg c3, if_neg c3, ok_some]; exact ⟨Fr.rf, rfl⟩
    · rw [if_neg c1, if_neg c1, ok_some]; exact ⟨Fr.rf, rfl⟩
