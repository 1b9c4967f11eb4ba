/-! ring, drift: two stores, the class's and the reference's -/
def SN2 (σ μ : Sto) (ns ng nh : Nat) (D : Int) : Prop := SR ns ng nh D (σ.1 11) (σ.1 12) (σ.1 13) (σ.1 10 3) (σ.1 10 4) (σ.1 10 5) (σ.1 10 6) (μ.1 48) (μ.1 49) (μ.1 50) (μ.1 39 13) (μ.1 39 17) (μ.1 39 18) (μ.1 39 19)
def PP (σ μ : Sto) : Prop := ∀ k j, dPL k j → μ.1 k j = σ.1 k j
theorem PP.row {σ μ : Sto} (h : PP σ μ) {k : Nat} (hk : 40 ≤ k ∧ k ≤ 47) : μ.1 k = σ.1 k := funext (fun j => h k j (by unfold dPL; omega))
def DR2 (σ μ τ : Sto) (ns ng : Nat) (hg co : Nat → Int32) : Prop := Fr Pd σ τ ∧ τ.1 28 1 = nI ng ∧ (∀ g, g < ng → τ.1 29 g = hg g ∧ τ.1 30 g = co g) ∧ ∀ s, s < ns → IsWho (μ.1 48) (nI s) ng (τ.1 33 s)
def hgV (σ μ : Sto) : Nat → Int32 := fun g => σ.1 45 g + adS (σ.1 46) (μ.1 49 g)
def coV (σ μ : Sto) : Nat → Int32 := fun g => adS (σ.1 47) (μ.1 49 g)
def SW2 (σ μ τ : Sto) (ns ng : Nat) (lg : Int32) : Prop :=
  Fr (fun k j => 28 ≤ k ∧ k ≤ 33) σ τ ∧ (τ.1 28 1 = nI ng ∧ τ.1 28 2 = lg ∧ τ.1 28 3 = μ.1 39 18) ∧ (∀ g, g < ng → (τ.1 29 g = hgM μ g ∧ τ.1 30 g = coM μ g) ∧ τ.1 31 g = shM μ ng lg g ∧ τ.1 32 g = gfM μ ng lg g) ∧ ∀ s, s < ns → IsWho (μ.1 48) (nI s) ng (τ.1 33 s)
theorem c_dress12 {σ μ : Sto} {nb ns ng nh : Nat} {D : Int} (h : PL σ nb ns ng nh) (hs : SN2 σ μ ns ng nh D) (a : Int32) {Q : Sto × Int32 → Prop} (hQ : ∀ τ, DR2 σ μ τ ns ng (σ.1 45) (fun _ => 0) → Q (τ, nI ng)) :
    Ok (lpF (fun t => f_X5_dress_28_10_l22 a t.1 t.2) FU (sc (su σ 28 1 (nI ng)) 33 (fillN (fun _ => -1) ((su σ 28 1 (nI ng)).1 33) 6), (0 : Int32))) Q := by
  have hng : ng ≤ 6 := h.1.2.2.1
  have hns : ns ≤ 6 := h.1.2.1
  refine lp_for (fun i t => t.2 = nI i ∧ Fr Pd σ t.1 ∧ t.1.1 28 1 = nI ng ∧ (∀ g, g < i → t.1.1 29 g = σ.1 45 g ∧ t.1.1 30 g = 0) ∧ ∀ s, s < ns → IsWho (μ.1 48) (nI s) i (t.1.1 33 s)) ng (FU_big (by omega)) ⟨rfl, ?_, ?_, fun g q => absurd q (Nat.not_lt_zero g), fun s q => ?_⟩ ?_ ?_
  · exact (Fr.rf.su (Or.inl ⟨rfl, rfl⟩)).sc (fun j => Or.inr (Or.inr (Or.inr rfl)))
  · rfl
  · refine Or.inl ⟨?_, fun g q => absurd q (Nat.not_lt_zero g)⟩
    show (sc _ 33 _).1 33 s = -1
    rw [sc_same]
    exact fillN_in (by omega)
  · rintro i ⟨τ, x⟩ hi ⟨hx, hf, hp, hh, hon⟩
    have hx : x = nI i := hx
    subst hx
    have hf : Fr Pd σ τ := hf
    have hp : τ.1 28 1 = nI ng := hp
    have hh : ∀ g, g < i → τ.1 29 g = σ.1 45 g ∧ τ.1 30 g = 0 := hh
    have hon : ∀ s, s < ns → IsWho (μ.1 48) (nI s) i (τ.1 33 s) := hon
    have hP := h.fr (hf.mono (fun _ _ => Pd_Scr))
    have ei : (nI i).toNatClampNeg = i := nI_clamp (by omega)
    have r45 : τ.1 45 i = σ.1 45 i := hf 45 i (by unfold Pd; omega)
    show Ok (f_X5_dress_28_10_l22 a τ (nI i)) _
    unfold f_X5_dress_28_10_l22 f_X5_dress_28_10_j82
    rw [hp, if_neg (nI_ge hi (by omega)), c_beg hP hi, bd2_eq, inB_n (show i < 7 by omega) (by omega), gd_true, bs_eq, gd_true, bs_eq, inB_n (show i < 6 by omega) (by omega), gd_true, ei, r45]
    simp only [bs_eq, nI_1]
    generalize hT : su (su τ 29 i (σ.1 45 i)) 30 i 0 = T
    have hfT : Fr Pd σ T := by rw [← hT]; exact (hf.su (Or.inr (Or.inl rfl))).su (Or.inr (Or.inr (Or.inl rfl)))
    have r11 : T.1 11 i = μ.1 48 i := (hfT 11 i (by unfold Pd; omega)).trans (hs.1.2.1 i hi).1
    have t28 : T.1 28 1 = nI ng := by rw [← hT]; exact hp
    have thh : ∀ g, g < i + 1 → T.1 29 g = σ.1 45 g ∧ T.1 30 g = 0 := by
      intro g q
      rw [← hT, su_at, su_at, su_at, su_at]
      by_cases c : g = i
      · subst c
        rw [if_neg (by omega), if_pos ⟨rfl, rfl⟩, if_pos ⟨rfl, rfl⟩]
        exact ⟨rfl, rfl⟩
      · rw [if_neg (by omega), if_neg (by omega), if_neg (by omega), if_neg (by omega)]
        exact hh g (by omega)
    have t33 : T.1 33 = τ.1 33 := by rw [← hT]; rfl
    have hPT := h.fr (hfT.mono (fun _ _ => Pd_Scr))
    rw [(c_hasK hPT (T.1 11 i)).2.1, bd2_eq, r11]
    rcases (hs.1.2.1 i hi).2 with q | q
    · rw [has_n q, ok_some]
      refine Or.inl ⟨_, rfl, rfl, hfT, t28, thh, fun s q2 => ?_⟩
      show IsWho (μ.1 48) (nI s) (i + 1) (T.1 33 s)
      rw [t33]
      rcases hon s q2 with ⟨k1, k2⟩ | ⟨g, k1, k2, k3⟩
      · refine Or.inl ⟨k1, fun g hg => ?_⟩
        by_cases c : g = i
        · subst c; rw [q]; exact fun e => nI_ne_m1 (by omega) e.symm
        · exact k2 g (by omega)
      · exact Or.inr ⟨g, by omega, k2, k3⟩
    · obtain ⟨s0, hs0, es0⟩ := inB_ex q (by omega)
      rw [has_y q, gd_true, inB_up q hns, gd_true, es0, nI_clamp (by omega), ok_some]
      refine Or.inl ⟨_, rfl, rfl, hfT.su (Or.inr (Or.inr (Or.inr rfl))), t28, thh, fun s q2 => ?_⟩
      show IsWho (μ.1 48) (nI s) (i + 1) ((su T 33 s0 (nI i)).1 33 s)
      rw [su_at]
      by_cases c : s = s0
      · subst c
        rw [if_pos ⟨rfl, rfl⟩]
        exact Or.inr ⟨i, by omega, rfl, es0⟩
      · rw [if_neg (by omega), t33]
        rcases hon s q2 with ⟨k1, k2⟩ | ⟨g, k1, k2, k3⟩
        · refine Or.inl ⟨k1, fun g hg => ?_⟩
          by_cases c2 : g = i
          · subst c2; rw [es0]; exact fun e => c ((nI_eq (by omega) (by omega)).mp e).symm
          · exact k2 g (by omega)
        · exact Or.inr ⟨g, by omega, k2, k3⟩
  · rintro ⟨τ, x⟩ ⟨hx, hf, hp, hh, hon⟩
    have hx : x = nI ng := hx
    subst hx
    have hp : τ.1 28 1 = nI ng := hp
    show Ok (f_X5_dress_28_10_l22 a τ (nI ng)) _
    unfold f_X5_dress_28_10_l22
    rw [hp, if_pos (nI_le (Nat.le_refl ng) (by omega)), ok_some]
    exact ⟨_, rfl, hQ τ ⟨hf, hp, hh, hon⟩⟩
theorem c_dress2 {σ μ : Sto} {nb ns ng nh : Nat} {D : Int} (h : PL σ nb ns ng nh) (hs : SN2 σ μ ns ng nh D) : Ok (f_X5_dress_28_10 σ (1 : Int32)) (fun τ => DR2 σ μ τ ns ng (hgV σ μ) (coV σ μ)) := by
  have hng : ng ≤ 6 := h.1.2.2.1
  have hnh : nh ≤ 4 := h.1.2.2.2
  unfold f_X5_dress_28_10
  rw [(c_cnt h).2.2.1, bd2_eq, bs_eq, c_fill33, bd1_eq, bs_eq, ok_bE1]
  refine c_dress12 h hs 1 (fun τ hd => ?_)
  rw [ok_bs, ok_bE1]
  show Ok (lpF (fun t => f_X5_dress_28_10_l90 1 t.1 t.2) FU (τ, (0 : Int32))) _
  refine lp_for (fun j t => t.2 = nI j ∧ DR2 σ μ t.1 ns ng (fun g => σ.1 45 g + adP (σ.1 46) j (μ.1 49 g)) (fun g => adP (σ.1 47) j (μ.1 49 g))) nh (FU_big (by omega)) ⟨rfl, hd.1, hd.2.1, fun g q => ?_, hd.2.2.2⟩ ?_ ?_
  · dsimp only
    rw [adP_0, adP_0]
    have := hd.2.2.1 g q
    exact ⟨this.1.trans (Int32.add_zero _).symm, this.2⟩
  · rintro j ⟨T, x⟩ hj ⟨hx, hf, hp, hh, hon⟩
    have hx : x = nI j := hx
    subst hx
    have hf : Fr Pd σ T := hf
    have hp : T.1 28 1 = nI ng := hp
    have hP := h.fr (hf.mono (fun _ _ => Pd_Scr))
    have ej : (nI j).toNatClampNeg = j := nI_clamp (by omega)
    have r12 : T.1 12 j = σ.1 12 j := hf 12 j (by unfold Pd; omega)
    show Ok (f_X5_dress_28_10_l90 1 T (nI j)) _
    unfold f_X5_dress_28_10_l90 f_X5_dress_28_10_j134
    rw [if_neg (by decide), (c_cnt hP).2.2.2, bd2_eq, if_neg (nI_ge hj (by omega)), inB_n (show j < 4 by omega) (by omega), gd_true, ej, (c_hasK hP (T.1 12 j)).2.2.1, bd2_eq, r12]
    simp only [bs_eq, nI_1]
    rcases hs.2.1.2.1 j hj with q | q
    · rw [has_n q, ok_some]
      refine Or.inl ⟨_, rfl, rfl, hf, hp, fun g hg => ?_, hon⟩
      have hne : ¬ μ.1 49 g = nI j := fun e => by
        have := (hs.2.1.2.2.2 g j hg hj).mpr e
        rw [q] at this
        exact nI_ne_m1 (by omega) this.symm
      dsimp only
      rw [adP_s (by omega) hne, adP_s (by omega) hne]
      exact hh g hg
    · obtain ⟨g0, hg0, e0⟩ := inB_ex q (by omega)
      rw [has_y q, gd_true, e0, c_putHat hP (by omega) hj, bd1_eq, ok_some]
      refine Or.inl ⟨_, rfl, rfl, (hf.su (Or.inr (Or.inl rfl))).su (Or.inr (Or.inr (Or.inl rfl))), hp, fun g hg => ?_, hon⟩
      have r46 : T.1 46 j = σ.1 46 j := hf 46 j (by unfold Pd; omega)
      have r47 : T.1 47 j = σ.1 47 j := hf 47 j (by unfold Pd; omega)
      rw [su_at, su_at, su_at, su_at]
      by_cases c : g = g0
      · subst c
        have e49 := (hs.2.1.2.2.2 g j hg hj).mp e0
        have hold := hh g hg
        rw [if_neg (by omega), if_pos ⟨rfl, rfl⟩, if_pos ⟨rfl, rfl⟩]
        have o1 : T.1 29 g = σ.1 45 g + adP (σ.1 46) j (μ.1 49 g) := hold.1
        have o2 : T.1 30 g = adP (σ.1 47) j (μ.1 49 g) := hold.2
        dsimp only
        rw [o1, o2, e49, (adP_e (j := j) (by omega)).1, (adP_e (j := j) (by omega)).1, (adP_e (j := j) (by omega)).2, (adP_e (j := j) (by omega)).2, r46, r47, Int32.add_zero, Int32.zero_add]
        exact ⟨rfl, rfl⟩
      · rw [if_neg (by omega), if_neg (by omega), if_neg (by omega), if_neg (by omega)]
        have hne : ¬ μ.1 49 g = nI j := fun e => by
          have := (hs.2.1.2.2.2 g j hg hj).mpr e
          rw [e0] at this
          exact c ((nI_eq (by omega) (by omega)).mp this).symm
        dsimp only
        rw [adP_s (by omega) hne, adP_s (by omega) hne]
        exact hh g hg
  · rintro ⟨T, x⟩ ⟨hx, hf, hp, hh, hon⟩
    have hx : x = nI nh := hx
    subst hx
    have hf : Fr Pd σ T := hf
    have hP := h.fr (hf.mono (fun _ _ => Pd_Scr))
    show Ok (f_X5_dress_28_10_l90 1 T (nI nh)) _
    unfold f_X5_dress_28_10_l90
    rw [if_neg (by decide), (c_cnt hP).2.2.2, bd2_eq, if_pos (nI_le (Nat.le_refl nh) (by omega)), ok_some]
    refine ⟨_, rfl, ok_some.mpr ⟨hf, hp, fun g hg => ?_, hon⟩⟩
    have hht := hs.2.1.2.2.1 g hg
    have := hh g hg
    dsimp only at this
    rw [adP_S _ hht, adP_S _ hht] at this
    exact this
theorem hgM_rg2 {σ μ : Sto} {nb ns ng nh : Nat} {D : Int} (h : PL σ nb ns ng nh) (hs : SN2 σ μ ns ng nh D) : ∀ g, g < ng → rgI (hgV σ μ g) 1 110 ∧ rgI (coV σ μ g) 0 50 := by
  intro g hg
  have hnh : nh ≤ 4 := h.1.2.2.2
  have e := fun i hi => (h.2.2.2.2.2.2.2 i hi).2
  refine ⟨?_, ?_⟩
  · have h1 := (h.2.2.2.2.2.2.1 g hg).2
    have h2 := adS_rg (f := σ.1 46) (l := 0) (h := 20) (hs.2.1.2.2.1 g hg) (by omega) (fun i hi => (e i hi).1.up (by omega) (by omega)) ⟨by omega, by omega⟩
    exact (h1.add h2 (by omega) (by omega)).up (by omega) (by omega)
  · exact adS_rg (f := σ.1 47) (hs.2.1.2.2.1 g hg) (by omega) (fun i hi => (e i hi).2) ⟨by omega, by omega⟩
theorem c_showAt2 {σ μ : Sto} {nb ns ng nh : Nat} {D E : Int} (h : PL σ nb ns ng nh) (hs : SN2 σ μ ns ng nh D) (hp0 : PP σ μ) {b d : Int32} (hb : inB b nb = true) (hd : rgI d 0 E) : Ok (f_X7_showAt σ b d) (fun τ => SW2 σ μ τ ns ng (lonS (σ.1 39 0) (σ.1 40 b.toNatClampNeg) (σ.1 41 b.toNatClampNeg) d)) := by
  have hng : ng ≤ 6 := h.1.2.2.1
  have hlg := long_rg h hb hd
  generalize hL : lonS (σ.1 39 0) (σ.1 40 b.toNatClampNeg) (σ.1 41 b.toNatClampNeg) d = lg at hlg ⊢
  unfold f_X7_showAt
  rw [ok_bd1]
  refine ok_mono (c_dress2 h hs) (fun τ hd2 => ?_)
  obtain ⟨hf, hp, hh, hon⟩ := hd2
  have hfS : Fr Scr σ τ := hf.mono (fun _ _ => Pd_Scr)
  have hP := h.fr hfS
  have hlon : lonS (τ.1 39 0) (τ.1 40 b.toNatClampNeg) (τ.1 41 b.toNatClampNeg) d = lg := by
    rw [hf 39 0 (by unfold Pd; omega), hf 40 _ (by unfold Pd; omega), hf 41 _ (by unfold Pd; omega)]
    exact hL
  rw [c_longOf hP hb, bd2_eq, hlon]
  unfold f_X5_light_28
  simp only [bs_eq, bd1_eq]
  rw [ok_bd1]
  generalize hT : su (su τ 28 2 lg) 28 3 (τ.1 10 5) = T
  have hfT : Fr (fun k j => k = 28) τ T := by
    rw [← hT]
    refine Fr.su (Fr.su Fr.rf ?_) ?_ <;> exact rfl
  have hPT : PL T nb ns ng nh := hP.fr (hfT.mono (fun k j q => by unfold Scr; omega))
  have t1 : T.1 28 1 = nI ng := by rw [← hT]; exact hp
  have t2 : T.1 28 2 = lg := by rw [← hT]; rfl
  have t3 : T.1 28 3 = μ.1 39 18 := by
    rw [← hT]
    show τ.1 10 5 = _
    rw [hf 10 5 (by unfold Pd; omega)]
    exact hs.2.2.1.2.2.2.1
  have r42 : T.1 42 = σ.1 42 := by rw [← hT]; exact hfS.row (k := 42) (by unfold Scr; omega)
  have r43 : T.1 43 = σ.1 43 := by rw [← hT]; exact hfS.row (k := 43) (by unfold Scr; omega)
  have r44 : T.1 44 = σ.1 44 := by rw [← hT]; exact hfS.row (k := 44) (by unfold Scr; omega)
  have hc := c_cast (σ := T) (n := ng) (sp := μ.1 48) (hg := hgV σ μ) hPT (by omega) t1 (fun s q => by rw [show T.1 33 s = τ.1 33 s by rw [← hT]; rfl]; exact hon s q) (fun g q => (hs.1.2.1 g q).2) hs.1.2.2 (fun g q => by rw [show T.1 29 g = τ.1 29 g by rw [← hT]; rfl]; exact (hh g q).1) (fun g q => ((hgM_rg2 h hs g q).1).up (by omega) (by omega)) (by rw [t2]; exact hlg.up (by omega) (by omega)) (by rw [t3]; rw [← hs.2.2.1.2.2.2.1]; exact hs.2.2.2.1)
  refine ok_mono hc (fun τ2 q => ?_)
  obtain ⟨f, f', rfl, hff⟩ := q
  rw [ok_some]
  rw [r42, r43, r44, t2, t3] at hff
  have hfall : Fr (fun k j => 28 ≤ k ∧ k ≤ 33) σ T := (hf.mono (fun k j q => by unfold Pd at q; omega)).tr (hfT.mono (fun k j q => by omega))
  have e42 : σ.1 42 = μ.1 42 := (hp0.row (by omega)).symm
  have e43 : σ.1 43 = μ.1 43 := (hp0.row (by omega)).symm
  have e44 : σ.1 44 = μ.1 44 := (hp0.row (by omega)).symm
  have e1 : hgV σ μ = hgM μ := by unfold hgV hgM; rw [hp0.row (k := 45) (by omega), hp0.row (k := 46) (by omega)]
  have e2 : coV σ μ = coM μ := by unfold coV coM; rw [hp0.row (k := 47) (by omega)]
  rw [e42, e43, e44, e1] at hff
  rw [e1, e2] at hh
  refine ⟨(hfall.sc (fun j => by omega)).sc (fun j => by omega), ⟨t1, t2, t3⟩, fun g q => ⟨?_, ?_, ?_⟩, fun s q => ?_⟩
  · show T.1 29 g = _ ∧ T.1 30 g = _
    rw [← hT]
    exact hh g q
  · exact (hff g q).1
  · exact (hff g q).2
  · show IsWho (μ.1 48) (nI s) ng (T.1 33 s)
    rw [← hT]
    exact hon s q

theorem SN2.okv {σ μ : Sto} {nb ns ng nh : Nat} {D : Int} (h : PL σ nb ns ng nh) (hs : SN2 σ μ ns ng nh D) : Okv μ ng := by
  intro g hg
  have hns : ns ≤ 6 := h.1.2.1
  have hnh : nh ≤ 4 := h.1.2.2.2
  refine ⟨?_, ?_⟩
  · rcases (hs.1.2.1 g hg).2 with q | q
    · exact Or.inl q
    · exact Or.inr (inB_up q hns)
  · rcases hs.2.1.2.2.1 g hg with q | q
    · exact Or.inl q
    · exact Or.inr (inB_up q hnh)
def hold (x : Int32) : Int32 := if x ≤ 999999999 then x else 999999999
theorem hold_min (x : Int32) : iMin 999999999 x = hold x := by
  unfold iMin hold
  by_cases c : x < 999999999
  · rw [if_pos c, if_pos]
    have := i_lt.mp c
    exact i_le.mpr (by omega)
  · rw [if_neg c]
    by_cases c2 : x ≤ 999999999
    · rw [if_pos c2]
      have h1 := i_nlt.mp c
      have h2 := i_le.mp c2
      exact i_eq.mpr (by omega)
    · rw [if_neg c2]
theorem m_held (σ : Sto) (x : Int32) : f_X8_held σ x = some (σ, hold x) := by
  unfold f_X8_held f_X8_held_j14 hold
  rw [sif]
def gvP (μ : Sto) (ng : Nat) (lg : Int32) : Nat → Int32 := fun g => hold (μ.1 50 g + (gfM μ ng lg g - coM μ g))
theorem sumN_s (f : Nat → Int32) (n : Nat) : sumN f (n + 1) = sumN f n + f n := rfl
theorem c_give {σ μ : Sto} {nb ns ng nh : Nat} {D : Int} (h : PL σ nb ns ng nh) (hp : PP σ μ) (hs : SN2 σ μ ns ng nh D) {b : Int32} (hb : inB b nb = true) : Ok (f_X7_giveAt σ b) (fun y => y.2 = sumN (gfM μ ng (lonM μ b (μ.1 39 13))) ng ∧ Fr (fun k j => (28 ≤ k ∧ k ≤ 33) ∨ k = 13 ∨ (k = 10 ∧ j = 4)) σ y.1 ∧ (∀ g, g < ng → y.1.1 13 g = gvP μ ng (lonM μ b (μ.1 39 13)) g) ∧ y.1.1 10 4 = hold (μ.1 39 17 + sumN (gfM μ ng (lonM μ b (μ.1 39 13))) ng)) := by
  have hng : ng ≤ 6 := h.1.2.2.1
  have el : lonS (σ.1 39 0) (σ.1 40 b.toNatClampNeg) (σ.1 41 b.toNatClampNeg) (σ.1 10 3) = lonM μ b (μ.1 39 13) := by
    unfold lonM
    rw [hp 39 0 (by unfold dPL; omega), hp.row (k := 40) (by omega), hp.row (k := 41) (by omega), hs.2.2.1.2.1]
  unfold f_X7_giveAt
  rw [ok_bd1]
  refine ok_mono (c_showAt2 h hs hp hb hs.2.2.2.2.2) (fun τ hw => ?_)
  rw [el] at hw
  generalize lonM μ b (μ.1 39 13) = lg at hw ⊢
  obtain ⟨hf, ⟨hpe, -⟩, hh, -⟩ := hw
  rw [ok_bs, ok_bs, ok_bE2]
  have hPt : PL τ nb ns ng nh := h.fr (hf.mono (fun k j q => by unfold Scr; omega))
  have hl : lpF (fun t => f_X7_giveAt_l16 t.1 t.2.1 t.2.2) FU (τ, (0 : Int32), (0 : Int32)) = some (sc τ 13 (fillN (gvP μ ng lg) (τ.1 13) ng), sumN (gfM μ ng lg) ng, nI ng) := by
    have e0 : (τ, (0 : Int32), (0 : Int32)) = (fun i => (sc τ 13 (fillN (gvP μ ng lg) (τ.1 13) i), sumN (gfM μ ng lg) i, nI i)) 0 := by
      dsimp only
      rw [fillN_0, sc_self]
      rfl
    rw [e0]
    refine lp_eq (fun i => (sc τ 13 (fillN (gvP μ ng lg) (τ.1 13) i), sumN (gfM μ ng lg) i, nI i)) ng (FU_big (by omega)) (fun i hi => ?_) ?_
    · dsimp only
      have hPi : PL (sc τ 13 (fillN (gvP μ ng lg) (τ.1 13) i)) nb ns ng nh := hPt.cg (fun k j q => by rw [sc_at, if_neg (by unfold dPL at q; omega)])
      have ea : f_X5_almsOf_28 (sc τ 13 (fillN (gvP μ ng lg) (τ.1 13) i)) (nI i) = _ := c_almsN (show ng ≤ 7 by omega) hpe hi
      unfold f_X7_giveAt_l16
      rw [(c_cnt hPi).2.2.1, bd2_eq, if_neg (nI_ge hi (by omega)), inB_n (show i < 6 by omega) (by omega), inB_n (show i < 7 by omega) (by omega)]
      simp only [gd_true, ea, bd2_eq, bs_eq, nI_clamp (show i < 2 ^ 31 by omega), nI_1, su_sc]
      have r13 : (sc τ 13 (fillN (gvP μ ng lg) (τ.1 13) i)).1 13 i = μ.1 50 i := by
        rw [sc_same, fillN_out (Nat.lt_irrefl i), hf 13 i (by omega)]
        exact hs.2.2.1.1 i hi
      have r32 : (sc τ 13 (fillN (gvP μ ng lg) (τ.1 13) i)).1 32 i = gfM μ ng lg i := (hh i hi).2.2
      have r30 : (sc τ 13 (fillN (gvP μ ng lg) (τ.1 13) i)).1 30 i = coM μ i := (hh i hi).1.2
      rw [r13, r32, r30, hold_min]
      have ep : hold (μ.1 50 i + (gfM μ ng lg i - coM μ i)) = gvP μ ng lg i := rfl
      rw [ep, fillN_s]
      have r32b : (sc τ 13 (fillN (gvP μ ng lg) (τ.1 13) (i + 1))).1 32 i = gfM μ ng lg i := (hh i hi).2.2
      rw [r32b, sumN_s]
    · dsimp only
      have hPi : PL (sc τ 13 (fillN (gvP μ ng lg) (τ.1 13) ng)) nb ns ng nh := hPt.cg (fun k j q => by rw [sc_at, if_neg (by unfold dPL at q; omega)])
      unfold f_X7_giveAt_l16
      rw [(c_cnt hPi).2.2.1, bd2_eq, if_pos (nI_le (Nat.le_refl ng) (by omega))]
  rw [hl, ok_some]
  dsimp only
  rw [ok_bs, ok_some]
  refine ⟨rfl, ((hf.mono (fun k j q => by omega)).sc (fun j => by omega)).su (by omega), fun g hg => ?_, ?_⟩
  · show (sc τ 13 _).1 13 g = _
    rw [sc_same]
    exact fillN_in hg
  · show iMin _ (τ.1 10 4 + _) = _
    rw [hold_min, hf 10 4 (by omega), hs.2.2.1.2.2.1]
theorem m_ring {μ : Sto} {nb ns ng nh : Nat} (h : PL μ nb ns ng nh) (hv : Okv μ ng) {b : Int32} (hb : inB b nb = true) : Ok (f_X8_ringNow μ b) (fun z => z.2 = sumN (gfM μ ng (lonM μ b (μ.1 39 13))) ng ∧ Fr (fun k j => k = 60 ∨ k = 61 ∨ k = 50 ∨ (k = 39 ∧ j = 17)) μ z.1 ∧ (∀ g, g < ng → z.1.1 50 g = gvP μ ng (lonM μ b (μ.1 39 13)) g) ∧ z.1.1 39 17 = hold (μ.1 39 17 + sumN (gfM μ ng (lonM μ b (μ.1 39 13))) ng)) := by
  have hng : ng ≤ 6 := h.1.2.2.1
  unfold f_X8_ringNow
  rw [m_now h hb, bd2_eq, h.2.1.2.2.1, m_findAlms _ hv (by omega), bd1_eq]
  generalize lonM μ b (μ.1 39 13) = lg
  generalize hM : sc (sc μ 60 (fillN (shM μ ng lg) (μ.1 60) ng)) 61 (fillN (gfM μ ng lg) (μ.1 61) ng) = M
  have hf : Fr (fun k j => k = 60 ∨ k = 61 ∨ k = 50 ∨ (k = 39 ∧ j = 17)) μ M := by
    rw [← hM]
    exact (Fr.rf.sc (fun j => Or.inl rfl)).sc (fun j => Or.inr (Or.inl rfl))
  have m61 : ∀ g, g < ng → M.1 61 g = gfM μ ng lg g := by
    intro g hg
    rw [← hM, sc_same]
    exact fillN_in hg
  have m50 : M.1 50 = μ.1 50 := by rw [← hM]; rfl
  have m8 : M.1 39 8 = nI ng := by rw [← hM]; exact h.2.1.2.2.1
  have mco : coM M = coM μ := by rw [← hM]; rfl
  have mok : Okv M ng := by rw [← hM]; exact hv
  have m17 : M.1 39 17 = μ.1 39 17 := by rw [← hM]; rfl
  rw [ok_bs, ok_bs, ok_bE2]
  have hl : lpF (fun t => f_X8_ringNow_l17 t.1 t.2.1 t.2.2) FU (M, (0 : Int32), (0 : Int32)) = some (sc M 50 (fillN (gvP μ ng lg) (M.1 50) ng), sumN (gfM μ ng lg) ng, nI ng) := by
    have e0 : (M, (0 : Int32), (0 : Int32)) = (fun i => (sc M 50 (fillN (gvP μ ng lg) (M.1 50) i), sumN (gfM μ ng lg) i, nI i)) 0 := by
      dsimp only
      rw [fillN_0, sc_self]
      rfl
    rw [e0]
    refine lp_eq (fun i => (sc M 50 (fillN (gvP μ ng lg) (M.1 50) i), sumN (gfM μ ng lg) i, nI i)) ng (FU_big (by omega)) (fun i hi => ?_) ?_
    · dsimp only
      have oki : Okv (sc M 50 (fillN (gvP μ ng lg) (M.1 50) i)) ng := mok
      have e8 : (sc M 50 (fillN (gvP μ ng lg) (M.1 50) i)).1 39 8 = nI ng := m8
      unfold f_X8_ringNow_l17
      rw [e8, if_neg (nI_ge hi (by omega)), inB_n (show i < 6 by omega) (by omega), inB_n (show i < 7 by omega) (by omega), m_almsN oki (by omega) hi]
      simp only [gd_true, bd2_eq, bs_eq, m_held, nI_clamp (show i < 2 ^ 31 by omega), nI_1, su_sc]
      have r50 : (sc M 50 (fillN (gvP μ ng lg) (M.1 50) i)).1 50 i = μ.1 50 i := by
        rw [sc_same, fillN_out (Nat.lt_irrefl i), m50]
      have r61 : (sc M 50 (fillN (gvP μ ng lg) (M.1 50) i)).1 61 i = gfM μ ng lg i := m61 i hi
      have rco : coM (sc M 50 (fillN (gvP μ ng lg) (M.1 50) i)) i = coM μ i := congrFun mco i
      rw [r50, r61, rco]
      have ep : hold (μ.1 50 i + (gfM μ ng lg i - coM μ i)) = gvP μ ng lg i := rfl
      rw [ep, fillN_s, sumN_s]
    · dsimp only
      have e8 : (sc M 50 (fillN (gvP μ ng lg) (M.1 50) ng)).1 39 8 = nI ng := m8
      unfold f_X8_ringNow_l17
      rw [e8, if_pos (nI_le (Nat.le_refl ng) (by omega))]
  rw [hl, ok_some]
  dsimp only
  rw [m_held, bd2_eq, ok_bs, ok_some]
  refine ⟨rfl, (hf.sc (fun j => by omega)).su (by omega), fun g hg => ?_, ?_⟩
  · show (sc M 50 _).1 50 g = _
    rw [sc_same]
    exact fillN_in hg
  · show hold (M.1 39 17 + _) = _
    rw [m17]
theorem PP.pl {σ μ : Sto} {nb ns ng nh : Nat} (hp : PP σ μ) (h : PL σ nb ns ng nh) : PL μ nb ns ng nh := by
  obtain ⟨h1, h2, h3, h4, h5, h6, h7, h8⟩ := h
  exact PL.cg ⟨h1, h2, h3, h4, h5, h6, h7, h8⟩ hp
/-- both ring -/
def dC7 (k j : Nat) : Prop := (28 ≤ k ∧ k ≤ 33) ∨ (k = 10 ∧ (j = 3 ∨ j = 4 ∨ j = 6)) ∨ k = 11 ∨ k = 13
def dC8 (k j : Nat) : Prop := k = 60 ∨ k = 61 ∨ k = 48 ∨ k = 50 ∨ (k = 39 ∧ (j = 13 ∨ j = 17 ∨ j = 19))
theorem x_ring {σ μ : Sto} {nb ns ng nh : Nat} {D : Int} (h : PL σ nb ns ng nh) (hp : PP σ μ) (hs : SN2 σ μ ns ng nh D) {b : Int32} (hb : inB b nb = true) : Ok (f_X7_giveAt σ b) (fun y => Fr dC7 σ y.1 ∧ Ok (f_X8_ringNow μ b) (fun z => z.2 = y.2 ∧ Fr dC8 μ z.1 ∧ SN2 y.1 z.1 ns ng nh D)) := by
  refine ok_mono (c_give h hp hs hb) (fun y hy => ?_)
  obtain ⟨y1, y2, y3, y4⟩ := hy
  refine ⟨y2.mono (fun k j q => by unfold dC7; omega), ok_mono (m_ring (hp.pl h) (SN2.okv h hs) hb) (fun z hz => ?_)⟩
  obtain ⟨z1, z2, z3, z4⟩ := hz
  refine ⟨z1.trans y1.symm, z2.mono (fun k j q => by unfold dC8; omega), ?_⟩
  unfold SN2
  rw [show y.1.1 11 = σ.1 11 from funext (fun j => y2 11 j (by omega)), show y.1.1 12 = σ.1 12 from funext (fun j => y2 12 j (by omega)), y2 10 3 (by omega), y2 10 5 (by omega), y2 10 6 (by omega), show z.1.1 48 = μ.1 48 from funext (fun j => z2 48 j (by omega)), show z.1.1 49 = μ.1 49 from funext (fun j => z2 49 j (by omega)), z2 39 13 (by omega), z2 39 18 (by omega), z2 39 19 (by omega), y4, z4]
  obtain ⟨a, b1, ⟨c1, c2, c3, c4⟩, d⟩ := hs
  exact ⟨a, b1, ⟨fun g hg => by rw [y3 g hg, z3 g hg], c2, rfl, c4⟩, d⟩
theorem Rl.st2 {σ τ : Sto} {N nb ns ng nh : Nat} (h : Rl σ N nb ns ng nh) (hf : Fr (fun k j => dSN k j ∨ Scr k j) σ τ) (hs : SN τ ns ng nh (99 * (N + 1 : Nat))) : R (N + 1) τ := by
  obtain ⟨a, b, c, d, e, f⟩ := h.up (show N ≤ N + 1 by omega)
  exact ⟨nb, ns, ng, nh, a.cg (fun k j q => hf k j (by unfold dPL at q; unfold dSN Scr; omega)), hs, c.cg (fun k j q => hf k j (by unfold dTX at q; unfold dSN Scr; omega)), d.cg (fun k j q => hf k j (by unfold dTA at q; unfold dSN Scr; omega)), e.cg (fun k j q => hf k j (by unfold dBK at q; unfold dSN Scr; omega)), f.cg (fun k j q => hf k j (by unfold dIM at q; unfold dSN Scr; omega))⟩
theorem call_two {f7 f8 : Sto → Option (Sto × Int32)} {N nb ns ng nh : Nat} {σ : Sto} (h : Rl σ N nb ns ng nh) (sim : ∀ μ, PP σ μ → SN2 σ μ ns ng nh (99 * N) → Ok (f7 σ) (fun y => Fr dC7 σ y.1 ∧ Ok (f8 μ) (fun z => z.2 = y.2 ∧ Fr dC8 μ z.1 ∧ SN2 y.1 z.1 ns ng nh (99 * (N + 1 : Nat))))) : Ok (f7 σ) (fun y => Ok (f8 y.1) (fun z => z.2 = y.2 ∧ R (N + 1) z.1)) := by
  have hS := h.2.1
  obtain ⟨y, e7, hf, -⟩ := sim σ (fun _ _ _ => rfl) hS
  have hpp : PP σ y.1 := fun k j q => hf k j (by unfold dPL at q; unfold dC7; omega)
  have hs2 : SN2 σ y.1 ns ng nh (99 * N) := by
    unfold SN2
    rw [show y.1.1 48 = σ.1 48 from funext (fun j => hf 48 j (by unfold dC7; omega)), show y.1.1 49 = σ.1 49 from funext (fun j => hf 49 j (by unfold dC7; omega)), show y.1.1 50 = σ.1 50 from funext (fun j => hf 50 j (by unfold dC7; omega)), show y.1.1 39 = σ.1 39 from funext (fun j => hf 39 j (by unfold dC7; omega))]
    exact hS
  obtain ⟨y', e7', -, hz⟩ := sim y.1 hpp hs2
  rw [e7] at e7'
  cases e7'
  refine ⟨y, e7, ok_mono hz (fun z q => ?_)⟩
  obtain ⟨q1, q2, q3⟩ := q
  refine ⟨q1, h.st2 ((hf.mono (fun k j q => ?_)).tr (q2.mono (fun k j q => ?_))) ?_⟩
  · unfold dC7 at q; unfold dSN Scr; omega
  · unfold dC8 at q; unfold dSN Scr; omega
  · unfold SN
    unfold SN2 at q3
    rw [show z.1.1 11 = y.1.1 11 from funext (fun j => q2 11 j (by unfold dC8; omega)), show z.1.1 12 = y.1.1 12 from funext (fun j => q2 12 j (by unfold dC8; omega)), show z.1.1 13 = y.1.1 13 from funext (fun j => q2 13 j (by unfold dC8; omega)), show z.1.1 10 = y.1.1 10 from funext (fun j => q2 10 j (by unfold dC8; omega))]
    exact q3
theorem SN2.up {σ μ : Sto} {ns ng nh : Nat} {D E : Int} (h : SN2 σ μ ns ng nh D) (hE : D ≤ E) : SN2 σ μ ns ng nh E := SR.up h hE
theorem s_ring (a : Int32) : CallR (fun σ => f_X7_ring σ a) (fun σ => f_X8_ring σ a) := by
  intro N σ hN hR
  obtain ⟨nb, ns, ng, nh, h⟩ := id hR
  have hP := h.1
  have hnb : nb ≤ 4 := hP.1.1
  by_cases c : inB a nb = true
  · refine call_two (f7 := fun σ => f_X7_ring σ a) (f8 := fun σ => f_X8_ring σ a) h (fun μ hp hs => ?_)
    unfold f_X7_ring f_X7_ring_j22
    rw [(c_hasK hP a).1, bd2_eq, bB_if, if_pos c, ok_bd2]
    refine ok_mono (x_ring hP hp hs c) (fun y hy => ok_some.mpr ⟨hy.1, ?_⟩)
    unfold f_X8_ring f_X8_ring_j18
    rw [m_isBell (hp.pl hP).2.1.1 (by omega), bd2_eq, bB_if, if_pos c, ok_bd2]
    exact ok_mono hy.2 (fun z hz => ok_some.mpr ⟨hz.1, hz.2.1, hz.2.2.up (by omega)⟩)
  · refine stp_eq (f7 := fun σ => f_X7_ring σ a) (f8 := fun σ => f_X8_ring σ a) hR (v := -1000000001) ?_ ?_
    · unfold f_X7_ring f_X7_ring_j22
      rw [(c_hasK hP a).1, bd2_eq, bB_if, if_neg c]
    · unfold f_X8_ring f_X8_ring_j18
      rw [m_isBell hP.2.1.1 (by omega), bd2_eq, bB_if, if_neg c]
/-- two loops side by side -/
theorem lp_twoN {α1 β1 α2 β2 : Type} {it1 : α1 → Option (α1 ⊕ β1)} {it2 : α2 → Option (α2 ⊕ β2)} {I : Nat → α1 → α2 → Prop} {Q : β1 → β2 → Prop} (n : Nat) (hs : ∀ i x y, i < n → I i x y → Ok (it1 x) (fun a => ∃ x', a = .inl x' ∧ Ok (it2 y) (fun b => ∃ y', b = .inl y' ∧ I (i + 1) x' y'))) (he : ∀ x y, I n x y → Ok (it1 x) (fun a => ∃ e, a = .inr e ∧ Ok (it2 y) (fun b => ∃ e', b = .inr e' ∧ Q e e'))) : ∀ (m i f : Nat) (x : α1) (y : α2), i + m = n → I i x y → m < f → Ok (lpF it1 f x) (fun e => Ok (lpF it2 f y) (fun e' => Q e e')) := by
  intro m
  induction m with
  | zero =>
    intro i f x y hi hI hf
    cases f with
    | zero => omega
    | succ f =>
      have : i = n := by omega
      subst this
      obtain ⟨a, h1, e, rfl, b, h2, e', rfl, hq⟩ := he x y hI
      refine ⟨e, ?_, e', ?_, hq⟩
      · unfold lpF
        rw [h1]
      · unfold lpF
        rw [h2]
  | succ m ih =>
    intro i f x y hi hI hf
    cases f with
    | zero => omega
    | succ f =>
      obtain ⟨a, h1, x', rfl, b, h2, y', rfl, hq⟩ := hs i x y (by omega) hI
      obtain ⟨e, h3, e', h4, h5⟩ := ih (i + 1) f x' y' (by omega) hq (by omega)
      refine ⟨e, ?_, e', ?_, h5⟩
      · unfold lpF
        rw [h1]
        exact h3
      · unfold lpF
        rw [h2]
        exact h4
theorem lp_two {α1 β1 α2 β2 : Type} {it1 : α1 → Option (α1 ⊕ β1)} {it2 : α2 → Option (α2 ⊕ β2)} (I : Nat → α1 → α2 → Prop) {Q : β1 → β2 → Prop} (n : Nat) (hn : n < FU) {x : α1} {y : α2} (h0 : I 0 x y) (hs : ∀ i x y, i < n → I i x y → Ok (it1 x) (fun a => ∃ x', a = .inl x' ∧ Ok (it2 y) (fun b => ∃ y', b = .inl y' ∧ I (i + 1) x' y'))) (he : ∀ x y, I n x y → Ok (it1 x) (fun a => ∃ e, a = .inr e ∧ Ok (it2 y) (fun b => ∃ e', b = .inr e' ∧ Q e e'))) : Ok (lpF it1 FU x) (fun e => Ok (lpF it2 FU y) (fun e' => Q e e')) :=
  lp_twoN n hs he n 0 FU x y (by omega) h0 hn
/-- draws -/
theorem l_toInt {n : Nat} (h : n < 2 ^ 63) : (lN n).toInt = (n : Int) := by
  show (Int64.ofNat n).toInt = _
  rw [Int64.toInt_ofNat_of_lt h]
theorem l_div {a d : Nat} (ha : a < 2 ^ 63) (h0 : 0 < d) (hd : d < 2 ^ 63) : lN a / lN d = lN (a / d) := by
  apply Int64.toInt_inj.mp
  rw [Int64.toInt_div, l_toInt ha, l_toInt hd, l_toInt (Nat.lt_of_le_of_lt (Nat.div_le_self a d) ha), show (a : Int).tdiv (d : Int) = ((a / d : Nat) : Int) from rfl]
  have h2 := Nat.lt_of_le_of_lt (Nat.div_le_self a d) ha
  generalize a / d = q at h2 ⊢
  exact Int.bmod_eq_of_le (by omega) (by omega)
theorem l_rem {a d : Nat} (ha : a < 2 ^ 63) (h0 : 0 < d) (hd : d < 2 ^ 63) : lR (lN a) (lN d) = lN (a % d) := by
  unfold lR
  rw [l_div ha h0 hd, lN_mul, lN_sub (Nat.div_mul_le_self a d)]
  exact congrArg lN (by have := Nat.div_add_mod' a d; omega)
theorem l_and {a : Nat} (ha : a < 2 ^ 64) (k : Nat) (hk : k < 64) : lN a &&& lN (2 ^ k - 1) = lN (a % 2 ^ k) := by
  apply Int64.toBitVec_inj.mp
  apply BitVec.eq_of_toNat_eq
  have hp : 2 ^ k < 2 ^ 64 := Nat.pow_lt_pow_right (by decide) hk
  have h1 : (lN a).toBitVec.toNat = a := Nat.mod_eq_of_lt ha
  have h2 : (lN (2 ^ k - 1)).toBitVec.toNat = 2 ^ k - 1 := Nat.mod_eq_of_lt (by omega)
  have h3 : (lN (a % 2 ^ k)).toBitVec.toNat = a % 2 ^ k := Nat.mod_eq_of_lt (Nat.lt_trans (Nat.mod_lt _ (Nat.two_pow_pos k)) hp)
  rw [Int64.toBitVec_and, BitVec.toNat_and, h1, h2, h3, Nat.and_two_pow_sub_one_eq_mod]
theorem l_nI {n : Nat} (h : n < 2 ^ 31) : (nI n).toInt64 = lN n := by
  apply Int64.toInt_inj.mp
  rw [toInt64_toInt, nI_toInt h, l_toInt (by omega)]
def drw (n : Nat) : Nat := (n * 1103515245 + 12345) % 2147483648
theorem drw_c {n : Nat} (h : n < 2 ^ 31) : (((nI n).toInt64 * (1103515245 : Int64) + (12345 : Int64)) &&& (2147483647 : Int64)).toInt32 = nI (drw n) := by
  have e1 : (1103515245 : Int64) = lN 1103515245 := rfl
  have e2 : (12345 : Int64) = lN 12345 := rfl
  have e3 : (2147483647 : Int64) = lN (2 ^ 31 - 1) := rfl
  rw [l_nI h, e1, e2, e3, lN_mul, lN_add, l_and (by omega) 31 (by decide), lN_i]
  rfl
theorem drw_m {n : Nat} (h : n < 2 ^ 31) : (lR ((nI n).toInt64 * (1103515245 : Int64) + (12345 : Int64)) (2147483648 : Int64)).toInt32 = nI (drw n) := by
  have e1 : (1103515245 : Int64) = lN 1103515245 := rfl
  have e2 : (12345 : Int64) = lN 12345 := rfl
  have e3 : (2147483648 : Int64) = lN 2147483648 := rfl
  rw [l_nI h, e1, e2, e3, lN_mul, lN_add, l_rem (by omega) (by decide) (by decide), lN_i]
  rfl
theorem drw_lt (n : Nat) : drw n < 2 ^ 31 := Nat.mod_lt _ (by decide)
theorem drv {n m : Nat} (h : n < 2 ^ 31) (h0 : 0 < m) (hm : m < 2 ^ 31) : iR (nI n / (65536 : Int32)) (nI m) = nI (n / 65536 % m) := by
  have e : (65536 : Int32) = nI 65536 := rfl
  rw [e, pk_div h (by decide) (by decide)]
  exact pk_rem (Nat.lt_of_le_of_lt (Nat.div_le_self _ _) h) h0 hm
theorem c_draw {σ : Sto} {n m : Nat} (hn : σ.1 10 6 = nI n) (h : n < 2 ^ 31) (h0 : 0 < m) (hm : m < 2 ^ 31) : f_X6_draw_10 σ (nI m) = some (su σ 10 6 (nI (drw n)), nI (drw n / 65536 % m)) := by
  unfold f_X6_draw_10 f_X6_draw_10_j40
  have e1 : (1 : Int32) = nI 1 := rfl
  have z1 : nzI (65536 : Int32) = true := by decide
  have z2 : nzI (nI m) = true := decide_eq_true (fun q => by
    have := i_eq.mp q
    rw [nI_toInt hm] at this
    have z : (0 : Int32).toInt = 0 := rfl
    omega)
  rw [hn, drw_c h, bs_eq, e1, if_pos (nI_le (by omega) hm), z1, z2, gd_true, gd_true]
  show some (_, iR (nI (drw n) / 65536) (nI m)) = _
  rw [drv (drw_lt n) h0 hm]
theorem m_draw {σ : Sto} {n m : Nat} (hn : σ.1 39 19 = nI n) (h : n < 2 ^ 31) (h0 : 0 < m) (hm : m < 2 ^ 31) : f_X8_draw σ (nI m) = some (su σ 39 19 (nI (drw n)), nI (drw n / 65536 % m)) := by
  unfold f_X8_draw
  have z1 : nzI (65536 : Int32) = true := by decide
  have z2 : nzI (nI m) = true := decide_eq_true (fun q => by
    have := i_eq.mp q
    rw [nI_toInt hm] at this
    have z : (0 : Int32).toInt = 0 := rfl
    omega)
  have z3 : nzL (2147483648 : Int64) = true := by decide
  rw [hn, z3, gd_true, drw_m h, bs_eq, z1, z2, gd_true, gd_true]
  show some (_, iR (nI (drw n) / 65536) (nI m)) = _
  rw [drv (drw_lt n) h0 hm]
