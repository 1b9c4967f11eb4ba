/-! the scene dressed and lit: shadows and alms at a bell -/
def Pd (k j : Nat) : Prop := (k = 28 ∧ j = 1) ∨ k = 29 ∨ k = 30 ∨ k = 33
theorem Pd_Scr {k j : Nat} (h : Pd k j) : Scr k j := by
  unfold Pd at h
  unfold Scr
  omega
theorem c_putHat {σ : Sto} {nb ns ng nh g i : Nat} (h : PL σ nb ns ng nh) (hg : g < 7) (hi : i < nh) : f_X5_putHat_28 σ (nI i) (nI g) = some (su (su σ 29 g (σ.1 29 g + σ.1 46 i)) 30 g (σ.1 30 g + σ.1 47 i)) := by
  have h2 : PL (su σ 29 g (σ.1 29 g + σ.1 46 i)) nb ns ng nh := h.fr (Fr.rf.su (by unfold Scr; omega))
  have hb : inB (nI g) 7 = true := inB_n hg (by omega)
  have eg : (nI g).toNatClampNeg = g := nI_clamp (by omega)
  unfold f_X5_putHat_28
  rw [hb, gd_true, (c_hatn h hi).1, bd2_eq, gd_true, bs_eq, gd_true, eg, (c_hatn h2 hi).2, bd2_eq, gd_true, bs_eq]
  rfl
theorem c_takeHat {σ : Sto} {nb ns ng nh g i : Nat} (h : PL σ nb ns ng nh) (hg : g < 7) (hi : i < nh) : f_X5_takeHat_28 σ (nI i) (nI g) = some (su (su σ 29 g (σ.1 29 g - σ.1 46 i)) 30 g (σ.1 30 g - σ.1 47 i)) := by
  have h2 : PL (su σ 29 g (σ.1 29 g - σ.1 46 i)) nb ns ng nh := h.fr (Fr.rf.su (by unfold Scr; omega))
  have hb : inB (nI g) 7 = true := inB_n hg (by omega)
  have eg : (nI g).toNatClampNeg = g := nI_clamp (by omega)
  unfold f_X5_takeHat_28
  rw [hb, gd_true, (c_hatn h hi).1, bd2_eq, gd_true, bs_eq, gd_true, eg, (c_hatn h2 hi).2, bd2_eq, gd_true, bs_eq]
  rfl
/-- all dressed: heights, costs, who is on which spot -/
def DR (σ τ : Sto) (ns ng : Nat) (hg co : Nat → Int32) : Prop := Fr Pd σ τ ∧ τ.1 28 1 = nI ng ∧ (∀ g, g < ng → τ.1 29 g = hg g ∧ τ.1 30 g = co g) ∧ ∀ s, s < ns → IsWho (σ.1 48) (nI s) ng (τ.1 33 s)
def adP (f : Nat → Int32) (j : Nat) (x : Int32) : Int32 := if 0 ≤ x ∧ x.toNatClampNeg < j then f x.toNatClampNeg else 0
theorem c_dress1 {σ : Sto} {nb ns ng nh : Nat} {D : Int} (h : PL σ nb ns ng nh) (hs : SN σ ns ng nh D) (a : Int32) {Q : Sto × Int32 → Prop} (hQ : ∀ τ, DR σ τ ns ng (σ.1 45) (fun _ => 0) → Q (τ, nI ng)) :
    Ok (lpF (fun t => f_X5_dress_28_10_l22 a t.1 t.2) FU (sc (su σ 28 1 (nI ng)) 33 (fillN (fun _ => -1) ((su σ 28 1 (nI ng)).1 33) 6), (0 : Int32))) Q := by
  have hng : ng ≤ 6 := h.1.2.2.1
  have hns : ns ≤ 6 := h.1.2.1
  refine lp_for (fun i t => t.2 = nI i ∧ Fr Pd σ t.1 ∧ t.1.1 28 1 = nI ng ∧ (∀ g, g < i → t.1.1 29 g = σ.1 45 g ∧ t.1.1 30 g = 0) ∧ ∀ s, s < ns → IsWho (σ.1 48) (nI s) i (t.1.1 33 s)) ng (FU_big (by omega)) ⟨rfl, ?_, ?_, fun g q => absurd q (Nat.not_lt_zero g), fun s q => ?_⟩ ?_ ?_
  · exact (Fr.rf.su (Or.inl ⟨rfl, rfl⟩)).sc (fun j => Or.inr (Or.inr (Or.inr rfl)))
  · rfl
  · refine Or.inl ⟨?_, fun g q => absurd q (Nat.not_lt_zero g)⟩
    show (sc _ 33 _).1 33 s = -1
    rw [sc_same]
    exact fillN_in (by omega)
  · rintro i ⟨τ, x⟩ hi ⟨hx, hf, hp, hh, hon⟩
    have hx : x = nI i := hx
    subst hx
    have hf : Fr Pd σ τ := hf
    have hp : τ.1 28 1 = nI ng := hp
    have hh : ∀ g, g < i → τ.1 29 g = σ.1 45 g ∧ τ.1 30 g = 0 := hh
    have hon : ∀ s, s < ns → IsWho (σ.1 48) (nI s) i (τ.1 33 s) := hon
    have hP := h.fr (hf.mono (fun _ _ => Pd_Scr))
    have ei : (nI i).toNatClampNeg = i := nI_clamp (by omega)
    have r45 : τ.1 45 i = σ.1 45 i := hf 45 i (by unfold Pd; omega)
    show Ok (f_X5_dress_28_10_l22 a τ (nI i)) _
    unfold f_X5_dress_28_10_l22 f_X5_dress_28_10_j82
    rw [hp, if_neg (nI_ge hi (by omega)), c_beg hP hi, bd2_eq, inB_n (show i < 7 by omega) (by omega), gd_true, bs_eq, gd_true, bs_eq, inB_n (show i < 6 by omega) (by omega), gd_true, ei, r45]
    simp only [bs_eq, nI_1]
    generalize hT : su (su τ 29 i (σ.1 45 i)) 30 i 0 = T
    have hfT : Fr Pd σ T := by rw [← hT]; exact (hf.su (Or.inr (Or.inl rfl))).su (Or.inr (Or.inr (Or.inl rfl)))
    have r11 : T.1 11 i = σ.1 48 i := (hfT 11 i (by unfold Pd; omega)).trans (hs.1.2.1 i hi).1
    have t28 : T.1 28 1 = nI ng := by rw [← hT]; exact hp
    have thh : ∀ g, g < i + 1 → T.1 29 g = σ.1 45 g ∧ T.1 30 g = 0 := by
      intro g q
      rw [← hT, su_at, su_at, su_at, su_at]
      by_cases c : g = i
      · subst c
        rw [if_neg (by omega), if_pos ⟨rfl, rfl⟩, if_pos ⟨rfl, rfl⟩]
        exact ⟨rfl, rfl⟩
      · rw [if_neg (by omega), if_neg (by omega), if_neg (by omega), if_neg (by omega)]
        exact hh g (by omega)
    have t33 : T.1 33 = τ.1 33 := by rw [← hT]; rfl
    have hPT := h.fr (hfT.mono (fun _ _ => Pd_Scr))
    rw [(c_hasK hPT (T.1 11 i)).2.1, bd2_eq, r11]
    rcases (hs.1.2.1 i hi).2 with q | q
    · rw [has_n q, ok_some]
      refine Or.inl ⟨_, rfl, rfl, hfT, t28, thh, fun s q2 => ?_⟩
      show IsWho (σ.1 48) (nI s) (i + 1) (T.1 33 s)
      rw [t33]
      rcases hon s q2 with ⟨k1, k2⟩ | ⟨g, k1, k2, k3⟩
      · refine Or.inl ⟨k1, fun g hg => ?_⟩
        by_cases c : g = i
        · subst c; rw [q]; exact fun e => nI_ne_m1 (by omega) e.symm
        · exact k2 g (by omega)
      · exact Or.inr ⟨g, by omega, k2, k3⟩
    · obtain ⟨s0, hs0, es0⟩ := inB_ex q (by omega)
      rw [has_y q, gd_true, inB_up q hns, gd_true, es0, nI_clamp (by omega), ok_some]
      refine Or.inl ⟨_, rfl, rfl, hfT.su (Or.inr (Or.inr (Or.inr rfl))), t28, thh, fun s q2 => ?_⟩
      show IsWho (σ.1 48) (nI s) (i + 1) ((su T 33 s0 (nI i)).1 33 s)
      rw [su_at]
      by_cases c : s = s0
      · subst c
        rw [if_pos ⟨rfl, rfl⟩]
        exact Or.inr ⟨i, by omega, rfl, es0⟩
      · rw [if_neg (by omega), t33]
        rcases hon s q2 with ⟨k1, k2⟩ | ⟨g, k1, k2, k3⟩
        · refine Or.inl ⟨k1, fun g hg => ?_⟩
          by_cases c2 : g = i
          · subst c2; rw [es0]; exact fun e => c ((nI_eq (by omega) (by omega)).mp e).symm
          · exact k2 g (by omega)
        · exact Or.inr ⟨g, by omega, k2, k3⟩
  · rintro ⟨τ, x⟩ ⟨hx, hf, hp, hh, hon⟩
    have hx : x = nI ng := hx
    subst hx
    have hp : τ.1 28 1 = nI ng := hp
    show Ok (f_X5_dress_28_10_l22 a τ (nI ng)) _
    unfold f_X5_dress_28_10_l22
    rw [hp, if_pos (nI_le (Nat.le_refl ng) (by omega)), ok_some]
    exact ⟨_, rfl, hQ τ ⟨hf, hp, hh, hon⟩⟩
theorem c_dress0 {σ : Sto} {nb ns ng nh : Nat} {D : Int} (h : PL σ nb ns ng nh) (hs : SN σ ns ng nh D) : Ok (f_X5_dress_28_10 σ (0 : Int32)) (fun τ => DR σ τ ns ng (σ.1 45) (fun _ => 0)) := by
  unfold f_X5_dress_28_10
  rw [(c_cnt h).2.2.1, bd2_eq, bs_eq, c_fill33, bd1_eq, bs_eq, ok_bE1]
  refine c_dress1 h hs 0 (fun τ hd => ?_)
  rw [ok_bs, ok_bE1]
  show Ok (lpF (fun t => f_X5_dress_28_10_l90 0 t.1 t.2) FU (τ, (0 : Int32))) _
  refine lp_for (fun i t => t.1 = τ) 0 (FU_big (by omega)) rfl (fun i x hi _ => absurd hi (Nat.not_lt_zero i)) ?_
  rintro ⟨τ', x⟩ e
  have e : τ' = τ := e
  subst e
  show Ok (f_X5_dress_28_10_l90 0 τ' x) _
  unfold f_X5_dress_28_10_l90
  rw [if_pos rfl, ok_some]
  exact ⟨_, rfl, ok_some.mpr hd⟩
theorem adP_S (f : Nat → Int32) {x : Int32} {n : Nat} (hx : x = -1 ∨ inB x n = true) : adP f n x = adS f x := by
  unfold adP adS
  rcases hx with q | q
  · rw [if_neg (fun z => m1_nle q z.1), if_neg (m1_nle q)]
  · have h1 := inB_iff.mp q
    have h2 := cl_toInt h1.1
    rw [if_pos ⟨inB_0le q, by omega⟩, if_pos (inB_0le q)]
theorem adP_0 (f : Nat → Int32) (x : Int32) : adP f 0 x = 0 := if_neg (fun z => absurd z.2 (Nat.not_lt_zero _))
theorem adP_s {f : Nat → Int32} {x : Int32} {j : Nat} (hj : j < 2 ^ 31) (hne : ¬ x = nI j) : adP f (j + 1) x = adP f j x := by
  unfold adP
  by_cases c : 0 ≤ x ∧ x.toNatClampNeg < j
  · rw [if_pos c, if_pos ⟨c.1, by omega⟩]
  · rw [if_neg c, if_neg]
    rintro ⟨q1, q2⟩
    apply c
    refine ⟨q1, ?_⟩
    have h0 : 0 ≤ x.toInt := i_le.mp q1
    have := cl_toInt h0
    have h3 : ¬ x.toNatClampNeg = j := fun e => hne (by rw [← e]; exact (nI_cl h0).symm)
    omega
theorem adP_e {f : Nat → Int32} {j : Nat} (hj : j < 2 ^ 31) : adP f (j + 1) (nI j) = f j ∧ adP f j (nI j) = 0 := by
  unfold adP
  rw [nI_clamp hj]
  exact ⟨if_pos ⟨nI_pos' hj, by omega⟩, if_neg (fun z => absurd z.2 (Nat.lt_irrefl j))⟩
theorem c_dress {σ : Sto} {nb ns ng nh : Nat} {D : Int} (h : PL σ nb ns ng nh) (hs : SN σ ns ng nh D) : Ok (f_X5_dress_28_10 σ (1 : Int32)) (fun τ => DR σ τ ns ng (hgM σ) (coM σ)) := by
  have hng : ng ≤ 6 := h.1.2.2.1
  have hnh : nh ≤ 4 := h.1.2.2.2
  unfold f_X5_dress_28_10
  rw [(c_cnt h).2.2.1, bd2_eq, bs_eq, c_fill33, bd1_eq, bs_eq, ok_bE1]
  refine c_dress1 h hs 1 (fun τ hd => ?_)
  rw [ok_bs, ok_bE1]
  show Ok (lpF (fun t => f_X5_dress_28_10_l90 1 t.1 t.2) FU (τ, (0 : Int32))) _
  refine lp_for (fun j t => t.2 = nI j ∧ DR σ t.1 ns ng (fun g => σ.1 45 g + adP (σ.1 46) j (σ.1 49 g)) (fun g => adP (σ.1 47) j (σ.1 49 g))) nh (FU_big (by omega)) ⟨rfl, hd.1, hd.2.1, fun g q => ?_, hd.2.2.2⟩ ?_ ?_
  · dsimp only
    rw [adP_0, adP_0]
    have := hd.2.2.1 g q
    exact ⟨this.1.trans (Int32.add_zero _).symm, this.2⟩
  · rintro j ⟨T, x⟩ hj ⟨hx, hf, hp, hh, hon⟩
    have hx : x = nI j := hx
    subst hx
    have hf : Fr Pd σ T := hf
    have hp : T.1 28 1 = nI ng := hp
    have hP := h.fr (hf.mono (fun _ _ => Pd_Scr))
    have ej : (nI j).toNatClampNeg = j := nI_clamp (by omega)
    have r12 : T.1 12 j = σ.1 12 j := hf 12 j (by unfold Pd; omega)
    show Ok (f_X5_dress_28_10_l90 1 T (nI j)) _
    unfold f_X5_dress_28_10_l90 f_X5_dress_28_10_j134
    rw [if_neg (by decide), (c_cnt hP).2.2.2, bd2_eq, if_neg (nI_ge hj (by omega)), inB_n (show j < 4 by omega) (by omega), gd_true, ej, (c_hasK hP (T.1 12 j)).2.2.1, bd2_eq, r12]
    simp only [bs_eq, nI_1]
    rcases hs.2.1.2.1 j hj with q | q
    · rw [has_n q, ok_some]
      refine Or.inl ⟨_, rfl, rfl, hf, hp, fun g hg => ?_, hon⟩
      have hne : ¬ σ.1 49 g = nI j := fun e => by
        have := (hs.2.1.2.2.2 g j hg hj).mpr e
        rw [q] at this
        exact nI_ne_m1 (by omega) this.symm
      dsimp only
      rw [adP_s (by omega) hne, adP_s (by omega) hne]
      exact hh g hg
    · obtain ⟨g0, hg0, e0⟩ := inB_ex q (by omega)
      rw [has_y q, gd_true, e0, c_putHat hP (by omega) hj, bd1_eq, ok_some]
      refine Or.inl ⟨_, rfl, rfl, (hf.su (Or.inr (Or.inl rfl))).su (Or.inr (Or.inr (Or.inl rfl))), hp, fun g hg => ?_, hon⟩
      have r46 : T.1 46 j = σ.1 46 j := hf 46 j (by unfold Pd; omega)
      have r47 : T.1 47 j = σ.1 47 j := hf 47 j (by unfold Pd; omega)
      rw [su_at, su_at, su_at, su_at]
      by_cases c : g = g0
      · subst c
        have e49 := (hs.2.1.2.2.2 g j hg hj).mp e0
        have hold := hh g hg
        rw [if_neg (by omega), if_pos ⟨rfl, rfl⟩, if_pos ⟨rfl, rfl⟩]
        have o1 : T.1 29 g = σ.1 45 g + adP (σ.1 46) j (σ.1 49 g) := hold.1
        have o2 : T.1 30 g = adP (σ.1 47) j (σ.1 49 g) := hold.2
        dsimp only
        rw [o1, o2, e49, (adP_e (j := j) (by omega)).1, (adP_e (j := j) (by omega)).1, (adP_e (j := j) (by omega)).2, (adP_e (j := j) (by omega)).2, r46, r47, Int32.add_zero, Int32.zero_add]
        exact ⟨rfl, rfl⟩
      · rw [if_neg (by omega), if_neg (by omega), if_neg (by omega), if_neg (by omega)]
        have hne : ¬ σ.1 49 g = nI j := fun e => by
          have := (hs.2.1.2.2.2 g j hg hj).mpr e
          rw [e0] at this
          exact c ((nI_eq (by omega) (by omega)).mp this).symm
        dsimp only
        rw [adP_s (by omega) hne, adP_s (by omega) hne]
        exact hh g hg
  · rintro ⟨T, x⟩ ⟨hx, hf, hp, hh, hon⟩
    have hx : x = nI nh := hx
    subst hx
    have hf : Fr Pd σ T := hf
    have hP := h.fr (hf.mono (fun _ _ => Pd_Scr))
    show Ok (f_X5_dress_28_10_l90 1 T (nI nh)) _
    unfold f_X5_dress_28_10_l90
    rw [if_neg (by decide), (c_cnt hP).2.2.2, bd2_eq, if_pos (nI_le (Nat.le_refl nh) (by omega)), ok_some]
    refine ⟨_, rfl, ok_some.mpr ⟨hf, hp, fun g hg => ?_, hon⟩⟩
    have hht := hs.2.1.2.2.1 g hg
    have := hh g hg
    dsimp only at this
    rw [adP_S _ hht, adP_S _ hht] at this
    exact this
/-- what the relation gives for the shadows -/
theorem SN.okv {σ : Sto} {nb ns ng nh : Nat} {D : Int} (h : PL σ nb ns ng nh) (hs : SN σ ns ng nh D) : Okv σ ng := by
  intro g hg
  have hns : ns ≤ 6 := h.1.2.1
  have hnh : nh ≤ 4 := h.1.2.2.2
  refine ⟨?_, ?_⟩
  · rcases (hs.1.2.1 g hg).2 with q | q
    · exact Or.inl q
    · exact Or.inr (inB_up q hns)
  · rcases hs.2.1.2.2.1 g hg with q | q
    · exact Or.inl q
    · exact Or.inr (inB_up q hnh)
theorem hgM_rg {σ : Sto} {nb ns ng nh : Nat} {D : Int} (h : PL σ nb ns ng nh) (hs : SN σ ns ng nh D) : ∀ g, g < ng → rgI (hgM σ g) 1 110 ∧ rgI (coM σ g) 0 50 := by
  intro g hg
  have hnh : nh ≤ 4 := h.1.2.2.2
  have e := fun i hi => (h.2.2.2.2.2.2.2 i hi).2
  refine ⟨?_, ?_⟩
  · have h1 := (h.2.2.2.2.2.2.1 g hg).2
    have h2 := adS_rg (f := σ.1 46) (l := 0) (h := 20) (hs.2.1.2.2.1 g hg) (by omega) (fun i hi => (e i hi).1.up (by omega) (by omega)) ⟨by omega, by omega⟩
    exact (h1.add h2 (by omega) (by omega)).up (by omega) (by omega)
  · exact adS_rg (f := σ.1 47) (hs.2.1.2.2.1 g hg) (by omega) (fun i hi => (e i hi).2) ⟨by omega, by omega⟩
theorem long_rg {σ : Sto} {nb ns ng nh : Nat} {D : Int} (h : PL σ nb ns ng nh) {b : Int32} (hb : inB b nb = true) {d : Int32} (hd : rgI d 0 D) : rgI (lonS (σ.1 39 0) (σ.1 40 b.toNatClampNeg) (σ.1 41 b.toNatClampNeg) d) 0 700 := by
  obtain ⟨i, hi, rfl⟩ := inB_ex hb (by have := h.1.1; omega)
  rw [nI_clamp (by have := h.1.1; omega)]
  have e := (h.2.2.2.2.1 i hi).2
  exact lon_rg h.2.2.2.1.2 e.1 e.2 hd
/-- all at a bell on a day: the class's scene holds the spec -/
def SW (σ τ : Sto) (ns ng : Nat) (lg : Int32) : Prop :=
  Fr (fun k j => 28 ≤ k ∧ k ≤ 33) σ τ ∧ (τ.1 28 1 = nI ng ∧ τ.1 28 2 = lg ∧ τ.1 28 3 = σ.1 39 18) ∧ (∀ g, g < ng → (τ.1 29 g = hgM σ g ∧ τ.1 30 g = coM σ g) ∧ τ.1 31 g = shM σ ng lg g ∧ τ.1 32 g = gfM σ ng lg g) ∧ ∀ s, s < ns → IsWho (σ.1 48) (nI s) ng (τ.1 33 s)
theorem c_showAt {σ : Sto} {nb ns ng nh : Nat} {D E : Int} (h : PL σ nb ns ng nh) (hs : SN σ ns ng nh D) {b d : Int32} (hb : inB b nb = true) (hd : rgI d 0 E) : Ok (f_X7_showAt σ b d) (fun τ => SW σ τ ns ng (lonS (σ.1 39 0) (σ.1 40 b.toNatClampNeg) (σ.1 41 b.toNatClampNeg) d)) := by
  have hng : ng ≤ 6 := h.1.2.2.1
  have hlg := long_rg h hb hd
  generalize hL : lonS (σ.1 39 0) (σ.1 40 b.toNatClampNeg) (σ.1 41 b.toNatClampNeg) d = lg at hlg ⊢
  unfold f_X7_showAt
  rw [ok_bd1]
  refine ok_mono (c_dress h hs) (fun τ hd2 => ?_)
  obtain ⟨hf, hp, hh, hon⟩ := hd2
  have hfS : Fr Scr σ τ := hf.mono (fun _ _ => Pd_Scr)
  have hP := h.fr hfS
  have hlon : lonS (τ.1 39 0) (τ.1 40 b.toNatClampNeg) (τ.1 41 b.toNatClampNeg) d = lg := by
    rw [hf 39 0 (by unfold Pd; omega), hf 40 _ (by unfold Pd; omega), hf 41 _ (by unfold Pd; omega)]
    exact hL
  rw [c_longOf hP hb, bd2_eq, hlon]
  unfold f_X5_light_28
  simp only [bs_eq, bd1_eq]
  rw [ok_bd1]
  generalize hT : su (su τ 28 2 lg) 28 3 (τ.1 10 5) = T
  have hfT : Fr (fun k j => k = 28) τ T := by
    rw [← hT]
    refine Fr.su (Fr.su Fr.rf ?_) ?_ <;> exact rfl
  have hPT : PL T nb ns ng nh := hP.fr (hfT.mono (fun k j q => by unfold Scr; omega))
  have t1 : T.1 28 1 = nI ng := by rw [← hT]; exact hp
  have t2 : T.1 28 2 = lg := by rw [← hT]; rfl
  have t3 : T.1 28 3 = σ.1 39 18 := by
    rw [← hT]
    show τ.1 10 5 = _
    rw [hf 10 5 (by unfold Pd; omega)]
    exact hs.2.2.1.2.2.2.1
  have r42 : T.1 42 = σ.1 42 := by rw [← hT]; exact hfS.row (k := 42) (by unfold Scr; omega)
  have r43 : T.1 43 = σ.1 43 := by rw [← hT]; exact hfS.row (k := 43) (by unfold Scr; omega)
  have r44 : T.1 44 = σ.1 44 := by rw [← hT]; exact hfS.row (k := 44) (by unfold Scr; omega)
  have hc := c_cast (σ := T) (n := ng) (sp := σ.1 48) (hg := hgM σ) hPT (by omega) t1 (fun s q => by rw [show T.1 33 s = τ.1 33 s by rw [← hT]; rfl]; exact hon s q) (fun g q => (hs.1.2.1 g q).2) hs.1.2.2 (fun g q => by rw [show T.1 29 g = τ.1 29 g by rw [← hT]; rfl]; exact (hh g q).1) (fun g q => ((hgM_rg h hs g q).1).up (by omega) (by omega)) (by rw [t2]; exact hlg.up (by omega) (by omega)) (by rw [t3]; rw [← hs.2.2.1.2.2.2.1]; exact hs.2.2.2.1)
  refine ok_mono hc (fun τ2 q => ?_)
  obtain ⟨f, f', rfl, hff⟩ := q
  rw [ok_some]
  rw [r42, r43, r44, t2, t3] at hff
  have hfall : Fr (fun k j => 28 ≤ k ∧ k ≤ 33) σ T := (hf.mono (fun k j q => by unfold Pd at q; omega)).tr (hfT.mono (fun k j q => by omega))
  refine ⟨(hfall.sc (fun j => by omega)).sc (fun j => by omega), ⟨t1, t2, t3⟩, fun g q => ⟨?_, ?_, ?_⟩, fun s q => ?_⟩
  · show T.1 29 g = _ ∧ T.1 30 g = _
    rw [← hT]
    exact hh g q
  · exact (hff g q).1
  · exact (hff g q).2
  · show IsWho (σ.1 48) (nI s) ng (T.1 33 s)
    rw [← hT]
    exact hon s q
