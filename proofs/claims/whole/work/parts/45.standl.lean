/-! standing: the reference's loop over all codes -/
theorem m_standBy {Y : Sto} {ng ns m c : Nat} (hng : ng ≤ 6) (hns : ns ≤ 6) (hm : m ≤ 6) (hc : c < 2 ^ 31) (h8 : Y.1 39 8 = nI ng) (h4 : Y.1 39 4 = nI ns) : Ok (f_X8_standBy Y (nI c) (nI m)) (fun y => y.2 = bB (okB ng ns m c) ∧ Fr (fun k j => k = 48 ∧ j < ng) Y y.1 ∧ (okB ng ns m c = true → ∀ g, g < ng → y.1.1 48 g = spC ng ns c g)) := by
  unfold f_X8_standBy
  rw [ok_bs, ok_bs, ok_bs, ok_bs, ok_bE1]
  refine ok_mono (m_standClr hng h8 _ _ _ _) (fun y hy => ?_)
  obtain ⟨Z, x⟩ := y
  obtain ⟨hf, hr⟩ := hy
  dsimp only at hf hr ⊢
  have z8 : Z.1 39 8 = nI ng := (hf 39 8 (by omega)).trans h8
  have z4 : Z.1 39 4 = nI ns := (hf 39 4 (by omega)).trans h4
  have e1 : nI ns - 1 = nI ns + (-1) := by
    rcases Nat.eq_zero_or_pos ns with q | q
    · subst q; decide
    · obtain ⟨k, rfl⟩ : ∃ k, ns = k + 1 := ⟨ns - 1, by omega⟩
      rw [pk_m1]
      exact pk_sub (b := 1) (by omega)
  rw [ok_bs, z4, e1, ok_bE4]
  refine ok_mono (m_standL hng hns hc z8 hr (nI m)) (fun w hw => ?_)
  obtain ⟨W, w3, w4, w5, w6⟩ := w
  obtain ⟨hg, e4, ⟨b, e5, hb⟩, hp⟩ := hw
  dsimp only at hg e4 e5 hp ⊢
  subst e4 e5
  have hcnt := cntR_le ng (dgT (ng + 1) ns c) 0 ns
  have hfa : Fr (fun k j => k = 48 ∧ j < ng) Y W := hf.tr hg
  have place : okB ng ns m c = true → ∀ g, g < ng → W.1 48 g = spC ng ns c g := by
    intro ho g hgg
    obtain ⟨nd, -⟩ := okB_iff.mp ho
    rcases hp g hgg with ⟨k1, k2⟩ | ⟨s, -, k2, k3, k4⟩
    · rw [k1]
      rcases whoN_is (plR ng ns c) (nI g) ns with ⟨u1, u2⟩ | ⟨s', u1, u2, u3⟩
      · exact u1.symm
      · exact absurd (rwD_nI (by omega) (by omega) u3).1 (k2 s' (by omega) u1)
    · rw [k3]
      rcases whoN_is (plR ng ns c) (nI g) ns with ⟨u1, u2⟩ | ⟨s', u1, u2, u3⟩
      · refine absurd ?_ (u2 s k2)
        show rwD ng (dgT (ng + 1) ns c s) = nI g
        rw [k4]
        exact if_pos hgg
      · have e := rwD_nI (by omega) (by omega) u3
        have : s' = s := nd s' u1 s k2 (e.1.trans k4.symm) e.2
        subst this
        exact u2.symm
  have ndI : noDup ng (dgT (ng + 1) ns c) 0 ns ↔ ∀ s, s < ns → ∀ s', s' < ns → dgT (ng + 1) ns c s = dgT (ng + 1) ns c s' → dgT (ng + 1) ns c s < ng → s = s' := ⟨fun nd s h1 s' h2 => nd s s' (Nat.zero_le s) h1 (Nat.zero_le s') h2, fun nd s s' _ h1 _ h2 => nd s h1 s' h2⟩
  unfold f_X8_standBy_j130 f_X8_standBy_j131
  have z0 : zB (0 : Int32) = true := by decide
  have z1 : zB (1 : Int32) = true := by decide
  rw [z0, z1, gd_true, gd_true]
  cases b with
  | false =>
    have ho : okB ng ns m c = false := okB_no (fun q => by have := hb.mpr (ndI.mpr q.1); cases this)
    rw [if_pos (show bB false = 0 by rfl), ok_some, ho]
    exact ⟨rfl, hfa, fun q => (by cases q)⟩
  | true =>
    rw [if_neg (show ¬ bB true = 0 by decide)]
    by_cases cm : cntR ng (dgT (ng + 1) ns c) 0 ns = m
    · have ho : okB ng ns m c = true := okB_iff.mpr ⟨ndI.mp (hb.mp rfl), cm⟩
      rw [if_pos (by rw [cm]), ok_some, ho]
      exact ⟨rfl, hfa, fun _ => place ho⟩
    · have ho : okB ng ns m c = false := okB_no (fun q => cm q.2)
      rw [if_neg (fun q => cm ((nI_eq (by omega) (by omega)).mp q)), ok_some, ho]
      exact ⟨rfl, hfa, fun q => (by cases q)⟩
theorem shade_cong {hg st md wl sp sp' : Nat → Int32} {n : Nat} {lg : Int32} (hn : n ≤ 7) (e : ∀ g, g < n → sp' g = sp g) : ∀ g, g < n → shadeS hg st md wl sp' n lg g = shadeS hg st md wl sp n lg g := by
  intro g hgn
  have ef : frN sp' n g = frN sp n g := by
    unfold frN
    rw [e g hgn, whoN_cong e]
  unfold shadeS
  rw [e g hgn, ef]
  by_cases c : 0 ≤ frN sp n g
  · have e2 : sp' (frN sp n g).toNatClampNeg = sp (frN sp n g).toNatClampNeg := by
      refine e _ ?_
      unfold frN at c ⊢
      by_cases q : sp g = 0
      · rw [if_pos q] at c
        exact absurd c (by decide)
      · rw [if_neg q] at c ⊢
        obtain ⟨g1, k1, k2, -⟩ := whoN_cl (sp := sp) (s := sp g - 1) (n := n) (by omega) (i_nlt.mpr (i_le.mp c))
        rw [k2, nI_clamp (by omega)]
        exact k1
    rw [e2]
  · have cc : ∀ P : Prop, ¬ (0 ≤ frN sp n g ∧ P) := fun P q => c q.1
    rw [if_neg (cc _), if_neg (cc _)]
theorem gift_cong {lw : Int32} {sp sp' sh sh' : Nat → Int32} {n : Nat} (hn : n ≤ 7) (e : ∀ g, g < n → sp' g = sp g) (e2 : ∀ g, g < n → sh' g = sh g) : ∀ g, g < n → giftS lw sp' sh' n g = giftS lw sp sh n g := by
  intro g hgn
  unfold giftS
  rw [e2 g hgn, longN_cong (sp := sp) (sh := sh) (by omega) (fun g hg => ⟨e g hg, e2 g hg⟩), sumN_cong (f := sh) e2]
def MI (σ Y : Sto) (ng : Nat) : Prop := Fr (fun k j => Scr k j ∨ (k = 48 ∧ j < ng)) σ Y ∧ ∀ g, g < ng → Y.1 62 g = σ.1 48 g ∧ Y.1 63 g = σ.1 49 g
def AccM (Y : Sto) (ng ns : Nat) (a : Option (Int32 × Nat)) : Prop := match a with
  | none => Y.1 39 47 = -1000000000
  | some p => Y.1 39 47 = p.1 ∧ ∀ s, s < ns → Y.1 64 s = plR ng ns p.2 s
theorem vl_rg {σ : Sto} {N nb ns ng nh m c : Nat} {lg x : Int32} (h : Rl σ N nb ns ng nh) (hl : rgI lg 0 1000) (hx : x = -1 ∨ inB x ng = true) (hc : okB ng ns m c = true) : rgI (vlC σ ng ns lg x c) (-1000000) 10000000 := by
  have hng : ng ≤ 6 := h.1.1.2.2.1
  have hns : ns ≤ 6 := h.1.1.2.1
  obtain ⟨j1, j2, j3⟩ := spC_ok hng hns hc
  have al : ∀ g, g < ng → rgI (alS σ ng lg (spC ng ns c) g) (-50) 700000 := by
    intro g hg
    have hsh := shade_rg (hg := hgM σ) (st := σ.1 42) (md := σ.1 43) (wl := σ.1 44) (sp := spC ng ns c) (n := ng) (lg := lg) hns j2 (fun g q => (hgM_rg h.1 h.2.1 g q).1.up (by omega) (by omega)) (fun s q => (h.1.2.2.2.2.2.1 s q).2) hl
    have hgf := gift_rg (lw := σ.1 39 18) (sp := spC ng ns c) (by omega) hsh hg
    exact (hgf.sub (hgM_rg h.1 h.2.1 g hg).2 (by omega) (by omega)).up (by omega) (by omega)
  unfold vlC vlS
  rcases hx with q | q
  · rw [if_pos q]
    exact (sumN_rg ng (by omega) (by omega) (by omega) al).up (by omega) (by omega)
  · rw [if_neg (inB_ne q)]
    obtain ⟨g, hg, eg⟩ := inB_ex q (by omega)
    rw [eg, nI_clamp (by omega)]
    exact (al g hg).up (by omega) (by omega)
theorem m_rowL {Y : Sto} {ng ns : Nat} (hng : ng ≤ 6) (hns : ns ≤ 6) (h8 : Y.1 39 8 = nI ng) (h4 : Y.1 39 4 = nI ns) (a b c d e : Int32) : Ok (lpF (fun t => f_X8_findStanding_l134 a b c d e t.1 t.2) FU (Y, (0 : Int32))) (fun y => Fr (fun k j => k = 64) Y y.1 ∧ ∀ s, s < ns → y.1.1 64 s = whoN (Y.1 48) (nI s) ng) := by
  refine lp_for (fun i t => t.2 = nI i ∧ Fr (fun k j => k = 64) Y t.1 ∧ ∀ s, s < i → t.1.1 64 s = whoN (Y.1 48) (nI s) ng) ns (FU_big (by omega)) ⟨rfl, Fr.rf, fun g q => absurd q (Nat.not_lt_zero g)⟩ ?_ ?_
  · rintro i ⟨Z, x⟩ hi ⟨e, hf, hr⟩
    dsimp only at e hf hr ⊢
    subst e
    have e8 : Z.1 39 8 = nI ng := (hf 39 8 (by omega)).trans h8
    have e4 : Z.1 39 4 = nI ns := (hf 39 4 (by omega)).trans h4
    have e48 : Z.1 48 = Y.1 48 := funext (fun j => hf 48 j (by omega))
    unfold f_X8_findStanding_l134
    rw [e4, if_neg (nI_ge hi (by omega)), e8, m_whoIsOn Z (nI i) (show ng ≤ 7 by omega), bd2_eq, inB_n (show i < 6 by omega) (by omega), gd_true, ok_bs, ok_bs, ok_some, nI_clamp (show i < 2 ^ 31 by omega), nI_1, e48]
    refine Or.inl ⟨_, rfl, rfl, hf.su rfl, fun s hs => ?_⟩
    rw [su_at]
    by_cases q : s = i
    · subst q; rw [if_pos ⟨rfl, rfl⟩]
    · rw [if_neg (fun z => q z.2)]; exact hr s (by omega)
  · rintro ⟨Z, x⟩ ⟨e, hf, hr⟩
    dsimp only at e hf hr ⊢
    subst e
    have e4 : Z.1 39 4 = nI ns := (hf 39 4 (by omega)).trans h4
    unfold f_X8_findStanding_l134
    rw [e4, if_pos (nI_le (Nat.le_refl ns) (by omega)), ok_some]
    exact ⟨_, rfl, hf, hr⟩
