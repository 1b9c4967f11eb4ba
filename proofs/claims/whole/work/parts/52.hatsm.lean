/-! hats: one code, all codes, the call -/
theorem shade_hcong {hg hg' st md wl sp : Nat → Int32} {n : Nat} {lg : Int32} (hn : n ≤ 7) (e : ∀ g, g < n → hg' g = hg g) : ∀ g, g < n → shadeS hg' st md wl sp n lg g = shadeS hg st md wl sp n lg g := by
  intro g hgn
  unfold shadeS
  rw [e g hgn]
  by_cases c : 0 ≤ frN sp n g
  · have e2 : hg' (frN sp n g).toNatClampNeg = hg (frN sp n g).toNatClampNeg := by
      refine e _ ?_
      unfold frN at c ⊢
      by_cases q : sp g = 0
      · rw [if_pos q] at c
        exact absurd c (by decide)
      · rw [if_neg q] at c ⊢
        obtain ⟨g1, k1, k2, -⟩ := whoN_cl (sp := sp) (s := sp g - 1) (n := n) (by omega) (i_nlt.mpr (i_le.mp c))
        rw [k2, nI_clamp (by omega)]
        exact k1
    rw [e2]
  · have cc : ∀ P : Prop, ¬ (0 ≤ frN sp n g ∧ P) := fun P q => c q.1
    rw [if_neg (cc _), if_neg (cc _)]
def MH (σ Y : Sto) (ng : Nat) : Prop := Fr (fun k j => Scr k j ∨ (k = 49 ∧ j < ng)) σ Y ∧ ∀ g, g < ng → Y.1 62 g = σ.1 48 g ∧ Y.1 63 g = σ.1 49 g
theorem MH.k39 {σ Y : Sto} {ng : Nat} (h : MH σ Y ng) {j : Nat} (hj : j ≤ 22 ∨ (42 ≤ j ∧ j ≤ 46) ∨ 48 ≤ j) : Y.1 39 j = σ.1 39 j := h.1 39 j (by unfold Scr; omega)
theorem MH.row {σ Y : Sto} {ng : Nat} (h : MH σ Y ng) {k : Nat} (hk : (40 ≤ k ∧ k ≤ 48) ∨ k = 50) : Y.1 k = σ.1 k := funext (fun j => h.1 k j (by unfold Scr; omega))
def AccN (Y : Sto) (ng nh : Nat) (a : Option (Int32 × Nat)) : Prop := match a with
  | none => Y.1 39 47 = -1000000000
  | some p => Y.1 39 47 = p.1 ∧ ∀ s, s < nh → Y.1 64 s = rowH ng nh p.2 s
theorem vlH_rg {σ : Sto} {N nb ns ng nh c : Nat} {lg : Int32} (h : Rl σ N nb ns ng nh) (hl : rgI lg 0 1000) : rgI (vlH σ ng nh lg c) (-1000000) 10000000 := by
  have hng : ng ≤ 6 := h.1.1.2.2.1
  have hns : ns ≤ 6 := h.1.1.2.1
  have hnh : nh ≤ 4 := h.1.1.2.2.2
  have hP0 := h.1
  have hhr : ∀ g, g < ng → rgI (hgH σ (htP ng nh c) g) 0 500 := by
    intro g hg
    have h1 := (hP0.2.2.2.2.2.2.1 g hg).2
    have h2 := adS_rg (f := σ.1 46) (l := 0) (h := 20) (htP_in (ng := ng) (q := c) (g := g) hnh) (by omega) (fun i hi => ((hP0.2.2.2.2.2.2.2 i hi).2.1).up (by omega) (by omega)) ⟨by omega, by omega⟩
    exact (h1.add h2 (by omega) (by omega)).up (by omega) (by omega)
  have hco : ∀ g, g < ng → rgI (coH σ (htP ng nh c) g) 0 50 := fun g hg => adS_rg (f := σ.1 47) (htP_in (ng := ng) (q := c) (g := g) hnh) (by omega) (fun i hi => (hP0.2.2.2.2.2.2.2 i hi).2.2) ⟨by omega, by omega⟩
  have al : ∀ g, g < ng → rgI (alH σ ng lg (htP ng nh c) g) (-50) 700000 := by
    intro g hg
    have hsh := shade_rg (hg := hgH σ (htP ng nh c)) (st := σ.1 42) (md := σ.1 43) (wl := σ.1 44) (sp := σ.1 48) (n := ng) (lg := lg) hns (fun g q => (h.2.1.1.2.1 g q).2) hhr (fun s q => (hP0.2.2.2.2.2.1 s q).2) hl
    have hgf := gift_rg (lw := σ.1 39 18) (sp := σ.1 48) (by omega) hsh hg
    exact (hgf.sub (hco g hg) (by omega) (by omega)).up (by omega) (by omega)
  exact (sumN_rg ng (by omega) (by omega) (by omega) al).up (by omega) (by omega)
theorem m_rowH {Y : Sto} {ng nh : Nat} (hng : ng ≤ 6) (hnh : nh ≤ 4) (h8 : Y.1 39 8 = nI ng) (h10 : Y.1 39 10 = nI nh) (a b c d : Int32) : Ok (lpF (fun t => f_X8_hats_l123 a b c d t.1 t.2) FU (Y, (0 : Int32))) (fun y => Fr (fun k j => k = 64) Y y.1 ∧ ∀ s, s < nh → y.1.1 64 s = whoN (Y.1 49) (nI s) ng) := by
  refine lp_for (fun i t => t.2 = nI i ∧ Fr (fun k j => k = 64) Y t.1 ∧ ∀ s, s < i → t.1.1 64 s = whoN (Y.1 49) (nI s) ng) nh (FU_big (by omega)) ⟨rfl, Fr.rf, fun g q => absurd q (Nat.not_lt_zero g)⟩ ?_ ?_
  · rintro i ⟨Z, x⟩ hi ⟨e, hf, hr⟩
    dsimp only at e hf hr ⊢
    subst e
    have e8 : Z.1 39 8 = nI ng := (hf 39 8 (by omega)).trans h8
    have e4 : Z.1 39 10 = nI nh := (hf 39 10 (by omega)).trans h10
    have e49 : Z.1 49 = Y.1 49 := funext (fun j => hf 49 j (by omega))
    unfold f_X8_hats_l123
    rw [e4, if_neg (nI_ge hi (by omega)), m_onWhom Z (nI i) e8 (show ng ≤ 7 by omega), bd2_eq, inB_n (show i < 6 by omega) (by omega), gd_true, ok_bs, ok_bs, ok_some, nI_clamp (show i < 2 ^ 31 by omega), nI_1, e49]
    refine Or.inl ⟨_, rfl, rfl, hf.su rfl, fun s hs => ?_⟩
    rw [su_at]
    by_cases q : s = i
    · subst q; rw [if_pos ⟨rfl, rfl⟩]
    · rw [if_neg (fun z => q z.2)]; exact hr s (by omega)
  · rintro ⟨Z, x⟩ ⟨e, hf, hr⟩
    dsimp only at e hf hr ⊢
    subst e
    have e4 : Z.1 39 10 = nI nh := (hf 39 10 (by omega)).trans h10
    unfold f_X8_hats_l123
    rw [e4, if_pos (nI_le (Nat.le_refl nh) (by omega)), ok_some]
    exact ⟨_, rfl, hf, hr⟩
theorem m_tryHat {σ Y : Sto} {N nb ns ng nh c T : Nat} {b x : Int32} {a : Option (Int32 × Nat)} (h : Rl σ N nb ns ng nh) (hb : inB b nb = true) (hT : T < 2 ^ 31) (hc : c < T) (hY : MH σ Y ng) (hA : AccN Y ng nh a) : Ok (f_X8_hats_l67 b x (nI T) Y (nI c)) (fun y => ∃ Z, y = .inl (Z, nI (c + 1)) ∧ MH σ Z ng ∧ AccN Z ng nh (stepF (okH σ ng nh) (vlH σ ng nh (lonM σ b (σ.1 39 13))) a c)) := by
  have hng : ng ≤ 6 := h.1.1.2.2.1
  have hns : ns ≤ 6 := h.1.1.2.1
  have hnb : nb ≤ 4 := h.1.1.1
  have hnh : nh ≤ 4 := h.1.1.2.2.2
  obtain ⟨hP, hS, -⟩ := id h
  have hd : rgI (σ.1 39 13) 0 (99 * N) := by rw [← hS.2.2.1.2.1]; exact hS.2.2.2.2.2
  have hlg := lonM_rg hP hb hd
  have y8 : Y.1 39 8 = nI ng := (hY.k39 (by omega)).trans hP.2.1.2.2.1
  have y10 : Y.1 39 10 = nI nh := (hY.k39 (by omega)).trans hP.2.1.2.2.2
  have y48 : ∀ g, Y.1 48 g = σ.1 48 g := fun g => by rw [hY.row (k := 48) (by omega)]
  unfold f_X8_hats_l67
  rw [if_neg (nI_ge hc hT), ok_bd2]
  refine ok_mono (m_lendBy (σ := σ) hng hnh (by omega) y8 y10 y48) (fun w hw => ?_)
  obtain ⟨Z, v⟩ := w
  obtain ⟨e1, hf, hp⟩ := hw
  dsimp only at e1 hf hp ⊢
  subst e1
  have hZ : MH σ Z ng := ⟨hY.1.tr (hf.mono (fun k j q => Or.inr q)), fun g hg => by rw [hf 62 g (by omega), hf 63 g (by omega)]; exact hY.2 g hg⟩
  have zA : AccN Z ng nh a := by
    cases a with
    | none => exact (hf 39 47 (by omega)).trans hA
    | some p => exact ⟨(hf 39 47 (by omega)).trans hA.1, fun s hs => (hf 64 s (by omega)).trans (hA.2 s hs)⟩
  have z8 : Z.1 39 8 = nI ng := (hZ.k39 (by omega)).trans hP.2.1.2.2.1
  have z10 : Z.1 39 10 = nI nh := (hZ.k39 (by omega)).trans hP.2.1.2.2.2
  unfold f_X8_hats_j151
  cases ho : okH σ ng nh c with
  | false =>
    rw [if_pos (show bB false = 0 by rfl), ok_bs, ok_some, nI_1]
    refine ⟨Z, rfl, hZ, ?_⟩
    have : stepF (okH σ ng nh) (vlH σ ng nh (lonM σ b (σ.1 39 13))) a c = a := if_neg (by rw [ho]; decide)
    rw [this]
    exact zA
  | true =>
    have hp2 := hp ho
    obtain ⟨j1, j2, j3⟩ := htP_ok hng hnh ho
    rw [if_neg (show ¬ bB true = 0 by decide)]
    have hlo : f_X8_longNow Z b = some (Z, lonM σ b (σ.1 39 13)) := by
      have y0 : ¬ Z.1 39 0 = 0 := by rw [hZ.k39 (by omega)]; exact hP.y0
      rw [m_longNow (inB_up hb hnb) y0, hZ.k39 (by omega), hZ.row (k := 40) (by omega), hZ.row (k := 41) (by omega), hZ.k39 (by omega)]
      rfl
    have hok : Okv Z ng := by
      intro g hg
      rw [hp2 g hg, hZ.row (k := 48) (by omega)]
      refine ⟨(SN.okv hP hS g hg).1, ?_⟩
      rcases j2 g hg with q | q
      · exact Or.inl q
      · exact Or.inr (inB_up q hnh)
    have hv := vlH_rg (c := c) h hlg
    generalize hlgE : lonM σ b (σ.1 39 13) = lg at *
    rw [hlo, bd2_eq, z8, m_findAlms lg hok (by omega), bd1_eq]
    generalize hU : sc (sc Z 60 (fillN (shM Z ng lg) (Z.1 60) ng)) 61 (fillN (gfM Z ng lg) (Z.1 61) ng) = U
    have hUM : MH σ U ng := by
      rw [← hU]
      exact ⟨(hZ.1.sc (fun j => by unfold Scr; omega)).sc (fun j => by unfold Scr; omega), hZ.2⟩
    have uA : AccN U ng nh a := by rw [← hU]; exact zA
    have u8 : U.1 39 8 = nI ng := by rw [← hU]; exact z8
    have u10 : U.1 39 10 = nI nh := by rw [← hU]; exact z10
    have hokU : Okv U ng := by rw [← hU]; exact hok
    have u49 : U.1 49 = Z.1 49 := by rw [← hU]; rfl
    have eh : ∀ g, g < ng → hgM Z g = hgH σ (htP ng nh c) g := by
      intro g hg
      unfold hgM hgH
      rw [hp2 g hg, hZ.row (k := 45) (by omega), hZ.row (k := 46) (by omega)]
    have ecU : ∀ g, g < ng → coM U g = coH σ (htP ng nh c) g := by
      intro g hg
      unfold coM coH
      rw [u49, hp2 g hg, hUM.row (k := 47) (by omega)]
    have ual : ∀ g, g < ng → U.1 61 g - coM U g = alH σ ng lg (htP ng nh c) g := by
      intro g hg
      have e61 : U.1 61 g = gfM Z ng lg g := by rw [← hU, sc_same, fillN_in hg]
      have egf : gfM Z ng lg g = giftS (σ.1 39 18) (σ.1 48) (shadeS (hgH σ (htP ng nh c)) (σ.1 42) (σ.1 43) (σ.1 44) (σ.1 48) ng lg) ng g := by
        unfold gfM shM
        rw [hZ.k39 (by omega), hZ.row (k := 42) (by omega), hZ.row (k := 43) (by omega), hZ.row (k := 44) (by omega), hZ.row (k := 48) (by omega)]
        exact gift_cong (by omega) (fun g _ => rfl) (shade_hcong (by omega) eh) g hg
      rw [e61, egf, ecU g hg]
      rfl
    rw [u8, m_almsOfAll hokU (by omega), bd2_eq, sumN_cong (f := alH σ ng lg (htP ng nh c)) ual, ok_bs]
    have ev : sumN (alH σ ng lg (htP ng nh c)) ng = vlH σ ng nh lg c := rfl
    rw [ev]
    have put : Ok (bs (su U 39 47 (vlH σ ng nh lg c)) fun σ25 => bs (0 : Int32) fun z26 => bE1 (lpF (fun t => f_X8_hats_l123 b x (nI T) (nI c) t.1 t.2) FU (σ25, z26)) (fun σ31 z32 => bs (nI c + (1 : Int32)) fun z17 => some (.inl (σ31, z17)))) (fun y : (Sto × Int32) ⊕ (Sto × Int32) => ∃ Z, y = .inl (Z, nI (c + 1)) ∧ MH σ Z ng ∧ AccN Z ng nh (some (vlH σ ng nh lg c, c))) := by
      rw [ok_bs, ok_bs, ok_bE1]
      refine ok_mono (m_rowH (Y := su U 39 47 (vlH σ ng nh lg c)) hng hnh u8 u10 _ _ _ _) (fun r hr => ?_)
      obtain ⟨hfr, hrow⟩ := hr
      rw [ok_bs, ok_some, nI_1]
      refine ⟨r.1, rfl, ⟨(hUM.1.su (Or.inl (by unfold Scr; omega))).tr (hfr.mono (fun k j q => Or.inl (by unfold Scr; omega))), fun g hg => ?_⟩, ?_, fun s hs => ?_⟩
      · rw [hfr 62 g (by omega), hfr 63 g (by omega)]
        exact hUM.2 g hg
      · rw [hfr 39 47 (by omega)]
        rfl
      · rw [hrow s hs]
        show whoN (U.1 49) (nI s) ng = rowH ng nh c s
        rw [u49, whoN_cong hp2]
        exact (who_who j3 (by rw [nI_toInt (by omega)]; omega) (j1 s hs)).symm
    cases a with
    | none =>
      have e47 : U.1 39 47 = -1000000000 := uA
      rw [e47, if_neg (fun q => by
        have h1 := i_le.mp q
        have h2 := hv.1
        have z : (-1000000000 : Int32).toInt = -1000000000 := rfl
        omega), stepF_none ho]
      exact put
    | some p =>
      have e47 : U.1 39 47 = p.1 := uA.1
      rw [e47]
      by_cases cv : vlH σ ng nh lg c ≤ p.1
      · rw [if_pos cv, stepF_le ho cv, ok_bs, ok_some, nI_1]
        exact ⟨U, rfl, hUM, uA⟩
      · rw [if_neg cv, stepF_gt ho cv]
        exact put
theorem m_powH {Y : Sto} {ng nh : Nat} (hng : ng ≤ 6) (hnh : nh ≤ 4) (h8 : Y.1 39 8 = nI ng) (h10 : Y.1 39 10 = nI nh) (a b : Int32) : lpF (fun t => f_X8_hats_l33 a b t.1 t.2.1 t.2.2) FU (Y, (1 : Int32), (0 : Int32)) = some (Y, nI ((ng + 1) ^ nh), nI nh) := by
  refine lp_eq (fun i => (Y, nI ((ng + 1) ^ i), nI i)) nh (FU_big (by omega)) (fun i hi => ?_) ?_
  · dsimp only
    unfold f_X8_hats_l33
    rw [h10, if_neg (nI_ge hi (by omega)), h8, nI_1, pk_mul, bs_eq, bs_eq, nI_1, Nat.pow_succ]
  · dsimp only
    unfold f_X8_hats_l33
    rw [h10, if_pos (nI_le (Nat.le_refl nh) (by omega))]
theorem m_allHats {σ Y : Sto} {N nb ns ng nh : Nat} {b x : Int32} (h : Rl σ N nb ns ng nh) (hb : inB b nb = true) (hY : MH σ Y ng) (hA : AccN Y ng nh none) : Ok (lpF (fun t => f_X8_hats_l67 b x (nI ((ng + 1) ^ nh)) t.1 t.2) FU (Y, (0 : Int32))) (fun y => MH σ y.1 ng ∧ AccN y.1 ng nh (foldF (okH σ ng nh) (vlH σ ng nh (lonM σ b (σ.1 39 13))) 0 ((ng + 1) ^ nh) none)) := by
  have hng : ng ≤ 6 := h.1.1.2.2.1
  have hnh : nh ≤ 4 := h.1.1.2.2.2
  have hT := pow_big hng (show nh ≤ 6 by omega)
  generalize hTe : (ng + 1) ^ nh = T at hT ⊢
  refine lp_for (fun i t => t.2 = nI i ∧ MH σ t.1 ng ∧ AccN t.1 ng nh (foldF (okH σ ng nh) (vlH σ ng nh (lonM σ b (σ.1 39 13))) 0 i none)) T (FU_big (by omega)) ⟨rfl, hY, hA⟩ ?_ ?_
  · rintro i ⟨Z, c⟩ hi ⟨e, hZ, zA⟩
    dsimp only at e hZ zA ⊢
    subst e
    refine ok_mono (m_tryHat h hb (by omega) hi hZ zA) (fun y hy => ?_)
    obtain ⟨W, e, hW, wA⟩ := hy
    refine Or.inl ⟨_, e, rfl, hW, ?_⟩
    show AccN W ng nh (stepF _ _ _ (0 + i))
    rw [Nat.zero_add]
    exact wA
  · rintro ⟨Z, c⟩ ⟨e, hZ, zA⟩
    dsimp only at e hZ zA ⊢
    subst e
    unfold f_X8_hats_l67
    rw [if_pos (nI_le (Nat.le_refl T) (by omega)), ok_some]
    exact ⟨_, rfl, hZ, zA⟩
theorem m_hatsJ {σ τ : Sto} {N nb ns ng nh : Nat} {b w : Int32} (h : Rl σ N nb ns ng nh) (hf0 : Fr Scr σ τ) (hb : inB b nb = true) (hw : w = -1 ∨ inB w nh = true) : Ok (f_X8_hats_j24 τ b w) (fun y => Fr Scr τ y.1 ∧ y.2 = htA σ ng nh (lonM σ b (σ.1 39 13)) w) := by
  have hng : ng ≤ 6 := h.1.1.2.2.1
  have hns : ns ≤ 6 := h.1.1.2.1
  have hnh : nh ≤ 4 := h.1.1.2.2.2
  have hPt := (h.fr hf0).1
  unfold f_X8_hats_j24 f_X8_hats_j179
  rw [ok_bd1]
  refine ok_mono (m_saveAll hng hPt.2.1.2.2.1) (fun Y hY => ?_)
  obtain ⟨hf1, hs1⟩ := hY
  have hMI : MH σ Y ng := by
    refine ⟨(hf0.mono (fun k j q => Or.inl q)).tr (hf1.mono (fun k j q => Or.inl (by unfold Scr; omega))), fun g hg => ?_⟩
    rw [(hs1 g hg).1, (hs1 g hg).2, hf0 48 g (by unfold Scr; omega), hf0 49 g (by unfold Scr; omega)]
    exact ⟨rfl, rfl⟩
  have y8 : Y.1 39 8 = nI ng := (hMI.k39 (by omega)).trans h.1.2.1.2.2.1
  have y10 : Y.1 39 10 = nI nh := (hMI.k39 (by omega)).trans h.1.2.1.2.2.2
  rw [ok_bs, ok_bs, m_powH hng hnh y8 y10, bE2_eq, ok_bs, ok_bs, ok_bE1]
  have hM2 : MH σ (su Y 39 47 (-1000000000)) ng := ⟨hMI.1.su (Or.inl (by unfold Scr; omega)), hMI.2⟩
  refine ok_mono (m_allHats h hb hM2 rfl) (fun y hy => ?_)
  obtain ⟨Z, c⟩ := y
  obtain ⟨hZ, zA⟩ := hy
  dsimp only at hZ zA ⊢
  have z8 : Z.1 39 8 = nI ng := (hZ.k39 (by omega)).trans h.1.2.1.2.2.1
  rw [ok_bd1]
  refine ok_mono (m_putBack hng z8) (fun W hW => ?_)
  obtain ⟨hfW, hrW⟩ := hW
  have hfin : Fr Scr τ W := by
    intro k j q
    by_cases c1 : (k = 48 ∨ k = 49) ∧ j < ng
    · rcases c1.1 with e | e
      · subst e
        rw [(hrW j c1.2).1, (hZ.2 j c1.2).1, hf0 48 j q]
      · subst e
        rw [(hrW j c1.2).2, (hZ.2 j c1.2).2, hf0 49 j q]
    · rw [hfW k j c1, hf0 k j q]
      exact hZ.1 k j (fun z => z.elim q (fun z => c1 ⟨Or.inr z.1, z.2⟩))
  have hsm := foldH_some (σ := σ) (ng := ng) (nh := nh) (lg := lonM σ b (σ.1 39 13))
  unfold htA
  cases e : foldF (okH σ ng nh) (vlH σ ng nh (lonM σ b (σ.1 39 13))) 0 ((ng + 1) ^ nh) none with
  | none => exact absurd e hsm
  | some p =>
    rw [e] at zA
    obtain ⟨q2, q3⟩ := zA
    rcases hw with q | q
    · rw [if_pos q, ok_some]
      refine ⟨hfin, ?_⟩
      dsimp only
      rw [if_pos q, hfW 39 47 (by omega)]
      exact q2
    · obtain ⟨s, hs, es⟩ := inB_ex q (by omega)
      rw [if_neg (inB_ne q), inB_up q (show nh ≤ 6 by omega), gd_true, ok_some]
      refine ⟨hfin, ?_⟩
      dsimp only
      rw [if_neg (inB_ne q), hfW 64 _ (by omega), es, nI_clamp (by omega)]
      exact q3 s hs
theorem s_hats (b w : Int32) : CallR (fun σ => f_X7_hats σ b w) (fun σ => f_X8_hats σ b w) := by
  intro N σ hN hR
  obtain ⟨nb, ns, ng, nh, h⟩ := hR
  have hng : ng ≤ 6 := h.1.1.2.2.1
  have hnh : nh ≤ 4 := h.1.1.2.2.2
  have hnb : nb ≤ 4 := h.1.1.1
  refine stp_look (f7 := fun σ => f_X7_hats σ b w) (f8 := fun σ => f_X8_hats σ b w) h (v := if inB b nb = true then (if w = -1 ∨ inB w nh = true then htA σ ng nh (lonM σ b (σ.1 39 13)) w else -1000000001) else -1000000001) ?_ (fun τ hf => ?_)
  · have hP := h.1
    unfold f_X7_hats f_X7_hats_j29
    rw [(c_hasK hP b).1, bd2_eq, bB_if, (c_hasK hP w).2.2.2, bd2_eq, bB_if]
    by_cases c1 : inB b nb = true
    · rw [if_pos c1, if_pos c1]
      by_cases c3 : w = -1
      · rw [if_pos c3, if_pos (Or.inl c3)]
        exact c_hatsJ h c1 (Or.inl c3)
      · rw [if_neg c3]
        by_cases c4 : inB w nh = true
        · rw [if_pos c4, if_pos (Or.inr c4)]
          exact c_hatsJ h c1 (Or.inr c4)
        · rw [if_neg c4, if_neg (fun q => q.elim c3 c4), ok_some]
          exact ⟨Fr.rf, rfl⟩
    · rw [if_neg c1, if_neg c1, ok_some]
      exact ⟨Fr.rf, rfl⟩
  · have hP := (h.fr hf).1
    unfold f_X8_hats f_X8_hats_j21
    rw [m_isBell hP.2.1.1 (by omega), bd2_eq, bB_if, m_isHat hP.2.1.2.2.2 (by omega), bd2_eq, bB_if]
    by_cases c1 : inB b nb = true
    · rw [if_pos c1, if_pos c1]
      by_cases c3 : w = -1
      · rw [if_pos c3, if_pos (Or.inl c3)]
        exact m_hatsJ h hf c1 (Or.inl c3)
      · rw [if_neg c3]
        by_cases c4 : inB w nh = true
        · rw [if_pos c4, if_pos (Or.inr c4)]
          exact m_hatsJ h hf c1 (Or.inr c4)
        · rw [if_neg c4, if_neg (fun q => q.elim c3 c4), ok_some]
          exact ⟨Fr.rf, rfl⟩
    · rw [if_neg c1, if_neg c1, ok_some]
      exact ⟨Fr.rf, rfl⟩
