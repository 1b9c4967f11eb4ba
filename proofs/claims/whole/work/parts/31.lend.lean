/-! lend -/
def htL (ht : Nat → Int32) (x b i : Int32) : Nat → Int32 := fun j => if b = nI j then i else if x = nI j then -1 else ht j
theorem SR.lend {ns ng nh : Nat} {D : Int} {w v u : Nat → Int32} {d gv lw sd : Int32} {sp ht pu : Nat → Int32} {d' gv' lw' sd' : Int32} (h : SR ns ng nh D w v u d gv lw sd sp ht pu d' gv' lw' sd') (hng : ng ≤ 6) (hnh : nh ≤ 4) {i : Nat} (hi : i < nh) {b : Int32} (hb : b = -1 ∨ inB b ng = true) (hfree : ∀ g, g < ng → b = nI g → ht g = -1 ∨ ht g = nI i) {ht' : Nat → Int32} (hht : ∀ g, g < ng → ht' g = htL ht (v i) b (nI i) g) : SR ns ng nh D w (upd v i b) u d gv lw sd sp ht' pu d' gv' lw' sd' := by
  obtain ⟨a, ⟨b1, b2, b3, b4⟩, c⟩ := h
  refine ⟨a, ⟨fun h1 q1 q2 => ?_, fun h1 q1 => ?_, fun g q1 => ?_, fun g h1 q1 q2 => ?_⟩, c⟩
  · rw [pk_un (by omega)]; exact b1 h1 q1 q2
  · by_cases e : h1 = i
    · subst e; rw [pk_us]; exact hb
    · rw [pk_un e]; exact b2 h1 q1
  · rw [hht g q1]
    unfold htL
    split
    · exact Or.inr (inB_n hi (by omega))
    · split
      · exact Or.inl rfl
      · exact b3 g q1
  · rw [hht g q1]
    unfold htL
    by_cases e : h1 = i
    · subst e
      rw [pk_us]
      by_cases c1 : b = nI g
      · rw [if_pos c1]; exact ⟨fun _ => rfl, fun _ => c1⟩
      · rw [if_neg c1]
        refine ⟨fun q => absurd q c1, fun q => ?_⟩
        by_cases c2 : v h1 = nI g
        · rw [if_pos c2] at q
          exact absurd q.symm (nI_ne_m1 (by omega))
        · rw [if_neg c2] at q
          exact absurd ((b4 g h1 q1 q2).mpr q) c2
    · rw [pk_un e]
      have hne : ¬ nI i = nI h1 := fun q => e ((nI_eq (by omega) (by omega)).mp q).symm
      by_cases c1 : b = nI g
      · rw [if_pos c1]
        refine ⟨fun q => ?_, fun q => absurd q hne⟩
        have := (b4 g h1 q1 q2).mp q
        rcases hfree g q1 c1 with k | k
        · rw [k] at this; exact absurd this.symm (nI_ne_m1 (by omega))
        · rw [k] at this; exact this
      · rw [if_neg c1]
        by_cases c2 : v i = nI g
        · rw [if_pos c2]
          refine ⟨fun q => ?_, fun q => absurd q.symm (nI_ne_m1 (by omega))⟩
          have h5 := (b4 g h1 q1 q2).mp q
          have h6 := (b4 g i q1 hi).mp c2
          rw [h6] at h5
          exact absurd h5 hne
        · rw [if_neg c2]
          exact b4 g h1 q1 q2
theorem s_lend (a b : Int32) : CallR (fun σ => f_X7_lend σ a b) (fun σ => f_X8_lend σ a b) := by
  intro N σ hN hR
  obtain ⟨nb, ns, ng, nh, h⟩ := id hR
  obtain ⟨hP, hS, -⟩ := id h
  have hng : ng ≤ 6 := hP.1.2.2.1
  have hnh : nh ≤ 4 := hP.1.2.2.2
  by_cases c : inB a nh = true
  · obtain ⟨i, hi, rfl⟩ := inB_ex c (by omega)
    have ei : (nI i).toNatClampNeg = i := nI_clamp (by omega)
    have move : (b = -1 ∨ inB b ng = true) → (∀ g, g < ng → b = nI g → σ.1 49 g = -1 ∨ σ.1 49 g = nI i) → f_X7_lend σ (nI i) b = f_X7_lend_j63 σ (nI i) b → (∀ τ, Fr (fun k j => k = 12) σ τ → f_X8_lend τ (nI i) b = f_X8_lend_j52 τ (nI i) b) → Ok (f_X7_lend σ (nI i) b) (fun y => Ok (f_X8_lend y.1 (nI i) b) (fun z => z.2 = y.2 ∧ R (N + 1) z.1)) := by
      intro hb hfree e7 e8
      have h7 : f_X7_lend σ (nI i) b = some (su σ 12 i b, σ.1 12 i) := by
        rw [e7]
        unfold f_X7_lend_j63
        rw [inB_n (show i < 4 by omega) (by omega), gd_true, ei]
        rfl
      rw [h7, ok_some]
      show Ok (f_X8_lend (su σ 12 i b) (nI i) b) _
      have hfr : Fr (fun k j => k = 12) σ (su σ 12 i b) := Fr.rf.su rfl
      rw [e8 _ hfr]
      have hPt : PL (su σ 12 i b) nb ns ng nh := hP.cg (fun k j q => hfr k j (by unfold dPL at q; omega))
      unfold f_X8_lend_j52
      have hw : f_X8_onWhom (su σ 12 i b) (nI i) = some (su σ 12 i b, σ.1 12 i) := by
        rw [m_onWhom (su σ 12 i b) (nI i) hPt.2.1.2.2.1 (by omega)]
        have := m_wearer hP hS hi
        rw [m_onWhom σ (nI i) hP.2.1.2.2.1 (by omega)] at this
        show some (_, whoN (σ.1 49) (nI i) ng) = _
        have e2 : whoN (σ.1 49) (nI i) ng = σ.1 12 i := congrArg Prod.snd (Option.some.inj this)
        rw [e2]
      rw [hw, bd2_eq, bs_eq]
      have fin : ∀ τ, Fr (fun k j => k = 12 ∨ k = 49) σ τ → τ.1 12 = upd (σ.1 12) i b → (∀ g, g < ng → τ.1 49 g = if σ.1 12 i = nI g then -1 else σ.1 49 g) → Ok (f_X8_lend_j69 τ (nI i) b (σ.1 12 i)) (fun z => z.2 = σ.1 12 i ∧ R (N + 1) z.1) := by
        intro τ hf e12 h49
        unfold f_X8_lend_j69 f_X8_lend_j81
        have done : ∀ ρ, Fr (fun k j => k = 12 ∨ k = 49) σ ρ → ρ.1 12 = upd (σ.1 12) i b → (∀ g, g < ng → ρ.1 49 g = htL (σ.1 49) (σ.1 12 i) b (nI i) g) → R (N + 1) ρ := by
          intro ρ hfρ e12ρ h49ρ
          refine h.st (hfρ.mono (fun k j q => by unfold dSN; omega)) ?_
          have hbase := SR.lend (h.up (show N ≤ N + 1 by omega)).2.1 hng hnh hi hb hfree h49ρ
          unfold SN
          rw [e12ρ, show ρ.1 11 = σ.1 11 from funext (fun j => hfρ 11 j (by omega)), show ρ.1 13 = σ.1 13 from funext (fun j => hfρ 13 j (by omega)), show ρ.1 10 = σ.1 10 from funext (fun j => hfρ 10 j (by omega)), show ρ.1 48 = σ.1 48 from funext (fun j => hfρ 48 j (by omega)), show ρ.1 50 = σ.1 50 from funext (fun j => hfρ 50 j (by omega)), show ρ.1 39 = σ.1 39 from funext (fun j => hfρ 39 j (by omega))]
          exact hbase
        rcases hb with hb | hb
        · rw [if_pos hb, ok_some]
          refine ⟨rfl, done τ hf e12 (fun g hg => ?_)⟩
          have hbn : ¬ b = nI g := by rw [hb]; exact fun q => nI_ne_m1 (by omega) q.symm
          rw [h49 g hg]
          unfold htL
          rw [if_neg hbn]
        · obtain ⟨g0, hg0, rfl⟩ := inB_ex hb (by omega)
          rw [if_neg (inB_ne hb), inB_n (show g0 < 7 by omega) (by omega), gd_true, bs_eq, nI_clamp (by omega), ok_some]
          refine ⟨rfl, done _ (hf.su (Or.inr rfl)) ?_ (fun g hg => ?_)⟩
          · exact e12
          · rw [su_at]
            unfold htL
            by_cases q : g = g0
            · subst q
              rw [if_pos ⟨rfl, rfl⟩, if_pos rfl]
            · rw [if_neg (by omega), if_neg (fun e => q ((nI_eq (by omega) (by omega)).mp e).symm)]
              exact h49 g hg
      rcases hS.2.1.2.1 i hi with q | q
      · rw [if_pos (m1_neg q)]
        refine fin _ (hfr.mono (fun k j z => Or.inl z)) (su_same σ 12 i b) (fun g hg => ?_)
        rw [if_neg (by rw [q]; exact fun e => nI_ne_m1 (by omega) e.symm)]
        rfl
      · obtain ⟨g1, hg1, e1⟩ := inB_ex q (by omega)
        rw [if_neg (inB_nneg q)]
        rw [inB_up q (show ng ≤ 7 by omega), gd_true, bs_eq]
        refine fin _ ((hfr.mono (fun k j z => Or.inl z)).su (Or.inr rfl)) ?_ (fun g hg => ?_)
        · exact su_same σ 12 i b
        · rw [su_at, e1, nI_clamp (by omega)]
          by_cases q2 : g = g1
          · subst q2; rw [if_pos ⟨rfl, rfl⟩, if_pos rfl]
          · rw [if_neg (by omega), if_neg (fun e => q2 ((nI_eq (by omega) (by omega)).mp e).symm)]
            rfl
    have p7 : f_X7_lend σ (nI i) b = if b = -1 then f_X7_lend_j32 σ (nI i) b else if inB b ng = true then f_X7_lend_j32 σ (nI i) b else f_X7_lend_j29 σ := by
      unfold f_X7_lend
      rw [(c_hasK hP (nI i)).2.2.2, bd2_eq, bB_if, if_pos c, (c_hasK hP b).2.2.1, bd2_eq, bB_if]
    have p8 : ∀ τ, PL τ nb ns ng nh → f_X8_lend τ (nI i) b = if b = -1 then f_X8_lend_j24 τ (nI i) b else if inB b ng = true then f_X8_lend_j24 τ (nI i) b else f_X8_lend_j21 τ := by
      intro τ hPt
      unfold f_X8_lend
      rw [m_isHat hPt.2.1.2.2.2 (by omega), bd2_eq, bB_if, if_pos c, m_isBeggar hPt.2.1.2.2.1 (by omega), bd2_eq, bB_if]
    have pl : ∀ τ, Fr (fun k j => k = 12) σ τ → PL τ nb ns ng nh := fun τ hf => hP.cg (fun k j q => hf k j (by unfold dPL at q; omega))
    by_cases c1 : b = -1
    · refine move (Or.inl c1) (fun g hg e => absurd (c1.symm.trans e).symm (nI_ne_m1 (by omega))) ?_ (fun τ hf => ?_)
      · rw [p7, if_pos c1]
        unfold f_X7_lend_j32 f_X7_lend_j49
        rw [if_pos c1, bs_eq, if_pos rfl]
      · rw [p8 τ (pl τ hf), if_pos c1]
        unfold f_X8_lend_j24
        rw [if_pos c1]
    · by_cases c2 : inB b ng = true
      · obtain ⟨g, hg, rfl⟩ := inB_ex c2 (by omega)
        have eg : (nI g).toNatClampNeg = g := nI_clamp (by omega)
        have w7 : f_X7_lend σ (nI i) (nI g) = f_X7_lend_j49 σ (nI i) (nI g) (σ.1 49 g) := by
          rw [p7, if_neg c1, if_pos c2]
          unfold f_X7_lend_j32
          rw [if_neg c1, c_hatEq hP hS hg, bd2_eq]
        have w8 : ∀ τ, Fr (fun k j => k = 12) σ τ → f_X8_lend τ (nI i) (nI g) = if σ.1 49 g < 0 then f_X8_lend_j52 τ (nI i) (nI g) else if σ.1 49 g = nI i then f_X8_lend_j52 τ (nI i) (nI g) else some (τ, -1000000003) := by
          intro τ hf
          rw [p8 τ (pl τ hf), if_neg c1, if_pos c2]
          unfold f_X8_lend_j24
          rw [if_neg c1, inB_n (show g < 7 by omega) (by omega), gd_true, gd_true, eg, hf 49 g (by omega)]
        have hinj : ∀ g', nI g = nI g' → g' < ng → g' = g := fun g' e hg' => ((nI_eq (by omega) (by omega)).mp e).symm
        rcases hS.2.1.2.2.1 g hg with q | q
        · refine move (Or.inr c2) (fun g' hg' e => by rw [hinj g' e hg']; exact Or.inl q) ?_ (fun τ hf => ?_)
          · rw [w7, q]
            unfold f_X7_lend_j49
            rw [bs_eq, if_pos rfl]
          · rw [w8 τ hf, if_pos (m1_neg q)]
        · by_cases c3 : σ.1 49 g = nI i
          · refine move (Or.inr c2) (fun g' hg' e => by rw [hinj g' e hg']; exact Or.inr c3) ?_ (fun τ hf => ?_)
            · rw [w7]
              unfold f_X7_lend_j49
              rw [bs_eq, if_neg (inB_ne q), if_pos c3]
            · rw [w8 τ hf, if_neg (inB_nneg q), if_pos c3]
          · refine stp_eq (f7 := fun σ => f_X7_lend σ (nI i) (nI g)) (f8 := fun σ => f_X8_lend σ (nI i) (nI g)) hR (v := -1000000003) ?_ ?_
            · show f_X7_lend σ (nI i) (nI g) = _
              rw [w7]
              unfold f_X7_lend_j49
              rw [bs_eq, if_neg (inB_ne q), if_neg c3]
            · show f_X8_lend σ (nI i) (nI g) = _
              rw [w8 σ Fr.rf, if_neg (inB_nneg q), if_neg c3]
      · refine stp_eq (f7 := fun σ => f_X7_lend σ (nI i) b) (f8 := fun σ => f_X8_lend σ (nI i) b) hR (v := -1000000001) ?_ ?_
        · show f_X7_lend σ (nI i) b = _
          rw [p7, if_neg c1, if_neg c2]; rfl
        · show f_X8_lend σ (nI i) b = _
          rw [p8 σ hP, if_neg c1, if_neg c2]; rfl
  · refine stp_eq (f7 := fun σ => f_X7_lend σ a b) (f8 := fun σ => f_X8_lend σ a b) hR (v := -1000000001) ?_ ?_
    · unfold f_X7_lend
      rw [(c_hasK hP a).2.2.2, bd2_eq, bB_if, if_neg c]; rfl
    · unfold f_X8_lend
      rw [m_isHat hP.2.1.2.2.2 (by omega), bd2_eq, bB_if, if_neg c]; rfl
