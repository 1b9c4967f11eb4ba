/-! square: the call -/
theorem DB.mst {D : Dr} (h : DB D) : D.1 0 ≤ 1 ∧ D.1 1 ≤ 4 ∧ D.1 2 ≤ 6 ∧ D.1 3 ≤ 6 ∧ D.1 4 ≤ 4 := ⟨(h 0 (by omega)).1, (h 1 (by omega)).1, (h 2 (by omega)).1, (h 3 (by omega)).1, (h 4 (by omega)).1⟩
theorem rg_of {D : Dr} (h : DB D) {k i j lo hi : Nat} (hk : k < 5) (hi' : i < D.1 k) (hj : j < numK k) (el : loK k j = lo) (eh : hiK k j = hi) : rgI (nI (D.2 k i j)) lo hi := by
  have q := (h k hk).2 i hi' j hj
  have := lohi_le k hk j (by have := (mst_le k hk).2.2; omega)
  unfold rgI
  rw [nI_toInt (by omega)]
  omega
/-- a new square: both hold it -/
theorem R_new {σ Z C Y W : Sto} {N nb ns ng nh : Nat} {D : Dr} (h : Rl σ N nb ns ng nh)
    (hf1 : Fr (fun k j => PC k j ∨ (k = 4 ∧ j = 4)) σ Z) (z44 : Z.1 4 4 = 0) (z46 : Z.1 4 6 = -1) (zD : DC Z D)
    (hf2 : Fr PB Z C) (c2 : ∀ k, k < 5 → C.1 2 k = nI (D.1 k)) (c3 : ∀ j, j < 90 → C.1 3 j = Z.1 9 j) (c11 : ∀ g, g < 6 → C.1 11 g = -1 ∧ C.1 13 g = 0) (c12 : ∀ g, g < 4 → C.1 12 g = -1) (c10 : C.1 10 3 = 0 ∧ C.1 10 4 = 0 ∧ C.1 24 2 = 0 ∧ C.1 26 2 = 0) (c23 : C.1 23 0 = 0 ∧ C.1 23 1 = 0)
    (hf3 : Fr (fun k j => PM k j ∨ (k = 39 ∧ j = 21)) C Y) (y21 : Y.1 39 21 = 0) (y22 : Y.1 39 22 = -1) (yD : DMr Y D (moreD D)) (hB : DB D)
    (hf4 : Fr PS Y W) (w0 : W.1 39 0 = if Y.1 39 28 ≤ 0 then 12 else Y.1 39 28) (wc : W.1 39 1 = Y.1 39 30 ∧ W.1 39 4 = Y.1 39 33 ∧ W.1 39 8 = Y.1 39 37 ∧ W.1 39 10 = Y.1 39 39) (w4 : ∀ i, i < 4 → W.1 40 i = Y.1 52 i ∧ W.1 41 i = Y.1 53 i ∧ W.1 46 i = Y.1 58 i ∧ W.1 47 i = Y.1 59 i) (w6 : ∀ i, i < 6 → W.1 42 i = Y.1 54 i ∧ W.1 43 i = Y.1 55 i ∧ W.1 44 i = Y.1 56 i ∧ W.1 45 i = Y.1 57 i ∧ W.1 50 i = 0) (w7 : ∀ i, i < 7 → W.1 48 i = -1 ∧ W.1 49 i = -1) (w13 : W.1 39 13 = 0 ∧ W.1 39 17 = 0 ∧ W.1 39 48 = 0 ∧ W.1 39 52 = 0) (w72 : W.1 72 0 = 0 ∧ W.1 72 1 = 0) : R (N + 1) W := by
  obtain ⟨m0, m1, m2, m3, m4⟩ := hB.mst
  obtain ⟨hP, hS, hT, hA, hK, hI⟩ := h
  obtain ⟨-, d0, d1, d2, d3, d4⟩ := yD
  -- the class's cells are C's
  have cls : ∀ k j, k ≤ 38 → W.1 k j = C.1 k j := fun k j hk => by rw [hf4 k j (by unfold PS; omega), hf3 k j (by unfold PM; omega)]
  have cell : ∀ k, k < 5 → ∀ i, i < D.1 k → ∀ j, j < numK k → W.1 3 ((k * 6 + i) * 3 + j) = nI (D.2 k i j) := by
    intro k hk i hi j hj
    have h1 := mst_le k hk
    have h2 := (hB k hk).1
    rw [cls 3 _ (by omega), c3 _ (by omega)]
    exact zD.2 k hk i hi j hj
  have w2 : ∀ k, k < 5 → W.1 2 k = nI (D.1 k) := fun k hk => by rw [cls 2 k (by omega)]; exact c2 k hk
  -- kept from before
  have old7 : ∀ k j, k ≤ 38 → ¬ PC k j → ¬ PB k j → ¬ (k = 4 ∧ j = 4) → W.1 k j = σ.1 k j := fun k j hk q1 q2 q3 => by rw [cls k j hk, hf2 k j q2, hf1 k j (fun z => z.elim q1 q3)]
  have old8 : ∀ j, j = 18 ∨ j = 19 → W.1 39 j = σ.1 39 j := fun j hj => by rw [hf4 39 j (by unfold PS; omega), hf3 39 j (by unfold PM; omega), hf2 39 j (by unfold PB; omega), hf1 39 j (by unfold PC; omega)]
  refine ⟨D.1 1, D.1 2, D.1 3, D.1 4, ?_, ?_, ?_, ?_, ?_, ?_⟩
  · refine ⟨⟨m1, m2, m3, m4⟩, ⟨wc.1.trans d1.1, wc.2.1.trans d2.1, wc.2.2.1.trans d3.1, wc.2.2.2.trans d4.1⟩, ⟨w2 1 (by omega), w2 2 (by omega), w2 3 (by omega), w2 4 (by omega)⟩, ?_, fun i hi => ?_, fun i hi => ?_, fun i hi => ?_, fun i hi => ?_⟩
    · rcases d0 with ⟨a1, a2⟩ | ⟨a1, a2⟩
      · rw [a2, if_pos (by decide)] at w0
        refine ⟨Or.inl ⟨by rw [w2 0 (by omega), a1], w0⟩, ?_⟩
        rw [w0]
        exact ⟨by decide, by decide⟩
      · have hr := rg_of hB (k := 0) (i := 0) (j := 0) (lo := 1) (hi := 60) (by omega) (by omega) (by decide) rfl rfl
        have e : W.1 39 0 = nI (D.2 0 0 0) := by
          rw [w0, a2, if_neg (fun q => by have := i_le.mp q; have z : (0 : Int32).toInt = 0 := rfl; have := hr.1; omega)]
        refine ⟨Or.inr ⟨by rw [w2 0 (by omega), a1], ?_⟩, ?_⟩
        · rw [e]
          exact (cell 0 (by omega) 0 (by omega) 0 (by decide)).symm
        · rw [e]; exact hr
    · have hw := w4 i (by omega)
      have hd := d1.2 i hi
      have q0 := cell 1 (by omega) i hi 0 (by decide)
      have q1 := cell 1 (by omega) i hi 1 (by decide)
      rw [show (1 * 6 + i) * 3 + 0 = 18 + 3 * i by omega] at q0
      rw [show (1 * 6 + i) * 3 + 1 = 19 + 3 * i by omega] at q1
      rw [q0, q1, hw.1, hw.2.1, hd.1, hd.2]
      exact ⟨⟨rfl, rfl⟩, rg_of hB (by omega) hi (by decide) rfl rfl, rg_of hB (by omega) hi (by decide) rfl rfl⟩
    · have hw := w6 i (by omega)
      have hd := d2.2 i hi
      have q0 := cell 2 (by omega) i hi 0 (by decide)
      have q1 := cell 2 (by omega) i hi 1 (by decide)
      have q2 := cell 2 (by omega) i hi 2 (by decide)
      rw [show (2 * 6 + i) * 3 + 0 = 36 + 3 * i by omega] at q0
      rw [show (2 * 6 + i) * 3 + 1 = 37 + 3 * i by omega] at q1
      rw [show (2 * 6 + i) * 3 + 2 = 38 + 3 * i by omega] at q2
      rw [q0, q1, q2, hw.1, hw.2.1, hw.2.2.1, hd.1, hd.2.1, hd.2.2]
      exact ⟨⟨rfl, rfl, rfl⟩, rg_of hB (by omega) hi (by decide) rfl rfl, rg_of hB (by omega) hi (by decide) rfl rfl, rg_of hB (by omega) hi (by decide) rfl rfl⟩
    · have hw := w6 i (by omega)
      have hd := d3.2 i hi
      have q0 := cell 3 (by omega) i hi 0 (by decide)
      rw [show (3 * 6 + i) * 3 + 0 = 54 + 3 * i by omega] at q0
      rw [q0, hw.2.2.2.1, hd]
      exact ⟨rfl, rg_of hB (by omega) hi (by decide) rfl rfl⟩
    · have hw := w4 i (by omega)
      have hd := d4.2 i hi
      have q0 := cell 4 (by omega) i hi 0 (by decide)
      have q1 := cell 4 (by omega) i hi 1 (by decide)
      rw [show (4 * 6 + i) * 3 + 0 = 72 + 3 * i by omega] at q0
      rw [show (4 * 6 + i) * 3 + 1 = 73 + 3 * i by omega] at q1
      rw [q0, q1, hw.2.2.1, hw.2.2.2, hd.1, hd.2]
      exact ⟨⟨rfl, rfl⟩, rg_of hB (by omega) hi (by decide) rfl rfl, rg_of hB (by omega) hi (by decide) rfl rfl⟩
  · have w11 : ∀ g, g < 6 → W.1 11 g = -1 ∧ W.1 13 g = 0 := fun g hg => by rw [cls 11 g (by omega), cls 13 g (by omega)]; exact c11 g hg
    have w12 : ∀ g, g < 4 → W.1 12 g = -1 := fun g hg => by rw [cls 12 g (by omega)]; exact c12 g hg
    have o5 : W.1 10 5 = σ.1 10 5 := old7 10 5 (by omega) (by unfold PC; omega) (by unfold PB; omega) (by omega)
    have o6 : W.1 10 6 = σ.1 10 6 := old7 10 6 (by omega) (by unfold PC; omega) (by unfold PB; omega) (by omega)
    have o3 : W.1 10 3 = 0 := (cls 10 3 (by omega)).trans c10.1
    have o4 : W.1 10 4 = 0 := (cls 10 4 (by omega)).trans c10.2.1
    refine ⟨⟨fun g h1 _ => (w11 g h1).1, fun g hg => ⟨?_, Or.inl (w7 g (by omega)).1⟩, fun g g' h1 h2 e h0 => ?_⟩, ⟨fun i h1 _ => w12 i h1, fun i hi => Or.inl (w12 i (by omega)), fun g hg => Or.inl (w7 g (by omega)).2, fun g i hg hi => ?_⟩, ⟨fun g hg => ?_, ?_, ?_, ?_, ?_⟩, ?_, ?_, ?_⟩
    · rw [(w11 g (by omega)).1, (w7 g (by omega)).1]
    · rw [(w7 g (by omega)).1] at h0
      exact absurd h0 (by decide)
    · rw [w12 i (by omega), (w7 g (by omega)).2]
      exact ⟨fun q => absurd q.symm (nI_ne_m1 (by omega)), fun q => absurd q.symm (nI_ne_m1 (by omega))⟩
    · rw [(w11 g (by omega)).2, (w6 g (by omega)).2.2.2.2]
    · rw [o3, w13.1]
    · rw [o4, w13.2.1]
    · rw [o5, old8 18 (by omega)]; exact hS.2.2.1.2.2.2.1
    · rw [o6, old8 19 (by omega)]; exact hS.2.2.1.2.2.2.2
    · rw [o5]; exact hS.2.2.2.1
    · rw [o6]; exact hS.2.2.2.2.1
    · rw [o3]
      refine ⟨by decide, ?_⟩
      show (0 : Int) ≤ _
      omega
  · refine ⟨⟨0, by omega, ?_, ?_, fun i hi => absurd hi (Nat.not_lt_zero i)⟩, ?_⟩
    · rw [cls 4 4 (by omega), hf2 4 4 (by unfold PB; omega), z44]; rfl
    · rw [hf4 39 21 (by unfold PS; omega), y21]; rfl
    · rw [cls 4 6 (by omega), hf2 4 6 (by unfold PB; omega), z46, hf4 39 22 (by unfold PS; omega), y22]
  · refine ⟨?_, 0, by omega, ?_, ?_, fun k hk => absurd hk (Nat.not_lt_zero k)⟩
    · rw [old7 24 0 (by omega) (by unfold PC; omega) (by unfold PB; omega) (by omega)]; exact hA.1
    · rw [cls 24 2 (by omega), c10.2.2.1]; rfl
    · rw [w13.2.2.1]; rfl
  · refine ⟨?_, 0, by omega, ?_, ?_, fun k hk => absurd hk (Nat.not_lt_zero k)⟩
    · rw [old7 26 0 (by omega) (by unfold PC; omega) (by unfold PB; omega) (by omega)]; exact hK.1
    · rw [cls 26 2 (by omega), c10.2.2.2]; rfl
    · rw [w13.2.2.2]; rfl
  · intro i hi
    have e : W.1 23 i = 0 ∧ W.1 72 i = 0 := by
      rw [cls 23 i (by omega)]
      rcases (show i = 0 ∨ i = 1 by omega) with q | q
      · subst q; exact ⟨c23.1, w72.1⟩
      · subst q; exact ⟨c23.2, w72.2⟩
    rw [e.1, e.2]
    exact ⟨⟨rfl, Or.inl rfl⟩, fun q => absurd q (by decide)⟩
theorem s_square : CallR f_X7_square f_X8_square := by
  intro N σ hN hR
  obtain ⟨nb, ns, ng, nh, h⟩ := hR
  obtain ⟨⟨len, hl, e4, e21, hrow⟩, e6⟩ := id h.2.2.1
  have ht : ∀ i, i < len → σ.1 51 i = nI (σ.1 51 i).toNatClampNeg ∧ (σ.1 51 i).toNatClampNeg ≤ 255 := by
    intro i hi
    have hr := (hrow i hi).2
    have := cl_toInt hr.1
    have := hr.2
    exact ⟨(nI_cl hr.1).symm, by omega⟩
  generalize htt : (fun i => (σ.1 51 i).toNatClampNeg) = t
  have htt2 : ∀ i, (σ.1 51 i).toNatClampNeg = t i := fun i => by rw [← htt]
  have hXC : XC σ t len := ⟨hl, e4, fun i hi => by rw [(hrow i hi).1, ← htt2]; exact ht i hi⟩
  have hXM : XM σ t len := ⟨hl, e21, fun i hi => by rw [← htt2]; exact ht i hi⟩
  unfold f_X7_square
  rw [ok_bd1]
  refine ok_mono (c_read hXC) (fun Z hZ => ?_)
  obtain ⟨hf1, z44, zr, zf⟩ := hZ
  -- the reference's reading
  have ref : ∀ C : Sto, (∀ k j, 39 ≤ k → C.1 k j = σ.1 k j) → Ok (f_X8_square C) (fun z => (∀ f, psS t len 501 0 D0 = .inl f → (1 ≤ f.1 ∧ f.1 ≤ 3) → z.2 = -10 - nI f.1 ∧ Fr (fun k j => PM k j ∨ (k = 39 ∧ j = 21)) C z.1 ∧ z.1.1 39 21 = 0 ∧ z.1.1 39 22 = nI f.2) ∧ ∀ D, psS t len 501 0 D0 = .inr D → ∃ Y y0, Fr (fun k j => PM k j ∨ (k = 39 ∧ j = 21)) C Y ∧ Y.1 39 21 = 0 ∧ Y.1 39 22 = -1 ∧ DMr Y D (moreD D) ∧ DB D ∧ y0 = (if Y.1 39 28 ≤ 0 then 12 else Y.1 39 28) ∧ f_X8_square_j92 Y y0 = some z) := by
    intro C hC
    have hCX : XM C t len := ⟨hl, (hC 39 21 (by omega)).trans e21, fun i hi => by rw [hC 51 i (by omega)]; exact hXM.2.2 i hi⟩
    unfold f_X8_square
    rw [ok_bs, ok_bs, ok_bs, ok_bs, ok_bs, ok_bs, ok_bs, ok_bs, ok_bs, ok_bE1]
    have hfA : Fr PM C (su (su (su (su (su (su (su (su C 39 22 (-1)) 39 23 0) 39 28 0) 39 29 0) 39 30 0) 39 33 0) 39 37 0) 39 39 0) := (((((((Fr.rf.su (by unfold PM; omega)).su (by unfold PM; omega)).su (by unfold PM; omega)).su (by unfold PM; omega)).su (by unfold PM; omega)).su (by unfold PM; omega)).su (by unfold PM; omega)).su (by unfold PM; omega)
    generalize hA : su (su (su (su (su (su (su (su C 39 22 (-1)) 39 23 0) 39 28 0) 39 29 0) 39 30 0) 39 33 0) 39 37 0) 39 39 0 = A at hfA ⊢
    have a22 : A.1 39 22 = -1 := by rw [← hA]; simp [su_at]
    have a23 : A.1 39 23 = nI 0 := by rw [← hA]; simp [su_at]; rfl
    have aD : DMr A D0 0 := by
      have n0 : nI 0 = 0 := rfl
      have v28 : A.1 39 28 = 0 := by rw [← hA]; simp [su_at]
      have v29 : A.1 39 29 = 0 := by rw [← hA]; simp [su_at]
      have v30 : A.1 39 30 = 0 := by rw [← hA]; simp [su_at]
      have v33 : A.1 39 33 = 0 := by rw [← hA]; simp [su_at]
      have v37 : A.1 39 37 = 0 := by rw [← hA]; simp [su_at]
      have v39 : A.1 39 39 = 0 := by rw [← hA]; simp [su_at]
      exact ⟨v29, Or.inl ⟨rfl, v28⟩, ⟨v30, fun i hi => absurd hi (Nat.not_lt_zero i)⟩, ⟨v33, fun i hi => absurd hi (Nat.not_lt_zero i)⟩, ⟨v37, fun i hi => absurd hi (Nat.not_lt_zero i)⟩, ⟨v39, fun i hi => absurd hi (Nat.not_lt_zero i)⟩⟩
    have hAX : XM A t len := hCX.fr hfA (by unfold PM; omega) (by unfold PM; omega)
    refine ok_mono (m_readAll hAX a22 a23 aD) (fun y hy => ?_)
    obtain ⟨B, x⟩ := y
    obtain ⟨hfB, br, bf⟩ := hy
    dsimp only at hfB br bf ⊢
    rw [ok_bs]
    have hfY : Fr (fun k j => PM k j ∨ (k = 39 ∧ j = 21)) C (su B 39 21 0) := ((hfA.tr hfB).mono (fun k j q => Or.inl q)).su (Or.inr ⟨rfl, rfl⟩)
    cases ep : psS t len 501 0 D0 with
    | inl f =>
      obtain ⟨r1, r2⟩ := bf f ep
      have hz := (zf f ep).2.1
      rw [r1, if_neg (show ¬ nI f.1 ≤ 0 from nI_ge (a := 0) (by omega) (by omega)), ok_some]
      refine ⟨fun g q _ => ?_, fun D q => (by cases q)⟩
      cases q
      refine ⟨rfl, hfY, by rw [su_at, if_pos ⟨rfl, rfl⟩], ?_⟩
      rw [su_at, if_neg (by omega)]
      exact r2
    | inr D =>
      obtain ⟨r1, r2, r3, r4⟩ := br D ep
      rw [r1, if_pos (show (0 : Int32) ≤ 0 by decide)]
      have hY22 : (su B 39 21 0).1 39 22 = -1 := by rw [su_at, if_neg (by omega)]; exact r2
      have hYD : DMr (su B 39 21 0) D (moreD D) := r3.fr (P := fun k j => k = 39 ∧ j = 21) (Fr.rf.su (by omega)) (fun k j q => by omega)
      have e12 : (if (su B 39 21 0).1 39 28 ≤ 0 then f_X8_square_j92 (su B 39 21 0) 12 else f_X8_square_j92 (su B 39 21 0) ((su B 39 21 0).1 39 28)) = f_X8_square_j92 (su B 39 21 0) (if (su B 39 21 0).1 39 28 ≤ 0 then 12 else (su B 39 21 0).1 39 28) := by
        split <;> rfl
      rw [e12]
      obtain ⟨z, ez, -⟩ := m_over (su B 39 21 0) (if (su B 39 21 0).1 39 28 ≤ 0 then 12 else (su B 39 21 0).1 39 28)
      refine ⟨z, ez, fun f q => (by cases q), fun D' q => ?_⟩
      cases q
      exact ⟨su B 39 21 0, _, hfY, by rw [su_at, if_pos ⟨rfl, rfl⟩], hY22, hYD, r4, rfl, ez⟩
  cases ep : psS t len 501 0 D0 with
  | inl f =>
    obtain ⟨r1, hz, r2⟩ := zf f ep
    rw [r1, if_neg (show ¬ nI f.1 = (0 : Int32) from fun z => by have := (nI_eq (b := 0) (by omega) (by omega)).mp z; omega), ok_some]
    refine ok_mono (ref Z (fun k j hk => hf1 k j (by unfold PC; omega))) (fun z hz2 => ?_)
    obtain ⟨q1, q2, q3, q4⟩ := hz2.1 f ep hz
    refine ⟨q1, nb, ns, ng, nh, ?_⟩
    have hfa : Fr (fun k j => (PC k j ∨ (k = 4 ∧ j = 4)) ∨ (PM k j ∨ (k = 39 ∧ j = 21))) σ z.1 := (hf1.mono (fun k j q => Or.inl q)).tr (q2.mono (fun k j q => Or.inr q))
    obtain ⟨hP, hS, hT, hA, hK, hI⟩ := h.up (show N ≤ N + 1 by omega)
    refine ⟨hP.cg (fun k j q => hfa k j (by unfold dPL at q; unfold PC PM; omega)), hS.cg (fun k j q => hfa k j (by unfold dSN at q; unfold PC PM; omega)), ⟨⟨0, by omega, ?_, q3, fun i hi => absurd hi (Nat.not_lt_zero i)⟩, ?_⟩, hA.cg (fun k j q => hfa k j (by unfold dTA at q; unfold PC PM; omega)), hK.cg (fun k j q => hfa k j (by unfold dBK at q; unfold PC PM; omega)), hI.cg (fun k j q => hfa k j (by unfold dIM at q; unfold PC PM; omega))⟩
    · rw [q2 4 4 (by unfold PM; omega)]; exact z44
    · rw [q2 4 6 (by unfold PM; omega), r2, q4]
  | inr D =>
    obtain ⟨r1, r2, r3⟩ := zr D ep
    rw [r1, if_pos rfl]
    refine ok_mono (c_over r3) (fun y hy => ?_)
    obtain ⟨C, v⟩ := y
    obtain ⟨q1, hf2, c2, c3, c11, c12, c10, c23⟩ := hy
    dsimp only at q1 hf2 c2 c3 c11 c12 c10 c23 ⊢
    refine ok_mono (ref C (fun k j hk => (hf2 k j (by unfold PB; omega)).trans (hf1 k j (by unfold PC; omega)))) (fun z hz2 => ?_)
    obtain ⟨Y, y0, hf3, y21, y22, yD, hB, ey0, ez⟩ := hz2.2 D ep
    obtain ⟨w, ew, s1, hf4, s2, s3, s4, s5, s6, s7⟩ := m_over Y y0
    rw [ez] at ew
    cases ew
    refine ⟨?_, R_new h hf1 z44 r2 r3 hf2 c2 c3 c11 c12 c10 c23 hf3 y21 y22 yD hB hf4 (s2.1.trans ey0) s2.2 s3 s4 s5 s6 s7⟩
    rw [s1, q1]
    exact yD.2.2.2.2.1.1
