/-! square: what is taken over, and the call -/
theorem nar_b0 : vp_nar .boolean (0 : Int32) = 0 := by decide
def PB (k j : Nat) : Prop := k = 2 ∨ k = 3 ∨ k = 11 ∨ k = 12 ∨ k = 13 ∨ (k = 10 ∧ (j = 3 ∨ j = 4)) ∨ (k = 24 ∧ j = 2) ∨ (k = 26 ∧ j = 2) ∨ k = 23
theorem c_over {Z : Sto} {D : Dr} (hD : DC Z D) : Ok (bd1 (f_X2_become_1_7 Z) fun σ3 => bd1 (f_X6_startAnew_10 σ3) fun σ5 => bs (su σ5 24 2 (0 : Int32)) fun σ7 => bs (su σ7 26 2 (0 : Int32)) fun σ8 => gd (inB (0 : Int32) 2) (bs (su σ8 23 ((0 : Int32)).toNatClampNeg (vp_nar .boolean (0 : Int32))) fun σ9 => gd (inB (1 : Int32) 2) (bs (su σ9 23 ((1 : Int32)).toNatClampNeg (vp_nar .boolean (0 : Int32))) fun σ10 => bd2 (f_X2_count_1 σ10 (3 : Int32)) fun σ11 v12 => some (σ11, v12)))) (fun y => y.2 = nI (D.1 3) ∧ Fr PB Z y.1 ∧ (∀ k, k < 5 → y.1.1 2 k = nI (D.1 k)) ∧ (∀ j, j < 90 → y.1.1 3 j = Z.1 9 j) ∧ (∀ g, g < 6 → y.1.1 11 g = -1 ∧ y.1.1 13 g = 0) ∧ (∀ g, g < 4 → y.1.1 12 g = -1) ∧ (y.1.1 10 3 = 0 ∧ y.1.1 10 4 = 0 ∧ y.1.1 24 2 = 0 ∧ y.1.1 26 2 = 0) ∧ y.1.1 23 0 = 0 ∧ y.1.1 23 1 = 0) := by
  have b0 : inB (0 : Int32) 2 = true := by decide
  have b1 : inB (1 : Int32) 2 = true := by decide
  have k0 : (0 : Int32).toNatClampNeg = 0 := rfl
  have k1 : (1 : Int32).toNatClampNeg = 1 := rfl
  have k3 : (3 : Int32).toNatClampNeg = 3 := rfl
  have k5 : (5 : Int32).toNatClampNeg = 5 := rfl
  have k90 : (90 : Int32).toNatClampNeg = 90 := rfl
  have g1 : decide (0 ≤ ((0 : Int32)).toInt ∧ 0 ≤ ((0 : Int32)).toInt ∧ 0 ≤ ((5 : Int32)).toInt ∧ ((0 : Int32)).toInt + ((5 : Int32)).toInt ≤ 5 ∧ ((0 : Int32)).toInt + ((5 : Int32)).toInt ≤ 5) = true := by decide
  have g2 : decide (0 ≤ ((0 : Int32)).toInt ∧ 0 ≤ ((0 : Int32)).toInt ∧ 0 ≤ ((90 : Int32)).toInt ∧ ((0 : Int32)).toInt + ((90 : Int32)).toInt ≤ 90 ∧ ((0 : Int32)).toInt + ((90 : Int32)).toInt ≤ 90) = true := by decide
  unfold f_X2_become_1_7 f_X6_startAnew_10
  rw [g1, g2, gd_true, k0, k5, k90, b0, b1, k1, nar_b0]
  simp only [bsN, gd_true, bd1_eq]
  generalize hA : sc (sc Z 2 (va_cpy (Z.1 8) (Z.1 2) 0 0 5)) 3 (va_cpy ((sc Z 2 (va_cpy (Z.1 8) (Z.1 2) 0 0 5)).1 9) ((sc Z 2 (va_cpy (Z.1 8) (Z.1 2) 0 0 5)).1 3) 0 0 90) = A
  have a2 : ∀ k, k < 5 → A.1 2 k = nI (D.1 k) := by
    intro k hk
    rw [← hA]
    show va_cpy (Z.1 8) (Z.1 2) 0 0 5 k = _
    rw [cpy_0 hk]
    exact hD.1 k hk
  have a3 : ∀ j, j < 90 → A.1 3 j = Z.1 9 j := by
    intro j hj
    rw [← hA]
    show va_cpy (Z.1 9) (Z.1 3) 0 0 90 j = _
    rw [cpy_0 hj]
  have hfA : Fr (fun k j => k = 2 ∨ k = 3) Z A := by
    rw [← hA]
    exact (Fr.rf.sc (fun j => by omega)).sc (fun j => by omega)
  rw [c_fill11, bd1_eq, c_fill12, bd1_eq, c_fill13, bd1_eq]
  have hfB : Fr (fun k j => k = 11 ∨ k = 12 ∨ k = 13) A (sc (sc (sc A 11 (fillN (fun _ => -1) (A.1 11) 6)) 12 (fillN (fun _ => -1) ((sc A 11 (fillN (fun _ => -1) (A.1 11) 6)).1 12) 4)) 13 (fillN (fun _ => 0) ((sc (sc A 11 (fillN (fun _ => -1) (A.1 11) 6)) 12 (fillN (fun _ => -1) ((sc A 11 (fillN (fun _ => -1) (A.1 11) 6)).1 12) 4)).1 13) 6)) := ((Fr.rf.sc (fun j => by omega)).sc (fun j => by omega)).sc (fun j => by omega)
  generalize hBe : sc (sc (sc A 11 (fillN (fun _ => -1) (A.1 11) 6)) 12 (fillN (fun _ => -1) ((sc A 11 (fillN (fun _ => -1) (A.1 11) 6)).1 12) 4)) 13 (fillN (fun _ => 0) ((sc (sc A 11 (fillN (fun _ => -1) (A.1 11) 6)) 12 (fillN (fun _ => -1) ((sc A 11 (fillN (fun _ => -1) (A.1 11) 6)).1 12) 4)).1 13) 6) = B at hfB
  have p11 : ∀ g, g < 6 → B.1 11 g = -1 ∧ B.1 13 g = 0 := by
    intro g hg
    rw [← hBe]
    refine ⟨?_, ?_⟩
    · show fillN (fun _ => -1) (A.1 11) 6 g = -1
      exact fillN_in hg
    · rw [sc_same]
      exact fillN_in hg
  have p12 : ∀ g, g < 4 → B.1 12 g = -1 := by
    intro g hg
    rw [← hBe]
    show fillN (fun _ => -1) _ 4 g = -1
    exact fillN_in hg
  simp only [bd1_eq]
  have hfC : Fr (fun k j => (k = 10 ∧ (j = 3 ∨ j = 4)) ∨ (k = 24 ∧ j = 2) ∨ (k = 26 ∧ j = 2) ∨ k = 23) B (su (su (su (su (su (su B 10 3 0) 10 4 0) 24 2 0) 26 2 0) 23 0 0) 23 1 0) := (((((Fr.rf.su (by omega)).su (by omega)).su (by omega)).su (by omega)).su (by omega)).su (by omega)
  have r1 : (su (su (su (su (su (su B 10 3 0) 10 4 0) 24 2 0) 26 2 0) 23 0 0) 23 1 0).1 10 3 = 0 := by
    rw [su_at, if_neg (by omega), su_at, if_neg (by omega), su_at, if_neg (by omega), su_at, if_neg (by omega), su_at, if_neg (by omega), su_at, if_pos ⟨rfl, rfl⟩]
  have r2 : (su (su (su (su (su (su B 10 3 0) 10 4 0) 24 2 0) 26 2 0) 23 0 0) 23 1 0).1 10 4 = 0 := by
    rw [su_at, if_neg (by omega), su_at, if_neg (by omega), su_at, if_neg (by omega), su_at, if_neg (by omega), su_at, if_pos ⟨rfl, rfl⟩]
  have r3 : (su (su (su (su (su (su B 10 3 0) 10 4 0) 24 2 0) 26 2 0) 23 0 0) 23 1 0).1 24 2 = 0 := by
    rw [su_at, if_neg (by omega), su_at, if_neg (by omega), su_at, if_neg (by omega), su_at, if_pos ⟨rfl, rfl⟩]
  have r4 : (su (su (su (su (su (su B 10 3 0) 10 4 0) 24 2 0) 26 2 0) 23 0 0) 23 1 0).1 26 2 = 0 := by
    rw [su_at, if_neg (by omega), su_at, if_neg (by omega), su_at, if_pos ⟨rfl, rfl⟩]
  have r5 : (su (su (su (su (su (su B 10 3 0) 10 4 0) 24 2 0) 26 2 0) 23 0 0) 23 1 0).1 23 0 = 0 := by
    rw [su_at, if_neg (by omega), su_at, if_pos ⟨rfl, rfl⟩]
  have r6 : (su (su (su (su (su (su B 10 3 0) 10 4 0) 24 2 0) 26 2 0) 23 0 0) 23 1 0).1 23 1 = 0 := by
    rw [su_at, if_pos ⟨rfl, rfl⟩]
  generalize su (su (su (su (su (su B 10 3 0) 10 4 0) 24 2 0) 26 2 0) 23 0 0) 23 1 0 = C at *
  rw [c_count C (show inB (3 : Int32) 5 = true by decide), bd2_eq, k3, ok_some]
  have c2 : ∀ k, k < 5 → C.1 2 k = nI (D.1 k) := fun k hk => by rw [hfC 2 k (by omega), hfB 2 k (by omega)]; exact a2 k hk
  refine ⟨c2 3 (by omega), (hfA.mono (fun k j q => by unfold PB; omega)).tr ((hfB.mono (fun k j q => by unfold PB; omega)).tr (hfC.mono (fun k j q => by unfold PB; omega))), c2, fun j hj => ?_, fun g hg => ?_, fun g hg => ?_, ⟨r1, r2, r3, r4⟩, r5, r6⟩
  · rw [hfC 3 j (by omega), hfB 3 j (by omega)]
    exact a3 j hj
  · rw [hfC 11 g (by omega), hfC 13 g (by omega)]
    exact p11 g hg
  · rw [hfC 12 g (by omega)]
    exact p12 g hg
theorem m_set4 (Y : Sto) : Ok (lpF (fun t => f_X8_square_l129 t.1 t.2) FU (Y, (0 : Int32))) (fun y => Fr (fun k j => k = 40 ∨ k = 41 ∨ k = 46 ∨ k = 47) Y y.1 ∧ ∀ i, i < 4 → y.1.1 40 i = Y.1 52 i ∧ y.1.1 41 i = Y.1 53 i ∧ y.1.1 46 i = Y.1 58 i ∧ y.1.1 47 i = Y.1 59 i) := by
  have e4 : (4 : Int32) = nI 4 := rfl
  refine lp_for (fun n t => t.2 = nI n ∧ Fr (fun k j => k = 40 ∨ k = 41 ∨ k = 46 ∨ k = 47) Y t.1 ∧ ∀ i, i < n → t.1.1 40 i = Y.1 52 i ∧ t.1.1 41 i = Y.1 53 i ∧ t.1.1 46 i = Y.1 58 i ∧ t.1.1 47 i = Y.1 59 i) 4 (FU_big (by omega)) ⟨rfl, Fr.rf, fun i q => absurd q (Nat.not_lt_zero i)⟩ ?_ ?_
  · rintro n ⟨Z, x⟩ hn ⟨e, hf, hr⟩
    dsimp only at e hf hr ⊢
    subst e
    unfold f_X8_square_l129
    rw [e4, if_neg (nI_ge hn (by omega)), inB_n hn (by omega)]
    simp only [gd_true, bsN, nI_clamp (show n < 2 ^ 31 by omega), nI_1]
    rw [ok_some]
    refine Or.inl ⟨_, rfl, rfl, (((hf.su (by omega)).su (by omega)).su (by omega)).su (by omega), fun i hi => ?_⟩
    simp only [su_at]
    by_cases q : i = n
    · subst q
      simp
      exact ⟨hf 52 i (by omega), hf 53 i (by omega), hf 58 i (by omega), hf 59 i (by omega)⟩
    · simp [q]
      exact hr i (by omega)
  · rintro ⟨Z, x⟩ ⟨e, hf, hr⟩
    dsimp only at e hf hr ⊢
    subst e
    unfold f_X8_square_l129
    rw [e4, if_pos (nI_le (Nat.le_refl 4) (by omega)), ok_some]
    exact ⟨_, rfl, hf, hr⟩
theorem m_set6 (Y : Sto) : Ok (lpF (fun t => f_X8_square_l190 t.1 t.2) FU (Y, (0 : Int32))) (fun y => Fr (fun k j => k = 42 ∨ k = 43 ∨ k = 44 ∨ k = 45 ∨ k = 50) Y y.1 ∧ ∀ i, i < 6 → y.1.1 42 i = Y.1 54 i ∧ y.1.1 43 i = Y.1 55 i ∧ y.1.1 44 i = Y.1 56 i ∧ y.1.1 45 i = Y.1 57 i ∧ y.1.1 50 i = 0) := by
  have e6 : (6 : Int32) = nI 6 := rfl
  refine lp_for (fun n t => t.2 = nI n ∧ Fr (fun k j => k = 42 ∨ k = 43 ∨ k = 44 ∨ k = 45 ∨ k = 50) Y t.1 ∧ ∀ i, i < n → t.1.1 42 i = Y.1 54 i ∧ t.1.1 43 i = Y.1 55 i ∧ t.1.1 44 i = Y.1 56 i ∧ t.1.1 45 i = Y.1 57 i ∧ t.1.1 50 i = 0) 6 (FU_big (by omega)) ⟨rfl, Fr.rf, fun i q => absurd q (Nat.not_lt_zero i)⟩ ?_ ?_
  · rintro n ⟨Z, x⟩ hn ⟨e, hf, hr⟩
    dsimp only at e hf hr ⊢
    subst e
    unfold f_X8_square_l190
    rw [e6, if_neg (nI_ge hn (by omega)), inB_n hn (by omega), inB_n (show n < 7 by omega) (by omega)]
    simp only [gd_true, bsN, nI_clamp (show n < 2 ^ 31 by omega), nI_1]
    rw [ok_some]
    refine Or.inl ⟨_, rfl, rfl, ((((hf.su (by omega)).su (by omega)).su (by omega)).su (by omega)).su (by omega), fun i hi => ?_⟩
    simp only [su_at]
    by_cases q : i = n
    · subst q
      simp
      exact ⟨hf 54 i (by omega), hf 55 i (by omega), hf 56 i (by omega), hf 57 i (by omega)⟩
    · simp [q]
      exact hr i (by omega)
  · rintro ⟨Z, x⟩ ⟨e, hf, hr⟩
    dsimp only at e hf hr ⊢
    subst e
    unfold f_X8_square_l190
    rw [e6, if_pos (nI_le (Nat.le_refl 6) (by omega)), ok_some]
    exact ⟨_, rfl, hf, hr⟩
theorem m_set7 (Y : Sto) : Ok (lpF (fun t => f_X8_square_l259 t.1 t.2) FU (Y, (0 : Int32))) (fun y => Fr (fun k j => k = 48 ∨ k = 49) Y y.1 ∧ ∀ i, i < 7 → y.1.1 48 i = -1 ∧ y.1.1 49 i = -1) := by
  have e7 : (7 : Int32) = nI 7 := rfl
  refine lp_for (fun n t => t.2 = nI n ∧ Fr (fun k j => k = 48 ∨ k = 49) Y t.1 ∧ ∀ i, i < n → t.1.1 48 i = -1 ∧ t.1.1 49 i = -1) 7 (FU_big (by omega)) ⟨rfl, Fr.rf, fun i q => absurd q (Nat.not_lt_zero i)⟩ ?_ ?_
  · rintro n ⟨Z, x⟩ hn ⟨e, hf, hr⟩
    dsimp only at e hf hr ⊢
    subst e
    unfold f_X8_square_l259
    rw [e7, if_neg (nI_ge hn (by omega)), inB_n hn (by omega)]
    simp only [gd_true, bsN, nI_clamp (show n < 2 ^ 31 by omega), nI_1]
    rw [ok_some]
    refine Or.inl ⟨_, rfl, rfl, (hf.su (by omega)).su (by omega), fun i hi => ?_⟩
    simp only [su_at]
    by_cases q : i = n
    · subst q
      simp
    · simp [q]
      exact hr i (by omega)
  · rintro ⟨Z, x⟩ ⟨e, hf, hr⟩
    dsimp only at e hf hr ⊢
    subst e
    unfold f_X8_square_l259
    rw [e7, if_pos (nI_le (Nat.le_refl 7) (by omega)), ok_some]
    exact ⟨_, rfl, hf, hr⟩
def PS (k j : Nat) : Prop := (k = 39 ∧ (j = 0 ∨ j = 1 ∨ j = 4 ∨ j = 8 ∨ j = 10 ∨ j = 13 ∨ j = 17 ∨ j = 48 ∨ j = 52)) ∨ (40 ≤ k ∧ k ≤ 50) ∨ k = 72
theorem m_over (Y : Sto) (y0 : Int32) : Ok (f_X8_square_j92 Y y0) (fun y => y.2 = Y.1 39 37 ∧ Fr PS Y y.1 ∧ (y.1.1 39 0 = y0 ∧ y.1.1 39 1 = Y.1 39 30 ∧ y.1.1 39 4 = Y.1 39 33 ∧ y.1.1 39 8 = Y.1 39 37 ∧ y.1.1 39 10 = Y.1 39 39) ∧ (∀ i, i < 4 → y.1.1 40 i = Y.1 52 i ∧ y.1.1 41 i = Y.1 53 i ∧ y.1.1 46 i = Y.1 58 i ∧ y.1.1 47 i = Y.1 59 i) ∧ (∀ i, i < 6 → y.1.1 42 i = Y.1 54 i ∧ y.1.1 43 i = Y.1 55 i ∧ y.1.1 44 i = Y.1 56 i ∧ y.1.1 45 i = Y.1 57 i ∧ y.1.1 50 i = 0) ∧ (∀ i, i < 7 → y.1.1 48 i = -1 ∧ y.1.1 49 i = -1) ∧ (y.1.1 39 13 = 0 ∧ y.1.1 39 17 = 0 ∧ y.1.1 39 48 = 0 ∧ y.1.1 39 52 = 0) ∧ y.1.1 72 0 = 0 ∧ y.1.1 72 1 = 0) := by
  have b0 : inB (0 : Int32) 2 = true := by decide
  have b1 : inB (1 : Int32) 2 = true := by decide
  have k0 : (0 : Int32).toNatClampNeg = 0 := rfl
  have k1 : (1 : Int32).toNatClampNeg = 1 := rfl
  unfold f_X8_square_j92
  rw [ok_bs, ok_bs, ok_bs, ok_bs, ok_bs, ok_bs, ok_bE1]
  have hf0 : Fr (fun k j => k = 39 ∧ (j = 0 ∨ j = 1 ∨ j = 4 ∨ j = 8 ∨ j = 10)) Y (su (su (su (su (su Y 39 0 y0) 39 1 ((su Y 39 0 y0).1 39 30)) 39 4 ((su (su Y 39 0 y0) 39 1 ((su Y 39 0 y0).1 39 30)).1 39 33)) 39 8 ((su (su (su Y 39 0 y0) 39 1 ((su Y 39 0 y0).1 39 30)) 39 4 ((su (su Y 39 0 y0) 39 1 ((su Y 39 0 y0).1 39 30)).1 39 33)).1 39 37)) 39 10 ((su (su (su (su Y 39 0 y0) 39 1 ((su Y 39 0 y0).1 39 30)) 39 4 ((su (su Y 39 0 y0) 39 1 ((su Y 39 0 y0).1 39 30)).1 39 33)) 39 8 ((su (su (su Y 39 0 y0) 39 1 ((su Y 39 0 y0).1 39 30)) 39 4 ((su (su Y 39 0 y0) 39 1 ((su Y 39 0 y0).1 39 30)).1 39 33)).1 39 37)).1 39 39)) := ((((Fr.rf.su (by omega)).su (by omega)).su (by omega)).su (by omega)).su (by omega)
  generalize hA : su (su (su (su (su Y 39 0 y0) 39 1 ((su Y 39 0 y0).1 39 30)) 39 4 ((su (su Y 39 0 y0) 39 1 ((su Y 39 0 y0).1 39 30)).1 39 33)) 39 8 ((su (su (su Y 39 0 y0) 39 1 ((su Y 39 0 y0).1 39 30)) 39 4 ((su (su Y 39 0 y0) 39 1 ((su Y 39 0 y0).1 39 30)).1 39 33)).1 39 37)) 39 10 ((su (su (su (su Y 39 0 y0) 39 1 ((su Y 39 0 y0).1 39 30)) 39 4 ((su (su Y 39 0 y0) 39 1 ((su Y 39 0 y0).1 39 30)).1 39 33)) 39 8 ((su (su (su Y 39 0 y0) 39 1 ((su Y 39 0 y0).1 39 30)) 39 4 ((su (su Y 39 0 y0) 39 1 ((su Y 39 0 y0).1 39 30)).1 39 33)).1 39 37)).1 39 39) = A at hf0 ⊢
  have s0 : A.1 39 0 = y0 := by rw [← hA]; simp [su_at]
  have s1 : A.1 39 1 = Y.1 39 30 := by rw [← hA]; simp [su_at]
  have s4 : A.1 39 4 = Y.1 39 33 := by rw [← hA]; simp [su_at]
  have s8 : A.1 39 8 = Y.1 39 37 := by rw [← hA]; simp [su_at]
  have s10 : A.1 39 10 = Y.1 39 39 := by rw [← hA]; simp [su_at]
  refine ok_mono (m_set4 A) (fun y hy => ?_)
  obtain ⟨B, x⟩ := y
  obtain ⟨hfB, hB⟩ := hy
  dsimp only at hfB hB ⊢
  rw [ok_bs, ok_bE1]
  refine ok_mono (m_set6 B) (fun y hy => ?_)
  obtain ⟨C, x⟩ := y
  obtain ⟨hfC, hC⟩ := hy
  dsimp only at hfC hC ⊢
  rw [ok_bs, ok_bE1]
  refine ok_mono (m_set7 C) (fun y hy => ?_)
  obtain ⟨E, x⟩ := y
  obtain ⟨hfE, hE⟩ := hy
  dsimp only at hfE hE ⊢
  rw [b0, b1, k0, k1, nar_b0]
  simp only [bsN, gd_true]
  have hfG : Fr (fun k j => (k = 39 ∧ (j = 13 ∨ j = 17 ∨ j = 48 ∨ j = 52)) ∨ k = 72) E (su (su (su (su (su (su E 39 13 0) 39 17 0) 39 48 0) 39 52 0) 72 0 0) 72 1 0) := (((((Fr.rf.su (by omega)).su (by omega)).su (by omega)).su (by omega)).su (by omega)).su (by omega)
  generalize hG : su (su (su (su (su (su E 39 13 0) 39 17 0) 39 48 0) 39 52 0) 72 0 0) 72 1 0 = G at hfG ⊢
  have t1 : G.1 39 13 = 0 ∧ G.1 39 17 = 0 ∧ G.1 39 48 = 0 ∧ G.1 39 52 = 0 := by rw [← hG]; simp [su_at]
  have t2 : G.1 72 0 = 0 ∧ G.1 72 1 = 0 := by rw [← hG]; simp [su_at]
  have up : ∀ j, j = 0 ∨ j = 1 ∨ j = 4 ∨ j = 8 ∨ j = 10 → G.1 39 j = A.1 39 j := fun j hj => by rw [hfG 39 j (by omega), hfE 39 j (by omega), hfC 39 j (by omega), hfB 39 j (by omega)]
  rw [ok_some]
  have hall : Fr PS Y G := (hf0.mono (fun k j q => by unfold PS; omega)).tr ((hfB.mono (fun k j q => by unfold PS; omega)).tr ((hfC.mono (fun k j q => by unfold PS; omega)).tr ((hfE.mono (fun k j q => by unfold PS; omega)).tr (hfG.mono (fun k j q => by unfold PS; omega)))))
  refine ⟨(up 8 (by omega)).trans s8, hall, ⟨(up 0 (by omega)).trans s0, (up 1 (by omega)).trans s1, (up 4 (by omega)).trans s4, (up 8 (by omega)).trans s8, (up 10 (by omega)).trans s10⟩, fun i hi => ?_, fun i hi => ?_, fun i hi => ?_, t1, t2⟩
  · have g : ∀ k, k = 40 ∨ k = 41 ∨ k = 46 ∨ k = 47 → G.1 k i = B.1 k i := fun k hk => by rw [hfG k i (by omega), hfE k i (by omega), hfC k i (by omega)]
    have f : ∀ k, 51 ≤ k ∧ k ≤ 59 → A.1 k i = Y.1 k i := fun k hk => hf0 k i (by omega)
    rw [g 40 (by omega), g 41 (by omega), g 46 (by omega), g 47 (by omega), ← f 52 (by omega), ← f 53 (by omega), ← f 58 (by omega), ← f 59 (by omega)]
    exact hB i hi
  · have g : ∀ k, k = 42 ∨ k = 43 ∨ k = 44 ∨ k = 45 ∨ k = 50 → G.1 k i = C.1 k i := fun k hk => by rw [hfG k i (by omega), hfE k i (by omega)]
    have f : ∀ k, 51 ≤ k ∧ k ≤ 59 → B.1 k i = Y.1 k i := fun k hk => by rw [hfB k i (by omega), hf0 k i (by omega)]
    rw [g 42 (by omega), g 43 (by omega), g 44 (by omega), g 45 (by omega), g 50 (by omega), ← f 54 (by omega), ← f 55 (by omega), ← f 56 (by omega), ← f 57 (by omega)]
    exact hC i hi
  · rw [hfG 48 i (by omega), hfG 49 i (by omega)]
    exact hE i hi
