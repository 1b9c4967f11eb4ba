/-! standing: the call -/
theorem m_saveAll {Y : Sto} {ng : Nat} (hng : ng ≤ 6) (h8 : Y.1 39 8 = nI ng) : Ok (f_X8_saveAll Y) (fun Z => Fr (fun k j => k = 62 ∨ k = 63) Y Z ∧ ∀ g, g < ng → Z.1 62 g = Y.1 48 g ∧ Z.1 63 g = Y.1 49 g) := by
  unfold f_X8_saveAll
  rw [ok_bs, ok_bE1]
  refine lp_for (fun i t => t.2 = nI i ∧ Fr (fun k j => k = 62 ∨ k = 63) Y t.1 ∧ ∀ g, g < i → t.1.1 62 g = Y.1 48 g ∧ t.1.1 63 g = Y.1 49 g) ng (FU_big (by omega)) ⟨rfl, Fr.rf, fun g q => absurd q (Nat.not_lt_zero g)⟩ ?_ ?_
  · rintro i ⟨Z, x⟩ hi ⟨e, hf, hr⟩
    dsimp only at e hf hr ⊢
    subst e
    have e8 : Z.1 39 8 = nI ng := (hf 39 8 (by omega)).trans h8
    unfold f_X8_saveAll_l2
    rw [e8, if_neg (nI_ge hi (by omega)), inB_n (show i < 7 by omega) (by omega), inB_n (show i < 6 by omega) (by omega)]
    simp only [gd_true, bsN, nI_clamp (show i < 2 ^ 31 by omega), nI_1]
    rw [ok_some]
    refine Or.inl ⟨_, rfl, rfl, (hf.su (Or.inl rfl)).su (Or.inr rfl), fun g hg => ?_⟩
    by_cases q : g = i
    · subst q
      refine ⟨?_, ?_⟩
      · rw [su_at, if_neg (by omega), su_at, if_pos ⟨rfl, rfl⟩]; exact hf 48 g (by omega)
      · rw [su_at, if_pos ⟨rfl, rfl⟩]; exact hf 49 g (by omega)
    · rw [su_at, if_neg (by omega), su_at, if_neg (by omega), su_at, if_neg (by omega), su_at, if_neg (by omega)]
      exact hr g (by omega)
  · rintro ⟨Z, x⟩ ⟨e, hf, hr⟩
    dsimp only at e hf hr ⊢
    subst e
    have e8 : Z.1 39 8 = nI ng := (hf 39 8 (by omega)).trans h8
    unfold f_X8_saveAll_l2
    rw [e8, if_pos (nI_le (Nat.le_refl ng) (by omega)), ok_some]
    exact ⟨_, rfl, ok_some.mpr ⟨hf, hr⟩⟩
theorem m_putBack {Y : Sto} {ng : Nat} (hng : ng ≤ 6) (h8 : Y.1 39 8 = nI ng) : Ok (f_X8_putBack Y) (fun Z => Fr (fun k j => (k = 48 ∨ k = 49) ∧ j < ng) Y Z ∧ ∀ g, g < ng → Z.1 48 g = Y.1 62 g ∧ Z.1 49 g = Y.1 63 g) := by
  unfold f_X8_putBack
  rw [ok_bs, ok_bE1]
  refine lp_for (fun i t => t.2 = nI i ∧ Fr (fun k j => (k = 48 ∨ k = 49) ∧ j < ng) Y t.1 ∧ ∀ g, g < i → t.1.1 48 g = Y.1 62 g ∧ t.1.1 49 g = Y.1 63 g) ng (FU_big (by omega)) ⟨rfl, Fr.rf, fun g q => absurd q (Nat.not_lt_zero g)⟩ ?_ ?_
  · rintro i ⟨Z, x⟩ hi ⟨e, hf, hr⟩
    dsimp only at e hf hr ⊢
    subst e
    have e8 : Z.1 39 8 = nI ng := (hf 39 8 (by omega)).trans h8
    unfold f_X8_putBack_l2
    rw [e8, if_neg (nI_ge hi (by omega)), inB_n (show i < 7 by omega) (by omega), inB_n (show i < 6 by omega) (by omega)]
    simp only [gd_true, bsN, nI_clamp (show i < 2 ^ 31 by omega), nI_1]
    rw [ok_some]
    refine Or.inl ⟨_, rfl, rfl, (hf.su ⟨Or.inl rfl, hi⟩).su ⟨Or.inr rfl, hi⟩, fun g hg => ?_⟩
    by_cases q : g = i
    · subst q
      refine ⟨?_, ?_⟩
      · rw [su_at, if_neg (by omega), su_at, if_pos ⟨rfl, rfl⟩]; exact hf 62 g (by omega)
      · rw [su_at, if_pos ⟨rfl, rfl⟩]; exact hf 63 g (by omega)
    · rw [su_at, if_neg (by omega), su_at, if_neg (by omega), su_at, if_neg (by omega), su_at, if_neg (by omega)]
      exact hr g (by omega)
  · rintro ⟨Z, x⟩ ⟨e, hf, hr⟩
    dsimp only at e hf hr ⊢
    subst e
    have e8 : Z.1 39 8 = nI ng := (hf 39 8 (by omega)).trans h8
    unfold f_X8_putBack_l2
    rw [e8, if_pos (nI_le (Nat.le_refl ng) (by omega)), ok_some]
    exact ⟨_, rfl, ok_some.mpr ⟨hf, hr⟩⟩
theorem pow_big {ng : Nat} (hng : ng ≤ 6) : ∀ {n : Nat}, n ≤ 6 → (ng + 1) ^ n ≤ 117649 := fun {n} hn => Nat.le_trans (Nat.pow_le_pow_left (show ng + 1 ≤ 7 by omega) n) (Nat.pow_le_pow_right (show 0 < 7 by omega) hn)
theorem m_powL {Y : Sto} {ng ns : Nat} (hng : ng ≤ 6) (hns : ns ≤ 6) (h8 : Y.1 39 8 = nI ng) (h4 : Y.1 39 4 = nI ns) (a b : Int32) : lpF (fun t => f_X8_findStanding_l5 a b t.1 t.2.1 t.2.2) FU (Y, (1 : Int32), (0 : Int32)) = some (Y, nI ((ng + 1) ^ ns), nI ns) := by
  refine lp_eq (fun i => (Y, nI ((ng + 1) ^ i), nI i)) ns (FU_big (by omega)) (fun i hi => ?_) ?_
  · dsimp only
    unfold f_X8_findStanding_l5
    rw [h4, if_neg (nI_ge hi (by omega)), h8, nI_1, pk_mul, bs_eq, bs_eq, nI_1, Nat.pow_succ]
  · dsimp only
    unfold f_X8_findStanding_l5
    rw [h4, if_pos (nI_le (Nat.le_refl ns) (by omega))]
theorem m_allCodes {σ Y : Sto} {N nb ns ng nh m : Nat} {b x : Int32} (h : Rl σ N nb ns ng nh) (hb : inB b nb = true) (hx : x = -1 ∨ inB x ng = true) (hm : m ≤ 6) (hY : MI σ Y ng) (hA : AccM Y ng ns none) : Ok (lpF (fun t => f_X8_findStanding_l63 b x (nI ((ng + 1) ^ ns)) (nI m) t.1 t.2) FU (Y, (0 : Int32))) (fun y => MI σ y.1 ng ∧ AccM y.1 ng ns (foldF (okB ng ns m) (vlC σ ng ns (lonM σ b (σ.1 39 13)) x) 0 ((ng + 1) ^ ns) none)) := by
  have hng : ng ≤ 6 := h.1.1.2.2.1
  have hns : ns ≤ 6 := h.1.1.2.1
  have hT := pow_big hng hns
  generalize hTe : (ng + 1) ^ ns = T at hT ⊢
  refine lp_for (fun i t => t.2 = nI i ∧ MI σ t.1 ng ∧ AccM t.1 ng ns (foldF (okB ng ns m) (vlC σ ng ns (lonM σ b (σ.1 39 13)) x) 0 i none)) T (FU_big (by omega)) ⟨rfl, hY, hA⟩ ?_ ?_
  · rintro i ⟨Z, c⟩ hi ⟨e, hZ, zA⟩
    dsimp only at e hZ zA ⊢
    subst e
    refine ok_mono (m_tryOne h hb hx hm (by omega) hi hZ zA (foldF_in i)) (fun y hy => ?_)
    obtain ⟨W, e, hW, wA⟩ := hy
    refine Or.inl ⟨_, e, rfl, hW, ?_⟩
    show AccM W ng ns (stepF _ _ _ (0 + i))
    rw [Nat.zero_add]
    exact wA
  · rintro ⟨Z, c⟩ ⟨e, hZ, zA⟩
    dsimp only at e hZ zA ⊢
    subst e
    unfold f_X8_findStanding_l63
    rw [if_pos (nI_le (Nat.le_refl T) (by omega)), ok_some]
    exact ⟨_, rfl, hZ, zA⟩
