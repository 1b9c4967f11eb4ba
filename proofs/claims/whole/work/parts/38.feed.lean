/-! feed -/
theorem y_and (x : Int64) : x &&& (255 : Int64) = lN (x.toBitVec.toNat % 256) := by
  apply Int64.toBitVec_inj.mp
  apply BitVec.eq_of_toNat_eq
  have h2 : (255 : Int64).toBitVec.toNat = 2 ^ 8 - 1 := by decide
  have h3 : (lN (x.toBitVec.toNat % 256)).toBitVec.toNat = x.toBitVec.toNat % 256 := Nat.mod_eq_of_lt (Nat.lt_trans (Nat.mod_lt _ (by decide)) (by decide))
  rw [Int64.toBitVec_and, BitVec.toNat_and, h2, h3, Nat.and_two_pow_sub_one_eq_mod]
theorem y_sl : ∀ k, k < 8 → (((8 * nI k).toInt64 &&& 63).toBitVec.smod 64).toNat = 8 * k := by decide +kernel
theorem y_su : ∀ k, k < 8 → (((8 * nI k).toInt64.toUInt64 &&& Int64.toUInt64 63).toBitVec % 64).toNat = 8 * k := by decide +kernel
theorem y_bits {a b : BitVec 64} (h : ∀ i, i < 8 → a.getLsbD i = b.getLsbD i) : a.toNat % 256 = b.toNat % 256 := by
  apply Nat.eq_of_testBit_eq
  intro i
  rw [show (256 : Nat) = 2 ^ 8 by decide, Nat.testBit_mod_two_pow, Nat.testBit_mod_two_pow]
  by_cases c : i < 8
  · rw [decide_eq_true c, Bool.true_and, Bool.true_and]
    exact h i c
  · rw [decide_eq_false c, Bool.false_and, Bool.false_and]
theorem y_same (x : Int64) {k : Nat} (hk : k < 8) : (x.toUInt64 >>> ((8 * nI k).toInt64.toUInt64 &&& Int64.toUInt64 63)).toInt64 &&& (255 : Int64) = (x >>> ((8 * nI k).toInt64 &&& 63)) &&& (255 : Int64) := by
  rw [y_and, y_and]
  refine congrArg lN (y_bits (fun i hi => ?_))
  rw [Int64.toBitVec_shiftRight]
  show (x.toUInt64 >>> ((8 * nI k).toInt64.toUInt64 &&& Int64.toUInt64 63)).toBitVec.getLsbD i = (x.toBitVec.sshiftRight (((8 * nI k).toInt64 &&& 63).toBitVec.smod 64).toNat).getLsbD i
  rw [UInt64.toBitVec_shiftRight]
  show (x.toUInt64.toBitVec >>> (((8 * nI k).toInt64.toUInt64 &&& Int64.toUInt64 63).toBitVec % 64).toNat).getLsbD i = _
  rw [y_su k hk, y_sl k hk, BitVec.getLsbD_ushiftRight, BitVec.getLsbD_sshiftRight]
  rw [if_pos (show 8 * k + i < 64 by omega), decide_eq_false (show ¬ 64 ≤ i by omega)]
  rfl
def byt (x : Int64) (k : Nat) : Nat := (x >>> ((8 * nI k).toInt64 &&& 63)).toBitVec.toNat % 256
theorem byt_lt (x : Int64) (k : Nat) : byt x k < 256 := Nat.mod_lt _ (by decide)
theorem byt_m (x : Int64) (k : Nat) : ((x >>> ((8 * nI k).toInt64 &&& 63)) &&& (255 : Int64)).toInt32 = nI (byt x k) := by
  rw [y_and, lN_i]
  rfl
theorem byt_c (x : Int64) {k : Nat} (hk : k < 8) : vp_nar .char ((((x.toUInt64 >>> ((8 * nI k).toInt64.toUInt64 &&& Int64.toUInt64 63)).toInt64 &&& (255 : Int64)).toInt32).toUInt32 % 65536).toInt32 = nI (byt x k) := by
  rw [pk_vc, y_same x hk, byt_m, pk_char, pk_tn (Nat.lt_trans (byt_lt x k) (by decide)), Nat.mod_eq_of_lt (Nat.lt_trans (byt_lt x k) (by decide))]
theorem c_feedL {σ : Sto} (x : Int64) {len n : Nat} (h4 : σ.1 4 4 = nI len) (hn : n ≤ 8) (hl : len + n ≤ 500) : Ok (lpF (fun t => f_X3_take_4_l5 x t.1 t.2) FU (σ, nI n + (-1))) (fun y => Fr (fun k j => (k = 5 ∧ len ≤ j) ∨ (k = 4 ∧ j = 4)) σ y.1 ∧ y.1.1 4 4 = nI (len + n) ∧ ∀ i, i < n → y.1.1 5 (len + i) = nI (byt x (n - 1 - i))) := by
  refine lp_for (fun i t => t.2 = nI (n - i) + (-1) ∧ Fr (fun k j => (k = 5 ∧ len ≤ j) ∨ (k = 4 ∧ j = 4)) σ t.1 ∧ t.1.1 4 4 = nI (len + i) ∧ ∀ i', i' < i → t.1.1 5 (len + i') = nI (byt x (n - 1 - i'))) n (FU_big (by omega)) ⟨rfl, Fr.rf, h4, fun i q => absurd q (Nat.not_lt_zero i)⟩ ?_ ?_
  · rintro i ⟨τ, x4⟩ hi ⟨e, hf, e4, hr⟩
    dsimp only at e hf e4 hr ⊢
    obtain ⟨m, hm⟩ : ∃ m, n - i = m + 1 := ⟨n - i - 1, by omega⟩
    rw [hm, pk_m1] at e
    subst e
    have e500 : (500 : Int32) = nI 500 := rfl
    have hneg : ¬ nI m < 0 := i_nlt.mpr (by rw [nI_toInt (by omega)]; show (0 : Int) ≤ _; omega)
    unfold f_X3_take_4_l5
    rw [if_neg hneg, e4, e500, if_neg (nI_ge (show len + i < 500 by omega) (by omega)), inB_n (show len + i < 500 by omega) (by omega), gd_true, nI_clamp (show len + i < 2 ^ 31 by omega), byt_c x (show m < 8 by omega)]
    simp only [bsN]
    refine ok_some.mpr (Or.inl ⟨_, rfl, ?_, (hf.su (by omega)).su (by omega), ?_, fun i' hi' => ?_⟩)
    · dsimp only
      rw [show n - (i + 1) = m by omega]
    · show τ.1 4 4 + 1 = _
      rw [e4, nI_1]
      rfl
    · show upd (τ.1 5) (len + i) (nI (byt x m)) (len + i') = _
      by_cases c : i' = i
      · subst c
        rw [pk_us, show n - 1 - i' = m by omega]
      · rw [pk_un (by omega)]
        exact hr i' (by omega)
  · rintro ⟨τ, x4⟩ ⟨e, hf, e4, hr⟩
    dsimp only at e hf e4 hr ⊢
    rw [Nat.sub_self] at e
    subst e
    unfold f_X3_take_4_l5
    rw [if_pos (show nI 0 + (-1) < 0 by decide), ok_some]
    exact ⟨_, rfl, hf, e4, hr⟩
theorem m_feedL {σ : Sto} (x : Int64) {len n : Nat} (h4 : σ.1 39 21 = nI len) (hn : n ≤ 8) (hl : len + n ≤ 500) : Ok (lpF (fun t => f_X8_feed_l35 x t.1 t.2) FU (σ, nI n + (-1))) (fun y => Fr (fun k j => (k = 51 ∧ len ≤ j) ∨ (k = 39 ∧ j = 21)) σ y.1 ∧ y.1.1 39 21 = nI (len + n) ∧ ∀ i, i < n → y.1.1 51 (len + i) = nI (byt x (n - 1 - i))) := by
  refine lp_for (fun i t => t.2 = nI (n - i) + (-1) ∧ Fr (fun k j => (k = 51 ∧ len ≤ j) ∨ (k = 39 ∧ j = 21)) σ t.1 ∧ t.1.1 39 21 = nI (len + i) ∧ ∀ i', i' < i → t.1.1 51 (len + i') = nI (byt x (n - 1 - i'))) n (FU_big (by omega)) ⟨rfl, Fr.rf, h4, fun i q => absurd q (Nat.not_lt_zero i)⟩ ?_ ?_
  · rintro i ⟨τ, x4⟩ hi ⟨e, hf, e4, hr⟩
    dsimp only at e hf e4 hr ⊢
    obtain ⟨m, hm⟩ : ∃ m, n - i = m + 1 := ⟨n - i - 1, by omega⟩
    rw [hm, pk_m1] at e
    subst e
    have hneg : ¬ nI m < 0 := i_nlt.mpr (by rw [nI_toInt (by omega)]; show (0 : Int) ≤ _; omega)
    unfold f_X8_feed_l35
    rw [if_neg hneg, e4, inB_n (show len + i < 500 by omega) (by omega), gd_true, nI_clamp (show len + i < 2 ^ 31 by omega), byt_m x m]
    simp only [bsN]
    refine ok_some.mpr (Or.inl ⟨_, rfl, ?_, (hf.su (by omega)).su (by omega), ?_, fun i' hi' => ?_⟩)
    · dsimp only
      rw [show n - (i + 1) = m by omega]
    · show τ.1 39 21 + 1 = _
      rw [e4, nI_1]
      rfl
    · show upd (τ.1 51) (len + i) (nI (byt x m)) (len + i') = _
      by_cases c : i' = i
      · subst c
        rw [pk_us, show n - 1 - i' = m by omega]
      · rw [pk_un (by omega)]
        exact hr i' (by omega)
  · rintro ⟨τ, x4⟩ ⟨e, hf, e4, hr⟩
    dsimp only at e hf e4 hr ⊢
    rw [Nat.sub_self] at e
    subst e
    unfold f_X8_feed_l35
    rw [if_pos (show nI 0 + (-1) < 0 by decide), ok_some]
    exact ⟨_, rfl, hf, e4, hr⟩
theorem s_feed (a : Int32) (x : Int64) : CallR (fun σ => f_X7_feed σ a x) (fun σ => f_X8_feed σ a x) := by
  intro N σ hN hR
  obtain ⟨nb, ns, ng, nh, h⟩ := id hR
  obtain ⟨hP, hS, hT, hA, hB, hI⟩ := h.up (show N ≤ N + 1 by omega)
  obtain ⟨⟨len, hl, e4, e21, hrow⟩, e6⟩ := id hT
  have p7 : f_X7_feed σ a x = if rgB a 1 8 = true then (if nI len + a ≤ 500 then bd1 (f_X3_take_4 σ a x) (fun σ1 => some (σ1, (σ1.1 4 4))) else some (σ, -1000000004)) else some (σ, -1000000002) := by
    unfold f_X7_feed f_X7_feed_j11
    rw [rg_if, e4]
    rfl
  have p8 : ∀ τ, τ.1 39 21 = nI len → f_X8_feed τ a x = if rgB a 1 8 = true then (if nI len + a ≤ 500 then bE1 (lpF (fun t => f_X8_feed_l35 x t.1 t.2) FU (τ, a - 1)) (fun σ7 z8 => some (σ7, (σ7.1 39 21))) else some (τ, -1000000004)) else some (τ, -1000000002) := by
    intro τ et
    unfold f_X8_feed
    rw [m_inI τ a _ _ (li := 1) (hi := 8) (by decide) (by decide), bd2_eq, bB_if, et, bs_eq]
  have same : ∀ v, f_X7_feed σ a x = some (σ, v) → f_X8_feed σ a x = some (σ, v) → Ok (f_X7_feed σ a x) (fun y => Ok (f_X8_feed y.1 a x) (fun z => z.2 = y.2 ∧ R (N + 1) z.1)) := fun v e7 e8 => stp_eq (f7 := fun σ => f_X7_feed σ a x) (f8 := fun σ => f_X8_feed σ a x) hR e7 e8
  by_cases c1 : rgB a 1 8 = true
  · by_cases c2 : nI len + a ≤ 500
    · obtain ⟨n, hn, rfl⟩ := nI_rg (m := 8) ((rgB_iff.mp c1).up (by omega) (by omega))
      have hn1 : 1 ≤ n := by
        have := (rgB_iff.mp c1).1
        rw [nI_toInt (by omega)] at this
        omega
      have hln : len + n ≤ 500 := by
        have := i_le.mp c2
        rw [nI_add, nI_toInt (by omega)] at this
        have z : (500 : Int32).toInt = 500 := rfl
        omega
      have e1 : nI n - 1 = nI n + (-1) := by
        obtain ⟨m, rfl⟩ : ∃ m, n = m + 1 := ⟨n - 1, by omega⟩
        rw [pk_m1]
        exact pk_sub (b := 1) (by omega)
      show Ok (f_X7_feed σ (nI n) x) (fun y => Ok (f_X8_feed y.1 (nI n) x) _)
      rw [p7, if_pos c1, if_pos c2, ok_bd1]
      unfold f_X3_take_4
      rw [ok_bs, ok_bE1, e1]
      refine ok_mono (c_feedL x e4 hn hln) (fun y hy => ok_some.mpr ?_)
      rw [ok_some]
      obtain ⟨hf, y4, y5⟩ := hy
      dsimp only
      rw [p8 _ ((hf 39 21 (by omega)).trans e21), if_pos c1, if_pos c2, ok_bE1, e1]
      refine ok_mono (m_feedL x ((hf 39 21 (by omega)).trans e21) hn hln) (fun z hz => ok_some.mpr ?_)
      obtain ⟨hg, z4, z5⟩ := hz
      refine ⟨z4.trans y4.symm, ?_⟩
      have hfa : Fr (fun k j => (k = 5 ∧ len ≤ j) ∨ (k = 4 ∧ j = 4) ∨ (k = 51 ∧ len ≤ j) ∨ (k = 39 ∧ j = 21)) σ z.1 := (hf.mono (fun k j q => by omega)).tr (hg.mono (fun k j q => by omega))
      refine ⟨nb, ns, ng, nh, hP.cg (fun k j q => hfa k j (by unfold dPL at q; omega)), hS.cg (fun k j q => hfa k j (by unfold dSN at q; omega)), ⟨⟨len + n, hln, ?_, z4, fun i hi => ?_⟩, ?_⟩, hA.cg (fun k j q => hfa k j (by unfold dTA at q; omega)), hB.cg (fun k j q => hfa k j (by unfold dBK at q; omega)), hI.cg (fun k j q => hfa k j (by unfold dIM at q; omega))⟩
      · rw [hg 4 4 (by omega)]
        exact y4
      · by_cases c : i < len
        · rw [hfa 5 i (by omega), hfa 51 i (by omega)]
          exact hrow i c
        · obtain ⟨j, rfl⟩ : ∃ j, i = len + j := ⟨i - len, by omega⟩
          rw [hg 5 _ (by omega), y5 j (by omega), z5 j (by omega)]
          exact ⟨rfl, rg_nI (m := 255) (by have := byt_lt x (n - 1 - j); omega) (by omega)⟩
      · rw [hfa 4 6 (by omega), hfa 39 22 (by omega)]
        exact e6
    · refine same (-1000000004) ?_ ?_
      · rw [p7, if_pos c1, if_neg c2]
      · rw [p8 σ e21, if_pos c1, if_neg c2]
  · refine same (-1000000002) ?_ ?_
    · rw [p7, if_neg c1]
    · rw [p8 σ e21, if_neg c1]
