/-! tell, write -/
theorem rg_if2 {β : Type} (a lo hi : Int32) (x y : β) : (if a < lo then y else if hi < a then y else x) = if rgB a lo.toInt hi.toInt = true then x else y := by
  unfold rgB
  by_cases c : a < lo
  · rw [if_pos c, if_neg]
    intro q
    have h1 := i_lt.mp c
    have h2 := of_decide_eq_true q
    omega
  · rw [if_neg c]
    have h1 := i_nlt.mp c
    by_cases c2 : hi < a
    · rw [if_pos c2, if_neg]
      intro q
      have h2 := i_lt.mp c2
      have h3 := of_decide_eq_true q
      omega
    · rw [if_neg c2, if_pos (decide_eq_true ⟨h1, i_nlt.mp c2⟩)]
theorem n4 (n : Nat) : (4 : Int32) * nI n = nI (4 * n) := by
  have e4 : (4 : Int32) = nI 4 := rfl
  rw [e4, pk_mul]
theorem nI_2 (n : Nat) : nI n + 2 = nI (n + 2) := by
  have e : (2 : Int32) = nI 2 := rfl
  rw [e, nI_add]
theorem nI_3 (n : Nat) : nI n + 3 = nI (n + 3) := by
  have e : (3 : Int32) = nI 3 := rfl
  rw [e, nI_add]
theorem n4a (n : Nat) : (4 : Int32) * nI n + 1 = nI (4 * n + 1) := by rw [n4, nI_1]
theorem n4b (n : Nat) : (4 : Int32) * nI n + 2 = nI (4 * n + 2) := by
  have e : (2 : Int32) = nI 2 := rfl
  rw [n4, e, nI_add]
theorem n4c (n : Nat) : (4 : Int32) * nI n + 3 = nI (4 * n + 3) := by
  have e : (3 : Int32) = nI 3 := rfl
  rw [n4, e, nI_add]
def put4 (σ : Sto) (k n : Nat) (a b c d : Int32) : Sto := su (su (su (su σ k (4 * n) a) k (4 * n + 1) b) k (4 * n + 2) c) k (4 * n + 3) d
theorem c_add24 {σ : Sto} {n : Nat} (h0 : σ.1 24 0 = 10) (h : σ.1 24 2 = nI n) (hn : n < 10) (a b c d : Int32) : f_X4_add_24 σ a b c d = some (su (put4 σ 25 n a b c d) 24 2 (nI (n + 1))) := by
  unfold f_X4_add_24 f_X4_add_24_j76 put4
  have e10 : (10 : Int32) = nI 10 := rfl
  have r : ∀ (τ : Sto) (j : Nat) (v : Int32), (su τ 25 j v).1 24 2 = τ.1 24 2 := fun _ _ _ => rfl
  rw [h0, h, e10, if_neg (nI_ge hn (by decide))]
  simp only [bs_eq, r, h, n4, nI_1, nI_2, nI_3, inB_n (show 4 * n < 40 by omega) (by decide), inB_n (show 4 * n + 1 < 40 by omega) (by decide), inB_n (show 4 * n + 2 < 40 by omega) (by decide), inB_n (show 4 * n + 3 < 40 by omega) (by decide), gd_true, nI_1, nI_clamp (show 4 * n < 2 ^ 31 by omega), nI_clamp (show 4 * n + 1 < 2 ^ 31 by omega), nI_clamp (show 4 * n + 2 < 2 ^ 31 by omega), nI_clamp (show 4 * n + 3 < 2 ^ 31 by omega)]
theorem c_add26 {σ : Sto} {n : Nat} (h0 : σ.1 26 0 = 30) (h : σ.1 26 2 = nI n) (hn : n < 30) (a b c d : Int32) : f_X4_add_26 σ a b c d = some (su (put4 σ 27 n a b c d) 26 2 (nI (n + 1))) := by
  unfold f_X4_add_26 f_X4_add_26_j76 put4
  have e10 : (30 : Int32) = nI 30 := rfl
  have r : ∀ (τ : Sto) (j : Nat) (v : Int32), (su τ 27 j v).1 26 2 = τ.1 26 2 := fun _ _ _ => rfl
  rw [h0, h, e10, if_neg (nI_ge hn (by decide))]
  simp only [bs_eq, r, h, n4, nI_1, nI_2, nI_3, inB_n (show 4 * n < 120 by omega) (by decide), inB_n (show 4 * n + 1 < 120 by omega) (by decide), inB_n (show 4 * n + 2 < 120 by omega) (by decide), inB_n (show 4 * n + 3 < 120 by omega) (by decide), gd_true, nI_1, nI_clamp (show 4 * n < 2 ^ 31 by omega), nI_clamp (show 4 * n + 1 < 2 ^ 31 by omega), nI_clamp (show 4 * n + 2 < 2 ^ 31 by omega), nI_clamp (show 4 * n + 3 < 2 ^ 31 by omega)]
theorem c_full24 {σ : Sto} {n : Nat} (h0 : σ.1 24 0 = 10) (h : σ.1 24 2 = nI n) (hn : n ≤ 10) : f_X4_isFull_24 σ = some (σ, bB (decide (n = 10))) := by
  unfold f_X4_isFull_24 f_X4_isFull_24_j16
  have e10 : (10 : Int32) = nI 10 := rfl
  rw [h0, h, e10]
  by_cases c : n = 10
  · rw [decide_eq_true c, if_neg (by subst c; exact (by decide))]; rfl
  · rw [decide_eq_false c, if_pos (nI_lt (by omega) (by decide))]; rfl
theorem c_full26 {σ : Sto} {n : Nat} (h0 : σ.1 26 0 = 30) (h : σ.1 26 2 = nI n) (hn : n ≤ 30) : f_X4_isFull_26 σ = some (σ, bB (decide (n = 30))) := by
  unfold f_X4_isFull_26 f_X4_isFull_26_j16
  have e10 : (30 : Int32) = nI 30 := rfl
  rw [h0, h, e10]
  by_cases c : n = 30
  · rw [decide_eq_true c, if_neg (by subst c; exact (by decide))]; rfl
  · rw [decide_eq_false c, if_pos (nI_lt (by omega) (by decide))]; rfl
theorem put4_at (σ : Sto) (k n : Nat) (a b c d : Int32) (i j : Nat) : (put4 σ k n a b c d).1 i j = if i = k then (if j = 4 * n + 3 then d else if j = 4 * n + 2 then c else if j = 4 * n + 1 then b else if j = 4 * n then a else σ.1 i j) else σ.1 i j := by
  unfold put4
  simp only [su_at]
  by_cases e : i = k
  · simp only [e, true_and, if_true]
  · simp only [e, false_and, if_false]
theorem Fr.put4 {P : Nat → Nat → Prop} {σ τ : Sto} {k n : Nat} {a b c d : Int32} (h : Fr P σ τ) (hp : ∀ j, P k j) : Fr P σ (put4 τ k n a b c d) := (((h.su (hp _)).su (hp _)).su (hp _)).su (hp _)
theorem s_tell (a d s x : Int32) : CallR (fun σ => f_X7_tell σ a d s x) (fun σ => f_X8_tell σ a d s x) := by
  intro N σ hN hR
  obtain ⟨nb, ns, ng, nh, h⟩ := id hR
  obtain ⟨hP, hS, hT, hA, hB, hI⟩ := h.up (show N ≤ N + 1 by omega)
  obtain ⟨ta0, nt, tn, t1, t2, t3⟩ := id hA
  have hnb : nb ≤ 4 := hP.1.1
  have hns : ns ≤ 6 := hP.1.2.1
  have p7 : f_X7_tell σ a d s x = if inB a nb = true then (if inB s ns = true then (if rgB d 0 999 = true then (if rgB x 0 999 = true then (if nt = 10 then some (σ, -1000000004) else some (su (put4 σ 25 nt a d s x) 24 2 (nI (nt + 1)), nI (nt + 1))) else some (σ, -1000000002)) else some (σ, -1000000002)) else some (σ, -1000000001)) else some (σ, -1000000001) := by
    unfold f_X7_tell f_X7_tell_j24 f_X7_tell_j51
    rw [(c_hasK hP a).1, bd2_eq, bB_if, (c_hasK hP s).2.1, bd2_eq, bB_if, rg_if2, rg_if, c_full24 ta0 t1 tn, bd2_eq]
    by_cases c : nt = 10
    · rw [decide_eq_true c, if_pos c]
      rfl
    · rw [decide_eq_false c, if_neg c, c_add24 ta0 t1 (by omega)]
      rfl
  have p8 : ∀ τ, Fr (fun k j => k = 25 ∨ k = 24) σ τ → f_X8_tell τ a d s x = if inB a nb = true then (if inB s ns = true then (if rgB d 0 999 = true then (if rgB x 0 999 = true then (if nt = 10 then some (τ, -1000000004) else some (su (su (su (su τ 65 nt (lonS (σ.1 39 0) (σ.1 40 a.toNatClampNeg) (σ.1 41 a.toNatClampNeg) d)) 66 nt s) 67 nt x) 39 48 (nI (nt + 1)), nI (nt + 1))) else some (τ, -1000000002)) else some (τ, -1000000002)) else some (τ, -1000000001)) else some (τ, -1000000001) := by
    intro τ hf
    have hPt : PL τ nb ns ng nh := hP.cg (fun k j q => hf k j (by unfold dPL at q; omega))
    unfold f_X8_tell f_X8_tell_j16 f_X8_tell_j44
    rw [m_isBell hPt.2.1.1 (by omega), bd2_eq, bB_if, m_isSpot hPt.2.1.2.1 (by omega), bd2_eq, bB_if, m_inI _ d _ _ (li := 0) (hi := 999) (by decide) (by decide), bd2_eq, bB_if, m_inI _ x _ _ (li := 0) (hi := 999) (by decide) (by decide), bd2_eq, bB_if]
    by_cases c1 : inB a nb = true
    · rw [if_pos c1, if_pos c1]
      have e48 : τ.1 39 48 = nI nt := (hf 39 48 (by omega)).trans t2
      rw [e48, m_longOn d (inB_up c1 hnb) hPt.y0, bd2_eq]
      by_cases c : nt = 10
      · rw [if_pos (show nI nt = 10 by rw [c]; rfl), if_pos c]
      · rw [if_neg (show ¬ nI nt = 10 from fun q => c ((nI_eq (by omega) (by omega)).mp (show nI nt = nI 10 from q))), if_neg c]
        have r : ∀ (ρ : Sto) (k j : Nat) (v : Int32), (k = 65 ∨ k = 66 ∨ k = 67) → (su ρ k j v).1 39 48 = ρ.1 39 48 := by
          intro ρ k j v hk
          rw [su_at, if_neg (by omega)]
        simp only [bs_eq, r _ 65 _ _ (Or.inl rfl), r _ 66 _ _ (Or.inr (Or.inl rfl)), r _ 67 _ _ (Or.inr (Or.inr rfl)), e48, inB_n (show nt < 10 by omega) (by decide), gd_true, nI_clamp (show nt < 2 ^ 31 by omega), nI_1]
        rw [hf 39 0 (by omega), hf 40 _ (by omega), hf 41 _ (by omega)]
        rfl
    · rw [if_neg c1, if_neg c1]
  have same : ∀ v, f_X7_tell σ a d s x = some (σ, v) → f_X8_tell σ a d s x = some (σ, v) → Ok (f_X7_tell σ a d s x) (fun y => Ok (f_X8_tell y.1 a d s x) (fun z => z.2 = y.2 ∧ R (N + 1) z.1)) := fun v e7 e8 => stp_eq (f7 := fun σ => f_X7_tell σ a d s x) (f8 := fun σ => f_X8_tell σ a d s x) hR e7 e8
  by_cases c1 : inB a nb = true
  · by_cases c2 : inB s ns = true
    · by_cases c3 : rgB d 0 999 = true
      · by_cases c4 : rgB x 0 999 = true
        · by_cases c5 : nt = 10
          · refine same (-1000000004) ?_ ?_
            · rw [p7, if_pos c1, if_pos c2, if_pos c3, if_pos c4, if_pos c5]
            · rw [p8 σ Fr.rf, if_pos c1, if_pos c2, if_pos c3, if_pos c4, if_pos c5]
          · have hft : Fr (fun k j => k = 25 ∨ k = 24) σ (su (put4 σ 25 nt a d s x) 24 2 (nI (nt + 1))) := (Fr.rf.put4 (fun j => Or.inl rfl)).su (Or.inr rfl)
            refine call_of (f7 := fun σ => f_X7_tell σ a d s x) (f8 := fun σ => f_X8_tell σ a d s x) (p7.trans (by rw [if_pos c1, if_pos c2, if_pos c3, if_pos c4, if_neg c5])) ((p8 _ hft).trans (by rw [if_pos c1, if_pos c2, if_pos c3, if_pos c4, if_neg c5])) ?_
            have hf : Fr (fun k j => k = 25 ∨ (k = 24 ∧ j = 2) ∨ (65 ≤ k ∧ k ≤ 67) ∨ (k = 39 ∧ j = 48)) σ (su (su (su (su (su (put4 σ 25 nt a d s x) 24 2 (nI (nt + 1))) 65 nt (lonS (σ.1 39 0) (σ.1 40 a.toNatClampNeg) (σ.1 41 a.toNatClampNeg) d)) 66 nt s) 67 nt x) 39 48 (nI (nt + 1))) := (((((Fr.rf.put4 (fun j => Or.inl rfl)).su (by omega)).su (by omega)).su (by omega)).su (by omega)).su (by omega)
            refine ⟨nb, ns, ng, nh, hP.cg (fun k j q => hf k j (by unfold dPL at q; omega)), hS.cg (fun k j q => hf k j (by unfold dSN at q; omega)), hT.cg (fun k j q => hf k j (by unfold dTX at q; omega)), ⟨ta0, nt + 1, by omega, rfl, rfl, fun k hk => ?_⟩, hB.cg (fun k j q => hf k j (by unfold dBK at q; omega)), hI.cg (fun k j q => hf k j (by unfold dIM at q; omega))⟩
            have r25 : ∀ j, (su (su (su (su (su (put4 σ 25 nt a d s x) 24 2 (nI (nt + 1))) 65 nt (lonS (σ.1 39 0) (σ.1 40 a.toNatClampNeg) (σ.1 41 a.toNatClampNeg) d)) 66 nt s) 67 nt x) 39 48 (nI (nt + 1))).1 25 j = (put4 σ 25 nt a d s x).1 25 j := fun j => rfl
            have r65 : ∀ j, (su (su (su (su (su (put4 σ 25 nt a d s x) 24 2 (nI (nt + 1))) 65 nt (lonS (σ.1 39 0) (σ.1 40 a.toNatClampNeg) (σ.1 41 a.toNatClampNeg) d)) 66 nt s) 67 nt x) 39 48 (nI (nt + 1))).1 65 j = upd (σ.1 65) nt (lonS (σ.1 39 0) (σ.1 40 a.toNatClampNeg) (σ.1 41 a.toNatClampNeg) d) j := fun j => rfl
            have r66 : ∀ j, (su (su (su (su (su (put4 σ 25 nt a d s x) 24 2 (nI (nt + 1))) 65 nt (lonS (σ.1 39 0) (σ.1 40 a.toNatClampNeg) (σ.1 41 a.toNatClampNeg) d)) 66 nt s) 67 nt x) 39 48 (nI (nt + 1))).1 66 j = upd (σ.1 66) nt s j := fun j => rfl
            have r67 : ∀ j, (su (su (su (su (su (put4 σ 25 nt a d s x) 24 2 (nI (nt + 1))) 65 nt (lonS (σ.1 39 0) (σ.1 40 a.toNatClampNeg) (σ.1 41 a.toNatClampNeg) d)) 66 nt s) 67 nt x) 39 48 (nI (nt + 1))).1 67 j = upd (σ.1 67) nt x j := fun j => rfl
            rw [r65, r66, r67, r25, r25, r25, r25, put4_at, put4_at, put4_at, put4_at, hf 39 0 (by omega), hf 40 _ (by omega), hf 41 _ (by omega)]
            simp only [if_true]
            by_cases e : k = nt
            · subst e
              simp only [pk_us, if_true, if_neg (show ¬ 4 * k = 4 * k + 3 by omega), if_neg (show ¬ 4 * k = 4 * k + 2 by omega), if_neg (show ¬ 4 * k = 4 * k + 1 by omega), if_neg (show ¬ 4 * k + 1 = 4 * k + 3 by omega), if_neg (show ¬ 4 * k + 1 = 4 * k + 2 by omega), if_neg (show ¬ 4 * k + 2 = 4 * k + 3 by omega)]
              exact ⟨⟨c1, rgB_iff.mp c3, c2⟩, trivial, trivial, trivial⟩
            · rw [pk_un e, pk_un e, pk_un e]
              have hk2 : k < nt := by omega
              simp only [if_neg (show ¬ 4 * k = 4 * nt + 3 by omega), if_neg (show ¬ 4 * k = 4 * nt + 2 by omega), if_neg (show ¬ 4 * k = 4 * nt + 1 by omega), if_neg (show ¬ 4 * k = 4 * nt by omega), if_neg (show ¬ 4 * k + 1 = 4 * nt + 3 by omega), if_neg (show ¬ 4 * k + 1 = 4 * nt + 2 by omega), if_neg (show ¬ 4 * k + 1 = 4 * nt + 1 by omega), if_neg (show ¬ 4 * k + 1 = 4 * nt by omega), if_neg (show ¬ 4 * k + 2 = 4 * nt + 3 by omega), if_neg (show ¬ 4 * k + 2 = 4 * nt + 2 by omega), if_neg (show ¬ 4 * k + 2 = 4 * nt + 1 by omega), if_neg (show ¬ 4 * k + 2 = 4 * nt by omega), if_neg (show ¬ 4 * k + 3 = 4 * nt + 3 by omega), if_neg (show ¬ 4 * k + 3 = 4 * nt + 2 by omega), if_neg (show ¬ 4 * k + 3 = 4 * nt + 1 by omega), if_neg (show ¬ 4 * k + 3 = 4 * nt by omega)]
              exact t3 k hk2
        · refine same (-1000000002) ?_ ?_
          · rw [p7, if_pos c1, if_pos c2, if_pos c3, if_neg c4]
          · rw [p8 σ Fr.rf, if_pos c1, if_pos c2, if_pos c3, if_neg c4]
      · refine same (-1000000002) ?_ ?_
        · rw [p7, if_pos c1, if_pos c2, if_neg c3]
        · rw [p8 σ Fr.rf, if_pos c1, if_pos c2, if_neg c3]
    · refine same (-1000000001) ?_ ?_
      · rw [p7, if_pos c1, if_neg c2]
      · rw [p8 σ Fr.rf, if_pos c1, if_neg c2]
  · refine same (-1000000001) ?_ ?_
    · rw [p7, if_neg c1]
    · rw [p8 σ Fr.rf, if_neg c1]
theorem s_write (a g x : Int32) : CallR (fun σ => f_X7_write σ a g x) (fun σ => f_X8_write σ a g x) := by
  intro N σ hN hR
  obtain ⟨nb, ns, ng, nh, h⟩ := id hR
  obtain ⟨hP, hS, hT, hA, hB, hI⟩ := h.up (show N ≤ N + 1 by omega)
  obtain ⟨ta0, nt, tn, t1, t2, t3⟩ := id hB
  have hnb : nb ≤ 4 := hP.1.1
  have hng : ng ≤ 6 := hP.1.2.2.1
  have p7 : f_X7_write σ a g x = if inB a nb = true then (if inB g ng = true then (if rgB x (-999) 99999 = true then (if nt = 30 then some (σ, -1000000004) else some (su (put4 σ 27 nt a g x 0) 26 2 (nI (nt + 1)), nI (nt + 1))) else some (σ, -1000000002)) else some (σ, -1000000001)) else some (σ, -1000000001) := by
    unfold f_X7_write f_X7_write_j24 f_X7_write_j40
    rw [(c_hasK hP a).1, bd2_eq, bB_if, (c_hasK hP g).2.2.1, bd2_eq, bB_if, rg_if, c_full26 ta0 t1 tn, bd2_eq]
    by_cases c : nt = 30
    · rw [decide_eq_true c, if_pos c]
      rfl
    · rw [decide_eq_false c, if_neg c, c_add26 ta0 t1 (by omega)]
      rfl
  have p8 : ∀ τ, Fr (fun k j => k = 27 ∨ k = 26) σ τ → f_X8_write τ a g x = if inB a nb = true then (if inB g ng = true then (if rgB x (-999) 99999 = true then (if nt = 30 then some (τ, -1000000004) else some (su (su (su (su τ 68 nt a) 69 nt g) 70 nt x) 39 52 (nI (nt + 1)), nI (nt + 1))) else some (τ, -1000000002)) else some (τ, -1000000001)) else some (τ, -1000000001) := by
    intro τ hf
    have hPt : PL τ nb ns ng nh := hP.cg (fun k j q => hf k j (by unfold dPL at q; omega))
    unfold f_X8_write f_X8_write_j16
    rw [m_isBell hPt.2.1.1 (by omega), bd2_eq, bB_if, m_isBeggar hPt.2.1.2.2.1 (by omega), bd2_eq, bB_if, m_inI _ x _ _ (li := -999) (hi := 99999) (by decide) (by decide), bd2_eq, bB_if]
    have e48 : τ.1 39 52 = nI nt := (hf 39 52 (by omega)).trans t2
    rw [e48]
    by_cases c : nt = 30
    · rw [if_pos (show nI nt = 30 by rw [c]; rfl), if_pos c]
    · rw [if_neg (show ¬ nI nt = 30 from fun q => c ((nI_eq (by omega) (by omega)).mp (show nI nt = nI 30 from q))), if_neg c]
      have r : ∀ (ρ : Sto) (k j : Nat) (v : Int32), (k = 68 ∨ k = 69 ∨ k = 70) → (su ρ k j v).1 39 52 = ρ.1 39 52 := by
        intro ρ k j v hk
        rw [su_at, if_neg (by omega)]
      simp only [bs_eq, r _ 68 _ _ (Or.inl rfl), r _ 69 _ _ (Or.inr (Or.inl rfl)), r _ 70 _ _ (Or.inr (Or.inr rfl)), e48, inB_n (show nt < 30 by omega) (by decide), gd_true, nI_clamp (show nt < 2 ^ 31 by omega), nI_1]
      rfl
  have same : ∀ v, f_X7_write σ a g x = some (σ, v) → f_X8_write σ a g x = some (σ, v) → Ok (f_X7_write σ a g x) (fun y => Ok (f_X8_write y.1 a g x) (fun z => z.2 = y.2 ∧ R (N + 1) z.1)) := fun v e7 e8 => stp_eq (f7 := fun σ => f_X7_write σ a g x) (f8 := fun σ => f_X8_write σ a g x) hR e7 e8
  by_cases c1 : inB a nb = true
  · by_cases c2 : inB g ng = true
    · by_cases c3 : rgB x (-999) 99999 = true
      · by_cases c5 : nt = 30
        · refine same (-1000000004) ?_ ?_
          · rw [p7, if_pos c1, if_pos c2, if_pos c3, if_pos c5]
          · rw [p8 σ Fr.rf, if_pos c1, if_pos c2, if_pos c3, if_pos c5]
        · have hft : Fr (fun k j => k = 27 ∨ k = 26) σ (su (put4 σ 27 nt a g x 0) 26 2 (nI (nt + 1))) := (Fr.rf.put4 (fun j => Or.inl rfl)).su (Or.inr rfl)
          refine call_of (f7 := fun σ => f_X7_write σ a g x) (f8 := fun σ => f_X8_write σ a g x) (p7.trans (by rw [if_pos c1, if_pos c2, if_pos c3, if_neg c5])) ((p8 _ hft).trans (by rw [if_pos c1, if_pos c2, if_pos c3, if_neg c5])) ?_
          have hf : Fr (fun k j => k = 27 ∨ (k = 26 ∧ j = 2) ∨ (68 ≤ k ∧ k ≤ 70) ∨ (k = 39 ∧ j = 52)) σ (su (su (su (su (su (put4 σ 27 nt a g x 0) 26 2 (nI (nt + 1))) 68 nt a) 69 nt g) 70 nt x) 39 52 (nI (nt + 1))) := (((((Fr.rf.put4 (fun j => Or.inl rfl)).su (by omega)).su (by omega)).su (by omega)).su (by omega)).su (by omega)
          refine ⟨nb, ns, ng, nh, hP.cg (fun k j q => hf k j (by unfold dPL at q; omega)), hS.cg (fun k j q => hf k j (by unfold dSN at q; omega)), hT.cg (fun k j q => hf k j (by unfold dTX at q; omega)), hA.cg (fun k j q => hf k j (by unfold dTA at q; omega)), ⟨ta0, nt + 1, by omega, rfl, rfl, fun k hk => ?_⟩, hI.cg (fun k j q => hf k j (by unfold dIM at q; omega))⟩
          have r25 : ∀ j, (su (su (su (su (su (put4 σ 27 nt a g x 0) 26 2 (nI (nt + 1))) 68 nt a) 69 nt g) 70 nt x) 39 52 (nI (nt + 1))).1 27 j = (put4 σ 27 nt a g x 0).1 27 j := fun j => rfl
          have r65 : ∀ j, (su (su (su (su (su (put4 σ 27 nt a g x 0) 26 2 (nI (nt + 1))) 68 nt a) 69 nt g) 70 nt x) 39 52 (nI (nt + 1))).1 68 j = upd (σ.1 68) nt a j := fun j => rfl
          have r66 : ∀ j, (su (su (su (su (su (put4 σ 27 nt a g x 0) 26 2 (nI (nt + 1))) 68 nt a) 69 nt g) 70 nt x) 39 52 (nI (nt + 1))).1 69 j = upd (σ.1 69) nt g j := fun j => rfl
          have r67 : ∀ j, (su (su (su (su (su (put4 σ 27 nt a g x 0) 26 2 (nI (nt + 1))) 68 nt a) 69 nt g) 70 nt x) 39 52 (nI (nt + 1))).1 70 j = upd (σ.1 70) nt x j := fun j => rfl
          rw [r65, r66, r67, r25, r25, r25, put4_at, put4_at, put4_at]
          simp only [if_true]
          by_cases e : k = nt
          · subst e
            simp only [pk_us, if_true, if_neg (show ¬ 4 * k = 4 * k + 3 by omega), if_neg (show ¬ 4 * k = 4 * k + 2 by omega), if_neg (show ¬ 4 * k = 4 * k + 1 by omega), if_neg (show ¬ 4 * k + 1 = 4 * k + 3 by omega), if_neg (show ¬ 4 * k + 1 = 4 * k + 2 by omega), if_neg (show ¬ 4 * k + 2 = 4 * k + 3 by omega)]
            exact ⟨⟨c1, c2⟩, trivial, trivial, trivial⟩
          · rw [pk_un e, pk_un e, pk_un e]
            have hk2 : k < nt := by omega
            simp only [if_neg (show ¬ 4 * k = 4 * nt + 3 by omega), if_neg (show ¬ 4 * k = 4 * nt + 2 by omega), if_neg (show ¬ 4 * k = 4 * nt + 1 by omega), if_neg (show ¬ 4 * k = 4 * nt by omega), if_neg (show ¬ 4 * k + 1 = 4 * nt + 3 by omega), if_neg (show ¬ 4 * k + 1 = 4 * nt + 2 by omega), if_neg (show ¬ 4 * k + 1 = 4 * nt + 1 by omega), if_neg (show ¬ 4 * k + 1 = 4 * nt by omega), if_neg (show ¬ 4 * k + 2 = 4 * nt + 3 by omega), if_neg (show ¬ 4 * k + 2 = 4 * nt + 2 by omega), if_neg (show ¬ 4 * k + 2 = 4 * nt + 1 by omega), if_neg (show ¬ 4 * k + 2 = 4 * nt by omega)]
            exact t3 k hk2
      · refine same (-1000000002) ?_ ?_
        · rw [p7, if_pos c1, if_pos c2, if_neg c3]
        · rw [p8 σ Fr.rf, if_pos c1, if_pos c2, if_neg c3]
    · refine same (-1000000001) ?_ ?_
      · rw [p7, if_pos c1, if_neg c2]
      · rw [p8 σ Fr.rf, if_pos c1, if_neg c2]
  · refine same (-1000000001) ?_ ?_
    · rw [p7, if_neg c1]
    · rw [p8 σ Fr.rf, if_neg c1]
