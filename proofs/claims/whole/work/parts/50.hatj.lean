/-! hats: the class's answer -/
theorem dgT_zero {B t s : Nat} : dgT B t 0 s = 0 := by
  unfold dgT
  rw [Nat.zero_div, Nat.zero_mod]
theorem okH_0 {σ : Sto} {ng nh : Nat} : okH σ ng nh 0 = true := okH_iff.mpr ⟨fun s _ s' _ _ hl => by rw [dgT_zero] at hl; omega, fun s _ hl => by rw [dgT_zero] at hl; omega⟩
/-- what both answer -/
def htA (σ : Sto) (ng nh : Nat) (lg w : Int32) : Int32 := match foldF (okH σ ng nh) (vlH σ ng nh lg) 0 ((ng + 1) ^ nh) none with
  | none => 0
  | some p => if w = -1 then p.1 else rowH ng nh p.2 w.toNatClampNeg
theorem foldH_some {σ : Sto} {ng nh : Nat} {lg : Int32} : foldF (okH σ ng nh) (vlH σ ng nh lg) 0 ((ng + 1) ^ nh) none ≠ none :=
  foldF_some ⟨0, Nat.le_refl 0, by rw [Nat.zero_add]; exact Nat.pow_pos (Nat.succ_pos ng), okH_0⟩
/-- who stands at all, as a set -/
theorem c_bare {σ X : Sto} {N nb ns ng nh : Nat} (h : Rl σ N nb ns ng nh) (hf : Fr (fun k j => (28 ≤ k ∧ k ≤ 33) ∨ (36 ≤ k ∧ k ≤ 38)) σ X) (hon : ∀ s, s < ns → IsWho (σ.1 48) (nI s) ng (X.1 33 s)) : Ok (lpF (fun t => f_X0_seek_36_l9 t.1 t.2.1 t.2.2) FU (X, (0 : Int32), (0 : Int32))) (fun y => y.1 = X ∧ ∃ U, y.2.1 = nI U ∧ U < 64 ∧ ∀ g, g < ng → (U.testBit g = true ↔ stB σ g = true)) := by
  have hng : ng ≤ 6 := h.1.1.2.2.1
  have hns : ns ≤ 6 := h.1.1.2.1
  have hP : PL X nb ns ng nh := h.1.fr (hf.mono (fun k j q => by unfold Scr; omega))
  have hS := h.2.1
  refine lp_for (fun i t => t.1 = X ∧ t.2.2 = nI i ∧ ∃ U, t.2.1 = nI U ∧ U < 64 ∧ ∀ g, g < ng → (U.testBit g = true ↔ ∃ s, s < i ∧ X.1 33 s = nI g)) ns (FU_big (by omega)) ⟨rfl, rfl, 0, rfl, by omega, fun g hg => ⟨fun q => ?_, fun ⟨s, hs, _⟩ => absurd hs (Nat.not_lt_zero s)⟩⟩ ?_ ?_
  · rw [Nat.zero_testBit] at q
    cases q
  · rintro i ⟨Y, x1, x2⟩ hi ⟨e1, e2, U, e3, hU, hb⟩
    dsimp only at e1 e2 e3 ⊢
    subst e1 e2 e3
    unfold f_X0_seek_36_l9 f_X0_seek_36_j48
    rw [(c_cnt hP).2.1, bd2_eq, if_neg (nI_ge hi (by omega)), inB_n (show i < 6 by omega) (by omega), gd_true, gd_true, nI_clamp (show i < 2 ^ 31 by omega)]
    simp only [bsN, nI_1]
    rcases hon i hi with ⟨k1, k2⟩ | ⟨g0, k1, k2, k3⟩
    · rw [if_pos k1, ok_some]
      refine Or.inl ⟨_, rfl, rfl, rfl, U, rfl, hU, fun g hg => ?_⟩
      rw [hb g hg]
      constructor
      · rintro ⟨s, hs, e⟩
        exact ⟨s, by omega, e⟩
      · rintro ⟨s, hs, e⟩
        by_cases c : s = i
        · subst c
          exact absurd (e.symm.trans k1) (nI_ne_m1 (by omega))
        · exact ⟨s, by omega, e⟩
    · rw [k2, if_neg (nI_ne_m1 (by omega)), (mk_or U hU g0 (by omega)).1, ok_some]
      refine Or.inl ⟨_, rfl, rfl, rfl, U ||| 2 ^ g0, rfl, (mk_or U hU g0 (by omega)).2, fun g hg => ?_⟩
      rw [mk_tb U hU g0 (by omega) g (by omega), Bool.or_eq_true, decide_eq_true_iff, hb g hg]
      constructor
      · rintro (⟨s, hs, e⟩ | e)
        · exact ⟨s, by omega, e⟩
        · exact ⟨i, by omega, by rw [k2, e]⟩
      · rintro ⟨s, hs, e⟩
        by_cases c : s = i
        · subst c
          exact Or.inr ((nI_eq (by omega) (by omega)).mp (e.symm.trans k2))
        · exact Or.inl ⟨s, by omega, e⟩
  · rintro ⟨Y, x1, x2⟩ ⟨e1, e2, U, e3, hU, hb⟩
    dsimp only at e1 e2 e3 ⊢
    subst e1 e2 e3
    unfold f_X0_seek_36_l9
    rw [(c_cnt hP).2.1, bd2_eq, if_pos (nI_le (Nat.le_refl ns) (by omega)), ok_some]
    refine ⟨_, rfl, rfl, U, rfl, hU, fun g hg => ?_⟩
    rw [hb g hg]
    constructor
    · rintro ⟨s, hs, e⟩
      rcases hon s hs with ⟨k1, k2⟩ | ⟨g0, k1, k2, k3⟩
      · exact absurd (e.symm.trans k1) (nI_ne_m1 (by omega))
      · have : g0 = g := (nI_eq (by omega) (by omega)).mp (k2.symm.trans e)
        subst this
        refine decide_eq_true ?_
        rw [k3]
        exact nI_pos' (by omega)
    · intro q
      have q1 : (0 : Int32) ≤ σ.1 48 g := of_decide_eq_true q
      rcases (hS.1.2.1 g hg).2 with z | z
      · exact absurd q1 (m1_nle z)
      · obtain ⟨s, hs, es⟩ := inB_ex z (by omega)
        refine ⟨s, hs, ?_⟩
        rcases hon s hs with ⟨k1, k2⟩ | ⟨g0, k1, k2, k3⟩
        · exact absurd es (k2 g hg)
        · have : g0 = g := hS.1.2.2 g0 g k1 hg (k3.trans es.symm) (by rw [k3, nI_toInt (by omega)]; omega)
          subst this
          exact k2
theorem c_hatsJ {σ : Sto} {N nb ns ng nh : Nat} {b w : Int32} (h : Rl σ N nb ns ng nh) (hb : inB b nb = true) (hw : w = -1 ∨ inB w nh = true) : Ok (f_X7_hats_j32 σ b w) (fun y => Fr Scr σ y.1 ∧ y.2 = htA σ ng nh (lonM σ b (σ.1 39 13)) w) := by
  have hng : ng ≤ 6 := h.1.1.2.2.1
  have hns : ns ≤ 6 := h.1.1.2.1
  have hnh : nh ≤ 4 := h.1.1.2.2.2
  obtain ⟨hP, hS, -⟩ := id h
  have hd : rgI (σ.1 39 13) 0 (99 * N) := by rw [← hS.2.2.1.2.1]; exact hS.2.2.2.2.2
  have hlg := lonM_rg hP hb hd
  unfold f_X7_hats_j32 f_X7_hats_j104
  rw [ok_bd1]
  refine ok_mono (c_dress0 hP hS) (fun τ hd2 => ?_)
  obtain ⟨hf, hp, hh, hon⟩ := hd2
  have hPt := hP.fr (hf.mono (fun _ _ => Pd_Scr))
  have e10 : τ.1 10 3 = σ.1 39 13 := (hf 10 3 (by unfold Pd; omega)).trans hS.2.2.1.2.1
  have hlon : lonS (τ.1 39 0) (τ.1 40 b.toNatClampNeg) (τ.1 41 b.toNatClampNeg) (σ.1 39 13) = lonM σ b (σ.1 39 13) := by
    rw [hf 39 0 (by unfold Pd; omega), hf 40 _ (by unfold Pd; omega), hf 41 _ (by unfold Pd; omega)]
    rfl
  rw [e10, c_longOf hPt hb, bd2_eq, hlon]
  generalize lonM σ b (σ.1 39 13) = lg at hlg ⊢
  unfold f_X5_light_28 f_X0_seek_36
  simp only [bsN, bd1_eq]
  have e5 : τ.1 10 5 = σ.1 39 18 := (hf 10 5 (by unfold Pd; omega)).trans hS.2.2.1.2.2.2.1
  generalize hT : su (su (su τ 28 2 lg) 28 3 (τ.1 10 5)) 36 3 0 = T
  have hW : HI σ T ns ng 0 0 lg := by
    rw [← hT]
    refine ⟨(((hf.mono (fun k j q => by unfold Pd at q; omega)).su (by omega)).su (by omega)).su (by omega), ⟨hp, rfl, e5⟩, fun g hg => ?_, hon, fun s hs => absurd hs (Nat.not_lt_zero s)⟩
    have e0 : htP ng 0 0 g = -1 := rfl
    have e1 : hgH σ (htP ng 0 0) g = σ.1 45 g := by
      unfold hgH
      rw [e0, adS_m1, Int32.add_zero]
    have e2 : coH σ (htP ng 0 0) g = 0 := by
      unfold coH
      rw [e0, adS_m1]
    rw [e1, e2]
    exact hh g hg
  have hA : AccH T ng nh none := by rw [← hT]; exact rfl
  rw [ok_bd1, ok_bE2]
  refine ok_mono (c_bare h hW.1 hW.2.2.2.1) (fun y hy => ?_)
  obtain ⟨Y, x1, x2⟩ := y
  obtain ⟨e1, U, e2, hU, hbU⟩ := hy
  dsimp only at e1 e2 ⊢
  subst e1 e2
  have hpre : PRH σ ng 0 0 U := ⟨fun s hs => absurd hs (Nat.not_lt_zero s), fun s hs => absurd hs (Nat.not_lt_zero s), hU, fun g hg => by
    rw [hbU g hg]
    exact ⟨fun q => ⟨q, fun s hs => absurd hs (Nat.not_lt_zero s)⟩, fun q => q.1⟩⟩
  rw [ok_bd1]
  refine ok_mono (c_hand h hlg nh 8 (by omega) Y 0 0 U none (by omega) hpre hW hA) (fun Z hZ => ok_some.mpr ?_)
  obtain ⟨z1, z3⟩ := hZ
  rw [Nat.zero_mul] at z3
  have hsm := foldH_some (σ := σ) (ng := ng) (nh := nh) (lg := lg)
  unfold htA
  cases e : foldF (okH σ ng nh) (vlH σ ng nh lg) 0 ((ng + 1) ^ nh) none with
  | none => exact absurd e hsm
  | some p =>
    rw [e] at z3
    obtain ⟨-, q2, q3⟩ := z3
    have hfS : Fr Scr σ Z := z1.1.mono (fun k j q => by unfold Scr; omega)
    rcases hw with q | q
    · rw [if_pos q, ok_some]
      refine ⟨hfS, ?_⟩
      dsimp only
      rw [if_pos q]
      exact q2
    · rw [if_neg (inB_ne q), inB_up q hnh, gd_true, ok_some]
      refine ⟨hfS, ?_⟩
      dsimp only
      rw [if_neg (inB_ne q)]
      refine q3 _ ?_
      obtain ⟨s, hs, es⟩ := inB_ex q (by omega)
      rw [es, nI_clamp (by omega)]
      exact hs
