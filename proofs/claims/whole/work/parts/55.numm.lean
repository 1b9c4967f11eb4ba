/-! square: one number, the reference's way -/
theorem rgB_nI {n l h : Nat} (hn : n < 2 ^ 31) : rgB (nI n) l h = decide (l ≤ n ∧ n ≤ h) := by
  unfold rgB
  rw [nI_toInt hn]
  exact decide_eq_decide.mpr ⟨fun q => ⟨by omega, by omega⟩, fun q => ⟨by omega, by omega⟩⟩
theorem m_fails (σ : Sto) (k p : Int32) : f_X8_fails σ k p = some (su σ 39 22 p, k) := rfl
theorem m_digits {W : Sto} {t : Nat → Nat} {len p : Nat} (h : XM W t len) (hp0 : p ≤ len) (e23 : W.1 39 23 = nI p) (e26 : W.1 39 26 = 0) (l u : Int32) : Ok (lpF (fun t => f_X8_takeNumber_l42 l u t) FU W) (fun Z => Fr (fun k j => k = 39 ∧ (j = 23 ∨ j = 26)) W Z ∧ Z.1 39 23 = nI (runE dg t len p) ∧ (runE dg t len p - p ≤ 3 → Z.1 39 26 = nI (vN t p (runE dg t len p - p)))) := by
  have hl := h.1
  have e10 : (10 : Int32) = nI 10 := rfl
  have e48 : (48 : Int32) = nI 48 := rfl
  have e1k : (10000 : Int32) = nI 10000 := rfl
  refine lp_run dg t (fun b Z => Fr (fun k j => k = 39 ∧ (j = 23 ∨ j = 26)) W Z ∧ Z.1 39 23 = nI b ∧ (b - p ≤ 3 → Z.1 39 26 = nI (vN t p (b - p)))) hl hp0 ⟨Fr.rf, e23, fun _ => by rw [Nat.sub_self]; exact e26⟩ ?_ ?_
  · rintro b Z hb1 hb2 hp hpre ⟨hf, e, ev⟩
    have hZ := h.fr hf (by omega) (by omega)
    have hc : 48 ≤ t b ∧ t b ≤ 57 := of_decide_eq_true hp
    have hin : f_X8_in Z (nI (t b)).toInt64 (48 : Int64) (57 : Int64) = some (Z, bB true) := by
      rw [m_inI Z (nI (t b)) _ _ (li := (48 : Nat)) (hi := (57 : Nat)) (by decide) (by decide), rgB_nI (by omega), decide_eq_true hc]
    unfold f_X8_takeNumber_l42 f_X8_takeNumber_j113
    rw [hZ.2.1, e, if_neg (nI_ge hb2 (by omega)), inB_n (show b < 500 by omega) (by omega), gd_true, nI_clamp (show b < 2 ^ 31 by omega), (hZ.2.2 b hb2).1, hin, bd2_eq, if_neg (show ¬ bB true = 0 by decide), e, inB_n (show b < 500 by omega) (by omega), gd_true, nI_clamp (show b < 2 ^ 31 by omega), (hZ.2.2 b hb2).1]
    by_cases c : Z.1 39 26 ≤ 10000
    · rw [if_pos c, ok_bs, ok_bs, ok_some]
      refine ⟨_, rfl, (hf.su (by omega)).su (by omega), ?_, fun q => ?_⟩
      · rw [su_at, if_pos ⟨rfl, rfl⟩, su_at, if_neg (by omega), e, nI_1]
      · have e0 := ev (by omega)
        rw [su_at, if_neg (by omega), su_at, if_pos ⟨rfl, rfl⟩, e0, e10, pk_mul, nI_add, e48, pk_sub (by omega)]
        rw [show b + 1 - p = (b - p) + 1 by omega]
        show _ = nI (vN t p (b - p) * 10 + (t (p + (b - p)) - 48))
        rw [show p + (b - p) = b by omega]
        congr 1
        omega
    · rw [if_neg c, ok_bs, ok_bs, ok_some]
      refine ⟨_, rfl, (hf.su (by omega)).su (by omega), ?_, fun q => ?_⟩
      · rw [su_at, if_pos ⟨rfl, rfl⟩, su_at, if_neg (by omega), e, nI_1]
      · exfalso
        apply c
        have h100 := vN_100 (t := t) (p := p) (k := b - p) (by omega) (fun i h1 h2 => hpre i h1 (by omega))
        rw [ev (by omega), e1k]
        exact nI_le (by omega) (by omega)
  · rintro Z ⟨hf, e, ev⟩
    have hZ := h.fr hf (by omega) (by omega)
    have hle := runE_le (P := dg) (t := t) hp0
    have hno := (runE_is dg t len p).2.2
    generalize runE dg t len p = b at *
    unfold f_X8_takeNumber_l42
    rw [hZ.2.1, e]
    by_cases c : b < len
    · have hc : ¬ (48 ≤ t b ∧ t b ≤ 57) := fun q => hno ⟨c, decide_eq_true q⟩
      have h255 := (hZ.2.2 b c).2
      have hin : f_X8_in Z (nI (t b)).toInt64 (48 : Int64) (57 : Int64) = some (Z, bB false) := by
        rw [m_inI Z (nI (t b)) _ _ (li := (48 : Nat)) (hi := (57 : Nat)) (by decide) (by decide), rgB_nI (by omega), decide_eq_false hc]
      rw [if_neg (nI_ge c (by omega)), inB_n (show b < 500 by omega) (by omega), gd_true, nI_clamp (show b < 2 ^ 31 by omega), (hZ.2.2 b c).1, hin, bd2_eq, if_pos (show bB false = 0 by rfl), ok_some]
      exact ⟨_, rfl, hf, e, ev⟩
    · rw [if_pos (nI_le (by omega) (by omega)), ok_some]
      exact ⟨_, rfl, hf, e, ev⟩
theorem m_takeNumber {Y : Sto} {t : Nat → Nat} {len a lo hi : Nat} (h : XM Y t len) (ha : a ≤ len) (e2 : Y.1 39 23 = nI a) (hlo : lo ≤ 1000) (hhi : hi ≤ 1000) : Ok (f_X8_takeNumber Y (nI lo) (nI hi)) (fun y => y.2 = nI (nmK t len a lo hi) ∧ Fr (fun k j => k = 39 ∧ 22 ≤ j ∧ j ≤ 27) Y y.1 ∧ (nmK t len a lo hi = 0 → y.1.1 39 22 = Y.1 39 22 ∧ y.1.1 39 23 = nI (nmB t len a) ∧ y.1.1 39 26 = nI (nmV t len a)) ∧ (¬ nmK t len a lo hi = 0 → y.1.1 39 22 = nI (nmP t len a))) := by
  have hl := h.1
  have e3 : (3 : Int32) = nI 3 := rfl
  obtain ⟨r1, r2, r3⟩ := nmB_rg (t := t) ha
  have hrun : IsRun dg t len (nmP t len a) (nmB t len a) := runE_is dg t len (nmP t len a)
  have hdg : ∀ i, nmP t len a ≤ i → i < nmB t len a → dg (t i) = true := fun i q1 q2 => (hrun.2.1 i q1 q2).2
  unfold f_X8_takeNumber
  rw [ok_bd2]
  refine ok_mono (m_here h ha e2) (fun y hy => ?_)
  obtain ⟨Y1, v⟩ := y
  obtain ⟨hf1, ep, ev⟩ := hy
  dsimp only at hf1 ep ev ⊢
  have h1 := h.fr hf1 (by omega) (by omega)
  have ep : Y1.1 39 23 = nI (nmP t len a) := ep
  have ev : v = hrV t len (nmP t len a) := ev
  subst ev
  have hB : (nmB t len a = nmP t len a) ↔ ¬ (nmP t len a < len ∧ dg (t (nmP t len a)) = true) := ⟨fun q => by rw [← q]; exact hrun.2.2, fun q => runE_self q⟩
  have hrg : rgB (hrV t len (nmP t len a)) (48 : Nat) (57 : Nat) = true ↔ ¬ nmB t len a = nmP t len a := by
    rw [hB, Classical.not_not]
    unfold hrV
    by_cases c : nmP t len a < len
    · rw [if_pos c, rgB_nI (by have := (h.2.2 _ c).2; omega)]
      exact ⟨fun q => ⟨c, q⟩, fun q => q.2⟩
    · rw [if_neg c]
      exact ⟨fun q => absurd q (by decide), fun q => absurd q.1 c⟩
  rw [ok_bs, m_inI Y1 _ _ _ (li := (48 : Nat)) (hi := (57 : Nat)) (by decide) (by decide), bd2_eq, bB_if]
  by_cases c1 : nmB t len a = nmP t len a
  · have hk : nmK t len a lo hi = 1 := by unfold nmK; rw [if_pos c1]
    rw [if_neg (fun q => (hrg.mp q) c1), m_fails, bd2_eq, ok_some, hk, ep]
    refine ⟨rfl, (hf1.mono (fun k j q => by omega)).su (by omega), fun q => (by omega), fun _ => ?_⟩
    rw [su_at, if_pos ⟨rfl, rfl⟩]
  · rw [if_pos (hrg.mpr c1), ok_bs, ok_bs, ok_bE0, ep]
    have hW : XM (su (su Y1 39 27 (nI (nmP t len a))) 39 26 0) t len := h1.fr (P := fun k j => k = 39 ∧ (j = 26 ∨ j = 27)) ((Fr.rf.su (by omega)).su (by omega)) (by omega) (by omega)
    refine ok_mono (m_digits hW (show nmP t len a ≤ len by omega) ?_ ?_ _ _) (fun Z hZ => ?_)
    · rw [su_at, if_neg (by omega), su_at, if_neg (by omega)]
      exact ep
    · rw [su_at, if_pos ⟨rfl, rfl⟩]
    obtain ⟨hf, e, ev⟩ := hZ
    have e : Z.1 39 23 = nI (nmB t len a) := e
    have ev : nmB t len a - nmP t len a ≤ 3 → Z.1 39 26 = nI (nmV t len a) := ev
    have hfa : Fr (fun k j => k = 39 ∧ 23 ≤ j ∧ j ≤ 27) Y Z := (((hf1.mono (fun k j q => by omega)).su (by omega)).su (by omega)).tr (hf.mono (fun k j q => by omega))
    have e27 : Z.1 39 27 = nI (nmP t len a) := by
      rw [hf 39 27 (by omega), su_at, if_neg (by omega), su_at, if_pos ⟨rfl, rfl⟩]
    have bad : nmK t len a lo hi = 2 → Ok (f_X8_takeNumber_j157 Z) (fun y => y.2 = nI (nmK t len a lo hi) ∧ Fr (fun k j => k = 39 ∧ 22 ≤ j ∧ j ≤ 27) Y y.1 ∧ (nmK t len a lo hi = 0 → y.1.1 39 22 = Y.1 39 22 ∧ y.1.1 39 23 = nI (nmB t len a) ∧ y.1.1 39 26 = nI (nmV t len a)) ∧ (¬ nmK t len a lo hi = 0 → y.1.1 39 22 = nI (nmP t len a))) := by
      intro hk
      unfold f_X8_takeNumber_j157 f_X8_takeNumber_j170
      rw [m_fails, bd2_eq, ok_some, hk, e27]
      refine ⟨rfl, (hfa.mono (fun k j q => by omega)).su (by omega), fun q => (by omega), fun _ => ?_⟩
      rw [su_at, if_pos ⟨rfl, rfl⟩]
    rw [e, e27, pk_sub r2, e3]
    by_cases c2 : 3 < nmB t len a - nmP t len a
    · rw [if_pos (nI_lt c2 (by omega))]
      exact bad (by unfold nmK; rw [if_neg c1, if_pos (Or.inl c2)])
    · have hv : nmV t len a < 1000 := vN_1000 (by omega) (fun i h1 h2 => hdg i h1 (by omega))
      rw [if_neg (fun q => c2 ((nI_ltI (by omega) (by omega)).mp q)), ev (by omega), m_inI Z _ _ _ (li := (lo : Nat)) (hi := (hi : Nat)) (by rw [toInt64_toInt, nI_toInt (by omega)]) (by rw [toInt64_toInt, nI_toInt (by omega)]), rgB_nI (by omega), bd2_eq, bB_if]
      by_cases c3 : lo ≤ nmV t len a ∧ nmV t len a ≤ hi
      · have hk : nmK t len a lo hi = 0 := by unfold nmK; rw [if_neg c1, if_neg (by omega)]
        unfold f_X8_takeNumber_j170
        rw [if_pos (decide_eq_true c3), ok_some, hk]
        exact ⟨rfl, hfa.mono (fun k j q => by omega), fun _ => ⟨hfa 39 22 (by omega), e, ev (by omega)⟩, fun q => absurd rfl q⟩
      · rw [if_neg (fun q => c3 (of_decide_eq_true q))]
        exact bad (by unfold nmK; rw [if_neg c1, if_pos (by omega)])
