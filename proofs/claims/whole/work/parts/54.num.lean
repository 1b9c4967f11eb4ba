/-! square: one number -/
def vN (t : Nat → Nat) (p : Nat) : Nat → Nat
  | 0 => 0
  | k + 1 => vN t p k * 10 + (t (p + k) - 48)
theorem vN_lt {t : Nat → Nat} {p : Nat} : ∀ {k : Nat}, (∀ i, p ≤ i → i < p + k → dg (t i) = true) → vN t p k < 10 ^ k := by
  intro k
  induction k with
  | zero => intro _; exact Nat.lt_succ_self 0
  | succ k ih =>
    intro h
    have h1 := ih (fun i q1 q2 => h i q1 (by omega))
    have h2 : 48 ≤ t (p + k) ∧ t (p + k) ≤ 57 := of_decide_eq_true (h (p + k) (by omega) (by omega))
    show vN t p k * 10 + (t (p + k) - 48) < 10 ^ (k + 1)
    rw [Nat.pow_succ]
    omega
theorem vN_1000 {t : Nat → Nat} {p k : Nat} (hk : k ≤ 3) (h : ∀ i, p ≤ i → i < p + k → dg (t i) = true) : vN t p k < 1000 := Nat.lt_of_lt_of_le (vN_lt h) (Nat.pow_le_pow_right (n := 10) (by omega) hk)
theorem vN_100 {t : Nat → Nat} {p k : Nat} (hk : k ≤ 2) (h : ∀ i, p ≤ i → i < p + k → dg (t i) = true) : vN t p k < 100 := Nat.lt_of_lt_of_le (vN_lt h) (Nat.pow_le_pow_right (n := 10) (by omega) hk)
def nmP (t : Nat → Nat) (len a : Nat) : Nat := runE bl t len a
def nmB (t : Nat → Nat) (len a : Nat) : Nat := runE dg t len (nmP t len a)
def nmV (t : Nat → Nat) (len a : Nat) : Nat := vN t (nmP t len a) (nmB t len a - nmP t len a)
def nmK (t : Nat → Nat) (len a lo hi : Nat) : Nat := if nmB t len a = nmP t len a then 1 else if 3 < nmB t len a - nmP t len a ∨ nmV t len a < lo ∨ hi < nmV t len a then 2 else 0
theorem nmK_le (t : Nat → Nat) (len a lo hi : Nat) : nmK t len a lo hi ≤ 2 := by
  unfold nmK
  split
  · omega
  · split <;> omega
theorem nmB_rg {t : Nat → Nat} {len a : Nat} (ha : a ≤ len) : a ≤ nmP t len a ∧ nmP t len a ≤ nmB t len a ∧ nmB t len a ≤ len := ⟨runE_ge _ _ _ _, runE_ge _ _ _ _, runE_le (runE_le ha)⟩
def mn3 (k : Nat) : Nat := if k ≤ 3 then k else 3
theorem c_noteFault (σ : Sto) (k p : Int32) : f_X3_noteFault_4 σ k p = some (su (su σ 4 5 k) 4 6 p) := rfl
theorem c_readNumber {X : Sto} {t : Nat → Nat} {len a lo hi : Nat} (h : XC X t len) (ha : a ≤ len) (e2 : X.1 4 2 = nI a) (hlo : lo ≤ 1000) (hhi : hi ≤ 1000) : Ok (f_X3_readNumber_4 X (nI lo) (nI hi)) (fun y => Fr (fun k j => k = 4 ∧ (j = 2 ∨ j = 5 ∨ j = 6)) X y.1 ∧ y.1.1 4 2 = nI (nmB t len a) ∧ (nmK t len a lo hi = 0 → y.1.1 4 5 = X.1 4 5 ∧ y.1.1 4 6 = X.1 4 6 ∧ y.1.1 4 2 = nI (nmB t len a) ∧ y.2 = nI (nmV t len a)) ∧ (¬ nmK t len a lo hi = 0 → y.1.1 4 5 = nI (nmK t len a lo hi) ∧ y.1.1 4 6 = nI (nmP t len a))) := by
  have hl := h.1
  have e3 : (3 : Int32) = nI 3 := rfl
  have e10 : (10 : Int32) = nI 10 := rfl
  have e48 : (48 : Int32) = nI 48 := rfl
  have e57 : (57 : Int32) = nI 57 := rfl
  obtain ⟨r1, r2, r3⟩ := nmB_rg (t := t) ha
  unfold f_X3_readNumber_4
  rw [ok_bd1]
  refine ok_mono (c_skipBlanks h ha e2) (fun X1 hX1 => ?_)
  obtain ⟨hf1, ep⟩ := hX1
  have h1 := h.fr hf1 (by omega) (by omega)
  have ep : X1.1 4 2 = nI (nmP t len a) := ep
  rw [ok_bs, ok_bs, ok_bE1, ep]
  have hrun := runE_is dg t len (nmP t len a)
  have hdg : ∀ i, nmP t len a ≤ i → i < nmB t len a → dg (t i) = true := fun i q1 q2 => (hrun.2.1 i q1 q2).2
  refine lp_run dg t (fun b x => Fr (fun k j => k = 4 ∧ j = 2) X1 x.1 ∧ x.1.1 4 2 = nI b ∧ x.2 = nI (vN t (nmP t len a) (mn3 (b - nmP t len a)))) hl (show nmP t len a ≤ len by omega) ⟨Fr.rf, ep, by rw [Nat.sub_self]; rfl⟩ ?_ ?_
  · rintro b ⟨Z, v⟩ hb1 hb2 hp hpre ⟨hf, e, ev⟩
    dsimp only at hf e ev ⊢
    have hZ := h1.fr hf (by omega) (by omega)
    have hc : 48 ≤ t b ∧ t b ≤ 57 := of_decide_eq_true hp
    subst ev
    unfold f_X3_readNumber_4_l12 f_X3_readNumber_4_j84
    rw [hZ.2.1, e, if_neg (nI_ge hb2 (by omega)), inB_n (show b < 500 by omega) (by omega), gd_true, gd_true, gd_true, nI_clamp (show b < 2 ^ 31 by omega), (hZ.2.2 b hb2).1, e48, e57, if_neg (fun q => by have := (nI_ltI (by omega) (by omega)).mp q; omega), if_neg (fun q => by have := (nI_ltI (by omega) (by omega)).mp q; omega), pk_sub hb1, e3]
    by_cases c3 : 3 ≤ b - nmP t len a
    · rw [if_pos (nI_le c3 (by omega)), ok_bs, ok_bs, ok_some, nI_1]
      refine ⟨_, rfl, hf.su ⟨rfl, rfl⟩, by rw [su_at, if_pos ⟨rfl, rfl⟩], ?_⟩
      have q1 : mn3 (b - nmP t len a) = 3 := by unfold mn3; split <;> omega
      have q2 : mn3 (b + 1 - nmP t len a) = 3 := by unfold mn3; split <;> omega
      dsimp only
      rw [q1, q2]
    · rw [if_neg (nI_ge (show b - nmP t len a < 3 by omega) (by omega)), ok_bs, ok_bs, ok_some, nI_1]
      refine ⟨_, rfl, hf.su ⟨rfl, rfl⟩, by rw [su_at, if_pos ⟨rfl, rfl⟩], ?_⟩
      have q1 : mn3 (b - nmP t len a) = b - nmP t len a := if_pos (by omega)
      have q2 : mn3 (b + 1 - nmP t len a) = (b - nmP t len a) + 1 := (if_pos (by omega)).trans (by omega)
      dsimp only
      rw [q1, q2, e10, pk_mul, pk_sub hc.1, nI_add]
      show _ = nI (vN t (nmP t len a) (b - nmP t len a) * 10 + (t (nmP t len a + (b - nmP t len a)) - 48))
      rw [show nmP t len a + (b - nmP t len a) = b by omega]
  · rintro ⟨Z, v⟩ ⟨hf, e, ev⟩
    dsimp only at hf e ev ⊢
    have hZ := h1.fr hf (by omega) (by omega)
    have e : Z.1 4 2 = nI (nmB t len a) := e
    have ev : v = nI (vN t (nmP t len a) (mn3 (nmB t len a - nmP t len a))) := ev
    have hno : ¬ (nmB t len a < len ∧ dg (t (nmB t len a)) = true) := hrun.2.2
    have hfa : Fr (fun k j => k = 4 ∧ (j = 2 ∨ j = 5 ∨ j = 6)) X Z := (hf1.tr hf).mono (fun k j q => by omega)
    have z5 : Z.1 4 5 = X.1 4 5 := (hf1.tr hf) 4 5 (by omega)
    have z6 : Z.1 4 6 = X.1 4 6 := (hf1.tr hf) 4 6 (by omega)
    subst ev
    -- what comes behind
    have fin : Ok (if Z.1 4 2 = nI (nmP t len a) then (bd1 (f_X3_noteFault_4 Z (1 : Int32) (nI (nmP t len a))) fun σ12 => f_X3_readNumber_4_j144 σ12 (nI (vN t (nmP t len a) (mn3 (nmB t len a - nmP t len a))))) else (if (3 : Int32) < ((Z.1 4 2) - nI (nmP t len a)) then (f_X3_readNumber_4_j138 Z (nI (nmP t len a)) (nI (vN t (nmP t len a) (mn3 (nmB t len a - nmP t len a))))) else (if nI (vN t (nmP t len a) (mn3 (nmB t len a - nmP t len a))) < nI lo then (f_X3_readNumber_4_j138 Z (nI (nmP t len a)) (nI (vN t (nmP t len a) (mn3 (nmB t len a - nmP t len a))))) else (if nI (vN t (nmP t len a) (mn3 (nmB t len a - nmP t len a))) ≤ nI hi then (f_X3_readNumber_4_j144 Z (nI (vN t (nmP t len a) (mn3 (nmB t len a - nmP t len a))))) else (f_X3_readNumber_4_j138 Z (nI (nmP t len a)) (nI (vN t (nmP t len a) (mn3 (nmB t len a - nmP t len a))))))))) (fun y => Fr (fun k j => k = 4 ∧ (j = 2 ∨ j = 5 ∨ j = 6)) X y.1 ∧ y.1.1 4 2 = nI (nmB t len a) ∧ (nmK t len a lo hi = 0 → y.1.1 4 5 = X.1 4 5 ∧ y.1.1 4 6 = X.1 4 6 ∧ y.1.1 4 2 = nI (nmB t len a) ∧ y.2 = nI (nmV t len a)) ∧ (¬ nmK t len a lo hi = 0 → y.1.1 4 5 = nI (nmK t len a lo hi) ∧ y.1.1 4 6 = nI (nmP t len a))) := by
      unfold f_X3_readNumber_4_j138 f_X3_readNumber_4_j144
      rw [c_noteFault, c_noteFault, bd1_eq, bd1_eq, e]
      have flt : ∀ k v, nmK t len a lo hi = k → ¬ k = 0 → Ok (some (su (su Z 4 5 (nI k)) 4 6 (nI (nmP t len a)), v)) (fun y => Fr (fun k j => k = 4 ∧ (j = 2 ∨ j = 5 ∨ j = 6)) X y.1 ∧ y.1.1 4 2 = nI (nmB t len a) ∧ (nmK t len a lo hi = 0 → y.1.1 4 5 = X.1 4 5 ∧ y.1.1 4 6 = X.1 4 6 ∧ y.1.1 4 2 = nI (nmB t len a) ∧ y.2 = nI (nmV t len a)) ∧ (¬ nmK t len a lo hi = 0 → y.1.1 4 5 = nI (nmK t len a lo hi) ∧ y.1.1 4 6 = nI (nmP t len a))) := by
        intro k v hk hk0
        rw [ok_some]
        refine ⟨(hfa.su (by omega)).su (by omega), by rw [su_at, if_neg (by omega), su_at, if_neg (by omega)]; exact e, fun q => absurd (hk.symm.trans q) hk0, fun _ => ⟨?_, ?_⟩⟩
        · rw [su_at, if_neg (by omega), su_at, if_pos ⟨rfl, rfl⟩, hk]
        · rw [su_at, if_pos ⟨rfl, rfl⟩]
      by_cases c1 : nmB t len a = nmP t len a
      · rw [if_pos (by rw [c1])]
        exact flt 1 _ (by unfold nmK; rw [if_pos c1]) (by omega)
      · rw [if_neg (fun q => c1 ((nI_eq (by omega) (by omega)).mp q)), pk_sub r2, e3]
        by_cases c2 : 3 < nmB t len a - nmP t len a
        · rw [if_pos (nI_lt c2 (by omega))]
          exact flt 2 _ (by unfold nmK; rw [if_neg c1, if_pos (Or.inl c2)]) (by omega)
        · have q1 : mn3 (nmB t len a - nmP t len a) = nmB t len a - nmP t len a := if_pos (by omega)
          have hv : nmV t len a < 1000 := vN_1000 (by omega) (fun i h1 h2 => hdg i h1 (by omega))
          have ev : vN t (nmP t len a) (mn3 (nmB t len a - nmP t len a)) = nmV t len a := by rw [q1]; rfl
          rw [if_neg (fun q => c2 ((nI_ltI (by omega) (by omega)).mp q)), ev]
          by_cases c3 : nmV t len a < lo
          · rw [if_pos (nI_lt c3 (by omega))]
            exact flt 2 _ (by unfold nmK; rw [if_neg c1, if_pos (Or.inr (Or.inl c3))]) (by omega)
          · rw [if_neg (fun q => c3 ((nI_ltI (by omega) (by omega)).mp q))]
            by_cases c4 : hi < nmV t len a
            · rw [if_neg (nI_ge c4 (by omega))]
              exact flt 2 _ (by unfold nmK; rw [if_neg c1, if_pos (Or.inr (Or.inr c4))]) (by omega)
            · rw [if_pos (nI_le (by omega) (by omega)), ok_some]
              have hk : nmK t len a lo hi = 0 := by unfold nmK; rw [if_neg c1, if_neg (by omega)]
              exact ⟨hfa, e, fun _ => ⟨z5, z6, e, rfl⟩, fun q => absurd hk q⟩
    generalize hb : nmB t len a = b at *
    unfold f_X3_readNumber_4_l12
    rw [hZ.2.1, e]
    by_cases c : b < len
    · have hc : ¬ (48 ≤ t b ∧ t b ≤ 57) := fun q => hno ⟨c, decide_eq_true q⟩
      have h255 := (hZ.2.2 b c).2
      rw [if_neg (nI_ge c (by omega)), inB_n (show b < 500 by omega) (by omega), gd_true, gd_true, nI_clamp (show b < 2 ^ 31 by omega), (hZ.2.2 b c).1, e48, e57]
      by_cases c1 : t b < 48
      · rw [if_pos ((nI_ltI (by omega) (by omega)).mpr c1), ok_some]
        exact ⟨_, rfl, fin⟩
      · rw [if_neg (fun q => c1 ((nI_ltI (by omega) (by omega)).mp q)), if_pos ((nI_ltI (by omega) (by omega)).mpr (by omega)), ok_some]
        exact ⟨_, rfl, fin⟩
    · rw [if_pos (nI_le (by omega) (by omega)), ok_some]
      exact ⟨_, rfl, fin⟩
