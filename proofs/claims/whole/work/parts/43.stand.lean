/-! standing: there is a code; the class's answer -/
theorem stepF_some {ok : Nat → Bool} {V : Nat → Int32} {a : Option (Int32 × Nat)} {c : Nat} (h : a ≠ none ∨ ok c = true) : stepF ok V a c ≠ none := by
  unfold stepF
  cases a with
  | none =>
    rcases h with h | h
    · exact absurd rfl h
    · rw [if_pos h]; exact fun q => (by cases q)
  | some p =>
    by_cases c1 : ok c = true
    · rw [if_pos c1]
      dsimp only
      split
      · exact fun q => (by cases q)
      · exact fun q => (by cases q)
    · rw [if_neg c1]; exact fun q => (by cases q)
theorem foldF_some {ok : Nat → Bool} {V : Nat → Int32} {lo : Nat} {a : Option (Int32 × Nat)} : ∀ {n : Nat}, (∃ c, lo ≤ c ∧ c < lo + n ∧ ok c = true) → foldF ok V lo n a ≠ none := by
  intro n
  induction n with
  | zero => rintro ⟨c, h1, h2, -⟩; omega
  | succ n ih =>
    rintro ⟨c, h1, h2, h3⟩
    show stepF ok V (foldF ok V lo n a) (lo + n) ≠ none
    by_cases e : c = lo + n
    · subst e; exact stepF_some (Or.inr h3)
    · exact stepF_some (Or.inl (ih ⟨c, h1, by omega, h3⟩))
def InA (ok : Nat → Bool) (V : Nat → Int32) (a : Option (Int32 × Nat)) : Prop := match a with
  | none => True
  | some p => ok p.2 = true ∧ p.1 = V p.2
theorem stepF_in {ok : Nat → Bool} {V : Nat → Int32} {a : Option (Int32 × Nat)} {c : Nat} (h : InA ok V a) : InA ok V (stepF ok V a c) := by
  unfold stepF
  by_cases c1 : ok c = true
  · rw [if_pos c1]
    cases a with
    | none => exact ⟨c1, rfl⟩
    | some p =>
      dsimp only
      split
      · exact h
      · exact ⟨c1, rfl⟩
  · rw [if_neg c1]; exact h
theorem foldF_in {ok : Nat → Bool} {V : Nat → Int32} {lo : Nat} : ∀ (n : Nat), InA ok V (foldF ok V lo n none) := by
  intro n
  induction n with
  | zero => exact True.intro
  | succ n ih => exact stepF_in ih
theorem code_ex {ng m : Nat} (hm : m ≤ ng) : ∀ t, ∃ q, q < (ng + 1) ^ t ∧ ∀ s, s < t → dgT (ng + 1) t q s = if s < m then s else ng := by
  intro t
  induction t with
  | zero => exact ⟨0, by rw [Nat.pow_zero]; omega, fun s q => absurd q (Nat.not_lt_zero s)⟩
  | succ t ih =>
    obtain ⟨q, h1, h2⟩ := ih
    have hd : (if t < m then t else ng) < ng + 1 := by split <;> omega
    refine ⟨q * (ng + 1) + (if t < m then t else ng), ?_, fun s hs => ?_⟩
    · rw [Nat.pow_succ]
      have h3 : (q + 1) * (ng + 1) ≤ (ng + 1) ^ t * (ng + 1) := Nat.mul_le_mul_right _ h1
      rw [Nat.add_mul, Nat.one_mul] at h3
      omega
    · by_cases e : s = t
      · subst e; exact dgT_last (Nat.succ_pos ng) hd
      · rw [dgT_old (Nat.succ_pos ng) hd (by omega)]
        exact h2 s (by omega)
theorem cnt_ex {ng m : Nat} {dg : Nat → Nat} (hm : m ≤ ng) : ∀ n, (∀ s, s < n → dg s = if s < m then s else ng) → cntR ng dg 0 n = if n ≤ m then n else m := by
  intro n
  induction n with
  | zero => intro _; rw [if_pos (by omega)]; rfl
  | succ n ih =>
    intro h
    show cntR ng dg 0 n + (if dg (0 + n) < ng then 1 else 0) = _
    rw [ih (fun s hs => h s (by omega)), Nat.zero_add, h n (by omega)]
    by_cases c1 : n < m
    · rw [if_pos (show n ≤ m by omega), if_pos c1, if_pos (by omega), if_pos (by omega)]
    · have e1 : (if n ≤ m then n else m) = m := by split <;> omega
      rw [if_neg c1, e1, if_neg (Nat.lt_irrefl ng), if_neg (show ¬ n + 1 ≤ m by omega), Nat.add_zero]
theorem ok_ex {ng ns m : Nat} (hm : m ≤ ng) (hm2 : m ≤ ns) : ∃ c, c < (ng + 1) ^ ns ∧ okB ng ns m c = true := by
  obtain ⟨q, h1, h2⟩ := code_ex hm ns
  refine ⟨q, h1, okB_iff.mpr ⟨fun s hs s' hs' e hl => ?_, ?_⟩⟩
  · rw [h2 s hs, h2 s' hs'] at e
    rw [h2 s hs] at hl
    by_cases c1 : s < m
    · rw [if_pos c1] at e
      by_cases c2 : s' < m
      · rw [if_pos c2] at e; exact e
      · rw [if_neg c2] at e; omega
    · rw [if_neg c1] at hl; omega
  · rw [cnt_ex hm ns h2]
    by_cases c : ns ≤ m
    · rw [if_pos c]; omega
    · rw [if_neg c]
/-- what both answer -/
def stA (σ : Sto) (ng ns m : Nat) (lg x w : Int32) : Int32 := match foldF (okB ng ns m) (vlC σ ng ns lg x) 0 ((ng + 1) ^ ns) none with
  | none => 0
  | some p => if w = -1 then p.1 else plR ng ns p.2 w.toNatClampNeg
theorem pre0 {ng m : Nat} : PRE ng m 0 0 m 0 := by
  refine ⟨fun s hs => absurd hs (Nat.not_lt_zero s), Nat.zero_add m, by omega, fun g hg => ⟨fun q => ?_, fun ⟨s, hs, _⟩ => absurd hs (Nat.not_lt_zero s)⟩⟩
  rw [Nat.zero_testBit] at q
  cases q
def mnN (a b : Nat) : Nat := if b < a then b else a
theorem c_standJ {σ : Sto} {N nb ns ng nh : Nat} {b x w : Int32} (h : Rl σ N nb ns ng nh) (hb : inB b nb = true) (hx : x = -1 ∨ inB x ng = true) (hw : w = -1 ∨ inB w ns = true) : Ok (f_X7_standing_j49 σ b x w) (fun y => Fr Scr σ y.1 ∧ y.2 = stA σ ng ns (mnN ng ns) (lonM σ b (σ.1 39 13)) x w) := by
  have hng : ng ≤ 6 := h.1.1.2.2.1
  have hns : ns ≤ 6 := h.1.1.2.1
  obtain ⟨hP, hS, -⟩ := id h
  have hd : rgI (σ.1 39 13) 0 (99 * N) := by rw [← hS.2.2.1.2.1]; exact hS.2.2.2.2.2
  have hlg := lonM_rg hP hb hd
  unfold f_X7_standing_j49 f_X7_standing_j122
  rw [ok_bd1]
  refine ok_mono (c_dress hP hS) (fun τ hd2 => ?_)
  obtain ⟨hf, hp, hh, hon⟩ := hd2
  have hPt := hP.fr (hf.mono (fun _ _ => Pd_Scr))
  have e10 : τ.1 10 3 = σ.1 39 13 := (hf 10 3 (by unfold Pd; omega)).trans hS.2.2.1.2.1
  have hlon : lonS (τ.1 39 0) (τ.1 40 b.toNatClampNeg) (τ.1 41 b.toNatClampNeg) (σ.1 39 13) = lonM σ b (σ.1 39 13) := by
    rw [hf 39 0 (by unfold Pd; omega), hf 40 _ (by unfold Pd; omega), hf 41 _ (by unfold Pd; omega)]
    rfl
  rw [e10, c_longOf hPt hb, bd2_eq, hlon]
  generalize lonM σ b (σ.1 39 13) = lg at hlg ⊢
  unfold f_X5_light_28 f_X1_seek_34
  simp only [bsN, bd1_eq]
  have e5 : τ.1 10 5 = σ.1 39 18 := (hf 10 5 (by unfold Pd; omega)).trans hS.2.2.1.2.2.2.1
  generalize hT : su (su (su (su τ 28 2 lg) 28 3 (τ.1 10 5)) 34 2 x) 34 3 0 = T
  have hW : WI σ T ng lg x := by
    rw [← hT]
    refine ⟨((((hf.mono (fun k j q => by unfold Pd at q; omega)).su (by omega)).su (by omega)).su (by omega)).su (by omega), ⟨hp, rfl, e5⟩, hh, rfl⟩
  have hPT : PL T nb ns ng nh := hP.fr (hW.1.mono (fun k j q => by unfold Scr; omega))
  have hA : AccC T ng ns none := by rw [← hT]; exact rfl
  have emin : iMin (nI ng) (nI ns) = nI (mnN ng ns) := by
    unfold iMin mnN
    by_cases c : ns < ng
    · rw [if_pos (nI_lt c (by omega)), if_pos c]
    · rw [if_neg (fun z => c (by have := i_lt.mp z; rw [nI_toInt (by omega), nI_toInt (by omega)] at this; omega)), if_neg c]
  have hm : mnN ng ns ≤ ng ∧ mnN ng ns ≤ ns := by unfold mnN; split <;> omega
  rw [ok_bd1, (c_cnt hPT).2.2.1, bd2_eq, (c_cnt hPT).2.1, bd2_eq, emin, ok_bd1]
  refine ok_mono (c_fill (m := mnN ng ns) h hlg hx ns 8 (by omega) T 0 0 (mnN ng ns) 0 none (by omega) hm.2 pre0 hW (fun s q => absurd q (Nat.not_lt_zero s)) hA) (fun Z hZ => ok_some.mpr ?_)
  obtain ⟨z1, -, z3⟩ := hZ
  rw [Nat.zero_mul] at z3
  have hsm := foldF_some (V := vlC σ ng ns lg x) (a := none) (lo := 0) (n := (ng + 1) ^ ns) (by
    obtain ⟨c, c1, c2⟩ := ok_ex hm.1 hm.2
    exact ⟨c, by omega, by omega, c2⟩)
  unfold stA
  cases e : foldF (okB ng ns (mnN ng ns)) (vlC σ ng ns lg x) 0 ((ng + 1) ^ ns) none with
  | none => exact absurd e hsm
  | some p =>
    rw [e] at z3
    obtain ⟨-, q2, q3⟩ := z3
    have hfS : Fr Scr σ Z := z1.1.mono (fun k j q => by unfold Scr; omega)
    rcases hw with q | q
    · rw [if_pos q, ok_some]
      refine ⟨hfS, ?_⟩
      dsimp only
      rw [if_pos q]
      exact q2
    · rw [if_neg (inB_ne q), inB_up q hns, gd_true, ok_some]
      refine ⟨hfS, ?_⟩
      dsimp only
      rw [if_neg (inB_ne q)]
      refine q3 _ ?_
      obtain ⟨s, hs, es⟩ := inB_ex q (by omega)
      rw [es, nI_clamp (by omega)]
      exact hs
