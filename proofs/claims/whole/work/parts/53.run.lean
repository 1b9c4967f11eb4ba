/-! square: runs of like characters, numbers -/
def runN (P : Nat → Bool) (t : Nat → Nat) (len : Nat) : Nat → Nat → Nat
  | 0, a => a
  | k + 1, a => if a < len ∧ P (t a) = true then runN P t len k (a + 1) else a
def runE (P : Nat → Bool) (t : Nat → Nat) (len a : Nat) : Nat := runN P t len (len - a) a
def IsRun (P : Nat → Bool) (t : Nat → Nat) (len a b : Nat) : Prop := a ≤ b ∧ (∀ i, a ≤ i → i < b → i < len ∧ P (t i) = true) ∧ ¬ (b < len ∧ P (t b) = true)
theorem runN_is {P : Nat → Bool} {t : Nat → Nat} {len : Nat} : ∀ k a, len - a ≤ k → IsRun P t len a (runN P t len k a) := by
  intro k
  induction k with
  | zero => exact fun a h => ⟨Nat.le_refl a, fun i h1 h2 => absurd h2 (Nat.not_lt.mpr h1), fun q => by have q1 : a < len := q.1; omega⟩
  | succ k ih =>
    intro a h
    show IsRun P t len a (if a < len ∧ P (t a) = true then runN P t len k (a + 1) else a)
    by_cases c : a < len ∧ P (t a) = true
    · rw [if_pos c]
      obtain ⟨h1, h2, h3⟩ := ih (a + 1) (by omega)
      refine ⟨by omega, fun i q1 q2 => ?_, h3⟩
      by_cases e : i = a
      · subst e; exact c
      · exact h2 i (by omega) q2
    · rw [if_neg c]
      exact ⟨Nat.le_refl a, fun i h1 h2 => absurd h2 (Nat.not_lt.mpr h1), c⟩
theorem runE_is (P : Nat → Bool) (t : Nat → Nat) (len a : Nat) : IsRun P t len a (runE P t len a) := runN_is _ a (Nat.le_refl _)
theorem run_uniq {P : Nat → Bool} {t : Nat → Nat} {len a b b' : Nat} (h : IsRun P t len a b) (h' : IsRun P t len a b') : b = b' := by
  obtain ⟨h1, h2, h3⟩ := h
  obtain ⟨k1, k2, k3⟩ := h'
  rcases Nat.lt_trichotomy b b' with q | q | q
  · exact absurd (k2 b h1 q) h3
  · exact q
  · exact absurd (h2 b' k1 q) k3
theorem runE_ge (P : Nat → Bool) (t : Nat → Nat) (len a : Nat) : a ≤ runE P t len a := (runE_is P t len a).1
theorem runE_le {P : Nat → Bool} {t : Nat → Nat} {len a : Nat} (h : a ≤ len) : runE P t len a ≤ len := by
  obtain ⟨h1, h2, h3⟩ := runE_is P t len a
  by_cases c : runE P t len a ≤ len
  · exact c
  · have := h2 (runE P t len a - 1) (by omega) (by omega)
    omega
theorem runE_self {P : Nat → Bool} {t : Nat → Nat} {len a : Nat} (h : ¬ (a < len ∧ P (t a) = true)) : runE P t len a = a := run_uniq (runE_is P t len a) ⟨Nat.le_refl a, fun i h1 h2 => absurd h2 (Nat.not_lt.mpr h1), h⟩
/-- a loop that goes as far as such characters go -/
theorem lp_run {α β : Type} {it : α → Option (α ⊕ β)} (P : Nat → Bool) (t : Nat → Nat) {len a : Nat} (S : Nat → α → Prop) {Q : β → Prop} (hl : len ≤ 500) (ha : a ≤ len) {x : α} (h0 : S a x) (hgo : ∀ b x, a ≤ b → b < len → P (t b) = true → (∀ i, a ≤ i → i < b → P (t i) = true) → S b x → Ok (it x) (fun y => ∃ x', y = .inl x' ∧ S (b + 1) x')) (hst : ∀ x, S (runE P t len a) x → Ok (it x) (fun y => ∃ e, y = .inr e ∧ Q e)) : Ok (lpF it FU x) Q := by
  refine lp_for (fun i x => S (a + i) x ∧ ∀ j, a ≤ j → j < a + i → j < len ∧ P (t j) = true) (len - a) (FU_big (by omega)) ⟨h0, fun j h1 h2 => absurd h2 (Nat.not_lt.mpr h1)⟩ ?_ ?_
  · rintro i x hi ⟨hS, hp⟩
    by_cases c : P (t (a + i)) = true
    · refine ok_mono (hgo (a + i) x (by omega) (by omega) c (fun j h1 h2 => (hp j h1 h2).2) hS) (fun y hy => Or.inl ?_)
      obtain ⟨x', e, hx⟩ := hy
      refine ⟨x', e, hx, fun j h1 h2 => ?_⟩
      by_cases q : j = a + i
      · subst q; exact ⟨by omega, c⟩
      · exact hp j h1 (by omega)
    · have e : a + i = runE P t len a := run_uniq ⟨by omega, hp, fun q => c q.2⟩ (runE_is P t len a)
      rw [e] at hS
      exact ok_mono (hst x hS) (fun y hy => Or.inr hy)
  · rintro x ⟨hS, hp⟩
    have e : a + (len - a) = runE P t len a := run_uniq ⟨by omega, hp, fun q => by omega⟩ (runE_is P t len a)
    rw [e] at hS
    exact hst x hS
def bl (c : Nat) : Bool := decide (c = 32)
def lt (c : Nat) : Bool := decide (97 ≤ c ∧ c ≤ 122)
def dg (c : Nat) : Bool := decide (48 ≤ c ∧ c ≤ 57)
/-- the text as both hold it -/
def XC (X : Sto) (t : Nat → Nat) (len : Nat) : Prop := len ≤ 500 ∧ X.1 4 4 = nI len ∧ ∀ i, i < len → X.1 5 i = nI (t i) ∧ t i ≤ 255
def XM (Y : Sto) (t : Nat → Nat) (len : Nat) : Prop := len ≤ 500 ∧ Y.1 39 21 = nI len ∧ ∀ i, i < len → Y.1 51 i = nI (t i) ∧ t i ≤ 255
theorem XC.fr {X Z : Sto} {t : Nat → Nat} {len : Nat} {P : Nat → Nat → Prop} (h : XC X t len) (hf : Fr P X Z) (h1 : ¬ P 4 4) (h2 : ∀ j, ¬ P 5 j) : XC Z t len := ⟨h.1, (hf 4 4 h1).trans h.2.1, fun i hi => ⟨(hf 5 i (h2 i)).trans (h.2.2 i hi).1, (h.2.2 i hi).2⟩⟩
theorem XM.fr {X Z : Sto} {t : Nat → Nat} {len : Nat} {P : Nat → Nat → Prop} (h : XM X t len) (hf : Fr P X Z) (h1 : ¬ P 39 21) (h2 : ∀ j, ¬ P 51 j) : XM Z t len := ⟨h.1, (hf 39 21 h1).trans h.2.1, fun i hi => ⟨(hf 51 i (h2 i)).trans (h.2.2 i hi).1, (h.2.2 i hi).2⟩⟩
theorem c_skipBlanks {X : Sto} {t : Nat → Nat} {len a : Nat} (h : XC X t len) (ha : a ≤ len) (e2 : X.1 4 2 = nI a) : Ok (f_X3_skipBlanks_4 X) (fun Z => Fr (fun k j => k = 4 ∧ j = 2) X Z ∧ Z.1 4 2 = nI (runE bl t len a)) := by
  have hl := h.1
  unfold f_X3_skipBlanks_4
  rw [ok_bE0]
  refine lp_run bl t (fun b Z => Fr (fun k j => k = 4 ∧ j = 2) X Z ∧ Z.1 4 2 = nI b) hl ha ⟨Fr.rf, e2⟩ ?_ ?_
  · rintro b Z hb1 hb2 hp - ⟨hf, e⟩
    have hZ := h.fr hf (by omega) (by omega)
    have hc : t b = 32 := of_decide_eq_true hp
    unfold f_X3_skipBlanks_4_l0
    rw [hZ.2.1, e, if_neg (nI_ge hb2 (by omega)), inB_n (show b < 500 by omega) (by omega), gd_true, nI_clamp (show b < 2 ^ 31 by omega), (hZ.2.2 b hb2).1, hc, if_pos (show nI 32 = 32 from rfl), ok_bs, ok_some, nI_1]
    exact ⟨_, rfl, hf.su ⟨rfl, rfl⟩, by rw [su_at, if_pos ⟨rfl, rfl⟩]⟩
  · rintro Z ⟨hf, e⟩
    have hZ := h.fr hf (by omega) (by omega)
    have hle := runE_le (P := bl) (t := t) ha
    have hno := (runE_is bl t len a).2.2
    generalize runE bl t len a = b at *
    unfold f_X3_skipBlanks_4_l0
    rw [hZ.2.1, e]
    by_cases c : b < len
    · have hc : ¬ t b = 32 := fun q => hno ⟨c, decide_eq_true q⟩
      have := (hZ.2.2 b c).2
      rw [if_neg (nI_ge c (by omega)), inB_n (show b < 500 by omega) (by omega), gd_true, nI_clamp (show b < 2 ^ 31 by omega), (hZ.2.2 b c).1, if_neg (show ¬ nI (t b) = (32 : Int32) from fun q => hc ((nI_eq (b := 32) (by omega) (by omega)).mp q)), ok_some]
      exact ⟨_, rfl, ok_some.mpr ⟨hf, e⟩⟩
    · rw [if_pos (nI_le (by omega) (by omega)), ok_some]
      exact ⟨_, rfl, ok_some.mpr ⟨hf, e⟩⟩
theorem c_skipLetters {X : Sto} {t : Nat → Nat} {len a : Nat} (h : XC X t len) (ha : a ≤ len) (e2 : X.1 4 2 = nI a) : Ok (f_X3_skipLetters_4 X) (fun Z => Fr (fun k j => k = 4 ∧ j = 2) X Z ∧ Z.1 4 2 = nI (runE lt t len a)) := by
  have hl := h.1
  have e97 : (97 : Int32) = nI 97 := rfl
  have e122 : (122 : Int32) = nI 122 := rfl
  unfold f_X3_skipLetters_4
  rw [ok_bE0]
  refine lp_run lt t (fun b Z => Fr (fun k j => k = 4 ∧ j = 2) X Z ∧ Z.1 4 2 = nI b) hl ha ⟨Fr.rf, e2⟩ ?_ ?_
  · rintro b Z hb1 hb2 hp - ⟨hf, e⟩
    have hZ := h.fr hf (by omega) (by omega)
    have hc : 97 ≤ t b ∧ t b ≤ 122 := of_decide_eq_true hp
    unfold f_X3_skipLetters_4_l0
    rw [hZ.2.1, e, if_neg (nI_ge hb2 (by omega)), inB_n (show b < 500 by omega) (by omega), gd_true, gd_true, nI_clamp (show b < 2 ^ 31 by omega), (hZ.2.2 b hb2).1, e97, e122, if_neg (fun q => by have := (nI_ltI (by omega) (by omega)).mp q; omega), if_neg (fun q => by have := (nI_ltI (by omega) (by omega)).mp q; omega), ok_bs, ok_some, nI_1]
    exact ⟨_, rfl, hf.su ⟨rfl, rfl⟩, by rw [su_at, if_pos ⟨rfl, rfl⟩]⟩
  · rintro Z ⟨hf, e⟩
    have hZ := h.fr hf (by omega) (by omega)
    have hle := runE_le (P := lt) (t := t) ha
    have hno := (runE_is lt t len a).2.2
    generalize runE lt t len a = b at *
    unfold f_X3_skipLetters_4_l0
    rw [hZ.2.1, e]
    by_cases c : b < len
    · have hc : ¬ (97 ≤ t b ∧ t b ≤ 122) := fun q => hno ⟨c, decide_eq_true q⟩
      have h255 := (hZ.2.2 b c).2
      rw [if_neg (nI_ge c (by omega)), inB_n (show b < 500 by omega) (by omega), gd_true, gd_true, nI_clamp (show b < 2 ^ 31 by omega), (hZ.2.2 b c).1, e97, e122]
      by_cases c1 : t b < 97
      · rw [if_pos ((nI_ltI (by omega) (by omega)).mpr c1), ok_some]
        exact ⟨_, rfl, ok_some.mpr ⟨hf, e⟩⟩
      · rw [if_neg (fun q => c1 ((nI_ltI (by omega) (by omega)).mp q)), if_pos ((nI_ltI (by omega) (by omega)).mpr (by omega)), ok_some]
        exact ⟨_, rfl, ok_some.mpr ⟨hf, e⟩⟩
    · rw [if_pos (nI_le (by omega) (by omega)), ok_some]
      exact ⟨_, rfl, ok_some.mpr ⟨hf, e⟩⟩
/-- what the reference finds here -/
def hrV (t : Nat → Nat) (len b : Nat) : Int32 := if b < len then nI (t b) else -1
theorem m_here {Y : Sto} {t : Nat → Nat} {len a : Nat} (h : XM Y t len) (ha : a ≤ len) (e2 : Y.1 39 23 = nI a) : Ok (f_X8_here Y) (fun y => Fr (fun k j => k = 39 ∧ j = 23) Y y.1 ∧ y.1.1 39 23 = nI (runE bl t len a) ∧ y.2 = hrV t len (runE bl t len a)) := by
  have hl := h.1
  unfold f_X8_here f_X8_here_j62
  rw [ok_bE0]
  refine lp_run bl t (fun b Z => Fr (fun k j => k = 39 ∧ j = 23) Y Z ∧ Z.1 39 23 = nI b) hl ha ⟨Fr.rf, e2⟩ ?_ ?_
  · rintro b Z hb1 hb2 hp - ⟨hf, e⟩
    have hZ := h.fr hf (by omega) (by omega)
    have hc : t b = 32 := of_decide_eq_true hp
    unfold f_X8_here_l0
    rw [hZ.2.1, e, if_neg (nI_ge hb2 (by omega)), inB_n (show b < 500 by omega) (by omega), gd_true, nI_clamp (show b < 2 ^ 31 by omega), (hZ.2.2 b hb2).1, hc, if_pos (show nI 32 = 32 from rfl), ok_bs, ok_some, nI_1]
    exact ⟨_, rfl, hf.su ⟨rfl, rfl⟩, by rw [su_at, if_pos ⟨rfl, rfl⟩]⟩
  · rintro Z ⟨hf, e⟩
    have hZ := h.fr hf (by omega) (by omega)
    have hle := runE_le (P := bl) (t := t) ha
    have hno := (runE_is bl t len a).2.2
    generalize runE bl t len a = b at *
    unfold f_X8_here_l0 hrV
    rw [hZ.2.1, e]
    by_cases c : b < len
    · have hc : ¬ t b = 32 := fun q => hno ⟨c, decide_eq_true q⟩
      have := (hZ.2.2 b c).2
      rw [if_neg (nI_ge c (by omega)), inB_n (show b < 500 by omega) (by omega), gd_true, nI_clamp (show b < 2 ^ 31 by omega), (hZ.2.2 b c).1, if_neg (show ¬ nI (t b) = (32 : Int32) from fun q => hc ((nI_eq (b := 32) (by omega) (by omega)).mp q)), ok_some]
      refine ⟨_, rfl, ?_⟩
      rw [hZ.2.1, e, if_neg (nI_ge c (by omega)), inB_n (show b < 500 by omega) (by omega), gd_true, nI_clamp (show b < 2 ^ 31 by omega), (hZ.2.2 b c).1, if_pos c, ok_some]
      exact ⟨hf, e, rfl⟩
    · rw [if_pos (nI_le (by omega) (by omega)), ok_some]
      refine ⟨_, rfl, ?_⟩
      rw [hZ.2.1, e, if_pos (nI_le (by omega) (by omega)), if_neg c, ok_some]
      exact ⟨hf, e, rfl⟩
