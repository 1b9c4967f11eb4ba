/-! square: words, the reference's way -/
def sN (t : Nat → Nat) (p : Nat) : Nat → Nat
  | 0 => 0
  | k + 1 => if sN t p k ≤ 100000000000000 then 27 * sN t p k + (t (p + k) - 96) else 200000000000000
def Lets (t : Nat → Nat) (p k : Nat) : Prop := ∀ i, i < k → 97 ≤ t (p + i) ∧ t (p + i) ≤ 122
theorem sN_lt {t : Nat → Nat} {p : Nat} : ∀ k, k ≤ 9 → Lets t p k → sN t p k < 27 ^ k := by
  intro k
  induction k with
  | zero => intro _ _; exact Nat.lt_succ_self 0
  | succ k ih =>
    intro hk h
    have h1 := ih (by omega) (fun i q => h i (by omega))
    have h2 := h k (by omega)
    have h3 : 27 ^ k ≤ 27 ^ 8 := Nat.pow_le_pow_right (by omega) (by omega)
    show (if sN t p k ≤ 100000000000000 then 27 * sN t p k + (t (p + k) - 96) else 200000000000000) < 27 ^ (k + 1)
    rw [if_pos (by omega), Nat.pow_succ]
    omega
theorem sN_s {t : Nat → Nat} {p k : Nat} (hk : k ≤ 8) (h : Lets t p k) : sN t p (k + 1) = 27 * sN t p k + (t (p + k) - 96) := by
  have h1 := sN_lt k (by omega) h
  have h3 : 27 ^ k ≤ 27 ^ 8 := Nat.pow_le_pow_right (by omega) (by omega)
  exact if_pos (by omega)
theorem sN_max {t : Nat → Nat} {p : Nat} : ∀ k, Lets t p k → sN t p k ≤ 2700000000000026 := by
  intro k
  induction k with
  | zero => intro _; exact Nat.zero_le _
  | succ k ih =>
    intro h
    have h2 := h k (by omega)
    show (if sN t p k ≤ 100000000000000 then 27 * sN t p k + (t (p + k) - 96) else 200000000000000) ≤ _
    split <;> omega
theorem sN_big {t : Nat → Nat} {p : Nat} : ∀ k, Lets t p (k + 7) → 387420489 ≤ sN t p (k + 7) := by
  intro k
  induction k with
  | zero =>
    intro h
    have s1 := sN_s (t := t) (p := p) (k := 0) (by omega) (fun i q => h i (by omega))
    have s2 := sN_s (t := t) (p := p) (k := 1) (by omega) (fun i q => h i (by omega))
    have s3 := sN_s (t := t) (p := p) (k := 2) (by omega) (fun i q => h i (by omega))
    have s4 := sN_s (t := t) (p := p) (k := 3) (by omega) (fun i q => h i (by omega))
    have s5 := sN_s (t := t) (p := p) (k := 4) (by omega) (fun i q => h i (by omega))
    have s6 := sN_s (t := t) (p := p) (k := 5) (by omega) (fun i q => h i (by omega))
    have s7 := sN_s (t := t) (p := p) (k := 6) (by omega) (fun i q => h i (by omega))
    have h0 := h 0 (by omega)
    show 387420489 ≤ sN t p 7
    simp only [Nat.zero_add, Nat.reduceAdd] at *
    omega
  | succ k ih =>
    intro h
    have h1 := ih (fun i q => h i (by omega))
    show 387420489 ≤ (if sN t p (k + 7) ≤ 100000000000000 then 27 * sN t p (k + 7) + (t (p + (k + 7)) - 96) else 200000000000000)
    split <;> omega
theorem isW_0 {t : Nat → Nat} {p k : Nat} : isW t p (p + k) 0 = true ↔ k = 4 ∧ t (p + 0) = 121 ∧ t (p + 1) = 101 ∧ t (p + 2) = 97 ∧ t (p + 3) = 114 := by
  rw [isW_iff]
  constructor
  · rintro ⟨h1, h2⟩
    have e : wL 0 = 4 := rfl
    rw [e] at h1
    exact ⟨by omega, h2 0 (by decide), h2 1 (by decide), h2 2 (by decide), h2 3 (by decide)⟩
  · rintro ⟨h1, q0, q1, q2, q3⟩
    have e : wL 0 = 4 := rfl
    refine ⟨by rw [e]; omega, fun i hi => ?_⟩
    rw [e] at hi
    rcases (show i = 0 ∨ i = 1 ∨ i = 2 ∨ i = 3 by omega) with z | z | z | z
    · subst z; exact q0
    · subst z; exact q1
    · subst z; exact q2
    · subst z; exact q3
theorem isW_1 {t : Nat → Nat} {p k : Nat} : isW t p (p + k) 1 = true ↔ k = 4 ∧ t (p + 0) = 98 ∧ t (p + 1) = 101 ∧ t (p + 2) = 108 ∧ t (p + 3) = 108 := by
  rw [isW_iff]
  constructor
  · rintro ⟨h1, h2⟩
    have e : wL 1 = 4 := rfl
    rw [e] at h1
    exact ⟨by omega, h2 0 (by decide), h2 1 (by decide), h2 2 (by decide), h2 3 (by decide)⟩
  · rintro ⟨h1, q0, q1, q2, q3⟩
    have e : wL 1 = 4 := rfl
    refine ⟨by rw [e]; omega, fun i hi => ?_⟩
    rw [e] at hi
    rcases (show i = 0 ∨ i = 1 ∨ i = 2 ∨ i = 3 by omega) with z | z | z | z
    · subst z; exact q0
    · subst z; exact q1
    · subst z; exact q2
    · subst z; exact q3
theorem isW_2 {t : Nat → Nat} {p k : Nat} : isW t p (p + k) 2 = true ↔ k = 4 ∧ t (p + 0) = 115 ∧ t (p + 1) = 112 ∧ t (p + 2) = 111 ∧ t (p + 3) = 116 := by
  rw [isW_iff]
  constructor
  · rintro ⟨h1, h2⟩
    have e : wL 2 = 4 := rfl
    rw [e] at h1
    exact ⟨by omega, h2 0 (by decide), h2 1 (by decide), h2 2 (by decide), h2 3 (by decide)⟩
  · rintro ⟨h1, q0, q1, q2, q3⟩
    have e : wL 2 = 4 := rfl
    refine ⟨by rw [e]; omega, fun i hi => ?_⟩
    rw [e] at hi
    rcases (show i = 0 ∨ i = 1 ∨ i = 2 ∨ i = 3 by omega) with z | z | z | z
    · subst z; exact q0
    · subst z; exact q1
    · subst z; exact q2
    · subst z; exact q3
theorem isW_3 {t : Nat → Nat} {p k : Nat} : isW t p (p + k) 3 = true ↔ k = 6 ∧ t (p + 0) = 98 ∧ t (p + 1) = 101 ∧ t (p + 2) = 103 ∧ t (p + 3) = 103 ∧ t (p + 4) = 97 ∧ t (p + 5) = 114 := by
  rw [isW_iff]
  constructor
  · rintro ⟨h1, h2⟩
    have e : wL 3 = 6 := rfl
    rw [e] at h1
    exact ⟨by omega, h2 0 (by decide), h2 1 (by decide), h2 2 (by decide), h2 3 (by decide), h2 4 (by decide), h2 5 (by decide)⟩
  · rintro ⟨h1, q0, q1, q2, q3, q4, q5⟩
    have e : wL 3 = 6 := rfl
    refine ⟨by rw [e]; omega, fun i hi => ?_⟩
    rw [e] at hi
    rcases (show i = 0 ∨ i = 1 ∨ i = 2 ∨ i = 3 ∨ i = 4 ∨ i = 5 by omega) with z | z | z | z | z | z
    · subst z; exact q0
    · subst z; exact q1
    · subst z; exact q2
    · subst z; exact q3
    · subst z; exact q4
    · subst z; exact q5
theorem isW_4 {t : Nat → Nat} {p k : Nat} : isW t p (p + k) 4 = true ↔ k = 3 ∧ t (p + 0) = 104 ∧ t (p + 1) = 97 ∧ t (p + 2) = 116 := by
  rw [isW_iff]
  constructor
  · rintro ⟨h1, h2⟩
    have e : wL 4 = 3 := rfl
    rw [e] at h1
    exact ⟨by omega, h2 0 (by decide), h2 1 (by decide), h2 2 (by decide)⟩
  · rintro ⟨h1, q0, q1, q2⟩
    have e : wL 4 = 3 := rfl
    refine ⟨by rw [e]; omega, fun i hi => ?_⟩
    rw [e] at hi
    rcases (show i = 0 ∨ i = 1 ∨ i = 2 by omega) with z | z | z
    · subst z; exact q0
    · subst z; exact q1
    · subst z; exact q2
theorem sd_0 {t : Nat → Nat} {p k : Nat} (h : Lets t p k) : sN t p k = 495765 ↔ isW t p (p + k) 0 = true := by
  rw [isW_0]
  by_cases c : 7 ≤ k
  · obtain ⟨j, rfl⟩ : ∃ j, k = j + 7 := ⟨k - 7, by omega⟩
    have := sN_big j h
    omega
  · have z0 : sN t p 0 = 0 := rfl
    rcases (show k = 0 ∨ k = 1 ∨ k = 2 ∨ k = 3 ∨ k = 4 ∨ k = 5 ∨ k = 6 by omega) with z | z | z | z | z | z | z
    · subst z
      omega
    · subst z
      have s1 := sN_s (t := t) (p := p) (k := 0) (by omega) (fun i q => h i (by omega))
      have h0 := h 0 (by omega)
      simp only [Nat.zero_add, Nat.reduceAdd] at *
      omega
    · subst z
      have s1 := sN_s (t := t) (p := p) (k := 0) (by omega) (fun i q => h i (by omega))
      have h0 := h 0 (by omega)
      have s2 := sN_s (t := t) (p := p) (k := 1) (by omega) (fun i q => h i (by omega))
      have h1 := h 1 (by omega)
      simp only [Nat.zero_add, Nat.reduceAdd] at *
      omega
    · subst z
      have s1 := sN_s (t := t) (p := p) (k := 0) (by omega) (fun i q => h i (by omega))
      have h0 := h 0 (by omega)
      have s2 := sN_s (t := t) (p := p) (k := 1) (by omega) (fun i q => h i (by omega))
      have h1 := h 1 (by omega)
      have s3 := sN_s (t := t) (p := p) (k := 2) (by omega) (fun i q => h i (by omega))
      have h2 := h 2 (by omega)
      simp only [Nat.zero_add, Nat.reduceAdd] at *
      omega
    · subst z
      have s1 := sN_s (t := t) (p := p) (k := 0) (by omega) (fun i q => h i (by omega))
      have h0 := h 0 (by omega)
      have s2 := sN_s (t := t) (p := p) (k := 1) (by omega) (fun i q => h i (by omega))
      have h1 := h 1 (by omega)
      have s3 := sN_s (t := t) (p := p) (k := 2) (by omega) (fun i q => h i (by omega))
      have h2 := h 2 (by omega)
      have s4 := sN_s (t := t) (p := p) (k := 3) (by omega) (fun i q => h i (by omega))
      have h3 := h 3 (by omega)
      simp only [Nat.zero_add, Nat.reduceAdd] at *
      constructor
      · intro e
        exact ⟨by trivial, by omega, by omega, by omega, by omega⟩
      · rintro ⟨-, q0, q1, q2, q3⟩
        omega
    · subst z
      have s1 := sN_s (t := t) (p := p) (k := 0) (by omega) (fun i q => h i (by omega))
      have h0 := h 0 (by omega)
      have s2 := sN_s (t := t) (p := p) (k := 1) (by omega) (fun i q => h i (by omega))
      have h1 := h 1 (by omega)
      have s3 := sN_s (t := t) (p := p) (k := 2) (by omega) (fun i q => h i (by omega))
      have h2 := h 2 (by omega)
      have s4 := sN_s (t := t) (p := p) (k := 3) (by omega) (fun i q => h i (by omega))
      have h3 := h 3 (by omega)
      have s5 := sN_s (t := t) (p := p) (k := 4) (by omega) (fun i q => h i (by omega))
      have h4 := h 4 (by omega)
      simp only [Nat.zero_add, Nat.reduceAdd] at *
      omega
    · subst z
      have s1 := sN_s (t := t) (p := p) (k := 0) (by omega) (fun i q => h i (by omega))
      have h0 := h 0 (by omega)
      have s2 := sN_s (t := t) (p := p) (k := 1) (by omega) (fun i q => h i (by omega))
      have h1 := h 1 (by omega)
      have s3 := sN_s (t := t) (p := p) (k := 2) (by omega) (fun i q => h i (by omega))
      have h2 := h 2 (by omega)
      have s4 := sN_s (t := t) (p := p) (k := 3) (by omega) (fun i q => h i (by omega))
      have h3 := h 3 (by omega)
      have s5 := sN_s (t := t) (p := p) (k := 4) (by omega) (fun i q => h i (by omega))
      have h4 := h 4 (by omega)
      have s6 := sN_s (t := t) (p := p) (k := 5) (by omega) (fun i q => h i (by omega))
      have h5 := h 5 (by omega)
      simp only [Nat.zero_add, Nat.reduceAdd] at *
      omega
theorem sd_1 {t : Nat → Nat} {p k : Nat} (h : Lets t p k) : sN t p k = 43347 ↔ isW t p (p + k) 1 = true := by
  rw [isW_1]
  by_cases c : 7 ≤ k
  · obtain ⟨j, rfl⟩ : ∃ j, k = j + 7 := ⟨k - 7, by omega⟩
    have := sN_big j h
    omega
  · have z0 : sN t p 0 = 0 := rfl
    rcases (show k = 0 ∨ k = 1 ∨ k = 2 ∨ k = 3 ∨ k = 4 ∨ k = 5 ∨ k = 6 by omega) with z | z | z | z | z | z | z
    · subst z
      omega
    · subst z
      have s1 := sN_s (t := t) (p := p) (k := 0) (by omega) (fun i q => h i (by omega))
      have h0 := h 0 (by omega)
      simp only [Nat.zero_add, Nat.reduceAdd] at *
      omega
    · subst z
      have s1 := sN_s (t := t) (p := p) (k := 0) (by omega) (fun i q => h i (by omega))
      have h0 := h 0 (by omega)
      have s2 := sN_s (t := t) (p := p) (k := 1) (by omega) (fun i q => h i (by omega))
      have h1 := h 1 (by omega)
      simp only [Nat.zero_add, Nat.reduceAdd] at *
      omega
    · subst z
      have s1 := sN_s (t := t) (p := p) (k := 0) (by omega) (fun i q => h i (by omega))
      have h0 := h 0 (by omega)
      have s2 := sN_s (t := t) (p := p) (k := 1) (by omega) (fun i q => h i (by omega))
      have h1 := h 1 (by omega)
      have s3 := sN_s (t := t) (p := p) (k := 2) (by omega) (fun i q => h i (by omega))
      have h2 := h 2 (by omega)
      simp only [Nat.zero_add, Nat.reduceAdd] at *
      omega
    · subst z
      have s1 := sN_s (t := t) (p := p) (k := 0) (by omega) (fun i q => h i (by omega))
      have h0 := h 0 (by omega)
      have s2 := sN_s (t := t) (p := p) (k := 1) (by omega) (fun i q => h i (by omega))
      have h1 := h 1 (by omega)
      have s3 := sN_s (t := t) (p := p) (k := 2) (by omega) (fun i q => h i (by omega))
      have h2 := h 2 (by omega)
      have s4 := sN_s (t := t) (p := p) (k := 3) (by omega) (fun i q => h i (by omega))
      have h3 := h 3 (by omega)
      simp only [Nat.zero_add, Nat.reduceAdd] at *
      constructor
      · intro e
        exact ⟨by trivial, by omega, by omega, by omega, by omega⟩
      · rintro ⟨-, q0, q1, q2, q3⟩
        omega
    · subst z
      have s1 := sN_s (t := t) (p := p) (k := 0) (by omega) (fun i q => h i (by omega))
      have h0 := h 0 (by omega)
      have s2 := sN_s (t := t) (p := p) (k := 1) (by omega) (fun i q => h i (by omega))
      have h1 := h 1 (by omega)
      have s3 := sN_s (t := t) (p := p) (k := 2) (by omega) (fun i q => h i (by omega))
      have h2 := h 2 (by omega)
      have s4 := sN_s (t := t) (p := p) (k := 3) (by omega) (fun i q => h i (by omega))
      have h3 := h 3 (by omega)
      have s5 := sN_s (t := t) (p := p) (k := 4) (by omega) (fun i q => h i (by omega))
      have h4 := h 4 (by omega)
      simp only [Nat.zero_add, Nat.reduceAdd] at *
      omega
    · subst z
      have s1 := sN_s (t := t) (p := p) (k := 0) (by omega) (fun i q => h i (by omega))
      have h0 := h 0 (by omega)
      have s2 := sN_s (t := t) (p := p) (k := 1) (by omega) (fun i q => h i (by omega))
      have h1 := h 1 (by omega)
      have s3 := sN_s (t := t) (p := p) (k := 2) (by omega) (fun i q => h i (by omega))
      have h2 := h 2 (by omega)
      have s4 := sN_s (t := t) (p := p) (k := 3) (by omega) (fun i q => h i (by omega))
      have h3 := h 3 (by omega)
      have s5 := sN_s (t := t) (p := p) (k := 4) (by omega) (fun i q => h i (by omega))
      have h4 := h 4 (by omega)
      have s6 := sN_s (t := t) (p := p) (k := 5) (by omega) (fun i q => h i (by omega))
      have h5 := h 5 (by omega)
      simp only [Nat.zero_add, Nat.reduceAdd] at *
      omega
theorem sd_2 {t : Nat → Nat} {p k : Nat} (h : Lets t p k) : sN t p k = 386066 ↔ isW t p (p + k) 2 = true := by
  rw [isW_2]
  by_cases c : 7 ≤ k
  · obtain ⟨j, rfl⟩ : ∃ j, k = j + 7 := ⟨k - 7, by omega⟩
    have := sN_big j h
    omega
  · have z0 : sN t p 0 = 0 := rfl
    rcases (show k = 0 ∨ k = 1 ∨ k = 2 ∨ k = 3 ∨ k = 4 ∨ k = 5 ∨ k = 6 by omega) with z | z | z | z | z | z | z
    · subst z
      omega
    · subst z
      have s1 := sN_s (t := t) (p := p) (k := 0) (by omega) (fun i q => h i (by omega))
      have h0 := h 0 (by omega)
      simp only [Nat.zero_add, Nat.reduceAdd] at *
      omega
    · subst z
      have s1 := sN_s (t := t) (p := p) (k := 0) (by omega) (fun i q => h i (by omega))
      have h0 := h 0 (by omega)
      have s2 := sN_s (t := t) (p := p) (k := 1) (by omega) (fun i q => h i (by omega))
      have h1 := h 1 (by omega)
      simp only [Nat.zero_add, Nat.reduceAdd] at *
      omega
    · subst z
      have s1 := sN_s (t := t) (p := p) (k := 0) (by omega) (fun i q => h i (by omega))
      have h0 := h 0 (by omega)
      have s2 := sN_s (t := t) (p := p) (k := 1) (by omega) (fun i q => h i (by omega))
      have h1 := h 1 (by omega)
      have s3 := sN_s (t := t) (p := p) (k := 2) (by omega) (fun i q => h i (by omega))
      have h2 := h 2 (by omega)
      simp only [Nat.zero_add, Nat.reduceAdd] at *
      omega
    · subst z
      have s1 := sN_s (t := t) (p := p) (k := 0) (by omega) (fun i q => h i (by omega))
      have h0 := h 0 (by omega)
      have s2 := sN_s (t := t) (p := p) (k := 1) (by omega) (fun i q => h i (by omega))
      have h1 := h 1 (by omega)
      have s3 := sN_s (t := t) (p := p) (k := 2) (by omega) (fun i q => h i (by omega))
      have h2 := h 2 (by omega)
      have s4 := sN_s (t := t) (p := p) (k := 3) (by omega) (fun i q => h i (by omega))
      have h3 := h 3 (by omega)
      simp only [Nat.zero_add, Nat.reduceAdd] at *
      constructor
      · intro e
        exact ⟨by trivial, by omega, by omega, by omega, by omega⟩
      · rintro ⟨-, q0, q1, q2, q3⟩
        omega
    · subst z
      have s1 := sN_s (t := t) (p := p) (k := 0) (by omega) (fun i q => h i (by omega))
      have h0 := h 0 (by omega)
      have s2 := sN_s (t := t) (p := p) (k := 1) (by omega) (fun i q => h i (by omega))
      have h1 := h 1 (by omega)
      have s3 := sN_s (t := t) (p := p) (k := 2) (by omega) (fun i q => h i (by omega))
      have h2 := h 2 (by omega)
      have s4 := sN_s (t := t) (p := p) (k := 3) (by omega) (fun i q => h i (by omega))
      have h3 := h 3 (by omega)
      have s5 := sN_s (t := t) (p := p) (k := 4) (by omega) (fun i q => h i (by omega))
      have h4 := h 4 (by omega)
      simp only [Nat.zero_add, Nat.reduceAdd] at *
      omega
    · subst z
      have s1 := sN_s (t := t) (p := p) (k := 0) (by omega) (fun i q => h i (by omega))
      have h0 := h 0 (by omega)
      have s2 := sN_s (t := t) (p := p) (k := 1) (by omega) (fun i q => h i (by omega))
      have h1 := h 1 (by omega)
      have s3 := sN_s (t := t) (p := p) (k := 2) (by omega) (fun i q => h i (by omega))
      have h2 := h 2 (by omega)
      have s4 := sN_s (t := t) (p := p) (k := 3) (by omega) (fun i q => h i (by omega))
      have h3 := h 3 (by omega)
      have s5 := sN_s (t := t) (p := p) (k := 4) (by omega) (fun i q => h i (by omega))
      have h4 := h 4 (by omega)
      have s6 := sN_s (t := t) (p := p) (k := 5) (by omega) (fun i q => h i (by omega))
      have h5 := h 5 (by omega)
      simp only [Nat.zero_add, Nat.reduceAdd] at *
      omega
theorem sd_3 {t : Nat → Nat} {p k : Nat} (h : Lets t p k) : sN t p k = 31497948 ↔ isW t p (p + k) 3 = true := by
  rw [isW_3]
  by_cases c : 7 ≤ k
  · obtain ⟨j, rfl⟩ : ∃ j, k = j + 7 := ⟨k - 7, by omega⟩
    have := sN_big j h
    omega
  · have z0 : sN t p 0 = 0 := rfl
    rcases (show k = 0 ∨ k = 1 ∨ k = 2 ∨ k = 3 ∨ k = 4 ∨ k = 5 ∨ k = 6 by omega) with z | z | z | z | z | z | z
    · subst z
      omega
    · subst z
      have s1 := sN_s (t := t) (p := p) (k := 0) (by omega) (fun i q => h i (by omega))
      have h0 := h 0 (by omega)
      simp only [Nat.zero_add, Nat.reduceAdd] at *
      omega
    · subst z
      have s1 := sN_s (t := t) (p := p) (k := 0) (by omega) (fun i q => h i (by omega))
      have h0 := h 0 (by omega)
      have s2 := sN_s (t := t) (p := p) (k := 1) (by omega) (fun i q => h i (by omega))
      have h1 := h 1 (by omega)
      simp only [Nat.zero_add, Nat.reduceAdd] at *
      omega
    · subst z
      have s1 := sN_s (t := t) (p := p) (k := 0) (by omega) (fun i q => h i (by omega))
      have h0 := h 0 (by omega)
      have s2 := sN_s (t := t) (p := p) (k := 1) (by omega) (fun i q => h i (by omega))
      have h1 := h 1 (by omega)
      have s3 := sN_s (t := t) (p := p) (k := 2) (by omega) (fun i q => h i (by omega))
      have h2 := h 2 (by omega)
      simp only [Nat.zero_add, Nat.reduceAdd] at *
      omega
    · subst z
      have s1 := sN_s (t := t) (p := p) (k := 0) (by omega) (fun i q => h i (by omega))
      have h0 := h 0 (by omega)
      have s2 := sN_s (t := t) (p := p) (k := 1) (by omega) (fun i q => h i (by omega))
      have h1 := h 1 (by omega)
      have s3 := sN_s (t := t) (p := p) (k := 2) (by omega) (fun i q => h i (by omega))
      have h2 := h 2 (by omega)
      have s4 := sN_s (t := t) (p := p) (k := 3) (by omega) (fun i q => h i (by omega))
      have h3 := h 3 (by omega)
      simp only [Nat.zero_add, Nat.reduceAdd] at *
      omega
    · subst z
      have s1 := sN_s (t := t) (p := p) (k := 0) (by omega) (fun i q => h i (by omega))
      have h0 := h 0 (by omega)
      have s2 := sN_s (t := t) (p := p) (k := 1) (by omega) (fun i q => h i (by omega))
      have h1 := h 1 (by omega)
      have s3 := sN_s (t := t) (p := p) (k := 2) (by omega) (fun i q => h i (by omega))
      have h2 := h 2 (by omega)
      have s4 := sN_s (t := t) (p := p) (k := 3) (by omega) (fun i q => h i (by omega))
      have h3 := h 3 (by omega)
      have s5 := sN_s (t := t) (p := p) (k := 4) (by omega) (fun i q => h i (by omega))
      have h4 := h 4 (by omega)
      simp only [Nat.zero_add, Nat.reduceAdd] at *
      omega
    · subst z
      have s1 := sN_s (t := t) (p := p) (k := 0) (by omega) (fun i q => h i (by omega))
      have h0 := h 0 (by omega)
      have s2 := sN_s (t := t) (p := p) (k := 1) (by omega) (fun i q => h i (by omega))
      have h1 := h 1 (by omega)
      have s3 := sN_s (t := t) (p := p) (k := 2) (by omega) (fun i q => h i (by omega))
      have h2 := h 2 (by omega)
      have s4 := sN_s (t := t) (p := p) (k := 3) (by omega) (fun i q => h i (by omega))
      have h3 := h 3 (by omega)
      have s5 := sN_s (t := t) (p := p) (k := 4) (by omega) (fun i q => h i (by omega))
      have h4 := h 4 (by omega)
      have s6 := sN_s (t := t) (p := p) (k := 5) (by omega) (fun i q => h i (by omega))
      have h5 := h 5 (by omega)
      simp only [Nat.zero_add, Nat.reduceAdd] at *
      constructor
      · intro e
        exact ⟨by trivial, by omega, by omega, by omega, by omega, by omega, by omega⟩
      · rintro ⟨-, q0, q1, q2, q3, q4, q5⟩
        omega
theorem sd_4 {t : Nat → Nat} {p k : Nat} (h : Lets t p k) : sN t p k = 5879 ↔ isW t p (p + k) 4 = true := by
  rw [isW_4]
  by_cases c : 7 ≤ k
  · obtain ⟨j, rfl⟩ : ∃ j, k = j + 7 := ⟨k - 7, by omega⟩
    have := sN_big j h
    omega
  · have z0 : sN t p 0 = 0 := rfl
    rcases (show k = 0 ∨ k = 1 ∨ k = 2 ∨ k = 3 ∨ k = 4 ∨ k = 5 ∨ k = 6 by omega) with z | z | z | z | z | z | z
    · subst z
      omega
    · subst z
      have s1 := sN_s (t := t) (p := p) (k := 0) (by omega) (fun i q => h i (by omega))
      have h0 := h 0 (by omega)
      simp only [Nat.zero_add, Nat.reduceAdd] at *
      omega
    · subst z
      have s1 := sN_s (t := t) (p := p) (k := 0) (by omega) (fun i q => h i (by omega))
      have h0 := h 0 (by omega)
      have s2 := sN_s (t := t) (p := p) (k := 1) (by omega) (fun i q => h i (by omega))
      have h1 := h 1 (by omega)
      simp only [Nat.zero_add, Nat.reduceAdd] at *
      omega
    · subst z
      have s1 := sN_s (t := t) (p := p) (k := 0) (by omega) (fun i q => h i (by omega))
      have h0 := h 0 (by omega)
      have s2 := sN_s (t := t) (p := p) (k := 1) (by omega) (fun i q => h i (by omega))
      have h1 := h 1 (by omega)
      have s3 := sN_s (t := t) (p := p) (k := 2) (by omega) (fun i q => h i (by omega))
      have h2 := h 2 (by omega)
      simp only [Nat.zero_add, Nat.reduceAdd] at *
      constructor
      · intro e
        exact ⟨by trivial, by omega, by omega, by omega⟩
      · rintro ⟨-, q0, q1, q2⟩
        omega
    · subst z
      have s1 := sN_s (t := t) (p := p) (k := 0) (by omega) (fun i q => h i (by omega))
      have h0 := h 0 (by omega)
      have s2 := sN_s (t := t) (p := p) (k := 1) (by omega) (fun i q => h i (by omega))
      have h1 := h 1 (by omega)
      have s3 := sN_s (t := t) (p := p) (k := 2) (by omega) (fun i q => h i (by omega))
      have h2 := h 2 (by omega)
      have s4 := sN_s (t := t) (p := p) (k := 3) (by omega) (fun i q => h i (by omega))
      have h3 := h 3 (by omega)
      simp only [Nat.zero_add, Nat.reduceAdd] at *
      omega
    · subst z
      have s1 := sN_s (t := t) (p := p) (k := 0) (by omega) (fun i q => h i (by omega))
      have h0 := h 0 (by omega)
      have s2 := sN_s (t := t) (p := p) (k := 1) (by omega) (fun i q => h i (by omega))
      have h1 := h 1 (by omega)
      have s3 := sN_s (t := t) (p := p) (k := 2) (by omega) (fun i q => h i (by omega))
      have h2 := h 2 (by omega)
      have s4 := sN_s (t := t) (p := p) (k := 3) (by omega) (fun i q => h i (by omega))
      have h3 := h 3 (by omega)
      have s5 := sN_s (t := t) (p := p) (k := 4) (by omega) (fun i q => h i (by omega))
      have h4 := h 4 (by omega)
      simp only [Nat.zero_add, Nat.reduceAdd] at *
      omega
    · subst z
      have s1 := sN_s (t := t) (p := p) (k := 0) (by omega) (fun i q => h i (by omega))
      have h0 := h 0 (by omega)
      have s2 := sN_s (t := t) (p := p) (k := 1) (by omega) (fun i q => h i (by omega))
      have h1 := h 1 (by omega)
      have s3 := sN_s (t := t) (p := p) (k := 2) (by omega) (fun i q => h i (by omega))
      have h2 := h 2 (by omega)
      have s4 := sN_s (t := t) (p := p) (k := 3) (by omega) (fun i q => h i (by omega))
      have h3 := h 3 (by omega)
      have s5 := sN_s (t := t) (p := p) (k := 4) (by omega) (fun i q => h i (by omega))
      have h4 := h 4 (by omega)
      have s6 := sN_s (t := t) (p := p) (k := 5) (by omega) (fun i q => h i (by omega))
      have h5 := h 5 (by omega)
      simp only [Nat.zero_add, Nat.reduceAdd] at *
      omega
def sdN (t : Nat → Nat) (p : Nat) : Nat → Int64 := fun k => lN (sN t p k)
theorem lg_le_n {a : Nat} (ha : a ≤ 2700000000000026) : lg_cmp (lN a) (100000000000000 : Int64) ≤ 0 ↔ a ≤ 100000000000000 := by
  have e : (100000000000000 : Int64) = lN 100000000000000 := rfl
  have h1 := lg_gt (x := lN a) (y := lN 100000000000000)
  have h2 : lN 100000000000000 < lN a ↔ 100000000000000 < a := by
    rw [Int64.lt_iff_toInt_lt, l_toInt (by omega), l_toInt (by omega)]
    omega
  rw [h2] at h1
  rw [e]
  constructor
  · intro q
    by_cases c : a ≤ 100000000000000
    · exact c
    · have := i_lt.mp (h1.mpr (by omega))
      have := i_le.mp q
      omega
  · intro q
    by_cases c : 0 < lg_cmp (lN a) (lN 100000000000000)
    · have := h1.mp c
      omega
    · exact i_le.mpr (i_nlt.mp c)
theorem m_readWord {Y : Sto} {t : Nat → Nat} {len p : Nat} (h : XM Y t len) (hp0 : p < len) (hnb : ¬ t p = 32) (e2 : Y.1 39 23 = nI p) : Ok (f_X8_readWord Y) (fun Z => Fr (fun k j => k = 39 ∧ (j = 23 ∨ j = 25)) Y Z ∧ Z.1 39 23 = nI p ∧ Z.1 39 25 = nI (runE lt t len p) ∧ Z.2 39 = lN (sN t p (runE lt t len p - p))) := by
  have hl := h.1
  have hself : runE bl t len p = p := runE_self (fun q => hnb (of_decide_eq_true q.2))
  have e27 : (27 : Int64) = lN 27 := rfl
  have e96 : (96 : Int64) = lN 96 := rfl
  unfold f_X8_readWord
  rw [ok_bd2]
  refine ok_mono (m_here h (by omega) e2) (fun y hy => ?_)
  obtain ⟨Y1, v⟩ := y
  obtain ⟨hf1, ep, ev⟩ := hy
  dsimp only at hf1 ep ev ⊢
  rw [hself] at ep
  have h1 := h.fr hf1 (by omega) (by omega)
  rw [ok_bs, ok_bs, ok_bs, ok_bE0]
  have e23 : (sl Y1 39 0).1 39 23 = nI p := ep
  rw [e23]
  have hfW : Fr (fun k j => k = 39 ∧ (j = 23 ∨ j = 25)) Y (su (sl Y1 39 0) 39 25 (nI p)) := ((hf1.mono (fun k j q => by omega)).sl).su (by omega)
  generalize hW : su (sl Y1 39 0) 39 25 (nI p) = W at hfW
  have w25 : W.1 39 25 = nI p := by rw [← hW, su_at, if_pos ⟨rfl, rfl⟩]
  have w23 : W.1 39 23 = nI p := by rw [← hW, su_at, if_neg (by omega)]; exact ep
  have w2 : W.2 39 = lN (sN t p (p - p)) := by rw [← hW, su_2, sl_2, if_pos rfl, Nat.sub_self]; rfl
  have hXW := h.fr hfW (by omega) (by omega)
  refine lp_run lt t (fun b Z => Fr (fun k j => k = 39 ∧ j = 25) W Z ∧ Z.1 39 25 = nI b ∧ Z.2 39 = lN (sN t p (b - p))) hl (show p ≤ len by omega) ⟨Fr.rf, w25, w2⟩ ?_ ?_
  · rintro b Z hb1 hb2 hp hpre ⟨hf, e, es⟩
    have hZ := hXW.fr hf (by omega) (by omega)
    have hc : 97 ≤ t b ∧ t b ≤ 122 := of_decide_eq_true hp
    have hin : f_X8_in Z (nI (t b)).toInt64 (97 : Int64) (122 : Int64) = some (Z, bB true) := by
      rw [m_inI Z (nI (t b)) _ _ (li := (97 : Nat)) (hi := (122 : Nat)) (by decide) (by decide), rgB_nI (by omega), decide_eq_true hc]
    have hlet : Lets t p (b - p) := fun i hi => of_decide_eq_true (hpre (p + i) (by omega) (by omega))
    have hmx := sN_max (b - p) hlet
    have hs : sN t p (b + 1 - p) = if sN t p (b - p) ≤ 100000000000000 then 27 * sN t p (b - p) + (t b - 96) else 200000000000000 := by
      rw [show b + 1 - p = (b - p) + 1 by omega]
      show (if sN t p (b - p) ≤ 100000000000000 then 27 * sN t p (b - p) + (t (p + (b - p)) - 96) else 200000000000000) = _
      rw [show p + (b - p) = b by omega]
    unfold f_X8_readWord_l18 f_X8_readWord_j92
    rw [hZ.2.1, e, if_neg (nI_ge hb2 (by omega)), inB_n (show b < 500 by omega) (by omega), gd_true, nI_clamp (show b < 2 ^ 31 by omega), (hZ.2.2 b hb2).1, hin, bd2_eq, if_neg (show ¬ bB true = 0 by decide), e, inB_n (show b < 500 by omega) (by omega), gd_true, nI_clamp (show b < 2 ^ 31 by omega), (hZ.2.2 b hb2).1, es]
    by_cases c : sN t p (b - p) ≤ 100000000000000
    · rw [if_pos ((lg_le_n hmx).mpr c), ok_bs, ok_bs, ok_some]
      refine ⟨_, rfl, (hf.sl).su (by omega), ?_, ?_⟩
      · rw [su_at, if_pos ⟨rfl, rfl⟩, sl_at, e, nI_1]
      · rw [su_2, sl_2, if_pos rfl, hs, if_pos c, l_nI (by omega), e27, e96, lN_mul, lN_add, lN_sub (by omega)]
        congr 1
        omega
    · rw [if_neg (fun q => c ((lg_le_n hmx).mp q)), ok_bs, ok_bs, ok_some]
      refine ⟨_, rfl, (hf.sl).su (by omega), ?_, ?_⟩
      · rw [su_at, if_pos ⟨rfl, rfl⟩, sl_at, e, nI_1]
      · rw [su_2, sl_2, if_pos rfl, hs, if_neg c]
        rfl
  · rintro Z ⟨hf, e, es⟩
    have hZ := hXW.fr hf (by omega) (by omega)
    have hle := runE_le (P := lt) (t := t) (show p ≤ len by omega)
    have hno := (runE_is lt t len p).2.2
    have fin : Ok (some Z) (fun Z => Fr (fun k j => k = 39 ∧ (j = 23 ∨ j = 25)) Y Z ∧ Z.1 39 23 = nI p ∧ Z.1 39 25 = nI (runE lt t len p) ∧ Z.2 39 = lN (sN t p (runE lt t len p - p))) := ok_some.mpr ⟨hfW.tr (hf.mono (fun k j q => by omega)), (hf 39 23 (by omega)).trans w23, e, es⟩
    generalize runE lt t len p = b at *
    unfold f_X8_readWord_l18
    rw [hZ.2.1, e]
    by_cases c : b < len
    · have hc : ¬ (97 ≤ t b ∧ t b ≤ 122) := fun q => hno ⟨c, decide_eq_true q⟩
      have h255 := (hZ.2.2 b c).2
      have hin : f_X8_in Z (nI (t b)).toInt64 (97 : Int64) (122 : Int64) = some (Z, bB false) := by
        rw [m_inI Z (nI (t b)) _ _ (li := (97 : Nat)) (hi := (122 : Nat)) (by decide) (by decide), rgB_nI (by omega), decide_eq_false hc]
      rw [if_neg (nI_ge c (by omega)), inB_n (show b < 500 by omega) (by omega), gd_true, nI_clamp (show b < 2 ^ 31 by omega), (hZ.2.2 b c).1, hin, bd2_eq, if_pos (show bB false = 0 by rfl), ok_some]
      exact ⟨_, rfl, fin⟩
    · rw [if_pos (nI_le (by omega) (by omega)), ok_some]
      exact ⟨_, rfl, fin⟩
theorem lg_0 {x y : Int64} : lg_cmp x y = 0 ↔ x = y := by
  unfold lg_cmp
  by_cases h : x > y
  · rw [if_pos h]
    refine ⟨fun q => absurd q (by decide), fun q => ?_⟩
    subst q
    have h1 := Int64.lt_iff_toInt_lt.mp h
    omega
  · rw [if_neg h]
    by_cases e : x = y
    · rw [if_pos e]
      exact ⟨fun _ => e, fun _ => rfl⟩
    · rw [if_neg e]
      exact ⟨fun q => absurd q (by decide), fun q => absurd q e⟩
theorem lg_n {a b : Nat} (ha : a < 2 ^ 63) (hb : b < 2 ^ 63) : lg_cmp (lN a) (lN b) = 0 ↔ a = b := by
  rw [lg_0]
  constructor
  · intro q
    have := congrArg Int64.toInt q
    rw [l_toInt ha, l_toInt hb] at this
    omega
  · intro q
    rw [q]
/-- the reference's kind of a word -/
theorem m_kind {σ : Sto} {t : Nat → Nat} {p k : Nat} (h : Lets t p k) (e : σ.2 39 = lN (sN t p k)) : ∀ {β : Type} (f : Sto → Int32 → Option β), (if (lg_cmp (σ.2 39) (lN 495765)) = 0 then f σ 0 else if (lg_cmp (σ.2 39) (lN 43347)) = 0 then f σ 1 else if (lg_cmp (σ.2 39) (lN 386066)) = 0 then f σ 2 else if (lg_cmp (σ.2 39) (lN 31497948)) = 0 then f σ 3 else if (lg_cmp (σ.2 39) (lN 5879)) = 0 then f σ 4 else f σ (-1)) = f σ (kdI (kdS t p (p + k))) := by
  intro β f
  have hm := sN_max k h
  have g : ∀ (a b : Option β) (C : Nat) (w : Nat), C < 2 ^ 63 → (sN t p k = C ↔ isW t p (p + k) w = true) → (if (lg_cmp (σ.2 39) (lN C)) = 0 then a else b) = if isW t p (p + k) w = true then a else b := by
    intro a b C w hC hi
    rw [e]
    by_cases c : isW t p (p + k) w = true
    · rw [if_pos c, if_pos ((lg_n (by omega) hC).mpr (hi.mpr c))]
    · rw [if_neg c, if_neg (fun q => c (hi.mp ((lg_n (by omega) hC).mp q)))]
  rw [g _ _ _ 0 (by omega) (sd_0 h), g _ _ _ 1 (by omega) (sd_1 h), g _ _ _ 2 (by omega) (sd_2 h), g _ _ _ 3 (by omega) (sd_3 h), g _ _ _ 4 (by omega) (sd_4 h)]
  unfold kdS
  by_cases c0 : isW t p (p + k) 0 = true
  · rw [if_pos c0, if_pos c0]; rfl
  · rw [if_neg c0, if_neg c0]
    by_cases c1 : isW t p (p + k) 1 = true
    · rw [if_pos c1, if_pos c1]; rfl
    · rw [if_neg c1, if_neg c1]
      by_cases c2 : isW t p (p + k) 2 = true
      · rw [if_pos c2, if_pos c2]; rfl
      · rw [if_neg c2, if_neg c2]
        by_cases c3 : isW t p (p + k) 3 = true
        · rw [if_pos c3, if_pos c3]; rfl
        · rw [if_neg c3, if_neg c3]
          by_cases c4 : isW t p (p + k) 4 = true
          · rw [if_pos c4, if_pos c4]; rfl
          · rw [if_neg c4, if_neg c4]; rfl
