/-! square: words -/
def kChr : List (List Nat) := [[121, 101, 97, 114], [98, 101, 108, 108], [115, 112, 111, 116], [98, 101, 103, 103, 97, 114], [104, 97, 116]]
def wC (w i : Nat) : Nat := (kChr.getD w []).getD i 0
def wL (w : Nat) : Nat := kLen.getD w 0
theorem sChr_w : ∀ w, w < 5 → ∀ i, i < 6 → i < wL w → sChr w (nI i) = nI (wC w i) := by decide +kernel
theorem wC_le : ∀ w, w < 5 → ∀ i, i < 6 → wC w i ≤ 255 := by decide +kernel
theorem wL_le : ∀ w, w < 5 → wL w ≤ 6 := by decide +kernel
def isW (t : Nat → Nat) (p e w : Nat) : Bool := decide (e = p + wL w ∧ ∀ i, i < wL w → t (p + i) = wC w i)
theorem isW_iff {t : Nat → Nat} {p e w : Nat} : isW t p e w = true ↔ e = p + wL w ∧ ∀ i, i < wL w → t (p + i) = wC w i := by unfold isW; rw [decide_eq_true_iff]
theorem isW_no {t : Nat → Nat} {p e w : Nat} (h : ¬ (e = p + wL w ∧ ∀ i, i < wL w → t (p + i) = wC w i)) : isW t p e w = false := by
  cases e2 : isW t p e w with
  | false => rfl
  | true => exact absurd (isW_iff.mp e2) h
def kdS (t : Nat → Nat) (p e : Nat) : Nat := if isW t p e 0 = true then 0 else if isW t p e 1 = true then 1 else if isW t p e 2 = true then 2 else if isW t p e 3 = true then 3 else if isW t p e 4 = true then 4 else 5
def kdI (k : Nat) : Int32 := if k < 5 then nI k else -1
theorem kdS_le (t : Nat → Nat) (p e : Nat) : kdS t p e ≤ 5 := by
  unfold kdS
  split
  · omega
  · split
    · omega
    · split
      · omega
      · split
        · omega
        · split <;> omega
theorem kdS_at {t : Nat → Nat} {p e : Nat} : ∀ k, k < 5 → isW t p e k = true → (∀ j, j < k → isW t p e j = false) → kdS t p e = k := by
  intro k hk h1 h2
  have no : ∀ j, j < k → ¬ isW t p e j = true := fun j hj q => by rw [h2 j hj] at q; cases q
  unfold kdS
  rcases (show k = 0 ∨ k = 1 ∨ k = 2 ∨ k = 3 ∨ k = 4 by omega) with e | e | e | e | e
  · subst e; rw [if_pos h1]
  · subst e; rw [if_neg (no 0 (by omega)), if_pos h1]
  · subst e; rw [if_neg (no 0 (by omega)), if_neg (no 1 (by omega)), if_pos h1]
  · subst e; rw [if_neg (no 0 (by omega)), if_neg (no 1 (by omega)), if_neg (no 2 (by omega)), if_pos h1]
  · subst e; rw [if_neg (no 0 (by omega)), if_neg (no 1 (by omega)), if_neg (no 2 (by omega)), if_neg (no 3 (by omega)), if_pos h1]
theorem kdS_5 {t : Nat → Nat} {p e : Nat} (h2 : ∀ j, j < 5 → isW t p e j = false) : kdS t p e = 5 := by
  have no : ∀ j, j < 5 → ¬ isW t p e j = true := fun j hj q => by rw [h2 j hj] at q; cases q
  unfold kdS
  rw [if_neg (no 0 (by omega)), if_neg (no 1 (by omega)), if_neg (no 2 (by omega)), if_neg (no 3 (by omega)), if_neg (no 4 (by omega))]
theorem c_isWord {X : Sto} {t : Nat → Nat} {len p e w : Nat} (h : XC X t len) (hp : p ≤ e) (he : e ≤ len) (hw : w < 5) : Ok (f_X3_isWord_4 X w (nI p) (nI e)) (fun y => y = (X, bB (isW t p e w))) := by
  have hl := h.1
  have hL := wL_le w hw
  have eL : sLen w = nI (wL w) := rfl
  have z0 : zB (0 : Int32) = true := by decide
  have z1 : zB (1 : Int32) = true := by decide
  unfold f_X3_isWord_4
  rw [decide_eq_true hw, gd_true, pk_sub hp, eL, z0, z1]
  simp only [gd_true, bsN]
  by_cases c : e - p = wL w
  · rw [if_pos (by rw [c]), ok_bR1]
    refine lp_for (fun i x => x = (X, nI (p + i)) ∧ ∀ j, j < i → t (p + j) = wC w j) (wL w) (FU_big (by omega)) ⟨rfl, fun j q => absurd q (Nat.not_lt_zero j)⟩ ?_ ?_
    · rintro i x hi ⟨rfl, hm⟩
      dsimp only
      have ek : inB (nI i) (kLen.getD w 0) = true := inB_n (show i < wL w from hi) (show wL w < 2 ^ 31 by omega)
      have hb := (h.2.2 (p + i) (by omega)).2
      have hcw := wC_le w hw i (by omega)
      unfold f_X3_isWord_4_l15
      rw [if_neg (nI_ge (show p + i < e by omega) (by omega)), inB_n (show p + i < 500 by omega) (by omega), gd_true, decide_eq_true hw, gd_true, pk_sub (show p ≤ p + i by omega), show p + i - p = i by omega, ek, gd_true, nI_clamp (show p + i < 2 ^ 31 by omega), (h.2.2 (p + i) (by omega)).1, sChr_w w hw i (by omega) hi, z0, gd_true]
      by_cases q : t (p + i) = wC w i
      · rw [if_pos (by rw [q]), ok_bs, ok_some, nI_1]
        refine Or.inl ⟨_, rfl, rfl, fun j hj => ?_⟩
        by_cases q2 : j = i
        · subst q2; exact q
        · exact hm j (by omega)
      · rw [if_neg (fun z => q ((nI_eq (by omega) (by omega)).mp z)), ok_some]
        refine Or.inr ⟨_, rfl, fun u hu => ?_, fun z hz => (by cases hz)⟩
        cases hu
        rw [isW_no (fun z => q (z.2 i hi)), ok_some]
        rfl
    · rintro x ⟨rfl, hm⟩
      dsimp only
      unfold f_X3_isWord_4_l15
      rw [if_pos (nI_le (show e ≤ p + wL w by omega) (by omega)), ok_some]
      refine ⟨_, rfl, fun u hu => (by cases hu), fun z hz => ?_⟩
      cases hz
      rw [isW_iff.mpr ⟨by omega, hm⟩, ok_some]
      rfl
  · rw [if_neg (fun z => c ((nI_eq (by omega) (by omega)).mp z)), isW_no (fun z => c (by omega)), ok_some]
    rfl
theorem c_wordOf (σ : Sto) : ∀ i, i < 5 → f_X3_wordOf σ (nI i) = some (σ, i) := by
  intro i hi
  rcases (show i = 0 ∨ i = 1 ∨ i = 2 ∨ i = 3 ∨ i = 4 by omega) with e | e | e | e | e <;> subst e <;> rfl
theorem c_kindOfWord {X : Sto} {t : Nat → Nat} {len p e : Nat} (h : XC X t len) (hp : p ≤ e) (he : e ≤ len) : Ok (f_X3_kindOfWord_4 X (nI p) (nI e)) (fun y => y = (X, kdI (kdS t p e))) := by
  have e5 : (5 : Int32) = nI 5 := rfl
  unfold f_X3_kindOfWord_4
  rw [ok_bs, ok_bR1]
  refine lp_for (fun i x => x = (X, nI i) ∧ ∀ j, j < i → isW t p e j = false) 5 (FU_big (by omega)) ⟨rfl, fun j q => absurd q (Nat.not_lt_zero j)⟩ ?_ ?_
  · rintro i x hi ⟨rfl, hm⟩
    dsimp only
    unfold f_X3_kindOfWord_4_l2
    rw [e5, if_neg (nI_ge hi (by omega)), c_wordOf X i hi, bd2_eq, ok_bd2]
    refine ok_mono (c_isWord h hp he hi) (fun y hy => ?_)
    subst hy
    dsimp only
    rw [bB_if]
    by_cases q : isW t p e i = true
    · rw [if_pos q, ok_some]
      refine Or.inr ⟨_, rfl, fun u hu => ?_, fun z hz => (by cases hz)⟩
      cases hu
      rw [ok_some, kdS_at i hi q hm]
      show (X, nI i) = (X, kdI i)
      rw [show kdI i = nI i from if_pos hi]
    · rw [if_neg q, ok_bs, ok_some, nI_1]
      refine Or.inl ⟨_, rfl, rfl, fun j hj => ?_⟩
      by_cases q2 : j = i
      · subst q2
        cases z : isW t p e j with
        | false => rfl
        | true => exact absurd z q
      · exact hm j (by omega)
  · rintro x ⟨rfl, hm⟩
    dsimp only
    unfold f_X3_kindOfWord_4_l2
    rw [e5, if_pos (nI_le (Nat.le_refl 5) (by omega)), ok_some]
    refine ⟨_, rfl, fun u hu => (by cases hu), fun z hz => ?_⟩
    cases hz
    rw [kdS_5 hm, ok_some]
    rfl
