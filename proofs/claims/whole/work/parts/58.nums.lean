/-! square: the numbers of a clause, its spec, the class's way -/
def mstK (k : Nat) : Nat := ([1, 4, 6, 6, 4] : List Nat).getD k 0
def numK (k : Nat) : Nat := ([1, 2, 3, 1, 2] : List Nat).getD k 0
def loK (k i : Nat) : Nat := ([1, 0, 0, 0, 0, 0, 0, 0, 0, 1, 0, 0, 1, 0, 0] : List Nat).getD (k * 3 + i) 0
def hiK (k i : Nat) : Nat := ([60, 0, 0, 99, 9, 0, 20, 9, 200, 90, 0, 0, 20, 50, 0] : List Nat).getD (k * 3 + i) 0
theorem tb_0 : ∀ k, k < 5 → (sTb 0).getD k 0 = nI (mstK k) := by decide +kernel
theorem tb_1 : ∀ k, k < 5 → (sTb 1).getD k 0 = nI (numK k) := by decide +kernel
theorem tb_2 : ∀ k, k < 5 → ∀ i, i < 3 → (sTb 2).getD (k * 3 + i) 0 = nI (loK k i) := by decide +kernel
theorem tb_3 : ∀ k, k < 5 → ∀ i, i < 3 → (sTb 3).getD (k * 3 + i) 0 = nI (hiK k i) := by decide +kernel
theorem mst_le : ∀ k, k < 5 → mstK k ≤ 6 ∧ 1 ≤ numK k ∧ numK k ≤ 3 := by decide +kernel
theorem lohi_le : ∀ k, k < 5 → ∀ i, i < 3 → loK k i ≤ 1000 ∧ hiK k i ≤ 1000 := by decide +kernel
def atS (t : Nat → Nat) (len a : Nat) : Nat → Nat
  | 0 => a
  | i + 1 => nmB t len (atS t len a i)
theorem atS_rg {t : Nat → Nat} {len a : Nat} (ha : a ≤ len) : ∀ i, a ≤ atS t len a i ∧ atS t len a i ≤ len := by
  intro i
  induction i with
  | zero => exact ⟨Nat.le_refl a, ha⟩
  | succ i ih =>
    have h := nmB_rg (t := t) ih.2
    exact ⟨by show a ≤ nmB t len (atS t len a i); omega, h.2.2⟩
def fF (t : Nat → Nat) (len k a : Nat) : Nat → Option (Nat × Nat)
  | 0 => none
  | i + 1 => match fF t len k a i with
    | some f => some f
    | none => if nmK t len (atS t len a i) (loK k i) (hiK k i) = 0 then none else some (nmK t len (atS t len a i) (loK k i) (hiK k i), nmP t len (atS t len a i))
theorem fF_s {t : Nat → Nat} {len k a i : Nat} {f : Nat × Nat} (h : fF t len k a i = some f) : fF t len k a (i + 1) = some f := by
  show (match fF t len k a i with | some f => some f | none => _) = some f
  rw [h]
theorem fF_n {t : Nat → Nat} {len k a i : Nat} (h : fF t len k a i = none) : fF t len k a (i + 1) = if nmK t len (atS t len a i) (loK k i) (hiK k i) = 0 then none else some (nmK t len (atS t len a i) (loK k i) (hiK k i), nmP t len (atS t len a i)) := by
  show (match fF t len k a i with | some f => some f | none => _) = _
  rw [h]
theorem fF_up {t : Nat → Nat} {len k a i : Nat} {f : Nat × Nat} (h : fF t len k a i = some f) : ∀ m, fF t len k a (i + m) = some f := by
  intro m
  induction m with
  | zero => exact h
  | succ m ih => exact fF_s ih
theorem fF_nz {t : Nat → Nat} {len k a : Nat} : ∀ i f, fF t len k a i = some f → 1 ≤ f.1 ∧ f.1 ≤ 2 := by
  intro i
  induction i with
  | zero => intro f h; cases h
  | succ i ih =>
    intro f h
    cases e : fF t len k a i with
    | some g =>
      rw [fF_s e] at h
      cases h
      exact ih _ e
    | none =>
      rw [fF_n e] at h
      by_cases c : nmK t len (atS t len a i) (loK k i) (hiK k i) = 0
      · rw [if_pos c] at h; cases h
      · rw [if_neg c] at h
        cases h
        exact ⟨by show 1 ≤ nmK _ _ _ _ _; omega, nmK_le _ _ _ _ _⟩
theorem fF_ok {t : Nat → Nat} {len k a : Nat} : ∀ i, fF t len k a i = none → ∀ j, j < i → nmK t len (atS t len a j) (loK k j) (hiK k j) = 0 := by
  intro i
  induction i with
  | zero => intro _ j hj; exact absurd hj (Nat.not_lt_zero j)
  | succ i ih =>
    intro h j hj
    cases e : fF t len k a i with
    | some g =>
      rw [fF_s e] at h
      cases h
    | none =>
      rw [fF_n e] at h
      by_cases c : nmK t len (atS t len a i) (loK k i) (hiK k i) = 0
      · by_cases q : j = i
        · subst q; exact c
        · exact ih e j (by omega)
      · rw [if_neg c] at h; cases h
theorem nmK_rg {t : Nat → Nat} {len a lo hi : Nat} (h : nmK t len a lo hi = 0) : lo ≤ nmV t len a ∧ nmV t len a ≤ hi := by
  unfold nmK at h
  by_cases c1 : nmB t len a = nmP t len a
  · rw [if_pos c1] at h; omega
  · rw [if_neg c1] at h
    by_cases c2 : 3 < nmB t len a - nmP t len a ∨ nmV t len a < lo ∨ hi < nmV t len a
    · rw [if_pos c2] at h; omega
    · omega
theorem c_nums {X : Sto} {t : Nat → Nat} {len k a : Nat} (h : XC X t len) (ha : a ≤ len) (e2 : X.1 4 2 = nI a) (e5 : X.1 4 5 = 0) (hk : k < 5) : Ok (lpF (fun t => f_X3_readClause_4_l39 (nI k) t.1 t.2) FU (X, (0 : Int32))) (fun y => Fr (fun k j => (k = 4 ∧ (j = 2 ∨ j = 5 ∨ j = 6)) ∨ k = 6) X y.1 ∧ (∃ b, b ≤ len ∧ y.1.1 4 2 = nI b) ∧ (fF t len k a (numK k) = none → y.1.1 4 5 = 0 ∧ y.1.1 4 6 = X.1 4 6 ∧ y.1.1 4 2 = nI (atS t len a (numK k)) ∧ ∀ j, j < numK k → y.1.1 6 j = nI (nmV t len (atS t len a j))) ∧ ∀ f, fF t len k a (numK k) = some f → y.1.1 4 5 = nI f.1 ∧ y.1.1 4 6 = nI f.2) := by
  have hm := mst_le k hk
  have e3 : (3 : Int32) = nI 3 := rfl
  have l1 : inB (nI k) (sLn 1) = true := inB_n (show k < 5 from hk) (show 5 < 2 ^ 31 by omega)
  refine lp_for (fun i x => x.2 = nI i ∧ Fr (fun k j => (k = 4 ∧ (j = 2 ∨ j = 5 ∨ j = 6)) ∨ k = 6) X x.1 ∧ (∃ b, b ≤ len ∧ x.1.1 4 2 = nI b) ∧ (fF t len k a i = none → x.1.1 4 5 = 0 ∧ x.1.1 4 6 = X.1 4 6 ∧ x.1.1 4 2 = nI (atS t len a i) ∧ ∀ j, j < i → x.1.1 6 j = nI (nmV t len (atS t len a j))) ∧ ∀ f, fF t len k a i = some f → x.1.1 4 5 = nI f.1 ∧ x.1.1 4 6 = nI f.2) (numK k) (FU_big (by omega)) ⟨rfl, Fr.rf, ⟨a, ha, e2⟩, fun _ => ⟨e5, rfl, e2, fun j q => absurd q (Nat.not_lt_zero j)⟩, fun f q => (by cases q)⟩ ?_ ?_
  · rintro i ⟨Z, x⟩ hi ⟨ex, hf, hb, hn, hs⟩
    dsimp only at ex hf hb hn hs ⊢
    subst ex
    have hZ := h.fr hf (by omega) (by omega)
    unfold f_X3_readClause_4_l39
    rw [l1, gd_true, nI_clamp (show k < 2 ^ 31 by omega), tb_1 k hk, if_neg (nI_ge hi (by omega))]
    cases e : fF t len k a i with
    | some f =>
      obtain ⟨q1, q2⟩ := hs f e
      have hz := fF_nz i f e
      rw [q1, if_neg (fun q => by have := (nI_eq (b := 0) (by omega) (by omega)).mp q; omega), ok_some]
      have eu : fF t len k a (numK k) = some f := by
        have := fF_up e (numK k - i)
        rw [show i + (numK k - i) = numK k by omega] at this
        exact this
      refine Or.inr ⟨_, rfl, hf, hb, fun q => ?_, fun g q => ?_⟩
      · rw [eu] at q; cases q
      · rw [eu] at q; cases q; exact ⟨q1, q2⟩
    | none =>
      obtain ⟨q1, q2, q3, q4⟩ := hn e
      have har := (atS_rg (t := t) ha i).2
      have hll := lohi_le k hk i (by omega)
      rw [if_pos q1, ok_bs, e3, pk_mul, nI_add, nI_clamp (show k * 3 + i < 2 ^ 31 by omega), show inB (nI (k * 3 + i)) (sLn 2) = true from inB_n (show k * 3 + i < 15 by omega) (show 15 < 2 ^ 31 by omega), show inB (nI (k * 3 + i)) (sLn 3) = true from inB_n (show k * 3 + i < 15 by omega) (show 15 < 2 ^ 31 by omega), gd_true, gd_true, tb_2 k hk i (by omega), tb_3 k hk i (by omega), ok_bd2]
      refine ok_mono (c_readNumber hZ har q3 hll.1 hll.2) (fun y hy => ?_)
      obtain ⟨W, v⟩ := y
      obtain ⟨wf, wb, w0, w1⟩ := hy
      dsimp only at wf wb w0 w1 ⊢
      rw [inB_n (show i < 3 by omega) (by omega), gd_true, ok_bs, ok_bs, ok_some, nI_1, nI_clamp (show i < 2 ^ 31 by omega)]
      refine Or.inl ⟨_, rfl, rfl, (hf.tr (wf.mono (fun k j q => Or.inl q))).su (by omega), ⟨nmB t len (atS t len a i), (nmB_rg har).2.2, by rw [su_at, if_neg (by omega)]; exact wb⟩, fun q => ?_, fun f q => ?_⟩
      · rw [fF_n e] at q
        by_cases c : nmK t len (atS t len a i) (loK k i) (hiK k i) = 0
        · obtain ⟨r1, r2, r3, r4⟩ := w0 c
          refine ⟨?_, ?_, ?_, fun j hj => ?_⟩
          · rw [su_at, if_neg (by omega), r1]; exact q1
          · rw [su_at, if_neg (by omega), r2]; exact q2
          · rw [su_at, if_neg (by omega), r3]; rfl
          · rw [su_at]
            by_cases z : j = i
            · subst z; rw [if_pos ⟨rfl, rfl⟩]; exact r4
            · rw [if_neg (fun w => z w.2), wf 6 j (by omega)]
              exact q4 j (by omega)
        · rw [if_neg c] at q; cases q
      · rw [fF_n e] at q
        by_cases c : nmK t len (atS t len a i) (loK k i) (hiK k i) = 0
        · rw [if_pos c] at q; cases q
        · rw [if_neg c] at q
          cases q
          obtain ⟨r1, r2⟩ := w1 c
          rw [su_at, if_neg (by omega), su_at, if_neg (by omega)]
          exact ⟨r1, r2⟩
  · rintro ⟨Z, x⟩ ⟨ex, hf, hb, hn, hs⟩
    dsimp only at ex hf hb hn hs ⊢
    subst ex
    unfold f_X3_readClause_4_l39
    rw [l1, gd_true, nI_clamp (show k < 2 ^ 31 by omega), tb_1 k hk, if_pos (nI_le (Nat.le_refl _) (by omega)), ok_some]
    exact ⟨_, rfl, hf, hb, hn, hs⟩
