/-! shadows and alms: the class's way to the same spec -/
theorem c_fill8 (σ : Sto) (v : Int32) : f_J7_fill_53178_8 σ v = some (sc σ 8 (fillN (fun _ => v) (σ.1 8) 5)) := by
  unfold f_J7_fill_53178_8
  simp only [bs_eq]
  suffices hl : lpF (fun t => f_J7_fill_53178_8_l5 v (5 : Int32) t.1 t.2) FU (σ, (0 : Int32)) = some (sc σ 8 (fillN (fun _ => v) (σ.1 8) 5), nI 5) by
    rw [hl]; rfl
  have e0 : (σ, (0 : Int32)) = (fun i => (sc σ 8 (fillN (fun _ => v) (σ.1 8) i), nI i)) 0 := by
    show _ = (sc σ 8 (fillN (fun _ => v) (σ.1 8) 0), (0 : Int32))
    rw [fillN_0, sc_self]
  have en : (5 : Int32) = nI 5 := rfl
  rw [e0]
  refine lp_eq (fun i => (sc σ 8 (fillN (fun _ => v) (σ.1 8) i), nI i)) 5 (FU_big (by omega)) (fun i hi => ?_) ?_
  · show f_J7_fill_53178_8_l5 v (5 : Int32) (sc σ 8 (fillN (fun _ => v) (σ.1 8) i)) (nI i) = some (Sum.inl (sc σ 8 (fillN (fun _ => v) (σ.1 8) (i + 1)), nI (i + 1)))
    unfold f_J7_fill_53178_8_l5
    rw [en, if_neg (nI_ge hi (by omega)), inB_n hi (by omega), gd_true, bs_eq, bs_eq, nI_clamp (by omega), su_sc, nI_1]
    rw [show upd (fillN (fun _ => v) (σ.1 8) i) i v = fillN (fun _ => v) (σ.1 8) (i + 1) from fillN_s (fun _ => v) (σ.1 8) i]
  · rfl
theorem c_fill11 (σ : Sto) (v : Int32) : f_J7_fill_53178_11 σ v = some (sc σ 11 (fillN (fun _ => v) (σ.1 11) 6)) := by
  unfold f_J7_fill_53178_11
  simp only [bs_eq]
  suffices hl : lpF (fun t => f_J7_fill_53178_11_l5 v (6 : Int32) t.1 t.2) FU (σ, (0 : Int32)) = some (sc σ 11 (fillN (fun _ => v) (σ.1 11) 6), nI 6) by
    rw [hl]; rfl
  have e0 : (σ, (0 : Int32)) = (fun i => (sc σ 11 (fillN (fun _ => v) (σ.1 11) i), nI i)) 0 := by
    show _ = (sc σ 11 (fillN (fun _ => v) (σ.1 11) 0), (0 : Int32))
    rw [fillN_0, sc_self]
  have en : (6 : Int32) = nI 6 := rfl
  rw [e0]
  refine lp_eq (fun i => (sc σ 11 (fillN (fun _ => v) (σ.1 11) i), nI i)) 6 (FU_big (by omega)) (fun i hi => ?_) ?_
  · show f_J7_fill_53178_11_l5 v (6 : Int32) (sc σ 11 (fillN (fun _ => v) (σ.1 11) i)) (nI i) = some (Sum.inl (sc σ 11 (fillN (fun _ => v) (σ.1 11) (i + 1)), nI (i + 1)))
    unfold f_J7_fill_53178_11_l5
    rw [en, if_neg (nI_ge hi (by omega)), inB_n hi (by omega), gd_true, bs_eq, bs_eq, nI_clamp (by omega), su_sc, nI_1]
    rw [show upd (fillN (fun _ => v) (σ.1 11) i) i v = fillN (fun _ => v) (σ.1 11) (i + 1) from fillN_s (fun _ => v) (σ.1 11) i]
  · rfl
theorem c_fill12 (σ : Sto) (v : Int32) : f_J7_fill_53178_12 σ v = some (sc σ 12 (fillN (fun _ => v) (σ.1 12) 4)) := by
  unfold f_J7_fill_53178_12
  simp only [bs_eq]
  suffices hl : lpF (fun t => f_J7_fill_53178_12_l5 v (4 : Int32) t.1 t.2) FU (σ, (0 : Int32)) = some (sc σ 12 (fillN (fun _ => v) (σ.1 12) 4), nI 4) by
    rw [hl]; rfl
  have e0 : (σ, (0 : Int32)) = (fun i => (sc σ 12 (fillN (fun _ => v) (σ.1 12) i), nI i)) 0 := by
    show _ = (sc σ 12 (fillN (fun _ => v) (σ.1 12) 0), (0 : Int32))
    rw [fillN_0, sc_self]
  have en : (4 : Int32) = nI 4 := rfl
  rw [e0]
  refine lp_eq (fun i => (sc σ 12 (fillN (fun _ => v) (σ.1 12) i), nI i)) 4 (FU_big (by omega)) (fun i hi => ?_) ?_
  · show f_J7_fill_53178_12_l5 v (4 : Int32) (sc σ 12 (fillN (fun _ => v) (σ.1 12) i)) (nI i) = some (Sum.inl (sc σ 12 (fillN (fun _ => v) (σ.1 12) (i + 1)), nI (i + 1)))
    unfold f_J7_fill_53178_12_l5
    rw [en, if_neg (nI_ge hi (by omega)), inB_n hi (by omega), gd_true, bs_eq, bs_eq, nI_clamp (by omega), su_sc, nI_1]
    rw [show upd (fillN (fun _ => v) (σ.1 12) i) i v = fillN (fun _ => v) (σ.1 12) (i + 1) from fillN_s (fun _ => v) (σ.1 12) i]
  · rfl
theorem c_fill13 (σ : Sto) (v : Int32) : f_J7_fill_53178_13 σ v = some (sc σ 13 (fillN (fun _ => v) (σ.1 13) 6)) := by
  unfold f_J7_fill_53178_13
  simp only [bs_eq]
  suffices hl : lpF (fun t => f_J7_fill_53178_13_l5 v (6 : Int32) t.1 t.2) FU (σ, (0 : Int32)) = some (sc σ 13 (fillN (fun _ => v) (σ.1 13) 6), nI 6) by
    rw [hl]; rfl
  have e0 : (σ, (0 : Int32)) = (fun i => (sc σ 13 (fillN (fun _ => v) (σ.1 13) i), nI i)) 0 := by
    show _ = (sc σ 13 (fillN (fun _ => v) (σ.1 13) 0), (0 : Int32))
    rw [fillN_0, sc_self]
  have en : (6 : Int32) = nI 6 := rfl
  rw [e0]
  refine lp_eq (fun i => (sc σ 13 (fillN (fun _ => v) (σ.1 13) i), nI i)) 6 (FU_big (by omega)) (fun i hi => ?_) ?_
  · show f_J7_fill_53178_13_l5 v (6 : Int32) (sc σ 13 (fillN (fun _ => v) (σ.1 13) i)) (nI i) = some (Sum.inl (sc σ 13 (fillN (fun _ => v) (σ.1 13) (i + 1)), nI (i + 1)))
    unfold f_J7_fill_53178_13_l5
    rw [en, if_neg (nI_ge hi (by omega)), inB_n hi (by omega), gd_true, bs_eq, bs_eq, nI_clamp (by omega), su_sc, nI_1]
    rw [show upd (fillN (fun _ => v) (σ.1 13) i) i v = fillN (fun _ => v) (σ.1 13) (i + 1) from fillN_s (fun _ => v) (σ.1 13) i]
  · rfl
theorem c_fill31 (σ : Sto) (v : Int32) : f_J7_fill_53178_31 σ v = some (sc σ 31 (fillN (fun _ => v) (σ.1 31) 7)) := by
  unfold f_J7_fill_53178_31
  simp only [bs_eq]
  suffices hl : lpF (fun t => f_J7_fill_53178_31_l5 v (7 : Int32) t.1 t.2) FU (σ, (0 : Int32)) = some (sc σ 31 (fillN (fun _ => v) (σ.1 31) 7), nI 7) by
    rw [hl]; rfl
  have e0 : (σ, (0 : Int32)) = (fun i => (sc σ 31 (fillN (fun _ => v) (σ.1 31) i), nI i)) 0 := by
    show _ = (sc σ 31 (fillN (fun _ => v) (σ.1 31) 0), (0 : Int32))
    rw [fillN_0, sc_self]
  have en : (7 : Int32) = nI 7 := rfl
  rw [e0]
  refine lp_eq (fun i => (sc σ 31 (fillN (fun _ => v) (σ.1 31) i), nI i)) 7 (FU_big (by omega)) (fun i hi => ?_) ?_
  · show f_J7_fill_53178_31_l5 v (7 : Int32) (sc σ 31 (fillN (fun _ => v) (σ.1 31) i)) (nI i) = some (Sum.inl (sc σ 31 (fillN (fun _ => v) (σ.1 31) (i + 1)), nI (i + 1)))
    unfold f_J7_fill_53178_31_l5
    rw [en, if_neg (nI_ge hi (by omega)), inB_n hi (by omega), gd_true, bs_eq, bs_eq, nI_clamp (by omega), su_sc, nI_1]
    rw [show upd (fillN (fun _ => v) (σ.1 31) i) i v = fillN (fun _ => v) (σ.1 31) (i + 1) from fillN_s (fun _ => v) (σ.1 31) i]
  · rfl
theorem c_fill32 (σ : Sto) (v : Int32) : f_J7_fill_53178_32 σ v = some (sc σ 32 (fillN (fun _ => v) (σ.1 32) 7)) := by
  unfold f_J7_fill_53178_32
  simp only [bs_eq]
  suffices hl : lpF (fun t => f_J7_fill_53178_32_l5 v (7 : Int32) t.1 t.2) FU (σ, (0 : Int32)) = some (sc σ 32 (fillN (fun _ => v) (σ.1 32) 7), nI 7) by
    rw [hl]; rfl
  have e0 : (σ, (0 : Int32)) = (fun i => (sc σ 32 (fillN (fun _ => v) (σ.1 32) i), nI i)) 0 := by
    show _ = (sc σ 32 (fillN (fun _ => v) (σ.1 32) 0), (0 : Int32))
    rw [fillN_0, sc_self]
  have en : (7 : Int32) = nI 7 := rfl
  rw [e0]
  refine lp_eq (fun i => (sc σ 32 (fillN (fun _ => v) (σ.1 32) i), nI i)) 7 (FU_big (by omega)) (fun i hi => ?_) ?_
  · show f_J7_fill_53178_32_l5 v (7 : Int32) (sc σ 32 (fillN (fun _ => v) (σ.1 32) i)) (nI i) = some (Sum.inl (sc σ 32 (fillN (fun _ => v) (σ.1 32) (i + 1)), nI (i + 1)))
    unfold f_J7_fill_53178_32_l5
    rw [en, if_neg (nI_ge hi (by omega)), inB_n hi (by omega), gd_true, bs_eq, bs_eq, nI_clamp (by omega), su_sc, nI_1]
    rw [show upd (fillN (fun _ => v) (σ.1 32) i) i v = fillN (fun _ => v) (σ.1 32) (i + 1) from fillN_s (fun _ => v) (σ.1 32) i]
  · rfl
theorem c_fill33 (σ : Sto) (v : Int32) : f_J7_fill_53178_33 σ v = some (sc σ 33 (fillN (fun _ => v) (σ.1 33) 6)) := by
  unfold f_J7_fill_53178_33
  simp only [bs_eq]
  suffices hl : lpF (fun t => f_J7_fill_53178_33_l5 v (6 : Int32) t.1 t.2) FU (σ, (0 : Int32)) = some (sc σ 33 (fillN (fun _ => v) (σ.1 33) 6), nI 6) by
    rw [hl]; rfl
  have e0 : (σ, (0 : Int32)) = (fun i => (sc σ 33 (fillN (fun _ => v) (σ.1 33) i), nI i)) 0 := by
    show _ = (sc σ 33 (fillN (fun _ => v) (σ.1 33) 0), (0 : Int32))
    rw [fillN_0, sc_self]
  have en : (6 : Int32) = nI 6 := rfl
  rw [e0]
  refine lp_eq (fun i => (sc σ 33 (fillN (fun _ => v) (σ.1 33) i), nI i)) 6 (FU_big (by omega)) (fun i hi => ?_) ?_
  · show f_J7_fill_53178_33_l5 v (6 : Int32) (sc σ 33 (fillN (fun _ => v) (σ.1 33) i)) (nI i) = some (Sum.inl (sc σ 33 (fillN (fun _ => v) (σ.1 33) (i + 1)), nI (i + 1)))
    unfold f_J7_fill_53178_33_l5
    rw [en, if_neg (nI_ge hi (by omega)), inB_n hi (by omega), gd_true, bs_eq, bs_eq, nI_clamp (by omega), su_sc, nI_1]
    rw [show upd (fillN (fun _ => v) (σ.1 33) i) i v = fillN (fun _ => v) (σ.1 33) (i + 1) from fillN_s (fun _ => v) (σ.1 33) i]
  · rfl
/-- cells that no call reads but those that write them first -/
def Scr (k j : Nat) : Prop := (28 ≤ k ∧ k ≤ 38) ∨ (52 ≤ k ∧ k ≤ 64) ∨ (6 ≤ k ∧ k ≤ 9) ∨ (k = 4 ∧ (j = 2 ∨ j = 5)) ∨ (k = 39 ∧ ((23 ≤ j ∧ j ≤ 41) ∨ j = 47))
section FR
variable {σ τ : Sto} {nb ns ng nh : Nat} {D : Int}
theorem PL.fr (h : PL σ nb ns ng nh) (hf : Fr Scr σ τ) : PL τ nb ns ng nh := by
  obtain ⟨h1, h2, h3, h4, h5, h6, h7, h8⟩ := h
  refine ⟨h1, ?_, ?_, ?_, fun i hi => ?_, fun i hi => ?_, fun i hi => ?_, fun i hi => ?_⟩
  · rw [hf 39 1 (by unfold Scr; omega), hf 39 4 (by unfold Scr; omega), hf 39 8 (by unfold Scr; omega), hf 39 10 (by unfold Scr; omega)]; exact h2
  · rw [hf 2 1 (by unfold Scr; omega), hf 2 2 (by unfold Scr; omega), hf 2 3 (by unfold Scr; omega), hf 2 4 (by unfold Scr; omega)]; exact h3
  · rw [hf 2 0 (by unfold Scr; omega), hf 39 0 (by unfold Scr; omega), hf 3 0 (by unfold Scr; omega)]; exact h4
  · rw [hf 3 (18 + 3 * i) (by unfold Scr; omega), hf 3 (19 + 3 * i) (by unfold Scr; omega), hf 40 i (by unfold Scr; omega), hf 41 i (by unfold Scr; omega)]; exact h5 i hi
  · rw [hf 3 (36 + 3 * i) (by unfold Scr; omega), hf 3 (37 + 3 * i) (by unfold Scr; omega), hf 3 (38 + 3 * i) (by unfold Scr; omega), hf 42 i (by unfold Scr; omega), hf 43 i (by unfold Scr; omega), hf 44 i (by unfold Scr; omega)]; exact h6 i hi
  · rw [hf 3 (54 + 3 * i) (by unfold Scr; omega), hf 45 i (by unfold Scr; omega)]; exact h7 i hi
  · rw [hf 3 (72 + 3 * i) (by unfold Scr; omega), hf 3 (73 + 3 * i) (by unfold Scr; omega), hf 46 i (by unfold Scr; omega), hf 47 i (by unfold Scr; omega)]; exact h8 i hi
theorem Fr.row (hf : Fr Scr σ τ) {k : Nat} (h : ∀ j, ¬ Scr k j) : τ.1 k = σ.1 k := funext (fun j => hf k j (h j))
theorem SN.fr (h : SN σ ns ng nh D) (hf : Fr Scr σ τ) : SN τ ns ng nh D := by
  unfold SN at *
  rw [hf.row (k := 11) (by unfold Scr; omega), hf.row (k := 12) (by unfold Scr; omega), hf.row (k := 13) (by unfold Scr; omega), hf.row (k := 48) (by unfold Scr; omega), hf.row (k := 49) (by unfold Scr; omega), hf.row (k := 50) (by unfold Scr; omega), hf.row (k := 10) (by unfold Scr; omega), hf 39 13 (by unfold Scr; omega), hf 39 17 (by unfold Scr; omega), hf 39 18 (by unfold Scr; omega), hf 39 19 (by unfold Scr; omega)]
  exact h
/-- the numbers of the plan, by what they are -/
theorem c_spot (h : PL σ nb ns ng nh) {s : Nat} (hs : s < ns) : f_X2_number_1 σ (2 : Int32) (nI s) (0 : Int32) = some (σ, σ.1 42 s) ∧ f_X2_number_1 σ (2 : Int32) (nI s) (1 : Int32) = some (σ, σ.1 43 s) ∧ f_X2_number_1 σ (2 : Int32) (nI s) (2 : Int32) = some (σ, σ.1 44 s) := by
  have hn : ns ≤ 6 := h.1.2.1
  have e := (h.2.2.2.2.2.1 s hs).1
  have a0 := c_number (σ := σ) (k := 2) (i := s) (w := 0) (n := ns) (by decide) h.2.2.1.2.1 hn hs (by decide)
  have a1 := c_number (σ := σ) (k := 2) (i := s) (w := 1) (n := ns) (by decide) h.2.2.1.2.1 hn hs (by decide)
  have a2 := c_number (σ := σ) (k := 2) (i := s) (w := 2) (n := ns) (by decide) h.2.2.1.2.1 hn hs (by decide)
  rw [show (2 * 6 + s) * 3 + 0 = 36 + 3 * s by omega, e.1] at a0
  rw [show (2 * 6 + s) * 3 + 1 = 37 + 3 * s by omega, e.2.1] at a1
  rw [show (2 * 6 + s) * 3 + 2 = 38 + 3 * s by omega, e.2.2] at a2
  exact ⟨a0, a1, a2⟩
theorem c_beg (h : PL σ nb ns ng nh) {g : Nat} (hg : g < ng) : f_X2_number_1 σ (3 : Int32) (nI g) (0 : Int32) = some (σ, σ.1 45 g) := by
  have a0 := c_number (σ := σ) (k := 3) (i := g) (w := 0) (n := ng) (by decide) h.2.2.1.2.2.1 h.1.2.2.1 hg (by decide)
  rw [show (3 * 6 + g) * 3 + 0 = 54 + 3 * g by omega, (h.2.2.2.2.2.2.1 g hg).1] at a0
  exact a0
theorem c_hatn (h : PL σ nb ns ng nh) {i : Nat} (hi : i < nh) : f_X2_number_1 σ (4 : Int32) (nI i) (0 : Int32) = some (σ, σ.1 46 i) ∧ f_X2_number_1 σ (4 : Int32) (nI i) (1 : Int32) = some (σ, σ.1 47 i) := by
  have hn : nh ≤ 6 := by have := h.1.2.2.2; omega
  have a0 := c_number (σ := σ) (k := 4) (i := i) (w := 0) (n := nh) (by decide) h.2.2.1.2.2.2 hn hi (by decide)
  have a1 := c_number (σ := σ) (k := 4) (i := i) (w := 1) (n := nh) (by decide) h.2.2.1.2.2.2 hn hi (by decide)
  have e := (h.2.2.2.2.2.2.2 i hi).1
  rw [show (4 * 6 + i) * 3 + 0 = 72 + 3 * i by omega, e.1] at a0
  rw [show (4 * 6 + i) * 3 + 1 = 73 + 3 * i by omega, e.2] at a1
  exact ⟨a0, a1⟩
theorem c_cnt (h : PL σ nb ns ng nh) : f_X2_count_1 σ (1 : Int32) = some (σ, nI nb) ∧ f_X2_count_1 σ (2 : Int32) = some (σ, nI ns) ∧ f_X2_count_1 σ (3 : Int32) = some (σ, nI ng) ∧ f_X2_count_1 σ (4 : Int32) = some (σ, nI nh) := by
  obtain ⟨q1, q2, q3, q4⟩ := h.2.2.1
  refine ⟨?_, ?_, ?_, ?_⟩
  · rw [← q1]; exact c_count σ (by decide)
  · rw [← q2]; exact c_count σ (by decide)
  · rw [← q3]; exact c_count σ (by decide)
  · rw [← q4]; exact c_count σ (by decide)
theorem c_hasK (h : PL σ nb ns ng nh) (x : Int32) : f_X2_has_1 σ (1 : Int32) x = some (σ, bB (inB x nb)) ∧ f_X2_has_1 σ (2 : Int32) x = some (σ, bB (inB x ns)) ∧ f_X2_has_1 σ (3 : Int32) x = some (σ, bB (inB x ng)) ∧ f_X2_has_1 σ (4 : Int32) x = some (σ, bB (inB x nh)) := by
  obtain ⟨q1, q2, q3, q4⟩ := h.2.2.1
  obtain ⟨b1, b2, b3, b4⟩ := h.1
  exact ⟨c_has x (by decide) q1 (by omega), c_has x (by decide) q2 (by omega), c_has x (by decide) q3 (by omega), c_has x (by decide) q4 (by omega)⟩
theorem c_shadeOn (h : PL σ nb ns ng nh) {s : Nat} (hs : s < ns) (t lg : Int32) : f_X2_shadeOn_1 σ (nI s) t lg = some (σ, lenS t (σ.1 43 s) (σ.1 44 s) lg) := by
  obtain ⟨-, a1, a2⟩ := c_spot h hs
  unfold f_X2_shadeOn_1 f_X2_shadeOn_1_j52
  simp only [nz10, gd_true, bs_eq, a1, bd2_eq, a2]
  have hw := (h.2.2.2.2.2.1 s hs).2.2.2.1
  unfold lenS
  by_cases c : σ.1 44 s = 0
  · rw [if_pos c, if_neg]
    rw [c]
    exact fun q => absurd q.1 (by decide)
  · rw [if_neg c]
    have hp : 0 < σ.1 44 s := by
      apply i_lt.mpr
      have z : (0 : Int32).toInt = 0 := rfl
      have hne : ¬ (σ.1 44 s).toInt = (0 : Int32).toInt := fun q => c (i_eq.mpr q)
      omega
    unfold iMin
    by_cases c2 : σ.1 44 s < t * lg / 10 * (10 - σ.1 43 s) / 10
    · rw [if_pos c2, if_pos ⟨hp, c2⟩]
    · rw [if_neg c2, if_neg (fun q => c2 q.2)]
end FR
/-- what the class's row of shadows holds when the spots below s are done -/
def hC (z : Nat → Int32) (on sh : Nat → Int32) : Nat → Nat → Int32
  | 0 => z
  | s + 1 => if on s = -1 then hC z on sh s else upd (hC z on sh s) (on s).toNatClampNeg (sh (on s).toNatClampNeg)
def tF (hg st on : Nat → Int32) : Nat → Int32
  | 0 => 0
  | s + 1 => if on s = -1 then 0 else hg (on s).toNatClampNeg + st s
theorem hC_at {z on sh sp : Nat → Int32} {n : Nat} (hn : n < 2 ^ 31) (g : Nat) (hg : g < n) (hz : z g = 0) : ∀ s, s < 2 ^ 31 → (∀ j, j < s → IsWho sp (nI j) n (on j)) → hC z on sh s g = if (∃ j, j < s ∧ sp g = nI j ∧ on j = nI g) then sh g else 0 := by
  intro s
  induction s with
  | zero =>
    intro _ _
    rw [if_neg (fun ⟨j, h, _⟩ => absurd h (Nat.not_lt_zero j))]
    exact hz
  | succ s ih =>
    intro hs hon
    have ih := ih (by omega) (fun j hj => hon j (by omega))
    by_cases c : on s = nI g
    · have hsp : sp g = nI s := by
        rcases hon s (Nat.lt_succ_self s) with ⟨k1, -⟩ | ⟨g', k1, k2, k3⟩
        · rw [k1] at c
          exact absurd c.symm (nI_ne_m1 (by omega))
        · rw [c] at k2
          have := (nI_eq (by omega) (by omega)).mp k2
          rw [this]; exact k3
      rw [if_pos ⟨s, Nat.lt_succ_self s, hsp, c⟩]
      have e1 : hC z on sh (s + 1) = if on s = -1 then hC z on sh s else upd (hC z on sh s) (on s).toNatClampNeg (sh (on s).toNatClampNeg) := rfl
      rw [e1, if_neg (by rw [c]; exact nI_ne_m1 (by omega)), c, nI_clamp (by omega), pk_us]
    · have e : hC z on sh (s + 1) g = hC z on sh s g := by
        have e1 : hC z on sh (s + 1) = if on s = -1 then hC z on sh s else upd (hC z on sh s) (on s).toNatClampNeg (sh (on s).toNatClampNeg) := rfl
        rw [e1]
        by_cases q : on s = -1
        · rw [if_pos q]
        · rw [if_neg q, pk_un]
          intro q2
          rcases hon s (Nat.lt_succ_self s) with ⟨k1, -⟩ | ⟨g', k1, k2, k3⟩
          · exact q k1
          · rw [k2, nI_clamp (by omega)] at q2
            rw [k2, ← q2] at c
            exact c rfl
      rw [e, ih]
      by_cases q : ∃ j, j < s ∧ sp g = nI j ∧ on j = nI g
      · rw [if_pos q]
        obtain ⟨j, h1, h2⟩ := q
        rw [if_pos ⟨j, by omega, h2⟩]
      · rw [if_neg q, if_neg]
        rintro ⟨j, h1, h2, h3⟩
        by_cases qs : j = s
        · subst qs; exact c h3
        · exact q ⟨j, by omega, h2, h3⟩
theorem hC_all {z on sh sp : Nat → Int32} {n ns : Nat} (hn : n < 2 ^ 31) (hns : ns < 2 ^ 31) (hon : ∀ j, j < ns → IsWho sp (nI j) n (on j)) (hsp : ∀ g, g < n → sp g = -1 ∨ inB (sp g) ns = true) (hi : Inj sp n) (hz : ∀ g, g < n → z g = 0) (h0 : ∀ g, g < n → sp g < 0 → sh g = 0) (g : Nat) (hg : g < n) : hC z on sh ns g = sh g := by
  rw [hC_at hn g hg (hz g hg) ns hns hon]
  rcases hsp g hg with q | q
  · rw [if_neg]
    · exact (h0 g hg (m1_neg q)).symm
    · rintro ⟨j, h1, h2, -⟩
      rw [q] at h2
      exact nI_ne_m1 (by omega) h2.symm
  · obtain ⟨j, hj, ej⟩ := inB_ex q hns
    refine if_pos ⟨j, hj, ej, ?_⟩
    exact who_uniq hi (by rw [nI_toInt (by omega)]; omega) (hon j hj) (Or.inr ⟨g, hg, rfl, ej⟩)
theorem c_isHere {σ : Sto} {n : Nat} (hn : n < 2 ^ 31) (h : σ.1 28 1 = nI n) (x : Int32) : f_X5_isHere_28 σ x = some (σ, bB (inB x n)) := by
  unfold f_X5_isHere_28 f_X5_isHere_28_j16 f_X5_isHere_28_j17
  rw [h]
  by_cases c : x < 0
  · rw [if_pos c]
    have c' := i_lt.mp c
    have : inB x n = false := decide_eq_false (fun q => by have z : (0 : Int32).toInt = 0 := rfl; omega)
    rw [this]
    rfl
  · rw [if_neg c]
    have c' : 0 ≤ x.toInt := by
      have h1 : ¬ x.toInt < (0 : Int32).toInt := fun q => c (i_lt.mpr q)
      have z : (0 : Int32).toInt = 0 := rfl
      omega
    by_cases c2 : nI n ≤ x
    · rw [if_pos c2]
      have h2 := i_le.mp c2
      rw [nI_toInt hn] at h2
      have : inB x n = false := decide_eq_false (fun q => by omega)
      rw [this]
      rfl
    · rw [if_neg c2]
      have h2 : ¬ (nI n).toInt ≤ x.toInt := fun q => c2 (i_le.mpr q)
      rw [nI_toInt hn] at h2
      have : inB x n = true := decide_eq_true ⟨c', by omega⟩
      rw [this]
      rfl
theorem has_y {β : Type} {x : Int32} {n : Nat} (h : inB x n = true) (a b : β) : (if bB (inB x n) = 0 then a else b) = b := by
  rw [h]
  exact if_neg (by decide)
theorem has_n {β : Type} {x : Int32} {n : Nat} (h : x = -1) (a b : β) : (if bB (inB x n) = 0 then a else b) = a := by
  have : inB x n = false := decide_eq_false (fun q => by
    have z := q.1
    rw [h] at z
    exact absurd z (by decide))
  rw [this]
  exact if_pos rfl
/-- alms of one of those who are here -/
theorem c_almsX {σ : Sto} {n : Nat} {x : Int32} (hn : n ≤ 7) (h : σ.1 28 1 = nI n) (hx : inB x n = true) : f_X5_almsOf_28 σ x = some (σ, σ.1 32 x.toNatClampNeg - σ.1 30 x.toNatClampNeg) := by
  unfold f_X5_almsOf_28 f_X5_almsOf_28_j25
  rw [c_isHere (by omega) h, bd2_eq, has_y hx, inB_up hx hn, gd_true, gd_true]
theorem c_almsN {σ : Sto} {n g : Nat} (hn : n ≤ 7) (h : σ.1 28 1 = nI n) (hg : g < n) : f_X5_almsOf_28 σ (nI g) = some (σ, σ.1 32 g - σ.1 30 g) := by
  rw [c_almsX hn h (inB_n hg (by omega)), nI_clamp (by omega)]
theorem c_castShades {σ : Sto} {nb ns ng nh n : Nat} {sp hg : Nat → Int32} (h : PL σ nb ns ng nh) (hn : n ≤ 7) (hpe : σ.1 28 1 = nI n) (hon : ∀ s, s < ns → IsWho sp (nI s) n (σ.1 33 s)) (hsp : ∀ g, g < n → sp g = -1 ∨ inB (sp g) ns = true) (hi : Inj sp n) (hhg : ∀ g, g < n → σ.1 29 g = hg g) (hpos : ∀ g s, g < n → s < ns → 0 ≤ (hg g + σ.1 42 s).toInt) :
    Ok (f_X5_castShades_28 σ) (fun τ => ∃ f, τ = sc σ 31 f ∧ ∀ g, g < n → f g = shadeS hg (σ.1 42) (σ.1 43) (σ.1 44) sp n (σ.1 28 2) g) := by
  have hns : ns ≤ 6 := h.1.2.1
  generalize hsh : shadeS hg (σ.1 42) (σ.1 43) (σ.1 44) sp n (σ.1 28 2) = sh
  have h0 : ∀ g, g < n → sp g < 0 → sh g = 0 := fun g _ q => by rw [← hsh]; unfold shadeS; rw [if_pos q]
  unfold f_X5_castShades_28
  rw [c_fill31, bd1_eq]
  simp only [bs_eq]
  generalize hz : fillN (fun _ => (0 : Int32)) (σ.1 31) 7 = z
  have hz0 : ∀ g, g < n → z g = 0 := fun g q => by rw [← hz]; exact fillN_in (by omega)
  suffices hl : lpF (fun t => f_X5_castShades_28_l12 t.1 t.2.1 t.2.2) FU (sc σ 31 z, (0 : Int32), (0 : Int32)) = some (sc σ 31 (hC z (σ.1 33) sh ns), tF hg (σ.1 42) (σ.1 33) ns, nI ns) by
    rw [hl]
    exact ok_some.mpr ⟨_, rfl, fun g q => hC_all (by omega) (by omega) hon hsp hi hz0 h0 g q⟩
  refine lp_eq (fun s => (sc σ 31 (hC z (σ.1 33) sh s), tF hg (σ.1 42) (σ.1 33) s, nI s)) ns (FU_big (by omega)) (fun s hs => ?_) ?_
  · show f_X5_castShades_28_l12 (sc σ 31 (hC z (σ.1 33) sh s)) (tF hg (σ.1 42) (σ.1 33) s) (nI s) = some (Sum.inl (sc σ 31 (hC z (σ.1 33) sh (s + 1)), tF hg (σ.1 42) (σ.1 33) (s + 1), nI (s + 1)))
    have hP : PL (sc σ 31 (hC z (σ.1 33) sh s)) nb ns ng nh := h.fr (Fr.rf.sc (fun j => by unfold Scr; omega))
    have es : (nI s).toNatClampNeg = s := nI_clamp (by omega)
    have r33 : (sc σ 31 (hC z (σ.1 33) sh s)).1 33 s = σ.1 33 s := rfl
    have r281 : (sc σ 31 (hC z (σ.1 33) sh s)).1 28 1 = nI n := hpe
    unfold f_X5_castShades_28_l12
    rw [(c_cnt hP).2.1, bd2_eq, if_neg (nI_ge hs (by omega)), inB_n (show s < 6 by omega) (by omega), gd_true, bs_eq, bs_eq, es, r33, c_isHere (n := n) (by omega) r281, bd2_eq]
    rcases hon s hs with ⟨k1, k2⟩ | ⟨g, k1, k2, k3⟩
    · rw [has_n k1]
      unfold f_X5_castShades_28_j91
      rw [bs_eq, bs_eq, nI_1]
      have e1 : hC z (σ.1 33) sh (s + 1) = hC z (σ.1 33) sh s := if_pos k1
      have e2 : tF hg (σ.1 42) (σ.1 33) (s + 1) = 0 := if_pos k1
      rw [e1, e2]
    · have hne : ¬ σ.1 33 s = -1 := by rw [k2]; exact nI_ne_m1 (by omega)
      have hin : inB (σ.1 33 s) n = true := by rw [k2]; exact inB_n k1 (by omega)
      have eg : (nI g).toNatClampNeg = g := nI_clamp (by omega)
      have e1 : hC z (σ.1 33) sh (s + 1) = upd (hC z (σ.1 33) sh s) g (sh g) := by
        show (if σ.1 33 s = -1 then _ else _) = _
        rw [if_neg hne, k2, eg]
      have e2 : tF hg (σ.1 42) (σ.1 33) (s + 1) = hg g + σ.1 42 s := by
        show (if σ.1 33 s = -1 then _ else _) = _
        rw [if_neg hne, k2, eg]
      have r29 : (sc σ 31 (hC z (σ.1 33) sh s)).1 29 g = hg g := hhg g k1
      have r42 : (sc σ 31 (hC z (σ.1 33) sh s)).1 42 = σ.1 42 := rfl
      have r43 : (sc σ 31 (hC z (σ.1 33) sh s)).1 43 = σ.1 43 := rfl
      have r44 : (sc σ 31 (hC z (σ.1 33) sh s)).1 44 = σ.1 44 := rfl
      have r28 : (sc σ 31 (hC z (σ.1 33) sh s)).1 28 2 = σ.1 28 2 := rfl
      rw [has_y hin, k2, inB_n (show g < 7 by omega) (by omega), gd_true, (c_spot hP hs).1, bd2_eq, bs_eq, eg, r29, r42, c_shadeOn hP hs, r43, r44, r28, bd2_eq]
      have j87 : ∀ v, v = sh g → f_X5_castShades_28_j90 (sc σ 31 (hC z (σ.1 33) sh s)) (nI s) (hg g + σ.1 42 s) v (nI g) = some (Sum.inl (sc σ 31 (hC z (σ.1 33) sh (s + 1)), tF hg (σ.1 42) (σ.1 33) (s + 1), nI (s + 1))) := by
        intro v hv
        unfold f_X5_castShades_28_j90 f_X5_castShades_28_j91
        rw [inB_n (show g < 7 by omega) (by omega), gd_true, bs_eq, bs_eq, bs_eq, eg, su_sc, hv, ← e1, ← e2, nI_1]
      have had : adS (σ.1 42) (sp g) = σ.1 42 s := by
        unfold adS
        rw [k3, if_pos (nI_pos' (by omega)), es]
      -- the one in front
      have hfr : (0 ≤ frN sp n g ∧ hg g + σ.1 42 s < hg (frN sp n g).toNatClampNeg + adS (σ.1 42) (sp (frN sp n g).toNatClampNeg)) ↔ ¬ tF hg (σ.1 42) (σ.1 33) s ≤ hg g + σ.1 42 s := by
        have none : tF hg (σ.1 42) (σ.1 33) s = 0 → frN sp n g = -1 → ((0 ≤ frN sp n g ∧ hg g + σ.1 42 s < hg (frN sp n g).toNatClampNeg + adS (σ.1 42) (sp (frN sp n g).toNatClampNeg)) ↔ ¬ tF hg (σ.1 42) (σ.1 33) s ≤ hg g + σ.1 42 s) := by
          intro q1 q2
          constructor
          · rintro ⟨q, -⟩
            exact absurd q (m1_nle q2)
          · intro q
            exfalso
            apply q
            rw [q1]
            exact i_le.mpr (hpos g s k1 hs)
        cases s with
        | zero =>
          refine none rfl ?_
          unfold frN
          rw [k3, if_pos (show nI 0 = 0 from rfl)]
        | succ s =>
          have ef : frN sp n g = σ.1 33 s := by
            unfold frN
            rw [k3, if_neg (nI_ne0 (by omega) (by omega)), nI_pred]
            exact (who_who hi (by rw [nI_toInt (by omega)]; omega) (hon s (by omega))).symm
          rcases hon s (by omega) with ⟨m1, m2⟩ | ⟨f, m1, m2, m3⟩
          · exact none (if_pos m1) (ef.trans m1)
          · have et : tF hg (σ.1 42) (σ.1 33) (s + 1) = hg f + σ.1 42 s := by
              show (if σ.1 33 s = -1 then _ else _) = _
              rw [if_neg (by rw [m2]; exact nI_ne_m1 (by omega)), m2, nI_clamp (by omega)]
            have ea : adS (σ.1 42) (sp f) = σ.1 42 s := by
              unfold adS
              rw [m3, if_pos (nI_pos' (by omega)), nI_clamp (by omega)]
            rw [ef, m2, nI_clamp (by omega), ea, et, i_nle]
            exact ⟨fun q => i_lt.mp q.2, fun q => ⟨nI_pos' (by omega), i_lt.mpr q⟩⟩
      have hshg : sh g = if ¬ tF hg (σ.1 42) (σ.1 33) s ≤ hg g + σ.1 42 s then 0 else lenS (hg g + σ.1 42 s) (σ.1 43 s) (σ.1 44 s) (σ.1 28 2) := by
        rw [← hsh]
        unfold shadeS
        rw [if_neg (by rw [k3]; exact nI_pos (by omega)), had, show (sp g).toNatClampNeg = s by rw [k3]; exact es]
        by_cases c : ¬ tF hg (σ.1 42) (σ.1 33) s ≤ hg g + σ.1 42 s
        · rw [if_pos c, if_pos (hfr.mpr c)]
        · rw [if_neg c, if_neg (fun q => c (hfr.mp q))]
      by_cases c : tF hg (σ.1 42) (σ.1 33) s ≤ hg g + σ.1 42 s
      · rw [if_pos c]
        refine j87 _ ?_
        rw [hshg, if_neg (fun q => q c)]
      · rw [if_neg c]
        refine j87 _ ?_
        rw [hshg, if_pos c]
  · show f_X5_castShades_28_l12 (sc σ 31 (hC z (σ.1 33) sh ns)) (tF hg (σ.1 42) (σ.1 33) ns) (nI ns) = _
    have hP : PL (sc σ 31 (hC z (σ.1 33) sh ns)) nb ns ng nh := h.fr (Fr.rf.sc (fun j => by unfold Scr; omega))
    unfold f_X5_castShades_28_l12
    rw [(c_cnt hP).2.1, bd2_eq, if_pos (nI_le (Nat.le_refl ns) (by omega))]
