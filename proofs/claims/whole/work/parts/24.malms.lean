/-! shadows and alms: the spec, and the reference's way to it -/
def fillN (f g : Nat → Int32) (i : Nat) : Nat → Int32 := fun k => if k < i then f k else g k
theorem fillN_0 (f g : Nat → Int32) : fillN f g 0 = g := by
  funext k
  exact if_neg (Nat.not_lt_zero k)
theorem fillN_in {f g : Nat → Int32} {i k : Nat} (h : k < i) : fillN f g i k = f k := if_pos h
theorem fillN_out {f g : Nat → Int32} {i k : Nat} (h : ¬ k < i) : fillN f g i k = g k := if_neg h
theorem fillN_s (f g : Nat → Int32) (i : Nat) : upd (fillN f g i) i (f i) = fillN f g (i + 1) := by
  funext k
  by_cases e : k = i
  · subst e
    rw [pk_us, fillN_in (Nat.lt_succ_self k)]
  · rw [pk_un e]
    by_cases c : k < i
    · rw [fillN_in c, fillN_in (by omega)]
    · rw [fillN_out c, fillN_out (by omega)]
theorem sc_self (σ : Sto) (k : Nat) : sc σ k (σ.1 k) = σ := by
  unfold sc
  have : (fun j => if j = k then σ.1 k else σ.1 j) = σ.1 := by
    funext j
    by_cases e : j = k
    · rw [if_pos e, e]
    · rw [if_neg e]
  rw [this]
theorem su_sc (σ : Sto) (k : Nat) (f : Nat → Int32) (j : Nat) (v : Int32) : su (sc σ k f) k j v = sc σ k (upd f j v) := by
  unfold su
  rw [sc_same]
  unfold sc
  have : (fun a => if a = k then upd f j v else if a = k then f else σ.1 a) = fun a => if a = k then upd f j v else σ.1 a := by
    funext a
    by_cases e : a = k
    · rw [if_pos e, if_pos e]
    · rw [if_neg e, if_neg e, if_neg e]
  show ((fun a => if a = k then upd f j v else if a = k then f else σ.1 a), σ.2) = _
  rw [this]
def sumN (f : Nat → Int32) : Nat → Int32
  | 0 => 0
  | n + 1 => sumN f n + f n
def longN (sp sh : Nat → Int32) : Nat → Int32
  | 0 => -1
  | n + 1 => if ¬ sp n < 0 ∧ (longN sp sh n < 0 ∨ sh (longN sp sh n).toNatClampNeg < sh n) then nI n else longN sp sh n
def frN (sp : Nat → Int32) (n g : Nat) : Int32 := if sp g = 0 then -1 else whoN sp (sp g - 1) n
def shadeS (hg st md wl sp : Nat → Int32) (n : Nat) (lg : Int32) (g : Nat) : Int32 :=
  if sp g < 0 then 0 else
    if 0 ≤ frN sp n g ∧ hg g + adS st (sp g) < hg (frN sp n g).toNatClampNeg + adS st (sp (frN sp n g).toNatClampNeg) then 0
    else lenS (hg g + adS st (sp g)) (md (sp g).toNatClampNeg) (wl (sp g).toNatClampNeg) lg
def giftS (lw : Int32) (sp sh : Nat → Int32) (n g : Nat) : Int32 :=
  if lw = 0 then sh g else if lw = 1 then (if nI g = longN sp sh n then sumN sh n else 0) else if sh g ≤ 50 then sh g else 50
def hgM (σ : Sto) : Nat → Int32 := fun g => σ.1 45 g + adS (σ.1 46) (σ.1 49 g)
def shM (σ : Sto) (n : Nat) (lg : Int32) : Nat → Int32 := shadeS (hgM σ) (σ.1 42) (σ.1 43) (σ.1 44) (σ.1 48) n lg
def gfM (σ : Sto) (n : Nat) (lg : Int32) : Nat → Int32 := giftS (σ.1 39 18) (σ.1 48) (shM σ n lg) n
def coM (σ : Sto) : Nat → Int32 := fun g => adS (σ.1 47) (σ.1 49 g)
/-- places are places, hats are hats -/
def Okv (σ : Sto) (n : Nat) : Prop := ∀ g, g < n → (σ.1 48 g = -1 ∨ inB (σ.1 48 g) 6 = true) ∧ (σ.1 49 g = -1 ∨ inB (σ.1 49 g) 4 = true)
theorem m_tallN {σ : Sto} {n g : Nat} (hv : Okv σ n) (hn : n ≤ 7) (hg : g < n) : f_X8_tallOf σ (nI g) = some (σ, hgM σ g + adS (σ.1 42) (σ.1 48 g)) := by
  have e : (nI g).toNatClampNeg = g := nI_clamp (by omega)
  have h := m_tallOf (σ := σ) (g := nI g) (inB_n (by omega) (by omega)) (by rw [e]; exact or_in (hv g hg).2) (by rw [e]; exact or_in (hv g hg).1)
  rw [e] at h
  exact h
theorem m_almsN {σ : Sto} {n g : Nat} (hv : Okv σ n) (hn : n ≤ 7) (hg : g < n) : f_X8_almsOf σ (nI g) = some (σ, σ.1 61 g - coM σ g) := by
  have e : (nI g).toNatClampNeg = g := nI_clamp (by omega)
  have h := m_almsOf (σ := σ) (g := nI g) (inB_n (by omega) (by omega)) (by rw [e]; exact or_in (hv g hg).2)
  rw [e] at h
  exact h
theorem whoN_cl {sp : Nat → Int32} {s : Int32} {n : Nat} (hn : n < 2 ^ 31) (h : ¬ whoN sp s n < 0) : ∃ g, g < n ∧ whoN sp s n = nI g ∧ sp g = s := by
  rcases whoN_is sp s n with ⟨k1, -⟩ | ⟨g, k1, k2, k3⟩
  · exact absurd (m1_neg k1) h
  · exact ⟨g, k1, k2, k3⟩
theorem m_shadowOf {σ : Sto} {n g : Nat} (lg : Int32) (hv : Okv σ n) (hn : n ≤ 7) (hg : g < n) : f_X8_shadowOf σ (nI g) (nI n) lg = some (σ, shM σ n lg g) := by
  have eg : (nI g).toNatClampNeg = g := nI_clamp (by omega)
  have ig : inB (nI g) 7 = true := inB_n (by omega) (by omega)
  have ht := m_tallN hv hn hg
  unfold f_X8_shadowOf
  rw [ig, gd_true, bs_eq, eg]
  rcases (hv g hg).1 with hs | hs
  · rw [if_neg (m1_nle hs)]
    unfold shM shadeS
    rw [if_pos (m1_neg hs)]
  · rw [if_pos (inB_0le hs)]
    have hlen : ∀ t : Int32, f_X8_lengthBy σ t (σ.1 48 g) lg = some (σ, lenS t (σ.1 43 (σ.1 48 g).toNatClampNeg) (σ.1 44 (σ.1 48 g).toNatClampNeg) lg) := fun t => m_lengthBy t lg hs
    have h58 : f_X8_shadowOf_j58 σ (nI g) lg (σ.1 48 g) = some (σ, lenS (hgM σ g + adS (σ.1 42) (σ.1 48 g)) (σ.1 43 (σ.1 48 g).toNatClampNeg) (σ.1 44 (σ.1 48 g).toNatClampNeg) lg) := by
      unfold f_X8_shadowOf_j58 f_X8_shadowOf_j70
      rw [ht, bd2_eq, hlen, bd2_eq]
    have h33 : ∀ f : Int32, (¬ f < 0 → ∃ j, j < n ∧ f = nI j) → f_X8_shadowOf_j33 σ (nI g) lg (σ.1 48 g) f = some (σ, if 0 ≤ f ∧ hgM σ g + adS (σ.1 42) (σ.1 48 g) < hgM σ f.toNatClampNeg + adS (σ.1 42) (σ.1 48 f.toNatClampNeg) then 0 else lenS (hgM σ g + adS (σ.1 42) (σ.1 48 g)) (σ.1 43 (σ.1 48 g).toNatClampNeg) (σ.1 44 (σ.1 48 g).toNatClampNeg) lg) := by
      intro f hf
      unfold f_X8_shadowOf_j33
      rw [bs_eq]
      by_cases c : f < 0
      · rw [if_pos c, h58, if_neg]
        rintro ⟨q, -⟩
        have h1 := i_lt.mp c
        have h2 := i_le.mp q
        omega
      · obtain ⟨j, hj, rfl⟩ := hf c
        rw [if_neg c, m_tallN hv hn hj, bd2_eq, ht, bd2_eq, nI_clamp (by omega)]
        by_cases c2 : hgM σ j + adS (σ.1 42) (σ.1 48 j) ≤ hgM σ g + adS (σ.1 42) (σ.1 48 g)
        · rw [if_pos c2, h58, if_neg]
          rintro ⟨-, q⟩
          have h1 := i_le.mp c2
          have h2 := i_lt.mp q
          omega
        · rw [if_neg c2, if_pos ⟨nI_pos' (by omega), i_lt.mpr (i_nle.mp c2)⟩]
          rfl
    unfold shM shadeS
    rw [if_neg (inB_nneg hs)]
    by_cases c0 : σ.1 48 g = 0
    · rw [if_pos c0, h33 (-1) (fun q => absurd (by decide) q)]
      unfold frN
      rw [if_pos c0]
    · rw [if_neg c0, m_whoIsOn σ _ hn, bd2_eq, h33 _ (fun q => by obtain ⟨j, h1, h2, -⟩ := whoN_cl (by omega) q; exact ⟨j, h1, h2⟩)]
      unfold frN
      rw [if_neg c0]
theorem longN_cl {sp sh : Nat → Int32} : ∀ {n : Nat}, n < 2 ^ 31 → ¬ longN sp sh n < 0 → ∃ g, g < n ∧ longN sp sh n = nI g := by
  intro n
  induction n with
  | zero => intro _ h; exact absurd (show (-1 : Int32) < 0 by decide) h
  | succ n ih =>
    intro hn h
    by_cases c : ¬ sp n < 0 ∧ (longN sp sh n < 0 ∨ sh (longN sp sh n).toNatClampNeg < sh n)
    · exact ⟨n, Nat.lt_succ_self n, if_pos c⟩
    · have e : longN sp sh (n + 1) = longN sp sh n := if_neg c
      rw [e] at h ⊢
      obtain ⟨g, h1, h2⟩ := ih (by omega) h
      exact ⟨g, by omega, h2⟩
theorem m_findAlms {σ : Sto} {n : Nat} (lg : Int32) (hv : Okv σ n) (hn : n ≤ 7) : f_X8_findAlms σ (nI n) lg = some (sc (sc σ 60 (fillN (shM σ n lg) (σ.1 60) n)) 61 (fillN (gfM σ n lg) (σ.1 61) n)) := by
  generalize hsh : shM σ n lg = sh
  unfold f_X8_findAlms
  simp only [bs_eq]
  have l1 : lpF (fun t => f_X8_findAlms_l8 (nI n) lg t.1 t.2.1 t.2.2.1 t.2.2.2) FU (σ, (0 : Int32), (-1 : Int32), (0 : Int32)) = some (sc σ 60 (fillN sh (σ.1 60) n), sumN sh n, longN (σ.1 48) sh n, nI n) := by
    have e0 : (σ, (0 : Int32), (-1 : Int32), (0 : Int32)) = (fun i => (sc σ 60 (fillN sh (σ.1 60) i), sumN sh i, longN (σ.1 48) sh i, nI i)) 0 := by
      show _ = (sc σ 60 (fillN sh (σ.1 60) 0), (0 : Int32), (-1 : Int32), (0 : Int32))
      rw [fillN_0, sc_self]
    rw [e0]
    refine lp_eq (fun i => (sc σ 60 (fillN sh (σ.1 60) i), sumN sh i, longN (σ.1 48) sh i, nI i)) n (FU_big (by omega)) (fun i hi => ?_) ?_
    · have hsO : f_X8_shadowOf (sc σ 60 (fillN sh (σ.1 60) i)) (nI i) (nI n) lg = some (sc σ 60 (fillN sh (σ.1 60) i), sh i) := by
        have := m_shadowOf (σ := sc σ 60 (fillN sh (σ.1 60) i)) lg hv hn hi
        rw [this]
        show some (_, shM σ n lg i) = _
        rw [hsh]
      have hb : inB (nI i) 7 = true := inB_n (by omega) (by omega)
      have ei : (nI i).toNatClampNeg = i := nI_clamp (by omega)
      show f_X8_findAlms_l8 (nI n) lg (sc σ 60 (fillN sh (σ.1 60) i)) (sumN sh i) (longN (σ.1 48) sh i) (nI i) = some (Sum.inl (sc σ 60 (fillN sh (σ.1 60) (i + 1)), sumN sh (i + 1), longN (σ.1 48) sh (i + 1), nI (i + 1)))
      unfold f_X8_findAlms_l8 f_X8_findAlms_j75 f_X8_findAlms_j71 f_X8_findAlms_j76 f_X8_findAlms_j90
      rw [if_neg (nI_ge hi (by omega)), hsO, bd2_eq]
      simp only [hb, gd_true, bs_eq, ei, su_sc, fillN_s, nI_1, if_true, show ((1 : Int32) = 0) = False from eq_false (by decide), if_false]
      have r60 : (sc σ 60 (fillN sh (σ.1 60) (i + 1))).1 60 i = sh i := by rw [sc_same]; exact fillN_in (Nat.lt_succ_self i)
      have r48 : (sc σ 60 (fillN sh (σ.1 60) (i + 1))).1 48 i = σ.1 48 i := rfl
      rw [r60, r48]
      have es : sumN sh i + sh i = sumN sh (i + 1) := rfl
      rw [es]
      by_cases c1 : σ.1 48 i < 0
      · have el : longN (σ.1 48) sh (i + 1) = longN (σ.1 48) sh i := if_neg (fun q => q.1 c1)
        rw [if_pos c1, el]
      · rw [if_neg c1]
        by_cases c2 : longN (σ.1 48) sh i < 0
        · have el : longN (σ.1 48) sh (i + 1) = nI i := if_pos ⟨c1, Or.inl c2⟩
          rw [if_pos c2, el]
        · rw [if_neg c2]
          obtain ⟨j, hj, ej⟩ := longN_cl (sp := σ.1 48) (sh := sh) (n := i) (by omega) c2
          have hbj : inB (longN (σ.1 48) sh i) 7 = true := by rw [ej]; exact inB_n (by omega) (by omega)
          have r60j : (sc σ 60 (fillN sh (σ.1 60) (i + 1))).1 60 (longN (σ.1 48) sh i).toNatClampNeg = sh (longN (σ.1 48) sh i).toNatClampNeg := by
            rw [sc_same, ej, nI_clamp (by omega)]; exact fillN_in (by omega)
          rw [hbj, gd_true, r60j]
          by_cases c3 : sh i ≤ sh (longN (σ.1 48) sh i).toNatClampNeg
          · have el : longN (σ.1 48) sh (i + 1) = longN (σ.1 48) sh i := if_neg (fun q => by
              rcases q.2 with q | q
              · exact c2 q
              · have h1 := i_le.mp c3
                have h2 := i_lt.mp q
                omega)
            rw [if_pos c3, el]
          · have el : longN (σ.1 48) sh (i + 1) = nI i := if_pos ⟨c1, Or.inr (i_lt.mpr (i_nle.mp c3))⟩
            rw [if_neg c3, el]
    · show f_X8_findAlms_l8 (nI n) lg (sc σ 60 (fillN sh (σ.1 60) n)) (sumN sh n) (longN (σ.1 48) sh n) (nI n) = _
      unfold f_X8_findAlms_l8
      rw [if_pos (nI_le (Nat.le_refl n) (by omega))]
  rw [l1, bE3_eq]
  generalize hτ : sc σ 60 (fillN sh (σ.1 60) n) = τ
  have t61 : τ.1 61 = σ.1 61 := by rw [← hτ]; rfl
  have hgf : gfM σ n lg = giftS (σ.1 39 18) (σ.1 48) sh n := by unfold gfM; rw [hsh]
  have tsh : ∀ j, j < n → τ.1 60 j = sh j := fun j hj => by rw [← hτ, sc_same]; exact fillN_in hj
  have tlw : τ.1 39 18 = σ.1 39 18 := by rw [← hτ]; rfl
  have l2 : lpF (fun t => f_X8_findAlms_l101 (nI n) (sumN sh n) (longN (σ.1 48) sh n) t.1 t.2) FU (τ, (0 : Int32)) = some (sc τ 61 (fillN (gfM σ n lg) (σ.1 61) n), nI n) := by
    have e0 : (τ, (0 : Int32)) = (fun i => (sc τ 61 (fillN (gfM σ n lg) (σ.1 61) i), nI i)) 0 := by
      show _ = (sc τ 61 (fillN (gfM σ n lg) (σ.1 61) 0), (0 : Int32))
      rw [fillN_0, ← t61, sc_self]
    rw [e0]
    refine lp_eq (fun i => (sc τ 61 (fillN (gfM σ n lg) (σ.1 61) i), nI i)) n (FU_big (by omega)) (fun i hi => ?_) ?_
    · have hb : inB (nI i) 7 = true := inB_n (by omega) (by omega)
      have ei : (nI i).toNatClampNeg = i := nI_clamp (by omega)
      show f_X8_findAlms_l101 (nI n) (sumN sh n) (longN (σ.1 48) sh n) (sc τ 61 (fillN (gfM σ n lg) (σ.1 61) i)) (nI i) = some (Sum.inl (sc τ 61 (fillN (gfM σ n lg) (σ.1 61) (i + 1)), nI (i + 1)))
      have key : ∀ v : Int32, v = gfM σ n lg i → f_X8_findAlms_j177 (sc τ 61 (fillN (gfM σ n lg) (σ.1 61) i)) (nI n) (sumN sh n) (longN (σ.1 48) sh n) (nI i) v (nI i) = some (Sum.inl (sc τ 61 (fillN (gfM σ n lg) (σ.1 61) (i + 1)), nI (i + 1))) := by
        intro v hv2
        unfold f_X8_findAlms_j177
        rw [hb, gd_true, bs_eq, bs_eq, ei, su_sc, hv2, fillN_s, nI_1]
      unfold f_X8_findAlms_l101
      have r18 : (sc τ 61 (fillN (gfM σ n lg) (σ.1 61) i)).1 39 18 = σ.1 39 18 := tlw
      have r60 : (sc τ 61 (fillN (gfM σ n lg) (σ.1 61) i)).1 60 i = sh i := tsh i hi
      rw [if_neg (nI_ge hi (by omega)), r18]
      simp only [hb, gd_true, ei, r60]
      have hgi : gfM σ n lg i = giftS (σ.1 39 18) (σ.1 48) sh n i := by rw [hgf]
      by_cases c0 : σ.1 39 18 = 0
      · rw [if_pos c0]
        refine key _ ?_
        rw [hgi]; unfold giftS; rw [if_pos c0]
      · rw [if_neg c0]
        by_cases c1 : σ.1 39 18 = 1
        · rw [if_pos c1]
          by_cases c2 : nI i = longN (σ.1 48) sh n
          · rw [if_pos c2]
            refine key _ ?_
            rw [hgi]; unfold giftS; rw [if_neg c0, if_pos c1, if_pos c2]
          · rw [if_neg c2]
            refine key _ ?_
            rw [hgi]; unfold giftS; rw [if_neg c0, if_pos c1, if_neg c2]
        · rw [if_neg c1]
          by_cases c2 : sh i ≤ 50
          · rw [if_pos c2]
            refine key _ ?_
            rw [hgi]; unfold giftS; rw [if_neg c0, if_neg c1, if_pos c2]
          · rw [if_neg c2]
            refine key _ ?_
            rw [hgi]; unfold giftS; rw [if_neg c0, if_neg c1, if_neg c2]
    · show f_X8_findAlms_l101 (nI n) (sumN sh n) (longN (σ.1 48) sh n) (sc τ 61 (fillN (gfM σ n lg) (σ.1 61) n)) (nI n) = _
      unfold f_X8_findAlms_l101
      rw [if_pos (nI_le (Nat.le_refl n) (by omega))]
  rw [l2]
  rfl
theorem m_almsOfAll {σ : Sto} {n : Nat} (hv : Okv σ n) (hn : n ≤ 7) : f_X8_almsOfAll σ (nI n) = some (σ, sumN (fun g => σ.1 61 g - coM σ g) n) := by
  unfold f_X8_almsOfAll
  simp only [bs_eq]
  suffices hl : lpF (fun t => f_X8_almsOfAll_l4 (nI n) t.1 t.2.1 t.2.2) FU (σ, (0 : Int32), (0 : Int32)) = some (σ, sumN (fun g => σ.1 61 g - coM σ g) n, nI n) by
    rw [hl]; rfl
  refine lp_eq (fun i => (σ, sumN (fun g => σ.1 61 g - coM σ g) i, nI i)) n (FU_big (by omega)) (fun i hi => ?_) ?_
  · show f_X8_almsOfAll_l4 (nI n) σ (sumN (fun g => σ.1 61 g - coM σ g) i) (nI i) = some (Sum.inl (σ, sumN (fun g => σ.1 61 g - coM σ g) (i + 1), nI (i + 1)))
    unfold f_X8_almsOfAll_l4
    rw [if_neg (nI_ge hi (by omega)), m_almsN hv hn hi, bd2_eq, bs_eq, bs_eq, nI_1]
    rfl
  · show f_X8_almsOfAll_l4 (nI n) σ (sumN (fun g => σ.1 61 g - coM σ g) n) (nI n) = _
    unfold f_X8_almsOfAll_l4
    rw [if_pos (nI_le (Nat.le_refl n) (by omega))]
