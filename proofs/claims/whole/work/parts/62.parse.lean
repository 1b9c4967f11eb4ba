/-! square: the whole text, both ways -/
def D0 : Dr := (fun _ => 0, fun _ _ _ => 0)
def psS (t : Nat → Nat) (len : Nat) : Nat → Nat → Dr → (Nat × Nat) ⊕ Dr
  | 0, _, _ => .inl (1, 0)
  | n + 1, a, D => if runE bl t len a < len then (match clS t len (runE bl t len a) D with
    | .inl f => .inl f
    | .inr z => psS t len n z.1 z.2) else .inr D
theorem psS_end {t : Nat → Nat} {len n a : Nat} {D : Dr} (h : ¬ runE bl t len a < len) : psS t len (n + 1) a D = .inr D := if_neg h
theorem psS_f {t : Nat → Nat} {len n a : Nat} {D : Dr} {f : Nat × Nat} (h : runE bl t len a < len) (e : clS t len (runE bl t len a) D = .inl f) : psS t len (n + 1) a D = .inl f := by
  show (if _ then _ else _) = _
  rw [if_pos h, e]
theorem psS_go {t : Nat → Nat} {len n a a' : Nat} {D D' : Dr} (h : runE bl t len a < len) (e : clS t len (runE bl t len a) D = .inr (a', D')) : psS t len (n + 1) a D = psS t len n a' D' := by
  show (if _ then _ else _) = _
  rw [if_pos h, e]
theorem knF_k {D : Dr} {k : Nat} (hk5 : k ≤ 5) (ck : knF D k = 0) : k < 5 ∧ D.1 k < mstK k := by
  unfold knF at ck
  by_cases q : k = 5 ∨ (k = 0 ∧ 0 < moreD D)
  · rw [if_pos q] at ck; omega
  · rw [if_neg q] at ck
    by_cases q2 : mstK k ≤ D.1 k
    · rw [if_pos q2] at ck; omega
    · exact ⟨by omega, by omega⟩
theorem clS_ok {t : Nat → Nat} {len p a : Nat} {D D' : Dr} (hp : p ≤ len) (hB : DB D) (h : clS t len p D = .inr (a, D')) : p < a ∧ a ≤ len ∧ DB D' := by
  have hge := runE_ge lt t len p
  have hle := runE_le (P := lt) (t := t) hp
  rw [clS_eq rfl rfl] at h
  generalize runE lt t len p = e at *
  have hk5 := kdS_le t p e
  generalize kdS t p e = k at *
  by_cases ck : knF D k = 0
  · rw [if_neg (show ¬ ¬ knF D k = 0 from fun q => q ck)] at h
    obtain ⟨hk, hc⟩ := knF_k hk5 ck
    cases ef : fF t len k e (numK k) with
    | some f => rw [ef] at h; cases h
    | none =>
      rw [ef] at h
      dsimp only at h
      have hr := atS_rg (t := t) hle (numK k)
      have hq : atS t len e (numK k) ≤ endQ t len (atS t len e (numK k)) := runE_ge _ _ _ _
      by_cases cb : endQ t len (atS t len e (numK k)) < len ∧ t (endQ t len (atS t len e (numK k))) = 59
      · rw [if_pos cb] at h
        cases h
        exact ⟨by omega, by omega, hB.add hk hc (fun j hj => nmK_rg (fF_ok _ ef j hj))⟩
      · rw [if_neg cb] at h; cases h
  · rw [if_pos ck] at h; cases h
theorem clS_nz {t : Nat → Nat} {len p : Nat} {D : Dr} {f : Nat × Nat} (h : clS t len p D = .inl f) : 1 ≤ f.1 ∧ f.1 ≤ 3 := by
  rw [clS_eq rfl rfl] at h
  generalize runE lt t len p = e at *
  generalize kdS t p e = k at *
  by_cases ck : knF D k = 0
  · rw [if_neg (show ¬ ¬ knF D k = 0 from fun q => q ck)] at h
    cases ef : fF t len k e (numK k) with
    | some g =>
      rw [ef] at h
      cases h
      have := fF_nz _ _ ef
      omega
    | none =>
      rw [ef] at h
      dsimp only at h
      by_cases cb : endQ t len (atS t len e (numK k)) < len ∧ t (endQ t len (atS t len e (numK k))) = 59
      · rw [if_pos cb] at h; cases h
      · rw [if_neg cb] at h
        cases h
        exact ⟨Nat.le_refl 1, by show 1 ≤ 3; omega⟩
  · rw [if_pos ck] at h
    cases h
    have : knF D k ≤ 3 := by
      unfold knF
      split
      · omega
      · split <;> omega
    exact ⟨by show 1 ≤ knF D k; omega, this⟩
theorem DB_0 : DB D0 := fun k _ => ⟨Nat.zero_le _, fun i hi => absurd hi (Nat.not_lt_zero i)⟩
theorem c_read {X : Sto} {t : Nat → Nat} {len : Nat} (h : XC X t len) : Ok (f_X3_read_4 X) (fun Z => Fr (fun k j => PC k j ∨ (k = 4 ∧ j = 4)) X Z ∧ Z.1 4 4 = 0 ∧ (∀ D', psS t len 501 0 D0 = .inr D' → Z.1 4 5 = 0 ∧ Z.1 4 6 = -1 ∧ DC Z D') ∧ ∀ f, psS t len 501 0 D0 = .inl f → Z.1 4 5 = nI f.1 ∧ (1 ≤ f.1 ∧ f.1 ≤ 3) ∧ Z.1 4 6 = nI f.2) := by
  have hl := h.1
  have e500 : (500 : Int32) = nI 500 := rfl
  unfold f_X3_read_4 f_X2_clear_7
  rw [c_fill8, bd1_eq, bd1_eq, ok_bs, ok_bs, ok_bs]
  have hf0 : Fr PC X (su (su (su (sc X 8 (fillN (fun _ => 0) (X.1 8) 5)) 4 5 0) 4 6 (-1)) 4 2 0) := (((Fr.rf.sc (fun j => by unfold PC; omega)).su (by unfold PC; omega)).su (by unfold PC; omega)).su (by unfold PC; omega)
  have hD : DC (su (su (su (sc X 8 (fillN (fun _ => 0) (X.1 8) 5)) 4 5 0) 4 6 (-1)) 4 2 0) D0 := by
    refine ⟨fun k hk => ?_, fun k hk i hi => absurd hi (Nat.not_lt_zero i)⟩
    rw [su_at, if_neg (by omega), su_at, if_neg (by omega), su_at, if_neg (by omega), sc_same]
    exact fillN_in hk
  have x2 : (su (su (su (sc X 8 (fillN (fun _ => 0) (X.1 8) 5)) 4 5 0) 4 6 (-1)) 4 2 0).1 4 2 = nI 0 := by rw [su_at, if_pos ⟨rfl, rfl⟩]; rfl
  have x5 : (su (su (su (sc X 8 (fillN (fun _ => 0) (X.1 8) 5)) 4 5 0) 4 6 (-1)) 4 2 0).1 4 5 = 0 := by rw [su_at, if_neg (by omega), su_at, if_neg (by omega), su_at, if_pos ⟨rfl, rfl⟩]
  have x6 : (su (su (su (sc X 8 (fillN (fun _ => 0) (X.1 8) 5)) 4 5 0) 4 6 (-1)) 4 2 0).1 4 6 = -1 := by rw [su_at, if_neg (by omega), su_at, if_pos ⟨rfl, rfl⟩]
  generalize su (su (su (sc X 8 (fillN (fun _ => 0) (X.1 8) 5)) 4 5 0) 4 6 (-1)) 4 2 0 = X0 at *
  have h0 : XC X0 t len := h.fr hf0 (by unfold PC; omega) (by unfold PC; omega)
  rw [ok_bd1]
  refine ok_mono (c_skipBlanks h0 (Nat.zero_le len) x2) (fun X1 hX1 => ?_)
  obtain ⟨hf1, y2⟩ := hX1
  rw [ok_bs, ok_bE1]
  generalize hfin : psS t len 501 0 D0 = fin
  refine ok_mono (P := fun y => Fr PC X y.1 ∧ (∀ D', fin = .inr D' → y.1.1 4 5 = 0 ∧ y.1.1 4 6 = -1 ∧ DC y.1 D') ∧ ∀ f, fin = .inl f → y.1.1 4 5 = nI f.1 ∧ (1 ≤ f.1 ∧ f.1 ≤ 3) ∧ y.1.1 4 6 = nI f.2) ?_ (fun y hy => ?_)
  · refine lp_for (fun i x => x.2 = nI i ∧ Fr PC X x.1 ∧ ((∃ a D, i ≤ a ∧ a ≤ len ∧ DB D ∧ psS t len (501 - i) a D = fin ∧ x.1.1 4 5 = 0 ∧ x.1.1 4 6 = -1 ∧ x.1.1 4 2 = nI (runE bl t len a) ∧ DC x.1 D) ∨ ∃ f, fin = .inl f ∧ (1 ≤ f.1 ∧ f.1 ≤ 3) ∧ x.1.1 4 5 = nI f.1 ∧ x.1.1 4 6 = nI f.2)) 500 (FU_big (by omega)) ⟨rfl, hf0.tr (hf1.mono (fun k j q => by unfold PC; omega)), Or.inl ⟨0, D0, Nat.le_refl 0, Nat.zero_le len, DB_0, hfin, (hf1 4 5 (by omega)).trans x5, (hf1 4 6 (by omega)).trans x6, y2, hD.fr hf1 (by omega) (by omega)⟩⟩ ?_ ?_
    · rintro i ⟨Z, x⟩ hi ⟨ex, hf, hor⟩
      dsimp only at ex hf hor ⊢
      subst ex
      have hZ : XC Z t len := h.fr hf (by unfold PC; omega) (by unfold PC; omega)
      unfold f_X3_read_4_l28
      rw [e500, if_neg (nI_ge hi (by omega)), hZ.2.1]
      have e1 : 501 - i = (500 - i) + 1 := by omega
      rcases hor with ⟨a, D, q1, q2, q3, q4, q5, q6, q7, q8⟩ | ⟨f, q1, q2, q3, q4⟩
      · rw [q7]
        have hpl := runE_le (P := bl) (t := t) q2
        have hpg := runE_ge bl t len a
        rw [e1] at q4
        by_cases c : runE bl t len a < len
        · rw [if_neg (nI_ge c (by omega)), if_pos q5, ok_bd1]
          refine ok_mono (c_clause hZ hpl q7 q5 q8 q3) (fun W hW => ?_)
          obtain ⟨wf, ⟨b, hb, wb⟩, w0, w1⟩ := hW
          have hfW := hf.tr wf
          have hW1 : XC W t len := h.fr hfW (by unfold PC; omega) (by unfold PC; omega)
          rw [ok_bd1]
          refine ok_mono (c_skipBlanks hW1 hb wb) (fun V hV => ?_)
          obtain ⟨vf, v2⟩ := hV
          rw [ok_bs, ok_some, nI_1]
          refine Or.inl ⟨_, rfl, rfl, hfW.tr (vf.mono (fun k j q => by unfold PC; omega)), ?_⟩
          dsimp only
          cases ecl : clS t len (runE bl t len a) D with
          | inl f =>
            obtain ⟨r1, r2⟩ := w1 f ecl
            rw [psS_f c ecl] at q4
            exact Or.inr ⟨f, q4.symm, clS_nz ecl, (vf 4 5 (by omega)).trans r1, (vf 4 6 (by omega)).trans r2⟩
          | inr z =>
            obtain ⟨a', D'⟩ := z
            obtain ⟨r1, r2, r3, r4⟩ := w0 a' D' ecl
            rw [psS_go c ecl] at q4
            obtain ⟨s1, s2, s3⟩ := clS_ok hpl q3 ecl
            have eb : b = a' := (nI_eq (by omega) (by omega)).mp (wb.symm.trans r3)
            subst eb
            refine Or.inl ⟨b, D', by omega, s2, s3, ?_, (vf 4 5 (by omega)).trans r1, ((vf 4 6 (by omega)).trans r2).trans q6, v2, r4.fr vf (by omega) (by omega)⟩
            rw [show 501 - (i + 1) = 500 - i by omega]
            exact q4
        · rw [if_pos (nI_le (by omega) (by omega)), ok_some]
          rw [psS_end c] at q4
          refine Or.inr ⟨_, rfl, hf, fun D' z => ?_, fun f z => ?_⟩
          · rw [← q4] at z; cases z; exact ⟨q5, q6, q8⟩
          · rw [← q4] at z; cases z
      · have fin2 : Fr PC X Z ∧ (∀ D', fin = .inr D' → Z.1 4 5 = 0 ∧ Z.1 4 6 = -1 ∧ DC Z D') ∧ ∀ f, fin = .inl f → Z.1 4 5 = nI f.1 ∧ (1 ≤ f.1 ∧ f.1 ≤ 3) ∧ Z.1 4 6 = nI f.2 := by
          refine ⟨hf, fun D' z => ?_, fun g z => ?_⟩
          · rw [q1] at z; cases z
          · rw [q1] at z; cases z; exact ⟨q3, q2, q4⟩
        rw [q3, if_neg (show ¬ nI f.1 = (0 : Int32) from fun z => by have := (nI_eq (b := 0) (by omega) (by omega)).mp z; omega)]
        split
        · exact ok_some.mpr (Or.inr ⟨_, rfl, fin2⟩)
        · exact ok_some.mpr (Or.inr ⟨_, rfl, fin2⟩)
    · rintro ⟨Z, x⟩ ⟨ex, hf, hor⟩
      dsimp only at ex hf hor ⊢
      subst ex
      unfold f_X3_read_4_l28
      rw [e500, if_pos (nI_le (Nat.le_refl 500) (by omega)), ok_some]
      refine ⟨_, rfl, hf, fun D' z => ?_, fun f z => ?_⟩
      · rcases hor with ⟨a, D, q1, q2, q3, q4, q5, q6, q7, q8⟩ | ⟨f, q1, q2, q3, q4⟩
        · have hpg := runE_ge bl t len a
          have q4 : psS t len (0 + 1) a D = fin := q4
          rw [psS_end (by omega)] at q4
          rw [← q4] at z
          cases z
          exact ⟨q5, q6, q8⟩
        · rw [q1] at z; cases z
      · rcases hor with ⟨a, D, q1, q2, q3, q4, q5, q6, q7, q8⟩ | ⟨g, q1, q2, q3, q4⟩
        · have hpg := runE_ge bl t len a
          have q4 : psS t len (0 + 1) a D = fin := q4
          rw [psS_end (by omega)] at q4
          rw [← q4] at z
          cases z
        · rw [q1] at z; cases z; exact ⟨q3, q2, q4⟩
  · obtain ⟨Z, x⟩ := y
    obtain ⟨hf, a1, a2⟩ := hy
    dsimp only at hf a1 a2 ⊢
    rw [ok_bs, ok_some]
    refine ⟨(hf.mono (fun k j q => Or.inl q)).su (Or.inr ⟨rfl, rfl⟩), by rw [su_at, if_pos ⟨rfl, rfl⟩], fun D' z => ?_, fun f z => ?_⟩
    · obtain ⟨b1, b2, b3⟩ := a1 D' z
      refine ⟨?_, ?_, b3.fr (P := fun k j => k = 4 ∧ j = 4) (Fr.rf.su (by omega)) (by omega) (by omega)⟩
      · rw [su_at, if_neg (by omega)]; exact b1
      · rw [su_at, if_neg (by omega)]; exact b2
    · obtain ⟨b1, b2, b3⟩ := a2 f z
      refine ⟨?_, b2, ?_⟩
      · rw [su_at, if_neg (by omega)]; exact b1
      · rw [su_at, if_neg (by omega)]; exact b3
theorem DMr.fr {Y Z : Sto} {D : Dr} {r : Nat} {P : Nat → Nat → Prop} (h : DMr Y D r) (hf : Fr P Y Z) (hP : ∀ k j, P k j → k = 39 ∧ (j ≤ 27 ∨ 40 ≤ j)) : DMr Z D r := by
  have n : ∀ k j, ¬ (k = 39 ∧ (j ≤ 27 ∨ 40 ≤ j)) → ¬ P k j := fun k j q z => q (hP k j z)
  obtain ⟨d29, d0, d1, d2, d3, d4⟩ := h
  exact ⟨(hf 39 29 (n _ _ (by omega))).trans d29, d0.fr hf (n _ _ (by omega)), d1.fr hf (n _ _ (by omega)) (fun j => n _ _ (by omega)) (fun j => n _ _ (by omega)), d2.fr hf (n _ _ (by omega)) (fun j => n _ _ (by omega)) (fun j => n _ _ (by omega)) (fun j => n _ _ (by omega)), d3.fr hf (n _ _ (by omega)) (fun j => n _ _ (by omega)), d4.fr hf (n _ _ (by omega)) (fun j => n _ _ (by omega)) (fun j => n _ _ (by omega))⟩
theorem m_readAll {Y : Sto} {t : Nat → Nat} {len : Nat} (h : XM Y t len) (e22 : Y.1 39 22 = -1) (e23 : Y.1 39 23 = nI 0) (hD : DMr Y D0 0) : Ok (lpF (fun t => f_X8_square_l42 t.1 t.2) FU (Y, (0 : Int32))) (fun y => Fr PM Y y.1 ∧ (∀ D', psS t len 501 0 D0 = .inr D' → y.2 = 0 ∧ y.1.1 39 22 = -1 ∧ DMr y.1 D' (moreD D') ∧ DB D') ∧ ∀ f, psS t len 501 0 D0 = .inl f → y.2 = nI f.1 ∧ y.1.1 39 22 = nI f.2) := by
  have hl := h.1
  generalize hfin : psS t len 501 0 D0 = fin
  refine lp_for (fun i x => Fr PM Y x.1 ∧ ((∃ a D, i ≤ a ∧ a ≤ len ∧ DB D ∧ psS t len (501 - i) a D = fin ∧ x.2 = 0 ∧ x.1.1 39 22 = -1 ∧ x.1.1 39 23 = nI a ∧ DMr x.1 D (moreD D)) ∨ ∃ f, fin = .inl f ∧ (1 ≤ f.1 ∧ f.1 ≤ 3) ∧ x.2 = nI f.1 ∧ x.1.1 39 22 = nI f.2)) 501 (FU_big (by omega)) ⟨Fr.rf, Or.inl ⟨0, D0, Nat.le_refl 0, Nat.zero_le len, DB_0, hfin, rfl, e22, e23, hD⟩⟩ ?_ ?_
  · rintro i ⟨Z, x⟩ hi ⟨hf, hor⟩
    dsimp only at hf hor ⊢
    unfold f_X8_square_l42
    rcases hor with ⟨a, D, q1, q2, q3, q4, q5, q6, q7, q8⟩ | ⟨f, q1, q2, q3, q4⟩
    · have hZ : XM Z t len := h.fr hf (by unfold PM; omega) (by unfold PM; omega)
      have hpl := runE_le (P := bl) (t := t) q2
      have hpg := runE_ge bl t len a
      have hno := (runE_is bl t len a).2.2
      have e1 : 501 - i = (500 - i) + 1 := by omega
      rw [e1] at q4
      rw [if_pos q5, ok_bd2]
      refine ok_mono (m_here hZ q2 q7) (fun y hy => ?_)
      obtain ⟨W, v⟩ := y
      obtain ⟨wf, w23, wv⟩ := hy
      dsimp only at wf w23 wv ⊢
      have hfW : Fr PM Y W := hf.tr (wf.mono (fun k j q => by unfold PM; omega))
      have hW : XM W t len := h.fr hfW (by unfold PM; omega) (by unfold PM; omega)
      have wD : DMr W D (moreD D) := q8.fr wf (fun k j q => by omega)
      have w22 : W.1 39 22 = -1 := (wf 39 22 (by omega)).trans q6
      subst wv
      unfold hrV
      by_cases c : runE bl t len a < len
      · have h255 := (hZ.2.2 _ c).2
        rw [if_pos c, if_neg (nI_pos (by omega)), ok_bd2]
        refine ok_mono (m_clause hW c (fun q => hno ⟨c, decide_eq_true q⟩) w23 wD q3) (fun y hy => ?_)
        obtain ⟨V, u⟩ := y
        obtain ⟨vf, v0, v1⟩ := hy
        dsimp only at vf v0 v1 ⊢
        rw [ok_bs, ok_some]
        refine Or.inl ⟨_, rfl, hfW.tr vf, ?_⟩
        dsimp only
        cases ecl : clS t len (runE bl t len a) D with
        | inl f =>
          obtain ⟨r1, r2⟩ := v1 f ecl
          rw [psS_f c ecl] at q4
          exact Or.inr ⟨f, q4.symm, clS_nz ecl, r1, r2⟩
        | inr z =>
          obtain ⟨a', D'⟩ := z
          obtain ⟨r1, r2, r3, r4⟩ := v0 a' D' ecl
          rw [psS_go c ecl] at q4
          obtain ⟨s1, s2, s3⟩ := clS_ok hpl q3 ecl
          refine Or.inl ⟨a', D', by omega, s2, s3, ?_, r1, r2.trans w22, r3, r4⟩
          rw [show 501 - (i + 1) = 500 - i by omega]
          exact q4
      · rw [if_neg c, if_pos (by decide), ok_some]
        rw [psS_end c] at q4
        refine Or.inr ⟨_, rfl, hfW, fun D' z => ?_, fun f z => ?_⟩
        · rw [← q4] at z; cases z; exact ⟨q5, w22, wD, q3⟩
        · rw [← q4] at z; cases z
    · rw [q3, if_neg (show ¬ nI f.1 = (0 : Int32) from fun z => by have := (nI_eq (b := 0) (by omega) (by omega)).mp z; omega), ok_some]
      refine Or.inr ⟨_, rfl, hf, fun D' z => ?_, fun g z => ?_⟩
      · rw [q1] at z; cases z
      · rw [q1] at z; cases z; exact ⟨rfl, q4⟩
  · rintro ⟨Z, x⟩ ⟨hf, hor⟩
    dsimp only at hf hor ⊢
    rcases hor with ⟨a, D, q1, q2, q3, q4, q5, q6, q7, q8⟩ | ⟨f, q1, q2, q3, q4⟩
    · omega
    · unfold f_X8_square_l42
      rw [q3, if_neg (show ¬ nI f.1 = (0 : Int32) from fun z => by have := (nI_eq (b := 0) (by omega) (by omega)).mp z; omega), ok_some]
      refine ⟨_, rfl, hf, fun D' z => ?_, fun g z => ?_⟩
      · rw [q1] at z; cases z
      · rw [q1] at z; cases z; exact ⟨rfl, q4⟩
