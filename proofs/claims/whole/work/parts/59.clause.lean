/-! square: a clause, the class's way -/
abbrev Dr := (Nat → Nat) × (Nat → Nat → Nat → Nat)
def addD (D : Dr) (k : Nat) (v : Nat → Nat) : Dr := (fun k' => if k' = k then D.1 k + 1 else D.1 k', fun k' i j => if k' = k ∧ i = D.1 k then v j else D.2 k' i j)
def moreD (D : Dr) : Nat := D.1 1 + D.1 2 + D.1 3 + D.1 4
def knF (D : Dr) (k : Nat) : Nat := if k = 5 ∨ (k = 0 ∧ 0 < moreD D) then 1 else if mstK k ≤ D.1 k then 3 else 0
def endQ (t : Nat → Nat) (len a : Nat) : Nat := runE bl t len a
def clS (t : Nat → Nat) (len p : Nat) (D : Dr) : (Nat × Nat) ⊕ (Nat × Dr) :=
  if ¬ knF D (kdS t p (runE lt t len p)) = 0 then .inl (knF D (kdS t p (runE lt t len p)), p)
  else match fF t len (kdS t p (runE lt t len p)) (runE lt t len p) (numK (kdS t p (runE lt t len p))) with
    | some f => .inl f
    | none => if endQ t len (atS t len (runE lt t len p) (numK (kdS t p (runE lt t len p)))) < len ∧ t (endQ t len (atS t len (runE lt t len p) (numK (kdS t p (runE lt t len p))))) = 59 then .inr (endQ t len (atS t len (runE lt t len p) (numK (kdS t p (runE lt t len p)))) + 1, addD D (kdS t p (runE lt t len p)) (fun j => nmV t len (atS t len (runE lt t len p) j))) else .inl (1, endQ t len (atS t len (runE lt t len p) (numK (kdS t p (runE lt t len p)))))
theorem clS_eq {t : Nat → Nat} {len p e k : Nat} {D : Dr} (he : runE lt t len p = e) (hk : kdS t p e = k) : clS t len p D = if ¬ knF D k = 0 then .inl (knF D k, p) else match fF t len k e (numK k) with
    | some f => .inl f
    | none => if endQ t len (atS t len e (numK k)) < len ∧ t (endQ t len (atS t len e (numK k))) = 59 then .inr (endQ t len (atS t len e (numK k)) + 1, addD D k (fun j => nmV t len (atS t len e j))) else .inl (1, endQ t len (atS t len e (numK k))) := by
  subst he
  subst hk
  rfl
def DB (D : Dr) : Prop := ∀ k, k < 5 → D.1 k ≤ mstK k ∧ ∀ i, i < D.1 k → ∀ j, j < numK k → loK k j ≤ D.2 k i j ∧ D.2 k i j ≤ hiK k j
def DC (X : Sto) (D : Dr) : Prop := (∀ k, k < 5 → X.1 8 k = nI (D.1 k)) ∧ ∀ k, k < 5 → ∀ i, i < D.1 k → ∀ j, j < numK k → X.1 9 ((k * 6 + i) * 3 + j) = nI (D.2 k i j)
theorem DC.fr {X Z : Sto} {D : Dr} {P : Nat → Nat → Prop} (h : DC X D) (hf : Fr P X Z) (h1 : ∀ j, ¬ P 8 j) (h2 : ∀ j, ¬ P 9 j) : DC Z D := ⟨fun k hk => (hf 8 k (h1 k)).trans (h.1 k hk), fun k hk i hi j hj => (hf 9 _ (h2 _)).trans (h.2 k hk i hi j hj)⟩
theorem DB.add {D : Dr} {k : Nat} {v : Nat → Nat} (h : DB D) (hk : k < 5) (hc : D.1 k < mstK k) (hv : ∀ j, j < numK k → loK k j ≤ v j ∧ v j ≤ hiK k j) : DB (addD D k v) := by
  intro k' hk'
  by_cases c : k' = k
  · subst c
    refine ⟨?_, fun i hi j hj => ?_⟩
    · show (if k' = k' then D.1 k' + 1 else D.1 k') ≤ _
      rw [if_pos rfl]; omega
    · have hi : i < (if k' = k' then D.1 k' + 1 else D.1 k') := hi
      rw [if_pos rfl] at hi
      show loK k' j ≤ (if k' = k' ∧ i = D.1 k' then v j else D.2 k' i j) ∧ (if k' = k' ∧ i = D.1 k' then v j else D.2 k' i j) ≤ hiK k' j
      by_cases q : i = D.1 k'
      · rw [if_pos ⟨rfl, q⟩]; exact hv j hj
      · rw [if_neg (fun z => q z.2)]; exact (h k' hk').2 i (by omega) j hj
  · refine ⟨?_, fun i hi j hj => ?_⟩
    · show (if k' = k then D.1 k + 1 else D.1 k') ≤ _
      rw [if_neg c]; exact (h k' hk').1
    · have hi : i < (if k' = k then D.1 k + 1 else D.1 k') := hi
      rw [if_neg c] at hi
      show loK k' j ≤ (if k' = k ∧ i = D.1 k then v j else D.2 k' i j) ∧ (if k' = k ∧ i = D.1 k then v j else D.2 k' i j) ≤ hiK k' j
      rw [if_neg (fun z => c z.1)]
      exact (h k' hk').2 i hi j hj
theorem c_kindF {X : Sto} {D : Dr} {k : Nat} (h : DC X D) (hB : DB D) (hk : k ≤ 5) : f_X3_faultOfKind_4 X (kdI k) = some (X, nI (knF D k)) := by
  have cnt : ∀ j, j < 5 → D.1 j ≤ 6 := fun j hj => Nat.le_trans (hB j hj).1 (mst_le j hj).1
  have n1 := cnt 1 (by omega)
  have n2 := cnt 2 (by omega)
  have n3 := cnt 3 (by omega)
  have n4 := cnt 4 (by omega)
  have j21 : k < 5 → f_X3_faultOfKind_4_j21 X (nI k) = some (X, if mstK k ≤ D.1 k then 3 else 0) := by
    intro h5
    have nk := cnt k h5
    have mk := (mst_le k h5).1
    unfold f_X3_faultOfKind_4_j21 f_X3_faultOfKind_4_j42 f_X2_count_7
    rw [inB_n h5 (by omega), gd_true, bd2_eq, nI_clamp (show k < 2 ^ 31 by omega), show inB (nI k) (sLn 0) = true from inB_n (show k < 5 from h5) (show 5 < 2 ^ 31 by omega), gd_true, tb_0 k h5, h.1 k h5]
    by_cases c : mstK k ≤ D.1 k
    · rw [if_pos c, if_neg (fun q => by have := (nI_ltI (by omega) (by omega)).mp q; omega)]
    · rw [if_neg c, if_pos ((nI_ltI (by omega) (by omega)).mpr (by omega))]
  unfold f_X3_faultOfKind_4 f_X3_faultOfKind_4_j19 knF
  by_cases c5 : k = 5
  · subst c5
    rw [if_pos (show kdI 5 = -1 from rfl), if_pos (Or.inl rfl)]
    rfl
  · have h5 : k < 5 := by omega
    have ek : kdI k = nI k := if_pos h5
    rw [ek, if_neg (nI_ne_m1 (by omega)), j21 h5]
    by_cases c0 : k = 0
    · subst c0
      have hy : f_X2_hasMoreThanYear_7 X = some (X, if 0 < moreD D then 1 else 0) := by
        unfold f_X2_hasMoreThanYear_7 f_X2_hasMoreThanYear_7_j35
        have b1 : inB (1 : Int32) 5 = true := by decide
        have b2 : inB (2 : Int32) 5 = true := by decide
        have b3 : inB (3 : Int32) 5 = true := by decide
        have b4 : inB (4 : Int32) 5 = true := by decide
        have k1 : (1 : Int32).toNatClampNeg = 1 := rfl
        have k2 : (2 : Int32).toNatClampNeg = 2 := rfl
        have k3 : (3 : Int32).toNatClampNeg = 3 := rfl
        have k4 : (4 : Int32).toNatClampNeg = 4 := rfl
        have z0 : zB (0 : Int32) = true := by decide
        have z1 : zB (1 : Int32) = true := by decide
        rw [b1, b2, b3, b4, k1, k2, k3, k4, z0, z1, gd_true, gd_true, gd_true, gd_true, gd_true, gd_true, h.1 1 (by omega), h.1 2 (by omega), h.1 3 (by omega), h.1 4 (by omega), nI_add, nI_add, nI_add]
        have e0 : (0 : Int32) = nI 0 := rfl
        by_cases c : 0 < moreD D
        · rw [if_pos c, if_neg (show ¬ nI (D.1 1 + D.1 2 + D.1 3 + D.1 4) ≤ 0 from nI_ge (a := 0) c (by omega))]
        · rw [if_neg c, if_pos (show nI (D.1 1 + D.1 2 + D.1 3 + D.1 4) ≤ 0 from nI_le (b := 0) (by unfold moreD at c; omega) (by omega))]
      rw [if_pos (show nI 0 = 0 from rfl), hy, bd2_eq, j21 (by omega)]
      by_cases c : 0 < moreD D
      · rw [if_pos c, if_neg (by decide), if_pos (Or.inr ⟨rfl, c⟩)]
        rfl
      · rw [if_neg c, if_pos rfl, if_neg (show ¬ (0 = 5 ∨ 0 = 0 ∧ 0 < moreD D) from fun q => q.elim (fun z => by omega) (fun z => c z.2))]
        by_cases c2 : mstK 0 ≤ D.1 0
        · rw [if_pos c2, if_pos c2]; rfl
        · rw [if_neg c2, if_neg c2]; rfl
    · rw [if_neg (show ¬ nI k = (0 : Int32) from fun q => c0 ((nI_eq (b := 0) (by omega) (by omega)).mp q)), if_neg (show ¬ (k = 5 ∨ k = 0 ∧ 0 < moreD D) from fun q => q.elim c5 (fun z => c0 z.1))]
      by_cases c2 : mstK k ≤ D.1 k
      · rw [if_pos c2, if_pos c2]; rfl
      · rw [if_neg c2, if_neg c2]; rfl
theorem c_addC {X : Sto} {k c : Nat} (hk : k < 5) (h8 : X.1 8 k = nI c) (hc : c < mstK k) : f_X2_add_7_6 X (nI k) = some (su (sc X 9 (va_cpy (X.1 6) (X.1 9) 0 ((k * 6 + c) * 3) 3)) 8 k (nI (c + 1))) := by
  have hm := (mst_le k hk).1
  have e6 : (6 : Int32) = nI 6 := rfl
  have e3 : (3 : Int32) = nI 3 := rfl
  unfold f_X2_add_7_6 f_X2_add_7_6_j49
  have b5 : inB (nI k) 5 = true := inB_n hk (by omega)
  have bl0 : inB (nI k) (sLn 0) = true := inB_n (show k < 5 from hk) (show 5 < 2 ^ 31 by omega)
  have ck : (nI k).toNatClampNeg = k := nI_clamp (by omega)
  rw [b5, bl0, gd_true, gd_true, gd_true, ck, tb_0 k hk, h8, if_neg (nI_ge hc (by omega)), e6, e3, pk_mul, nI_add, pk_mul]
  simp only [bsN, gd_true]
  have hz : decide (0 ≤ ((0 : Int32)).toInt ∧ 0 ≤ (nI ((k * 6 + c) * 3)).toInt ∧ 0 ≤ (nI 3).toInt ∧ ((0 : Int32)).toInt + (nI 3).toInt ≤ 3 ∧ (nI ((k * 6 + c) * 3)).toInt + (nI 3).toInt ≤ 90) = true := by
    rw [nI_toInt (show (k * 6 + c) * 3 < 2 ^ 31 by omega), nI_toInt (show 3 < 2 ^ 31 by omega)]
    exact decide_eq_true ⟨by decide, by omega, by omega, by decide, by omega⟩
  rw [hz, gd_true, nI_clamp (show (k * 6 + c) * 3 < 2 ^ 31 by omega), nI_clamp (show 3 < 2 ^ 31 by omega)]
  have e8 : ∀ f, (sc X 9 f).1 8 k = nI c := fun f => h8
  rw [e8, nI_1]
  rfl
theorem c_endC {X : Sto} {t : Nat → Nat} {len a : Nat} (h : XC X t len) (ha : a ≤ len) (e2 : X.1 4 2 = nI a) : Ok (f_X3_readEndOfClause_4 X) (fun Z => Fr (fun k j => k = 4 ∧ (j = 2 ∨ j = 5 ∨ j = 6)) X Z ∧ (∃ b, b ≤ len ∧ Z.1 4 2 = nI b) ∧ ((endQ t len a < len ∧ t (endQ t len a) = 59) → Z.1 4 5 = X.1 4 5 ∧ Z.1 4 6 = X.1 4 6 ∧ Z.1 4 2 = nI (endQ t len a + 1)) ∧ (¬ (endQ t len a < len ∧ t (endQ t len a) = 59) → Z.1 4 5 = 1 ∧ Z.1 4 6 = nI (endQ t len a))) := by
  have hl := h.1
  have e59 : (59 : Int32) = nI 59 := rfl
  unfold f_X3_readEndOfClause_4
  rw [ok_bd1]
  refine ok_mono (c_skipBlanks h ha e2) (fun Z hZ => ?_)
  obtain ⟨hf, e⟩ := hZ
  have e : Z.1 4 2 = nI (endQ t len a) := e
  have hle : endQ t len a ≤ len := runE_le ha
  have hX := h.fr hf (by omega) (by omega)
  generalize endQ t len a = b at *
  have bad : ¬ (b < len ∧ t b = 59) → Ok (f_X3_readEndOfClause_4_j42 Z) (fun Z => Fr (fun k j => k = 4 ∧ (j = 2 ∨ j = 5 ∨ j = 6)) X Z ∧ (∃ b, b ≤ len ∧ Z.1 4 2 = nI b) ∧ ((b < len ∧ t b = 59) → Z.1 4 5 = X.1 4 5 ∧ Z.1 4 6 = X.1 4 6 ∧ Z.1 4 2 = nI (b + 1)) ∧ (¬ (b < len ∧ t b = 59) → Z.1 4 5 = 1 ∧ Z.1 4 6 = nI b)) := by
    intro no
    unfold f_X3_readEndOfClause_4_j42 f_X3_readEndOfClause_4_j51
    rw [c_noteFault, bd1_eq, e, ok_some]
    refine ⟨((hf.mono (fun k j q => by omega)).su (by omega)).su (by omega), ⟨b, hle, by rw [su_at, if_neg (by omega), su_at, if_neg (by omega)]; exact e⟩, fun q => absurd q no, fun _ => ⟨?_, ?_⟩⟩
    · rw [su_at, if_neg (by omega), su_at, if_pos ⟨rfl, rfl⟩]
    · rw [su_at, if_pos ⟨rfl, rfl⟩]
  rw [hX.2.1, e]
  by_cases c : b < len
  · have h255 := (hX.2.2 b c).2
    rw [if_neg (nI_ge c (by omega)), inB_n (show b < 500 by omega) (by omega), gd_true, nI_clamp (show b < 2 ^ 31 by omega), (hX.2.2 b c).1, e59]
    by_cases c2 : t b = 59
    · unfold f_X3_readEndOfClause_4_j51
      rw [if_pos (by rw [c2]), ok_bs, ok_some, nI_1]
      refine ⟨(hf.mono (fun k j q => by omega)).su (by omega), ⟨b + 1, by omega, by rw [su_at, if_pos ⟨rfl, rfl⟩]⟩, fun _ => ⟨?_, ?_, ?_⟩, fun q => absurd ⟨c, c2⟩ q⟩
      · rw [su_at, if_neg (by omega)]; exact hf 4 5 (by omega)
      · rw [su_at, if_neg (by omega)]; exact hf 4 6 (by omega)
      · rw [su_at, if_pos ⟨rfl, rfl⟩]
    · rw [if_neg (fun q => c2 ((nI_eq (by omega) (by omega)).mp q))]
      exact bad (fun q => c2 q.2)
  · rw [if_pos (nI_le (by omega) (by omega))]
    exact bad (fun q => c q.1)
def PC (k j : Nat) : Prop := (k = 4 ∧ (j = 2 ∨ j = 5 ∨ j = 6)) ∨ k = 6 ∨ k = 8 ∨ k = 9
theorem c_clause {X : Sto} {t : Nat → Nat} {len p : Nat} {D : Dr} (h : XC X t len) (hp : p ≤ len) (e2 : X.1 4 2 = nI p) (e5 : X.1 4 5 = 0) (hD : DC X D) (hB : DB D) : Ok (f_X3_readClause_4 X) (fun Z => Fr PC X Z ∧ (∃ b, b ≤ len ∧ Z.1 4 2 = nI b) ∧ (∀ a D', clS t len p D = .inr (a, D') → Z.1 4 5 = 0 ∧ Z.1 4 6 = X.1 4 6 ∧ Z.1 4 2 = nI a ∧ DC Z D') ∧ ∀ f, clS t len p D = .inl f → Z.1 4 5 = nI f.1 ∧ Z.1 4 6 = nI f.2) := by
  have hl := h.1
  unfold f_X3_readClause_4 f_X3_readClause_4_j116
  rw [ok_bs, e2, ok_bd1]
  refine ok_mono (c_skipLetters h hp e2) (fun X1 hX1 => ?_)
  obtain ⟨hf1, ee⟩ := hX1
  have h1 := h.fr hf1 (by omega) (by omega)
  have hD1 := hD.fr hf1 (by omega) (by omega)
  have hge := runE_ge lt t len p
  have hle := runE_le (P := lt) (t := t) hp
  generalize he : runE lt t len p = e at *
  have x5 : X1.1 4 5 = 0 := (hf1 4 5 (by omega)).trans e5
  rw [ee, ok_bd2]
  refine ok_mono (c_kindOfWord h1 hge hle) (fun y hy => ?_)
  subst hy
  dsimp only
  have hk5 := kdS_le t p e
  generalize hk : kdS t p e = k at *
  rw [clS_eq he hk, ok_bs, c_kindF hD1 hB hk5, bd2_eq, ok_bs]
  by_cases ck : knF D k = 0
  · have hk4 : k < 5 := by
      unfold knF at ck
      by_cases q : k = 5
      · rw [if_pos (Or.inl q)] at ck; omega
      · omega
    have hc : D.1 k < mstK k := by
      unfold knF at ck
      by_cases q : k = 5 ∨ (k = 0 ∧ 0 < moreD D)
      · rw [if_pos q] at ck; omega
      · rw [if_neg q] at ck
        by_cases q2 : mstK k ≤ D.1 k
        · rw [if_pos q2] at ck; omega
        · omega
    have ekd : kdI k = nI k := if_pos hk4
    rw [if_neg (show ¬ ¬ knF D k = 0 from fun q => q ck), ck, if_pos (show nI 0 = 0 from rfl), ok_bs, ok_bE1, ekd]
    refine ok_mono (c_nums h1 hle ee x5 hk4) (fun y hy => ?_)
    obtain ⟨Z, x⟩ := y
    obtain ⟨hf, hb, hn, hs⟩ := hy
    dsimp only at hf hb hn hs ⊢
    have hfa : Fr PC X Z := (hf1.mono (fun k j q => by unfold PC; omega)).tr (hf.mono (fun k j q => by unfold PC; omega))
    cases ef : fF t len k e (numK k) with
    | some f =>
      obtain ⟨q1, q2⟩ := hs f ef
      have hz := fF_nz _ f ef
      rw [q1, if_neg (fun q => by have := (nI_eq (b := 0) (by omega) (by omega)).mp q; omega), ok_some]
      dsimp only
      refine ⟨hfa, hb, fun a D' q => (by cases q), fun g q => ?_⟩
      cases q
      exact ⟨q1, q2⟩
    | none =>
      obtain ⟨q1, q2, q3, q4⟩ := hn ef
      have hZ := h1.fr hf (by omega) (by omega)
      have hDZ := hD1.fr hf (by omega) (by omega)
      have har := (atS_rg (t := t) hle (numK k)).2
      rw [q1, if_pos rfl, ok_bd1]
      dsimp only
      refine ok_mono (c_endC hZ har q3) (fun W hW => ?_)
      obtain ⟨wf, wb, w0, w1⟩ := hW
      have hDW := hDZ.fr wf (by omega) (by omega)
      generalize endQ t len (atS t len e (numK k)) = b at *
      rw [c_addC hk4 (hDW.1 k hk4) hc, bd1_eq, ok_some]
      have hfW : Fr PC X (su (sc W 9 (va_cpy (W.1 6) (W.1 9) 0 ((k * 6 + D.1 k) * 3) 3)) 8 k (nI (D.1 k + 1))) := ((hfa.tr (wf.mono (fun k j q => by unfold PC; omega))).sc (fun j => by unfold PC; omega)).su (by unfold PC; omega)
      by_cases cb : b < len ∧ t b = 59
      · rw [if_pos cb]
        obtain ⟨r1, r2, r3⟩ := w0 cb
        refine ⟨hfW, wb, fun a D' q => ?_, fun g q => (by cases q)⟩
        cases q
        refine ⟨r1.trans q1, (r2.trans q2).trans (hf1 4 6 (by omega)), r3, fun k' hk' => ?_, fun k' hk' i hi j hj => ?_⟩
        · rw [su_at]
          show _ = nI (if k' = k then D.1 k + 1 else D.1 k')
          by_cases c : k' = k
          · rw [if_pos ⟨rfl, c⟩, if_pos c]
          · rw [if_neg (fun z => c z.2), if_neg c]
            exact hDW.1 k' hk'
        · have hmk := (mst_le k hk4).1
          have hmk' := mst_le k' hk'
          have hi : i < (if k' = k then D.1 k + 1 else D.1 k') := hi
          have hcell : (su (sc W 9 (va_cpy (W.1 6) (W.1 9) 0 ((k * 6 + D.1 k) * 3) 3)) 8 k (nI (D.1 k + 1))).1 9 ((k' * 6 + i) * 3 + j) = va_cpy (W.1 6) (W.1 9) 0 ((k * 6 + D.1 k) * 3) 3 ((k' * 6 + i) * 3 + j) := rfl
          rw [hcell]
          unfold va_cpy
          show _ = nI (if k' = k ∧ i = D.1 k then _ else _)
          by_cases c : k' = k ∧ i = D.1 k
          · obtain ⟨c1, c2⟩ := c
            subst c1
            subst c2
            rw [if_pos ⟨by omega, by omega⟩, if_pos ⟨rfl, rfl⟩, show 0 + ((k' * 6 + D.1 k') * 3 + j - (k' * 6 + D.1 k') * 3) = j by omega, wf 6 j (by omega)]
            exact q4 j hj
          · have hi2 : i < D.1 k' := by
              by_cases c1 : k' = k
              · rw [if_pos c1] at hi
                subst c1
                have : ¬ i = D.1 k' := fun z => c ⟨rfl, z⟩
                omega
              · rw [if_neg c1] at hi
                exact hi
            have hci : D.1 k' ≤ 6 := Nat.le_trans (hB k' hk').1 (mst_le k' hk').1
            rw [if_neg c, if_neg (fun z => c (by omega))]
            exact hDW.2 k' hk' i hi2 j hj
      · rw [if_neg cb]
        obtain ⟨r1, r2⟩ := w1 cb
        refine ⟨hfW, wb, fun a D' q => (by cases q), fun g q => ?_⟩
        cases q
        exact ⟨r1, r2⟩
  · have hnz : ¬ nI (knF D k) = 0 := fun q => ck ((nI_eq (b := 0) (by unfold knF; split <;> (try split) <;> omega) (by omega)).mp q)
    rw [if_pos ck, if_neg hnz, c_noteFault, bd1_eq, ok_some]
    refine ⟨((hf1.mono (fun k j q => by unfold PC; omega)).su (by unfold PC; omega)).su (by unfold PC; omega), ⟨e, hle, by rw [su_at, if_neg (by omega), su_at, if_neg (by omega)]; exact ee⟩, fun a D' q => (by cases q), fun g q => ?_⟩
    cases q
    refine ⟨?_, ?_⟩
    · rw [su_at, if_neg (by omega), su_at, if_pos ⟨rfl, rfl⟩]
    · rw [su_at, if_pos ⟨rfl, rfl⟩]
