/-! square: a clause, the reference's way -/
theorem cd_0 : (27 : Int64) * ((27 : Int64) * (27 * ((121 : Int32).toInt64 - 96) + (101 : Int32).toInt64 - 96) + (97 : Int32).toInt64 - 96) + (114 : Int32).toInt64 - 96 = lN 495765 := by decide
theorem cd_1 : (27 : Int64) * ((27 : Int64) * (27 * ((98 : Int32).toInt64 - 96) + (101 : Int32).toInt64 - 96) + (108 : Int32).toInt64 - 96) + (108 : Int32).toInt64 - 96 = lN 43347 := by decide
theorem cd_2 : (27 : Int64) * ((27 : Int64) * (27 * ((115 : Int32).toInt64 - 96) + (112 : Int32).toInt64 - 96) + (111 : Int32).toInt64 - 96) + (116 : Int32).toInt64 - 96 = lN 386066 := by decide
theorem cd_3 : (27 : Int64) * ((27 : Int64) * ((27 : Int64) * ((27 : Int64) * (27 * ((98 : Int32).toInt64 - 96) + (101 : Int32).toInt64 - 96) + (103 : Int32).toInt64 - 96) + (103 : Int32).toInt64 - 96) + (97 : Int32).toInt64 - 96) + (114 : Int32).toInt64 - 96 = lN 31497948 := by decide
theorem cd_4 : (27 : Int64) * (27 * ((104 : Int32).toInt64 - 96) + (97 : Int32).toInt64 - 96) + (116 : Int32).toInt64 - 96 = lN 5879 := by decide
theorem m_tc (σ : Sto) : f_X8_takeClause σ = bd1 (f_X8_readWord σ) (fun σ1 => if (lg_cmp (σ1.2 39) (lN 495765)) = 0 then f_X8_takeClause_j150 σ1 0 else if (lg_cmp (σ1.2 39) (lN 43347)) = 0 then f_X8_takeClause_j150 σ1 1 else if (lg_cmp (σ1.2 39) (lN 386066)) = 0 then f_X8_takeClause_j150 σ1 2 else if (lg_cmp (σ1.2 39) (lN 31497948)) = 0 then f_X8_takeClause_j150 σ1 3 else if (lg_cmp (σ1.2 39) (lN 5879)) = 0 then f_X8_takeClause_j150 σ1 4 else f_X8_takeClause_j150 σ1 (-1)) := by
  have j : ∀ (σ : Sto) (x : Int32), ¬ x < 0 → f_X8_takeClause_j83 σ x = f_X8_takeClause_j150 σ x := fun σ x h => by
    unfold f_X8_takeClause_j83
    rw [bsN, if_neg h]
  have j1 : ∀ σ : Sto, f_X8_takeClause_j83 σ (-1) = if (lg_cmp (σ.2 39) (lN 31497948)) = 0 then f_X8_takeClause_j150 σ 3 else if (lg_cmp (σ.2 39) (lN 5879)) = 0 then f_X8_takeClause_j150 σ 4 else f_X8_takeClause_j150 σ (-1) := fun σ => by
    unfold f_X8_takeClause_j83 f_X8_code f_X8_more
    rw [bsN, if_pos (by decide)]
    simp only [bd2_eq]
    rw [cd_3, cd_4]
  unfold f_X8_takeClause f_X8_code f_X8_more
  congr 1
  funext σ1
  rw [← j1, ← j σ1 0 (by decide), ← j σ1 1 (by decide), ← j σ1 2 (by decide)]
  simp only [bd2_eq]
  rw [cd_0, cd_1, cd_2]
theorem m_endM {Z : Sto} {t : Nat → Nat} {len a : Nat} (h : XM Z t len) (ha : a ≤ len) (e2 : Z.1 39 23 = nI a) : Ok (f_X8_takeClause_j365 Z 0) (fun y => Fr (fun k j => k = 39 ∧ (j = 22 ∨ j = 23)) Z y.1 ∧ ((endQ t len a < len ∧ t (endQ t len a) = 59) → y.2 = 0 ∧ y.1.1 39 22 = Z.1 39 22 ∧ y.1.1 39 23 = nI (endQ t len a + 1)) ∧ (¬ (endQ t len a < len ∧ t (endQ t len a) = 59) → y.2 = 1 ∧ y.1.1 39 22 = nI (endQ t len a))) := by
  have e59 : (59 : Int32) = nI 59 := rfl
  have hl := h.1
  unfold f_X8_takeClause_j365 f_X8_takeClause_j391
  rw [ok_bs, if_pos rfl, ok_bd2]
  refine ok_mono (m_here h ha e2) (fun y hy => ?_)
  obtain ⟨W, v⟩ := y
  obtain ⟨hf, e, ev⟩ := hy
  dsimp only at hf e ev ⊢
  have e : W.1 39 23 = nI (endQ t len a) := e
  have ev : v = hrV t len (endQ t len a) := ev
  have hle : endQ t len a ≤ len := runE_le ha
  generalize endQ t len a = b at *
  subst ev
  unfold hrV
  by_cases c : b < len ∧ t b = 59
  · rw [if_pos c.1, c.2, if_pos (show nI 59 = 59 from rfl), ok_bs, ok_some]
    refine ⟨(hf.mono (fun k j q => by omega)).su (by omega), fun _ => ⟨rfl, ?_, ?_⟩, fun q => absurd ⟨c.1, rfl⟩ q⟩
    · rw [su_at, if_neg (by omega)]; exact hf 39 22 (by omega)
    · rw [su_at, if_pos ⟨rfl, rfl⟩, e, nI_1]
  · have hne : ¬ (if b < len then nI (t b) else -1) = (59 : Int32) := by
      by_cases c1 : b < len
      · rw [if_pos c1]
        have h255 := (h.2.2 b c1).2
        exact fun q => c ⟨c1, (nI_eq (b := 59) (by omega) (by omega)).mp q⟩
      · rw [if_neg c1]; decide
    rw [if_neg hne, m_fails, bd2_eq, e, ok_some]
    refine ⟨(hf.mono (fun k j q => by omega)).su (by omega), fun q => absurd q c, fun _ => ⟨rfl, ?_⟩⟩
    rw [su_at, if_pos ⟨rfl, rfl⟩]
theorem m_endF (Z : Sto) {x : Nat} (hx : x < 2 ^ 31) (h0 : ¬ x = 0) : f_X8_takeClause_j365 Z (nI x) = some (su Z 39 23 (Z.1 39 23 + 1), nI x) := by
  unfold f_X8_takeClause_j365 f_X8_takeClause_j391
  rw [bsN, if_neg (show ¬ nI x = (0 : Int32) from fun q => h0 ((nI_eq (b := 0) hx (by omega)).mp q))]
  rfl
/-- what is left of a clause once its kind is known -/
def rsS (t : Nat → Nat) (len k e : Nat) (D : Dr) : (Nat × Nat) ⊕ (Nat × Dr) := match fF t len k e (numK k) with
    | some f => .inl f
    | none => if endQ t len (atS t len e (numK k)) < len ∧ t (endQ t len (atS t len e (numK k))) = 59 then .inr (endQ t len (atS t len e (numK k)) + 1, addD D k (fun j => nmV t len (atS t len e j))) else .inl (1, endQ t len (atS t len e (numK k)))
theorem moreD_add {D : Dr} {k : Nat} {v : Nat → Nat} (hk : k < 5) : moreD (addD D k v) = moreD D + (if k = 0 then 0 else 1) := by
  have g : ∀ k', (addD D k v).1 k' = if k' = k then D.1 k + 1 else D.1 k' := fun k' => rfl
  unfold moreD
  rw [g 1, g 2, g 3, g 4]
  rcases (show k = 0 ∨ k = 1 ∨ k = 2 ∨ k = 3 ∨ k = 4 by omega) with e | e | e | e | e <;> subst e <;> simp <;> omega
theorem m_rest {k : Nat} {tk : Sto → Option (Sto × Int32)} (htk : TakeOk k tk) (hk : k < 5) {Y Z : Sto} {t : Nat → Nat} {len e : Nat} {D : Dr} (hf : Fr PM Y Z) (h : XM Z t len) (he : e ≤ len) (e2 : Z.1 39 23 = nI e) (e22 : Z.1 39 22 = Y.1 39 22) (hD : DMr Z D (moreD D + (if k = 0 then 0 else 1))) (hB : DB D) (hc : D.1 k < mstK k) : Ok (bd2 (tk Z) fun σ46 v47 => f_X8_takeClause_j365 σ46 v47) (fun y => Fr PM Y y.1 ∧ (∀ a D', rsS t len k e D = .inr (a, D') → y.2 = 0 ∧ y.1.1 39 22 = Y.1 39 22 ∧ y.1.1 39 23 = nI a ∧ DMr y.1 D' (moreD D')) ∧ ∀ f, rsS t len k e D = .inl f → y.2 = nI f.1 ∧ y.1.1 39 22 = nI f.2) := by
  rw [ok_bd2]
  refine ok_mono (htk Z t len e D _ h he e2 hD hB hc) (fun y hy => ?_)
  obtain ⟨W, v⟩ := y
  obtain ⟨wf, w0, w1⟩ := hy
  dsimp only at wf w0 w1 ⊢
  have hfa := hf.tr wf
  unfold rsS
  cases ef : fF t len k e (numK k) with
  | some f =>
    obtain ⟨q1, q2⟩ := w1 f ef
    have hz := fF_nz _ f ef
    rw [q1, m_endF W (by omega) (by omega), ok_some]
    dsimp only
    refine ⟨hfa.su (by unfold PM; omega), fun a D' q => (by cases q), fun g q => ?_⟩
    cases q
    refine ⟨rfl, ?_⟩
    rw [su_at, if_neg (by omega)]
    exact q2
  | none =>
    obtain ⟨q1, q2, q3, q4⟩ := w0 ef
    have hW : XM W t len := h.fr wf (by unfold PM; omega) (by unfold PM; omega)
    rw [q1]
    dsimp only
    refine ok_mono (m_endM hW (atS_rg he (numK k)).2 q3) (fun y hy => ?_)
    obtain ⟨V, u⟩ := y
    obtain ⟨vf, v0, v1⟩ := hy
    dsimp only at vf v0 v1 ⊢
    have hfv : Fr PM Y V := hfa.tr (vf.mono (fun k j q => by unfold PM; omega))
    generalize endQ t len (atS t len e (numK k)) = b at *
    by_cases cb : b < len ∧ t b = 59
    · rw [if_pos cb]
      obtain ⟨r1, r2, r3⟩ := v0 cb
      refine ⟨hfv, fun a D' q => ?_, fun g q => (by cases q)⟩
      cases q
      refine ⟨r1, (r2.trans q2).trans e22, r3, ?_⟩
      rw [moreD_add hk]
      obtain ⟨d29, d0, d1, d2, d3, d4⟩ := q4
      exact ⟨(vf 39 29 (by omega)).trans d29, d0.fr vf (by omega), d1.fr vf (by omega) (by omega) (by omega), d2.fr vf (by omega) (by omega) (by omega) (by omega), d3.fr vf (by omega) (by omega), d4.fr vf (by omega) (by omega) (by omega)⟩
    · rw [if_neg cb]
      obtain ⟨r1, r2⟩ := v1 cb
      refine ⟨hfv, fun a D' q => (by cases q), fun g q => ?_⟩
      cases q
      exact ⟨r1, r2⟩
theorem m_clause {Y : Sto} {t : Nat → Nat} {len p : Nat} {D : Dr} (h : XM Y t len) (hp : p < len) (hnb : ¬ t p = 32) (e2 : Y.1 39 23 = nI p) (hD : DMr Y D (moreD D)) (hB : DB D) : Ok (f_X8_takeClause Y) (fun y => Fr PM Y y.1 ∧ (∀ a D', clS t len p D = .inr (a, D') → y.2 = 0 ∧ y.1.1 39 22 = Y.1 39 22 ∧ y.1.1 39 23 = nI a ∧ DMr y.1 D' (moreD D')) ∧ ∀ f, clS t len p D = .inl f → y.2 = nI f.1 ∧ y.1.1 39 22 = nI f.2) := by
  have hl := h.1
  have cnt : ∀ j, j < 5 → D.1 j ≤ mstK j := fun j hj => (hB j hj).1
  have m1 : mstK 1 = 4 := rfl
  have m2 : mstK 2 = 6 := rfl
  have m3 : mstK 3 = 6 := rfl
  have m4 : mstK 4 = 4 := rfl
  have m0 : mstK 0 = 1 := rfl
  have n0 := cnt 0 (by omega)
  have n1 := cnt 1 (by omega)
  have n2 := cnt 2 (by omega)
  have n3 := cnt 3 (by omega)
  have n4 := cnt 4 (by omega)
  have hmore : moreD D ≤ 20 := by unfold moreD; omega
  rw [m_tc, ok_bd1]
  refine ok_mono (m_readWord h hp hnb e2) (fun Z hZ => ?_)
  obtain ⟨hf1, z23, z25, z2⟩ := hZ
  have hge := runE_ge lt t len p
  have hle := runE_le (P := lt) (t := t) (show p ≤ len by omega)
  have hlet : Lets t p (runE lt t len p - p) := fun i hi => of_decide_eq_true ((runE_is lt t len p).2.1 (p + i) (by omega) (by omega)).2
  rw [m_kind hlet z2 (fun σ x => f_X8_takeClause_j150 σ x), show p + (runE lt t len p - p) = runE lt t len p by omega]
  generalize he : runE lt t len p = e at *
  have hk5 := kdS_le t p e
  generalize hk : kdS t p e = k at *
  rw [clS_eq he hk]
  have hZ1 : XM Z t len := h.fr hf1 (by omega) (by omega)
  have hfP : Fr PM Y Z := hf1.mono (fun k j q => by unfold PM; omega)
  have z22 : Z.1 39 22 = Y.1 39 22 := hf1 39 22 (by omega)
  obtain ⟨d29, d0, d1, d2, d3, d4⟩ := hD
  have z29 : Z.1 39 29 = nI (moreD D) := (hf1 39 29 (by omega)).trans d29
  have z0 := d0.fr hf1 (by omega)
  have z1 := d1.fr hf1 (by omega) (by omega) (by omega)
  have z2' := d2.fr hf1 (by omega) (by omega) (by omega) (by omega)
  have z3 := d3.fr hf1 (by omega) (by omega)
  have z4 := d4.fr hf1 (by omega) (by omega) (by omega)
  -- a fault at the word
  have flt : ∀ x : Nat, knF D k = x → ¬ x = 0 → Ok (bd2 (f_X8_fails Z (nI x) (Z.1 39 23)) fun σ27 v28 => some (σ27, v28)) (fun y => Fr PM Y y.1 ∧ (∀ a D', (if ¬ knF D k = 0 then (Sum.inl (knF D k, p) : (Nat × Nat) ⊕ (Nat × Dr)) else rsS t len k e D) = .inr (a, D') → y.2 = 0 ∧ y.1.1 39 22 = Y.1 39 22 ∧ y.1.1 39 23 = nI a ∧ DMr y.1 D' (moreD D')) ∧ ∀ f, (if ¬ knF D k = 0 then (Sum.inl (knF D k, p) : (Nat × Nat) ⊕ (Nat × Dr)) else rsS t len k e D) = .inl f → y.2 = nI f.1 ∧ y.1.1 39 22 = nI f.2) := by
    intro x hx hx0
    rw [m_fails, bd2_eq, ok_some, hx, if_pos hx0, z23]
    refine ⟨hfP.su (by unfold PM; omega), fun a D' q => (by cases q), fun g q => ?_⟩
    cases q
    refine ⟨rfl, ?_⟩
    rw [su_at, if_pos ⟨rfl, rfl⟩]
  -- behind the word
  have go : ∀ (tk : Sto → Option (Sto × Int32)), TakeOk k tk → k < 5 → knF D k = 0 → D.1 k < mstK k → ∀ x : Nat, x = (if k = 0 then 0 else 1) → Ok (bd2 (tk (su (su Z 39 23 (nI e)) 39 29 (nI (moreD D) + nI x))) fun σ46 v47 => f_X8_takeClause_j365 σ46 v47) (fun y => Fr PM Y y.1 ∧ (∀ a D', (if ¬ knF D k = 0 then (Sum.inl (knF D k, p) : (Nat × Nat) ⊕ (Nat × Dr)) else rsS t len k e D) = .inr (a, D') → y.2 = 0 ∧ y.1.1 39 22 = Y.1 39 22 ∧ y.1.1 39 23 = nI a ∧ DMr y.1 D' (moreD D')) ∧ ∀ f, (if ¬ knF D k = 0 then (Sum.inl (knF D k, p) : (Nat × Nat) ⊕ (Nat × Dr)) else rsS t len k e D) = .inl f → y.2 = nI f.1 ∧ y.1.1 39 22 = nI f.2) := by
    intro tk htk hk4 ck hc x hx
    rw [if_neg (show ¬ ¬ knF D k = 0 from fun q => q ck), nI_add]
    have hfW : Fr (fun k j => k = 39 ∧ (j = 23 ∨ j = 29)) Z (su (su Z 39 23 (nI e)) 39 29 (nI (moreD D + x))) := (Fr.rf.su (by omega)).su (by omega)
    refine m_rest htk hk4 (hfP.tr (hfW.mono (fun k j q => by unfold PM; omega))) (hZ1.fr hfW (by omega) (by omega)) hle ?_ ((hfW 39 22 (by omega)).trans z22) ⟨?_, z0.fr hfW (by omega), z1.fr hfW (by omega) (by omega) (by omega), z2'.fr hfW (by omega) (by omega) (by omega) (by omega), z3.fr hfW (by omega) (by omega), z4.fr hfW (by omega) (by omega) (by omega)⟩ hB hc
    · rw [su_at, if_neg (by omega), su_at, if_pos ⟨rfl, rfl⟩]
    · rw [su_at, if_pos ⟨rfl, rfl⟩, hx]
  show Ok (f_X8_takeClause_j150 Z (kdI k)) (fun y => Fr PM Y y.1 ∧ (∀ a D', (if ¬ knF D k = 0 then (Sum.inl (knF D k, p) : (Nat × Nat) ⊕ (Nat × Dr)) else rsS t len k e D) = .inr (a, D') → y.2 = 0 ∧ y.1.1 39 22 = Y.1 39 22 ∧ y.1.1 39 23 = nI a ∧ DMr y.1 D' (moreD D')) ∧ ∀ f, (if ¬ knF D k = 0 then (Sum.inl (knF D k, p) : (Nat × Nat) ⊕ (Nat × Dr)) else rsS t len k e D) = .inl f → y.2 = nI f.1 ∧ y.1.1 39 22 = nI f.2)
  unfold f_X8_takeClause_j150
  rw [ok_bs]
  have kn0 : ∀ j, j < 5 → ¬ (j = 0 ∧ 0 < moreD D) → knF D j = if mstK j ≤ D.1 j then 3 else 0 := fun j h1 h2 => if_neg (fun q => q.elim (fun z => by omega) h2)
  rcases (show k = 5 ∨ k = 0 ∨ k = 1 ∨ k = 2 ∨ k = 3 ∨ k = 4 by omega) with ek | ek | ek | ek | ek | ek
  · subst ek
    rw [if_pos (show kdI 5 < 0 by decide)]
    exact flt 1 (if_pos (Or.inl rfl)) (by omega)
  · subst ek
    have e0 : kdI 0 = 0 := rfl
    rw [e0, if_neg (show ¬ (0 : Int32) < 0 by decide), if_pos rfl, z29]
    by_cases cm : 0 < moreD D
    · rw [if_neg (show ¬ nI (moreD D) ≤ 0 from nI_ge (a := 0) cm (by omega))]
      exact flt 1 (if_pos (Or.inr ⟨rfl, cm⟩)) (by omega)
    · rw [if_pos (show nI (moreD D) ≤ 0 from nI_le (b := 0) (by omega) (by omega))]
      have kn := kn0 0 (by omega) (fun q => cm q.2)
      unfold f_X8_takeClause_j176 f_X8_takeClause_j273
      rw [if_pos rfl]
      rcases z0 with ⟨a1, a2⟩ | ⟨a1, a2⟩
      · rw [a2, if_pos (by decide), ok_bs, if_pos rfl, ok_bs, if_pos rfl, z25]
        unfold f_X8_takeClause_j310
        rw [ok_bs, if_pos rfl, su_at, if_neg (by omega), z29]
        exact go f_X8_takeYear t_year (by omega) (by rw [kn, if_neg (by omega)]) (by omega) 0 rfl
      · have hv := (hB 0 (by omega)).2 0 (by omega) 0 (by decide)
        have l0 : loK 0 0 = 1 := rfl
        have h0 : hiK 0 0 = 60 := rfl
        rw [a2, if_neg (show ¬ nI (D.2 0 0 0) ≤ 0 from nI_ge (a := 0) (by omega) (by omega)), ok_bs, if_neg (by decide)]
        exact flt 3 (by rw [kn, if_pos (by omega)]) (by omega)
  · subst ek
    have e0 : kdI 1 = 1 := rfl
    have kn := kn0 1 (by omega) (by omega)
    unfold f_X8_takeClause_j176 f_X8_takeClause_j273 f_X8_takeClause_j310
    rw [e0, if_neg (show ¬ (1 : Int32) < 0 by decide), if_neg (show ¬ (1 : Int32) = 0 by decide), if_neg (show ¬ (1 : Int32) = 0 by decide), if_pos rfl, z1.1]
    by_cases c : D.1 1 = 4
    · rw [if_pos (show nI (D.1 1) = 4 by rw [c]; rfl), ok_bs, if_neg (by decide)]
      exact flt 3 (by rw [kn, if_pos (by omega)]) (by omega)
    · rw [if_neg (show ¬ nI (D.1 1) = 4 from fun q => c ((nI_eq (b := 4) (by omega) (by omega)).mp q)), ok_bs, if_pos rfl, ok_bs, if_neg (show ¬ (1 : Int32) = 0 by decide), z25, ok_bs, if_neg (show ¬ (1 : Int32) = 0 by decide), if_pos rfl, su_at, if_neg (by omega), z29]
      exact go f_X8_takeBell t_bell (by omega) (by rw [kn, if_neg (by omega)]) (by omega) 1 rfl
  · subst ek
    have e0 : kdI 2 = 2 := rfl
    have kn := kn0 2 (by omega) (by omega)
    unfold f_X8_takeClause_j176 f_X8_takeClause_j273 f_X8_takeClause_j310
    rw [e0, if_neg (show ¬ (2 : Int32) < 0 by decide), if_neg (show ¬ (2 : Int32) = 0 by decide), if_neg (show ¬ (2 : Int32) = 0 by decide), if_neg (show ¬ (2 : Int32) = 1 by decide), if_pos rfl, z2'.1]
    by_cases c : D.1 2 = 6
    · rw [if_pos (show nI (D.1 2) = 6 by rw [c]; rfl), ok_bs, if_neg (by decide)]
      exact flt 3 (by rw [kn, if_pos (by omega)]) (by omega)
    · rw [if_neg (show ¬ nI (D.1 2) = 6 from fun q => c ((nI_eq (b := 6) (by omega) (by omega)).mp q)), ok_bs, if_pos rfl, ok_bs, if_neg (show ¬ (2 : Int32) = 0 by decide), z25, ok_bs, if_neg (show ¬ (2 : Int32) = 0 by decide), if_neg (show ¬ (2 : Int32) = 1 by decide), if_pos rfl, su_at, if_neg (by omega), z29]
      exact go f_X8_takeSpot t_spot (by omega) (by rw [kn, if_neg (by omega)]) (by omega) 1 rfl
  · subst ek
    have e0 : kdI 3 = 3 := rfl
    have kn := kn0 3 (by omega) (by omega)
    unfold f_X8_takeClause_j176 f_X8_takeClause_j273 f_X8_takeClause_j310
    rw [e0, if_neg (show ¬ (3 : Int32) < 0 by decide), if_neg (show ¬ (3 : Int32) = 0 by decide), if_neg (show ¬ (3 : Int32) = 0 by decide), if_neg (show ¬ (3 : Int32) = 1 by decide), if_neg (show ¬ (3 : Int32) = 2 by decide), if_pos rfl, z3.1]
    by_cases c : D.1 3 = 6
    · rw [if_pos (show nI (D.1 3) = 6 by rw [c]; rfl), ok_bs, if_neg (by decide)]
      exact flt 3 (by rw [kn, if_pos (by omega)]) (by omega)
    · rw [if_neg (show ¬ nI (D.1 3) = 6 from fun q => c ((nI_eq (b := 6) (by omega) (by omega)).mp q)), ok_bs, if_pos rfl, ok_bs, if_neg (show ¬ (3 : Int32) = 0 by decide), z25, ok_bs, if_neg (show ¬ (3 : Int32) = 0 by decide), if_neg (show ¬ (3 : Int32) = 1 by decide), if_neg (show ¬ (3 : Int32) = 2 by decide), if_pos rfl, su_at, if_neg (by omega), z29]
      exact go f_X8_takeBeggar t_beggar (by omega) (by rw [kn, if_neg (by omega)]) (by omega) 1 rfl
  · subst ek
    have e0 : kdI 4 = 4 := rfl
    have kn := kn0 4 (by omega) (by omega)
    unfold f_X8_takeClause_j176 f_X8_takeClause_j273 f_X8_takeClause_j310
    rw [e0, if_neg (show ¬ (4 : Int32) < 0 by decide), if_neg (show ¬ (4 : Int32) = 0 by decide), if_neg (show ¬ (4 : Int32) = 0 by decide), if_neg (show ¬ (4 : Int32) = 1 by decide), if_neg (show ¬ (4 : Int32) = 2 by decide), if_neg (show ¬ (4 : Int32) = 3 by decide), z4.1]
    by_cases c : D.1 4 = 4
    · rw [if_pos (show nI (D.1 4) = 4 by rw [c]; rfl), ok_bs, if_neg (by decide)]
      exact flt 3 (by rw [kn, if_pos (by omega)]) (by omega)
    · rw [if_neg (show ¬ nI (D.1 4) = 4 from fun q => c ((nI_eq (b := 4) (by omega) (by omega)).mp q)), ok_bs, if_pos rfl, ok_bs, if_neg (show ¬ (4 : Int32) = 0 by decide), z25, ok_bs, if_neg (show ¬ (4 : Int32) = 0 by decide), if_neg (show ¬ (4 : Int32) = 1 by decide), if_neg (show ¬ (4 : Int32) = 2 by decide), if_neg (show ¬ (4 : Int32) = 3 by decide), su_at, if_neg (by omega), z29]
      exact go f_X8_takeHat t_hat (by omega) (by rw [kn, if_neg (by omega)]) (by omega) 1 rfl
