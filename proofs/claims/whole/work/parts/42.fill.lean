/-! standing: the class's search is the fold over its codes -/
/-- a prefix of t spots, l still to place -/
def PRE (ng m t q l U : Nat) : Prop := (∀ s, s < t → ∀ s', s' < t → dgT (ng + 1) t q s = dgT (ng + 1) t q s' → dgT (ng + 1) t q s < ng → s = s') ∧ cntR ng (dgT (ng + 1) t q) 0 t + l = m ∧ U < 64 ∧ ∀ g, g < ng → (U.testBit g = true ↔ ∃ s, s < t ∧ dgT (ng + 1) t q s = g)
/-- the codes of one digit more -/
theorem blk {B t k q d c : Nat} (hB : 0 < B) (h1 : (q * B + d) * B ^ k ≤ c) (h2 : c < (q * B + d) * B ^ k + B ^ k) : ∀ s, s < t + 1 → dgT B (t + 1 + k) c s = dgT B (t + 1) (q * B + d) s := by
  intro s hs
  obtain ⟨r, rfl⟩ : ∃ r, c = (q * B + d) * B ^ k + r := ⟨c - (q * B + d) * B ^ k, by omega⟩
  exact dgT_pre hB (by omega) hs
theorem cnt_blk {ng t k q d c : Nat} (hd : d < ng + 1) (h1 : (q * (ng + 1) + d) * (ng + 1) ^ k ≤ c) (h2 : c < (q * (ng + 1) + d) * (ng + 1) ^ k + (ng + 1) ^ k) : ∃ e, e ≤ k ∧ cntR ng (dgT (ng + 1) (t + 1 + k) c) 0 (t + 1 + k) = cntR ng (dgT (ng + 1) t q) 0 t + (if d < ng then 1 else 0) + e := by
  have hb := blk (t := t) (Nat.succ_pos ng) h1 h2
  refine ⟨cntR ng (dgT (ng + 1) (t + 1 + k) c) (0 + (t + 1)) k, cntR_le _ _ _ _, ?_⟩
  rw [cntR_add ng _ 0 (t + 1) k]
  have e1 : cntR ng (dgT (ng + 1) (t + 1 + k) c) 0 (t + 1) = cntR ng (dgT (ng + 1) (t + 1 + k) c) 0 t + (if dgT (ng + 1) (t + 1 + k) c (0 + t) < ng then 1 else 0) := rfl
  have e2 : cntR ng (dgT (ng + 1) (t + 1 + k) c) 0 t = cntR ng (dgT (ng + 1) t q) 0 t := cntR_cong (fun s _ hs => by
    rw [hb s (by omega)]
    exact dgT_old (Nat.succ_pos ng) hd (by omega))
  have e3 : dgT (ng + 1) (t + 1 + k) c (0 + t) = d := by
    rw [Nat.zero_add, hb t (by omega)]
    exact dgT_last (Nat.succ_pos ng) hd
  rw [e1, e2, e3]
theorem PRE.put {ng m t q l U g : Nat} (h : PRE ng m t q (l + 1) U) (hng : ng ≤ 6) (hg : g < ng) (hu : U.testBit g = false) : PRE ng m (t + 1) (q * (ng + 1) + g) l (U ||| 2 ^ g) := by
  obtain ⟨h1, h2, h3, h4⟩ := h
  have hB := Nat.succ_pos ng
  have old : ∀ s, s < t → dgT (ng + 1) (t + 1) (q * (ng + 1) + g) s = dgT (ng + 1) t q s := fun s hs => dgT_old hB (by omega) hs
  have last : dgT (ng + 1) (t + 1) (q * (ng + 1) + g) t = g := dgT_last hB (by omega)
  have nouse : ∀ s, s < t → ¬ dgT (ng + 1) t q s = g := fun s hs e => by
    have := (h4 g hg).mpr ⟨s, hs, e⟩
    rw [hu] at this
    cases this
  refine ⟨fun s hs s' hs' e hl => ?_, ?_, (mk_or U h3 g (by omega)).2, fun g' hg' => ?_⟩
  · by_cases c1 : s = t
    · subst c1
      by_cases c2 : s' = s
      · exact c2.symm
      · rw [last, old s' (by omega)] at e
        exact absurd e.symm (nouse s' (by omega))
    · by_cases c2 : s' = t
      · subst c2
        rw [last, old s (by omega)] at e
        exact absurd e (nouse s (by omega))
      · rw [old s (by omega), old s' (by omega)] at e
        rw [old s (by omega)] at hl
        exact h1 s (by omega) s' (by omega) e hl
  · show cntR ng (dgT (ng + 1) (t + 1) (q * (ng + 1) + g)) 0 t + (if dgT (ng + 1) (t + 1) (q * (ng + 1) + g) (0 + t) < ng then 1 else 0) + l = m
    rw [Nat.zero_add, last, if_pos hg, cntR_cong (dg' := dgT (ng + 1) t q) (fun s _ hs => old s (by omega))]
    omega
  · rw [mk_tb U h3 g (by omega) g' (by omega), Bool.or_eq_true, decide_eq_true_iff, h4 g' hg']
    constructor
    · rintro (⟨s, hs, e⟩ | e)
      · exact ⟨s, by omega, (old s hs).trans e⟩
      · exact ⟨t, by omega, last.trans e.symm⟩
    · rintro ⟨s, hs, e⟩
      by_cases c1 : s = t
      · subst c1
        exact Or.inr (e.symm.trans last)
      · exact Or.inl ⟨s, by omega, (old s (by omega)).symm.trans e⟩
theorem PRE.leave {ng m t q l U : Nat} (h : PRE ng m t q l U) : PRE ng m (t + 1) (q * (ng + 1) + ng) l U := by
  obtain ⟨h1, h2, h3, h4⟩ := h
  have hB := Nat.succ_pos ng
  have old : ∀ s, s < t → dgT (ng + 1) (t + 1) (q * (ng + 1) + ng) s = dgT (ng + 1) t q s := fun s hs => dgT_old hB (by omega) hs
  have last : dgT (ng + 1) (t + 1) (q * (ng + 1) + ng) t = ng := dgT_last hB (by omega)
  refine ⟨fun s hs s' hs' e hl => ?_, ?_, h3, fun g' hg' => ?_⟩
  · by_cases c1 : s = t
    · subst c1
      rw [last] at hl
      omega
    · by_cases c2 : s' = t
      · subst c2
        rw [e, last] at hl
        omega
      · rw [old s (by omega), old s' (by omega)] at e
        rw [old s (by omega)] at hl
        exact h1 s (by omega) s' (by omega) e hl
  · show cntR ng (dgT (ng + 1) (t + 1) (q * (ng + 1) + ng)) 0 t + (if dgT (ng + 1) (t + 1) (q * (ng + 1) + ng) (0 + t) < ng then 1 else 0) + l = m
    rw [Nat.zero_add, last, if_neg (by omega), cntR_cong (dg' := dgT (ng + 1) t q) (fun s _ hs => old s (by omega))]
    omega
  · rw [h4 g' hg']
    constructor
    · rintro ⟨s, hs, e⟩
      exact ⟨s, by omega, (old s hs).trans e⟩
    · rintro ⟨s, hs, e⟩
      by_cases c1 : s = t
      · subst c1
        rw [last] at e
        omega
      · exact ⟨s, by omega, (old s (by omega)).symm.trans e⟩
theorem c_fill {σ : Sto} {N nb ns ng nh m : Nat} {lg x : Int32} (h : Rl σ N nb ns ng nh) (hl : rgI lg 0 1000) (hx : x = -1 ∨ inB x ng = true) : ∀ (k d : Nat), k + 1 ≤ d → ∀ (X : Sto) (t q l U : Nat) (a : Option (Int32 × Nat)), t + k = ns → l ≤ k → PRE ng m t q l U → WI σ X ng lg x → (∀ s, s < t → X.1 33 s = rwD ng (dgT (ng + 1) t q s)) → AccC X ng ns a →
    Ok (f_X1_fill_34 d X (nI t) (nI l) (nI U)) (fun Z => WI σ Z ng lg x ∧ (∀ s, s < t → Z.1 33 s = X.1 33 s) ∧ AccC Z ng ns (foldF (okB ng ns m) (vlC σ ng ns lg x) (q * (ng + 1) ^ k) ((ng + 1) ^ k) a)) := by
  have hng : ng ≤ 6 := h.1.1.2.2.1
  have hns : ns ≤ 6 := h.1.1.2.1
  have hP0 := h.1
  have pl : ∀ {X : Sto}, WI σ X ng lg x → PL X nb ns ng nh := fun {X} hX => hP0.fr (hX.1.mono (fun k j q => by unfold Scr; omega))
  intro k
  induction k with
  | zero =>
    intro d hd X t q l U a ht hlk hpre hX hr ha
    obtain ⟨d, rfl⟩ : ∃ d', d = d' + 1 := ⟨d - 1, by omega⟩
    have et : t = ns := by omega
    subst et
    have el : l = 0 := by omega
    subst el
    show Ok (f_X1_fill_34_b (f_X1_fill_34 d) X (nI t) (nI 0) (nI U)) _
    unfold f_X1_fill_34_b f_X1_fill_34_j22
    rw [(c_cnt (pl hX)).2.1, bd2_eq, ok_bs, if_pos (nI_le (Nat.le_refl t) (by omega)), ok_bd1]
    have hok : okB ng t m q = true := okB_iff.mpr ⟨hpre.1, hpre.2.1⟩
    refine ok_mono (c_weigh h hl hx hX hr hok ha) (fun Z hZ => ok_some.mpr ⟨hZ.1, fun s _ => hZ.2.1 s, ?_⟩)
    rw [Nat.pow_zero, Nat.mul_one, foldF_1]
    exact hZ.2.2
  | succ k ih =>
    intro d hd X t q l U a ht hlk hpre hX hr ha
    obtain ⟨d, rfl⟩ : ∃ d', d = d' + 1 := ⟨d - 1, by omega⟩
    have e6 : (6 : Int32) = nI 6 := rfl
    show Ok (f_X1_fill_34_b (f_X1_fill_34 d) X (nI t) (nI l) (nI U)) _
    unfold f_X1_fill_34_b f_X1_fill_34_j116
    rw [(c_cnt (pl hX)).2.1, bd2_eq, ok_bs, if_neg (nI_ge (show t < ns by omega) (by omega)), e6, if_pos (nI_lt (show t < 6 by omega) (by omega)), ok_bs, ok_bE1]
    have pw : (ng + 1) ^ (k + 1) = ng * (ng + 1) ^ k + (ng + 1) ^ k := by rw [Nat.pow_succ, Nat.mul_comm, Nat.add_mul, Nat.one_mul]
    have lo : ∀ j, q * (ng + 1) ^ (k + 1) + j * (ng + 1) ^ k = (q * (ng + 1) + j) * (ng + 1) ^ k := by
      intro j
      rw [Nat.pow_succ', ← Nat.mul_assoc, ← Nat.add_mul]
    -- one digit more
    have one : ∀ j b, foldF (okB ng ns m) (vlC σ ng ns lg x) (q * (ng + 1) ^ (k + 1)) ((j + 1) * (ng + 1) ^ k) b = foldF (okB ng ns m) (vlC σ ng ns lg x) ((q * (ng + 1) + j) * (ng + 1) ^ k) ((ng + 1) ^ k) (foldF (okB ng ns m) (vlC σ ng ns lg x) (q * (ng + 1) ^ (k + 1)) (j * (ng + 1) ^ k) b) := by
      intro j b
      rw [Nat.add_mul, Nat.one_mul, foldF_add, lo]
    have nok : ∀ j, j < ng + 1 → (∀ c, (q * (ng + 1) + j) * (ng + 1) ^ k ≤ c → c < (q * (ng + 1) + j) * (ng + 1) ^ k + (ng + 1) ^ k → okB ng ns m c = false) → ∀ b, foldF (okB ng ns m) (vlC σ ng ns lg x) (q * (ng + 1) ^ (k + 1)) ((j + 1) * (ng + 1) ^ k) b = foldF (okB ng ns m) (vlC σ ng ns lg x) (q * (ng + 1) ^ (k + 1)) (j * (ng + 1) ^ k) b := by
      intro j hj hno b
      rw [one, foldF_no _ _ _ _ _ hno]
    have ens : t + 1 + k = ns := by omega
    -- after the loop
    have rest : ∀ Z, WI σ Z ng lg x → (∀ s, s < t → Z.1 33 s = X.1 33 s) → AccC Z ng ns (foldF (okB ng ns m) (vlC σ ng ns lg x) (q * (ng + 1) ^ (k + 1)) (ng * (ng + 1) ^ k) a) → Ok (if nI ns - nI t ≤ nI l then some Z else gd (inB (nI t) 6) (bs (su Z 33 (nI t).toNatClampNeg (-1)) fun σ16 => bd1 (f_X1_fill_34 d σ16 (nI t + 1) (nI l) (nI U)) fun σ17 => some σ17)) (fun Z => WI σ Z ng lg x ∧ (∀ s, s < t → Z.1 33 s = X.1 33 s) ∧ AccC Z ng ns (foldF (okB ng ns m) (vlC σ ng ns lg x) (q * (ng + 1) ^ (k + 1)) ((ng + 1) ^ (k + 1)) a)) := by
      intro Z hZ z33 zA
      have epw : ∀ b, foldF (okB ng ns m) (vlC σ ng ns lg x) (q * (ng + 1) ^ (k + 1)) ((ng + 1) ^ (k + 1)) b = foldF (okB ng ns m) (vlC σ ng ns lg x) (q * (ng + 1) ^ (k + 1)) ((ng + 1) * (ng + 1) ^ k) b := fun b => congrArg (fun n => foldF (okB ng ns m) (vlC σ ng ns lg x) (q * (ng + 1) ^ (k + 1)) n b) Nat.pow_succ'
      rw [pk_sub (show t ≤ ns by omega)]
      by_cases c : ns - t ≤ l
      · rw [if_pos (nI_le c (by omega)), ok_some]
        refine ⟨hZ, z33, ?_⟩
        rw [epw, nok ng (by omega) (fun c' h1 h2 => okB_no (fun hc => ?_))]
        · exact zA
        · obtain ⟨e, he, ee⟩ := cnt_blk (t := t) (by omega) h1 h2
          rw [ens, if_neg (by omega)] at ee
          have := hpre.2.1
          have := hc.2
          omega
      · rw [if_neg (fun z => c (by
          have := i_le.mp z
          rw [nI_toInt (by omega), nI_toInt (by omega)] at this
          omega)), inB_n (show t < 6 by omega) (by omega), gd_true, nI_clamp (show t < 2 ^ 31 by omega), nI_1, ok_bs, ok_bd1]
        have hW : WI σ (su Z 33 t (-1)) ng lg x := ⟨hZ.1.su (by omega), hZ.2⟩
        refine ok_mono (ih d (by omega) (su Z 33 t (-1)) (t + 1) (q * (ng + 1) + ng) l U _ ens (by omega) hpre.leave hW (fun s hs => ?_) zA) (fun W hW2 => ok_some.mpr ⟨hW2.1, fun s hs => ?_, ?_⟩)
        · rw [su_at]
          by_cases c1 : s = t
          · subst c1
            rw [if_pos ⟨rfl, rfl⟩, dgT_last (Nat.succ_pos ng) (by omega)]
            exact (if_neg (by omega)).symm
          · rw [if_neg (fun z => c1 z.2), z33 s (by omega), hr s (by omega), dgT_old (Nat.succ_pos ng) (by omega) (by omega)]
        · rw [hW2.2.1 s (by omega), su_at, if_neg (by omega)]
          exact z33 s hs
        · rw [epw, one]
          exact hW2.2.2
    rcases Nat.eq_zero_or_pos l with el | el
    · subst el
      refine lp_for (fun j t' => t' = (X, (0 : Int32))) 0 (FU_big (by omega)) rfl (fun i _ q _ => absurd q (Nat.not_lt_zero i)) ?_
      rintro t' rfl
      dsimp only
      unfold f_X1_fill_34_l30
      rw [(c_cnt (pl hX)).2.2.1, bd2_eq, if_pos (show nI 0 ≤ 0 by decide)]
      have e2 : ∀ {β : Type} {c : Prop} [Decidable c] (y : β), (if c then y else y) = y := fun {β c} _ y => by split <;> rfl
      rw [e2, ok_some]
      refine ⟨_, rfl, rest X hX (fun s _ => rfl) ?_⟩
      have all : ∀ j, j ≤ ng → foldF (okB ng ns m) (vlC σ ng ns lg x) (q * (ng + 1) ^ (k + 1)) (j * (ng + 1) ^ k) a = a := by
        intro j
        induction j with
        | zero => intro _; rw [Nat.zero_mul]; rfl
        | succ j ihj =>
          intro hj
          rw [nok j (by omega) (fun c' h1 h2 => okB_no (fun hc => ?_))]
          · exact ihj (by omega)
          · obtain ⟨e, he, ee⟩ := cnt_blk (t := t) (by omega) h1 h2
            rw [ens, if_pos (by omega)] at ee
            have := hpre.2.1
            have := hc.2
            omega
      rw [all ng (Nat.le_refl ng)]
      exact ha
    · obtain ⟨l, rfl⟩ : ∃ l', l = l' + 1 := ⟨l - 1, by omega⟩
      refine lp_for (fun j t' => t'.2 = nI j ∧ WI σ t'.1 ng lg x ∧ (∀ s, s < t → t'.1.1 33 s = X.1 33 s) ∧ AccC t'.1 ng ns (foldF (okB ng ns m) (vlC σ ng ns lg x) (q * (ng + 1) ^ (k + 1)) (j * (ng + 1) ^ k) a)) ng (FU_big (by omega)) ⟨rfl, hX, fun s _ => rfl, by rw [Nat.zero_mul]; exact ha⟩ ?_ ?_
      · rintro j ⟨Z, x5⟩ hj ⟨e5, hZ, z33, zA⟩
        dsimp only at e5 hZ z33 zA ⊢
        subst e5
        have hl0 : ¬ nI (l + 1) ≤ 0 := fun z => by
          have := i_le.mp z
          rw [nI_toInt (by omega)] at this
          have z0 : (0 : Int32).toInt = 0 := rfl
          omega
        have el1 : nI (l + 1) - 1 = nI l := pk_sub (b := 1) (by omega)
        unfold f_X1_fill_34_l30 f_X1_fill_34_j83
        rw [(c_cnt (pl hZ)).2.2.1, bd2_eq, if_neg (nI_ge hj (by omega)), if_neg hl0, el1]
        by_cases cu : U.testBit j = false
        · rw [if_pos ((mk_bit U hpre.2.2.1 j (by omega)).mpr cu), inB_n (show t < 6 by omega) (by omega), gd_true, nI_clamp (show t < 2 ^ 31 by omega), nI_1, (mk_or U hpre.2.2.1 j (by omega)).1, nI_1, ok_bs, ok_bd1]
          have hW : WI σ (su Z 33 t (nI j)) ng lg x := ⟨hZ.1.su (by omega), hZ.2⟩
          refine ok_mono (ih d (by omega) (su Z 33 t (nI j)) (t + 1) (q * (ng + 1) + j) l (U ||| 2 ^ j) _ ens (by omega) (hpre.put hng hj cu) hW (fun s hs => ?_) zA) (fun W hW2 => ?_)
          · rw [su_at]
            by_cases c1 : s = t
            · subst c1
              rw [if_pos ⟨rfl, rfl⟩, dgT_last (Nat.succ_pos ng) (by omega)]
              exact (if_pos hj).symm
            · rw [if_neg (fun z => c1 z.2), z33 s (by omega), hr s (by omega), dgT_old (Nat.succ_pos ng) (by omega) (by omega)]
          · rw [ok_bs, ok_some]
            refine Or.inl ⟨_, rfl, rfl, hW2.1, fun s hs => ?_, ?_⟩
            · rw [hW2.2.1 s (by omega), su_at, if_neg (by omega)]
              exact z33 s hs
            · rw [one]
              exact hW2.2.2
        · rw [if_neg (fun z => cu ((mk_bit U hpre.2.2.1 j (by omega)).mp z)), nI_1, ok_bs, ok_some]
          refine Or.inl ⟨_, rfl, rfl, hZ, z33, ?_⟩
          rw [nok j (by omega) (fun c' h1 h2 => okB_no (fun hc => ?_))]
          · exact zA
          · have hb := blk (t := t) (Nat.succ_pos ng) h1 h2
            rw [ens] at hb
            obtain ⟨s0, hs0, e0⟩ := (hpre.2.2.2 j hj).mp (by cases z : U.testBit j with | true => rfl | false => exact absurd z cu)
            have d1 : dgT (ng + 1) ns c' s0 = j := by
              rw [hb s0 (by omega), dgT_old (Nat.succ_pos ng) (by omega) hs0]
              exact e0
            have d2 : dgT (ng + 1) ns c' t = j := by
              rw [hb t (by omega)]
              exact dgT_last (Nat.succ_pos ng) (by omega)
            have := hc.1 s0 (by omega) t (by omega) (d1.trans d2.symm) (by omega)
            omega
      · rintro ⟨Z, x5⟩ ⟨e5, hZ, z33, zA⟩
        dsimp only at e5 hZ z33 zA ⊢
        subst e5
        unfold f_X1_fill_34_l30
        rw [(c_cnt (pl hZ)).2.2.1, bd2_eq, if_pos (nI_le (Nat.le_refl ng) (by omega)), ok_some]
        exact ⟨_, rfl, rest Z hZ z33 zA⟩
