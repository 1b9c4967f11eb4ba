/-! hats: the class hands out, hat by hat -/
def PRH (σ : Sto) (ng t q U : Nat) : Prop := (∀ s, s < t → ∀ s', s' < t → dgT (ng + 1) t q s = dgT (ng + 1) t q s' → 0 < dgT (ng + 1) t q s → s = s') ∧ (∀ s, s < t → 0 < dgT (ng + 1) t q s → stB σ (dgT (ng + 1) t q s - 1) = true) ∧ U < 64 ∧ ∀ g, g < ng → (U.testBit g = true ↔ stB σ g = true ∧ ∀ s, s < t → ¬ dgT (ng + 1) t q s = g + 1)
theorem PRH.put {σ : Sto} {ng t q U g : Nat} (h : PRH σ ng t q U) (hng : ng ≤ 6) (hg : g < ng) (hu : U.testBit g = true) : PRH σ ng (t + 1) (q * (ng + 1) + (g + 1)) (U &&& (63 - 2 ^ g)) := by
  obtain ⟨h1, h2, h3, h4⟩ := h
  have hB := Nat.succ_pos ng
  have old : ∀ s, s < t → dgT (ng + 1) (t + 1) (q * (ng + 1) + (g + 1)) s = dgT (ng + 1) t q s := fun s hs => dgT_old hB (by omega) hs
  have last : dgT (ng + 1) (t + 1) (q * (ng + 1) + (g + 1)) t = g + 1 := dgT_last hB (by omega)
  obtain ⟨hst, nouse⟩ := (h4 g hg).mp hu
  refine ⟨fun s hs s' hs' e hl => ?_, fun s hs hl => ?_, (mh_clr U h3 g (by omega)).2, fun g' hg' => ?_⟩
  · by_cases c1 : s = t
    · subst c1
      by_cases c2 : s' = s
      · exact c2.symm
      · rw [last, old s' (by omega)] at e
        exact absurd e.symm (nouse s' (by omega))
    · by_cases c2 : s' = t
      · subst c2
        rw [last, old s (by omega)] at e
        exact absurd e (nouse s (by omega))
      · rw [old s (by omega), old s' (by omega)] at e
        rw [old s (by omega)] at hl
        exact h1 s (by omega) s' (by omega) e hl
  · by_cases c1 : s = t
    · subst c1
      rw [last]
      exact hst
    · rw [old s (by omega)] at hl ⊢
      exact h2 s (by omega) hl
  · rw [mh_tb U h3 g (by omega) g' (by omega), Bool.and_eq_true, h4 g' hg']
    constructor
    · rintro ⟨⟨k1, k2⟩, k3⟩
      refine ⟨k1, fun s hs e => ?_⟩
      by_cases c1 : s = t
      · subst c1
        rw [last] at e
        have e2 : g' = g := by omega
        rw [decide_eq_true e2] at k3
        cases k3
      · rw [old s (by omega)] at e
        exact k2 s (by omega) e
    · rintro ⟨k1, k2⟩
      refine ⟨⟨k1, fun s hs e => k2 s (by omega) ((old s hs).trans e)⟩, ?_⟩
      have hne : ¬ g' = g := fun e => k2 t (by omega) (by rw [last, e])
      rw [decide_eq_false hne]
      rfl
theorem PRH.leave {σ : Sto} {ng t q U : Nat} (h : PRH σ ng t q U) : PRH σ ng (t + 1) (q * (ng + 1) + 0) U := by
  obtain ⟨h1, h2, h3, h4⟩ := h
  have hB := Nat.succ_pos ng
  have old : ∀ s, s < t → dgT (ng + 1) (t + 1) (q * (ng + 1) + 0) s = dgT (ng + 1) t q s := fun s hs => dgT_old hB (by omega) hs
  have last : dgT (ng + 1) (t + 1) (q * (ng + 1) + 0) t = 0 := dgT_last hB (by omega)
  refine ⟨fun s hs s' hs' e hl => ?_, fun s hs hl => ?_, h3, fun g' hg' => ?_⟩
  · by_cases c1 : s = t
    · subst c1
      rw [last] at hl
      omega
    · by_cases c2 : s' = t
      · subst c2
        rw [e, last] at hl
        omega
      · rw [old s (by omega), old s' (by omega)] at e
        rw [old s (by omega)] at hl
        exact h1 s (by omega) s' (by omega) e hl
  · by_cases c1 : s = t
    · subst c1
      rw [last] at hl
      omega
    · rw [old s (by omega)] at hl ⊢
      exact h2 s (by omega) hl
  · rw [h4 g' hg']
    constructor
    · rintro ⟨k1, k2⟩
      refine ⟨k1, fun s hs e => ?_⟩
      by_cases c1 : s = t
      · subst c1
        rw [last] at e
        omega
      · rw [old s (by omega)] at e
        exact k2 s (by omega) e
    · rintro ⟨k1, k2⟩
      exact ⟨k1, fun s hs e => k2 s (by omega) ((old s hs).trans e)⟩
theorem rowH_old {ng t q d s : Nat} (hd : d < ng + 1) (hs : s < t) : rowH ng (t + 1) (q * (ng + 1) + d) s = rowH ng t q s := congrArg rwH (dgT_old (Nat.succ_pos ng) hd hs)
theorem rowH_last {ng t q d : Nat} (hd : d < ng + 1) : rowH ng (t + 1) (q * (ng + 1) + d) t = rwH d := congrArg rwH (dgT_last (Nat.succ_pos ng) hd)
theorem htP_up {ng t q d g : Nat} (hd : d < ng + 1) : htP ng (t + 1) (q * (ng + 1) + d) g = if rwH d = nI g then nI t else htP ng t q g := by
  show (if rowH ng (t + 1) (q * (ng + 1) + d) t = nI g then nI t else whoN (rowH ng (t + 1) (q * (ng + 1) + d)) (nI g) t) = _
  rw [rowH_last hd, whoN_cong (sp := rowH ng t q) (fun s hs => rowH_old hd hs)]
  rfl
theorem rwH_s (g : Nat) : rwH (g + 1) = nI g := if_neg (by omega)
theorem rwH_0 : rwH 0 = -1 := rfl
theorem adS_m1 (f : Nat → Int32) : adS f (-1) = 0 := if_neg (m1_nle rfl)
theorem adS_n (f : Nat → Int32) {t : Nat} (ht : t < 2 ^ 31) : adS f (nI t) = f t := by
  unfold adS
  rw [if_pos (nI_pos' ht), nI_clamp ht]
theorem hgH_cong {σ : Sto} {ht ht' : Nat → Int32} {g : Nat} (e : ht g = ht' g) : hgH σ ht g = hgH σ ht' g ∧ coH σ ht g = coH σ ht' g := by
  unfold hgH coH
  rw [e]
  exact ⟨rfl, rfl⟩
theorem c_hand {σ : Sto} {N nb ns ng nh : Nat} {lg : Int32} (h : Rl σ N nb ns ng nh) (hl : rgI lg 0 1000) : ∀ (k d : Nat), k + 1 ≤ d → ∀ (X : Sto) (t q U : Nat) (a : Option (Int32 × Nat)), t + k = nh → PRH σ ng t q U → HI σ X ns ng t q lg → AccH X ng nh a →
    Ok (f_X0_handOut_36 d X (nI t) (nI U)) (fun Z => HI σ Z ns ng t q lg ∧ AccH Z ng nh (foldF (okH σ ng nh) (vlH σ ng nh lg) (q * (ng + 1) ^ k) ((ng + 1) ^ k) a)) := by
  have hng : ng ≤ 6 := h.1.1.2.2.1
  have hnh : nh ≤ 4 := h.1.1.2.2.2
  have hP0 := h.1
  have pl : ∀ {X : Sto} {t q : Nat}, HI σ X ns ng t q lg → PL X nb ns ng nh := fun {X t q} hX => hP0.fr (hX.1.mono (fun k j q => by unfold Scr; omega))
  intro k
  induction k with
  | zero =>
    intro d hd X t q U a ht hpre hX ha
    obtain ⟨d, rfl⟩ : ∃ d', d = d' + 1 := ⟨d - 1, by omega⟩
    have et : t = nh := by omega
    subst et
    show Ok (f_X0_handOut_36_b (f_X0_handOut_36 d) X (nI t) (nI U)) _
    unfold f_X0_handOut_36_b f_X0_handOut_36_j17
    rw [(c_cnt (pl hX)).2.2.2, bd2_eq, if_pos (nI_le (Nat.le_refl t) (by omega)), ok_bd1]
    have hok : okH σ ng t q = true := okH_iff.mpr ⟨hpre.1, hpre.2.1⟩
    refine ok_mono (c_weighH h hl hX hok ha) (fun Z hZ => ok_some.mpr ⟨hZ.1, ?_⟩)
    rw [Nat.pow_zero, Nat.mul_one, foldF_1]
    exact hZ.2
  | succ k ih =>
    intro d hd X t q U a ht hpre hX ha
    obtain ⟨d, rfl⟩ : ∃ d', d = d' + 1 := ⟨d - 1, by omega⟩
    have ens : t + 1 + k = nh := by omega
    have lo : ∀ j, q * (ng + 1) ^ (k + 1) + j * (ng + 1) ^ k = (q * (ng + 1) + j) * (ng + 1) ^ k := by
      intro j
      rw [Nat.pow_succ', ← Nat.mul_assoc, ← Nat.add_mul]
    have one : ∀ j b, foldF (okH σ ng nh) (vlH σ ng nh lg) (q * (ng + 1) ^ (k + 1)) ((j + 1) * (ng + 1) ^ k) b = foldF (okH σ ng nh) (vlH σ ng nh lg) ((q * (ng + 1) + j) * (ng + 1) ^ k) ((ng + 1) ^ k) (foldF (okH σ ng nh) (vlH σ ng nh lg) (q * (ng + 1) ^ (k + 1)) (j * (ng + 1) ^ k) b) := by
      intro j b
      rw [Nat.add_mul, Nat.one_mul, foldF_add, lo]
    have ht0 : ∀ g, g < ng → htP ng (t + 1) (q * (ng + 1) + 0) g = htP ng t q g := fun g hg => by
      rw [htP_up (by omega), if_neg (fun e => nI_ne_m1 (g := g) (by omega) (e.symm.trans rwH_0))]
    have back0 : ∀ Z, HI σ Z ns ng (t + 1) (q * (ng + 1) + 0) lg → HI σ Z ns ng t q lg := fun Z hZ => by
      refine ⟨hZ.1, hZ.2.1, fun g hg => ?_, hZ.2.2.2.1, fun s hs => ?_⟩
      · rw [← (hgH_cong (ht0 g hg)).1, ← (hgH_cong (ht0 g hg)).2]
        exact hZ.2.2.1 g hg
      · rw [← rowH_old (d := 0) (by omega) hs]
        exact hZ.2.2.2.2 s (by omega)
    have hW0 : HI σ (su X 37 t (-1)) ns ng (t + 1) (q * (ng + 1) + 0) lg := by
      refine ⟨hX.1.su (by omega), hX.2.1, fun g hg => ?_, hX.2.2.2.1, fun s hs => ?_⟩
      · rw [(hgH_cong (ht0 g hg)).1, (hgH_cong (ht0 g hg)).2]
        exact hX.2.2.1 g hg
      · rw [su_at]
        by_cases c1 : s = t
        · subst c1
          rw [if_pos ⟨rfl, rfl⟩, rowH_last (by omega)]
          rfl
        · rw [if_neg (fun z => c1 z.2), rowH_old (by omega) (by omega)]
          exact hX.2.2.2.2 s (by omega)
    show Ok (f_X0_handOut_36_b (f_X0_handOut_36 d) X (nI t) (nI U)) _
    unfold f_X0_handOut_36_b
    rw [(c_cnt (pl hX)).2.2.2, bd2_eq, if_neg (nI_ge (show t < nh by omega) (by omega)), if_pos (show nI t < (4 : Int32) from nI_lt (b := 4) (by omega) (by omega)), inB_n (show t < 4 by omega) (by omega), gd_true, nI_clamp (show t < 2 ^ 31 by omega), nI_1, ok_bs, ok_bd1]
    refine ok_mono (ih d (by omega) (su X 37 t (-1)) (t + 1) (q * (ng + 1) + 0) U a ens hpre.leave hW0 ha) (fun Z0 hZ0 => ?_)
    obtain ⟨z1, z2⟩ := hZ0
    rw [ok_bs, ok_bE1]
    refine lp_for (fun i t' => t'.2 = nI i ∧ HI σ t'.1 ns ng t q lg ∧ AccH t'.1 ng nh (foldF (okH σ ng nh) (vlH σ ng nh lg) (q * (ng + 1) ^ (k + 1)) ((i + 1) * (ng + 1) ^ k) a)) ng (FU_big (by omega)) ⟨rfl, back0 Z0 z1, ?_⟩ ?_ ?_
    · rw [one 0, Nat.zero_mul]
      exact z2
    · rintro i ⟨Z, x5⟩ hi ⟨e5, hZ, zA⟩
      dsimp only at e5 hZ zA ⊢
      subst e5
      unfold f_X0_handOut_36_l39 f_X0_handOut_36_j99
      rw [(c_cnt (pl hZ)).2.2.1, bd2_eq, if_neg (nI_ge hi (by omega))]
      by_cases cu : U.testBit i = true
      · obtain ⟨hst, nouse⟩ := (hpre.2.2.2 i hi).mp cu
        have hP1 : PL (su Z 37 t (nI i)) nb ns ng nh := hP0.fr ((hZ.1.su (k := 37) (j := t) (v := nI i) (by omega)).mono (fun k j q => by unfold Scr; omega))
        have e46 : Z.1 46 t = σ.1 46 t := hZ.1 46 t (by omega)
        have e47 : Z.1 47 t = σ.1 47 t := hZ.1 47 t (by omega)
        have ep : f_X5_putHat_28 (su Z 37 t (nI i)) (nI t) (nI i) = some (su (su (su Z 37 t (nI i)) 29 i (Z.1 29 i + σ.1 46 t)) 30 i (Z.1 30 i + σ.1 47 t)) := by
          rw [c_putHat hP1 (show i < 7 by omega) (show t < nh by omega), ← e46, ← e47]
          rfl
        have hno : htP ng t q i = -1 := htP_none hng hi nouse
        have hup : ∀ g, g < ng → htP ng (t + 1) (q * (ng + 1) + (i + 1)) g = if g = i then nI t else htP ng t q g := by
          intro g hg
          rw [htP_up (by omega), rwH_s]
          by_cases c : g = i
          · subst c
            rw [if_pos rfl, if_pos rfl]
          · rw [if_neg (fun e => c ((nI_eq (by omega) (by omega)).mp e).symm), if_neg c]
        have hv := hZ.2.2.1 i hi
        have v1 : Z.1 29 i = σ.1 45 i := by
          rw [hv.1]
          unfold hgH
          rw [hno, adS_m1, Int32.add_zero]
        have v2 : Z.1 30 i = 0 := by
          rw [hv.2]
          unfold coH
          rw [hno, adS_m1]
        have n1 : hgH σ (htP ng (t + 1) (q * (ng + 1) + (i + 1))) i = σ.1 45 i + σ.1 46 t := by
          unfold hgH
          rw [hup i hi, if_pos rfl, adS_n _ (by omega)]
        have n2 : coH σ (htP ng (t + 1) (q * (ng + 1) + (i + 1))) i = σ.1 47 t := by
          unfold coH
          rw [hup i hi, if_pos rfl, adS_n _ (by omega)]
        rw [if_pos ((mh_bit U hpre.2.2.1 i (by omega)).mpr cu), inB_n (show t < 4 by omega) (by omega), gd_true, nI_clamp (show t < 2 ^ 31 by omega), nI_1, (mh_clr U hpre.2.2.1 i (by omega)).1, nI_1, ok_bs, ep, bd1_eq, ok_bd1]
        have hQH : HI σ (su (su (su Z 37 t (nI i)) 29 i (Z.1 29 i + σ.1 46 t)) 30 i (Z.1 30 i + σ.1 47 t)) ns ng (t + 1) (q * (ng + 1) + (i + 1)) lg := by
          refine ⟨((hZ.1.su (by omega)).su (by omega)).su (by omega), hZ.2.1, fun g hg => ?_, hZ.2.2.2.1, fun s hs => ?_⟩
          · by_cases c : g = i
            · subst c
              rw [n1, n2, su_at, if_neg (by omega), su_at, if_pos ⟨rfl, rfl⟩, su_at, if_pos ⟨rfl, rfl⟩, v1, v2, Int32.zero_add]
              exact ⟨rfl, rfl⟩
            · have e := hup g hg
              rw [if_neg c] at e
              rw [(hgH_cong e).1, (hgH_cong e).2, su_at, if_neg (by omega), su_at, if_neg (by omega), su_at, if_neg (by omega), su_at, if_neg (by omega), su_at, if_neg (by omega), su_at, if_neg (by omega)]
              exact hZ.2.2.1 g hg
          · rw [su_at, if_neg (by omega), su_at, if_neg (by omega), su_at]
            by_cases c1 : s = t
            · subst c1
              rw [if_pos ⟨rfl, rfl⟩, rowH_last (by omega), rwH_s]
            · rw [if_neg (fun z => c1 z.2), rowH_old (by omega) (by omega)]
              exact hZ.2.2.2.2 s (by omega)
        refine ok_mono (ih d (by omega) _ (t + 1) (q * (ng + 1) + (i + 1)) (U &&& (63 - 2 ^ i)) _ ens (hpre.put hng hi cu) hQH zA) (fun W hW2 => ?_)
        obtain ⟨w1, w2⟩ := hW2
        have f46 : W.1 46 t = σ.1 46 t := w1.1 46 t (by omega)
        have f47 : W.1 47 t = σ.1 47 t := w1.1 47 t (by omega)
        rw [c_takeHat (pl w1) (show i < 7 by omega) (show t < nh by omega), bd1_eq, ok_bs, ok_some, f46, f47]
        refine Or.inl ⟨_, rfl, rfl, ⟨(w1.1.su (by omega)).su (by omega), w1.2.1, fun g hg => ?_, w1.2.2.2.1, fun s hs => ?_⟩, ?_⟩
        · by_cases c : g = i
          · subst c
            rw [su_at, if_neg (by omega), su_at, if_pos ⟨rfl, rfl⟩, su_at, if_pos ⟨rfl, rfl⟩, (w1.2.2.1 g hg).1, (w1.2.2.1 g hg).2, n1, n2, Int32.add_sub_cancel, Int32.sub_self, ← v1, ← v2]
            exact hv
          · have e := hup g hg
            rw [if_neg c] at e
            rw [su_at, if_neg (by omega), su_at, if_neg (by omega), su_at, if_neg (by omega), su_at, if_neg (by omega), ← (hgH_cong e).1, ← (hgH_cong e).2]
            exact w1.2.2.1 g hg
        · rw [su_at, if_neg (by omega), su_at, if_neg (by omega), ← rowH_old (d := i + 1) (by omega) hs]
          exact w1.2.2.2.2 s (by omega)
        · rw [one]
          exact w2
      · rw [if_neg (fun z => cu ((mh_bit U hpre.2.2.1 i (by omega)).mp z)), nI_1, ok_bs, ok_some]
        refine Or.inl ⟨_, rfl, rfl, hZ, ?_⟩
        rw [one, foldF_no]
        · exact zA
        · intro c' h1 h2
          refine okH_no (fun hc => ?_)
          have hb := blk (t := t) (Nat.succ_pos ng) h1 h2
          rw [ens] at hb
          have d2 : dgT (ng + 1) nh c' t = i + 1 := by
            rw [hb t (by omega)]
            exact dgT_last (Nat.succ_pos ng) (by omega)
          apply cu
          refine (hpre.2.2.2 i hi).mpr ⟨?_, fun s hs e => ?_⟩
          · have := hc.2 t (by omega) (by omega)
            rw [d2] at this
            exact this
          · have d1 : dgT (ng + 1) nh c' s = i + 1 := by
              rw [hb s (by omega), dgT_old (Nat.succ_pos ng) (by omega) hs]
              exact e
            have := hc.1 s (by omega) t (by omega) (d1.trans d2.symm) (by omega)
            omega
    · rintro ⟨Z, x5⟩ ⟨e5, hZ, zA⟩
      dsimp only at e5 hZ zA ⊢
      subst e5
      unfold f_X0_handOut_36_l39
      rw [(c_cnt (pl hZ)).2.2.1, bd2_eq, if_pos (nI_le (Nat.le_refl ng) (by omega)), ok_some]
      have epw : foldF (okH σ ng nh) (vlH σ ng nh lg) (q * (ng + 1) ^ (k + 1)) ((ng + 1) ^ (k + 1)) a = foldF (okH σ ng nh) (vlH σ ng nh lg) (q * (ng + 1) ^ (k + 1)) ((ng + 1) * (ng + 1) ^ k) a := congrArg (fun n => foldF (okH σ ng nh) (vlH σ ng nh lg) (q * (ng + 1) ^ (k + 1)) n a) Nat.pow_succ'
      refine ⟨_, rfl, ok_some.mpr ⟨hZ, ?_⟩⟩
      rw [epw]
      exact zA
