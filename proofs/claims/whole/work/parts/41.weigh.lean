/-! standing: a code's places, its value; the class weighs -/
def okB (ng ns m c : Nat) : Bool := decide (∀ s, s < ns → ∀ s', s' < ns → dgT (ng + 1) ns c s = dgT (ng + 1) ns c s' → dgT (ng + 1) ns c s < ng → s = s') && decide (cntR ng (dgT (ng + 1) ns c) 0 ns = m)
theorem okB_iff {ng ns m c : Nat} : okB ng ns m c = true ↔ (∀ s, s < ns → ∀ s', s' < ns → dgT (ng + 1) ns c s = dgT (ng + 1) ns c s' → dgT (ng + 1) ns c s < ng → s = s') ∧ cntR ng (dgT (ng + 1) ns c) 0 ns = m := by
  unfold okB
  rw [Bool.and_eq_true, decide_eq_true_iff, decide_eq_true_iff]
theorem okB_no {ng ns m c : Nat} (h : ¬ ((∀ s, s < ns → ∀ s', s' < ns → dgT (ng + 1) ns c s = dgT (ng + 1) ns c s' → dgT (ng + 1) ns c s < ng → s = s') ∧ cntR ng (dgT (ng + 1) ns c) 0 ns = m)) : okB ng ns m c = false := by
  cases e : okB ng ns m c with
  | false => rfl
  | true => exact absurd (okB_iff.mp e) h
def plR (ng ns c : Nat) : Nat → Int32 := fun s => rwD ng (dgT (ng + 1) ns c s)
def spC (ng ns c : Nat) : Nat → Int32 := fun g => whoN (plR ng ns c) (nI g) ns
theorem rwD_nI {ng d g : Nat} (hg : g < 2 ^ 31) (hd : ng < 2 ^ 31) (h : rwD ng d = nI g) : d = g ∧ d < ng := by
  unfold rwD at h
  by_cases c : d < ng
  · rw [if_pos c] at h
    exact ⟨(nI_eq (by omega) hg).mp h, c⟩
  · rw [if_neg c] at h
    exact absurd h.symm (nI_ne_m1 hg)
theorem spC_ok {ng ns m c : Nat} (hng : ng ≤ 6) (hns : ns ≤ 6) (h : okB ng ns m c = true) : (∀ s, s < ns → IsWho (spC ng ns c) (nI s) ng (plR ng ns c s)) ∧ (∀ g, g < ng → spC ng ns c g = -1 ∨ inB (spC ng ns c g) ns = true) ∧ Inj (spC ng ns c) ng := by
  obtain ⟨nd, -⟩ := okB_iff.mp h
  have who : ∀ g, g < ng → ∀ s, s < ns → spC ng ns c g = nI s → dgT (ng + 1) ns c s = g := by
    intro g hg s hs e
    rcases whoN_is (plR ng ns c) (nI g) ns with ⟨k1, k2⟩ | ⟨s', k1, k2, k3⟩
    · exact absurd (k1.symm.trans e).symm (nI_ne_m1 (by omega))
    · have e2 : s' = s := (nI_eq (by omega) (by omega)).mp (k2.symm.trans e)
      subst e2
      exact (rwD_nI (by omega) (by omega) k3).1
  refine ⟨fun s hs => ?_, fun g hg => ?_, fun g g' h1 h2 e h0 => ?_⟩
  · by_cases cd : dgT (ng + 1) ns c s < ng
    · refine Or.inr ⟨dgT (ng + 1) ns c s, cd, if_pos cd, ?_⟩
      rcases whoN_is (plR ng ns c) (nI (dgT (ng + 1) ns c s)) ns with ⟨k1, k2⟩ | ⟨s', k1, k2, k3⟩
      · exact absurd (if_pos cd) (k2 s hs)
      · have e2 := (rwD_nI (by omega) (by omega) k3)
        have := nd s' k1 s hs e2.1 e2.2
        subst this
        exact k2
    · refine Or.inl ⟨if_neg cd, fun g hg e => ?_⟩
      have := who g hg s hs e
      omega
  · rcases whoN_is (plR ng ns c) (nI g) ns with ⟨k1, k2⟩ | ⟨s', k1, k2, k3⟩
    · exact Or.inl k1
    · refine Or.inr ?_
      show inB (whoN (plR ng ns c) (nI g) ns) ns = true
      rw [k2]
      exact inB_n k1 (by omega)
  · rcases whoN_is (plR ng ns c) (nI g) ns with ⟨k1, k2⟩ | ⟨s', k1, k2, k3⟩
    · have : spC ng ns c g = -1 := k1
      rw [this] at h0
      exact absurd h0 (by decide)
    · have e1 := who g h1 s' k1 k2
      have e2 := who g' h2 s' k1 (e.symm.trans k2)
      omega
def alS (σ : Sto) (ng : Nat) (lg : Int32) (sp : Nat → Int32) : Nat → Int32 := fun g => giftS (σ.1 39 18) sp (shadeS (hgM σ) (σ.1 42) (σ.1 43) (σ.1 44) sp ng lg) ng g - coM σ g
def vlS (σ : Sto) (ng : Nat) (lg x : Int32) (sp : Nat → Int32) : Int32 := if x = -1 then sumN (alS σ ng lg sp) ng else alS σ ng lg sp x.toNatClampNeg
def vlC (σ : Sto) (ng ns : Nat) (lg x : Int32) (c : Nat) : Int32 := vlS σ ng lg x (spC ng ns c)
def WI (σ X : Sto) (ng : Nat) (lg x : Int32) : Prop := Fr (fun k j => 28 ≤ k ∧ k ≤ 35) σ X ∧ (X.1 28 1 = nI ng ∧ X.1 28 2 = lg ∧ X.1 28 3 = σ.1 39 18) ∧ (∀ g, g < ng → X.1 29 g = hgM σ g ∧ X.1 30 g = coM σ g) ∧ X.1 34 2 = x
def AccC (X : Sto) (ng ns : Nat) (a : Option (Int32 × Nat)) : Prop := match a with
  | none => X.1 34 3 = 0
  | some p => X.1 34 3 = 1 ∧ X.1 34 4 = p.1 ∧ ∀ s, s < ns → X.1 35 s = plR ng ns p.2 s
theorem stepF_none {ok : Nat → Bool} {V : Nat → Int32} {c : Nat} (h : ok c = true) : stepF ok V none c = some (V c, c) := if_pos h
theorem stepF_le {ok : Nat → Bool} {V : Nat → Int32} {c : Nat} {p : Int32 × Nat} (h : ok c = true) (h2 : V c ≤ p.1) : stepF ok V (some p) c = some p := (if_pos h).trans (if_pos h2)
theorem stepF_gt {ok : Nat → Bool} {V : Nat → Int32} {c : Nat} {p : Int32 × Nat} (h : ok c = true) (h2 : ¬ V c ≤ p.1) : stepF ok V (some p) c = some (V c, c) := (if_pos h).trans (if_neg h2)
theorem c_weigh {σ X : Sto} {N nb ns ng nh m c : Nat} {lg x : Int32} {a : Option (Int32 × Nat)} (h : Rl σ N nb ns ng nh) (hl : rgI lg 0 1000) (hx : x = -1 ∨ inB x ng = true) (hX : WI σ X ng lg x) (hr : ∀ s, s < ns → X.1 33 s = plR ng ns c s) (hc : okB ng ns m c = true) (ha : AccC X ng ns a) : Ok (f_X1_weigh_34 X) (fun Z => WI σ Z ng lg x ∧ (∀ s, Z.1 33 s = X.1 33 s) ∧ AccC Z ng ns (stepF (okB ng ns m) (vlC σ ng ns lg x) a c)) := by
  have hng : ng ≤ 6 := h.1.1.2.2.1
  have hns : ns ≤ 6 := h.1.1.2.1
  have hP0 := h.1
  have hS0 := h.2.1
  obtain ⟨hf, ⟨g1, g2, g3⟩, g4, g5⟩ := hX
  obtain ⟨j1, j2, j3⟩ := spC_ok hng hns hc
  have hP : PL X nb ns ng nh := hP0.fr (hf.mono (fun k j q => by unfold Scr; omega))
  have y42 : X.1 42 = σ.1 42 := funext (fun j => hf 42 j (by omega))
  have y43 : X.1 43 = σ.1 43 := funext (fun j => hf 43 j (by omega))
  have y44 : X.1 44 = σ.1 44 := funext (fun j => hf 44 j (by omega))
  unfold f_X1_weigh_34
  rw [ok_bd1]
  refine ok_mono (c_cast (σ := X) (n := ng) (sp := spC ng ns c) (hg := hgM σ) hP (by omega) g1 (fun s hs => by rw [hr s hs]; exact j1 s hs) j2 j3 (fun g hg => (g4 g hg).1) (fun g hg => (hgM_rg hP0 hS0 g hg).1.up (by omega) (by omega)) (by rw [g2]; exact hl) (by rw [g3, ← hS0.2.2.1.2.2.2.1]; exact hS0.2.2.2.1)) (fun Z hZ => ?_)
  obtain ⟨f, f', rfl, hff⟩ := hZ
  rw [y42, y43, y44, g2, g3] at hff
  generalize hY : sc (sc X 31 f) 32 f' = Y
  have hYW : WI σ Y ng lg x := by
    rw [← hY]
    exact ⟨(hf.sc (fun j => by omega)).sc (fun j => by omega), ⟨g1, g2, g3⟩, g4, g5⟩
  have y33 : ∀ s, Y.1 33 s = X.1 33 s := by rw [← hY]; exact fun s => rfl
  have yA : AccC Y ng ns a := by rw [← hY]; exact ha
  have yal : ∀ g, g < ng → Y.1 32 g - Y.1 30 g = alS σ ng lg (spC ng ns c) g := by
    intro g hg
    have e32 : Y.1 32 g = giftS (σ.1 39 18) (spC ng ns c) (shadeS (hgM σ) (σ.1 42) (σ.1 43) (σ.1 44) (spC ng ns c) ng lg) ng g := by rw [← hY]; exact (hff g hg).2
    rw [e32, (hYW.2.2.1 g hg).2]
    rfl
  rw [hYW.2.2.2]
  -- to weigh is to keep the better
  have fin : Ok (f_X1_weigh_34_j36 Y (vlC σ ng ns lg x c)) (fun Z => WI σ Z ng lg x ∧ (∀ s, Z.1 33 s = X.1 33 s) ∧ AccC Z ng ns (stepF (okB ng ns m) (vlC σ ng ns lg x) a c)) := by
    have put : Ok (f_X1_weigh_34_j52 Y (vlC σ ng ns lg x c)) (fun Z => WI σ Z ng lg x ∧ (∀ s, Z.1 33 s = X.1 33 s) ∧ AccC Z ng ns (some (vlC σ ng ns lg x c, c))) := by
      unfold f_X1_weigh_34_j52 f_X1_weigh_34_j80
      refine ok_bs.mpr (ok_bs.mpr (ok_gd.mpr ⟨by decide, ok_bs.mpr (ok_some.mpr ?_)⟩))
      obtain ⟨q1, q2, q3, q4⟩ := hYW
      refine ⟨⟨((q1.su (by omega)).su (by omega)).sc (fun j => by omega), q2, q3, q4⟩, y33, rfl, rfl, fun s hs => ?_⟩
      show va_cpy (Y.1 33) (Y.1 35) 0 0 6 s = _
      rw [cpy_0 (by omega), y33 s, hr s hs]
    have stay : Ok (f_X1_weigh_34_j80 Y) (fun Z => WI σ Z ng lg x ∧ (∀ s, Z.1 33 s = X.1 33 s) ∧ AccC Z ng ns a) := by
      unfold f_X1_weigh_34_j80
      exact ok_some.mpr ⟨hYW, y33, yA⟩
    unfold f_X1_weigh_34_j36
    rw [ok_bs]
    cases a with
    | none =>
      have e3 : Y.1 34 3 = 0 := yA
      rw [if_pos e3, stepF_none hc]
      exact put
    | some p =>
      obtain ⟨e3, e4, -⟩ := id yA
      rw [if_neg (by rw [e3]; decide), e4]
      by_cases cv : vlC σ ng ns lg x c ≤ p.1
      · rw [if_pos cv, stepF_le hc cv]
        exact stay
      · rw [if_neg cv, stepF_gt hc cv]
        exact put
  rcases hx with q | q
  · rw [if_pos q, c_sumAlms (by omega) hYW.2.1.1, bd2_eq, sumN_cong (f := alS σ ng lg (spC ng ns c)) (fun g hg => yal g hg)]
    have ev : sumN (alS σ ng lg (spC ng ns c)) ng = vlC σ ng ns lg x c := (if_pos q).symm
    rw [ev]
    exact fin
  · obtain ⟨g, hg, eg⟩ := inB_ex q (by omega)
    rw [if_neg (inB_ne q), c_almsX (show ng ≤ 7 by omega) hYW.2.1.1 q, bd2_eq]
    have ev : Y.1 32 x.toNatClampNeg - Y.1 30 x.toNatClampNeg = vlC σ ng ns lg x c := by
      have e1 : vlC σ ng ns lg x c = alS σ ng lg (spC ng ns c) x.toNatClampNeg := if_neg (inB_ne q)
      rw [e1]
      refine yal _ ?_
      rw [eg, nI_clamp (by omega)]
      exact hg
    rw [ev]
    exact fin
