/-! hats: codes, values; the class weighs and hands out -/
def rwH (d : Nat) : Int32 := if d = 0 then -1 else nI (d - 1)
def stB (σ : Sto) (g : Nat) : Bool := decide (0 ≤ σ.1 48 g)
def okH (σ : Sto) (ng nh c : Nat) : Bool := decide ((∀ s, s < nh → ∀ s', s' < nh → dgT (ng + 1) nh c s = dgT (ng + 1) nh c s' → 0 < dgT (ng + 1) nh c s → s = s') ∧ ∀ s, s < nh → 0 < dgT (ng + 1) nh c s → stB σ (dgT (ng + 1) nh c s - 1) = true)
theorem okH_iff {σ : Sto} {ng nh c : Nat} : okH σ ng nh c = true ↔ ((∀ s, s < nh → ∀ s', s' < nh → dgT (ng + 1) nh c s = dgT (ng + 1) nh c s' → 0 < dgT (ng + 1) nh c s → s = s') ∧ ∀ s, s < nh → 0 < dgT (ng + 1) nh c s → stB σ (dgT (ng + 1) nh c s - 1) = true) := by
  unfold okH
  rw [decide_eq_true_iff]
theorem okH_no {σ : Sto} {ng nh c : Nat} (h : ¬ ((∀ s, s < nh → ∀ s', s' < nh → dgT (ng + 1) nh c s = dgT (ng + 1) nh c s' → 0 < dgT (ng + 1) nh c s → s = s') ∧ ∀ s, s < nh → 0 < dgT (ng + 1) nh c s → stB σ (dgT (ng + 1) nh c s - 1) = true)) : okH σ ng nh c = false := by
  cases e : okH σ ng nh c with
  | false => rfl
  | true => exact absurd (okH_iff.mp e) h
def rowH (ng t q : Nat) : Nat → Int32 := fun h => rwH (dgT (ng + 1) t q h)
/-- the hat that one wears, of the first t -/
def htP (ng t q : Nat) : Nat → Int32 := fun g => whoN (rowH ng t q) (nI g) t
theorem rwH_nI {d g : Nat} (hg : g < 2 ^ 31) (hd : d < 2 ^ 31) (h : rwH d = nI g) : d = g + 1 := by
  unfold rwH at h
  by_cases c : d = 0
  · rw [if_pos c] at h
    exact absurd h.symm (nI_ne_m1 hg)
  · rw [if_neg c] at h
    have := (nI_eq (by omega) hg).mp h
    omega
theorem dgT_lt {B t q s : Nat} (hB : 0 < B) : dgT B t q s < B := Nat.mod_lt _ hB
theorem htP_some {ng t q g s : Nat} (hng : ng ≤ 6) (ht : t ≤ 4) (hg : g < ng) (nd : ∀ s, s < t → ∀ s', s' < t → dgT (ng + 1) t q s = dgT (ng + 1) t q s' → 0 < dgT (ng + 1) t q s → s = s') (hs : s < t) (e : dgT (ng + 1) t q s = g + 1) : htP ng t q g = nI s := by
  rcases whoN_is (rowH ng t q) (nI g) t with ⟨k1, k2⟩ | ⟨s', k1, k2, k3⟩
  · refine absurd ?_ (k2 s hs)
    show rwH (dgT (ng + 1) t q s) = nI g
    rw [e]
    exact if_neg (by omega)
  · have := rwH_nI (by omega) (Nat.lt_trans (dgT_lt (Nat.succ_pos ng)) (by omega)) k3
    have e2 := nd s' k1 s hs (this.trans e.symm) (Nat.lt_of_lt_of_eq (Nat.succ_pos g) this.symm)
    subst e2
    exact k2
theorem htP_none {ng t q g : Nat} (hng : ng ≤ 6) (hg : g < ng) (no : ∀ s, s < t → ¬ dgT (ng + 1) t q s = g + 1) : htP ng t q g = -1 := by
  rcases whoN_is (rowH ng t q) (nI g) t with ⟨k1, k2⟩ | ⟨s', k1, k2, k3⟩
  · exact k1
  · exact absurd (rwH_nI (by omega) (Nat.lt_trans (dgT_lt (Nat.succ_pos ng)) (by omega)) k3) (no s' k1)
theorem htP_in {ng t q g : Nat} (ht : t ≤ 4) : htP ng t q g = -1 ∨ inB (htP ng t q g) t = true := by
  rcases whoN_is (rowH ng t q) (nI g) t with ⟨k1, k2⟩ | ⟨s', k1, k2, k3⟩
  · exact Or.inl k1
  · refine Or.inr ?_
    show inB (whoN (rowH ng t q) (nI g) t) t = true
    rw [k2]
    exact inB_n k1 (by omega)
/-- heights and costs with hats so lent -/
def hgH (σ : Sto) (ht : Nat → Int32) : Nat → Int32 := fun g => σ.1 45 g + adS (σ.1 46) (ht g)
def coH (σ : Sto) (ht : Nat → Int32) : Nat → Int32 := fun g => adS (σ.1 47) (ht g)
def alH (σ : Sto) (ng : Nat) (lg : Int32) (ht : Nat → Int32) : Nat → Int32 := fun g => giftS (σ.1 39 18) (σ.1 48) (shadeS (hgH σ ht) (σ.1 42) (σ.1 43) (σ.1 44) (σ.1 48) ng lg) ng g - coH σ ht g
def vlH (σ : Sto) (ng nh : Nat) (lg : Int32) (c : Nat) : Int32 := sumN (alH σ ng lg (htP ng nh c)) ng
def HI (σ X : Sto) (ns ng t q : Nat) (lg : Int32) : Prop := Fr (fun k j => (28 ≤ k ∧ k ≤ 33) ∨ (36 ≤ k ∧ k ≤ 38)) σ X ∧ (X.1 28 1 = nI ng ∧ X.1 28 2 = lg ∧ X.1 28 3 = σ.1 39 18) ∧ (∀ g, g < ng → X.1 29 g = hgH σ (htP ng t q) g ∧ X.1 30 g = coH σ (htP ng t q) g) ∧ (∀ s, s < ns → IsWho (σ.1 48) (nI s) ng (X.1 33 s)) ∧ ∀ s, s < t → X.1 37 s = rowH ng t q s
def AccH (X : Sto) (ng nh : Nat) (a : Option (Int32 × Nat)) : Prop := match a with
  | none => X.1 36 3 = 0
  | some p => X.1 36 3 = 1 ∧ X.1 36 4 = p.1 ∧ ∀ s, s < nh → X.1 38 s = rowH ng nh p.2 s
theorem c_weighH {σ X : Sto} {N nb ns ng nh c : Nat} {lg : Int32} {a : Option (Int32 × Nat)} (h : Rl σ N nb ns ng nh) (hl : rgI lg 0 1000) (hX : HI σ X ns ng nh c lg) (hc : okH σ ng nh c = true) (ha : AccH X ng nh a) : Ok (f_X0_weigh_36 X) (fun Z => HI σ Z ns ng nh c lg ∧ AccH Z ng nh (stepF (okH σ ng nh) (vlH σ ng nh lg) a c)) := by
  have hng : ng ≤ 6 := h.1.1.2.2.1
  have hns : ns ≤ 6 := h.1.1.2.1
  have hnh : nh ≤ 4 := h.1.1.2.2.2
  have hP0 := h.1
  have hS0 := h.2.1
  obtain ⟨hf, ⟨g1, g2, g3⟩, g4, g5, g6⟩ := hX
  have hP : PL X nb ns ng nh := hP0.fr (hf.mono (fun k j q => by unfold Scr; omega))
  have y42 : X.1 42 = σ.1 42 := funext (fun j => hf 42 j (by omega))
  have y43 : X.1 43 = σ.1 43 := funext (fun j => hf 43 j (by omega))
  have y44 : X.1 44 = σ.1 44 := funext (fun j => hf 44 j (by omega))
  have hhr : ∀ g, g < ng → rgI (hgH σ (htP ng nh c) g) 0 500 := by
    intro g hg
    have h1 := (hP0.2.2.2.2.2.2.1 g hg).2
    have h2 := adS_rg (f := σ.1 46) (l := 0) (h := 20) (htP_in (ng := ng) (q := c) (g := g) hnh) (by omega) (fun i hi => ((hP0.2.2.2.2.2.2.2 i hi).2.1).up (by omega) (by omega)) ⟨by omega, by omega⟩
    exact (h1.add h2 (by omega) (by omega)).up (by omega) (by omega)
  unfold f_X0_weigh_36
  rw [ok_bd1]
  refine ok_mono (c_cast (σ := X) (n := ng) (sp := σ.1 48) (hg := hgH σ (htP ng nh c)) hP (by omega) g1 g5 (fun g hg => (hS0.1.2.1 g hg).2) hS0.1.2.2 (fun g hg => (g4 g hg).1) hhr (by rw [g2]; exact hl) (by rw [g3, ← hS0.2.2.1.2.2.2.1]; exact hS0.2.2.2.1)) (fun Z hZ => ?_)
  obtain ⟨f, f', rfl, hff⟩ := hZ
  rw [y42, y43, y44, g2, g3] at hff
  generalize hY : sc (sc X 31 f) 32 f' = Y
  have hYW : HI σ Y ns ng nh c lg := by
    rw [← hY]
    exact ⟨(hf.sc (fun j => by omega)).sc (fun j => by omega), ⟨g1, g2, g3⟩, g4, g5, g6⟩
  have yA : AccH Y ng nh a := by rw [← hY]; exact ha
  have yal : ∀ g, g < ng → Y.1 32 g - Y.1 30 g = alH σ ng lg (htP ng nh c) g := by
    intro g hg
    have e32 : Y.1 32 g = giftS (σ.1 39 18) (σ.1 48) (shadeS (hgH σ (htP ng nh c)) (σ.1 42) (σ.1 43) (σ.1 44) (σ.1 48) ng lg) ng g := by rw [← hY]; exact (hff g hg).2
    rw [e32, (hYW.2.2.1 g hg).2]
    rfl
  rw [c_sumAlms (by omega) hYW.2.1.1, bd2_eq, sumN_cong (f := alH σ ng lg (htP ng nh c)) (fun g hg => yal g hg), ok_bs]
  have ev : sumN (alH σ ng lg (htP ng nh c)) ng = vlH σ ng nh lg c := rfl
  rw [ev]
  have put : Ok (f_X0_weigh_36_j30 Y (vlH σ ng nh lg c)) (fun Z => HI σ Z ns ng nh c lg ∧ AccH Z ng nh (some (vlH σ ng nh lg c, c))) := by
    unfold f_X0_weigh_36_j30 f_X0_weigh_36_j54
    refine ok_bs.mpr (ok_bs.mpr (ok_gd.mpr ⟨by decide, ok_bs.mpr (ok_some.mpr ?_)⟩))
    obtain ⟨q1, q2, q3, q4, q5⟩ := hYW
    refine ⟨⟨((q1.su (by omega)).su (by omega)).sc (fun j => by omega), q2, q3, q4, q5⟩, rfl, rfl, fun s hs => ?_⟩
    show va_cpy (Y.1 37) (Y.1 38) 0 0 4 s = _
    rw [cpy_0 (by omega), q5 s hs]
  unfold f_X0_weigh_36_j54
  cases a with
  | none =>
    have e3 : Y.1 36 3 = 0 := yA
    rw [if_pos e3, stepF_none hc]
    exact put
  | some p =>
    obtain ⟨e3, e4, -⟩ := id yA
    rw [if_neg (by rw [e3]; decide), e4]
    by_cases cv : vlH σ ng nh lg c ≤ p.1
    · rw [if_pos cv, stepF_le hc cv]
      exact ok_some.mpr ⟨hYW, yA⟩
    · rw [if_neg cv, stepF_gt hc cv]
      exact put
theorem mh_bit : ∀ U, U < 64 → ∀ g, g < 6 → (((nI U >>> (nI g &&& 31)) &&& (1 : Int32)) = 1 ↔ U.testBit g = true) := by decide +kernel
theorem mh_clr : ∀ U, U < 64 → ∀ g, g < 6 → (nI U &&& (((1 : Int32) <<< (nI g &&& 31)) ^^^ (-1 : Int32))) = nI (U &&& (63 - 2 ^ g)) ∧ (U &&& (63 - 2 ^ g)) < 64 := by decide +kernel
theorem mh_tb : ∀ U, U < 64 → ∀ g, g < 6 → ∀ h, h < 6 → (U &&& (63 - 2 ^ g)).testBit h = (U.testBit h && !decide (h = g)) := by decide +kernel
