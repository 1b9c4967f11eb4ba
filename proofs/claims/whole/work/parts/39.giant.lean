/-! giant -/
theorem SR.cgn {ns ng nh : Nat} {D : Int} {w v u : Nat → Int32} {d gv lw sd : Int32} {sp ht pu : Nat → Int32} {d' gv' lw' sd' : Int32} (h : SR ns ng nh D w v u d gv lw sd sp ht pu d' gv' lw' sd') {sp2 ht2 : Nat → Int32} (hsp : ∀ g, g < ng → sp2 g = sp g) (hht : ∀ g, g < ng → ht2 g = ht g) : SR ns ng nh D w v u d gv lw sd sp2 ht2 pu d' gv' lw' sd' := by
  obtain ⟨⟨a1, a2, a3⟩, ⟨b1, b2, b3, b4⟩, c, d1⟩ := h
  refine ⟨⟨a1, fun g h1 => ?_, fun g g' h1 h2 e h0 => ?_⟩, ⟨b1, b2, fun g h1 => ?_, fun g i h1 h2 => ?_⟩, c, d1⟩
  · rw [hsp g h1]; exact a2 g h1
  · rw [hsp g h1, hsp g' h2] at e
    rw [hsp g h1] at h0
    exact a3 g g' h1 h2 e h0
  · rw [hht g h1]; exact b3 g h1
  · rw [hht g h1]; exact b4 g i h1 h2
def ScG (ng k j : Nat) : Prop := Scr k j ∨ ((k = 48 ∨ k = 49) ∧ j = ng)
theorem Rl.frG {σ τ : Sto} {N nb ns ng nh : Nat} (h : Rl σ N nb ns ng nh) (hf : Fr (ScG ng) σ τ) : Rl τ N nb ns ng nh := by
  obtain ⟨a, b, c, d, e, f⟩ := h
  refine ⟨a.cg (fun k j q => hf k j (by unfold dPL at q; unfold ScG Scr; omega)), ?_, c.cg (fun k j q => hf k j (by unfold dTX at q; unfold ScG Scr; omega)), d.cg (fun k j q => hf k j (by unfold dTA at q; unfold ScG Scr; omega)), e.cg (fun k j q => hf k j (by unfold dBK at q; unfold ScG Scr; omega)), f.cg (fun k j q => hf k j (by unfold dIM at q; unfold ScG Scr; omega))⟩
  unfold SN at b ⊢
  rw [show τ.1 11 = σ.1 11 from funext (fun j => hf 11 j (by unfold ScG Scr; omega)), show τ.1 12 = σ.1 12 from funext (fun j => hf 12 j (by unfold ScG Scr; omega)), show τ.1 13 = σ.1 13 from funext (fun j => hf 13 j (by unfold ScG Scr; omega)), show τ.1 10 = σ.1 10 from funext (fun j => hf 10 j (by unfold ScG Scr; omega)), show τ.1 50 = σ.1 50 from funext (fun j => hf 50 j (by unfold ScG Scr; omega)), hf 39 13 (by unfold ScG Scr; omega), hf 39 17 (by unfold ScG Scr; omega), hf 39 18 (by unfold ScG Scr; omega), hf 39 19 (by unfold ScG Scr; omega)]
  exact b.cgn (fun g hg => hf 48 g (by unfold ScG Scr; omega)) (fun g hg => hf 49 g (by unfold ScG Scr; omega))
theorem stp_lookG {f7 f8 : Sto → Option (Sto × Int32)} {N nb ns ng nh : Nat} {σ : Sto} {v : Int32} (h : Rl σ N nb ns ng nh) (h7 : Ok (f7 σ) (fun y => Fr Scr σ y.1 ∧ y.2 = v)) (h8 : ∀ τ, Fr Scr σ τ → Ok (f8 τ) (fun z => Fr (ScG ng) τ z.1 ∧ z.2 = v)) : Ok (f7 σ) (fun y => Ok (f8 y.1) (fun z => z.2 = y.2 ∧ R (N + 1) z.1)) := by
  refine ok_mono h7 (fun y hy => ?_)
  refine ok_mono (h8 y.1 hy.1) (fun z hz => ?_)
  exact ⟨hz.2.trans hy.2.symm, nb, ns, ng, nh, ((h.fr hy.1).frG hz.1).up (by omega)⟩
theorem c_sumAlms {τ : Sto} {n : Nat} (hn : n ≤ 7) (h1 : τ.1 28 1 = nI n) : f_X5_sumOfAlms_28 τ = some (τ, sumN (fun g => τ.1 32 g - τ.1 30 g) n) := by
  unfold f_X5_sumOfAlms_28
  rw [bs_eq, bs_eq]
  have hl : lpF (fun t => f_X5_sumOfAlms_28_l4 t.1 t.2.1 t.2.2) FU (τ, (0 : Int32), (0 : Int32)) = some (τ, sumN (fun g => τ.1 32 g - τ.1 30 g) n, nI n) := by
    refine lp_eq (fun i => (τ, sumN (fun g => τ.1 32 g - τ.1 30 g) i, nI i)) n (FU_big (by omega)) (fun i hi => ?_) ?_
    · dsimp only
      unfold f_X5_sumOfAlms_28_l4
      rw [h1, if_neg (nI_ge hi (by omega)), inB_n (show i < 7 by omega) (by omega)]
      simp only [gd_true, bsN, nI_clamp (show i < 2 ^ 31 by omega), nI_1, sumN_s]
    · dsimp only
      unfold f_X5_sumOfAlms_28_l4
      rw [h1, if_pos (nI_le (Nat.le_refl n) (by omega))]
  rw [hl, bE2_eq]
def spG (σ : Sto) (ng s : Nat) : Nat → Int32 := upd (σ.1 48) ng (nI s)
def hgG (σ : Sto) (ng : Nat) (a : Int32) : Nat → Int32 := upd (hgM σ) ng a
def coG (σ : Sto) (ng : Nat) : Nat → Int32 := upd (coM σ) ng 0
def shG (σ : Sto) (ng : Nat) (a lg : Int32) (s : Nat) : Nat → Int32 := shadeS (hgG σ ng a) (σ.1 42) (σ.1 43) (σ.1 44) (spG σ ng s) (ng + 1) lg
def gfG (σ : Sto) (ng : Nat) (a lg : Int32) (s : Nat) : Nat → Int32 := giftS (σ.1 39 18) (spG σ ng s) (shG σ ng a lg s) (ng + 1)
def totG (σ : Sto) (ng : Nat) (a lg c : Int32) (s : Nat) : Int32 := sumN (fun g => gfG σ ng a lg s g - coG σ ng g) (ng + 1) - sumN (alM σ ng lg) ng - c
def gB (σ : Sto) (ng : Nat) (v : Nat → Int32) : Nat → Int32 × Int32
  | 0 => (-1, 0)
  | s + 1 => if whoN (σ.1 48) (nI s) ng = -1 then (if (gB σ ng v s).1 = -1 then (nI s, v s) else if v s ≤ (gB σ ng v s).2 then gB σ ng v s else (nI s, v s)) else gB σ ng v s
theorem gB_in (σ : Sto) (ng : Nat) (v : Nat → Int32) : ∀ s, s ≤ 6 → (gB σ ng v s).1 = -1 ∨ inB (gB σ ng v s).1 6 = true := by
  intro s
  induction s with
  | zero => intro _; exact Or.inl rfl
  | succ s ih =>
    intro hs
    have i1 := ih (by omega)
    have nw : (nI s, v s).1 = -1 ∨ inB (nI s, v s).1 6 = true := Or.inr (inB_n (by omega) (by omega))
    show (if _ then _ else _ : Int32 × Int32).1 = -1 ∨ inB (if _ then _ else _ : Int32 × Int32).1 6 = true
    split
    · split
      · exact nw
      · split
        · exact i1
        · exact nw
    · exact i1
section GIANT
variable {σ : Sto} {N nb ns ng nh : Nat}
theorem giant_inj (h : Rl σ N nb ns ng nh) {s : Nat} (hs : s < ns) (hw : whoN (σ.1 48) (nI s) ng = -1) : (∀ s', s' < ns → ∀ r, r = whoN (σ.1 48) (nI s') ng → IsWho (spG σ ng s) (nI s') (ng + 1) (if s' = s then nI ng else r)) ∧ (∀ g, g < ng + 1 → spG σ ng s g = -1 ∨ inB (spG σ ng s g) ns = true) ∧ Inj (spG σ ng s) (ng + 1) := by
  have hng : ng ≤ 6 := h.1.1.2.2.1
  have hns : ns ≤ 6 := h.1.1.2.1
  have hS := h.2.1
  have free : ∀ g, g < ng → ¬ σ.1 48 g = nI s := by
    rcases whoN_is (σ.1 48) (nI s) ng with ⟨k1, k2⟩ | ⟨g, k1, k2, k3⟩
    · exact k2
    · rw [k2] at hw; exact absurd hw (nI_ne_m1 (by omega))
  refine ⟨fun s' hs' r hr => ?_, fun g hg => ?_, fun g g' h1 h2 e h0 => ?_⟩
  · by_cases c : s' = s
    · subst c
      rw [if_pos rfl]
      exact Or.inr ⟨ng, by omega, rfl, pk_us⟩
    · rw [if_neg c]
      have hne : ¬ nI s = nI s' := fun q => c ((nI_eq (by omega) (by omega)).mp q).symm
      rcases whoN_is (σ.1 48) (nI s') ng with ⟨k1, k2⟩ | ⟨g, k1, k2, k3⟩
      · refine Or.inl ⟨hr.trans k1, fun g hg => ?_⟩
        unfold spG
        by_cases q : g = ng
        · subst q; rw [pk_us]; exact hne
        · rw [pk_un q]; exact k2 g (by omega)
      · refine Or.inr ⟨g, by omega, hr.trans k2, ?_⟩
        unfold spG
        rw [pk_un (by omega)]
        exact k3
  · unfold spG
    by_cases q : g = ng
    · subst q; rw [pk_us]; exact Or.inr (inB_n hs (by omega))
    · rw [pk_un q]; exact (hS.1.2.1 g (by omega)).2
  · unfold spG at e h0
    by_cases q1 : g = ng
    · subst q1
      rw [pk_us] at e
      by_cases q2 : g' = g
      · exact q2.symm
      · rw [pk_un q2] at e
        exact absurd e.symm (free g' (by omega))
    · rw [pk_un q1] at e h0
      by_cases q2 : g' = ng
      · subst q2
        rw [pk_us] at e
        exact absurd e (free g (by omega))
      · rw [pk_un q2] at e
        exact hS.1.2.2 g g' (by omega) (by omega) e h0
def GiI (σ X : Sto) (ns ng : Nat) (a lg : Int32) : Prop := Fr (fun k j => 28 ≤ k ∧ k ≤ 33) σ X ∧ (X.1 28 1 = nI (ng + 1) ∧ X.1 28 2 = lg ∧ X.1 28 3 = σ.1 39 18) ∧ (∀ g, g < ng + 1 → X.1 29 g = hgG σ ng a g ∧ X.1 30 g = coG σ ng g) ∧ ∀ s, s < ns → X.1 33 s = whoN (σ.1 48) (nI s) ng
theorem c_giantL (h : Rl σ N nb ns ng nh) {a b lg c : Int32} (w : Int32) (ha : rgI a 1 200) (hl : rgI lg 0 1000) {X : Sto} (hX : GiI σ X ns ng a lg) : Ok (lpF (fun t => f_X7_giant_l92 c w (sumN (alM σ ng lg) ng) (nI ng) t.1 t.2.1 t.2.2.1 t.2.2.2) FU (X, (-1 : Int32), (0 : Int32), (0 : Int32))) (fun y => Fr Scr σ y.1 ∧ y.2.1 = (gB σ ng (totG σ ng a lg c) ns).1 ∧ y.2.2.1 = (gB σ ng (totG σ ng a lg c) ns).2) := by
  have hng : ng ≤ 6 := h.1.1.2.2.1
  have hns : ns ≤ 6 := h.1.1.2.1
  have hP0 := h.1
  have hS0 := h.2.1
  refine lp_for (fun i t => GiI σ t.1 ns ng a lg ∧ t.2.1 = (gB σ ng (totG σ ng a lg c) i).1 ∧ t.2.2.1 = (gB σ ng (totG σ ng a lg c) i).2 ∧ t.2.2.2 = nI i) ns (FU_big (by omega)) ⟨hX, rfl, rfl, rfl⟩ ?_ ?_
  · rintro i ⟨X, x1, x2, x3⟩ hi ⟨hG, e1, e2, e3⟩
    dsimp only at hG e1 e2 e3 ⊢
    subst e1 e2 e3
    obtain ⟨hf, ⟨g1, g2, g3⟩, g4, g5⟩ := id hG
    have hP : PL X nb ns ng nh := hP0.fr (hf.mono (fun k j q => by unfold Scr; omega))
    unfold f_X7_giant_l92 f_X7_giant_j184 f_X7_giant_j176 f_X7_giant_j184
    rw [(c_cnt hP).2.1, bd2_eq, if_neg (nI_ge hi (by omega)), inB_n (show i < 6 by omega) (by omega), gd_true, nI_clamp (show i < 2 ^ 31 by omega), g5 i hi]
    simp only [bsN, gd_true, nI_1]
    by_cases cw : whoN (σ.1 48) (nI i) ng = -1
    · rw [if_pos cw]
      obtain ⟨j1, j2, j3⟩ := giant_inj h hi cw
      generalize hY : su X 33 i (nI ng) = Y
      have hfY : Fr (fun k j => 28 ≤ k ∧ k ≤ 33) σ Y := by rw [← hY]; exact hf.su (by omega)
      have hPY : PL Y nb ns ng nh := hP0.fr (hfY.mono (fun k j q => by unfold Scr; omega))
      have y1 : Y.1 28 1 = nI (ng + 1) := by rw [← hY]; exact g1
      have y2 : Y.1 28 2 = lg := by rw [← hY]; exact g2
      have y3 : Y.1 28 3 = σ.1 39 18 := by rw [← hY]; exact g3
      have y29 : ∀ g, g < ng + 1 → Y.1 29 g = hgG σ ng a g ∧ Y.1 30 g = coG σ ng g := by rw [← hY]; exact g4
      have y33 : ∀ s, s < ns → Y.1 33 s = if s = i then nI ng else whoN (σ.1 48) (nI s) ng := by
        intro s hs
        rw [← hY, su_at]
        by_cases q : s = i
        · subst q; rw [if_pos ⟨rfl, rfl⟩, if_pos rfl]
        · rw [if_neg (fun z => q z.2), if_neg q]; exact g5 s hs
      have y42 : Y.1 42 = σ.1 42 := funext (fun j => hfY 42 j (by omega))
      have y43 : Y.1 43 = σ.1 43 := funext (fun j => hfY 43 j (by omega))
      have y44 : Y.1 44 = σ.1 44 := funext (fun j => hfY 44 j (by omega))
      have hcast := c_cast (σ := Y) (n := ng + 1) (sp := spG σ ng i) (hg := hgG σ ng a) hPY (by omega) y1 (fun s hs => by rw [y33 s hs]; exact j1 s hs _ rfl) j2 j3 (fun g hg => (y29 g hg).1) (fun g hg => by
        unfold hgG
        by_cases q : g = ng
        · subst q; rw [pk_us]; exact ha.up (by omega) (by omega)
        · rw [pk_un q]; exact (hgM_rg hP0 hS0 g (by omega)).1.up (by omega) (by omega)) (by rw [y2]; exact hl) (by rw [y3, ← hS0.2.2.1.2.2.2.1]; exact hS0.2.2.2.1)
      rw [ok_bd1]
      refine ok_mono hcast (fun Z hZ => ?_)
      obtain ⟨f, f', rfl, hff⟩ := hZ
      rw [y42, y43, y44, y2, y3] at hff
      generalize hW : su (sc (sc Y 31 f) 32 f') 33 i (-1) = W
      have hGW : GiI σ W ns ng a lg := by
        rw [← hW]
        refine ⟨((hfY.sc (fun j => by omega)).sc (fun j => by omega)).su (by omega), ⟨y1, y2, y3⟩, y29, fun s hs => ?_⟩
        rw [su_at]
        by_cases q : s = i
        · subst q; rw [if_pos ⟨rfl, rfl⟩]; exact cw.symm
        · rw [if_neg (fun z => q z.2)]
          show Y.1 33 s = _
          rw [y33 s hs, if_neg q]
      have w1 : W.1 28 1 = nI (ng + 1) := hGW.2.1.1
      have wv : sumN (fun g => W.1 32 g - W.1 30 g) (ng + 1) = sumN (fun g => gfG σ ng a lg i g - coG σ ng g) (ng + 1) := by
        refine sumN_cong (fun g hg => ?_)
        have e32 : W.1 32 g = gfG σ ng a lg i g := by rw [← hW]; exact (hff g hg).2
        rw [e32, (hGW.2.2.1 g hg).2]
      rw [c_sumAlms (by omega) w1, bd2_eq, wv]
      have ev : sumN (fun g => gfG σ ng a lg i g - coG σ ng g) (ng + 1) - sumN (alM σ ng lg) ng - c = totG σ ng a lg c i := rfl
      rw [ev]
      by_cases c1 : (gB σ ng (totG σ ng a lg c) i).1 = -1
      · rw [if_pos c1, ok_some]
        have es : gB σ ng (totG σ ng a lg c) (i + 1) = (nI i, totG σ ng a lg c i) := (if_pos cw).trans (if_pos c1)
        exact Or.inl ⟨_, rfl, hGW, by rw [es], by rw [es], rfl⟩
      · rw [if_neg c1]
        by_cases c2 : totG σ ng a lg c i ≤ (gB σ ng (totG σ ng a lg c) i).2
        · rw [if_pos c2, ok_some]
          have es : gB σ ng (totG σ ng a lg c) (i + 1) = gB σ ng (totG σ ng a lg c) i := (if_pos cw).trans ((if_neg c1).trans (if_pos c2))
          exact Or.inl ⟨_, rfl, hGW, by rw [es], by rw [es], rfl⟩
        · rw [if_neg c2, ok_some]
          have es : gB σ ng (totG σ ng a lg c) (i + 1) = (nI i, totG σ ng a lg c i) := (if_pos cw).trans ((if_neg c1).trans (if_neg c2))
          exact Or.inl ⟨_, rfl, hGW, by rw [es], by rw [es], rfl⟩
    · rw [if_neg cw, ok_some]
      have es : gB σ ng (totG σ ng a lg c) (i + 1) = gB σ ng (totG σ ng a lg c) i := if_neg cw
      exact Or.inl ⟨_, rfl, hG, by rw [es], by rw [es], rfl⟩
  · rintro ⟨X, x1, x2, x3⟩ ⟨hG, e1, e2, e3⟩
    dsimp only at hG e1 e2 e3 ⊢
    subst e1 e2 e3
    have hP : PL X nb ns ng nh := hP0.fr (hG.1.mono (fun k j q => by unfold Scr; omega))
    unfold f_X7_giant_l92
    rw [(c_cnt hP).2.1, bd2_eq, if_pos (nI_le (Nat.le_refl ns) (by omega)), ok_some]
    exact ⟨_, rfl, hG.1.mono (fun k j q => by unfold Scr; omega), rfl, rfl⟩
/-- the reference's store with the giant in it -/
theorem giant_view {T : Sto} {a : Int32} {s : Nat} (h45 : T.1 45 = upd (σ.1 45) ng a) (h46 : T.1 46 = σ.1 46) (h47 : T.1 47 = σ.1 47) (h42 : T.1 42 = σ.1 42) (h43 : T.1 43 = σ.1 43) (h44 : T.1 44 = σ.1 44) (h49 : T.1 49 = upd (σ.1 49) ng (-1)) (h48 : T.1 48 = upd (σ.1 48) ng (nI s)) (h18 : T.1 39 18 = σ.1 39 18) (lg : Int32) : gfM T (ng + 1) lg = gfG σ ng a lg s ∧ coM T = coG σ ng := by
  have eh : hgM T = hgG σ ng a := by
    unfold hgM hgG
    rw [h45, h46, h49]
    funext g
    by_cases q : g = ng
    · subst q
      rw [pk_us, pk_us, pk_us]
      exact Int32.add_zero a
    · rw [pk_un q, pk_un q, pk_un q]
      rfl
  have ec : coM T = coG σ ng := by
    unfold coM coG
    rw [h47, h49]
    funext g
    by_cases q : g = ng
    · subst q
      rw [pk_us, pk_us]
      rfl
    · rw [pk_un q, pk_un q]
      rfl
  refine ⟨?_, ec⟩
  unfold gfM gfG shM shG
  rw [h18, h48, eh, h42, h43, h44]
  rfl
def GiM (σ X : Sto) (ng : Nat) (a : Int32) : Prop := Fr (fun k j => ScG ng k j ∨ (k = 45 ∧ j = ng)) σ X ∧ X.1 45 ng = a ∧ X.1 49 ng = -1
theorem m_giantL (h : Rl σ N nb ns ng nh) {a b c : Int32} (w z : Int32) (hb : inB b nb = true) {X : Sto} (hX : GiM σ X ng a) : Ok (lpF (fun t => f_X8_giant_l112 b c w (sumN (alM σ ng (lonM σ b (σ.1 39 13))) ng) z t.1 t.2.1 t.2.2.1 t.2.2.2) FU (X, (-1 : Int32), (0 : Int32), (0 : Int32))) (fun y => GiM σ y.1 ng a ∧ y.2.1 = (gB σ ng (totG σ ng a (lonM σ b (σ.1 39 13)) c) ns).1 ∧ y.2.2.1 = (gB σ ng (totG σ ng a (lonM σ b (σ.1 39 13)) c) ns).2) := by
  have hng : ng ≤ 6 := h.1.1.2.2.1
  have hns : ns ≤ 6 := h.1.1.2.1
  have hnb : nb ≤ 4 := h.1.1.1
  have hP0 := h.1
  have hS0 := h.2.1
  generalize hlg : lonM σ b (σ.1 39 13) = lg
  refine lp_for (fun i t => GiM σ t.1 ng a ∧ t.2.1 = (gB σ ng (totG σ ng a lg c) i).1 ∧ t.2.2.1 = (gB σ ng (totG σ ng a lg c) i).2 ∧ t.2.2.2 = nI i) ns (FU_big (by omega)) ⟨hX, rfl, rfl, rfl⟩ ?_ ?_
  · rintro i ⟨X, x1, x2, x3⟩ hi ⟨hG, e1, e2, e3⟩
    dsimp only at hG e1 e2 e3 ⊢
    subst e1 e2 e3
    obtain ⟨hf, g45, g49⟩ := id hG
    have k39 : ∀ j, j = 0 ∨ j = 4 ∨ j = 8 ∨ j = 13 ∨ j = 18 → X.1 39 j = σ.1 39 j := fun j hj => hf 39 j (by unfold ScG Scr; omega)
    have e8 : X.1 39 8 = nI ng := (k39 8 (by omega)).trans hP0.2.1.2.2.1
    have e4 : X.1 39 4 = nI ns := (k39 4 (by omega)).trans hP0.2.1.2.1
    have ew : whoN (X.1 48) (nI i) ng = whoN (σ.1 48) (nI i) ng := whoN_cong (fun g hg => hf 48 g (by unfold ScG Scr; omega))
    unfold f_X8_giant_l112 f_X8_giant_j189 f_X8_giant_j194 f_X8_giant_j208 f_X8_giant_j222 f_X8_giant_j224
    rw [e4, if_neg (nI_ge hi (by omega)), e8, m_whoIsOn X (nI i) (show ng ≤ 7 by omega), bd2_eq, ew, e8, inB_n (show ng < 7 by omega) (by omega), gd_true, nI_clamp (show ng < 2 ^ 31 by omega)]
    simp only [bsN, nI_1]
    by_cases cw : whoN (σ.1 48) (nI i) ng = -1
    · rw [if_neg (m1_nle cw)]
      generalize hT : su X 48 ng (nI i) = T
      have hfT : Fr (fun k j => ScG ng k j ∨ (k = 45 ∧ j = ng)) σ T := by rw [← hT]; exact hf.su (by unfold ScG; omega)
      have t39 : ∀ j, j = 0 ∨ j = 4 ∨ j = 8 ∨ j = 13 ∨ j = 18 → T.1 39 j = σ.1 39 j := fun j hj => hfT 39 j (by unfold ScG Scr; omega)
      have trow : ∀ k, (40 ≤ k ∧ k ≤ 44) ∨ k = 46 ∨ k = 47 → T.1 k = σ.1 k := fun k hk => funext (fun j => hfT k j (by unfold ScG Scr; omega))
      have t48 : T.1 48 = upd (σ.1 48) ng (nI i) := by
        rw [← hT, su_same]
        funext j
        by_cases q : j = ng
        · subst q; rw [pk_us, pk_us]
        · rw [pk_un q, pk_un q]; exact hf 48 j (by unfold ScG Scr; omega)
      have t49 : T.1 49 = upd (σ.1 49) ng (-1) := by
        funext j
        by_cases q : j = ng
        · subst q; rw [pk_us, ← hT]; exact g49
        · rw [pk_un q]; exact hfT 49 j (by unfold ScG Scr; omega)
      have t45 : T.1 45 = upd (σ.1 45) ng a := by
        funext j
        by_cases q : j = ng
        · subst q; rw [pk_us, ← hT]; exact g45
        · rw [pk_un q]; exact hfT 45 j (by unfold ScG Scr; omega)
      obtain ⟨vg, vc⟩ := giant_view t45 (trow 46 (by omega)) (trow 47 (by omega)) (trow 42 (by omega)) (trow 43 (by omega)) (trow 44 (by omega)) t49 t48 (t39 18 (by omega)) lg
      have hok : Okv T (ng + 1) := by
        intro g hg
        rw [t48, t49]
        by_cases q : g = ng
        · subst q
          rw [pk_us, pk_us]
          exact ⟨Or.inr (inB_n (by omega) (by omega)), Or.inl rfl⟩
        · rw [pk_un q, pk_un q]
          exact SN.okv hP0 hS0 g (by omega)
      have hlo : f_X8_longNow T b = some (T, lg) := by
        have y0 : ¬ T.1 39 0 = 0 := by rw [t39 0 (by omega)]; exact hP0.y0
        rw [m_longNow (inB_up hb hnb) y0, t39 0 (by omega), trow 40 (by omega), trow 41 (by omega), t39 13 (by omega)]
        rw [← hlg]
        rfl
      have et8 : T.1 39 8 = nI ng := (t39 8 (by omega)).trans hP0.2.1.2.2.1
      rw [hlo, bd2_eq, et8, nI_1, m_findAlms lg hok (by omega), bd1_eq]
      generalize hU : sc (sc T 60 (fillN (shM T (ng + 1) lg) (T.1 60) (ng + 1))) 61 (fillN (gfM T (ng + 1) lg) (T.1 61) (ng + 1)) = U
      have hfU : Fr (fun k j => ScG ng k j ∨ (k = 45 ∧ j = ng)) σ U := by
        rw [← hU]
        exact (hfT.sc (fun j => by unfold ScG Scr; omega)).sc (fun j => by unfold ScG Scr; omega)
      have hokU : Okv U (ng + 1) := by rw [← hU]; exact hok
      have u8 : U.1 39 8 = nI ng := by rw [← hU]; exact et8
      have hGU : GiM σ U ng a := by
        refine ⟨hfU, ?_, ?_⟩
        · rw [← hU]
          show T.1 45 ng = a
          rw [t45, pk_us]
        · rw [← hU]
          show T.1 49 ng = -1
          rw [t49, pk_us]
      have uv : sumN (fun g => U.1 61 g - coM U g) (ng + 1) = sumN (fun g => gfG σ ng a lg i g - coG σ ng g) (ng + 1) := by
        refine sumN_cong (fun g hg => ?_)
        have e61 : U.1 61 g = gfG σ ng a lg i g := by
          rw [← hU, sc_same, fillN_in hg, vg]
        have eco : coM U = coG σ ng := by rw [← hU]; exact vc
        rw [e61, eco]
      rw [u8, nI_1, m_almsOfAll hokU (by omega), bd2_eq, uv]
      have ev : sumN (fun g => gfG σ ng a lg i g - coG σ ng g) (ng + 1) - sumN (alM σ ng lg) ng - c = totG σ ng a lg c i := rfl
      rw [ev]
      rcases gB_in σ ng (totG σ ng a lg c) i (by omega) with c1 | c1
      · rw [if_pos (m1_neg c1), if_neg (by decide), if_neg (by decide), ok_some]
        have es : gB σ ng (totG σ ng a lg c) (i + 1) = (nI i, totG σ ng a lg c i) := (if_pos cw).trans (if_pos c1)
        exact Or.inl ⟨_, rfl, hGU, by rw [es], by rw [es], rfl⟩
      · rw [if_neg (inB_nneg c1)]
        by_cases c2 : totG σ ng a lg c i ≤ (gB σ ng (totG σ ng a lg c) i).2
        · rw [if_pos c2, if_pos trivial, if_pos trivial, ok_some]
          have es : gB σ ng (totG σ ng a lg c) (i + 1) = gB σ ng (totG σ ng a lg c) i := (if_pos cw).trans ((if_neg (inB_ne c1)).trans (if_pos c2))
          exact Or.inl ⟨_, rfl, hGU, by rw [es], by rw [es], rfl⟩
        · rw [if_neg c2, if_neg (by decide), if_neg (by decide), ok_some]
          have es : gB σ ng (totG σ ng a lg c) (i + 1) = (nI i, totG σ ng a lg c i) := (if_pos cw).trans ((if_neg (inB_ne c1)).trans (if_neg c2))
          exact Or.inl ⟨_, rfl, hGU, by rw [es], by rw [es], rfl⟩
    · have c0 : (0 : Int32) ≤ whoN (σ.1 48) (nI i) ng := by
        rcases whoN_is (σ.1 48) (nI i) ng with ⟨k1, k2⟩ | ⟨g, k1, k2, k3⟩
        · exact absurd k1 cw
        · rw [k2]; exact nI_pos' (by omega)
      rw [if_pos c0, ok_some]
      have es : gB σ ng (totG σ ng a lg c) (i + 1) = gB σ ng (totG σ ng a lg c) i := if_neg cw
      exact Or.inl ⟨_, rfl, hG, by rw [es], by rw [es], rfl⟩
  · rintro ⟨X, x1, x2, x3⟩ ⟨hG, e1, e2, e3⟩
    dsimp only at hG e1 e2 e3 ⊢
    subst e1 e2 e3
    have e4 : X.1 39 4 = nI ns := (hG.1 39 4 (by unfold ScG Scr; omega)).trans hP0.2.1.2.1
    unfold f_X8_giant_l112
    rw [e4, if_pos (nI_le (Nat.le_refl ns) (by omega)), ok_some]
    exact ⟨_, rfl, hG, rfl, rfl⟩
end GIANT
theorem s_giant (b a c w : Int32) : CallR (fun σ => f_X7_giant σ b a c w) (fun σ => f_X8_giant σ b a c w) := by
  intro N σ hN hR
  obtain ⟨nb, ns, ng, nh, h⟩ := hR
  have hng : ng ≤ 6 := h.1.1.2.2.1
  have hnb : nb ≤ 4 := h.1.1.1
  have hd : rgI (σ.1 39 13) 0 (99 * N) := by rw [← h.2.1.2.2.1.2.1]; exact h.2.1.2.2.2.2.2
  refine stp_lookG (f7 := fun σ => f_X7_giant σ b a c w) (f8 := fun σ => f_X8_giant σ b a c w) h (v := if inB b nb = true then (if rgB a 1 200 = true then (if rgB c 0 999 = true then (if rgB w 0 1 = true then (if w = 0 then (gB σ ng (totG σ ng a (lonM σ b (σ.1 39 13)) c) ns).1 else (gB σ ng (totG σ ng a (lonM σ b (σ.1 39 13)) c) ns).2) else -1000000002) else -1000000002) else -1000000002) else -1000000001) ?_ (fun τ hf => ?_)
  · obtain ⟨hP, hS, -⟩ := id h
    unfold f_X7_giant f_X7_giant_j49 f_X7_giant_j202
    rw [(c_hasK hP b).1, bd2_eq, bB_if, rg_if2, rg_if2, rg_if]
    by_cases c1 : inB b nb = true
    · rw [if_pos c1, if_pos c1]
      show Ok (if rgB a 1 200 = true then (if rgB c 0 999 = true then (if rgB w 0 1 = true then _ else _) else _) else _) _
      by_cases c2 : rgB a 1 200 = true
      · rw [if_pos c2, if_pos c2]
        by_cases c3 : rgB c 0 999 = true
        · rw [if_pos c3, if_pos c3]
          by_cases c4 : rgB w 0 1 = true
          · rw [if_pos c4, if_pos c4, ok_bd1]
            refine ok_mono (c_showAt hP hS c1 hS.2.2.2.2.2) (fun X hw => ?_)
            rw [hS.2.2.1.2.1] at hw
            have hw : SW σ X ns ng (lonM σ b (σ.1 39 13)) := hw
            have hl := lonM_rg hP c1 hd
            generalize lonM σ b (σ.1 39 13) = lg at hw hl ⊢
            obtain ⟨hfX, ⟨x1, x2, x3⟩, x4, x5⟩ := hw
            have hPX : PL X nb ns ng nh := hP.fr (hfX.mono (fun k j q => by unfold Scr; omega))
            have sv : sumN (fun g => X.1 32 g - X.1 30 g) ng = sumN (alM σ ng lg) ng := sumN_cong (fun g hg => by rw [(x4 g hg).2.2, (x4 g hg).1.2]; rfl)
            rw [c_sumAlms (by omega) x1, bd2_eq, sv]
            unfold f_X5_addGiant_28
            rw [(c_cnt hPX).2.2.1, bd2_eq]
            simp only [bsN]
            rw [inB_n (show ng < 7 by omega) (by omega), gd_true, gd_true, bd2_eq, nI_clamp (show ng < 2 ^ 31 by omega), nI_1, ok_bE3]
            have hX : GiI σ (su (su (su X 29 ng a) 30 ng 0) 28 1 (nI (ng + 1))) ns ng a lg := by
              refine ⟨((hfX.su (by omega)).su (by omega)).su (by omega), ⟨rfl, x2, x3⟩, fun g hg => ?_, fun s hs => ?_⟩
              · show upd (X.1 29) ng a g = upd (hgM σ) ng a g ∧ upd (X.1 30) ng 0 g = upd (coM σ) ng 0 g
                by_cases q : g = ng
                · subst q; rw [pk_us, pk_us, pk_us, pk_us]; exact ⟨rfl, rfl⟩
                · rw [pk_un q, pk_un q, pk_un q, pk_un q]; exact (x4 g (by omega)).1
              · show X.1 33 s = _
                refine who_who hS.1.2.2 ?_ (x5 s hs)
                rw [nI_toInt (by have := hP.1.2.1; omega)]
                omega
            refine ok_mono (c_giantL h (b := b) (c := c) w (rgB_iff.mp c2) hl hX) (fun y hy => ?_)
            rw [sif, ok_some]
            refine ⟨hy.1, ?_⟩
            show (if w = 0 then y.2.1 else y.2.2.1) = _
            rw [hy.2.1, hy.2.2]
          · rw [if_neg c4, if_neg c4, ok_some]; exact ⟨Fr.rf, rfl⟩
        · rw [if_neg c3, if_neg c3, ok_some]; exact ⟨Fr.rf, rfl⟩
      · rw [if_neg c2, if_neg c2, ok_some]; exact ⟨Fr.rf, rfl⟩
    · rw [if_neg c1, if_neg c1, ok_some]; exact ⟨Fr.rf, rfl⟩
  · obtain ⟨hP, hS, -⟩ := h.fr hf
    unfold f_X8_giant f_X8_giant_j46 f_X8_giant_j263
    rw [m_isBell hP.2.1.1 (by omega), bd2_eq, bB_if, m_inI τ a _ _ (li := 1) (hi := 200) (by decide) (by decide), bd2_eq, bB_if, m_inI τ c _ _ (li := 0) (hi := 999) (by decide) (by decide), bd2_eq, bB_if, m_inI τ w _ _ (li := 0) (hi := 1) (by decide) (by decide), bd2_eq, bB_if]
    by_cases c1 : inB b nb = true
    · rw [if_pos c1, if_pos c1]
      by_cases c2 : rgB a 1 200 = true
      · rw [if_pos c2, if_pos c2]
        by_cases c3 : rgB c 0 999 = true
        · rw [if_pos c3, if_pos c3]
          by_cases c4 : rgB w 0 1 = true
          · rw [if_pos c4, if_pos c4, m_now hP c1, bd2_eq, hP.2.1.2.2.1, hf 39 13 (by unfold Scr; omega), vw_lon hf]
            obtain ⟨ρ, e, hf2, h61, hok, e8, eco⟩ := m_found hP hS (lonM σ b (σ.1 39 13))
            have hfr : Fr Scr σ ρ := hf.tr hf2
            have sv : sumN (fun g => ρ.1 61 g - coM ρ g) ng = sumN (alM σ ng (lonM σ b (σ.1 39 13))) ng := sumN_cong (fun g hg => by rw [(h61 g hg).1, eco, vw_gf hf, vw_co hf]; rfl)
            rw [e, bd1_eq, e8, m_almsOfAll hok (by omega), bd2_eq, sv]
            simp only [bsN]
            rw [e8, inB_n (show ng < 7 by omega) (by omega), gd_true, gd_true, nI_clamp (show ng < 2 ^ 31 by omega)]
            have e8b : (su ρ 45 ng a).1 39 8 = nI ng := e8
            rw [e8b, inB_n (show ng < 7 by omega) (by omega), gd_true, nI_clamp (show ng < 2 ^ 31 by omega), ok_bE3]
            have hX : GiM σ (su (su ρ 45 ng a) 49 ng (-1)) ng a := by
              refine ⟨((hfr.mono (fun k j q => Or.inl (Or.inl q))).su (Or.inr ⟨rfl, rfl⟩)).su (Or.inl (Or.inr ⟨Or.inr rfl, rfl⟩)), ?_, ?_⟩
              · show upd (ρ.1 45) ng a ng = a
                exact pk_us
              · show upd (ρ.1 49) ng (-1) ng = -1
                exact pk_us
            refine ok_mono (m_giantL h (a := a) (c := c) w (ρ.1 45 ng) c1 hX) (fun y hy => ?_)
            obtain ⟨hG, y1, y2⟩ := hy
            have y8 : y.1.1 39 8 = nI ng := (hG.1 39 8 (by unfold ScG Scr; omega)).trans h.1.2.1.2.2.1
            have y8b : (su y.1 48 ng (-1)).1 39 8 = nI ng := y8
            rw [y8, inB_n (show ng < 7 by omega) (by omega), gd_true, nI_clamp (show ng < 2 ^ 31 by omega), y8b, inB_n (show ng < 7 by omega) (by omega), gd_true, nI_clamp (show ng < 2 ^ 31 by omega), sif, ok_some]
            refine ⟨fun k j q => ?_, ?_⟩
            · rw [su_at]
              by_cases c5 : k = 45 ∧ j = ng
              · rw [if_pos c5, c5.1, c5.2]
                exact hf2 45 ng (by unfold Scr; omega)
              · rw [if_neg c5, su_at, if_neg (fun z => q (by unfold ScG; omega))]
                exact (hG.1 k j (fun z => z.elim q c5)).trans (hf k j (fun z => q (Or.inl z))).symm
            · show (if w = 0 then y.2.1 else y.2.2.1) = _
              rw [y1, y2]
          · rw [if_neg c4, if_neg c4, ok_some]; exact ⟨Fr.rf, rfl⟩
        · rw [if_neg c3, if_neg c3, ok_some]; exact ⟨Fr.rf, rfl⟩
      · rw [if_neg c2, if_neg c2, ok_some]; exact ⟨Fr.rf, rfl⟩
    · rw [if_neg c1, if_neg c1, ok_some]; exact ⟨Fr.rf, rfl⟩
