/-! who stands where; the relation between the class's cells and the reference's -/
theorem ok_bR1 {ρ A1 β : Type} {x : Option (ρ ⊕ (Sto × A1))} {q : ρ → Option β} {k : Sto → A1 → Option β} {P : β → Prop} : Ok (bR1 x q k) P ↔ Ok x (fun e => (∀ u, e = .inl u → Ok (q u) P) ∧ ∀ z, e = .inr z → Ok (k z.1 z.2) P) := by
  unfold bR1
  rw [ok_bind]
  constructor
  · rintro ⟨e, h1, h2⟩
    refine ⟨e, h1, ?_⟩
    cases e with
    | inl u => exact ⟨fun u' q' => by cases q'; exact h2, fun z q' => (by cases q')⟩
    | inr z => exact ⟨fun u' q' => (by cases q'), fun z q' => by cases q'; exact h2⟩
  · rintro ⟨e, h1, h2⟩
    refine ⟨e, h1, ?_⟩
    cases e with
    | inl u => exact h2.1 u rfl
    | inr z => exact h2.2 z rfl
theorem ok_fun {β : Type} {f : Option β} {y : β} (h : Ok f (fun z => z = y)) : f = some y := by
  obtain ⟨z, h1, rfl⟩ := h
  exact h1
def IsWho (sp : Nat → Int32) (s : Int32) (n : Nat) (r : Int32) : Prop := (r = -1 ∧ ∀ g, g < n → ¬ sp g = s) ∨ ∃ g, g < n ∧ r = nI g ∧ sp g = s
theorem whoN_is (sp : Nat → Int32) (s : Int32) : ∀ n, IsWho sp s n (whoN sp s n) := by
  intro n
  induction n with
  | zero => exact Or.inl ⟨rfl, fun g h => absurd h (Nat.not_lt_zero g)⟩
  | succ n ih =>
    by_cases c : sp n = s
    · exact Or.inr ⟨n, Nat.lt_succ_self n, if_pos c, c⟩
    · have e : whoN sp s (n + 1) = whoN sp s n := if_neg c
      rw [e]
      rcases ih with ⟨h1, h2⟩ | ⟨g, h1, h2, h3⟩
      · refine Or.inl ⟨h1, fun g hg => ?_⟩
        by_cases q : g = n
        · subst q; exact c
        · exact h2 g (by omega)
      · exact Or.inr ⟨g, by omega, h2, h3⟩
def Inj (sp : Nat → Int32) (n : Nat) : Prop := ∀ g g', g < n → g' < n → sp g = sp g' → 0 ≤ (sp g).toInt → g = g'
theorem nI_ne_m1 {g : Nat} (h : g < 2 ^ 31) : ¬ nI g = -1 := by
  intro q
  have := i_eq.mp q
  rw [nI_toInt h] at this
  have z : (-1 : Int32).toInt = -1 := rfl
  omega
theorem who_uniq {sp : Nat → Int32} {s : Int32} {n : Nat} {r r' : Int32} (hi : Inj sp n) (hs : 0 ≤ s.toInt) (h : IsWho sp s n r) (h' : IsWho sp s n r') : r = r' := by
  rcases h with ⟨h1, h2⟩ | ⟨g, h1, h2, h3⟩
  · rcases h' with ⟨k1, k2⟩ | ⟨g', k1, k2, k3⟩
    · rw [h1, k1]
    · exact absurd k3 (h2 g' k1)
  · rcases h' with ⟨k1, k2⟩ | ⟨g', k1, k2, k3⟩
    · exact absurd h3 (k2 g h1)
    · rw [h2, k2, hi g g' h1 k1 (h3.trans k3.symm) (by rw [h3]; exact hs)]
theorem who_who {sp : Nat → Int32} {s : Int32} {n : Nat} {r : Int32} (hi : Inj sp n) (hs : 0 ≤ s.toInt) (h : IsWho sp s n r) : r = whoN sp s n := who_uniq hi hs h (whoN_is sp s n)
theorem IsWho.cong {sp sp' : Nat → Int32} {s : Int32} {n : Nat} {r : Int32} (h : IsWho sp s n r) (e : ∀ g, g < n → sp' g = sp g) : IsWho sp' s n r := by
  rcases h with ⟨h1, h2⟩ | ⟨g, h1, h2, h3⟩
  · exact Or.inl ⟨h1, fun g hg => by rw [e g hg]; exact h2 g hg⟩
  · exact Or.inr ⟨g, h1, h2, by rw [e g h1]; exact h3⟩
theorem whoN_cong {sp sp' : Nat → Int32} {s : Int32} : ∀ {n : Nat}, (∀ g, g < n → sp' g = sp g) → whoN sp' s n = whoN sp s n := by
  intro n
  induction n with
  | zero => intro _; rfl
  | succ n ih =>
    intro h
    show (if sp' n = s then _ else _) = (if sp n = s then _ else _)
    rw [h n (Nat.lt_succ_self n), ih (fun g hg => h g (by omega))]
/-- the first of N that holds s, in the class's rows -/
theorem c_first {σ : Sto} {k : Nat} {s : Int32} (N : Nat) (hN : N < 1000) {it : Sto × Int32 → Option ((Sto × Int32) ⊕ ((Sto × Int32) ⊕ (Sto × Int32)))} (hit : ∀ i, i < N → it (σ, nI i) = if σ.1 k i = s then some (.inr (.inl (σ, nI i))) else some (.inl (σ, nI (i + 1)))) (hend : it (σ, nI N) = some (.inr (.inr (σ, nI N)))) :
    Ok (bR1 (lpF it FU (σ, (0 : Int32))) (fun u => some u) (fun σ3 z4 => some (σ3, (-1 : Int32)))) (fun y => y.1 = σ ∧ IsWho (σ.1 k) s N y.2) := by
  rw [ok_bR1]
  refine lp_for (fun i t => t = (σ, nI i) ∧ ∀ g, g < i → ¬ σ.1 k g = s) N (FU_big (by omega)) ⟨rfl, fun g h => absurd h (Nat.not_lt_zero g)⟩ ?_ ?_
  · rintro i t hi ⟨rfl, h⟩
    rw [hit i hi]
    by_cases c : σ.1 k i = s
    · rw [if_pos c, ok_some]
      refine Or.inr ⟨_, rfl, fun u hu => ?_, fun z hz => (by cases hz)⟩
      cases hu
      exact ok_some.mpr ⟨rfl, Or.inr ⟨i, hi, rfl, c⟩⟩
    · rw [if_neg c, ok_some]
      refine Or.inl ⟨_, rfl, rfl, fun g hg => ?_⟩
      by_cases q : g = i
      · subst q; exact c
      · exact h g (by omega)
  · rintro t ⟨rfl, h⟩
    rw [hend, ok_some]
    refine ⟨_, rfl, fun u hu => (by cases hu), fun z hz => ?_⟩
    cases hz
    exact ok_some.mpr ⟨rfl, Or.inl ⟨rfl, h⟩⟩
theorem c_whoIsOn (σ : Sto) (s : Int32) : Ok (f_X6_whoIsOn_10 σ s) (fun y => y.1 = σ ∧ IsWho (σ.1 11) s 6 y.2) := by
  unfold f_X6_whoIsOn_10
  rw [ok_bs]
  refine c_first 6 (by decide) (fun i hi => ?_) ?_
  · unfold f_X6_whoIsOn_10_l2
    have e6 : (6 : Int32) = nI 6 := rfl
    rw [e6, if_neg (nI_ge hi (by decide)), inB_n hi (by decide), gd_true, nI_clamp (by omega), bs_eq, nI_1]
  · rfl
theorem c_hatOf (σ : Sto) (g : Int32) : Ok (f_X6_hatOf_10 σ g) (fun y => y.1 = σ ∧ IsWho (σ.1 12) g 4 y.2) := by
  unfold f_X6_hatOf_10
  rw [ok_bs]
  refine c_first 4 (by decide) (fun i hi => ?_) ?_
  · unfold f_X6_hatOf_10_l2
    have e6 : (4 : Int32) = nI 4 := rfl
    rw [e6, if_neg (nI_ge hi (by decide)), inB_n hi (by decide), gd_true, nI_clamp (by omega), bs_eq, nI_1]
  · rfl
def rgI (x : Int32) (l h : Int) : Prop := l ≤ x.toInt ∧ x.toInt ≤ h
/-- the square as both hold it -/
def PL (σ : Sto) (nb ns ng nh : Nat) : Prop :=
  (nb ≤ 4 ∧ ns ≤ 6 ∧ ng ≤ 6 ∧ nh ≤ 4) ∧
  (σ.1 39 1 = nI nb ∧ σ.1 39 4 = nI ns ∧ σ.1 39 8 = nI ng ∧ σ.1 39 10 = nI nh) ∧
  (σ.1 2 1 = nI nb ∧ σ.1 2 2 = nI ns ∧ σ.1 2 3 = nI ng ∧ σ.1 2 4 = nI nh) ∧
  (((σ.1 2 0 = nI 0 ∧ σ.1 39 0 = 12) ∨ (σ.1 2 0 = nI 1 ∧ σ.1 39 0 = σ.1 3 0)) ∧ rgI (σ.1 39 0) 1 60) ∧
  (∀ i, i < nb → (σ.1 3 (18 + 3 * i) = σ.1 40 i ∧ σ.1 3 (19 + 3 * i) = σ.1 41 i) ∧ rgI (σ.1 40 i) 0 99 ∧ rgI (σ.1 41 i) 0 9) ∧
  (∀ i, i < ns → (σ.1 3 (36 + 3 * i) = σ.1 42 i ∧ σ.1 3 (37 + 3 * i) = σ.1 43 i ∧ σ.1 3 (38 + 3 * i) = σ.1 44 i) ∧ rgI (σ.1 42 i) 0 20 ∧ rgI (σ.1 43 i) 0 9 ∧ rgI (σ.1 44 i) 0 200) ∧
  (∀ i, i < ng → σ.1 3 (54 + 3 * i) = σ.1 45 i ∧ rgI (σ.1 45 i) 1 90) ∧
  (∀ i, i < nh → (σ.1 3 (72 + 3 * i) = σ.1 46 i ∧ σ.1 3 (73 + 3 * i) = σ.1 47 i) ∧ rgI (σ.1 46 i) 1 20 ∧ rgI (σ.1 47 i) 0 50)
/-- who is where with which hat, purses, the day .. as both hold them -/
def SR (ns ng nh : Nat) (D : Int) (w v u : Nat → Int32) (d gv lw sd : Int32) (sp ht pu : Nat → Int32) (d' gv' lw' sd' : Int32) : Prop :=
  ((∀ g, g < 6 → ng ≤ g → w g = -1) ∧ (∀ g, g < ng → w g = sp g ∧ (sp g = -1 ∨ inB (sp g) ns = true)) ∧ Inj sp ng) ∧
  ((∀ h, h < 4 → nh ≤ h → v h = -1) ∧ (∀ h, h < nh → v h = -1 ∨ inB (v h) ng = true) ∧ (∀ g, g < ng → ht g = -1 ∨ inB (ht g) nh = true) ∧ (∀ g h, g < ng → h < nh → (v h = nI g ↔ ht g = nI h))) ∧
  ((∀ g, g < ng → u g = pu g) ∧ d = d' ∧ gv = gv' ∧ lw = lw' ∧ sd = sd') ∧ (rgI lw 0 2 ∧ 0 ≤ sd.toInt ∧ rgI d 0 D)
def SN (σ : Sto) (ns ng nh : Nat) (D : Int) : Prop := SR ns ng nh D (σ.1 11) (σ.1 12) (σ.1 13) (σ.1 10 3) (σ.1 10 4) (σ.1 10 5) (σ.1 10 6) (σ.1 48) (σ.1 49) (σ.1 50) (σ.1 39 13) (σ.1 39 17) (σ.1 39 18) (σ.1 39 19)
theorem m1_neg {x : Int32} (h : x = -1) : x < 0 := by rw [h]; decide
theorem m1_nle {x : Int32} (h : x = -1) : ¬ (0 : Int32) ≤ x := by rw [h]; decide
theorem inB_0le {x : Int32} {n : Nat} (h : inB x n = true) : (0 : Int32) ≤ x := i_le.mpr (by have := (inB_iff.mp h).1; exact this)
theorem inB_nneg {x : Int32} {n : Nat} (h : inB x n = true) : ¬ x < 0 := i_nlt.mpr (inB_iff.mp h).1
theorem inB_ne {x : Int32} {n : Nat} (h : inB x n = true) : ¬ x = -1 := fun q => by
  have := (inB_iff.mp h).1
  rw [q] at this
  exact absurd this (by decide)
theorem or_in {x : Int32} {n : Nat} (h : x = -1 ∨ inB x n = true) : (0 : Int32) ≤ x → inB x n = true := fun q => by
  rcases h with h | h
  · exact absurd q (m1_nle h)
  · exact h
section REL
variable {σ : Sto} {nb ns ng nh : Nat} {D : Int}
theorem PL.y0 (h : PL σ nb ns ng nh) : ¬ σ.1 39 0 = 0 := fun q => by
  have := h.2.2.2.1.2.1
  rw [q] at this
  exact absurd this (by decide)
theorem c_days (h : PL σ nb ns ng nh) : f_X2_days_1 σ = some (σ, σ.1 39 0) := by
  unfold f_X2_days_1 f_X2_days_1_j25
  have e0 : (0 : Int32).toNatClampNeg = 0 := rfl
  have e1 : inB (0 : Int32) 5 = true := by decide
  rw [e1, gd_true, e0]
  rcases h.2.2.2.1.1 with ⟨h1, h2⟩ | ⟨h1, h2⟩
  · rw [h1, h2]
    rfl
  · have hn := c_number (σ := σ) (k := 0) (i := 0) (w := 0) (n := 1) (by decide) h1 (by decide) (by decide) (by decide)
    have hn2 : f_X2_number_1 σ (0 : Int32) (0 : Int32) (0 : Int32) = some (σ, σ.1 3 0) := hn
    rw [h1, if_neg (by decide), hn2, bd2_eq, ← h2]
    have hy := h.2.2.2.1.2.1
    have : iMax 1 (σ.1 39 0) = σ.1 39 0 := by
      unfold iMax
      by_cases c : 1 < σ.1 39 0
      · rw [if_pos c]
      · rw [if_neg c]
        have c' := i_nlt.mp c
        have z : (1 : Int32).toInt = 1 := rfl
        exact i_eq.mpr (by omega)
    rw [this]
theorem c_longOf (h : PL σ nb ns ng nh) {b : Int32} (hb : inB b nb = true) (d : Int32) : f_X2_longOf_1 σ b d = some (σ, lonS (σ.1 39 0) (σ.1 40 b.toNatClampNeg) (σ.1 41 b.toNatClampNeg) d) := by
  obtain ⟨i, hi, rfl⟩ := inB_ex hb (by have := h.1.1; omega)
  unfold f_X2_longOf_1 f_X2_longOf_1_j17
  have hy := h.2.2.2.1.2.1
  have z : (1 : Int32).toInt = 1 := rfl
  have hz : nzI (σ.1 39 0) = true := decide_eq_true h.y0
  rw [c_days h, bd2_eq]
  simp only [bs_eq]
  rw [if_pos (i_le.mpr (by omega)), hz, gd_true]
  have hn := c_number (σ := σ) (k := 1) (i := i) (w := 0) (n := nb) (by decide) h.2.2.1.1 (by have := h.1.1; omega) hi (by decide)
  have hn2 : f_X2_number_1 σ (1 : Int32) (nI i) (0 : Int32) = _ := hn
  have hm := c_number (σ := σ) (k := 1) (i := i) (w := 1) (n := nb) (by decide) h.2.2.1.1 (by have := h.1.1; omega) hi (by decide)
  have hm2 : f_X2_number_1 σ (1 : Int32) (nI i) (1 : Int32) = _ := hm
  rw [hn2, bd2_eq, hm2, bd2_eq, nI_clamp (by have := h.1.1; omega)]
  have e := h.2.2.2.2.1 i hi
  rw [show (1 * 6 + i) * 3 + 0 = 18 + 3 * i by omega, show (1 * 6 + i) * 3 + 1 = 19 + 3 * i by omega, e.1.1, e.1.2, lon_same]
theorem PL.long (h : PL σ nb ns ng nh) {b : Int32} (hb : inB b nb = true) : f_X8_longNow σ b = some (σ, lonS (σ.1 39 0) (σ.1 40 b.toNatClampNeg) (σ.1 41 b.toNatClampNeg) (σ.1 39 13)) := m_longNow (inB_up hb (by have := h.1.1; omega)) h.y0
theorem c_whoEq (h : PL σ nb ns ng nh) (hs : SN σ ns ng nh D) {s : Int32} (h0 : 0 ≤ s.toInt) : f_X6_whoIsOn_10 σ s = some (σ, whoN (σ.1 48) s ng) := by
  obtain ⟨⟨τ, r⟩, h1, rfl, h2⟩ := c_whoIsOn σ s
  rw [h1]
  have h3 : IsWho (τ.1 48) s ng r := by
    rcases h2 with ⟨k1, k2⟩ | ⟨g, k1, k2, k3⟩
    · exact Or.inl ⟨k1, fun g hg => by rw [← (hs.1.2.1 g hg).1]; exact k2 g (by have := h.1.2.2.1; omega)⟩
    · by_cases q : g < ng
      · exact Or.inr ⟨g, q, k2, by rw [← (hs.1.2.1 g q).1]; exact k3⟩
      · exfalso
        have := hs.1.1 g k1 (by omega)
        rw [this] at k3
        rw [← k3] at h0
        exact absurd h0 (by decide)
  show some (τ, r) = some (τ, whoN (τ.1 48) s ng)
  rw [who_who hs.1.2.2 h0 h3]
/-- the hat that a beggar wears, the beggar who wears a hat -/
theorem c_hatEq (h : PL σ nb ns ng nh) (hs : SN σ ns ng nh D) {g : Nat} (hg : g < ng) : f_X6_hatOf_10 σ (nI g) = some (σ, σ.1 49 g) := by
  obtain ⟨⟨τ, r⟩, h1, rfl, h2⟩ := c_hatOf σ (nI g)
  rw [h1]
  have hh := hs.2.1
  rcases h2 with ⟨k1, k2⟩ | ⟨j, k1, k2, k3⟩
  · have : τ.1 49 g = -1 := by
      rcases hh.2.2.1 g hg with q | q
      · exact q
      · obtain ⟨i, hi, e⟩ := inB_ex q (by have := h.1.2.2.2; omega)
        exact absurd ((hh.2.2.2 g i hg hi).mpr e) (k2 i (by have := h.1.2.2.2; omega))
    show some (τ, r) = some (τ, τ.1 49 g)
    rw [this]
    rw [show r = -1 from k1]
  · by_cases q : j < nh
    · show some (τ, r) = some (τ, τ.1 49 g)
      rw [show r = nI j from k2, (hh.2.2.2 g j hg q).mp k3]
    · exfalso
      have := hh.1 j k1 (by omega)
      rw [this] at k3
      exact nI_ne_m1 (by have := h.1.2.2.1; omega) k3.symm
theorem m_wearer (h : PL σ nb ns ng nh) (hs : SN σ ns ng nh D) {i : Nat} (hi : i < nh) : f_X8_onWhom σ (nI i) = some (σ, σ.1 12 i) := by
  rw [m_onWhom σ (nI i) h.2.1.2.2.1 (by have := h.1.2.2.1; omega)]
  have hh := hs.2.1
  rcases whoN_is (σ.1 49) (nI i) ng with ⟨k1, k2⟩ | ⟨g, k1, k2, k3⟩
  · have : σ.1 12 i = -1 := by
      rcases hh.2.1 i hi with q | q
      · exact q
      · obtain ⟨g, hg, e⟩ := inB_ex q (by have := h.1.2.2.1; omega)
        exact absurd ((hh.2.2.2 g i hg hi).mp e) (k2 g hg)
    rw [k1, this]
  · rw [k2, (hh.2.2.2 g i k1 hi).mpr k3]
end REL
