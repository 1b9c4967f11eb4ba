/-! small readings of the reference and of the class, as equations -/
theorem gd_true {β : Type} (a : Option β) : gd true a = a := rfl
theorem i_nlt {a b : Int32} : ¬ a < b ↔ b.toInt ≤ a.toInt := by rw [i_lt]; omega
theorem i_nle {a b : Int32} : ¬ a ≤ b ↔ b.toInt < a.toInt := by rw [i_le]; omega
def bB (b : Bool) : Int32 := if b = true then 1 else 0
theorem bB_t : bB true = 1 := rfl
theorem bB_f : bB false = 0 := rfl
theorem bB_0 {b : Bool} : bB b = 0 ↔ b = false := by cases b <;> decide
theorem zB_bB (b : Bool) : zB (bB b) = true := by cases b <;> decide
theorem inB_n {i n : Nat} (h : i < n) (hn : n < 2 ^ 31) : inB (nI i) n = true := by rw [inB_nI (by omega)]; exact decide_eq_true h
theorem inB_iff {x : Int32} {n : Nat} : inB x n = true ↔ 0 ≤ x.toInt ∧ x.toInt < n := ⟨fun h => of_decide_eq_true h, fun h => decide_eq_true h⟩
theorem inB_ex {x : Int32} {n : Nat} (h : inB x n = true) (hn : n < 2 ^ 31) : ∃ i, i < n ∧ x = nI i := by
  obtain ⟨h0, h1⟩ := inB_iff.mp h
  refine ⟨x.toNatClampNeg, ?_, (nI_cl h0).symm⟩
  have := cl_toInt h0
  omega
theorem inB_up {x : Int32} {n m : Nat} (h : inB x n = true) (hm : n ≤ m) : inB x m = true := by
  obtain ⟨h0, h1⟩ := inB_iff.mp h
  exact inB_iff.mpr ⟨h0, by omega⟩
theorem lg_lt {x y : Int64} : lg_cmp x y < 0 ↔ x < y := by
  unfold lg_cmp
  by_cases h : x > y
  · rw [if_pos h]
    refine ⟨fun q => absurd q (by decide), fun q => ?_⟩
    have h1 := Int64.lt_iff_toInt_lt.mp h
    have h2 := Int64.lt_iff_toInt_lt.mp q
    omega
  · rw [if_neg h]
    by_cases e : x = y
    · rw [if_pos e]
      refine ⟨fun q => absurd q (by decide), fun q => ?_⟩
      subst e
      have h2 := Int64.lt_iff_toInt_lt.mp q
      omega
    · rw [if_neg e]
      refine ⟨fun _ => ?_, fun _ => by decide⟩
      apply Int64.lt_iff_toInt_lt.mpr
      have h1 : ¬ y.toInt < x.toInt := fun q => h (Int64.lt_iff_toInt_lt.mpr q)
      have h2 : ¬ x.toInt = y.toInt := fun q => e (Int64.toInt_inj.mp q)
      omega
theorem lg_gt {x y : Int64} : 0 < lg_cmp x y ↔ y < x := by
  unfold lg_cmp
  by_cases h : x > y
  · rw [if_pos h]
    exact ⟨fun _ => h, fun _ => by decide⟩
  · rw [if_neg h]
    by_cases e : x = y
    · rw [if_pos e]
      exact ⟨fun q => absurd q (by decide), fun q => absurd q h⟩
    · rw [if_neg e]
      exact ⟨fun q => absurd q (by decide), fun q => absurd q h⟩
theorem m_in (σ : Sto) (v l h : Int64) : f_X8_in σ v l h = some (σ, bB (decide (l ≤ v ∧ v ≤ h))) := by
  unfold f_X8_in f_X8_in_j17 f_X8_in_j18
  have a1 : (v < l) ↔ ¬ l ≤ v := by rw [Int64.lt_iff_toInt_lt, Int64.le_iff_toInt_le]; omega
  have a2 : (h < v) ↔ ¬ v ≤ h := by rw [Int64.lt_iff_toInt_lt, Int64.le_iff_toInt_le]; omega
  by_cases c1 : lg_cmp v l < 0
  · rw [if_pos c1]
    have := a1.mp (lg_lt.mp c1)
    rw [decide_eq_false (fun q => this q.1)]
    rfl
  · rw [if_neg c1]
    have e1 : l ≤ v := by
      by_cases q : l ≤ v
      · exact q
      · exact absurd (lg_lt.mpr (a1.mpr q)) c1
    by_cases c2 : 0 < lg_cmp v h
    · rw [if_pos c2]
      have := a2.mp (lg_gt.mp c2)
      rw [decide_eq_false (fun q => this q.2)]
      rfl
    · rw [if_neg c2]
      have e2 : v ≤ h := by
        by_cases q : v ≤ h
        · exact q
        · exact absurd (lg_gt.mpr (a2.mpr q)) c2
      rw [decide_eq_true ⟨e1, e2⟩]
      rfl
theorem toInt64_toInt (x : Int32) : x.toInt64.toInt = x.toInt := Int32.toInt_toInt64 x
/-- a number within bounds -/
def rgB (x : Int32) (l h : Int) : Bool := decide (l ≤ x.toInt ∧ x.toInt ≤ h)
theorem m_inI (σ : Sto) (x : Int32) (l h : Int64) {li hi : Int} (el : l.toInt = li) (eh : h.toInt = hi) : f_X8_in σ x.toInt64 l h = some (σ, bB (rgB x li hi)) := by
  rw [m_in]
  have e : decide (l ≤ x.toInt64 ∧ x.toInt64 ≤ h) = rgB x li hi := decide_eq_decide.mpr (by rw [Int64.le_iff_toInt_le, Int64.le_iff_toInt_le, toInt64_toInt, el, eh])
  rw [e]
theorem rg_inB (x : Int32) (n : Nat) : rgB x 0 ((n : Int) - 1) = inB x n := by
  unfold rgB inB
  congr 1
  apply propext
  constructor <;> rintro ⟨h1, h2⟩ <;> exact ⟨h1, by omega⟩
theorem m_isG (σ : Sto) (x c : Int32) {n : Nat} (hc : c = nI n) (hn : n < 1000) : f_X8_in σ x.toInt64 (0 : Int64) (c - (1 : Int32)).toInt64 = some (σ, bB (inB x n)) := by
  rw [m_inI σ x _ _ (li := 0) (hi := (n : Int) - 1) (by decide) ?_, rg_inB]
  rw [toInt64_toInt, hc]
  have h := pk_sub_toInt (a := n) (b := 1) (by omega) (by omega)
  exact h
theorem m_isBell {σ : Sto} {n : Nat} (h : σ.1 39 1 = nI n) (hn : n < 1000) (x : Int32) : f_X8_isBell σ x = some (σ, bB (inB x n)) := by
  unfold f_X8_isBell
  rw [m_isG σ x _ h hn, bd2_eq, zB_bB]
  rfl
theorem m_isSpot {σ : Sto} {n : Nat} (h : σ.1 39 4 = nI n) (hn : n < 1000) (x : Int32) : f_X8_isSpot σ x = some (σ, bB (inB x n)) := by
  unfold f_X8_isSpot
  rw [m_isG σ x _ h hn, bd2_eq, zB_bB]
  rfl
theorem m_isBeggar {σ : Sto} {n : Nat} (h : σ.1 39 8 = nI n) (hn : n < 1000) (x : Int32) : f_X8_isBeggar σ x = some (σ, bB (inB x n)) := by
  unfold f_X8_isBeggar
  rw [m_isG σ x _ h hn, bd2_eq, zB_bB]
  rfl
theorem m_isHat {σ : Sto} {n : Nat} (h : σ.1 39 10 = nI n) (hn : n < 1000) (x : Int32) : f_X8_isHat σ x = some (σ, bB (inB x n)) := by
  unfold f_X8_isHat
  rw [m_isG σ x _ h hn, bd2_eq, zB_bB]
  rfl
/-- the last of n that holds s -/
def whoN (sp : Nat → Int32) (s : Int32) : Nat → Int32
  | 0 => -1
  | n + 1 => if sp n = s then nI n else whoN sp s n
theorem m_whoIsOn (σ : Sto) (s : Int32) {n : Nat} (hn : n ≤ 7) : f_X8_whoIsOn σ s (nI n) = some (σ, whoN (σ.1 48) s n) := by
  unfold f_X8_whoIsOn
  simp only [bs_eq]
  suffices hl : lpF (fun t => f_X8_whoIsOn_l5 s (nI n) t.1 t.2.1 t.2.2) FU (σ, (-1 : Int32), (0 : Int32)) = some (σ, whoN (σ.1 48) s n, nI n) by
    rw [hl]; rfl
  refine lp_eq (fun i => (σ, whoN (σ.1 48) s i, nI i)) n (FU_big (by omega)) ?_ ?_
  · intro i hi
    have hb : inB (nI i) 7 = true := inB_n (by omega) (by omega)
    have hg : ¬ nI n ≤ nI i := nI_ge hi (by omega)
    unfold f_X8_whoIsOn_l5 f_X8_whoIsOn_j28
    simp only [if_neg hg, hb, gd_true, bs_eq, nI_clamp (show i < 2 ^ 31 by omega), nI_1]
    by_cases c : σ.1 48 i = s
    · rw [if_pos c, show whoN (σ.1 48) s (i + 1) = nI i from if_pos c]
    · rw [if_neg c, show whoN (σ.1 48) s (i + 1) = whoN (σ.1 48) s i from if_neg c]
  · unfold f_X8_whoIsOn_l5
    rw [if_pos (nI_le (Nat.le_refl n) (by omega))]
theorem m_onWhom (σ : Sto) (s : Int32) {n : Nat} (hg : σ.1 39 8 = nI n) (hn : n ≤ 7) : f_X8_onWhom σ s = some (σ, whoN (σ.1 49) s n) := by
  unfold f_X8_onWhom
  simp only [bs_eq]
  suffices hl : lpF (fun t => f_X8_onWhom_l4 s t.1 t.2.1 t.2.2) FU (σ, (-1 : Int32), (0 : Int32)) = some (σ, whoN (σ.1 49) s n, nI n) by
    rw [hl]; rfl
  refine lp_eq (fun i => (σ, whoN (σ.1 49) s i, nI i)) n (FU_big (by omega)) ?_ ?_
  · intro i hi
    have hb : inB (nI i) 7 = true := inB_n (by omega) (by omega)
    have hge : ¬ nI n ≤ nI i := nI_ge hi (by omega)
    unfold f_X8_onWhom_l4 f_X8_onWhom_j27
    simp only [hg, if_neg hge, hb, gd_true, bs_eq, nI_clamp (show i < 2 ^ 31 by omega), nI_1]
    by_cases c : σ.1 49 i = s
    · rw [if_pos c, show whoN (σ.1 49) s (i + 1) = nI i from if_pos c]
    · rw [if_neg c, show whoN (σ.1 49) s (i + 1) = whoN (σ.1 49) s i from if_neg c]
  · unfold f_X8_onWhom_l4
    simp only [hg]
    rw [if_pos (nI_le (Nat.le_refl n) (by omega))]
/-- how long a shadow of 10 is -/
def lonS (y L S d : Int32) : Int32 := L + S * (if y - iR d y ≤ iR d y then y - iR d y else iR d y)
theorem m_longOn {σ : Sto} {b : Int32} (d : Int32) (hb : inB b 4 = true) (hy : ¬ σ.1 39 0 = 0) : f_X8_longOn σ b d = some (σ, lonS (σ.1 39 0) (σ.1 40 b.toNatClampNeg) (σ.1 41 b.toNatClampNeg) d) := by
  unfold f_X8_longOn f_X8_longOn_j27 lonS
  have hz : nzI (σ.1 39 0) = true := decide_eq_true hy
  simp only [hz, hb, gd_true, bs_eq]
  by_cases c : σ.1 39 0 - iR d (σ.1 39 0) ≤ iR d (σ.1 39 0)
  · rw [if_pos c, if_pos c]
  · rw [if_neg c, if_neg c]
theorem m_longNow {σ : Sto} {b : Int32} (hb : inB b 4 = true) (hy : ¬ σ.1 39 0 = 0) : f_X8_longNow σ b = some (σ, lonS (σ.1 39 0) (σ.1 40 b.toNatClampNeg) (σ.1 41 b.toNatClampNeg) (σ.1 39 13)) := by
  unfold f_X8_longNow
  rw [m_longOn _ hb hy]
  rfl
/-- a shadow's length -/
def lenS (t m w lg : Int32) : Int32 := if 0 < w ∧ w < (t * lg / 10) * (10 - m) / 10 then w else (t * lg / 10) * (10 - m) / 10
theorem nz10 : nzI (10 : Int32) = true := by decide
theorem m_lengthBy {σ : Sto} (t : Int32) {s : Int32} (lg : Int32) (hs : inB s 6 = true) : f_X8_lengthBy σ t s lg = some (σ, lenS t (σ.1 43 s.toNatClampNeg) (σ.1 44 s.toNatClampNeg) lg) := by
  unfold f_X8_lengthBy f_X8_lengthBy_j54 f_X8_lengthBy_j56 lenS
  simp only [nz10, hs, gd_true, bs_eq]
  by_cases c : σ.1 44 s.toNatClampNeg ≤ 0
  · rw [if_pos c, if_neg]
    rintro ⟨q, -⟩
    have h1 := i_le.mp c
    have h2 := i_lt.mp q
    omega
  · rw [if_neg c]
    have c' : 0 < σ.1 44 s.toNatClampNeg := by
      apply i_lt.mpr
      have h1 : ¬ (σ.1 44 s.toNatClampNeg).toInt ≤ (0 : Int32).toInt := fun q => c (i_le.mpr q)
      omega
    by_cases c2 : t * lg / 10 * (10 - σ.1 43 s.toNatClampNeg) / 10 ≤ σ.1 44 s.toNatClampNeg
    · rw [if_pos c2, if_neg]
      rintro ⟨-, q⟩
      have h1 := i_le.mp c2
      have h2 := i_lt.mp q
      omega
    · rw [if_neg c2, if_pos]
      exact ⟨c', i_lt.mpr (i_nle.mp c2)⟩
/-- what a hat adds, a spot's steps add, a hat costs -/
def adS (f : Nat → Int32) (x : Int32) : Int32 := if 0 ≤ x then f x.toNatClampNeg else 0
theorem m_tallOf {σ : Sto} {g : Int32} (hg : inB g 7 = true) (h1 : 0 ≤ σ.1 49 g.toNatClampNeg → inB (σ.1 49 g.toNatClampNeg) 4 = true) (h2 : 0 ≤ σ.1 48 g.toNatClampNeg → inB (σ.1 48 g.toNatClampNeg) 6 = true) :
    f_X8_tallOf σ g = some (σ, (σ.1 45 g.toNatClampNeg + adS (σ.1 46) (σ.1 49 g.toNatClampNeg)) + adS (σ.1 42) (σ.1 48 g.toNatClampNeg)) := by
  have e : ∀ z : Int32, f_X8_tallOf_j24 σ g z = some (σ, (σ.1 45 g.toNatClampNeg + z) + adS (σ.1 42) (σ.1 48 g.toNatClampNeg)) := by
    intro z
    unfold f_X8_tallOf_j24 f_X8_tallOf_j57 adS
    simp only [hg, gd_true, bs_eq]
    by_cases c : 0 ≤ σ.1 48 g.toNatClampNeg
    · rw [if_pos c, if_pos c, h2 c]; rfl
    · rw [if_neg c, if_neg c]
  unfold f_X8_tallOf
  simp only [hg, gd_true, e]
  by_cases c : 0 ≤ σ.1 49 g.toNatClampNeg
  · rw [if_pos c, h1 c, gd_true]
    show _ = some (σ, (σ.1 45 g.toNatClampNeg + (if 0 ≤ _ then _ else _)) + _)
    rw [if_pos c]
  · rw [if_neg c]
    show _ = some (σ, (σ.1 45 g.toNatClampNeg + (if 0 ≤ _ then _ else _)) + _)
    rw [if_neg c]
theorem m_costOf {σ : Sto} {g : Int32} (hg : inB g 7 = true) (h1 : 0 ≤ σ.1 49 g.toNatClampNeg → inB (σ.1 49 g.toNatClampNeg) 4 = true) : f_X8_costOf σ g = some (σ, adS (σ.1 47) (σ.1 49 g.toNatClampNeg)) := by
  unfold f_X8_costOf f_X8_costOf_j24 adS
  simp only [hg, gd_true]
  by_cases c : 0 ≤ σ.1 49 g.toNatClampNeg
  · rw [if_pos c, if_pos c, h1 c]; rfl
  · rw [if_neg c, if_neg c]
theorem m_almsOf {σ : Sto} {g : Int32} (hg : inB g 7 = true) (h1 : 0 ≤ σ.1 49 g.toNatClampNeg → inB (σ.1 49 g.toNatClampNeg) 4 = true) : f_X8_almsOf σ g = some (σ, σ.1 61 g.toNatClampNeg - adS (σ.1 47) (σ.1 49 g.toNatClampNeg)) := by
  unfold f_X8_almsOf
  rw [m_costOf hg h1, hg, gd_true]
  rfl
/-- the class -/
theorem c_count (σ : Sto) {k : Int32} (hk : inB k 5 = true) : f_X2_count_1 σ k = some (σ, σ.1 2 k.toNatClampNeg) := by
  unfold f_X2_count_1
  rw [hk]
  rfl
theorem c_has {σ : Sto} {k : Int32} (x : Int32) {n : Nat} (hk : inB k 5 = true) (h : σ.1 2 k.toNatClampNeg = nI n) (hn : n < 2 ^ 31) : f_X2_has_1 σ k x = some (σ, bB (inB x n)) := by
  unfold f_X2_has_1 f_X2_has_1_j18 f_X2_has_1_j19
  rw [hk, gd_true, h]
  by_cases c : x < 0
  · rw [if_pos c]
    have c' := i_lt.mp c
    have : inB x n = false := decide_eq_false (fun q => by have z : (0 : Int32).toInt = 0 := rfl; omega)
    rw [this]
    rfl
  · rw [if_neg c]
    have c' : 0 ≤ x.toInt := by
      have h1 : ¬ x.toInt < (0 : Int32).toInt := fun q => c (i_lt.mpr q)
      have z : (0 : Int32).toInt = 0 := rfl
      omega
    by_cases c2 : nI n ≤ x
    · rw [if_pos c2]
      have h2 := i_le.mp c2
      rw [nI_toInt hn] at h2
      have : inB x n = false := decide_eq_false (fun q => by omega)
      rw [this]
      rfl
    · rw [if_neg c2]
      have h2 : ¬ (nI n).toInt ≤ x.toInt := fun q => c2 (i_le.mpr q)
      rw [nI_toInt hn] at h2
      have : inB x n = true := decide_eq_true ⟨c', by omega⟩
      rw [this]
      rfl
theorem c_number {σ : Sto} {k i w n : Nat} (hk : k < 5) (h : σ.1 2 k = nI n) (hn : n ≤ 6) (hi : i < n) (hw : w < 3) : f_X2_number_1 σ (nI k) (nI i) (nI w) = some (σ, σ.1 3 ((k * 6 + i) * 3 + w)) := by
  unfold f_X2_number_1
  have e6 : (6 : Int32) = nI 6 := rfl
  have e3 : (3 : Int32) = nI 3 := rfl
  rw [if_neg (nI_pos (by omega)), inB_n hk (by omega), gd_true, nI_clamp (by omega), h, if_pos (nI_lt hi (by omega)), e6, e3, pk_mul, nI_add, pk_mul, nI_add, inB_n (by omega) (by omega), gd_true, nI_clamp (by omega)]
theorem lon_same (y L S d : Int32) : L + S * iMin (iR d y) (y - iR d y) = lonS y L S d := by
  unfold lonS iMin
  by_cases c : y - iR d y ≤ iR d y
  · rw [if_pos c]
    by_cases c2 : y - iR d y < iR d y
    · rw [if_pos c2]
    · rw [if_neg c2]
      have h1 := i_le.mp c
      have h2 := i_nlt.mp c2
      have h3 : iR d y = y - iR d y := i_eq.mpr (by omega)
      rw [← h3]
  · rw [if_neg c, if_neg]
    intro q
    apply c
    have := i_lt.mp q
    exact i_le.mpr (by omega)
