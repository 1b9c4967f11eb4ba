/-! bounds; gifts of the class; the scene dressed and lit -/
theorem fb_rng (x : Int32) : -2147483648 ≤ x.toInt ∧ x.toInt < 2147483648 := by
  have h1 := Int32.le_toInt x
  have h2 := Int32.toInt_lt x
  omega
theorem fb_bmod {z : Int} (h1 : -2147483648 ≤ z) (h2 : z < 2147483648) : z.bmod (2 ^ 32) = z := by
  rw [Int.bmod_eq_of_le (by omega) (by omega)]
theorem fb_addI {x y : Int32} (h1 : -2147483648 ≤ x.toInt + y.toInt) (h2 : x.toInt + y.toInt < 2147483648) : (x + y).toInt = x.toInt + y.toInt := by
  rw [Int32.toInt_add, fb_bmod h1 h2]
theorem fb_subI {x y : Int32} (h1 : -2147483648 ≤ x.toInt - y.toInt) (h2 : x.toInt - y.toInt < 2147483648) : (x - y).toInt = x.toInt - y.toInt := by
  rw [Int32.toInt_sub, fb_bmod h1 h2]
theorem fb_mulI {x y : Int32} (h1 : -2147483648 ≤ x.toInt * y.toInt) (h2 : x.toInt * y.toInt < 2147483648) : (x * y).toInt = x.toInt * y.toInt := by
  rw [Int32.toInt_mul, fb_bmod h1 h2]
theorem nI_rg {x : Int32} {m : Nat} (h : rgI x 0 m) : ∃ a, a ≤ m ∧ x = nI a := by
  refine ⟨x.toNatClampNeg, ?_, (nI_cl h.1).symm⟩
  have := cl_toInt h.1
  have := h.2
  omega
theorem rg_nI {a m : Nat} (h : a ≤ m) (hm : m < 2 ^ 31) : rgI (nI a) 0 m := by
  unfold rgI
  rw [nI_toInt (by omega)]
  omega
theorem rgI.up {x : Int32} {l h l' h' : Int} (q : rgI x l h) (h1 : l' ≤ l) (h2 : h ≤ h') : rgI x l' h' := ⟨by have := q.1; omega, by have := q.2; omega⟩
theorem rgI.add {x y : Int32} {a b c d : Int} (h1 : rgI x a b) (h2 : rgI y c d) (q1 : -1000000000 ≤ a + c) (q2 : b + d ≤ 1000000000) : rgI (x + y) (a + c) (b + d) := by
  obtain ⟨p1, p2⟩ := h1
  obtain ⟨p3, p4⟩ := h2
  unfold rgI
  rw [fb_addI (by omega) (by omega)]
  omega
theorem rgI.sub {x y : Int32} {a b c d : Int} (h1 : rgI x a b) (h2 : rgI y c d) (q1 : -1000000000 ≤ a - d) (q2 : b - c ≤ 1000000000) : rgI (x - y) (a - d) (b - c) := by
  obtain ⟨p1, p2⟩ := h1
  obtain ⟨p3, p4⟩ := h2
  unfold rgI
  rw [fb_subI (by omega) (by omega)]
  omega
theorem lenS_rg {t m w lg : Int32} (ht : rgI t 0 1000) (hm : rgI m 0 9) (hw : rgI w 0 200) (hl : rgI lg 0 1000) : rgI (lenS t m w lg) 0 100000 := by
  obtain ⟨a, ha, rfl⟩ := nI_rg (m := 1000) ht
  obtain ⟨b, hb, rfl⟩ := nI_rg (m := 1000) hl
  obtain ⟨c, hc, rfl⟩ := nI_rg (m := 9) hm
  have e10 : (10 : Int32) = nI 10 := rfl
  have h1 : a * b ≤ 1000 * 1000 := Nat.mul_le_mul ha hb
  have h2 : a * b / 10 * (10 - c) ≤ 100000 * 10 := Nat.mul_le_mul (by omega) (by omega)
  have e : nI a * nI b / 10 * (10 - nI c) / 10 = nI (a * b / 10 * (10 - c) / 10) := by
    rw [e10, pk_mul, pk_div (by omega) (by omega) (by omega), pk_sub (by omega), pk_mul, pk_div (by omega) (by omega) (by omega)]
  unfold lenS
  rw [e]
  by_cases q : 0 < w ∧ w < nI (a * b / 10 * (10 - c) / 10)
  · rw [if_pos q]
    exact hw.up (by omega) (by omega)
  · rw [if_neg q]
    exact rg_nI (m := 100000) (by omega) (by omega)
theorem lon_rg {y L S d : Int32} {D : Int} (hy : rgI y 1 60) (hL : rgI L 0 99) (hS : rgI S 0 9) (hd : rgI d 0 D) : rgI (lonS y L S d) 0 700 := by
  obtain ⟨yn, hyn, rfl⟩ := nI_rg (m := 60) (hy.up (by omega) (by omega))
  obtain ⟨l, hl, rfl⟩ := nI_rg (m := 99) hL
  obtain ⟨s, hs, rfl⟩ := nI_rg (m := 9) hS
  have hy1 : 1 ≤ yn := by
    have := hy.1
    rw [nI_toInt (by omega)] at this
    omega
  have hd0 := hd.1
  obtain ⟨dn, hdn, rfl⟩ : ∃ dn : Nat, dn < 2 ^ 31 ∧ d = nI dn := ⟨d.toNatClampNeg, by have := cl_toInt hd0; have := Int32.toInt_lt d; omega, (nI_cl hd0).symm⟩
  have er : iR (nI dn) (nI yn) = nI (dn % yn) := pk_rem hdn (by omega) (by omega)
  have hlt : dn % yn < yn := Nat.mod_lt _ (by omega)
  unfold lonS
  rw [er, pk_sub (by omega)]
  have key : ∀ k, k ≤ 60 → rgI (nI l + nI s * nI k) 0 700 := by
    intro k hk
    have : s * k ≤ 9 * 60 := Nat.mul_le_mul hs hk
    rw [pk_mul, nI_add]
    exact rg_nI (m := 700) (by omega) (by omega)
  by_cases c : nI (yn - dn % yn) ≤ nI (dn % yn)
  · rw [if_pos c]; exact key _ (by omega)
  · rw [if_neg c]; exact key _ (by omega)
theorem adS_rg {f : Nat → Int32} {x : Int32} {n : Nat} {l h : Int} (hx : x = -1 ∨ inB x n = true) (hn : n < 2 ^ 31) (hf : ∀ i, i < n → rgI (f i) l h) (h0 : l ≤ 0 ∧ 0 ≤ h) : rgI (adS f x) l h := by
  unfold adS
  rcases hx with q | q
  · rw [if_neg (m1_nle q)]
    exact h0
  · obtain ⟨i, hi, rfl⟩ := inB_ex q hn
    rw [if_pos (inB_0le q), nI_clamp (by omega)]
    exact hf i hi
theorem shade_rg {hg st md wl sp : Nat → Int32} {n ns : Nat} {lg : Int32} (hns : ns ≤ 6) (hsp : ∀ g, g < n → sp g = -1 ∨ inB (sp g) ns = true) (hh : ∀ g, g < n → rgI (hg g) 0 500) (hst : ∀ s, s < ns → rgI (st s) 0 20 ∧ rgI (md s) 0 9 ∧ rgI (wl s) 0 200) (hl : rgI lg 0 1000) : ∀ g, g < n → rgI (shadeS hg st md wl sp n lg g) 0 100000 := by
  intro g hg'
  unfold shadeS
  rcases hsp g hg' with q | q
  · rw [if_pos (m1_neg q)]
    exact ⟨by decide, by decide⟩
  · rw [if_neg (inB_nneg q)]
    split
    · exact ⟨by decide, by decide⟩
    · obtain ⟨i, hi, e⟩ := inB_ex q (by omega)
      have ht : rgI (hg g + adS st (sp g)) 0 1000 := ((hh g hg').add (adS_rg (hsp g hg') (by omega) (fun i hi => (hst i hi).1) ⟨by omega, by omega⟩) (by omega) (by omega)).up (by omega) (by omega)
      rw [e, nI_clamp (by omega)]
      rw [e] at ht
      exact lenS_rg ht (hst i hi).2.1 (hst i hi).2.2 hl
theorem sumN_rg {f : Nat → Int32} {l h : Int} : ∀ (n : Nat), n ≤ 10 → -1000000 ≤ l → h ≤ 1000000 → (∀ g, g < n → rgI (f g) l h) → rgI (sumN f n) (n * l) (n * h) := by
  intro n
  induction n with
  | zero =>
    intro _ _ _ _
    exact ⟨by show (((0 : Nat) : Int) * l) ≤ 0; omega, by show (0 : Int) ≤ ((0 : Nat) : Int) * h; omega⟩
  | succ n ih =>
    intro hn hl hh hf
    have h1 := ih (by omega) hl hh (fun g hg => hf g (by omega))
    have h2 := hf n (Nat.lt_succ_self n)
    have e1 : ((n + 1 : Nat) : Int) * l = n * l + l := by rw [Int.natCast_add, Int.add_mul]; omega
    have e2 : ((n + 1 : Nat) : Int) * h = n * h + h := by rw [Int.natCast_add, Int.add_mul]; omega
    rw [e1, e2]
    have b1 : -10000000 ≤ (n : Int) * l := by
      have : (n : Int) * (-1000000) ≤ n * l := Int.mul_le_mul_of_nonneg_left hl (by omega)
      omega
    have b2 : (n : Int) * h ≤ 10000000 := by
      have : (n : Int) * h ≤ n * 1000000 := Int.mul_le_mul_of_nonneg_left hh (by omega)
      omega
    exact h1.add h2 (by omega) (by omega)
theorem sumN_cong {f f' : Nat → Int32} : ∀ {n : Nat}, (∀ g, g < n → f' g = f g) → sumN f' n = sumN f n := by
  intro n
  induction n with
  | zero => intro _; rfl
  | succ n ih =>
    intro h
    show sumN f' n + f' n = sumN f n + f n
    rw [ih (fun g hg => h g (by omega)), h n (Nat.lt_succ_self n)]
theorem sumN_0 {f : Nat → Int32} : ∀ {n : Nat}, (∀ g, g < n → f g = 0) → sumN f n = 0 := by
  intro n
  induction n with
  | zero => intro _; rfl
  | succ n ih =>
    intro h
    show sumN f n + f n = 0
    rw [ih (fun g hg => h g (by omega)), h n (Nat.lt_succ_self n)]
    rfl
theorem longN_cong {sp sp' sh sh' : Nat → Int32} : ∀ {n : Nat}, n < 2 ^ 31 → (∀ g, g < n → sp' g = sp g ∧ sh' g = sh g) → longN sp' sh' n = longN sp sh n := by
  intro n
  induction n with
  | zero => intro _ _; rfl
  | succ n ih =>
    intro hn h
    have e := ih (by omega) (fun g hg => h g (by omega))
    have h1 := h n (Nat.lt_succ_self n)
    have e1 : longN sp' sh' (n + 1) = if ¬ sp' n < 0 ∧ (longN sp' sh' n < 0 ∨ sh' (longN sp' sh' n).toNatClampNeg < sh' n) then nI n else longN sp' sh' n := rfl
    have e2 : longN sp sh (n + 1) = if ¬ sp n < 0 ∧ (longN sp sh n < 0 ∨ sh (longN sp sh n).toNatClampNeg < sh n) then nI n else longN sp sh n := rfl
    rw [e1, e2, e, h1.1, h1.2]
    by_cases c : longN sp sh n < 0
    · simp only [c, true_or]
    · obtain ⟨j, hj, ej⟩ := longN_cl (sp := sp) (sh := sh) (n := n) (by omega) c
      rw [ej, nI_clamp (by omega), (h j (by omega)).2]
/-- the class's longest -/
def lgC (sh : Nat → Int32) : Nat → Nat
  | 0 => 0
  | n + 1 => if sh n ≤ sh (lgC sh n) then lgC sh n else n
theorem lgC_le (sh : Nat → Int32) : ∀ n, lgC sh n ≤ n := by
  intro n
  induction n with
  | zero => exact Nat.le_refl 0
  | succ n ih =>
    have e : lgC sh (n + 1) = if sh n ≤ sh (lgC sh n) then lgC sh n else n := rfl
    rw [e]
    split <;> omega
theorem lgC_lt (sh : Nat → Int32) : ∀ n, 0 < n → lgC sh n < n := by
  intro n hn
  cases n with
  | zero => omega
  | succ n =>
    have e : lgC sh (n + 1) = if sh n ≤ sh (lgC sh n) then lgC sh n else n := rfl
    have := lgC_le sh n
    rw [e]
    split <;> omega
theorem long_same {sp sh : Nat → Int32} : ∀ n, n < 2 ^ 31 → (∀ g, g < n → sp g < 0 → sh g = 0) → (∀ g, g < n → 0 ≤ (sh g).toInt) → (∀ g, g < n → sh g = 0) ∧ lgC sh n = 0 ∨ lgC sh n < n ∧ longN sp sh n = nI (lgC sh n) ∧ 0 < (sh (lgC sh n)).toInt := by
  intro n
  induction n with
  | zero => intro _ _ _; exact Or.inl ⟨fun g h => absurd h (Nat.not_lt_zero g), rfl⟩
  | succ n ih =>
    intro hn hz hp
    have e1 : lgC sh (n + 1) = if sh n ≤ sh (lgC sh n) then lgC sh n else n := rfl
    have e2 : longN sp sh (n + 1) = if ¬ sp n < 0 ∧ (longN sp sh n < 0 ∨ sh (longN sp sh n).toNatClampNeg < sh n) then nI n else longN sp sh n := rfl
    have hpn := hp n (Nat.lt_succ_self n)
    have z0 : (0 : Int32).toInt = 0 := rfl
    rcases ih (by omega) (fun g hg => hz g (by omega)) (fun g hg => hp g (by omega)) with ⟨a1, a2⟩ | ⟨a1, a2, a3⟩
    · by_cases c : sh n = 0
      · refine Or.inl ⟨fun g hg => ?_, ?_⟩
        · by_cases q : g = n
          · rw [q]; exact c
          · exact a1 g (by omega)
        · rw [e1, a2]
          split
          · rfl
          · rename_i q
            cases n with
            | zero => rfl
            | succ n =>
              exfalso
              apply q
              rw [c, a1 0 (by omega)]
              exact i_le.mpr (by omega)
      · have cp : 0 < (sh n).toInt := by
          have : ¬ (sh n).toInt = (0 : Int32).toInt := fun q => c (i_eq.mpr q)
          omega
        have hst : ¬ sp n < 0 := fun q => c (hz n (Nat.lt_succ_self n) q)
        have l1 : lgC sh (n + 1) = n := by
          rw [e1, a2]
          cases n with
          | zero => rw [if_pos (i_le.mpr (Int.le_refl _))]
          | succ n =>
            rw [if_neg]
            intro q
            have := i_le.mp q
            rw [a1 0 (by omega)] at this
            omega
        have l2 : longN sp sh (n + 1) = nI n := by
          rw [e2]
          refine if_pos ⟨hst, ?_⟩
          by_cases q : longN sp sh n < 0
          · exact Or.inl q
          · obtain ⟨j, hj, ej⟩ := longN_cl (sp := sp) (sh := sh) (n := n) (by omega) q
            refine Or.inr ?_
            rw [ej, nI_clamp (by omega), a1 j hj]
            exact i_lt.mpr (by omega)
        exact Or.inr ⟨by omega, by rw [l1, l2], by rw [l1]; exact cp⟩
    · have hnn : ¬ longN sp sh n < 0 := by rw [a2]; exact nI_pos (by omega)
      refine Or.inr ?_
      rw [e1, e2, a2, nI_clamp (by omega)]
      by_cases c : sh n ≤ sh (lgC sh n)
      · rw [if_pos c, if_neg]
        · exact ⟨by omega, rfl, a3⟩
        · rintro ⟨-, q | q⟩
          · exact absurd q (nI_pos (by omega))
          · have h1 := i_le.mp c
            have h2 := i_lt.mp q
            omega
      · have h1 := i_nle.mp c
        have hst : ¬ sp n < 0 := fun q => by
          have := hz n (Nat.lt_succ_self n) q
          rw [this] at h1
          omega
        rw [if_neg c, if_pos ⟨hst, Or.inr (i_lt.mpr h1)⟩]
        exact ⟨by omega, rfl, by omega⟩
theorem c_giveAll {σ : Sto} {n : Nat} (hn : n ≤ 7) (hpe : σ.1 28 1 = nI n) : f_X5_giveAllToLongest_28 σ = some (sc σ 32 (upd (fillN (fun _ => 0) (σ.1 32) 7) (lgC (σ.1 31) n) (sumN (σ.1 31) n))) := by
  unfold f_X5_giveAllToLongest_28
  simp only [bs_eq]
  have hl : lpF (fun t => f_X5_giveAllToLongest_28_l6 t.1 t.2.1 t.2.2.1 t.2.2.2) FU (σ, (0 : Int32), (0 : Int32), (0 : Int32)) = some (σ, nI (lgC (σ.1 31) n), sumN (σ.1 31) n, nI n) := by
    refine lp_eq (fun i => (σ, nI (lgC (σ.1 31) i), sumN (σ.1 31) i, nI i)) n (FU_big (by omega)) (fun i hi => ?_) ?_
    · show f_X5_giveAllToLongest_28_l6 σ (nI (lgC (σ.1 31) i)) (sumN (σ.1 31) i) (nI i) = some (Sum.inl (σ, nI (lgC (σ.1 31) (i + 1)), sumN (σ.1 31) (i + 1), nI (i + 1)))
      have hle := lgC_le (σ.1 31) i
      unfold f_X5_giveAllToLongest_28_l6 f_X5_giveAllToLongest_28_j34
      rw [hpe, if_neg (nI_ge hi (by omega))]
      simp only [inB_n (show i < 7 by omega) (by omega), inB_n (show lgC (σ.1 31) i < 7 by omega) (by omega), gd_true, bs_eq, nI_clamp (show i < 2 ^ 31 by omega), nI_clamp (show lgC (σ.1 31) i < 2 ^ 31 by omega), nI_1]
      have e1 : lgC (σ.1 31) (i + 1) = if σ.1 31 i ≤ σ.1 31 (lgC (σ.1 31) i) then lgC (σ.1 31) i else i := rfl
      rw [e1]
      by_cases c : σ.1 31 i ≤ σ.1 31 (lgC (σ.1 31) i)
      · rw [if_pos c, if_pos c]; rfl
      · rw [if_neg c, if_neg c]; rfl
    · show f_X5_giveAllToLongest_28_l6 σ (nI (lgC (σ.1 31) n)) (sumN (σ.1 31) n) (nI n) = _
      unfold f_X5_giveAllToLongest_28_l6
      rw [hpe, if_pos (nI_le (Nat.le_refl n) (by omega))]
  have h7 : lgC (σ.1 31) n < 7 := by
    cases n with
    | zero => exact (show (0 : Nat) < 7 by decide)
    | succ n => have := lgC_lt (σ.1 31) (n + 1) (by omega); omega
  rw [hl, bE3_eq, c_fill32, bd1_eq, inB_n h7 (by omega), gd_true, nI_clamp (by omega), su_sc]
theorem c_cast {σ : Sto} {nb ns ng nh n : Nat} {sp hg : Nat → Int32} (h : PL σ nb ns ng nh) (hn : n ≤ 7) (hpe : σ.1 28 1 = nI n) (hon : ∀ s, s < ns → IsWho sp (nI s) n (σ.1 33 s)) (hsp : ∀ g, g < n → sp g = -1 ∨ inB (sp g) ns = true) (hi : Inj sp n) (hhg : ∀ g, g < n → σ.1 29 g = hg g) (hh : ∀ g, g < n → rgI (hg g) 0 500) (hlg : rgI (σ.1 28 2) 0 1000) (hlw : rgI (σ.1 28 3) 0 2) :
    Ok (f_X5_cast_28 σ) (fun τ => ∃ f f', τ = sc (sc σ 31 f) 32 f' ∧ ∀ g, g < n → f g = shadeS hg (σ.1 42) (σ.1 43) (σ.1 44) sp n (σ.1 28 2) g ∧ f' g = giftS (σ.1 28 3) sp (shadeS hg (σ.1 42) (σ.1 43) (σ.1 44) sp n (σ.1 28 2)) n g) := by
  have hns : ns ≤ 6 := h.1.2.1
  have hst : ∀ s, s < ns → rgI (σ.1 42 s) 0 20 ∧ rgI (σ.1 43 s) 0 9 ∧ rgI (σ.1 44 s) 0 200 := fun s hs => (h.2.2.2.2.2.1 s hs).2
  have hrg := shade_rg (lg := σ.1 28 2) hns hsp hh hst hlg
  have hz : ∀ g, g < n → sp g < 0 → shadeS hg (σ.1 42) (σ.1 43) (σ.1 44) sp n (σ.1 28 2) g = 0 := fun g _ q => by unfold shadeS; rw [if_pos q]
  obtain ⟨τ, h1, f, rfl, hf⟩ := c_castShades h hn hpe hon hsp hi hhg (fun g s q1 q2 => by
    have := (hh g q1).add (hst s q2).1 (by omega) (by omega)
    have := this.1
    omega)
  generalize shadeS hg (σ.1 42) (σ.1 43) (σ.1 44) sp n (σ.1 28 2) = sh at hf hrg hz ⊢
  unfold f_X5_cast_28
  rw [h1, bd1_eq]
  have r3 : (sc σ 31 f).1 28 3 = σ.1 28 3 := rfl
  have r1 : (sc σ 31 f).1 28 1 = nI n := hpe
  rw [r3]
  by_cases c1 : σ.1 28 3 = 1
  · rw [if_pos c1, c_giveAll hn r1, bd1_eq, ok_some]
    refine ⟨f, _, rfl, fun g q => ⟨hf g q, ?_⟩⟩
    have r31 : (sc σ 31 f).1 31 = f := sc_same σ 31 f
    rw [r31]
    have es : sumN f n = sumN sh n := sumN_cong hf
    have el : lgC f n = lgC sh n := by
      have : ∀ k, k ≤ n → lgC f k = lgC sh k := by
        intro k
        induction k with
        | zero => intro _; rfl
        | succ k ih =>
          intro hk
          have e1 : lgC f (k + 1) = if f k ≤ f (lgC f k) then lgC f k else k := rfl
          have e2 : lgC sh (k + 1) = if sh k ≤ sh (lgC sh k) then lgC sh k else k := rfl
          have := lgC_le sh k
          rw [e1, e2, ih (by omega), hf k (by omega), hf (lgC sh k) (by omega)]
      exact this n (Nat.le_refl n)
    rw [es, el]
    unfold giftS
    rw [if_neg (by rw [c1]; decide), if_pos c1]
    rcases long_same n (by omega) hz (fun g q => (hrg g q).1) with ⟨a1, a2⟩ | ⟨a1, a2, a3⟩
    · rw [sumN_0 a1]
      have e0 : (if nI g = longN sp sh n then (0 : Int32) else 0) = 0 := by split <;> rfl
      rw [e0]
      by_cases q2 : g = lgC sh n
      · rw [← q2, pk_us]
      · rw [pk_un q2]; exact fillN_in (by omega)
    · rw [a2]
      by_cases q2 : g = lgC sh n
      · rw [← q2, pk_us, if_pos rfl]
      · rw [pk_un q2, if_neg (fun q3 => q2 ((nI_eq (by omega) (by omega)).mp q3))]
        exact fillN_in (by omega)
  · rw [if_neg c1, bs_eq]
    have hl : lpF (fun t => f_X5_cast_28_l19 t.1 t.2) FU (sc σ 31 f, (0 : Int32)) = some (sc (sc σ 31 f) 32 (fillN (fun g => if σ.1 28 3 = 2 then iMin (f g) 50 else f g) (σ.1 32) n), nI n) := by
      have e0 : (sc σ 31 f, (0 : Int32)) = (fun i => (sc (sc σ 31 f) 32 (fillN (fun g => if σ.1 28 3 = 2 then iMin (f g) 50 else f g) (σ.1 32) i), nI i)) 0 := by
        show _ = (sc (sc σ 31 f) 32 (fillN (fun g => if σ.1 28 3 = 2 then iMin (f g) 50 else f g) (σ.1 32) 0), (0 : Int32))
        have r32 : (sc σ 31 f).1 32 = σ.1 32 := rfl
        rw [fillN_0, ← r32, sc_self]
      rw [e0]
      refine lp_eq (fun i => (sc (sc σ 31 f) 32 (fillN (fun g => if σ.1 28 3 = 2 then iMin (f g) 50 else f g) (σ.1 32) i), nI i)) n (FU_big (by omega)) (fun i hi => ?_) ?_
      · show f_X5_cast_28_l19 (sc (sc σ 31 f) 32 (fillN (fun g => if σ.1 28 3 = 2 then iMin (f g) 50 else f g) (σ.1 32) i)) (nI i) = some (Sum.inl (sc (sc σ 31 f) 32 (fillN (fun g => if σ.1 28 3 = 2 then iMin (f g) 50 else f g) (σ.1 32) (i + 1)), nI (i + 1)))
        generalize hT : sc (sc σ 31 f) 32 (fillN (fun g => if σ.1 28 3 = 2 then iMin (f g) 50 else f g) (σ.1 32) i) = T
        have t1 : T.1 28 1 = nI n := by rw [← hT]; exact hpe
        have t3 : T.1 28 3 = σ.1 28 3 := by rw [← hT]; rfl
        have t31 : T.1 31 i = f i := by rw [← hT]; rfl
        have fin : ∀ v, v = (if σ.1 28 3 = 2 then iMin (f i) 50 else f i) → f_X5_cast_28_j60 T (nI i) v (nI i) = some (Sum.inl (sc (sc σ 31 f) 32 (fillN (fun g => if σ.1 28 3 = 2 then iMin (f g) 50 else f g) (σ.1 32) (i + 1)), nI (i + 1))) := by
          intro v hv
          unfold f_X5_cast_28_j60
          rw [inB_n (show i < 7 by omega) (by omega), gd_true, bs_eq, bs_eq, nI_clamp (by omega), ← hT, su_sc, hv, nI_1]
          rw [fillN_s (fun g => if σ.1 28 3 = 2 then iMin (f g) 50 else f g) (σ.1 32) i]
        unfold f_X5_cast_28_l19
        rw [t1, t3, if_neg (nI_ge hi (by omega)), inB_n (show i < 7 by omega) (by omega), gd_true, gd_true, nI_clamp (by omega), t31]
        by_cases c2 : σ.1 28 3 = 2
        · rw [if_pos c2]; exact fin _ (by rw [if_pos c2])
        · rw [if_neg c2]; exact fin _ (by rw [if_neg c2])
      · show f_X5_cast_28_l19 (sc (sc σ 31 f) 32 (fillN (fun g => if σ.1 28 3 = 2 then iMin (f g) 50 else f g) (σ.1 32) n)) (nI n) = _
        unfold f_X5_cast_28_l19
        have t1 : (sc (sc σ 31 f) 32 (fillN (fun g => if σ.1 28 3 = 2 then iMin (f g) 50 else f g) (σ.1 32) n)).1 28 1 = nI n := hpe
        rw [t1, if_pos (nI_le (Nat.le_refl n) (by omega))]
    rw [hl, bE1_eq, ok_some]
    refine ⟨f, _, rfl, fun g q => ⟨hf g q, ?_⟩⟩
    rw [fillN_in q, hf g q]
    unfold giftS
    by_cases c2 : σ.1 28 3 = 2
    · rw [if_pos c2, if_neg (by rw [c2]; decide), if_neg c1]
      unfold iMin
      by_cases c3 : sh g ≤ 50
      · rw [if_pos c3, if_neg]
        intro q3
        have h1 := i_le.mp c3
        have h2 := i_lt.mp q3
        omega
      · rw [if_neg c3, if_pos (i_lt.mpr (i_nle.mp c3))]
    · rw [if_neg c2]
      have c0 : σ.1 28 3 = 0 := by
        obtain ⟨w1, w2⟩ := hlw
        have n1 : ¬ (σ.1 28 3).toInt = (1 : Int32).toInt := fun q => c1 (i_eq.mpr q)
        have n2 : ¬ (σ.1 28 3).toInt = (2 : Int32).toInt := fun q => c2 (i_eq.mpr q)
        have z1 : (1 : Int32).toInt = 1 := rfl
        have z2 : (2 : Int32).toInt = 2 := rfl
        have z0 : (0 : Int32).toInt = 0 := rfl
        exact i_eq.mpr (by omega)
      rw [if_pos c0]
