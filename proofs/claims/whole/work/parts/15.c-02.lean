-- f_X1_weigh_34
def f_X1_weigh_34_j80 (σ : Sto) : Option (Sto) :=
  some σ
def f_X1_weigh_34_j52 (σ : Sto) (x1 : Int32) : Option (Sto) :=
  bs (su σ 34 3 (1 : Int32)) fun σ6 => bs (su σ6 34 4 x1) fun σ7 => gd (decide (0 ≤ ((0 : Int32)).toInt ∧ 0 ≤ ((0 : Int32)).toInt ∧ 0 ≤ ((6 : Int32)).toInt ∧ ((0 : Int32)).toInt + ((6 : Int32)).toInt ≤ 6 ∧ ((0 : Int32)).toInt + ((6 : Int32)).toInt ≤ 6)) (bs (sc σ7 35 (va_cpy (σ7.1 33) (σ7.1 35) ((0 : Int32)).toNatClampNeg ((0 : Int32)).toNatClampNeg ((6 : Int32)).toNatClampNeg)) fun σ8 => f_X1_weigh_34_j80 σ8)
def f_X1_weigh_34_j36 (σ : Sto) (s0 : Int32) : Option (Sto) :=
  bs s0 fun z5 => if (σ.1 34 3) = 0 then (f_X1_weigh_34_j52 σ z5) else (if z5 ≤ (σ.1 34 4) then (f_X1_weigh_34_j80 σ) else (f_X1_weigh_34_j52 σ z5))
def f_X1_weigh_34 (σ : Sto) : Option (Sto) :=
  bd1 (f_X5_cast_28 σ) fun σ1 => if (σ1.1 34 2) = (-1 : Int32) then (bd2 (f_X5_sumOfAlms_28 σ1) fun σ9 v10 => f_X1_weigh_34_j36 σ9 v10) else (bd2 (f_X5_almsOf_28 σ1 (σ1.1 34 2)) fun σ3 v4 => f_X1_weigh_34_j36 σ3 v4)
theorem w_f_X1_weigh_34_j80 {G : Wld} {X : Cxt} (C : Cx G X RX1 cX1_weigh 2 5) {σ : Sto} {y : Sto} (h : f_X1_weigh_34_j80 σ = some y) (hK : Rx G X none none y) : V G X 2 σ [(0, .ref (G.1 34))] [] 80 := by
  unfold f_X1_weigh_34_j80 at h
  cases h
  exact v_vret 80 C hK dX1_weigh_80
theorem w_f_X1_weigh_34_j52 {G : Wld} {X : Cxt} (C : Cx G X RX1 cX1_weigh 2 5) {σ : Sto} {x1 : Int32} {y : Sto} (h : f_X1_weigh_34_j52 σ x1 = some y) (hK : Rx G X none none y) : V G X 2 σ [(0, .ref (G.1 34)), (1, .int x1)] [] 52 := by
  unfold f_X1_weigh_34_j52 at h
  refine v_aload_n 52 C 0 0 dX1_weigh_52 rfl rfl ?_
  refine v_iconst 53 C (1 : Int32) dX1_weigh_53 (by decide) ?_
  refine p_X1_34_3 54 C (by decide) dX1_weigh_54 h (fun σ6 h => ?_)
  refine v_aload_n 57 C 0 0 dX1_weigh_57 rfl rfl ?_
  refine v_iload_n 58 C 1 1 dX1_weigh_58 rfl rfl ?_
  refine p_X1_34_4 59 C dX1_weigh_59 h (fun σ7 h => ?_)
  refine v_aload_n 62 C 0 0 dX1_weigh_62 rfl rfl ?_
  refine g_X1_34_1 63 C dX1_weigh_63 ?_
  refine g_X1_28_8 66 C dX1_weigh_66 ?_
  refine v_iconst 69 C (0 : Int32) dX1_weigh_69 (by decide) ?_
  refine v_aload_n 70 C 0 0 dX1_weigh_70 rfl rfl ?_
  refine g_X1_34_5 71 C dX1_weigh_71 ?_
  refine v_iconst 74 C (0 : Int32) dX1_weigh_74 (by decide) ?_
  refine v_bipush 75 C (6 : Int32) dX1_weigh_75 (by decide) ?_
  refine b_copy 77 C 33 35 (by decide) (by decide) (ce_33 G) (ce_35 G) q_644 q_458 q_457 q_73 (Nat.le_of_ble_eq_true rfl) (by decide) dX1_weigh_77 h (fun σ8 h => ?_)
  exact v_sub [0] rfl (w_f_X1_weigh_34_j80 C h hK)
theorem w_f_X1_weigh_34_j36 {G : Wld} {X : Cxt} (C : Cx G X RX1 cX1_weigh 2 5) {σ : Sto} {s0 : Int32} {y : Sto} (h : f_X1_weigh_34_j36 σ s0 = some y) (hK : Rx G X none none y) : V G X 2 σ [(0, .ref (G.1 34))] [.int s0] 36 := by
  unfold f_X1_weigh_34_j36 at h
  refine b_istore_n 36 C 1 (lv2 := fun z5 => [(1, .int z5), (0, .ref (G.1 34))]) dX1_weigh_36 rfl (by decide) (fun _ => rfl) h (fun z5 h => ?_)
  refine v_aload_n 37 C 0 1 dX1_weigh_37 rfl rfl ?_
  refine g_X1_34_3 38 C dX1_weigh_38 ?_
  refine v_if_eq 41 C 52 dX1_weigh_41 (by decide) h (fun h => ?_) (fun h => ?_)
  · exact v_sub [1, 0] rfl (w_f_X1_weigh_34_j52 C h hK)
  · refine v_iload_n 44 C 1 0 dX1_weigh_44 rfl rfl ?_
    refine v_aload_n 45 C 0 1 dX1_weigh_45 rfl rfl ?_
    refine g_X1_34_4 46 C dX1_weigh_46 ?_
    refine v_icmp_le 49 C 80 dX1_weigh_49 (by decide) h (fun h => ?_) (fun h => ?_)
    · exact v_sub [1] rfl (w_f_X1_weigh_34_j80 C h hK)
    · exact v_sub [1, 0] rfl (w_f_X1_weigh_34_j52 C h hK)
theorem w_f_X1_weigh_34 {G : Wld} {X : Cxt} (C : Cx G X RX1 cX1_weigh 2 5) {σ : Sto} {y : Sto} (h : f_X1_weigh_34 σ = some y) (hK : Rx G X none none y) : V G X 2 σ [(0, .ref (G.1 34))] [] 0 := by
  unfold f_X1_weigh_34 at h
  refine v_aload_n 0 C 0 0 dX1_weigh_0 rfl rfl ?_
  refine g_X1_34_1 1 C dX1_weigh_1 ?_
  refine r_f_X5_cast_28 4 C (by decide) q_638 dX1_weigh_4 (Nat.le_of_ble_eq_true rfl) h (fun σ1 h => ?_)
  refine v_aload_n 7 C 0 0 dX1_weigh_7 rfl rfl ?_
  refine g_X1_34_2 8 C dX1_weigh_8 ?_
  refine v_iconst 11 C (-1 : Int32) dX1_weigh_11 (by decide) ?_
  refine v_icmp_ne 12 C 25 dX1_weigh_12 (by decide) h (fun h => ?_) (fun h => ?_)
  · refine v_aload_n 25 C 0 0 dX1_weigh_25 rfl rfl ?_
    refine g_X1_34_1 26 C dX1_weigh_26 ?_
    refine v_aload_n 29 C 0 0 dX1_weigh_29 rfl rfl ?_
    refine g_X1_34_2 30 C dX1_weigh_30 ?_
    refine r_f_X5_almsOf_28 33 C (by decide) q_643 dX1_weigh_33 (Nat.le_of_ble_eq_true rfl) h (fun σ3 v4 h => ?_)
    exact v_sub [0] rfl (w_f_X1_weigh_34_j36 C h hK)
  · refine v_aload_n 15 C 0 0 dX1_weigh_15 rfl rfl ?_
    refine g_X1_34_1 16 C dX1_weigh_16 ?_
    refine r_f_X5_sumOfAlms_28 19 C (by decide) q_639 dX1_weigh_19 (Nat.le_of_ble_eq_true rfl) h (fun σ9 v10 h => ?_)
    refine v_goto 22 C 36 dX1_weigh_22 (by decide) ?_
    exact v_sub [0] rfl (w_f_X1_weigh_34_j36 C h hK)
theorem c_f_X1_weigh_34 (l : Launch) (G : Wld) (hG : GI G) (σ : Sto) (y : Sto) (h : f_X1_weigh_34 σ = some y) : Ct l G yX1_weigh cX1_weigh 2 none 5 [.ref (G.1 34)] σ none y := by
  refine ct_intro RX1 hG (by decide) rfl (Nat.le_of_ble_eq_true rfl) (fun X hX C hK => ?_)
  subst hX
  exact w_f_X1_weigh_34 C h hK
theorem r_f_X1_weigh_34 {G : Wld} {X : Cxt} {own : String} {cc : ByteArray} {nL n : Nat} {σ : Sto} {lv : List (Nat × Value)} {st : List Value} {β : Type} {r : β} {F : Sto → Option β} {ix : Nat} (pc : Nat) (C : Cx G X own cc nL n) (hn : 5 < n) (h1 : Cond.methodLink own ix yX1_weigh ∈ lw_gd) (hd : decode cc pc = .ok (.invokevirtual ix, 3)) (hsum : (st.map fun v => v.category).sum ≤ 8) (h : bd1 (f_X1_weigh_34 σ) F = some r) (kk : ∀ σ1, F σ1 = some r → V G X nL σ1 lv (st) (pc + 3)) : V G X nL σ lv (.ref (G.1 34) :: st) pc := by
  obtain ⟨z, hz, h⟩ := bd1_some h
  exact v_callV pc C 34 0 [] st (c_f_X1_weigh_34 (xl X) G C.2.2.2.2.2.2.1 _ _ hz) hn (by decide) (by decide) (ce_34 G _ _) rfl (by decide +kernel) rfl h1 q_636 q_17 q_66 q_637 rfl hsum hd (kk _ h)
-- f_X1_fill_34
def f_X1_fill_34_j22 (rec : Sto → Int32 → Int32 → Int32 → Option (Sto)) (σ : Sto) : Option (Sto) :=
  bd1 (f_X1_weigh_34 σ) fun σ4 => some σ4
def f_X1_fill_34_j83 (rec : Sto → Int32 → Int32 → Int32 → Option (Sto)) (σ : Sto) (x1 : Int32) (x2 : Int32) (x3 : Int32) (x4 : Int32) (x5 : Int32) : Option ((Sto × Int32) ⊕ (Sto × Int32)) :=
  bs (x5 + (1 : Int32)) fun z9 => some (.inl (σ, z9))
def f_X1_fill_34_l30 (rec : Sto → Int32 → Int32 → Int32 → Option (Sto)) (x1 : Int32) (x2 : Int32) (x3 : Int32) (x4 : Int32) (σ : Sto) (x5 : Int32) : Option ((Sto × Int32) ⊕ (Sto × Int32)) :=
  bd2 (f_X2_count_1 σ (3 : Int32)) fun σ7 v8 => if v8 ≤ x5 then (some (.inr (σ7, x5))) else (if x2 ≤ 0 then (some (.inr (σ7, x5))) else (if ((x3 >>> (x5 &&& 31)) &&& (1 : Int32)) = 0 then (gd (inB x1 6) (bs (su σ7 33 (x1).toNatClampNeg x5) fun σ10 => bd1 (rec σ10 (x1 + (1 : Int32)) (x2 - (1 : Int32)) (x3 ||| ((1 : Int32) <<< (x5 &&& 31)))) fun σ11 => f_X1_fill_34_j83 rec σ11 x1 x2 x3 x4 x5)) else (f_X1_fill_34_j83 rec σ7 x1 x2 x3 x4 x5)))
def f_X1_fill_34_j116 (rec : Sto → Int32 → Int32 → Int32 → Option (Sto)) (σ : Sto) : Option (Sto) :=
  some σ
def f_X1_fill_34_b (rec : Sto → Int32 → Int32 → Int32 → Option (Sto)) (σ : Sto) (a1 : Int32) (a2 : Int32) (a3 : Int32) : Option (Sto) :=
  bd2 (f_X2_count_1 σ (2 : Int32)) fun σ1 v2 => bs v2 fun z3 => if z3 ≤ a1 then (f_X1_fill_34_j22 rec σ1) else (if a1 < (6 : Int32) then (bs (0 : Int32) fun z6 => bE1 (lpF (fun t => f_X1_fill_34_l30 rec a1 a2 a3 z3 t.1 t.2) FU (σ1, z6)) (fun σ13 z14 => if (z3 - a1) ≤ a2 then (f_X1_fill_34_j116 rec σ13) else (gd (inB a1 6) (bs (su σ13 33 (a1).toNatClampNeg (-1 : Int32)) fun σ16 => bd1 (rec σ16 (a1 + (1 : Int32)) a2 a3) fun σ17 => f_X1_fill_34_j116 rec σ17)))) else (f_X1_fill_34_j22 rec σ1))
def f_X1_fill_34 : Nat → Sto → Int32 → Int32 → Int32 → Option (Sto)
  | 0 => fun _ _ _ _ => none
  | d + 1 => f_X1_fill_34_b (f_X1_fill_34 d)
theorem rr_f_X1_fill_34 {G : Wld} {X : Cxt} {rec : Sto → Int32 → Int32 → Int32 → Option (Sto)} {lr : Nat} {own : String} {cc : ByteArray} {nL n : Nat} {σ : Sto} {lv : List (Nat × Value)} {st : List Value} {β : Type} {r : β} {F : Sto → Option β} {a1 : Int32} {a2 : Int32} {a3 : Int32} {ix : Nat} (pc : Nat) (C : Cx G X own cc nL n) (hrec : ∀ (σ : Sto) (a1 : Int32) (a2 : Int32) (a3 : Int32) (y : Sto), rec σ a1 a2 a3 = some y → Ct (xl X) G yX1_fill cX1_fill 6 none lr [.ref (G.1 34), .int a1, .int a2, .int a3] σ none y) (hn : lr < n) (h1 : Cond.methodLink own ix yX1_fill ∈ lw_gd) (hd : decode cc pc = .ok (.invokevirtual ix, 3)) (hsum : (st.map fun v => v.category).sum ≤ 8) (h : bd1 (rec σ a1 a2 a3) F = some r) (kk : ∀ σ1, F σ1 = some r → V G X nL σ1 lv st (pc + 3)) : V G X nL σ lv (.int a3 :: .int a2 :: .int a1 :: .ref (G.1 34) :: st) pc := by
  obtain ⟨z, hz, h⟩ := bd1_some h
  exact v_callV pc C 34 3 [.int a1, .int a2, .int a3] st (hrec _ _ _ _ _ hz) hn (by decide) (by decide) (ce_34 G _ _) rfl (by decide +kernel) rfl h1 q_632 q_16 q_66 q_633 rfl hsum hd (kk _ h)
theorem w_f_X1_fill_34_j22 {G : Wld} {X : Cxt} {rec : Sto → Int32 → Int32 → Int32 → Option (Sto)} {lr : Nat} (C : Cx G X RX1 cX1_fill 6 (lr + 1)) (hlr : 6 ≤ lr) (hrec : ∀ (σ : Sto) (a1 : Int32) (a2 : Int32) (a3 : Int32) (y : Sto), rec σ a1 a2 a3 = some y → Ct (xl X) G yX1_fill cX1_fill 6 none lr [.ref (G.1 34), .int a1, .int a2, .int a3] σ none y) {σ : Sto} {y : Sto} (h : f_X1_fill_34_j22 rec σ = some y) (hK : Rx G X none none y) : V G X 6 σ [(0, .ref (G.1 34))] [] 22 := by
  unfold f_X1_fill_34_j22 at h
  refine v_aload_n 22 C 0 0 dX1_fill_22 rfl rfl ?_
  refine r_f_X1_weigh_34 23 C (by omega) q_634 dX1_fill_23 (Nat.le_of_ble_eq_true rfl) h (fun σ4 h => ?_)
  cases h
  exact v_vret 26 C hK dX1_fill_26
theorem w_f_X1_fill_34_j83 {G : Wld} {X : Cxt} {rec : Sto → Int32 → Int32 → Int32 → Option (Sto)} {lr : Nat} (C : Cx G X RX1 cX1_fill 6 (lr + 1)) (hlr : 6 ≤ lr) (hrec : ∀ (σ : Sto) (a1 : Int32) (a2 : Int32) (a3 : Int32) (y : Sto), rec σ a1 a2 a3 = some y → Ct (xl X) G yX1_fill cX1_fill 6 none lr [.ref (G.1 34), .int a1, .int a2, .int a3] σ none y) {σ : Sto} {x1 : Int32} {x2 : Int32} {x3 : Int32} {x4 : Int32} {x5 : Int32} {y : (Sto × Int32) ⊕ (Sto × Int32)} (h : f_X1_fill_34_j83 rec σ x1 x2 x3 x4 x5 = some y) (hc : ∀ t : Sto × Int32, y = .inl t → V G X 6 t.1 [(0, .ref (G.1 34)), (1, .int x1), (2, .int x2), (3, .int x3), (4, .int x4), (5, .int t.2)] [] 30) {Ve : Sto × Int32 → Prop} (he : ∀ e, y = .inr e → Ve e) (hx : ∀ (σ : Sto) (x5 : Int32), Ve (σ, x5) → V G X 6 σ [(0, .ref (G.1 34)), (1, .int x1), (2, .int x2), (3, .int x3), (4, .int x4), (5, .int x5)] [] 89) : V G X 6 σ [(0, .ref (G.1 34)), (1, .int x1), (2, .int x2), (3, .int x3), (4, .int x4), (5, .int x5)] [] 83 := by
  unfold f_X1_fill_34_j83 at h
  refine b_iinc 83 C 5 5 (1 : Int32) (lv2 := fun z9 => [(5, .int z9), (0, .ref (G.1 34)), (1, .int x1), (2, .int x2), (3, .int x3), (4, .int x4)]) dX1_fill_83 rfl (by decide) (by decide) (fun _ => rfl) h (fun z9 h => ?_)
  refine v_goto 86 C 30 dX1_fill_86 (by decide) ?_
  exact v_sub [1, 2, 3, 4, 5, 0] rfl (hc _ (Option.some.inj h).symm)
theorem w_f_X1_fill_34_l30 {G : Wld} {X : Cxt} {rec : Sto → Int32 → Int32 → Int32 → Option (Sto)} {lr : Nat} (C : Cx G X RX1 cX1_fill 6 (lr + 1)) (hlr : 6 ≤ lr) (hrec : ∀ (σ : Sto) (a1 : Int32) (a2 : Int32) (a3 : Int32) (y : Sto), rec σ a1 a2 a3 = some y → Ct (xl X) G yX1_fill cX1_fill 6 none lr [.ref (G.1 34), .int a1, .int a2, .int a3] σ none y) {x1 : Int32} {x2 : Int32} {x3 : Int32} {x4 : Int32} {σ : Sto} {x5 : Int32} {y : (Sto × Int32) ⊕ (Sto × Int32)} (h : f_X1_fill_34_l30 rec x1 x2 x3 x4 σ x5 = some y) (hc : ∀ t : Sto × Int32, y = .inl t → V G X 6 t.1 [(0, .ref (G.1 34)), (1, .int x1), (2, .int x2), (3, .int x3), (4, .int x4), (5, .int t.2)] [] 30) {Ve : Sto × Int32 → Prop} (he : ∀ e, y = .inr e → Ve e) (hx : ∀ (σ : Sto) (x5 : Int32), Ve (σ, x5) → V G X 6 σ [(0, .ref (G.1 34)), (1, .int x1), (2, .int x2), (3, .int x3), (4, .int x4), (5, .int x5)] [] 89) : V G X 6 σ [(0, .ref (G.1 34)), (1, .int x1), (2, .int x2), (3, .int x3), (4, .int x4), (5, .int x5)] [] 30 := by
  unfold f_X1_fill_34_l30 at h
  refine v_iload 30 C 5 5 dX1_fill_30 rfl ?_
  refine v_aload_n 32 C 0 0 dX1_fill_32 rfl rfl ?_
  refine g_X1_34_0 33 C dX1_fill_33 ?_
  refine v_iconst 36 C (3 : Int32) dX1_fill_36 (by decide) ?_
  refine r_f_X2_count_1 37 C (by omega) q_628 dX1_fill_37 (Nat.le_of_ble_eq_true rfl) h (fun σ7 v8 h => ?_)
  refine v_icmp_ge 40 C 89 dX1_fill_40 (by decide) h (fun h => ?_) (fun h => ?_)
  · exact v_sub [0, 1, 2, 3, 4, 5] rfl (hx _ _ (he _ (Option.some.inj h).symm))
  · refine v_iload_n 43 C 2 2 dX1_fill_43 rfl rfl ?_
    refine v_if_le 44 C 89 dX1_fill_44 (by decide) h (fun h => ?_) (fun h => ?_)
    · exact v_sub [0, 1, 2, 3, 4, 5] rfl (hx _ _ (he _ (Option.some.inj h).symm))
    · refine v_iload_n 47 C 3 3 dX1_fill_47 rfl rfl ?_
      refine v_iload 48 C 5 5 dX1_fill_48 rfl ?_
      refine v_ishr 50 C dX1_fill_50 ?_
      refine v_iconst 51 C (1 : Int32) dX1_fill_51 (by decide) ?_
      refine v_iand 52 C dX1_fill_52 ?_
      refine v_if_ne 53 C 83 dX1_fill_53 (by decide) h (fun h => ?_) (fun h => ?_)
      · exact v_sub [0, 1, 2, 3, 4, 5] rfl (w_f_X1_fill_34_j83 C hlr hrec h hc he hx)
      · refine v_aload_n 56 C 0 0 dX1_fill_56 rfl rfl ?_
        refine g_X1_34_1 57 C dX1_fill_57 ?_
        refine g_X1_28_8 60 C dX1_fill_60 ?_
        refine v_iload_n 63 C 1 1 dX1_fill_63 rfl rfl ?_
        refine v_iload 64 C 5 5 dX1_fill_64 rfl ?_
        refine b_iast 66 C 33 (by decide) (ce_33 G) dX1_fill_66 h (fun σ10 h => ?_)
        refine v_aload_n 67 C 0 0 dX1_fill_67 rfl rfl ?_
        refine v_iload_n 68 C 1 1 dX1_fill_68 rfl rfl ?_
        refine v_iconst 69 C (1 : Int32) dX1_fill_69 (by decide) ?_
        refine v_iadd 70 C dX1_fill_70 ?_
        refine v_iload_n 71 C 2 2 dX1_fill_71 rfl rfl ?_
        refine v_iconst 72 C (1 : Int32) dX1_fill_72 (by decide) ?_
        refine v_isub 73 C dX1_fill_73 ?_
        refine v_iload_n 74 C 3 3 dX1_fill_74 rfl rfl ?_
        refine v_iconst 75 C (1 : Int32) dX1_fill_75 (by decide) ?_
        refine v_iload 76 C 5 5 dX1_fill_76 rfl ?_
        refine v_ishl 78 C dX1_fill_78 ?_
        refine v_ior 79 C dX1_fill_79 ?_
        refine rr_f_X1_fill_34 80 C hrec (by omega) q_630 dX1_fill_80 (Nat.le_of_ble_eq_true rfl) h (fun σ11 h => ?_)
        exact v_sub [0, 1, 2, 3, 4, 5] rfl (w_f_X1_fill_34_j83 C hlr hrec h hc he hx)
theorem w_f_X1_fill_34_j116 {G : Wld} {X : Cxt} {rec : Sto → Int32 → Int32 → Int32 → Option (Sto)} {lr : Nat} (C : Cx G X RX1 cX1_fill 6 (lr + 1)) (hlr : 6 ≤ lr) (hrec : ∀ (σ : Sto) (a1 : Int32) (a2 : Int32) (a3 : Int32) (y : Sto), rec σ a1 a2 a3 = some y → Ct (xl X) G yX1_fill cX1_fill 6 none lr [.ref (G.1 34), .int a1, .int a2, .int a3] σ none y) {σ : Sto} {y : Sto} (h : f_X1_fill_34_j116 rec σ = some y) (hK : Rx G X none none y) : V G X 6 σ [(0, .ref (G.1 34))] [] 116 := by
  unfold f_X1_fill_34_j116 at h
  cases h
  exact v_vret 116 C hK dX1_fill_116
theorem w_f_X1_fill_34_b {G : Wld} {X : Cxt} {rec : Sto → Int32 → Int32 → Int32 → Option (Sto)} {lr : Nat} (C : Cx G X RX1 cX1_fill 6 (lr + 1)) (hlr : 6 ≤ lr) (hrec : ∀ (σ : Sto) (a1 : Int32) (a2 : Int32) (a3 : Int32) (y : Sto), rec σ a1 a2 a3 = some y → Ct (xl X) G yX1_fill cX1_fill 6 none lr [.ref (G.1 34), .int a1, .int a2, .int a3] σ none y) {σ : Sto} {a1 : Int32} {a2 : Int32} {a3 : Int32} {y : Sto} (h : f_X1_fill_34_b rec σ a1 a2 a3 = some y) (hK : Rx G X none none y) : V G X 6 σ [(0, .ref (G.1 34)), (1, .int a1), (2, .int a2), (3, .int a3)] [] 0 := by
  unfold f_X1_fill_34_b at h
  refine v_aload_n 0 C 0 0 dX1_fill_0 rfl rfl ?_
  refine g_X1_34_0 1 C dX1_fill_1 ?_
  refine v_iconst 4 C (2 : Int32) dX1_fill_4 (by decide) ?_
  refine r_f_X2_count_1 5 C (by omega) q_628 dX1_fill_5 (Nat.le_of_ble_eq_true rfl) h (fun σ1 v2 h => ?_)
  refine b_istore 8 C 4 (lv2 := fun z3 => [(4, .int z3), (0, .ref (G.1 34)), (1, .int a1), (2, .int a2), (3, .int a3)]) dX1_fill_8 (by decide) (fun _ => rfl) h (fun z3 h => ?_)
  refine v_iload_n 10 C 1 2 dX1_fill_10 rfl rfl ?_
  refine v_iload 11 C 4 0 dX1_fill_11 rfl ?_
  refine v_icmp_ge 13 C 22 dX1_fill_13 (by decide) h (fun h => ?_) (fun h => ?_)
  · exact v_sub [1] rfl (w_f_X1_fill_34_j22 C hlr hrec h hK)
  · refine v_iload_n 16 C 1 2 dX1_fill_16 rfl rfl ?_
    refine v_bipush 17 C (6 : Int32) dX1_fill_17 (by decide) ?_
    refine v_icmp_lt 19 C 27 dX1_fill_19 (by decide) h (fun h => ?_) (fun h => ?_)
    · refine v_iconst 27 C (0 : Int32) dX1_fill_27 (by decide) ?_
      refine b_istore 28 C 5 (lv2 := fun z6 => [(5, .int z6), (4, .int z3), (0, .ref (G.1 34)), (1, .int a1), (2, .int a2), (3, .int a3)]) dX1_fill_28 (by decide) (fun _ => rfl) h (fun z6 h => ?_)
      refine v_sub [2, 3, 4, 5, 1, 0] rfl ?_
      refine lp_go (Vh := fun t => V G X 6 t.1 [(0, .ref (G.1 34)), (1, .int a1), (2, .int a2), (3, .int a3), (4, .int z3), (5, .int t.2)] [] 30) h ?_
      intro t15 y15 hy15 hc15 he15
      refine w_f_X1_fill_34_l30 C hlr hrec hy15 hc15 he15 (fun σ13 z14 h => ?_)
      dsimp only at h
      refine v_iload_n 89 C 2 2 dX1_fill_89 rfl rfl ?_
      refine v_iload 90 C 4 4 dX1_fill_90 rfl ?_
      refine v_iload_n 92 C 1 1 dX1_fill_92 rfl rfl ?_
      refine v_isub 93 C dX1_fill_93 ?_
      refine v_icmp_ge 94 C 116 dX1_fill_94 (by decide) h (fun h => ?_) (fun h => ?_)
      · exact v_sub [0] rfl (w_f_X1_fill_34_j116 C hlr hrec h hK)
      · refine v_aload_n 97 C 0 0 dX1_fill_97 rfl rfl ?_
        refine g_X1_34_1 98 C dX1_fill_98 ?_
        refine g_X1_28_8 101 C dX1_fill_101 ?_
        refine v_iload_n 104 C 1 1 dX1_fill_104 rfl rfl ?_
        refine v_iconst 105 C (-1 : Int32) dX1_fill_105 (by decide) ?_
        refine b_iast 106 C 33 (by decide) (ce_33 G) dX1_fill_106 h (fun σ16 h => ?_)
        refine v_aload_n 107 C 0 0 dX1_fill_107 rfl rfl ?_
        refine v_iload_n 108 C 1 1 dX1_fill_108 rfl rfl ?_
        refine v_iconst 109 C (1 : Int32) dX1_fill_109 (by decide) ?_
        refine v_iadd 110 C dX1_fill_110 ?_
        refine v_iload_n 111 C 2 2 dX1_fill_111 rfl rfl ?_
        refine v_iload_n 112 C 3 3 dX1_fill_112 rfl rfl ?_
        refine rr_f_X1_fill_34 113 C hrec (by omega) q_630 dX1_fill_113 (Nat.le_of_ble_eq_true rfl) h (fun σ17 h => ?_)
        exact v_sub [0] rfl (w_f_X1_fill_34_j116 C hlr hrec h hK)
    · exact v_sub [1] rfl (w_f_X1_fill_34_j22 C hlr hrec h hK)
theorem c_f_X1_fill_34 (l : Launch) (G : Wld) (hG : GI G) : ∀ (d : Nat) (σ : Sto) (a1 : Int32) (a2 : Int32) (a3 : Int32) (y : Sto), f_X1_fill_34 d σ a1 a2 a3 = some y → Ct l G yX1_fill cX1_fill 6 none (6 + d) [.ref (G.1 34), .int a1, .int a2, .int a3] σ none y := by
  intro d
  induction d with
  | zero =>
    intro σ a1 a2 a3 y h
    cases h
  | succ d ih =>
    intro σ a1 a2 a3 y h
    refine ct_intro RX1 hG (by decide) rfl (Nat.le_of_ble_eq_true rfl) (fun X hX C hK => ?_)
    subst hX
    exact w_f_X1_fill_34_b (rec := f_X1_fill_34 d) (lr := 6 + d) C (by omega) ih h hK
theorem r_f_X1_fill_34 {G : Wld} {X : Cxt} {own : String} {cc : ByteArray} {nL n : Nat} {σ : Sto} {lv : List (Nat × Value)} {st : List Value} {β : Type} {r : β} {F : Sto → Option β} {a1 : Int32} {a2 : Int32} {a3 : Int32} {ix : Nat} (pc : Nat) (d : Nat) (C : Cx G X own cc nL n) (hn : (6 + d) < n) (h1 : Cond.methodLink own ix yX1_fill ∈ lw_gd) (hd : decode cc pc = .ok (.invokevirtual ix, 3)) (hsum : (st.map fun v => v.category).sum ≤ 8) (h : bd1 (f_X1_fill_34 d σ a1 a2 a3) F = some r) (kk : ∀ σ1, F σ1 = some r → V G X nL σ1 lv (st) (pc + 3)) : V G X nL σ lv (.int a3 :: .int a2 :: .int a1 :: .ref (G.1 34) :: st) pc := by
  obtain ⟨z, hz, h⟩ := bd1_some h
  exact v_callV pc C 34 3 [.int a1, .int a2, .int a3] st (c_f_X1_fill_34 (xl X) G C.2.2.2.2.2.2.1 d _ _ _ _ _ hz) hn (by decide) (by decide) (ce_34 G _ _) rfl (by decide +kernel) rfl h1 q_632 q_16 q_66 q_633 rfl hsum hd (kk _ h)
-- f_X1_seek_34
def f_X1_seek_34 (σ : Sto) (a1 : Int32) : Option (Sto) :=
  bs (su σ 34 2 a1) fun σ1 => bs (su σ1 34 3 (0 : Int32)) fun σ2 => bd2 (f_X2_count_1 σ2 (3 : Int32)) fun σ3 v4 => bd2 (f_X2_count_1 σ3 (2 : Int32)) fun σ5 v6 => bd1 (f_X1_fill_34 8 σ5 (0 : Int32) (iMin v4 v6) (0 : Int32)) fun σ7 => some σ7
theorem w_f_X1_seek_34 {G : Wld} {X : Cxt} (C : Cx G X RX1 cX1_seek 2 15) {σ : Sto} {a1 : Int32} {y : Sto} (h : f_X1_seek_34 σ a1 = some y) (hK : Rx G X none none y) : V G X 2 σ [(0, .ref (G.1 34)), (1, .int a1)] [] 0 := by
  unfold f_X1_seek_34 at h
  refine v_aload_n 0 C 0 0 dX1_seek_0 rfl rfl ?_
  refine v_iload_n 1 C 1 1 dX1_seek_1 rfl rfl ?_
  refine p_X1_34_2 2 C dX1_seek_2 h (fun σ1 h => ?_)
  refine v_aload_n 5 C 0 0 dX1_seek_5 rfl rfl ?_
  refine v_iconst 6 C (0 : Int32) dX1_seek_6 (by decide) ?_
  refine p_X1_34_3 7 C (by decide) dX1_seek_7 h (fun σ2 h => ?_)
  refine v_aload_n 10 C 0 0 dX1_seek_10 rfl rfl ?_
  refine v_iconst 11 C (0 : Int32) dX1_seek_11 (by decide) ?_
  refine v_aload_n 12 C 0 0 dX1_seek_12 rfl rfl ?_
  refine g_X1_34_0 13 C dX1_seek_13 ?_
  refine v_iconst 16 C (3 : Int32) dX1_seek_16 (by decide) ?_
  refine r_f_X2_count_1 17 C (by decide) q_628 dX1_seek_17 (Nat.le_of_ble_eq_true rfl) h (fun σ3 v4 h => ?_)
  refine v_aload_n 20 C 0 0 dX1_seek_20 rfl rfl ?_
  refine g_X1_34_0 21 C dX1_seek_21 ?_
  refine v_iconst 24 C (2 : Int32) dX1_seek_24 (by decide) ?_
  refine r_f_X2_count_1 25 C (by decide) q_628 dX1_seek_25 (Nat.le_of_ble_eq_true rfl) h (fun σ5 v6 h => ?_)
  refine v_min 28 C q_629 q_501 q_74 q_502 (Nat.le_of_ble_eq_true rfl) (by decide) dX1_seek_28 ?_
  refine v_iconst 31 C (0 : Int32) dX1_seek_31 (by decide) ?_
  refine r_f_X1_fill_34 32 8 C (by decide) q_630 dX1_seek_32 (Nat.le_of_ble_eq_true rfl) h (fun σ7 h => ?_)
  cases h
  exact v_vret 35 C hK dX1_seek_35
theorem c_f_X1_seek_34 (l : Launch) (G : Wld) (hG : GI G) (σ : Sto) (a1 : Int32) (y : Sto) (h : f_X1_seek_34 σ a1 = some y) : Ct l G yX1_seek cX1_seek 2 none 15 [.ref (G.1 34), .int a1] σ none y := by
  refine ct_intro RX1 hG (by decide) rfl (Nat.le_of_ble_eq_true rfl) (fun X hX C hK => ?_)
  subst hX
  exact w_f_X1_seek_34 C h hK
theorem r_f_X1_seek_34 {G : Wld} {X : Cxt} {own : String} {cc : ByteArray} {nL n : Nat} {σ : Sto} {lv : List (Nat × Value)} {st : List Value} {β : Type} {r : β} {F : Sto → Option β} {a1 : Int32} {ix : Nat} (pc : Nat) (C : Cx G X own cc nL n) (hn : 15 < n) (h1 : Cond.methodLink own ix yX1_seek ∈ lw_gd) (hd : decode cc pc = .ok (.invokevirtual ix, 3)) (hsum : (st.map fun v => v.category).sum ≤ 8) (h : bd1 (f_X1_seek_34 σ a1) F = some r) (kk : ∀ σ1, F σ1 = some r → V G X nL σ1 lv (st) (pc + 3)) : V G X nL σ lv (.int a1 :: .ref (G.1 34) :: st) pc := by
  obtain ⟨z, hz, h⟩ := bd1_some h
  exact v_callV pc C 34 1 [.int a1] st (c_f_X1_seek_34 (xl X) G C.2.2.2.2.2.2.1 _ _ _ hz) hn (by decide) (by decide) (ce_34 G _ _) rfl (by decide +kernel) rfl h1 q_625 q_626 q_66 q_627 rfl hsum hd (kk _ h)
-- f_X7_standing
def f_X7_standing_j46 (σ : Sto) : Option (Sto × Int32) :=
  some (σ, (-1000000001 : Int32))
def f_X7_standing_j122 (σ : Sto) (s0 : Int32) : Option (Sto × Int32) :=
  some (σ, s0)
def f_X7_standing_j49 (σ : Sto) (x1 : Int32) (x2 : Int32) (x3 : Int32) : Option (Sto × Int32) :=
  bd1 (f_X5_dress_28_10 σ (1 : Int32)) fun σ3 => bd2 (f_X2_longOf_1 σ3 x1 (σ3.1 10 3)) fun σ5 v6 => bd1 (f_X5_light_28 σ5 v6 (σ5.1 10 5)) fun σ7 => bd1 (f_X1_seek_34 σ7 x2) fun σ9 => if x3 = (-1 : Int32) then (f_X7_standing_j122 σ9 (σ9.1 34 4)) else (gd (inB x3 6) (f_X7_standing_j122 σ9 (σ9.1 35 (x3).toNatClampNeg)))
def f_X7_standing_j29 (σ : Sto) (x1 : Int32) (x2 : Int32) (x3 : Int32) : Option (Sto × Int32) :=
  if x3 = (-1 : Int32) then (f_X7_standing_j49 σ x1 x2 x3) else (bd2 (f_X2_has_1 σ (2 : Int32) x3) fun σ11 v12 => if v12 = 0 then (f_X7_standing_j46 σ11) else (f_X7_standing_j49 σ11 x1 x2 x3))
def f_X7_standing (σ : Sto) (a1 : Int32) (a2 : Int32) (a3 : Int32) : Option (Sto × Int32) :=
  bd2 (f_X2_has_1 σ (1 : Int32) a1) fun σ1 v2 => if v2 = 0 then (f_X7_standing_j46 σ1) else (if a2 = (-1 : Int32) then (f_X7_standing_j29 σ1 a1 a2 a3) else (bd2 (f_X2_has_1 σ1 (3 : Int32) a2) fun σ13 v14 => if v14 = 0 then (f_X7_standing_j46 σ13) else (f_X7_standing_j29 σ13 a1 a2 a3)))
theorem w_f_X7_standing_j46 {G : Wld} {X : Cxt} (C : Cx G X RX7 cX7_standing 4 16) {σ : Sto} {y : Sto × Int32} (h : f_X7_standing_j46 σ = some y) (hK : Rx G X (some .int) (some (.int y.2)) y.1) : V G X 4 σ [(0, .ref (G.1 0))] [] 46 := by
  unfold f_X7_standing_j46 at h
  refine v_ldc 46 C dX7_standing_46 q_493 ?_
  cases h
  exact v_iret 48 C hK dX7_standing_48
theorem w_f_X7_standing_j122 {G : Wld} {X : Cxt} (C : Cx G X RX7 cX7_standing 4 16) {σ : Sto} {s0 : Int32} {y : Sto × Int32} (h : f_X7_standing_j122 σ s0 = some y) (hK : Rx G X (some .int) (some (.int y.2)) y.1) : V G X 4 σ [(0, .ref (G.1 0))] [.int s0] 122 := by
  unfold f_X7_standing_j122 at h
  cases h
  exact v_iret 122 C hK dX7_standing_122
theorem w_f_X7_standing_j49 {G : Wld} {X : Cxt} (C : Cx G X RX7 cX7_standing 4 16) {σ : Sto} {x1 : Int32} {x2 : Int32} {x3 : Int32} {y : Sto × Int32} (h : f_X7_standing_j49 σ x1 x2 x3 = some y) (hK : Rx G X (some .int) (some (.int y.2)) y.1) : V G X 4 σ [(0, .ref (G.1 0)), (1, .int x1), (2, .int x2), (3, .int x3)] [] 49 := by
  unfold f_X7_standing_j49 at h
  refine v_aload_n 49 C 0 0 dX7_standing_49 rfl rfl ?_
  refine g_X7_0_7 50 C dX7_standing_50 ?_
  refine v_aload_n 53 C 0 0 dX7_standing_53 rfl rfl ?_
  refine g_X7_0_2 54 C dX7_standing_54 ?_
  refine v_iconst 57 C (1 : Int32) dX7_standing_57 (by decide) ?_
  refine r_f_X5_dress_28_10 58 C (by decide) q_536 dX7_standing_58 (Nat.le_of_ble_eq_true rfl) h (fun σ3 h => ?_)
  refine v_aload_n 61 C 0 0 dX7_standing_61 rfl rfl ?_
  refine g_X7_0_7 62 C dX7_standing_62 ?_
  refine v_aload_n 65 C 0 0 dX7_standing_65 rfl rfl ?_
  refine g_X7_0_0 66 C dX7_standing_66 ?_
  refine v_iload_n 69 C 1 1 dX7_standing_69 rfl rfl ?_
  refine v_aload_n 70 C 0 0 dX7_standing_70 rfl rfl ?_
  refine g_X7_0_2 71 C dX7_standing_71 ?_
  refine g_X7_10_3 74 C dX7_standing_74 ?_
  refine r_f_X2_longOf_1 77 C (by decide) q_495 dX7_standing_77 (Nat.le_of_ble_eq_true rfl) h (fun σ5 v6 h => ?_)
  refine v_aload_n 80 C 0 0 dX7_standing_80 rfl rfl ?_
  refine g_X7_0_2 81 C dX7_standing_81 ?_
  refine g_X7_10_5 84 C dX7_standing_84 ?_
  refine r_f_X5_light_28 87 C (by decide) q_548 dX7_standing_87 (Nat.le_of_ble_eq_true rfl) h (fun σ7 h => ?_)
  refine v_aload_n 90 C 0 0 dX7_standing_90 rfl rfl ?_
  refine g_X7_0_8 91 C dX7_standing_91 ?_
  refine v_iload_n 94 C 2 2 dX7_standing_94 rfl rfl ?_
  refine r_f_X1_seek_34 95 C (by decide) q_624 dX7_standing_95 (Nat.le_of_ble_eq_true rfl) h (fun σ9 h => ?_)
  refine v_iload_n 98 C 3 3 dX7_standing_98 rfl rfl ?_
  refine v_iconst 99 C (-1 : Int32) dX7_standing_99 (by decide) ?_
  refine v_icmp_ne 100 C 113 dX7_standing_100 (by decide) h (fun h => ?_) (fun h => ?_)
  · refine v_aload_n 113 C 0 0 dX7_standing_113 rfl rfl ?_
    refine g_X7_0_8 114 C dX7_standing_114 ?_
    refine g_X7_34_5 117 C dX7_standing_117 ?_
    refine v_iload_n 120 C 3 3 dX7_standing_120 rfl rfl ?_
    refine v_iald 121 C 35 (by decide) (ce_35 G) dX7_standing_121 h (fun h => ?_)
    exact v_sub [0] rfl (w_f_X7_standing_j122 C h hK)
  · refine v_aload_n 103 C 0 0 dX7_standing_103 rfl rfl ?_
    refine g_X7_0_8 104 C dX7_standing_104 ?_
    refine g_X7_34_4 107 C dX7_standing_107 ?_
    refine v_goto 110 C 122 dX7_standing_110 (by decide) ?_
    exact v_sub [0] rfl (w_f_X7_standing_j122 C h hK)
theorem w_f_X7_standing_j29 {G : Wld} {X : Cxt} (C : Cx G X RX7 cX7_standing 4 16) {σ : Sto} {x1 : Int32} {x2 : Int32} {x3 : Int32} {y : Sto × Int32} (h : f_X7_standing_j29 σ x1 x2 x3 = some y) (hK : Rx G X (some .int) (some (.int y.2)) y.1) : V G X 4 σ [(0, .ref (G.1 0)), (1, .int x1), (2, .int x2), (3, .int x3)] [] 29 := by
  unfold f_X7_standing_j29 at h
  refine v_iload_n 29 C 3 3 dX7_standing_29 rfl rfl ?_
  refine v_iconst 30 C (-1 : Int32) dX7_standing_30 (by decide) ?_
  refine v_icmp_eq 31 C 49 dX7_standing_31 (by decide) h (fun h => ?_) (fun h => ?_)
  · exact v_sub [0, 1, 2, 3] rfl (w_f_X7_standing_j49 C h hK)
  · refine v_aload_n 34 C 0 0 dX7_standing_34 rfl rfl ?_
    refine g_X7_0_0 35 C dX7_standing_35 ?_
    refine v_iconst 38 C (2 : Int32) dX7_standing_38 (by decide) ?_
    refine v_iload_n 39 C 3 3 dX7_standing_39 rfl rfl ?_
    refine r_f_X2_has_1 40 C (by decide) q_489 dX7_standing_40 (Nat.le_of_ble_eq_true rfl) h (fun σ11 v12 h => ?_)
    refine v_if_ne 43 C 49 dX7_standing_43 (by decide) h (fun h => ?_) (fun h => ?_)
    · exact v_sub [0, 1, 2, 3] rfl (w_f_X7_standing_j49 C h hK)
    · exact v_sub [0] rfl (w_f_X7_standing_j46 C h hK)
theorem w_f_X7_standing {G : Wld} {X : Cxt} (C : Cx G X RX7 cX7_standing 4 16) {σ : Sto} {a1 : Int32} {a2 : Int32} {a3 : Int32} {y : Sto × Int32} (h : f_X7_standing σ a1 a2 a3 = some y) (hK : Rx G X (some .int) (some (.int y.2)) y.1) : V G X 4 σ [(0, .ref (G.1 0)), (1, .int a1), (2, .int a2), (3, .int a3)] [] 0 := by
  unfold f_X7_standing at h
  refine v_aload_n 0 C 0 0 dX7_standing_0 rfl rfl ?_
  refine g_X7_0_0 1 C dX7_standing_1 ?_
  refine v_iconst 4 C (1 : Int32) dX7_standing_4 (by decide) ?_
  refine v_iload_n 5 C 1 1 dX7_standing_5 rfl rfl ?_
  refine r_f_X2_has_1 6 C (by decide) q_489 dX7_standing_6 (Nat.le_of_ble_eq_true rfl) h (fun σ1 v2 h => ?_)
  refine v_if_eq 9 C 46 dX7_standing_9 (by decide) h (fun h => ?_) (fun h => ?_)
  · exact v_sub [0] rfl (w_f_X7_standing_j46 C h hK)
  · refine v_iload_n 12 C 2 2 dX7_standing_12 rfl rfl ?_
    refine v_iconst 13 C (-1 : Int32) dX7_standing_13 (by decide) ?_
    refine v_icmp_eq 14 C 29 dX7_standing_14 (by decide) h (fun h => ?_) (fun h => ?_)
    · exact v_sub [0, 1, 2, 3] rfl (w_f_X7_standing_j29 C h hK)
    · refine v_aload_n 17 C 0 0 dX7_standing_17 rfl rfl ?_
      refine g_X7_0_0 18 C dX7_standing_18 ?_
      refine v_iconst 21 C (3 : Int32) dX7_standing_21 (by decide) ?_
      refine v_iload_n 22 C 2 2 dX7_standing_22 rfl rfl ?_
      refine r_f_X2_has_1 23 C (by decide) q_489 dX7_standing_23 (Nat.le_of_ble_eq_true rfl) h (fun σ13 v14 h => ?_)
      refine v_if_eq 26 C 46 dX7_standing_26 (by decide) h (fun h => ?_) (fun h => ?_)
      · exact v_sub [0] rfl (w_f_X7_standing_j46 C h hK)
      · exact v_sub [0, 1, 2, 3] rfl (w_f_X7_standing_j29 C h hK)
theorem c_f_X7_standing (l : Launch) (G : Wld) (hG : GI G) (σ : Sto) (a1 : Int32) (a2 : Int32) (a3 : Int32) (y : Sto × Int32) (h : f_X7_standing σ a1 a2 a3 = some y) : Ct l G yX7_standing cX7_standing 4 (some .int) 16 [.ref (G.1 0), .int a1, .int a2, .int a3] σ (some (.int y.2)) y.1 := by
  refine ct_intro RX7 hG (by decide) rfl (Nat.le_of_ble_eq_true rfl) (fun X hX C hK => ?_)
  subst hX
  exact w_f_X7_standing C h hK
theorem r_f_X7_standing {G : Wld} {X : Cxt} {own : String} {cc : ByteArray} {nL n : Nat} {σ : Sto} {lv : List (Nat × Value)} {st : List Value} {β : Type} {r : β} {F : Sto → Int32 → Option β} {a1 : Int32} {a2 : Int32} {a3 : Int32} {ix : Nat} (pc : Nat) (C : Cx G X own cc nL n) (hn : 16 < n) (h1 : Cond.methodLink own ix yX7_standing ∈ lw_gd) (hd : decode cc pc = .ok (.invokevirtual ix, 3)) (hsum : (st.map fun v => v.category).sum ≤ 8) (h : bd2 (f_X7_standing σ a1 a2 a3) F = some r) (kk : ∀ σ1 v, F σ1 v = some r → V G X nL σ1 lv (.int v :: st) (pc + 3)) : V G X nL σ lv (.int a3 :: .int a2 :: .int a1 :: .ref (G.1 0) :: st) pc := by
  obtain ⟨z, hz, h⟩ := bd2_some h
  exact v_callV pc C 0 3 [.int a1, .int a2, .int a3] st (c_f_X7_standing (xl X) G C.2.2.2.2.2.2.1 _ _ _ _ _ hz) hn (by decide) (by decide) (ce_0 G _ _) rfl (by decide +kernel) rfl h1 q_621 q_622 q_59 q_623 rfl hsum hd (kk _ _ h)
-- f_X0_weigh_36
def f_X0_weigh_36_j54 (σ : Sto) : Option (Sto) :=
  some σ
def f_X0_weigh_36_j30 (σ : Sto) (x1 : Int32) : Option (Sto) :=
  bs (su σ 36 3 (1 : Int32)) fun σ6 => bs (su σ6 36 4 x1) fun σ7 => gd (decide (0 ≤ ((0 : Int32)).toInt ∧ 0 ≤ ((0 : Int32)).toInt ∧ 0 ≤ ((4 : Int32)).toInt ∧ ((0 : Int32)).toInt + ((4 : Int32)).toInt ≤ 4 ∧ ((0 : Int32)).toInt + ((4 : Int32)).toInt ≤ 4)) (bs (sc σ7 38 (va_cpy (σ7.1 37) (σ7.1 38) ((0 : Int32)).toNatClampNeg ((0 : Int32)).toNatClampNeg ((4 : Int32)).toNatClampNeg)) fun σ8 => f_X0_weigh_36_j54 σ8)
def f_X0_weigh_36 (σ : Sto) : Option (Sto) :=
  bd1 (f_X5_cast_28 σ) fun σ1 => bd2 (f_X5_sumOfAlms_28 σ1) fun σ3 v4 => bs v4 fun z5 => if (σ3.1 36 3) = 0 then (f_X0_weigh_36_j30 σ3 z5) else (if z5 ≤ (σ3.1 36 4) then (f_X0_weigh_36_j54 σ3) else (f_X0_weigh_36_j30 σ3 z5))
theorem w_f_X0_weigh_36_j54 {G : Wld} {X : Cxt} (C : Cx G X RX0 cX0_weigh 2 5) {σ : Sto} {y : Sto} (h : f_X0_weigh_36_j54 σ = some y) (hK : Rx G X none none y) : V G X 2 σ [(0, .ref (G.1 36))] [] 54 := by
  unfold f_X0_weigh_36_j54 at h
  cases h
  exact v_vret 54 C hK dX0_weigh_54
theorem w_f_X0_weigh_36_j30 {G : Wld} {X : Cxt} (C : Cx G X RX0 cX0_weigh 2 5) {σ : Sto} {x1 : Int32} {y : Sto} (h : f_X0_weigh_36_j30 σ x1 = some y) (hK : Rx G X none none y) : V G X 2 σ [(0, .ref (G.1 36)), (1, .int x1)] [] 30 := by
  unfold f_X0_weigh_36_j30 at h
  refine v_aload_n 30 C 0 0 dX0_weigh_30 rfl rfl ?_
  refine v_iconst 31 C (1 : Int32) dX0_weigh_31 (by decide) ?_
  refine p_X0_36_3 32 C (by decide) dX0_weigh_32 h (fun σ6 h => ?_)
  refine v_aload_n 35 C 0 0 dX0_weigh_35 rfl rfl ?_
  refine v_iload_n 36 C 1 1 dX0_weigh_36 rfl rfl ?_
  refine p_X0_36_4 37 C dX0_weigh_37 h (fun σ7 h => ?_)
  refine v_aload_n 40 C 0 0 dX0_weigh_40 rfl rfl ?_
  refine g_X0_36_2 41 C dX0_weigh_41 ?_
  refine v_iconst 44 C (0 : Int32) dX0_weigh_44 (by decide) ?_
  refine v_aload_n 45 C 0 0 dX0_weigh_45 rfl rfl ?_
  refine g_X0_36_5 46 C dX0_weigh_46 ?_
  refine v_iconst 49 C (0 : Int32) dX0_weigh_49 (by decide) ?_
  refine v_iconst 50 C (4 : Int32) dX0_weigh_50 (by decide) ?_
  refine b_copy 51 C 37 38 (by decide) (by decide) (ce_37 G) (ce_38 G) q_664 q_458 q_457 q_73 (Nat.le_of_ble_eq_true rfl) (by decide) dX0_weigh_51 h (fun σ8 h => ?_)
  exact v_sub [0] rfl (w_f_X0_weigh_36_j54 C h hK)
theorem w_f_X0_weigh_36 {G : Wld} {X : Cxt} (C : Cx G X RX0 cX0_weigh 2 5) {σ : Sto} {y : Sto} (h : f_X0_weigh_36 σ = some y) (hK : Rx G X none none y) : V G X 2 σ [(0, .ref (G.1 36))] [] 0 := by
  unfold f_X0_weigh_36 at h
  refine v_aload_n 0 C 0 0 dX0_weigh_0 rfl rfl ?_
  refine g_X0_36_1 1 C dX0_weigh_1 ?_
  refine r_f_X5_cast_28 4 C (by decide) q_662 dX0_weigh_4 (Nat.le_of_ble_eq_true rfl) h (fun σ1 h => ?_)
  refine v_aload_n 7 C 0 0 dX0_weigh_7 rfl rfl ?_
  refine g_X0_36_1 8 C dX0_weigh_8 ?_
  refine r_f_X5_sumOfAlms_28 11 C (by decide) q_663 dX0_weigh_11 (Nat.le_of_ble_eq_true rfl) h (fun σ3 v4 h => ?_)
  refine b_istore_n 14 C 1 (lv2 := fun z5 => [(1, .int z5), (0, .ref (G.1 36))]) dX0_weigh_14 rfl (by decide) (fun _ => rfl) h (fun z5 h => ?_)
  refine v_aload_n 15 C 0 1 dX0_weigh_15 rfl rfl ?_
  refine g_X0_36_3 16 C dX0_weigh_16 ?_
  refine v_if_eq 19 C 30 dX0_weigh_19 (by decide) h (fun h => ?_) (fun h => ?_)
  · exact v_sub [1, 0] rfl (w_f_X0_weigh_36_j30 C h hK)
  · refine v_iload_n 22 C 1 0 dX0_weigh_22 rfl rfl ?_
    refine v_aload_n 23 C 0 1 dX0_weigh_23 rfl rfl ?_
    refine g_X0_36_4 24 C dX0_weigh_24 ?_
    refine v_icmp_le 27 C 54 dX0_weigh_27 (by decide) h (fun h => ?_) (fun h => ?_)
    · exact v_sub [1] rfl (w_f_X0_weigh_36_j54 C h hK)
    · exact v_sub [1, 0] rfl (w_f_X0_weigh_36_j30 C h hK)
theorem c_f_X0_weigh_36 (l : Launch) (G : Wld) (hG : GI G) (σ : Sto) (y : Sto) (h : f_X0_weigh_36 σ = some y) : Ct l G yX0_weigh cX0_weigh 2 none 5 [.ref (G.1 36)] σ none y := by
  refine ct_intro RX0 hG (by decide) rfl (Nat.le_of_ble_eq_true rfl) (fun X hX C hK => ?_)
  subst hX
  exact w_f_X0_weigh_36 C h hK
theorem r_f_X0_weigh_36 {G : Wld} {X : Cxt} {own : String} {cc : ByteArray} {nL n : Nat} {σ : Sto} {lv : List (Nat × Value)} {st : List Value} {β : Type} {r : β} {F : Sto → Option β} {ix : Nat} (pc : Nat) (C : Cx G X own cc nL n) (hn : 5 < n) (h1 : Cond.methodLink own ix yX0_weigh ∈ lw_gd) (hd : decode cc pc = .ok (.invokevirtual ix, 3)) (hsum : (st.map fun v => v.category).sum ≤ 8) (h : bd1 (f_X0_weigh_36 σ) F = some r) (kk : ∀ σ1, F σ1 = some r → V G X nL σ1 lv (st) (pc + 3)) : V G X nL σ lv (.ref (G.1 36) :: st) pc := by
  obtain ⟨z, hz, h⟩ := bd1_some h
  exact v_callV pc C 36 0 [] st (c_f_X0_weigh_36 (xl X) G C.2.2.2.2.2.2.1 _ _ hz) hn (by decide) (by decide) (ce_36 G _ _) rfl (by decide +kernel) rfl h1 q_660 q_19 q_67 q_661 rfl hsum hd (kk _ h)
-- f_X5_takeHat_28
def f_X5_takeHat_28 (σ : Sto) (a1 : Int32) (a2 : Int32) : Option (Sto) :=
  gd (inB a2 7) (bd2 (f_X2_number_1 σ (4 : Int32) a1 (0 : Int32)) fun σ1 v2 => gd (inB a2 7) (bs (su σ1 29 (a2).toNatClampNeg ((σ.1 29 (a2).toNatClampNeg) - v2)) fun σ3 => gd (inB a2 7) (bd2 (f_X2_number_1 σ3 (4 : Int32) a1 (1 : Int32)) fun σ4 v5 => gd (inB a2 7) (bs (su σ4 30 (a2).toNatClampNeg ((σ3.1 30 (a2).toNatClampNeg) - v5)) fun σ6 => some σ6))))
theorem w_f_X5_takeHat_28 {G : Wld} {X : Cxt} (C : Cx G X RX5 cX5_takeHat 3 2) {σ : Sto} {a1 : Int32} {a2 : Int32} {y : Sto} (h : f_X5_takeHat_28 σ a1 a2 = some y) (hK : Rx G X none none y) : V G X 3 σ [(0, .ref (G.1 28)), (1, .int a1), (2, .int a2)] [] 0 := by
  unfold f_X5_takeHat_28 at h
  refine v_aload_n 0 C 0 0 dX5_takeHat_0 rfl rfl ?_
  refine g_X5_28_4 1 C dX5_takeHat_1 ?_
  refine v_iload_n 4 C 2 2 dX5_takeHat_4 rfl rfl ?_
  refine v_dup2 5 C dX5_takeHat_5 rfl rfl ?_
  refine v_iald 6 C 29 (by decide) (ce_29 G) dX5_takeHat_6 h (fun h => ?_)
  refine v_aload_n 7 C 0 0 dX5_takeHat_7 rfl rfl ?_
  refine g_X5_28_0 8 C dX5_takeHat_8 ?_
  refine v_iconst 11 C (4 : Int32) dX5_takeHat_11 (by decide) ?_
  refine v_iload_n 12 C 1 1 dX5_takeHat_12 rfl rfl ?_
  refine v_iconst 13 C (0 : Int32) dX5_takeHat_13 (by decide) ?_
  refine r_f_X2_number_1 14 C (by decide) q_542 dX5_takeHat_14 (Nat.le_of_ble_eq_true rfl) h (fun σ1 v2 h => ?_)
  refine v_isub 17 C dX5_takeHat_17 ?_
  refine b_iast 18 C 29 (by decide) (ce_29 G) dX5_takeHat_18 h (fun σ3 h => ?_)
  refine v_aload_n 19 C 0 0 dX5_takeHat_19 rfl rfl ?_
  refine g_X5_28_5 20 C dX5_takeHat_20 ?_
  refine v_iload_n 23 C 2 2 dX5_takeHat_23 rfl rfl ?_
  refine v_dup2 24 C dX5_takeHat_24 rfl rfl ?_
  refine v_iald 25 C 30 (by decide) (ce_30 G) dX5_takeHat_25 h (fun h => ?_)
  refine v_aload_n 26 C 0 0 dX5_takeHat_26 rfl rfl ?_
  refine g_X5_28_0 27 C dX5_takeHat_27 ?_
  refine v_iconst 30 C (4 : Int32) dX5_takeHat_30 (by decide) ?_
  refine v_iload_n 31 C 1 1 dX5_takeHat_31 rfl rfl ?_
  refine v_iconst 32 C (1 : Int32) dX5_takeHat_32 (by decide) ?_
  refine r_f_X2_number_1 33 C (by decide) q_542 dX5_takeHat_33 (Nat.le_of_ble_eq_true rfl) h (fun σ4 v5 h => ?_)
  refine v_isub 36 C dX5_takeHat_36 ?_
  refine b_iast 37 C 30 (by decide) (ce_30 G) dX5_takeHat_37 h (fun σ6 h => ?_)
  cases h
  exact v_vret 38 C hK dX5_takeHat_38
theorem c_f_X5_takeHat_28 (l : Launch) (G : Wld) (hG : GI G) (σ : Sto) (a1 : Int32) (a2 : Int32) (y : Sto) (h : f_X5_takeHat_28 σ a1 a2 = some y) : Ct l G yX5_takeHat cX5_takeHat 3 none 2 [.ref (G.1 28), .int a1, .int a2] σ none y := by
  refine ct_intro RX5 hG (by decide) rfl (Nat.le_of_ble_eq_true rfl) (fun X hX C hK => ?_)
  subst hX
  exact w_f_X5_takeHat_28 C h hK
theorem r_f_X5_takeHat_28 {G : Wld} {X : Cxt} {own : String} {cc : ByteArray} {nL n : Nat} {σ : Sto} {lv : List (Nat × Value)} {st : List Value} {β : Type} {r : β} {F : Sto → Option β} {a1 : Int32} {a2 : Int32} {ix : Nat} (pc : Nat) (C : Cx G X own cc nL n) (hn : 2 < n) (h1 : Cond.methodLink own ix yX5_takeHat ∈ lw_gd) (hd : decode cc pc = .ok (.invokevirtual ix, 3)) (hsum : (st.map fun v => v.category).sum ≤ 8) (h : bd1 (f_X5_takeHat_28 σ a1 a2) F = some r) (kk : ∀ σ1, F σ1 = some r → V G X nL σ1 lv (st) (pc + 3)) : V G X nL σ lv (.int a2 :: .int a1 :: .ref (G.1 28) :: st) pc := by
  obtain ⟨z, hz, h⟩ := bd1_some h
  exact v_callV pc C 28 2 [.int a1, .int a2] st (c_f_X5_takeHat_28 (xl X) G C.2.2.2.2.2.2.1 _ _ _ _ hz) hn (by decide) (by decide) (ce_28 G _ _) rfl (by decide +kernel) rfl h1 q_667 q_668 q_65 q_669 rfl hsum hd (kk _ h)
-- f_X0_handOut_36
def f_X0_handOut_36_j17 (rec : Sto → Int32 → Int32 → Option (Sto)) (σ : Sto) : Option (Sto) :=
  bd1 (f_X0_weigh_36 σ) fun σ3 => some σ3
def f_X0_handOut_36_j99 (rec : Sto → Int32 → Int32 → Option (Sto)) (σ : Sto) (x1 : Int32) (x2 : Int32) (x3 : Int32) : Option ((Sto × Int32) ⊕ (Sto × Int32)) :=
  bs (x3 + (1 : Int32)) fun z11 => some (.inl (σ, z11))
def f_X0_handOut_36_l39 (rec : Sto → Int32 → Int32 → Option (Sto)) (x1 : Int32) (x2 : Int32) (σ : Sto) (x3 : Int32) : Option ((Sto × Int32) ⊕ (Sto × Int32)) :=
  bd2 (f_X2_count_1 σ (3 : Int32)) fun σ9 v10 => if v10 ≤ x3 then (some (.inr (σ9, x3))) else (if ((x2 >>> (x3 &&& 31)) &&& (1 : Int32)) = (1 : Int32) then (gd (inB x1 4) (bs (su σ9 37 (x1).toNatClampNeg x3) fun σ12 => bd1 (f_X5_putHat_28 σ12 x1 x3) fun σ13 => bd1 (rec σ13 (x1 + (1 : Int32)) (x2 &&& (((1 : Int32) <<< (x3 &&& 31)) ^^^ (-1 : Int32)))) fun σ15 => bd1 (f_X5_takeHat_28 σ15 x1 x3) fun σ17 => f_X0_handOut_36_j99 rec σ17 x1 x2 x3)) else (f_X0_handOut_36_j99 rec σ9 x1 x2 x3))
def f_X0_handOut_36_b (rec : Sto → Int32 → Int32 → Option (Sto)) (σ : Sto) (a1 : Int32) (a2 : Int32) : Option (Sto) :=
  bd2 (f_X2_count_1 σ (4 : Int32)) fun σ1 v2 => if v2 ≤ a1 then (f_X0_handOut_36_j17 rec σ1) else (if a1 < (4 : Int32) then (gd (inB a1 4) (bs (su σ1 37 (a1).toNatClampNeg (-1 : Int32)) fun σ5 => bd1 (rec σ5 (a1 + (1 : Int32)) a2) fun σ6 => bs (0 : Int32) fun z8 => bE1 (lpF (fun t => f_X0_handOut_36_l39 rec a1 a2 t.1 t.2) FU (σ6, z8)) (fun σ19 z20 => some σ19))) else (f_X0_handOut_36_j17 rec σ1))
def f_X0_handOut_36 : Nat → Sto → Int32 → Int32 → Option (Sto)
  | 0 => fun _ _ _ => none
  | d + 1 => f_X0_handOut_36_b (f_X0_handOut_36 d)
theorem rr_f_X0_handOut_36 {G : Wld} {X : Cxt} {rec : Sto → Int32 → Int32 → Option (Sto)} {lr : Nat} {own : String} {cc : ByteArray} {nL n : Nat} {σ : Sto} {lv : List (Nat × Value)} {st : List Value} {β : Type} {r : β} {F : Sto → Option β} {a1 : Int32} {a2 : Int32} {ix : Nat} (pc : Nat) (C : Cx G X own cc nL n) (hrec : ∀ (σ : Sto) (a1 : Int32) (a2 : Int32) (y : Sto), rec σ a1 a2 = some y → Ct (xl X) G yX0_handOut cX0_handOut 4 none lr [.ref (G.1 36), .int a1, .int a2] σ none y) (hn : lr < n) (h1 : Cond.methodLink own ix yX0_handOut ∈ lw_gd) (hd : decode cc pc = .ok (.invokevirtual ix, 3)) (hsum : (st.map fun v => v.category).sum ≤ 8) (h : bd1 (rec σ a1 a2) F = some r) (kk : ∀ σ1, F σ1 = some r → V G X nL σ1 lv st (pc + 3)) : V G X nL σ lv (.int a2 :: .int a1 :: .ref (G.1 36) :: st) pc := by
  obtain ⟨z, hz, h⟩ := bd1_some h
  exact v_callV pc C 36 2 [.int a1, .int a2] st (hrec _ _ _ _ hz) hn (by decide) (by decide) (ce_36 G _ _) rfl (by decide +kernel) rfl h1 q_656 q_18 q_67 q_657 rfl hsum hd (kk _ h)
theorem w_f_X0_handOut_36_j17 {G : Wld} {X : Cxt} {rec : Sto → Int32 → Int32 → Option (Sto)} {lr : Nat} (C : Cx G X RX0 cX0_handOut 4 (lr + 1)) (hlr : 6 ≤ lr) (hrec : ∀ (σ : Sto) (a1 : Int32) (a2 : Int32) (y : Sto), rec σ a1 a2 = some y → Ct (xl X) G yX0_handOut cX0_handOut 4 none lr [.ref (G.1 36), .int a1, .int a2] σ none y) {σ : Sto} {y : Sto} (h : f_X0_handOut_36_j17 rec σ = some y) (hK : Rx G X none none y) : V G X 4 σ [(0, .ref (G.1 36))] [] 17 := by
  unfold f_X0_handOut_36_j17 at h
  refine v_aload_n 17 C 0 0 dX0_handOut_17 rfl rfl ?_
  refine r_f_X0_weigh_36 18 C (by omega) q_658 dX0_handOut_18 (Nat.le_of_ble_eq_true rfl) h (fun σ3 h => ?_)
  cases h
  exact v_vret 21 C hK dX0_handOut_21
theorem w_f_X0_handOut_36_j99 {G : Wld} {X : Cxt} {rec : Sto → Int32 → Int32 → Option (Sto)} {lr : Nat} (C : Cx G X RX0 cX0_handOut 4 (lr + 1)) (hlr : 6 ≤ lr) (hrec : ∀ (σ : Sto) (a1 : Int32) (a2 : Int32) (y : Sto), rec σ a1 a2 = some y → Ct (xl X) G yX0_handOut cX0_handOut 4 none lr [.ref (G.1 36), .int a1, .int a2] σ none y) {σ : Sto} {x1 : Int32} {x2 : Int32} {x3 : Int32} {y : (Sto × Int32) ⊕ (Sto × Int32)} (h : f_X0_handOut_36_j99 rec σ x1 x2 x3 = some y) (hc : ∀ t : Sto × Int32, y = .inl t → V G X 4 t.1 [(0, .ref (G.1 36)), (1, .int x1), (2, .int x2), (3, .int t.2)] [] 39) {Ve : Sto × Int32 → Prop} (he : ∀ e, y = .inr e → Ve e) (hx : ∀ (σ : Sto) (x3 : Int32), Ve (σ, x3) → V G X 4 σ [(0, .ref (G.1 36)), (1, .int x1), (2, .int x2), (3, .int x3)] [] 105) : V G X 4 σ [(0, .ref (G.1 36)), (1, .int x1), (2, .int x2), (3, .int x3)] [] 99 := by
  unfold f_X0_handOut_36_j99 at h
  refine b_iinc 99 C 3 3 (1 : Int32) (lv2 := fun z11 => [(3, .int z11), (0, .ref (G.1 36)), (1, .int x1), (2, .int x2)]) dX0_handOut_99 rfl (by decide) (by decide) (fun _ => rfl) h (fun z11 h => ?_)
  refine v_goto 102 C 39 dX0_handOut_102 (by decide) ?_
  exact v_sub [1, 2, 3, 0] rfl (hc _ (Option.some.inj h).symm)
theorem w_f_X0_handOut_36_l39 {G : Wld} {X : Cxt} {rec : Sto → Int32 → Int32 → Option (Sto)} {lr : Nat} (C : Cx G X RX0 cX0_handOut 4 (lr + 1)) (hlr : 6 ≤ lr) (hrec : ∀ (σ : Sto) (a1 : Int32) (a2 : Int32) (y : Sto), rec σ a1 a2 = some y → Ct (xl X) G yX0_handOut cX0_handOut 4 none lr [.ref (G.1 36), .int a1, .int a2] σ none y) {x1 : Int32} {x2 : Int32} {σ : Sto} {x3 : Int32} {y : (Sto × Int32) ⊕ (Sto × Int32)} (h : f_X0_handOut_36_l39 rec x1 x2 σ x3 = some y) (hc : ∀ t : Sto × Int32, y = .inl t → V G X 4 t.1 [(0, .ref (G.1 36)), (1, .int x1), (2, .int x2), (3, .int t.2)] [] 39) {Ve : Sto × Int32 → Prop} (he : ∀ e, y = .inr e → Ve e) (hx : ∀ (σ : Sto) (x3 : Int32), Ve (σ, x3) → V G X 4 σ [(0, .ref (G.1 36)), (1, .int x1), (2, .int x2), (3, .int x3)] [] 105) : V G X 4 σ [(0, .ref (G.1 36)), (1, .int x1), (2, .int x2), (3, .int x3)] [] 39 := by
  unfold f_X0_handOut_36_l39 at h
  refine v_iload_n 39 C 3 3 dX0_handOut_39 rfl rfl ?_
  refine v_aload_n 40 C 0 0 dX0_handOut_40 rfl rfl ?_
  refine g_X0_36_0 41 C dX0_handOut_41 ?_
  refine v_iconst 44 C (3 : Int32) dX0_handOut_44 (by decide) ?_
  refine r_f_X2_count_1 45 C (by omega) q_653 dX0_handOut_45 (Nat.le_of_ble_eq_true rfl) h (fun σ9 v10 h => ?_)
  refine v_icmp_ge 48 C 105 dX0_handOut_48 (by decide) h (fun h => ?_) (fun h => ?_)
  · exact v_sub [0, 1, 2, 3] rfl (hx _ _ (he _ (Option.some.inj h).symm))
  · refine v_iload_n 51 C 2 2 dX0_handOut_51 rfl rfl ?_
    refine v_iload_n 52 C 3 3 dX0_handOut_52 rfl rfl ?_
    refine v_ishr 53 C dX0_handOut_53 ?_
    refine v_iconst 54 C (1 : Int32) dX0_handOut_54 (by decide) ?_
    refine v_iand 55 C dX0_handOut_55 ?_
    refine v_iconst 56 C (1 : Int32) dX0_handOut_56 (by decide) ?_
    refine v_icmp_ne 57 C 99 dX0_handOut_57 (by decide) h (fun h => ?_) (fun h => ?_)
    · exact v_sub [0, 1, 2, 3] rfl (w_f_X0_handOut_36_j99 C hlr hrec h hc he hx)
    · refine v_aload_n 60 C 0 0 dX0_handOut_60 rfl rfl ?_
      refine g_X0_36_2 61 C dX0_handOut_61 ?_
      refine v_iload_n 64 C 1 1 dX0_handOut_64 rfl rfl ?_
      refine v_iload_n 65 C 3 3 dX0_handOut_65 rfl rfl ?_
      refine b_iast 66 C 37 (by decide) (ce_37 G) dX0_handOut_66 h (fun σ12 h => ?_)
      refine v_aload_n 67 C 0 0 dX0_handOut_67 rfl rfl ?_
      refine g_X0_36_1 68 C dX0_handOut_68 ?_
      refine v_iload_n 71 C 1 1 dX0_handOut_71 rfl rfl ?_
      refine v_iload_n 72 C 3 3 dX0_handOut_72 rfl rfl ?_
      refine r_f_X5_putHat_28 73 C (by omega) q_665 dX0_handOut_73 (Nat.le_of_ble_eq_true rfl) h (fun σ13 h => ?_)
      refine v_aload_n 76 C 0 0 dX0_handOut_76 rfl rfl ?_
      refine v_iload_n 77 C 1 1 dX0_handOut_77 rfl rfl ?_
      refine v_iconst 78 C (1 : Int32) dX0_handOut_78 (by decide) ?_
      refine v_iadd 79 C dX0_handOut_79 ?_
      refine v_iload_n 80 C 2 2 dX0_handOut_80 rfl rfl ?_
      refine v_iconst 81 C (1 : Int32) dX0_handOut_81 (by decide) ?_
      refine v_iload_n 82 C 3 3 dX0_handOut_82 rfl rfl ?_
      refine v_ishl 83 C dX0_handOut_83 ?_
      refine v_iconst 84 C (-1 : Int32) dX0_handOut_84 (by decide) ?_
      refine v_ixor 85 C dX0_handOut_85 ?_
      refine v_iand 86 C dX0_handOut_86 ?_
      refine rr_f_X0_handOut_36 87 C hrec (by omega) q_654 dX0_handOut_87 (Nat.le_of_ble_eq_true rfl) h (fun σ15 h => ?_)
      refine v_aload_n 90 C 0 0 dX0_handOut_90 rfl rfl ?_
      refine g_X0_36_1 91 C dX0_handOut_91 ?_
      refine v_iload_n 94 C 1 1 dX0_handOut_94 rfl rfl ?_
      refine v_iload_n 95 C 3 3 dX0_handOut_95 rfl rfl ?_
      refine r_f_X5_takeHat_28 96 C (by omega) q_666 dX0_handOut_96 (Nat.le_of_ble_eq_true rfl) h (fun σ17 h => ?_)
      exact v_sub [0, 1, 2, 3] rfl (w_f_X0_handOut_36_j99 C hlr hrec h hc he hx)
theorem w_f_X0_handOut_36_b {G : Wld} {X : Cxt} {rec : Sto → Int32 → Int32 → Option (Sto)} {lr : Nat} (C : Cx G X RX0 cX0_handOut 4 (lr + 1)) (hlr : 6 ≤ lr) (hrec : ∀ (σ : Sto) (a1 : Int32) (a2 : Int32) (y : Sto), rec σ a1 a2 = some y → Ct (xl X) G yX0_handOut cX0_handOut 4 none lr [.ref (G.1 36), .int a1, .int a2] σ none y) {σ : Sto} {a1 : Int32} {a2 : Int32} {y : Sto} (h : f_X0_handOut_36_b rec σ a1 a2 = some y) (hK : Rx G X none none y) : V G X 4 σ [(0, .ref (G.1 36)), (1, .int a1), (2, .int a2)] [] 0 := by
  unfold f_X0_handOut_36_b at h
  refine v_iload_n 0 C 1 1 dX0_handOut_0 rfl rfl ?_
  refine v_aload_n 1 C 0 0 dX0_handOut_1 rfl rfl ?_
  refine g_X0_36_0 2 C dX0_handOut_2 ?_
  refine v_iconst 5 C (4 : Int32) dX0_handOut_5 (by decide) ?_
  refine r_f_X2_count_1 6 C (by omega) q_653 dX0_handOut_6 (Nat.le_of_ble_eq_true rfl) h (fun σ1 v2 h => ?_)
  refine v_icmp_ge 9 C 17 dX0_handOut_9 (by decide) h (fun h => ?_) (fun h => ?_)
  · exact v_sub [0] rfl (w_f_X0_handOut_36_j17 C hlr hrec h hK)
  · refine v_iload_n 12 C 1 1 dX0_handOut_12 rfl rfl ?_
    refine v_iconst 13 C (4 : Int32) dX0_handOut_13 (by decide) ?_
    refine v_icmp_lt 14 C 22 dX0_handOut_14 (by decide) h (fun h => ?_) (fun h => ?_)
    · refine v_aload_n 22 C 0 0 dX0_handOut_22 rfl rfl ?_
      refine g_X0_36_2 23 C dX0_handOut_23 ?_
      refine v_iload_n 26 C 1 1 dX0_handOut_26 rfl rfl ?_
      refine v_iconst 27 C (-1 : Int32) dX0_handOut_27 (by decide) ?_
      refine b_iast 28 C 37 (by decide) (ce_37 G) dX0_handOut_28 h (fun σ5 h => ?_)
      refine v_aload_n 29 C 0 0 dX0_handOut_29 rfl rfl ?_
      refine v_iload_n 30 C 1 1 dX0_handOut_30 rfl rfl ?_
      refine v_iconst 31 C (1 : Int32) dX0_handOut_31 (by decide) ?_
      refine v_iadd 32 C dX0_handOut_32 ?_
      refine v_iload_n 33 C 2 2 dX0_handOut_33 rfl rfl ?_
      refine rr_f_X0_handOut_36 34 C hrec (by omega) q_654 dX0_handOut_34 (Nat.le_of_ble_eq_true rfl) h (fun σ6 h => ?_)
      refine v_iconst 37 C (0 : Int32) dX0_handOut_37 (by decide) ?_
      refine b_istore_n 38 C 3 (lv2 := fun z8 => [(3, .int z8), (0, .ref (G.1 36)), (1, .int a1), (2, .int a2)]) dX0_handOut_38 rfl (by decide) (fun _ => rfl) h (fun z8 h => ?_)
      refine v_sub [1, 2, 3, 0] rfl ?_
      refine lp_go (Vh := fun t => V G X 4 t.1 [(0, .ref (G.1 36)), (1, .int a1), (2, .int a2), (3, .int t.2)] [] 39) h ?_
      intro t21 y21 hy21 hc21 he21
      refine w_f_X0_handOut_36_l39 C hlr hrec hy21 hc21 he21 (fun σ19 z20 h => ?_)
      dsimp only at h
      cases h
      exact v_vret 105 C hK dX0_handOut_105
    · exact v_sub [0] rfl (w_f_X0_handOut_36_j17 C hlr hrec h hK)
theorem c_f_X0_handOut_36 (l : Launch) (G : Wld) (hG : GI G) : ∀ (d : Nat) (σ : Sto) (a1 : Int32) (a2 : Int32) (y : Sto), f_X0_handOut_36 d σ a1 a2 = some y → Ct l G yX0_handOut cX0_handOut 4 none (6 + d) [.ref (G.1 36), .int a1, .int a2] σ none y := by
  intro d
  induction d with
  | zero =>
    intro σ a1 a2 y h
    cases h
  | succ d ih =>
    intro σ a1 a2 y h
    refine ct_intro RX0 hG (by decide) rfl (Nat.le_of_ble_eq_true rfl) (fun X hX C hK => ?_)
    subst hX
    exact w_f_X0_handOut_36_b (rec := f_X0_handOut_36 d) (lr := 6 + d) C (by omega) ih h hK
theorem r_f_X0_handOut_36 {G : Wld} {X : Cxt} {own : String} {cc : ByteArray} {nL n : Nat} {σ : Sto} {lv : List (Nat × Value)} {st : List Value} {β : Type} {r : β} {F : Sto → Option β} {a1 : Int32} {a2 : Int32} {ix : Nat} (pc : Nat) (d : Nat) (C : Cx G X own cc nL n) (hn : (6 + d) < n) (h1 : Cond.methodLink own ix yX0_handOut ∈ lw_gd) (hd : decode cc pc = .ok (.invokevirtual ix, 3)) (hsum : (st.map fun v => v.category).sum ≤ 8) (h : bd1 (f_X0_handOut_36 d σ a1 a2) F = some r) (kk : ∀ σ1, F σ1 = some r → V G X nL σ1 lv (st) (pc + 3)) : V G X nL σ lv (.int a2 :: .int a1 :: .ref (G.1 36) :: st) pc := by
  obtain ⟨z, hz, h⟩ := bd1_some h
  exact v_callV pc C 36 2 [.int a1, .int a2] st (c_f_X0_handOut_36 (xl X) G C.2.2.2.2.2.2.1 d _ _ _ _ hz) hn (by decide) (by decide) (ce_36 G _ _) rfl (by decide +kernel) rfl h1 q_656 q_18 q_67 q_657 rfl hsum hd (kk _ h)
-- f_X0_seek_36
def f_X0_seek_36_j48 (σ : Sto) (x1 : Int32) (x2 : Int32) : Option ((Sto × Int32 × Int32) ⊕ (Sto × Int32 × Int32)) :=
  bs (x2 + (1 : Int32)) fun z6 => some (.inl (σ, x1, z6))
def f_X0_seek_36_l9 (σ : Sto) (x1 : Int32) (x2 : Int32) : Option ((Sto × Int32 × Int32) ⊕ (Sto × Int32 × Int32)) :=
  bd2 (f_X2_count_1 σ (2 : Int32)) fun σ4 v5 => if v5 ≤ x2 then (some (.inr (σ4, x1, x2))) else (gd (inB x2 6) (if (σ4.1 33 (x2).toNatClampNeg) = (-1 : Int32) then (f_X0_seek_36_j48 σ4 x1 x2) else (gd (inB x2 6) (bs (x1 ||| ((1 : Int32) <<< ((σ4.1 33 (x2).toNatClampNeg) &&& 31))) fun z7 => f_X0_seek_36_j48 σ4 z7 x2))))
def f_X0_seek_36 (σ : Sto) : Option (Sto) :=
  bs (su σ 36 3 (0 : Int32)) fun σ1 => bs (0 : Int32) fun z2 => bs (0 : Int32) fun z3 => bE2 (lpF (fun t => f_X0_seek_36_l9 t.1 t.2.1 t.2.2) FU (σ1, z2, z3)) (fun σ8 z9 z10 => bd1 (f_X0_handOut_36 8 σ8 (0 : Int32) z9) fun σ12 => some σ12)
theorem w_f_X0_seek_36_j48 {G : Wld} {X : Cxt} (C : Cx G X RX0 cX0_seek 3 15) {σ : Sto} {x1 : Int32} {x2 : Int32} {y : (Sto × Int32 × Int32) ⊕ (Sto × Int32 × Int32)} (h : f_X0_seek_36_j48 σ x1 x2 = some y) (hc : ∀ t : Sto × Int32 × Int32, y = .inl t → V G X 3 t.1 [(0, .ref (G.1 36)), (1, .int t.2.1), (2, .int t.2.2)] [] 9) {Ve : Sto × Int32 × Int32 → Prop} (he : ∀ e, y = .inr e → Ve e) (hx : ∀ (σ : Sto) (x1 : Int32) (x2 : Int32), Ve (σ, x1, x2) → V G X 3 σ [(0, .ref (G.1 36)), (1, .int x1), (2, .int x2)] [] 54) : V G X 3 σ [(0, .ref (G.1 36)), (1, .int x1), (2, .int x2)] [] 48 := by
  unfold f_X0_seek_36_j48 at h
  refine b_iinc 48 C 2 2 (1 : Int32) (lv2 := fun z6 => [(2, .int z6), (0, .ref (G.1 36)), (1, .int x1)]) dX0_seek_48 rfl (by decide) (by decide) (fun _ => rfl) h (fun z6 h => ?_)
  refine v_goto 51 C 9 dX0_seek_51 (by decide) ?_
  exact v_sub [1, 2, 0] rfl (hc _ (Option.some.inj h).symm)
theorem w_f_X0_seek_36_l9 {G : Wld} {X : Cxt} (C : Cx G X RX0 cX0_seek 3 15) {σ : Sto} {x1 : Int32} {x2 : Int32} {y : (Sto × Int32 × Int32) ⊕ (Sto × Int32 × Int32)} (h : f_X0_seek_36_l9 σ x1 x2 = some y) (hc : ∀ t : Sto × Int32 × Int32, y = .inl t → V G X 3 t.1 [(0, .ref (G.1 36)), (1, .int t.2.1), (2, .int t.2.2)] [] 9) {Ve : Sto × Int32 × Int32 → Prop} (he : ∀ e, y = .inr e → Ve e) (hx : ∀ (σ : Sto) (x1 : Int32) (x2 : Int32), Ve (σ, x1, x2) → V G X 3 σ [(0, .ref (G.1 36)), (1, .int x1), (2, .int x2)] [] 54) : V G X 3 σ [(0, .ref (G.1 36)), (1, .int x1), (2, .int x2)] [] 9 := by
  unfold f_X0_seek_36_l9 at h
  refine v_iload_n 9 C 2 2 dX0_seek_9 rfl rfl ?_
  refine v_aload_n 10 C 0 0 dX0_seek_10 rfl rfl ?_
  refine g_X0_36_0 11 C dX0_seek_11 ?_
  refine v_iconst 14 C (2 : Int32) dX0_seek_14 (by decide) ?_
  refine r_f_X2_count_1 15 C (by decide) q_653 dX0_seek_15 (Nat.le_of_ble_eq_true rfl) h (fun σ4 v5 h => ?_)
  refine v_icmp_ge 18 C 54 dX0_seek_18 (by decide) h (fun h => ?_) (fun h => ?_)
  · exact v_sub [0, 1, 2] rfl (hx _ _ _ (he _ (Option.some.inj h).symm))
  · refine v_aload_n 21 C 0 0 dX0_seek_21 rfl rfl ?_
    refine g_X0_36_1 22 C dX0_seek_22 ?_
    refine g_X0_28_8 25 C dX0_seek_25 ?_
    refine v_iload_n 28 C 2 2 dX0_seek_28 rfl rfl ?_
    refine v_iald 29 C 33 (by decide) (ce_33 G) dX0_seek_29 h (fun h => ?_)
    refine v_iconst 30 C (-1 : Int32) dX0_seek_30 (by decide) ?_
    refine v_icmp_eq 31 C 48 dX0_seek_31 (by decide) h (fun h => ?_) (fun h => ?_)
    · exact v_sub [0, 1, 2] rfl (w_f_X0_seek_36_j48 C h hc he hx)
    · refine v_iload_n 34 C 1 1 dX0_seek_34 rfl rfl ?_
      refine v_iconst 35 C (1 : Int32) dX0_seek_35 (by decide) ?_
      refine v_aload_n 36 C 0 0 dX0_seek_36 rfl rfl ?_
      refine g_X0_36_1 37 C dX0_seek_37 ?_
      refine g_X0_28_8 40 C dX0_seek_40 ?_
      refine v_iload_n 43 C 2 2 dX0_seek_43 rfl rfl ?_
      refine v_iald 44 C 33 (by decide) (ce_33 G) dX0_seek_44 h (fun h => ?_)
      refine v_ishl 45 C dX0_seek_45 ?_
      refine v_ior 46 C dX0_seek_46 ?_
      refine b_istore_n 47 C 1 (lv2 := fun z7 => [(1, .int z7), (0, .ref (G.1 36)), (2, .int x2)]) dX0_seek_47 rfl (by decide) (fun _ => rfl) h (fun z7 h => ?_)
      exact v_sub [1, 0, 2] rfl (w_f_X0_seek_36_j48 C h hc he hx)
theorem w_f_X0_seek_36 {G : Wld} {X : Cxt} (C : Cx G X RX0 cX0_seek 3 15) {σ : Sto} {y : Sto} (h : f_X0_seek_36 σ = some y) (hK : Rx G X none none y) : V G X 3 σ [(0, .ref (G.1 36))] [] 0 := by
  unfold f_X0_seek_36 at h
  refine v_aload_n 0 C 0 0 dX0_seek_0 rfl rfl ?_
  refine v_iconst 1 C (0 : Int32) dX0_seek_1 (by decide) ?_
  refine p_X0_36_3 2 C (by decide) dX0_seek_2 h (fun σ1 h => ?_)
  refine v_iconst 5 C (0 : Int32) dX0_seek_5 (by decide) ?_
  refine b_istore_n 6 C 1 (lv2 := fun z2 => [(1, .int z2), (0, .ref (G.1 36))]) dX0_seek_6 rfl (by decide) (fun _ => rfl) h (fun z2 h => ?_)
  refine v_iconst 7 C (0 : Int32) dX0_seek_7 (by decide) ?_
  refine b_istore_n 8 C 2 (lv2 := fun z3 => [(2, .int z3), (1, .int z2), (0, .ref (G.1 36))]) dX0_seek_8 rfl (by decide) (fun _ => rfl) h (fun z3 h => ?_)
  refine v_sub [2, 1, 0] rfl ?_
  refine lp_go (Vh := fun t => V G X 3 t.1 [(0, .ref (G.1 36)), (1, .int t.2.1), (2, .int t.2.2)] [] 9) h ?_
  intro t11 y11 hy11 hc11 he11
  refine w_f_X0_seek_36_l9 C hy11 hc11 he11 (fun σ8 z9 z10 h => ?_)
  dsimp only at h
  refine v_aload_n 54 C 0 0 dX0_seek_54 rfl rfl ?_
  refine v_iconst 55 C (0 : Int32) dX0_seek_55 (by decide) ?_
  refine v_iload_n 56 C 1 1 dX0_seek_56 rfl rfl ?_
  refine r_f_X0_handOut_36 57 8 C (by decide) q_654 dX0_seek_57 (Nat.le_of_ble_eq_true rfl) h (fun σ12 h => ?_)
  cases h
  exact v_vret 60 C hK dX0_seek_60
theorem c_f_X0_seek_36 (l : Launch) (G : Wld) (hG : GI G) (σ : Sto) (y : Sto) (h : f_X0_seek_36 σ = some y) : Ct l G yX0_seek cX0_seek 3 none 15 [.ref (G.1 36)] σ none y := by
  refine ct_intro RX0 hG (by decide) rfl (Nat.le_of_ble_eq_true rfl) (fun X hX C hK => ?_)
  subst hX
  exact w_f_X0_seek_36 C h hK
theorem r_f_X0_seek_36 {G : Wld} {X : Cxt} {own : String} {cc : ByteArray} {nL n : Nat} {σ : Sto} {lv : List (Nat × Value)} {st : List Value} {β : Type} {r : β} {F : Sto → Option β} {ix : Nat} (pc : Nat) (C : Cx G X own cc nL n) (hn : 15 < n) (h1 : Cond.methodLink own ix yX0_seek ∈ lw_gd) (hd : decode cc pc = .ok (.invokevirtual ix, 3)) (hsum : (st.map fun v => v.category).sum ≤ 8) (h : bd1 (f_X0_seek_36 σ) F = some r) (kk : ∀ σ1, F σ1 = some r → V G X nL σ1 lv (st) (pc + 3)) : V G X nL σ lv (.ref (G.1 36) :: st) pc := by
  obtain ⟨z, hz, h⟩ := bd1_some h
  exact v_callV pc C 36 0 [] st (c_f_X0_seek_36 (xl X) G C.2.2.2.2.2.2.1 _ _ hz) hn (by decide) (by decide) (ce_36 G _ _) rfl (by decide +kernel) rfl h1 q_650 q_651 q_67 q_652 rfl hsum hd (kk _ h)
-- f_X7_hats
def f_X7_hats_j29 (σ : Sto) : Option (Sto × Int32) :=
  some (σ, (-1000000001 : Int32))
def f_X7_hats_j104 (σ : Sto) (s0 : Int32) : Option (Sto × Int32) :=
  some (σ, s0)
def f_X7_hats_j32 (σ : Sto) (x1 : Int32) (x2 : Int32) : Option (Sto × Int32) :=
  bd1 (f_X5_dress_28_10 σ (0 : Int32)) fun σ3 => bd2 (f_X2_longOf_1 σ3 x1 (σ3.1 10 3)) fun σ5 v6 => bd1 (f_X5_light_28 σ5 v6 (σ5.1 10 5)) fun σ7 => bd1 (f_X0_seek_36 σ7) fun σ9 => if x2 = (-1 : Int32) then (f_X7_hats_j104 σ9 (σ9.1 36 4)) else (gd (inB x2 4) (f_X7_hats_j104 σ9 (σ9.1 38 (x2).toNatClampNeg)))
def f_X7_hats (σ : Sto) (a1 : Int32) (a2 : Int32) : Option (Sto × Int32) :=
  bd2 (f_X2_has_1 σ (1 : Int32) a1) fun σ1 v2 => if v2 = 0 then (f_X7_hats_j29 σ1) else (if a2 = (-1 : Int32) then (f_X7_hats_j32 σ1 a1 a2) else (bd2 (f_X2_has_1 σ1 (4 : Int32) a2) fun σ11 v12 => if v12 = 0 then (f_X7_hats_j29 σ11) else (f_X7_hats_j32 σ11 a1 a2)))
theorem w_f_X7_hats_j29 {G : Wld} {X : Cxt} (C : Cx G X RX7 cX7_hats 3 16) {σ : Sto} {y : Sto × Int32} (h : f_X7_hats_j29 σ = some y) (hK : Rx G X (some .int) (some (.int y.2)) y.1) : V G X 3 σ [(0, .ref (G.1 0))] [] 29 := by
  unfold f_X7_hats_j29 at h
  refine v_ldc 29 C dX7_hats_29 q_493 ?_
  cases h
  exact v_iret 31 C hK dX7_hats_31
theorem w_f_X7_hats_j104 {G : Wld} {X : Cxt} (C : Cx G X RX7 cX7_hats 3 16) {σ : Sto} {s0 : Int32} {y : Sto × Int32} (h : f_X7_hats_j104 σ s0 = some y) (hK : Rx G X (some .int) (some (.int y.2)) y.1) : V G X 3 σ [(0, .ref (G.1 0))] [.int s0] 104 := by
  unfold f_X7_hats_j104 at h
  cases h
  exact v_iret 104 C hK dX7_hats_104
theorem w_f_X7_hats_j32 {G : Wld} {X : Cxt} (C : Cx G X RX7 cX7_hats 3 16) {σ : Sto} {x1 : Int32} {x2 : Int32} {y : Sto × Int32} (h : f_X7_hats_j32 σ x1 x2 = some y) (hK : Rx G X (some .int) (some (.int y.2)) y.1) : V G X 3 σ [(0, .ref (G.1 0)), (1, .int x1), (2, .int x2)] [] 32 := by
  unfold f_X7_hats_j32 at h
  refine v_aload_n 32 C 0 0 dX7_hats_32 rfl rfl ?_
  refine g_X7_0_7 33 C dX7_hats_33 ?_
  refine v_aload_n 36 C 0 0 dX7_hats_36 rfl rfl ?_
  refine g_X7_0_2 37 C dX7_hats_37 ?_
  refine v_iconst 40 C (0 : Int32) dX7_hats_40 (by decide) ?_
  refine r_f_X5_dress_28_10 41 C (by decide) q_536 dX7_hats_41 (Nat.le_of_ble_eq_true rfl) h (fun σ3 h => ?_)
  refine v_aload_n 44 C 0 0 dX7_hats_44 rfl rfl ?_
  refine g_X7_0_7 45 C dX7_hats_45 ?_
  refine v_aload_n 48 C 0 0 dX7_hats_48 rfl rfl ?_
  refine g_X7_0_0 49 C dX7_hats_49 ?_
  refine v_iload_n 52 C 1 1 dX7_hats_52 rfl rfl ?_
  refine v_aload_n 53 C 0 0 dX7_hats_53 rfl rfl ?_
  refine g_X7_0_2 54 C dX7_hats_54 ?_
  refine g_X7_10_3 57 C dX7_hats_57 ?_
  refine r_f_X2_longOf_1 60 C (by decide) q_495 dX7_hats_60 (Nat.le_of_ble_eq_true rfl) h (fun σ5 v6 h => ?_)
  refine v_aload_n 63 C 0 0 dX7_hats_63 rfl rfl ?_
  refine g_X7_0_2 64 C dX7_hats_64 ?_
  refine g_X7_10_5 67 C dX7_hats_67 ?_
  refine r_f_X5_light_28 70 C (by decide) q_548 dX7_hats_70 (Nat.le_of_ble_eq_true rfl) h (fun σ7 h => ?_)
  refine v_aload_n 73 C 0 0 dX7_hats_73 rfl rfl ?_
  refine g_X7_0_9 74 C dX7_hats_74 ?_
  refine r_f_X0_seek_36 77 C (by decide) q_649 dX7_hats_77 (Nat.le_of_ble_eq_true rfl) h (fun σ9 h => ?_)
  refine v_iload_n 80 C 2 2 dX7_hats_80 rfl rfl ?_
  refine v_iconst 81 C (-1 : Int32) dX7_hats_81 (by decide) ?_
  refine v_icmp_ne 82 C 95 dX7_hats_82 (by decide) h (fun h => ?_) (fun h => ?_)
  · refine v_aload_n 95 C 0 0 dX7_hats_95 rfl rfl ?_
    refine g_X7_0_9 96 C dX7_hats_96 ?_
    refine g_X7_36_5 99 C dX7_hats_99 ?_
    refine v_iload_n 102 C 2 2 dX7_hats_102 rfl rfl ?_
    refine v_iald 103 C 38 (by decide) (ce_38 G) dX7_hats_103 h (fun h => ?_)
    exact v_sub [0] rfl (w_f_X7_hats_j104 C h hK)
  · refine v_aload_n 85 C 0 0 dX7_hats_85 rfl rfl ?_
    refine g_X7_0_9 86 C dX7_hats_86 ?_
    refine g_X7_36_4 89 C dX7_hats_89 ?_
    refine v_goto 92 C 104 dX7_hats_92 (by decide) ?_
    exact v_sub [0] rfl (w_f_X7_hats_j104 C h hK)
theorem w_f_X7_hats {G : Wld} {X : Cxt} (C : Cx G X RX7 cX7_hats 3 16) {σ : Sto} {a1 : Int32} {a2 : Int32} {y : Sto × Int32} (h : f_X7_hats σ a1 a2 = some y) (hK : Rx G X (some .int) (some (.int y.2)) y.1) : V G X 3 σ [(0, .ref (G.1 0)), (1, .int a1), (2, .int a2)] [] 0 := by
  unfold f_X7_hats at h
  refine v_aload_n 0 C 0 0 dX7_hats_0 rfl rfl ?_
  refine g_X7_0_0 1 C dX7_hats_1 ?_
  refine v_iconst 4 C (1 : Int32) dX7_hats_4 (by decide) ?_
  refine v_iload_n 5 C 1 1 dX7_hats_5 rfl rfl ?_
  refine r_f_X2_has_1 6 C (by decide) q_489 dX7_hats_6 (Nat.le_of_ble_eq_true rfl) h (fun σ1 v2 h => ?_)
  refine v_if_eq 9 C 29 dX7_hats_9 (by decide) h (fun h => ?_) (fun h => ?_)
  · exact v_sub [0] rfl (w_f_X7_hats_j29 C h hK)
  · refine v_iload_n 12 C 2 2 dX7_hats_12 rfl rfl ?_
    refine v_iconst 13 C (-1 : Int32) dX7_hats_13 (by decide) ?_
    refine v_icmp_eq 14 C 32 dX7_hats_14 (by decide) h (fun h => ?_) (fun h => ?_)
    · exact v_sub [0, 1, 2] rfl (w_f_X7_hats_j32 C h hK)
    · refine v_aload_n 17 C 0 0 dX7_hats_17 rfl rfl ?_
      refine g_X7_0_0 18 C dX7_hats_18 ?_
      refine v_iconst 21 C (4 : Int32) dX7_hats_21 (by decide) ?_
      refine v_iload_n 22 C 2 2 dX7_hats_22 rfl rfl ?_
      refine r_f_X2_has_1 23 C (by decide) q_489 dX7_hats_23 (Nat.le_of_ble_eq_true rfl) h (fun σ11 v12 h => ?_)
      refine v_if_ne 26 C 32 dX7_hats_26 (by decide) h (fun h => ?_) (fun h => ?_)
      · exact v_sub [0, 1, 2] rfl (w_f_X7_hats_j32 C h hK)
      · exact v_sub [0] rfl (w_f_X7_hats_j29 C h hK)
theorem c_f_X7_hats (l : Launch) (G : Wld) (hG : GI G) (σ : Sto) (a1 : Int32) (a2 : Int32) (y : Sto × Int32) (h : f_X7_hats σ a1 a2 = some y) : Ct l G yX7_hats cX7_hats 3 (some .int) 16 [.ref (G.1 0), .int a1, .int a2] σ (some (.int y.2)) y.1 := by
  refine ct_intro RX7 hG (by decide) rfl (Nat.le_of_ble_eq_true rfl) (fun X hX C hK => ?_)
  subst hX
  exact w_f_X7_hats C h hK
theorem r_f_X7_hats {G : Wld} {X : Cxt} {own : String} {cc : ByteArray} {nL n : Nat} {σ : Sto} {lv : List (Nat × Value)} {st : List Value} {β : Type} {r : β} {F : Sto → Int32 → Option β} {a1 : Int32} {a2 : Int32} {ix : Nat} (pc : Nat) (C : Cx G X own cc nL n) (hn : 16 < n) (h1 : Cond.methodLink own ix yX7_hats ∈ lw_gd) (hd : decode cc pc = .ok (.invokevirtual ix, 3)) (hsum : (st.map fun v => v.category).sum ≤ 8) (h : bd2 (f_X7_hats σ a1 a2) F = some r) (kk : ∀ σ1 v, F σ1 v = some r → V G X nL σ1 lv (.int v :: st) (pc + 3)) : V G X nL σ lv (.int a2 :: .int a1 :: .ref (G.1 0) :: st) pc := by
  obtain ⟨z, hz, h⟩ := bd2_some h
  exact v_callV pc C 0 2 [.int a1, .int a2] st (c_f_X7_hats (xl X) G C.2.2.2.2.2.2.1 _ _ _ _ hz) hn (by decide) (by decide) (ce_0 G _ _) rfl (by decide +kernel) rfl h1 q_646 q_647 q_59 q_648 rfl hsum hd (kk _ _ h)
-- f_X5_addGiant_28
def f_X5_addGiant_28 (σ : Sto) (a1 : Int32) : Option (Sto × Int32) :=
  bd2 (f_X2_count_1 σ (3 : Int32)) fun σ1 v2 => bs v2 fun z3 => gd (inB z3 7) (bs (su σ1 29 (z3).toNatClampNeg a1) fun σ4 => gd (inB z3 7) (bs (su σ4 30 (z3).toNatClampNeg (0 : Int32)) fun σ5 => bs (su σ5 28 1 (z3 + (1 : Int32))) fun σ6 => some (σ6, z3)))
theorem w_f_X5_addGiant_28 {G : Wld} {X : Cxt} (C : Cx G X RX5 cX5_addGiant 3 2) {σ : Sto} {a1 : Int32} {y : Sto × Int32} (h : f_X5_addGiant_28 σ a1 = some y) (hK : Rx G X (some .int) (some (.int y.2)) y.1) : V G X 3 σ [(0, .ref (G.1 28)), (1, .int a1)] [] 0 := by
  unfold f_X5_addGiant_28 at h
  refine v_aload_n 0 C 0 0 dX5_addGiant_0 rfl rfl ?_
  refine g_X5_28_0 1 C dX5_addGiant_1 ?_
  refine v_iconst 4 C (3 : Int32) dX5_addGiant_4 (by decide) ?_
  refine r_f_X2_count_1 5 C (by decide) q_540 dX5_addGiant_5 (Nat.le_of_ble_eq_true rfl) h (fun σ1 v2 h => ?_)
  refine b_istore_n 8 C 2 (lv2 := fun z3 => [(2, .int z3), (0, .ref (G.1 28)), (1, .int a1)]) dX5_addGiant_8 rfl (by decide) (fun _ => rfl) h (fun z3 h => ?_)
  refine v_aload_n 9 C 0 1 dX5_addGiant_9 rfl rfl ?_
  refine g_X5_28_4 10 C dX5_addGiant_10 ?_
  refine v_iload_n 13 C 2 0 dX5_addGiant_13 rfl rfl ?_
  refine v_iload_n 14 C 1 2 dX5_addGiant_14 rfl rfl ?_
  refine b_iast 15 C 29 (by decide) (ce_29 G) dX5_addGiant_15 h (fun σ4 h => ?_)
  refine v_aload_n 16 C 0 1 dX5_addGiant_16 rfl rfl ?_
  refine g_X5_28_5 17 C dX5_addGiant_17 ?_
  refine v_iload_n 20 C 2 0 dX5_addGiant_20 rfl rfl ?_
  refine v_iconst 21 C (0 : Int32) dX5_addGiant_21 (by decide) ?_
  refine b_iast 22 C 30 (by decide) (ce_30 G) dX5_addGiant_22 h (fun σ5 h => ?_)
  refine v_aload_n 23 C 0 1 dX5_addGiant_23 rfl rfl ?_
  refine v_iload_n 24 C 2 0 dX5_addGiant_24 rfl rfl ?_
  refine v_iconst 25 C (1 : Int32) dX5_addGiant_25 (by decide) ?_
  refine v_iadd 26 C dX5_addGiant_26 ?_
  refine p_X5_28_1 27 C dX5_addGiant_27 h (fun σ6 h => ?_)
  refine v_iload_n 30 C 2 0 dX5_addGiant_30 rfl rfl ?_
  cases h
  exact v_iret 31 C hK dX5_addGiant_31
theorem c_f_X5_addGiant_28 (l : Launch) (G : Wld) (hG : GI G) (σ : Sto) (a1 : Int32) (y : Sto × Int32) (h : f_X5_addGiant_28 σ a1 = some y) : Ct l G yX5_addGiant cX5_addGiant 3 (some .int) 2 [.ref (G.1 28), .int a1] σ (some (.int y.2)) y.1 := by
  refine ct_intro RX5 hG (by decide) rfl (Nat.le_of_ble_eq_true rfl) (fun X hX C hK => ?_)
  subst hX
  exact w_f_X5_addGiant_28 C h hK
theorem r_f_X5_addGiant_28 {G : Wld} {X : Cxt} {own : String} {cc : ByteArray} {nL n : Nat} {σ : Sto} {lv : List (Nat × Value)} {st : List Value} {β : Type} {r : β} {F : Sto → Int32 → Option β} {a1 : Int32} {ix : Nat} (pc : Nat) (C : Cx G X own cc nL n) (hn : 2 < n) (h1 : Cond.methodLink own ix yX5_addGiant ∈ lw_gd) (hd : decode cc pc = .ok (.invokevirtual ix, 3)) (hsum : (st.map fun v => v.category).sum ≤ 8) (h : bd2 (f_X5_addGiant_28 σ a1) F = some r) (kk : ∀ σ1 v, F σ1 v = some r → V G X nL σ1 lv (.int v :: st) (pc + 3)) : V G X nL σ lv (.int a1 :: .ref (G.1 28) :: st) pc := by
  obtain ⟨z, hz, h⟩ := bd2_some h
  exact v_callV pc C 28 1 [.int a1] st (c_f_X5_addGiant_28 (xl X) G C.2.2.2.2.2.2.1 _ _ _ hz) hn (by decide) (by decide) (ce_28 G _ _) rfl (by decide +kernel) rfl h1 q_676 q_677 q_65 q_678 rfl hsum hd (kk _ _ h)
-- f_X7_giant
def f_X7_giant_j49 (σ : Sto) : Option (Sto × Int32) :=
  some (σ, (-1000000002 : Int32))
def f_X7_giant_j184 (σ : Sto) (x3 : Int32) (x4 : Int32) (x5 : Int32) (x6 : Int32) (x7 : Int32) (x8 : Int32) (x9 : Int32) : Option ((Sto × Int32 × Int32 × Int32) ⊕ (Sto × Int32 × Int32 × Int32)) :=
  bs (x9 + (1 : Int32)) fun z16 => some (.inl (σ, x7, x8, z16))
def f_X7_giant_j176 (σ : Sto) (x3 : Int32) (x4 : Int32) (x5 : Int32) (x6 : Int32) (x9 : Int32) (x10 : Int32) : Option ((Sto × Int32 × Int32 × Int32) ⊕ (Sto × Int32 × Int32 × Int32)) :=
  bs x9 fun z24 => bs x10 fun z25 => f_X7_giant_j184 σ x3 x4 x5 x6 z24 z25 x9
def f_X7_giant_l92 (x3 : Int32) (x4 : Int32) (x5 : Int32) (x6 : Int32) (σ : Sto) (x7 : Int32) (x8 : Int32) (x9 : Int32) : Option ((Sto × Int32 × Int32 × Int32) ⊕ (Sto × Int32 × Int32 × Int32)) :=
  bd2 (f_X2_count_1 σ (2 : Int32)) fun σ14 v15 => if v15 ≤ x9 then (some (.inr (σ14, x7, x8, x9))) else (gd (inB x9 6) (if (σ14.1 33 (x9).toNatClampNeg) = (-1 : Int32) then (gd (inB x9 6) (bs (su σ14 33 (x9).toNatClampNeg x6) fun σ17 => bd1 (f_X5_cast_28 σ17) fun σ18 => gd (inB x9 6) (bs (su σ18 33 (x9).toNatClampNeg (-1 : Int32)) fun σ20 => bd2 (f_X5_sumOfAlms_28 σ20) fun σ21 v22 => bs ((v22 - x5) - x3) fun z23 => if x7 = (-1 : Int32) then (f_X7_giant_j176 σ21 x3 x4 x5 x6 x9 z23) else (if z23 ≤ x8 then (f_X7_giant_j184 σ21 x3 x4 x5 x6 x7 x8 x9) else (f_X7_giant_j176 σ21 x3 x4 x5 x6 x9 z23))))) else (f_X7_giant_j184 σ14 x3 x4 x5 x6 x7 x8 x9)))
def f_X7_giant_j202 (σ : Sto) (s0 : Int32) : Option (Sto × Int32) :=
  some (σ, s0)
def f_X7_giant (σ : Sto) (a1 : Int32) (a2 : Int32) (a3 : Int32) (a4 : Int32) : Option (Sto × Int32) :=
  bd2 (f_X2_has_1 σ (1 : Int32) a1) fun σ1 v2 => if v2 = 0 then (some (σ1, (-1000000001 : Int32))) else (if a2 < (1 : Int32) then (f_X7_giant_j49 σ1) else (if (200 : Int32) < a2 then (f_X7_giant_j49 σ1) else (if a3 < 0 then (f_X7_giant_j49 σ1) else (if (999 : Int32) < a3 then (f_X7_giant_j49 σ1) else (if a4 < 0 then (f_X7_giant_j49 σ1) else (if a4 ≤ (1 : Int32) then (bd1 (f_X7_showAt σ1 a1 (σ1.1 10 3)) fun σ3 => bd2 (f_X5_sumOfAlms_28 σ3) fun σ5 v6 => bs v6 fun z7 => bd2 (f_X5_addGiant_28 σ5 a2) fun σ8 v9 => bs v9 fun z10 => bs (-1 : Int32) fun z11 => bs (0 : Int32) fun z12 => bs (0 : Int32) fun z13 => bE3 (lpF (fun t => f_X7_giant_l92 a3 a4 z7 z10 t.1 t.2.1 t.2.2.1 t.2.2.2) FU (σ8, z11, z12, z13)) (fun σ26 z27 z28 z29 => if a4 = 0 then (f_X7_giant_j202 σ26 z27) else (f_X7_giant_j202 σ26 z28))) else (f_X7_giant_j49 σ1)))))))
theorem w_f_X7_giant_j49 {G : Wld} {X : Cxt} (C : Cx G X RX7 cX7_giant 11 6) {σ : Sto} {y : Sto × Int32} (h : f_X7_giant_j49 σ = some y) (hK : Rx G X (some .int) (some (.int y.2)) y.1) : V G X 11 σ [(0, .ref (G.1 0))] [] 49 := by
  unfold f_X7_giant_j49 at h
  refine v_ldc 49 C dX7_giant_49 q_323 ?_
  cases h
  exact v_iret 51 C hK dX7_giant_51
theorem w_f_X7_giant_j184 {G : Wld} {X : Cxt} (C : Cx G X RX7 cX7_giant 11 6) {σ : Sto} {x3 : Int32} {x4 : Int32} {x5 : Int32} {x6 : Int32} {x7 : Int32} {x8 : Int32} {x9 : Int32} {y : (Sto × Int32 × Int32 × Int32) ⊕ (Sto × Int32 × Int32 × Int32)} (h : f_X7_giant_j184 σ x3 x4 x5 x6 x7 x8 x9 = some y) (hc : ∀ t : Sto × Int32 × Int32 × Int32, y = .inl t → V G X 11 t.1 [(0, .ref (G.1 0)), (3, .int x3), (4, .int x4), (5, .int x5), (6, .int x6), (7, .int t.2.1), (8, .int t.2.2.1), (9, .int t.2.2.2)] [] 92) {Ve : Sto × Int32 × Int32 × Int32 → Prop} (he : ∀ e, y = .inr e → Ve e) (hx : ∀ (σ : Sto) (x7 : Int32) (x8 : Int32) (x9 : Int32), Ve (σ, x7, x8, x9) → V G X 11 σ [(0, .ref (G.1 0)), (3, .int x3), (4, .int x4), (5, .int x5), (6, .int x6), (7, .int x7), (8, .int x8), (9, .int x9)] [] 190) : V G X 11 σ [(0, .ref (G.1 0)), (3, .int x3), (4, .int x4), (5, .int x5), (6, .int x6), (7, .int x7), (8, .int x8), (9, .int x9)] [] 184 := by
  unfold f_X7_giant_j184 at h
  refine b_iinc 184 C 9 7 (1 : Int32) (lv2 := fun z16 => [(9, .int z16), (0, .ref (G.1 0)), (3, .int x3), (4, .int x4), (5, .int x5), (6, .int x6), (7, .int x7), (8, .int x8)]) dX7_giant_184 rfl (by decide) (by decide) (fun _ => rfl) h (fun z16 h => ?_)
  refine v_goto 187 C 92 dX7_giant_187 (by decide) ?_
  exact v_sub [1, 2, 3, 4, 5, 6, 7, 0] rfl (hc _ (Option.some.inj h).symm)
theorem w_f_X7_giant_j176 {G : Wld} {X : Cxt} (C : Cx G X RX7 cX7_giant 11 6) {σ : Sto} {x3 : Int32} {x4 : Int32} {x5 : Int32} {x6 : Int32} {x9 : Int32} {x10 : Int32} {y : (Sto × Int32 × Int32 × Int32) ⊕ (Sto × Int32 × Int32 × Int32)} (h : f_X7_giant_j176 σ x3 x4 x5 x6 x9 x10 = some y) (hc : ∀ t : Sto × Int32 × Int32 × Int32, y = .inl t → V G X 11 t.1 [(0, .ref (G.1 0)), (3, .int x3), (4, .int x4), (5, .int x5), (6, .int x6), (7, .int t.2.1), (8, .int t.2.2.1), (9, .int t.2.2.2)] [] 92) {Ve : Sto × Int32 × Int32 × Int32 → Prop} (he : ∀ e, y = .inr e → Ve e) (hx : ∀ (σ : Sto) (x7 : Int32) (x8 : Int32) (x9 : Int32), Ve (σ, x7, x8, x9) → V G X 11 σ [(0, .ref (G.1 0)), (3, .int x3), (4, .int x4), (5, .int x5), (6, .int x6), (7, .int x7), (8, .int x8), (9, .int x9)] [] 190) : V G X 11 σ [(0, .ref (G.1 0)), (3, .int x3), (4, .int x4), (5, .int x5), (6, .int x6), (9, .int x9), (10, .int x10)] [] 176 := by
  unfold f_X7_giant_j176 at h
  refine v_iload 176 C 9 5 dX7_giant_176 rfl ?_
  refine b_istore 178 C 7 (lv2 := fun z24 => [(7, .int z24), (0, .ref (G.1 0)), (3, .int x3), (4, .int x4), (5, .int x5), (6, .int x6), (9, .int x9), (10, .int x10)]) dX7_giant_178 (by decide) (fun _ => rfl) h (fun z24 h => ?_)
  refine v_iload 180 C 10 7 dX7_giant_180 rfl ?_
  refine b_istore 182 C 8 (lv2 := fun z25 => [(8, .int z25), (7, .int z24), (0, .ref (G.1 0)), (3, .int x3), (4, .int x4), (5, .int x5), (6, .int x6), (9, .int x9), (10, .int x10)]) dX7_giant_182 (by decide) (fun _ => rfl) h (fun z25 h => ?_)
  exact v_sub [2, 3, 4, 5, 6, 1, 0, 7] rfl (w_f_X7_giant_j184 C h hc he hx)
theorem w_f_X7_giant_l92 {G : Wld} {X : Cxt} (C : Cx G X RX7 cX7_giant 11 6) {x3 : Int32} {x4 : Int32} {x5 : Int32} {x6 : Int32} {σ : Sto} {x7 : Int32} {x8 : Int32} {x9 : Int32} {y : (Sto × Int32 × Int32 × Int32) ⊕ (Sto × Int32 × Int32 × Int32)} (h : f_X7_giant_l92 x3 x4 x5 x6 σ x7 x8 x9 = some y) (hc : ∀ t : Sto × Int32 × Int32 × Int32, y = .inl t → V G X 11 t.1 [(0, .ref (G.1 0)), (3, .int x3), (4, .int x4), (5, .int x5), (6, .int x6), (7, .int t.2.1), (8, .int t.2.2.1), (9, .int t.2.2.2)] [] 92) {Ve : Sto × Int32 × Int32 × Int32 → Prop} (he : ∀ e, y = .inr e → Ve e) (hx : ∀ (σ : Sto) (x7 : Int32) (x8 : Int32) (x9 : Int32), Ve (σ, x7, x8, x9) → V G X 11 σ [(0, .ref (G.1 0)), (3, .int x3), (4, .int x4), (5, .int x5), (6, .int x6), (7, .int x7), (8, .int x8), (9, .int x9)] [] 190) : V G X 11 σ [(0, .ref (G.1 0)), (3, .int x3), (4, .int x4), (5, .int x5), (6, .int x6), (7, .int x7), (8, .int x8), (9, .int x9)] [] 92 := by
  unfold f_X7_giant_l92 at h
  refine v_iload 92 C 9 7 dX7_giant_92 rfl ?_
  refine v_aload_n 94 C 0 0 dX7_giant_94 rfl rfl ?_
  refine g_X7_0_0 95 C dX7_giant_95 ?_
  refine v_iconst 98 C (2 : Int32) dX7_giant_98 (by decide) ?_
  refine r_f_X2_count_1 99 C (by decide) q_464 dX7_giant_99 (Nat.le_of_ble_eq_true rfl) h (fun σ14 v15 h => ?_)
  refine v_icmp_ge 102 C 190 dX7_giant_102 (by decide) h (fun h => ?_) (fun h => ?_)
  · exact v_sub [0, 1, 2, 3, 4, 5, 6, 7] rfl (hx _ _ _ _ (he _ (Option.some.inj h).symm))
  · refine v_aload_n 105 C 0 0 dX7_giant_105 rfl rfl ?_
    refine g_X7_0_7 106 C dX7_giant_106 ?_
    refine g_X7_28_8 109 C dX7_giant_109 ?_
    refine v_iload 112 C 9 7 dX7_giant_112 rfl ?_
    refine v_iald 114 C 33 (by decide) (ce_33 G) dX7_giant_114 h (fun h => ?_)
    refine v_iconst 115 C (-1 : Int32) dX7_giant_115 (by decide) ?_
    refine v_icmp_ne 116 C 184 dX7_giant_116 (by decide) h (fun h => ?_) (fun h => ?_)
    · exact v_sub [0, 1, 2, 3, 4, 5, 6, 7] rfl (w_f_X7_giant_j184 C h hc he hx)
    · refine v_aload_n 119 C 0 0 dX7_giant_119 rfl rfl ?_
      refine g_X7_0_7 120 C dX7_giant_120 ?_
      refine g_X7_28_8 123 C dX7_giant_123 ?_
      refine v_iload 126 C 9 7 dX7_giant_126 rfl ?_
      refine v_iload 128 C 6 4 dX7_giant_128 rfl ?_
      refine b_iast 130 C 33 (by decide) (ce_33 G) dX7_giant_130 h (fun σ17 h => ?_)
      refine v_aload_n 131 C 0 0 dX7_giant_131 rfl rfl ?_
      refine g_X7_0_7 132 C dX7_giant_132 ?_
      refine r_f_X5_cast_28 135 C (by decide) q_552 dX7_giant_135 (Nat.le_of_ble_eq_true rfl) h (fun σ18 h => ?_)
      refine v_aload_n 138 C 0 0 dX7_giant_138 rfl rfl ?_
      refine g_X7_0_7 139 C dX7_giant_139 ?_
      refine g_X7_28_8 142 C dX7_giant_142 ?_
      refine v_iload 145 C 9 7 dX7_giant_145 rfl ?_
      refine v_iconst 147 C (-1 : Int32) dX7_giant_147 (by decide) ?_
      refine b_iast 148 C 33 (by decide) (ce_33 G) dX7_giant_148 h (fun σ20 h => ?_)
      refine v_aload_n 149 C 0 0 dX7_giant_149 rfl rfl ?_
      refine g_X7_0_7 150 C dX7_giant_150 ?_
      refine r_f_X5_sumOfAlms_28 153 C (by decide) q_674 dX7_giant_153 (Nat.le_of_ble_eq_true rfl) h (fun σ21 v22 h => ?_)
      refine v_iload 156 C 5 3 dX7_giant_156 rfl ?_
      refine v_isub 158 C dX7_giant_158 ?_
      refine v_iload_n 159 C 3 1 dX7_giant_159 rfl rfl ?_
      refine v_isub 160 C dX7_giant_160 ?_
      refine b_istore 161 C 10 (lv2 := fun z23 => [(10, .int z23), (0, .ref (G.1 0)), (3, .int x3), (4, .int x4), (5, .int x5), (6, .int x6), (7, .int x7), (8, .int x8), (9, .int x9)]) dX7_giant_161 (by decide) (fun _ => rfl) h (fun z23 h => ?_)
      refine v_iload 163 C 7 6 dX7_giant_163 rfl ?_
      refine v_iconst 165 C (-1 : Int32) dX7_giant_165 (by decide) ?_
      refine v_icmp_eq 166 C 176 dX7_giant_166 (by decide) h (fun h => ?_) (fun h => ?_)
      · exact v_sub [1, 2, 3, 4, 5, 8, 0] rfl (w_f_X7_giant_j176 C h hc he hx)
      · refine v_iload 169 C 10 0 dX7_giant_169 rfl ?_
        refine v_iload 171 C 8 7 dX7_giant_171 rfl ?_
        refine v_icmp_le 173 C 184 dX7_giant_173 (by decide) h (fun h => ?_) (fun h => ?_)
        · exact v_sub [1, 2, 3, 4, 5, 6, 7, 8] rfl (w_f_X7_giant_j184 C h hc he hx)
        · exact v_sub [1, 2, 3, 4, 5, 8, 0] rfl (w_f_X7_giant_j176 C h hc he hx)
theorem w_f_X7_giant_j202 {G : Wld} {X : Cxt} (C : Cx G X RX7 cX7_giant 11 6) {σ : Sto} {s0 : Int32} {y : Sto × Int32} (h : f_X7_giant_j202 σ s0 = some y) (hK : Rx G X (some .int) (some (.int y.2)) y.1) : V G X 11 σ [(0, .ref (G.1 0))] [.int s0] 202 := by
  unfold f_X7_giant_j202 at h
  cases h
  exact v_iret 202 C hK dX7_giant_202
theorem w_f_X7_giant {G : Wld} {X : Cxt} (C : Cx G X RX7 cX7_giant 11 6) {σ : Sto} {a1 : Int32} {a2 : Int32} {a3 : Int32} {a4 : Int32} {y : Sto × Int32} (h : f_X7_giant σ a1 a2 a3 a4 = some y) (hK : Rx G X (some .int) (some (.int y.2)) y.1) : V G X 11 σ [(0, .ref (G.1 0)), (1, .int a1), (2, .int a2), (3, .int a3), (4, .int a4)] [] 0 := by
  unfold f_X7_giant at h
  refine v_aload_n 0 C 0 0 dX7_giant_0 rfl rfl ?_
  refine g_X7_0_0 1 C dX7_giant_1 ?_
  refine v_iconst 4 C (1 : Int32) dX7_giant_4 (by decide) ?_
  refine v_iload_n 5 C 1 1 dX7_giant_5 rfl rfl ?_
  refine r_f_X2_has_1 6 C (by decide) q_489 dX7_giant_6 (Nat.le_of_ble_eq_true rfl) h (fun σ1 v2 h => ?_)
  refine v_if_ne 9 C 15 dX7_giant_9 (by decide) h (fun h => ?_) (fun h => ?_)
  · refine v_iload_n 15 C 2 2 dX7_giant_15 rfl rfl ?_
    refine v_iconst 16 C (1 : Int32) dX7_giant_16 (by decide) ?_
    refine v_icmp_lt 17 C 49 dX7_giant_17 (by decide) h (fun h => ?_) (fun h => ?_)
    · exact v_sub [0] rfl (w_f_X7_giant_j49 C h hK)
    · refine v_iload_n 20 C 2 2 dX7_giant_20 rfl rfl ?_
      refine v_sipush 21 C (200 : Int32) dX7_giant_21 (by decide) ?_
      refine v_icmp_gt 24 C 49 dX7_giant_24 (by decide) h (fun h => ?_) (fun h => ?_)
      · exact v_sub [0] rfl (w_f_X7_giant_j49 C h hK)
      · refine v_iload_n 27 C 3 3 dX7_giant_27 rfl rfl ?_
        refine v_if_lt 28 C 49 dX7_giant_28 (by decide) h (fun h => ?_) (fun h => ?_)
        · exact v_sub [0] rfl (w_f_X7_giant_j49 C h hK)
        · refine v_iload_n 31 C 3 3 dX7_giant_31 rfl rfl ?_
          refine v_sipush 32 C (999 : Int32) dX7_giant_32 (by decide) ?_
          refine v_icmp_gt 35 C 49 dX7_giant_35 (by decide) h (fun h => ?_) (fun h => ?_)
          · exact v_sub [0] rfl (w_f_X7_giant_j49 C h hK)
          · refine v_iload 38 C 4 4 dX7_giant_38 rfl ?_
            refine v_if_lt 40 C 49 dX7_giant_40 (by decide) h (fun h => ?_) (fun h => ?_)
            · exact v_sub [0] rfl (w_f_X7_giant_j49 C h hK)
            · refine v_iload 43 C 4 4 dX7_giant_43 rfl ?_
              refine v_iconst 45 C (1 : Int32) dX7_giant_45 (by decide) ?_
              refine v_icmp_le 46 C 52 dX7_giant_46 (by decide) h (fun h => ?_) (fun h => ?_)
              · refine v_aload_n 52 C 0 0 dX7_giant_52 rfl rfl ?_
                refine v_iload_n 53 C 1 1 dX7_giant_53 rfl rfl ?_
                refine v_aload_n 54 C 0 0 dX7_giant_54 rfl rfl ?_
                refine g_X7_0_2 55 C dX7_giant_55 ?_
                refine g_X7_10_3 58 C dX7_giant_58 ?_
                refine r_f_X7_showAt 61 C (by decide) q_532 dX7_giant_61 (Nat.le_of_ble_eq_true rfl) h (fun σ3 h => ?_)
                refine v_aload_n 64 C 0 0 dX7_giant_64 rfl rfl ?_
                refine g_X7_0_7 65 C dX7_giant_65 ?_
                refine r_f_X5_sumOfAlms_28 68 C (by decide) q_674 dX7_giant_68 (Nat.le_of_ble_eq_true rfl) h (fun σ5 v6 h => ?_)
                refine b_istore 71 C 5 (lv2 := fun z7 => [(5, .int z7), (0, .ref (G.1 0)), (1, .int a1), (2, .int a2), (3, .int a3), (4, .int a4)]) dX7_giant_71 (by decide) (fun _ => rfl) h (fun z7 h => ?_)
                refine v_aload_n 73 C 0 1 dX7_giant_73 rfl rfl ?_
                refine g_X7_0_7 74 C dX7_giant_74 ?_
                refine v_iload_n 77 C 2 3 dX7_giant_77 rfl rfl ?_
                refine r_f_X5_addGiant_28 78 C (by decide) q_675 dX7_giant_78 (Nat.le_of_ble_eq_true rfl) h (fun σ8 v9 h => ?_)
                refine b_istore 81 C 6 (lv2 := fun z10 => [(6, .int z10), (5, .int z7), (0, .ref (G.1 0)), (1, .int a1), (2, .int a2), (3, .int a3), (4, .int a4)]) dX7_giant_81 (by decide) (fun _ => rfl) h (fun z10 h => ?_)
                refine v_iconst 83 C (-1 : Int32) dX7_giant_83 (by decide) ?_
                refine b_istore 84 C 7 (lv2 := fun z11 => [(7, .int z11), (6, .int z10), (5, .int z7), (0, .ref (G.1 0)), (1, .int a1), (2, .int a2), (3, .int a3), (4, .int a4)]) dX7_giant_84 (by decide) (fun _ => rfl) h (fun z11 h => ?_)
                refine v_iconst 86 C (0 : Int32) dX7_giant_86 (by decide) ?_
                refine b_istore 87 C 8 (lv2 := fun z12 => [(8, .int z12), (7, .int z11), (6, .int z10), (5, .int z7), (0, .ref (G.1 0)), (1, .int a1), (2, .int a2), (3, .int a3), (4, .int a4)]) dX7_giant_87 (by decide) (fun _ => rfl) h (fun z12 h => ?_)
                refine v_iconst 89 C (0 : Int32) dX7_giant_89 (by decide) ?_
                refine b_istore 90 C 9 (lv2 := fun z13 => [(9, .int z13), (8, .int z12), (7, .int z11), (6, .int z10), (5, .int z7), (0, .ref (G.1 0)), (1, .int a1), (2, .int a2), (3, .int a3), (4, .int a4)]) dX7_giant_90 (by decide) (fun _ => rfl) h (fun z13 h => ?_)
                refine v_sub [5, 8, 9, 4, 3, 2, 1, 0] rfl ?_
                refine lp_go (Vh := fun t => V G X 11 t.1 [(0, .ref (G.1 0)), (3, .int a3), (4, .int a4), (5, .int z7), (6, .int z10), (7, .int t.2.1), (8, .int t.2.2.1), (9, .int t.2.2.2)] [] 92) h ?_
                intro t30 y30 hy30 hc30 he30
                refine w_f_X7_giant_l92 C hy30 hc30 he30 (fun σ26 z27 z28 z29 h => ?_)
                dsimp only at h
                refine v_iload 190 C 4 2 dX7_giant_190 rfl ?_
                refine v_if_ne 192 C 200 dX7_giant_192 (by decide) h (fun h => ?_) (fun h => ?_)
                · refine v_iload 200 C 8 6 dX7_giant_200 rfl ?_
                  exact v_sub [0] rfl (w_f_X7_giant_j202 C h hK)
                · refine v_iload 195 C 7 5 dX7_giant_195 rfl ?_
                  refine v_goto 197 C 202 dX7_giant_197 (by decide) ?_
                  exact v_sub [0] rfl (w_f_X7_giant_j202 C h hK)
              · exact v_sub [0] rfl (w_f_X7_giant_j49 C h hK)
  · refine v_ldc 12 C dX7_giant_12 q_493 ?_
    cases h
    exact v_iret 14 C hK dX7_giant_14
theorem c_f_X7_giant (l : Launch) (G : Wld) (hG : GI G) (σ : Sto) (a1 : Int32) (a2 : Int32) (a3 : Int32) (a4 : Int32) (y : Sto × Int32) (h : f_X7_giant σ a1 a2 a3 a4 = some y) : Ct l G yX7_giant cX7_giant 11 (some .int) 6 [.ref (G.1 0), .int a1, .int a2, .int a3, .int a4] σ (some (.int y.2)) y.1 := by
  refine ct_intro RX7 hG (by decide) rfl (Nat.le_of_ble_eq_true rfl) (fun X hX C hK => ?_)
  subst hX
  exact w_f_X7_giant C h hK
theorem r_f_X7_giant {G : Wld} {X : Cxt} {own : String} {cc : ByteArray} {nL n : Nat} {σ : Sto} {lv : List (Nat × Value)} {st : List Value} {β : Type} {r : β} {F : Sto → Int32 → Option β} {a1 : Int32} {a2 : Int32} {a3 : Int32} {a4 : Int32} {ix : Nat} (pc : Nat) (C : Cx G X own cc nL n) (hn : 6 < n) (h1 : Cond.methodLink own ix yX7_giant ∈ lw_gd) (hd : decode cc pc = .ok (.invokevirtual ix, 3)) (hsum : (st.map fun v => v.category).sum ≤ 8) (h : bd2 (f_X7_giant σ a1 a2 a3 a4) F = some r) (kk : ∀ σ1 v, F σ1 v = some r → V G X nL σ1 lv (.int v :: st) (pc + 3)) : V G X nL σ lv (.int a4 :: .int a3 :: .int a2 :: .int a1 :: .ref (G.1 0) :: st) pc := by
  obtain ⟨z, hz, h⟩ := bd2_some h
  exact v_callV pc C 0 4 [.int a1, .int a2, .int a3, .int a4] st (c_f_X7_giant (xl X) G C.2.2.2.2.2.2.1 _ _ _ _ _ _ hz) hn (by decide) (by decide) (ce_0 G _ _) rfl (by decide +kernel) rfl h1 q_671 q_672 q_59 q_673 rfl hsum hd (kk _ _ h)
-- f_X5_lackOf_28
def f_X5_lackOf_28_l4 (x1 : Int32) (σ : Sto) (x2 : Int32) (x3 : Int32) : Option ((Sto × Int32 × Int32) ⊕ (Sto × Int32 × Int32)) :=
  if (σ.1 28 1) ≤ x3 then (some (.inr (σ, x2, x3))) else (gd (inB x3 7) (gd (inB x3 7) (bs (x2 + (iMax (0 : Int32) (x1 - ((σ.1 32 (x3).toNatClampNeg) - (σ.1 30 (x3).toNatClampNeg))))) fun z3 => bs (x3 + (1 : Int32)) fun z4 => some (.inl (σ, z3, z4)))))
def f_X5_lackOf_28 (σ : Sto) (a1 : Int32) : Option (Sto × Int32) :=
  bs (0 : Int32) fun z1 => bs (0 : Int32) fun z2 => bE2 (lpF (fun t => f_X5_lackOf_28_l4 a1 t.1 t.2.1 t.2.2) FU (σ, z1, z2)) (fun σ5 z6 z7 => some (σ5, z6))
theorem w_f_X5_lackOf_28_l4 {G : Wld} {X : Cxt} (C : Cx G X RX5 cX5_lackOf 4 1) {x1 : Int32} {σ : Sto} {x2 : Int32} {x3 : Int32} {y : (Sto × Int32 × Int32) ⊕ (Sto × Int32 × Int32)} (h : f_X5_lackOf_28_l4 x1 σ x2 x3 = some y) (hc : ∀ t : Sto × Int32 × Int32, y = .inl t → V G X 4 t.1 [(0, .ref (G.1 28)), (1, .int x1), (2, .int t.2.1), (3, .int t.2.2)] [] 4) {Ve : Sto × Int32 × Int32 → Prop} (he : ∀ e, y = .inr e → Ve e) (hx : ∀ (σ : Sto) (x2 : Int32) (x3 : Int32), Ve (σ, x2, x3) → V G X 4 σ [(0, .ref (G.1 28)), (1, .int x1), (2, .int x2), (3, .int x3)] [] 40) : V G X 4 σ [(0, .ref (G.1 28)), (1, .int x1), (2, .int x2), (3, .int x3)] [] 4 := by
  unfold f_X5_lackOf_28_l4 at h
  refine v_iload_n 4 C 3 3 dX5_lackOf_4 rfl rfl ?_
  refine v_aload_n 5 C 0 0 dX5_lackOf_5 rfl rfl ?_
  refine g_X5_28_1 6 C dX5_lackOf_6 ?_
  refine v_icmp_ge 9 C 40 dX5_lackOf_9 (by decide) h (fun h => ?_) (fun h => ?_)
  · exact v_sub [0, 1, 2, 3] rfl (hx _ _ _ (he _ (Option.some.inj h).symm))
  · refine v_iload_n 12 C 2 2 dX5_lackOf_12 rfl rfl ?_
    refine v_iconst 13 C (0 : Int32) dX5_lackOf_13 (by decide) ?_
    refine v_iload_n 14 C 1 1 dX5_lackOf_14 rfl rfl ?_
    refine v_aload_n 15 C 0 0 dX5_lackOf_15 rfl rfl ?_
    refine g_X5_28_7 16 C dX5_lackOf_16 ?_
    refine v_iload_n 19 C 3 3 dX5_lackOf_19 rfl rfl ?_
    refine v_iald 20 C 32 (by decide) (ce_32 G) dX5_lackOf_20 h (fun h => ?_)
    refine v_aload_n 21 C 0 0 dX5_lackOf_21 rfl rfl ?_
    refine g_X5_28_5 22 C dX5_lackOf_22 ?_
    refine v_iload_n 25 C 3 3 dX5_lackOf_25 rfl rfl ?_
    refine v_iald 26 C 30 (by decide) (ce_30 G) dX5_lackOf_26 h (fun h => ?_)
    refine v_isub 27 C dX5_lackOf_27 ?_
    refine v_isub 28 C dX5_lackOf_28 ?_
    refine v_max 29 C q_687 q_483 q_74 q_484 (Nat.le_of_ble_eq_true rfl) (by decide) dX5_lackOf_29 ?_
    refine v_iadd 32 C dX5_lackOf_32 ?_
    refine b_istore_n 33 C 2 (lv2 := fun z3 => [(2, .int z3), (0, .ref (G.1 28)), (1, .int x1), (3, .int x3)]) dX5_lackOf_33 rfl (by decide) (fun _ => rfl) h (fun z3 h => ?_)
    refine b_iinc 34 C 3 3 (1 : Int32) (lv2 := fun z4 => [(3, .int z4), (2, .int z3), (0, .ref (G.1 28)), (1, .int x1)]) dX5_lackOf_34 rfl (by decide) (by decide) (fun _ => rfl) h (fun z4 h => ?_)
    refine v_goto 37 C 4 dX5_lackOf_37 (by decide) ?_
    exact v_sub [2, 3, 1, 0] rfl (hc _ (Option.some.inj h).symm)
theorem w_f_X5_lackOf_28 {G : Wld} {X : Cxt} (C : Cx G X RX5 cX5_lackOf 4 1) {σ : Sto} {a1 : Int32} {y : Sto × Int32} (h : f_X5_lackOf_28 σ a1 = some y) (hK : Rx G X (some .int) (some (.int y.2)) y.1) : V G X 4 σ [(0, .ref (G.1 28)), (1, .int a1)] [] 0 := by
  unfold f_X5_lackOf_28 at h
  refine v_iconst 0 C (0 : Int32) dX5_lackOf_0 (by decide) ?_
  refine b_istore_n 1 C 2 (lv2 := fun z1 => [(2, .int z1), (0, .ref (G.1 28)), (1, .int a1)]) dX5_lackOf_1 rfl (by decide) (fun _ => rfl) h (fun z1 h => ?_)
  refine v_iconst 2 C (0 : Int32) dX5_lackOf_2 (by decide) ?_
  refine b_istore_n 3 C 3 (lv2 := fun z2 => [(3, .int z2), (2, .int z1), (0, .ref (G.1 28)), (1, .int a1)]) dX5_lackOf_3 rfl (by decide) (fun _ => rfl) h (fun z2 h => ?_)
  refine v_sub [2, 3, 1, 0] rfl ?_
  refine lp_go (Vh := fun t => V G X 4 t.1 [(0, .ref (G.1 28)), (1, .int a1), (2, .int t.2.1), (3, .int t.2.2)] [] 4) h ?_
  intro t8 y8 hy8 hc8 he8
  refine w_f_X5_lackOf_28_l4 C hy8 hc8 he8 (fun σ5 z6 z7 h => ?_)
  dsimp only at h
  refine v_iload_n 40 C 2 2 dX5_lackOf_40 rfl rfl ?_
  cases h
  exact v_iret 41 C hK dX5_lackOf_41
theorem c_f_X5_lackOf_28 (l : Launch) (G : Wld) (hG : GI G) (σ : Sto) (a1 : Int32) (y : Sto × Int32) (h : f_X5_lackOf_28 σ a1 = some y) : Ct l G yX5_lackOf cX5_lackOf 4 (some .int) 1 [.ref (G.1 28), .int a1] σ (some (.int y.2)) y.1 := by
  refine ct_intro RX5 hG (by decide) rfl (Nat.le_of_ble_eq_true rfl) (fun X hX C hK => ?_)
  subst hX
  exact w_f_X5_lackOf_28 C h hK
theorem r_f_X5_lackOf_28 {G : Wld} {X : Cxt} {own : String} {cc : ByteArray} {nL n : Nat} {σ : Sto} {lv : List (Nat × Value)} {st : List Value} {β : Type} {r : β} {F : Sto → Int32 → Option β} {a1 : Int32} {ix : Nat} (pc : Nat) (C : Cx G X own cc nL n) (hn : 1 < n) (h1 : Cond.methodLink own ix yX5_lackOf ∈ lw_gd) (hd : decode cc pc = .ok (.invokevirtual ix, 3)) (hsum : (st.map fun v => v.category).sum ≤ 8) (h : bd2 (f_X5_lackOf_28 σ a1) F = some r) (kk : ∀ σ1 v, F σ1 v = some r → V G X nL σ1 lv (.int v :: st) (pc + 3)) : V G X nL σ lv (.int a1 :: .ref (G.1 28) :: st) pc := by
  obtain ⟨z, hz, h⟩ := bd2_some h
  exact v_callV pc C 28 1 [.int a1] st (c_f_X5_lackOf_28 (xl X) G C.2.2.2.2.2.2.1 _ _ _ hz) hn (by decide) (by decide) (ce_28 G _ _) rfl (by decide +kernel) rfl h1 q_684 q_685 q_65 q_686 rfl hsum hd (kk _ _ h)
-- f_X7_peace
def f_X7_peace_j26 (σ : Sto) : Option (Sto × Int32) :=
  some (σ, (-1000000002 : Int32))
def f_X7_peace (σ : Sto) (a1 : Int32) (a2 : Int32) : Option (Sto × Int32) :=
  bd2 (f_X2_has_1 σ (1 : Int32) a1) fun σ1 v2 => if v2 = 0 then (some (σ1, (-1000000001 : Int32))) else (if a2 < 0 then (f_X7_peace_j26 σ1) else (if a2 ≤ (999 : Int32) then (bd1 (f_X7_showAt σ1 a1 (σ1.1 10 3)) fun σ3 => bd2 (f_X5_lackOf_28 σ3 a2) fun σ5 v6 => some (σ5, v6)) else (f_X7_peace_j26 σ1)))
theorem w_f_X7_peace_j26 {G : Wld} {X : Cxt} (C : Cx G X RX7 cX7_peace 3 6) {σ : Sto} {y : Sto × Int32} (h : f_X7_peace_j26 σ = some y) (hK : Rx G X (some .int) (some (.int y.2)) y.1) : V G X 3 σ [(0, .ref (G.1 0))] [] 26 := by
  unfold f_X7_peace_j26 at h
  refine v_ldc 26 C dX7_peace_26 q_323 ?_
  cases h
  exact v_iret 28 C hK dX7_peace_28
theorem w_f_X7_peace {G : Wld} {X : Cxt} (C : Cx G X RX7 cX7_peace 3 6) {σ : Sto} {a1 : Int32} {a2 : Int32} {y : Sto × Int32} (h : f_X7_peace σ a1 a2 = some y) (hK : Rx G X (some .int) (some (.int y.2)) y.1) : V G X 3 σ [(0, .ref (G.1 0)), (1, .int a1), (2, .int a2)] [] 0 := by
  unfold f_X7_peace at h
  refine v_aload_n 0 C 0 0 dX7_peace_0 rfl rfl ?_
  refine g_X7_0_0 1 C dX7_peace_1 ?_
  refine v_iconst 4 C (1 : Int32) dX7_peace_4 (by decide) ?_
  refine v_iload_n 5 C 1 1 dX7_peace_5 rfl rfl ?_
  refine r_f_X2_has_1 6 C (by decide) q_489 dX7_peace_6 (Nat.le_of_ble_eq_true rfl) h (fun σ1 v2 h => ?_)
  refine v_if_ne 9 C 15 dX7_peace_9 (by decide) h (fun h => ?_) (fun h => ?_)
  · refine v_iload_n 15 C 2 2 dX7_peace_15 rfl rfl ?_
    refine v_if_lt 16 C 26 dX7_peace_16 (by decide) h (fun h => ?_) (fun h => ?_)
    · exact v_sub [0] rfl (w_f_X7_peace_j26 C h hK)
    · refine v_iload_n 19 C 2 2 dX7_peace_19 rfl rfl ?_
      refine v_sipush 20 C (999 : Int32) dX7_peace_20 (by decide) ?_
      refine v_icmp_le 23 C 29 dX7_peace_23 (by decide) h (fun h => ?_) (fun h => ?_)
      · refine v_aload_n 29 C 0 0 dX7_peace_29 rfl rfl ?_
        refine v_iload_n 30 C 1 1 dX7_peace_30 rfl rfl ?_
        refine v_aload_n 31 C 0 0 dX7_peace_31 rfl rfl ?_
        refine g_X7_0_2 32 C dX7_peace_32 ?_
        refine g_X7_10_3 35 C dX7_peace_35 ?_
        refine r_f_X7_showAt 38 C (by decide) q_532 dX7_peace_38 (Nat.le_of_ble_eq_true rfl) h (fun σ3 h => ?_)
        refine v_aload_n 41 C 0 0 dX7_peace_41 rfl rfl ?_
        refine g_X7_0_7 42 C dX7_peace_42 ?_
        refine v_iload_n 45 C 2 2 dX7_peace_45 rfl rfl ?_
        refine r_f_X5_lackOf_28 46 C (by decide) q_683 dX7_peace_46 (Nat.le_of_ble_eq_true rfl) h (fun σ5 v6 h => ?_)
        cases h
        exact v_iret 49 C hK dX7_peace_49
      · exact v_sub [0] rfl (w_f_X7_peace_j26 C h hK)
  · refine v_ldc 12 C dX7_peace_12 q_493 ?_
    cases h
    exact v_iret 14 C hK dX7_peace_14
theorem c_f_X7_peace (l : Launch) (G : Wld) (hG : GI G) (σ : Sto) (a1 : Int32) (a2 : Int32) (y : Sto × Int32) (h : f_X7_peace σ a1 a2 = some y) : Ct l G yX7_peace cX7_peace 3 (some .int) 6 [.ref (G.1 0), .int a1, .int a2] σ (some (.int y.2)) y.1 := by
  refine ct_intro RX7 hG (by decide) rfl (Nat.le_of_ble_eq_true rfl) (fun X hX C hK => ?_)
  subst hX
  exact w_f_X7_peace C h hK
theorem r_f_X7_peace {G : Wld} {X : Cxt} {own : String} {cc : ByteArray} {nL n : Nat} {σ : Sto} {lv : List (Nat × Value)} {st : List Value} {β : Type} {r : β} {F : Sto → Int32 → Option β} {a1 : Int32} {a2 : Int32} {ix : Nat} (pc : Nat) (C : Cx G X own cc nL n) (hn : 6 < n) (h1 : Cond.methodLink own ix yX7_peace ∈ lw_gd) (hd : decode cc pc = .ok (.invokevirtual ix, 3)) (hsum : (st.map fun v => v.category).sum ≤ 8) (h : bd2 (f_X7_peace σ a1 a2) F = some r) (kk : ∀ σ1 v, F σ1 v = some r → V G X nL σ1 lv (.int v :: st) (pc + 3)) : V G X nL σ lv (.int a2 :: .int a1 :: .ref (G.1 0) :: st) pc := by
  obtain ⟨z, hz, h⟩ := bd2_some h
  exact v_callV pc C 0 2 [.int a1, .int a2] st (c_f_X7_peace (xl X) G C.2.2.2.2.2.2.1 _ _ _ _ hz) hn (by decide) (by decide) (ce_0 G _ _) rfl (by decide +kernel) rfl h1 q_680 q_681 q_59 q_682 rfl hsum hd (kk _ _ h)
-- f_X7_bread
def f_X7_bread_j26 (σ : Sto) : Option (Sto × Int32) :=
  some (σ, (-1000000002 : Int32))
def f_X7_bread_l46 (x2 : Int32) (σ : Sto) (x3 : Int32) (x4 : Int32) : Option ((Sto × Int32 × Int32) ⊕ (Sto × Int32 × Int32)) :=
  if (999 : Int32) < x4 then (some (.inr (σ, x3, x4))) else (bd2 (f_X5_lackOf_28 σ x4) fun σ7 v8 => if x2 < v8 then (some (.inr (σ7, x3, x4))) else (bs x4 fun z9 => bs (x4 + (1 : Int32)) fun z10 => some (.inl (σ7, z9, z10))))
def f_X7_bread (σ : Sto) (a1 : Int32) (a2 : Int32) : Option (Sto × Int32) :=
  bd2 (f_X2_has_1 σ (1 : Int32) a1) fun σ1 v2 => if v2 = 0 then (some (σ1, (-1000000001 : Int32))) else (if a2 < 0 then (f_X7_bread_j26 σ1) else (if a2 ≤ (9999 : Int32) then (bd1 (f_X7_showAt σ1 a1 (σ1.1 10 3)) fun σ3 => bs (-1 : Int32) fun z5 => bs (0 : Int32) fun z6 => bE2 (lpF (fun t => f_X7_bread_l46 a2 t.1 t.2.1 t.2.2) FU (σ3, z5, z6)) (fun σ11 z12 z13 => some (σ11, z12))) else (f_X7_bread_j26 σ1)))
theorem w_f_X7_bread_j26 {G : Wld} {X : Cxt} (C : Cx G X RX7 cX7_bread 5 6) {σ : Sto} {y : Sto × Int32} (h : f_X7_bread_j26 σ = some y) (hK : Rx G X (some .int) (some (.int y.2)) y.1) : V G X 5 σ [(0, .ref (G.1 0))] [] 26 := by
  unfold f_X7_bread_j26 at h
  refine v_ldc 26 C dX7_bread_26 q_323 ?_
  cases h
  exact v_iret 28 C hK dX7_bread_28
theorem w_f_X7_bread_l46 {G : Wld} {X : Cxt} (C : Cx G X RX7 cX7_bread 5 6) {x2 : Int32} {σ : Sto} {x3 : Int32} {x4 : Int32} {y : (Sto × Int32 × Int32) ⊕ (Sto × Int32 × Int32)} (h : f_X7_bread_l46 x2 σ x3 x4 = some y) (hc : ∀ t : Sto × Int32 × Int32, y = .inl t → V G X 5 t.1 [(0, .ref (G.1 0)), (2, .int x2), (3, .int t.2.1), (4, .int t.2.2)] [] 46) {Ve : Sto × Int32 × Int32 → Prop} (he : ∀ e, y = .inr e → Ve e) (hx : ∀ (σ : Sto) (x3 : Int32) (x4 : Int32), Ve (σ, x3, x4) → V G X 5 σ [(0, .ref (G.1 0)), (2, .int x2), (3, .int x3), (4, .int x4)] [] 76) : V G X 5 σ [(0, .ref (G.1 0)), (2, .int x2), (3, .int x3), (4, .int x4)] [] 46 := by
  unfold f_X7_bread_l46 at h
  refine v_iload 46 C 4 3 dX7_bread_46 rfl ?_
  refine v_sipush 48 C (999 : Int32) dX7_bread_48 (by decide) ?_
  refine v_icmp_gt 51 C 76 dX7_bread_51 (by decide) h (fun h => ?_) (fun h => ?_)
  · exact v_sub [0, 1, 2, 3] rfl (hx _ _ _ (he _ (Option.some.inj h).symm))
  · refine v_aload_n 54 C 0 0 dX7_bread_54 rfl rfl ?_
    refine g_X7_0_7 55 C dX7_bread_55 ?_
    refine v_iload 58 C 4 3 dX7_bread_58 rfl ?_
    refine r_f_X5_lackOf_28 60 C (by decide) q_683 dX7_bread_60 (Nat.le_of_ble_eq_true rfl) h (fun σ7 v8 h => ?_)
    refine v_iload_n 63 C 2 1 dX7_bread_63 rfl rfl ?_
    refine v_icmp_gt 64 C 76 dX7_bread_64 (by decide) h (fun h => ?_) (fun h => ?_)
    · exact v_sub [0, 1, 2, 3] rfl (hx _ _ _ (he _ (Option.some.inj h).symm))
    · refine v_iload 67 C 4 3 dX7_bread_67 rfl ?_
      refine b_istore_n 69 C 3 (lv2 := fun z9 => [(3, .int z9), (0, .ref (G.1 0)), (2, .int x2), (4, .int x4)]) dX7_bread_69 rfl (by decide) (fun _ => rfl) h (fun z9 h => ?_)
      refine b_iinc 70 C 4 3 (1 : Int32) (lv2 := fun z10 => [(4, .int z10), (3, .int z9), (0, .ref (G.1 0)), (2, .int x2)]) dX7_bread_70 rfl (by decide) (by decide) (fun _ => rfl) h (fun z10 h => ?_)
      refine v_goto 73 C 46 dX7_bread_73 (by decide) ?_
      exact v_sub [2, 3, 1, 0] rfl (hc _ (Option.some.inj h).symm)
theorem w_f_X7_bread {G : Wld} {X : Cxt} (C : Cx G X RX7 cX7_bread 5 6) {σ : Sto} {a1 : Int32} {a2 : Int32} {y : Sto × Int32} (h : f_X7_bread σ a1 a2 = some y) (hK : Rx G X (some .int) (some (.int y.2)) y.1) : V G X 5 σ [(0, .ref (G.1 0)), (1, .int a1), (2, .int a2)] [] 0 := by
  unfold f_X7_bread at h
  refine v_aload_n 0 C 0 0 dX7_bread_0 rfl rfl ?_
  refine g_X7_0_0 1 C dX7_bread_1 ?_
  refine v_iconst 4 C (1 : Int32) dX7_bread_4 (by decide) ?_
  refine v_iload_n 5 C 1 1 dX7_bread_5 rfl rfl ?_
  refine r_f_X2_has_1 6 C (by decide) q_489 dX7_bread_6 (Nat.le_of_ble_eq_true rfl) h (fun σ1 v2 h => ?_)
  refine v_if_ne 9 C 15 dX7_bread_9 (by decide) h (fun h => ?_) (fun h => ?_)
  · refine v_iload_n 15 C 2 2 dX7_bread_15 rfl rfl ?_
    refine v_if_lt 16 C 26 dX7_bread_16 (by decide) h (fun h => ?_) (fun h => ?_)
    · exact v_sub [0] rfl (w_f_X7_bread_j26 C h hK)
    · refine v_iload_n 19 C 2 2 dX7_bread_19 rfl rfl ?_
      refine v_sipush 20 C (9999 : Int32) dX7_bread_20 (by decide) ?_
      refine v_icmp_le 23 C 29 dX7_bread_23 (by decide) h (fun h => ?_) (fun h => ?_)
      · refine v_aload_n 29 C 0 0 dX7_bread_29 rfl rfl ?_
        refine v_iload_n 30 C 1 1 dX7_bread_30 rfl rfl ?_
        refine v_aload_n 31 C 0 0 dX7_bread_31 rfl rfl ?_
        refine g_X7_0_2 32 C dX7_bread_32 ?_
        refine g_X7_10_3 35 C dX7_bread_35 ?_
        refine r_f_X7_showAt 38 C (by decide) q_532 dX7_bread_38 (Nat.le_of_ble_eq_true rfl) h (fun σ3 h => ?_)
        refine v_iconst 41 C (-1 : Int32) dX7_bread_41 (by decide) ?_
        refine b_istore_n 42 C 3 (lv2 := fun z5 => [(3, .int z5), (0, .ref (G.1 0)), (1, .int a1), (2, .int a2)]) dX7_bread_42 rfl (by decide) (fun _ => rfl) h (fun z5 h => ?_)
        refine v_iconst 43 C (0 : Int32) dX7_bread_43 (by decide) ?_
        refine b_istore 44 C 4 (lv2 := fun z6 => [(4, .int z6), (3, .int z5), (0, .ref (G.1 0)), (1, .int a1), (2, .int a2)]) dX7_bread_44 (by decide) (fun _ => rfl) h (fun z6 h => ?_)
        refine v_sub [2, 4, 1, 0] rfl ?_
        refine lp_go (Vh := fun t => V G X 5 t.1 [(0, .ref (G.1 0)), (2, .int a2), (3, .int t.2.1), (4, .int t.2.2)] [] 46) h ?_
        intro t14 y14 hy14 hc14 he14
        refine w_f_X7_bread_l46 C hy14 hc14 he14 (fun σ11 z12 z13 h => ?_)
        dsimp only at h
        refine v_iload_n 76 C 3 2 dX7_bread_76 rfl rfl ?_
        cases h
        exact v_iret 77 C hK dX7_bread_77
      · exact v_sub [0] rfl (w_f_X7_bread_j26 C h hK)
  · refine v_ldc 12 C dX7_bread_12 q_493 ?_
    cases h
    exact v_iret 14 C hK dX7_bread_14
theorem c_f_X7_bread (l : Launch) (G : Wld) (hG : GI G) (σ : Sto) (a1 : Int32) (a2 : Int32) (y : Sto × Int32) (h : f_X7_bread σ a1 a2 = some y) : Ct l G yX7_bread cX7_bread 5 (some .int) 6 [.ref (G.1 0), .int a1, .int a2] σ (some (.int y.2)) y.1 := by
  refine ct_intro RX7 hG (by decide) rfl (Nat.le_of_ble_eq_true rfl) (fun X hX C hK => ?_)
  subst hX
  exact w_f_X7_bread C h hK
theorem r_f_X7_bread {G : Wld} {X : Cxt} {own : String} {cc : ByteArray} {nL n : Nat} {σ : Sto} {lv : List (Nat × Value)} {st : List Value} {β : Type} {r : β} {F : Sto → Int32 → Option β} {a1 : Int32} {a2 : Int32} {ix : Nat} (pc : Nat) (C : Cx G X own cc nL n) (hn : 6 < n) (h1 : Cond.methodLink own ix yX7_bread ∈ lw_gd) (hd : decode cc pc = .ok (.invokevirtual ix, 3)) (hsum : (st.map fun v => v.category).sum ≤ 8) (h : bd2 (f_X7_bread σ a1 a2) F = some r) (kk : ∀ σ1 v, F σ1 v = some r → V G X nL σ1 lv (.int v :: st) (pc + 3)) : V G X nL σ lv (.int a2 :: .int a1 :: .ref (G.1 0) :: st) pc := by
  obtain ⟨z, hz, h⟩ := bd2_some h
  exact v_callV pc C 0 2 [.int a1, .int a2] st (c_f_X7_bread (xl X) G C.2.2.2.2.2.2.1 _ _ _ _ hz) hn (by decide) (by decide) (ce_0 G _ _) rfl (by decide +kernel) rfl h1 q_689 q_690 q_59 q_691 rfl hsum hd (kk _ _ h)
-- f_X7_almsOnDay
def f_X7_almsOnDay_l5 (x1 : Int32) (x2 : Int32) (σ : Sto) (x3 : Int32) (x4 : Int32) : Option ((Sto × Int32 × Int32) ⊕ (Sto × Int32 × Int32)) :=
  bd2 (f_X2_count_1 σ (1 : Int32)) fun σ3 v4 => if v4 ≤ x4 then (some (.inr (σ3, x3, x4))) else (bd1 (f_X7_showAt σ3 x4 x2) fun σ5 => bd2 (f_X5_almsOf_28 σ5 x1) fun σ7 v8 => bs (x3 + v8) fun z9 => bs (x4 + (1 : Int32)) fun z10 => some (.inl (σ7, z9, z10)))
def f_X7_almsOnDay (σ : Sto) (a1 : Int32) (a2 : Int32) : Option (Sto × Int32) :=
  bs (0 : Int32) fun z1 => bs (0 : Int32) fun z2 => bE2 (lpF (fun t => f_X7_almsOnDay_l5 a1 a2 t.1 t.2.1 t.2.2) FU (σ, z1, z2)) (fun σ11 z12 z13 => some (σ11, z12))
theorem w_f_X7_almsOnDay_l5 {G : Wld} {X : Cxt} (C : Cx G X RX7 cX7_almsOnDay 5 6) {x1 : Int32} {x2 : Int32} {σ : Sto} {x3 : Int32} {x4 : Int32} {y : (Sto × Int32 × Int32) ⊕ (Sto × Int32 × Int32)} (h : f_X7_almsOnDay_l5 x1 x2 σ x3 x4 = some y) (hc : ∀ t : Sto × Int32 × Int32, y = .inl t → V G X 5 t.1 [(0, .ref (G.1 0)), (1, .int x1), (2, .int x2), (3, .int t.2.1), (4, .int t.2.2)] [] 5) {Ve : Sto × Int32 × Int32 → Prop} (he : ∀ e, y = .inr e → Ve e) (hx : ∀ (σ : Sto) (x3 : Int32) (x4 : Int32), Ve (σ, x3, x4) → V G X 5 σ [(0, .ref (G.1 0)), (1, .int x1), (2, .int x2), (3, .int x3), (4, .int x4)] [] 42) : V G X 5 σ [(0, .ref (G.1 0)), (1, .int x1), (2, .int x2), (3, .int x3), (4, .int x4)] [] 5 := by
  unfold f_X7_almsOnDay_l5 at h
  refine v_iload 5 C 4 4 dX7_almsOnDay_5 rfl ?_
  refine v_aload_n 7 C 0 0 dX7_almsOnDay_7 rfl rfl ?_
  refine g_X7_0_0 8 C dX7_almsOnDay_8 ?_
  refine v_iconst 11 C (1 : Int32) dX7_almsOnDay_11 (by decide) ?_
  refine r_f_X2_count_1 12 C (by decide) q_464 dX7_almsOnDay_12 (Nat.le_of_ble_eq_true rfl) h (fun σ3 v4 h => ?_)
  refine v_icmp_ge 15 C 42 dX7_almsOnDay_15 (by decide) h (fun h => ?_) (fun h => ?_)
  · exact v_sub [0, 1, 2, 3, 4] rfl (hx _ _ _ (he _ (Option.some.inj h).symm))
  · refine v_aload_n 18 C 0 0 dX7_almsOnDay_18 rfl rfl ?_
    refine v_iload 19 C 4 4 dX7_almsOnDay_19 rfl ?_
    refine v_iload_n 21 C 2 2 dX7_almsOnDay_21 rfl rfl ?_
    refine r_f_X7_showAt 22 C (by decide) q_532 dX7_almsOnDay_22 (Nat.le_of_ble_eq_true rfl) h (fun σ5 h => ?_)
    refine v_iload_n 25 C 3 3 dX7_almsOnDay_25 rfl rfl ?_
    refine v_aload_n 26 C 0 0 dX7_almsOnDay_26 rfl rfl ?_
    refine g_X7_0_7 27 C dX7_almsOnDay_27 ?_
    refine v_iload_n 30 C 1 1 dX7_almsOnDay_30 rfl rfl ?_
    refine r_f_X5_almsOf_28 31 C (by decide) q_573 dX7_almsOnDay_31 (Nat.le_of_ble_eq_true rfl) h (fun σ7 v8 h => ?_)
    refine v_iadd 34 C dX7_almsOnDay_34 ?_
    refine b_istore_n 35 C 3 (lv2 := fun z9 => [(3, .int z9), (0, .ref (G.1 0)), (1, .int x1), (2, .int x2), (4, .int x4)]) dX7_almsOnDay_35 rfl (by decide) (fun _ => rfl) h (fun z9 h => ?_)
    refine b_iinc 36 C 4 4 (1 : Int32) (lv2 := fun z10 => [(4, .int z10), (3, .int z9), (0, .ref (G.1 0)), (1, .int x1), (2, .int x2)]) dX7_almsOnDay_36 rfl (by decide) (by decide) (fun _ => rfl) h (fun z10 h => ?_)
    refine v_goto 39 C 5 dX7_almsOnDay_39 (by decide) ?_
    exact v_sub [2, 3, 4, 1, 0] rfl (hc _ (Option.some.inj h).symm)
theorem w_f_X7_almsOnDay {G : Wld} {X : Cxt} (C : Cx G X RX7 cX7_almsOnDay 5 6) {σ : Sto} {a1 : Int32} {a2 : Int32} {y : Sto × Int32} (h : f_X7_almsOnDay σ a1 a2 = some y) (hK : Rx G X (some .int) (some (.int y.2)) y.1) : V G X 5 σ [(0, .ref (G.1 0)), (1, .int a1), (2, .int a2)] [] 0 := by
  unfold f_X7_almsOnDay at h
  refine v_iconst 0 C (0 : Int32) dX7_almsOnDay_0 (by decide) ?_
  refine b_istore_n 1 C 3 (lv2 := fun z1 => [(3, .int z1), (0, .ref (G.1 0)), (1, .int a1), (2, .int a2)]) dX7_almsOnDay_1 rfl (by decide) (fun _ => rfl) h (fun z1 h => ?_)
  refine v_iconst 2 C (0 : Int32) dX7_almsOnDay_2 (by decide) ?_
  refine b_istore 3 C 4 (lv2 := fun z2 => [(4, .int z2), (3, .int z1), (0, .ref (G.1 0)), (1, .int a1), (2, .int a2)]) dX7_almsOnDay_3 (by decide) (fun _ => rfl) h (fun z2 h => ?_)
  refine v_sub [2, 3, 4, 1, 0] rfl ?_
  refine lp_go (Vh := fun t => V G X 5 t.1 [(0, .ref (G.1 0)), (1, .int a1), (2, .int a2), (3, .int t.2.1), (4, .int t.2.2)] [] 5) h ?_
  intro t14 y14 hy14 hc14 he14
  refine w_f_X7_almsOnDay_l5 C hy14 hc14 he14 (fun σ11 z12 z13 h => ?_)
  dsimp only at h
  refine v_iload_n 42 C 3 3 dX7_almsOnDay_42 rfl rfl ?_
  cases h
  exact v_iret 43 C hK dX7_almsOnDay_43
theorem c_f_X7_almsOnDay (l : Launch) (G : Wld) (hG : GI G) (σ : Sto) (a1 : Int32) (a2 : Int32) (y : Sto × Int32) (h : f_X7_almsOnDay σ a1 a2 = some y) : Ct l G yX7_almsOnDay cX7_almsOnDay 5 (some .int) 6 [.ref (G.1 0), .int a1, .int a2] σ (some (.int y.2)) y.1 := by
  refine ct_intro RX7 hG (by decide) rfl (Nat.le_of_ble_eq_true rfl) (fun X hX C hK => ?_)
  subst hX
  exact w_f_X7_almsOnDay C h hK
theorem r_f_X7_almsOnDay {G : Wld} {X : Cxt} {own : String} {cc : ByteArray} {nL n : Nat} {σ : Sto} {lv : List (Nat × Value)} {st : List Value} {β : Type} {r : β} {F : Sto → Int32 → Option β} {a1 : Int32} {a2 : Int32} {ix : Nat} (pc : Nat) (C : Cx G X own cc nL n) (hn : 6 < n) (h1 : Cond.methodLink own ix yX7_almsOnDay ∈ lw_gd) (hd : decode cc pc = .ok (.invokevirtual ix, 3)) (hsum : (st.map fun v => v.category).sum ≤ 8) (h : bd2 (f_X7_almsOnDay σ a1 a2) F = some r) (kk : ∀ σ1 v, F σ1 v = some r → V G X nL σ1 lv (.int v :: st) (pc + 3)) : V G X nL σ lv (.int a2 :: .int a1 :: .ref (G.1 0) :: st) pc := by
  obtain ⟨z, hz, h⟩ := bd2_some h
  exact v_callV pc C 0 2 [.int a1, .int a2] st (c_f_X7_almsOnDay (xl X) G C.2.2.2.2.2.2.1 _ _ _ _ hz) hn (by decide) (by decide) (ce_0 G _ _) rfl (by decide +kernel) rfl h1 q_698 q_20 q_59 q_699 rfl hsum hd (kk _ _ h)
-- f_X7_best
def f_X7_best_j24 (σ : Sto) : Option (Sto × Int32) :=
  some (σ, (-1000000002 : Int32))
def f_X7_best_j75 (σ : Sto) (x1 : Int32) (x2 : Int32) (x3 : Int32) (x4 : Int32) (x5 : Int32) : Option ((Sto × Int32 × Int32 × Int32) ⊕ (Sto × Int32 × Int32 × Int32)) :=
  bs (x5 + (1 : Int32)) fun z13 => some (.inl (σ, x3, x4, z13))
def f_X7_best_l40 (x1 : Int32) (x2 : Int32) (σ : Sto) (x3 : Int32) (x4 : Int32) (x5 : Int32) : Option ((Sto × Int32 × Int32 × Int32) ⊕ (Sto × Int32 × Int32 × Int32)) :=
  bd2 (f_X2_days_1 σ) fun σ8 v9 => if v9 ≤ x5 then (some (.inr (σ8, x3, x4, x5))) else (bd2 (f_X7_almsOnDay σ8 x1 x5) fun σ10 v11 => bs v11 fun z12 => if z12 ≤ x4 then (f_X7_best_j75 σ10 x1 x2 x3 x4 x5) else (bs x5 fun z14 => bs z12 fun z15 => f_X7_best_j75 σ10 x1 x2 z14 z15 x5))
def f_X7_best_j91 (σ : Sto) (s0 : Int32) : Option (Sto × Int32) :=
  some (σ, s0)
def f_X7_best (σ : Sto) (a1 : Int32) (a2 : Int32) : Option (Sto × Int32) :=
  bd2 (f_X2_has_1 σ (3 : Int32) a1) fun σ1 v2 => if v2 = 0 then (some (σ1, (-1000000001 : Int32))) else (if a2 < 0 then (f_X7_best_j24 σ1) else (if a2 ≤ (1 : Int32) then (bs (0 : Int32) fun z3 => bd2 (f_X7_almsOnDay σ1 a1 (0 : Int32)) fun σ4 v5 => bs v5 fun z6 => bs (1 : Int32) fun z7 => bE3 (lpF (fun t => f_X7_best_l40 a1 a2 t.1 t.2.1 t.2.2.1 t.2.2.2) FU (σ4, z3, z6, z7)) (fun σ16 z17 z18 z19 => if a2 = 0 then (f_X7_best_j91 σ16 z17) else (f_X7_best_j91 σ16 z18))) else (f_X7_best_j24 σ1)))
theorem w_f_X7_best_j24 {G : Wld} {X : Cxt} (C : Cx G X RX7 cX7_best 7 7) {σ : Sto} {y : Sto × Int32} (h : f_X7_best_j24 σ = some y) (hK : Rx G X (some .int) (some (.int y.2)) y.1) : V G X 7 σ [(0, .ref (G.1 0))] [] 24 := by
  unfold f_X7_best_j24 at h
  refine v_ldc 24 C dX7_best_24 q_323 ?_
  cases h
  exact v_iret 26 C hK dX7_best_26
theorem w_f_X7_best_j75 {G : Wld} {X : Cxt} (C : Cx G X RX7 cX7_best 7 7) {σ : Sto} {x1 : Int32} {x2 : Int32} {x3 : Int32} {x4 : Int32} {x5 : Int32} {y : (Sto × Int32 × Int32 × Int32) ⊕ (Sto × Int32 × Int32 × Int32)} (h : f_X7_best_j75 σ x1 x2 x3 x4 x5 = some y) (hc : ∀ t : Sto × Int32 × Int32 × Int32, y = .inl t → V G X 7 t.1 [(0, .ref (G.1 0)), (1, .int x1), (2, .int x2), (3, .int t.2.1), (4, .int t.2.2.1), (5, .int t.2.2.2)] [] 40) {Ve : Sto × Int32 × Int32 × Int32 → Prop} (he : ∀ e, y = .inr e → Ve e) (hx : ∀ (σ : Sto) (x3 : Int32) (x4 : Int32) (x5 : Int32), Ve (σ, x3, x4, x5) → V G X 7 σ [(0, .ref (G.1 0)), (1, .int x1), (2, .int x2), (3, .int x3), (4, .int x4), (5, .int x5)] [] 81) : V G X 7 σ [(0, .ref (G.1 0)), (1, .int x1), (2, .int x2), (3, .int x3), (4, .int x4), (5, .int x5)] [] 75 := by
  unfold f_X7_best_j75 at h
  refine b_iinc 75 C 5 5 (1 : Int32) (lv2 := fun z13 => [(5, .int z13), (0, .ref (G.1 0)), (1, .int x1), (2, .int x2), (3, .int x3), (4, .int x4)]) dX7_best_75 rfl (by decide) (by decide) (fun _ => rfl) h (fun z13 h => ?_)
  refine v_goto 78 C 40 dX7_best_78 (by decide) ?_
  exact v_sub [1, 2, 3, 4, 5, 0] rfl (hc _ (Option.some.inj h).symm)
theorem w_f_X7_best_l40 {G : Wld} {X : Cxt} (C : Cx G X RX7 cX7_best 7 7) {x1 : Int32} {x2 : Int32} {σ : Sto} {x3 : Int32} {x4 : Int32} {x5 : Int32} {y : (Sto × Int32 × Int32 × Int32) ⊕ (Sto × Int32 × Int32 × Int32)} (h : f_X7_best_l40 x1 x2 σ x3 x4 x5 = some y) (hc : ∀ t : Sto × Int32 × Int32 × Int32, y = .inl t → V G X 7 t.1 [(0, .ref (G.1 0)), (1, .int x1), (2, .int x2), (3, .int t.2.1), (4, .int t.2.2.1), (5, .int t.2.2.2)] [] 40) {Ve : Sto × Int32 × Int32 × Int32 → Prop} (he : ∀ e, y = .inr e → Ve e) (hx : ∀ (σ : Sto) (x3 : Int32) (x4 : Int32) (x5 : Int32), Ve (σ, x3, x4, x5) → V G X 7 σ [(0, .ref (G.1 0)), (1, .int x1), (2, .int x2), (3, .int x3), (4, .int x4), (5, .int x5)] [] 81) : V G X 7 σ [(0, .ref (G.1 0)), (1, .int x1), (2, .int x2), (3, .int x3), (4, .int x4), (5, .int x5)] [] 40 := by
  unfold f_X7_best_l40 at h
  refine v_iload 40 C 5 5 dX7_best_40 rfl ?_
  refine v_aload_n 42 C 0 0 dX7_best_42 rfl rfl ?_
  refine g_X7_0_0 43 C dX7_best_43 ?_
  refine r_f_X2_days_1 46 C (by decide) q_474 dX7_best_46 (Nat.le_of_ble_eq_true rfl) h (fun σ8 v9 h => ?_)
  refine v_icmp_ge 49 C 81 dX7_best_49 (by decide) h (fun h => ?_) (fun h => ?_)
  · exact v_sub [0, 1, 2, 3, 4, 5] rfl (hx _ _ _ _ (he _ (Option.some.inj h).symm))
  · refine v_aload_n 52 C 0 0 dX7_best_52 rfl rfl ?_
    refine v_iload_n 53 C 1 1 dX7_best_53 rfl rfl ?_
    refine v_iload 54 C 5 5 dX7_best_54 rfl ?_
    refine r_f_X7_almsOnDay 56 C (by decide) q_696 dX7_best_56 (Nat.le_of_ble_eq_true rfl) h (fun σ10 v11 h => ?_)
    refine b_istore 59 C 6 (lv2 := fun z12 => [(6, .int z12), (0, .ref (G.1 0)), (1, .int x1), (2, .int x2), (3, .int x3), (4, .int x4), (5, .int x5)]) dX7_best_59 (by decide) (fun _ => rfl) h (fun z12 h => ?_)
    refine v_iload 61 C 6 0 dX7_best_61 rfl ?_
    refine v_iload 63 C 4 5 dX7_best_63 rfl ?_
    refine v_icmp_le 65 C 75 dX7_best_65 (by decide) h (fun h => ?_) (fun h => ?_)
    · exact v_sub [1, 2, 3, 4, 5, 6] rfl (w_f_X7_best_j75 C h hc he hx)
    · refine v_iload 68 C 5 6 dX7_best_68 rfl ?_
      refine b_istore_n 70 C 3 (lv2 := fun z14 => [(3, .int z14), (6, .int z12), (0, .ref (G.1 0)), (1, .int x1), (2, .int x2), (4, .int x4), (5, .int x5)]) dX7_best_70 rfl (by decide) (fun _ => rfl) h (fun z14 h => ?_)
      refine v_iload 71 C 6 1 dX7_best_71 rfl ?_
      refine b_istore 73 C 4 (lv2 := fun z15 => [(4, .int z15), (3, .int z14), (6, .int z12), (0, .ref (G.1 0)), (1, .int x1), (2, .int x2), (5, .int x5)]) dX7_best_73 (by decide) (fun _ => rfl) h (fun z15 h => ?_)
      exact v_sub [3, 4, 5, 1, 0, 6] rfl (w_f_X7_best_j75 C h hc he hx)
theorem w_f_X7_best_j91 {G : Wld} {X : Cxt} (C : Cx G X RX7 cX7_best 7 7) {σ : Sto} {s0 : Int32} {y : Sto × Int32} (h : f_X7_best_j91 σ s0 = some y) (hK : Rx G X (some .int) (some (.int y.2)) y.1) : V G X 7 σ [(0, .ref (G.1 0))] [.int s0] 91 := by
  unfold f_X7_best_j91 at h
  cases h
  exact v_iret 91 C hK dX7_best_91
theorem w_f_X7_best {G : Wld} {X : Cxt} (C : Cx G X RX7 cX7_best 7 7) {σ : Sto} {a1 : Int32} {a2 : Int32} {y : Sto × Int32} (h : f_X7_best σ a1 a2 = some y) (hK : Rx G X (some .int) (some (.int y.2)) y.1) : V G X 7 σ [(0, .ref (G.1 0)), (1, .int a1), (2, .int a2)] [] 0 := by
  unfold f_X7_best at h
  refine v_aload_n 0 C 0 0 dX7_best_0 rfl rfl ?_
  refine g_X7_0_0 1 C dX7_best_1 ?_
  refine v_iconst 4 C (3 : Int32) dX7_best_4 (by decide) ?_
  refine v_iload_n 5 C 1 1 dX7_best_5 rfl rfl ?_
  refine r_f_X2_has_1 6 C (by decide) q_489 dX7_best_6 (Nat.le_of_ble_eq_true rfl) h (fun σ1 v2 h => ?_)
  refine v_if_ne 9 C 15 dX7_best_9 (by decide) h (fun h => ?_) (fun h => ?_)
  · refine v_iload_n 15 C 2 2 dX7_best_15 rfl rfl ?_
    refine v_if_lt 16 C 24 dX7_best_16 (by decide) h (fun h => ?_) (fun h => ?_)
    · exact v_sub [0] rfl (w_f_X7_best_j24 C h hK)
    · refine v_iload_n 19 C 2 2 dX7_best_19 rfl rfl ?_
      refine v_iconst 20 C (1 : Int32) dX7_best_20 (by decide) ?_
      refine v_icmp_le 21 C 27 dX7_best_21 (by decide) h (fun h => ?_) (fun h => ?_)
      · refine v_iconst 27 C (0 : Int32) dX7_best_27 (by decide) ?_
        refine b_istore_n 28 C 3 (lv2 := fun z3 => [(3, .int z3), (0, .ref (G.1 0)), (1, .int a1), (2, .int a2)]) dX7_best_28 rfl (by decide) (fun _ => rfl) h (fun z3 h => ?_)
        refine v_aload_n 29 C 0 1 dX7_best_29 rfl rfl ?_
        refine v_iload_n 30 C 1 2 dX7_best_30 rfl rfl ?_
        refine v_iconst 31 C (0 : Int32) dX7_best_31 (by decide) ?_
        refine r_f_X7_almsOnDay 32 C (by decide) q_696 dX7_best_32 (Nat.le_of_ble_eq_true rfl) h (fun σ4 v5 h => ?_)
        refine b_istore 35 C 4 (lv2 := fun z6 => [(4, .int z6), (3, .int z3), (0, .ref (G.1 0)), (1, .int a1), (2, .int a2)]) dX7_best_35 (by decide) (fun _ => rfl) h (fun z6 h => ?_)
        refine v_iconst 37 C (1 : Int32) dX7_best_37 (by decide) ?_
        refine b_istore 38 C 5 (lv2 := fun z7 => [(5, .int z7), (4, .int z6), (3, .int z3), (0, .ref (G.1 0)), (1, .int a1), (2, .int a2)]) dX7_best_38 (by decide) (fun _ => rfl) h (fun z7 h => ?_)
        refine v_sub [3, 4, 5, 2, 1, 0] rfl ?_
        refine lp_go (Vh := fun t => V G X 7 t.1 [(0, .ref (G.1 0)), (1, .int a1), (2, .int a2), (3, .int t.2.1), (4, .int t.2.2.1), (5, .int t.2.2.2)] [] 40) h ?_
        intro t20 y20 hy20 hc20 he20
        refine w_f_X7_best_l40 C hy20 hc20 he20 (fun σ16 z17 z18 z19 h => ?_)
        dsimp only at h
        refine v_iload_n 81 C 2 2 dX7_best_81 rfl rfl ?_
        refine v_if_ne 82 C 89 dX7_best_82 (by decide) h (fun h => ?_) (fun h => ?_)
        · refine v_iload 89 C 4 4 dX7_best_89 rfl ?_
          exact v_sub [0] rfl (w_f_X7_best_j91 C h hK)
        · refine v_iload_n 85 C 3 3 dX7_best_85 rfl rfl ?_
          refine v_goto 86 C 91 dX7_best_86 (by decide) ?_
          exact v_sub [0] rfl (w_f_X7_best_j91 C h hK)
      · exact v_sub [0] rfl (w_f_X7_best_j24 C h hK)
  · refine v_ldc 12 C dX7_best_12 q_493 ?_
    cases h
    exact v_iret 14 C hK dX7_best_14
theorem c_f_X7_best (l : Launch) (G : Wld) (hG : GI G) (σ : Sto) (a1 : Int32) (a2 : Int32) (y : Sto × Int32) (h : f_X7_best σ a1 a2 = some y) : Ct l G yX7_best cX7_best 7 (some .int) 7 [.ref (G.1 0), .int a1, .int a2] σ (some (.int y.2)) y.1 := by
  refine ct_intro RX7 hG (by decide) rfl (Nat.le_of_ble_eq_true rfl) (fun X hX C hK => ?_)
  subst hX
  exact w_f_X7_best C h hK
theorem r_f_X7_best {G : Wld} {X : Cxt} {own : String} {cc : ByteArray} {nL n : Nat} {σ : Sto} {lv : List (Nat × Value)} {st : List Value} {β : Type} {r : β} {F : Sto → Int32 → Option β} {a1 : Int32} {a2 : Int32} {ix : Nat} (pc : Nat) (C : Cx G X own cc nL n) (hn : 7 < n) (h1 : Cond.methodLink own ix yX7_best ∈ lw_gd) (hd : decode cc pc = .ok (.invokevirtual ix, 3)) (hsum : (st.map fun v => v.category).sum ≤ 8) (h : bd2 (f_X7_best σ a1 a2) F = some r) (kk : ∀ σ1 v, F σ1 v = some r → V G X nL σ1 lv (.int v :: st) (pc + 3)) : V G X nL σ lv (.int a2 :: .int a1 :: .ref (G.1 0) :: st) pc := by
  obtain ⟨z, hz, h⟩ := bd2_some h
  exact v_callV pc C 0 2 [.int a1, .int a2] st (c_f_X7_best (xl X) G C.2.2.2.2.2.2.1 _ _ _ _ hz) hn (by decide) (by decide) (ce_0 G _ _) rfl (by decide +kernel) rfl h1 q_693 q_694 q_59 q_695 rfl hsum hd (kk _ _ h)
-- f_X4_isFull_24
def f_X4_isFull_24_j16 (σ : Sto) (s0 : Int32) : Option (Sto × Int32) :=
  gd (zB s0) (some (σ, s0))
def f_X4_isFull_24 (σ : Sto) : Option (Sto × Int32) :=
  if (σ.1 24 2) < (σ.1 24 0) then (f_X4_isFull_24_j16 σ (0 : Int32)) else (f_X4_isFull_24_j16 σ (1 : Int32))
theorem w_f_X4_isFull_24_j16 {G : Wld} {X : Cxt} (C : Cx G X RX4 cX4_isFull 1 1) {σ : Sto} {s0 : Int32} {y : Sto × Int32} (h : f_X4_isFull_24_j16 σ s0 = some y) (hK : Rx G X (some .boolean) (some (.int y.2)) y.1) : V G X 1 σ [(0, .ref (G.1 24))] [.int s0] 16 := by
  unfold f_X4_isFull_24_j16 at h
  obtain ⟨hz, h⟩ := gd_some h
  cases h
  exact v_zret 16 C (zB_nar hz) hK dX4_isFull_16
theorem w_f_X4_isFull_24 {G : Wld} {X : Cxt} (C : Cx G X RX4 cX4_isFull 1 1) {σ : Sto} {y : Sto × Int32} (h : f_X4_isFull_24 σ = some y) (hK : Rx G X (some .boolean) (some (.int y.2)) y.1) : V G X 1 σ [(0, .ref (G.1 24))] [] 0 := by
  unfold f_X4_isFull_24 at h
  refine v_aload_n 0 C 0 0 dX4_isFull_0 rfl rfl ?_
  refine g_X4_24_2 1 C dX4_isFull_1 ?_
  refine v_aload_n 4 C 0 0 dX4_isFull_4 rfl rfl ?_
  refine g_X4_24_0 5 C dX4_isFull_5 ?_
  refine v_icmp_lt 8 C 15 dX4_isFull_8 (by decide) h (fun h => ?_) (fun h => ?_)
  · refine v_iconst 15 C (0 : Int32) dX4_isFull_15 (by decide) ?_
    exact v_sub [0] rfl (w_f_X4_isFull_24_j16 C h hK)
  · refine v_iconst 11 C (1 : Int32) dX4_isFull_11 (by decide) ?_
    refine v_goto 12 C 16 dX4_isFull_12 (by decide) ?_
    exact v_sub [0] rfl (w_f_X4_isFull_24_j16 C h hK)
theorem c_f_X4_isFull_24 (l : Launch) (G : Wld) (hG : GI G) (σ : Sto) (y : Sto × Int32) (h : f_X4_isFull_24 σ = some y) : Ct l G yX4_isFull cX4_isFull 1 (some .boolean) 1 [.ref (G.1 24)] σ (some (.int y.2)) y.1 := by
  refine ct_intro RX4 hG (by decide) rfl (Nat.le_of_ble_eq_true rfl) (fun X hX C hK => ?_)
  subst hX
  exact w_f_X4_isFull_24 C h hK
theorem r_f_X4_isFull_24 {G : Wld} {X : Cxt} {own : String} {cc : ByteArray} {nL n : Nat} {σ : Sto} {lv : List (Nat × Value)} {st : List Value} {β : Type} {r : β} {F : Sto → Int32 → Option β} {ix : Nat} (pc : Nat) (C : Cx G X own cc nL n) (hn : 1 < n) (h1 : Cond.methodLink own ix yX4_isFull ∈ lw_gd) (hd : decode cc pc = .ok (.invokevirtual ix, 3)) (hsum : (st.map fun v => v.category).sum ≤ 8) (h : bd2 (f_X4_isFull_24 σ) F = some r) (kk : ∀ σ1 v, F σ1 v = some r → V G X nL σ1 lv (.int v :: st) (pc + 3)) : V G X nL σ lv (.ref (G.1 24) :: st) pc := by
  obtain ⟨z, hz, h⟩ := bd2_some h
  exact v_callV pc C 24 0 [] st (c_f_X4_isFull_24 (xl X) G C.2.2.2.2.2.2.1 _ _ hz) hn (by decide) (by decide) (ce_24 G _ _) rfl (by decide +kernel) rfl h1 q_705 q_706 q_64 q_707 rfl hsum hd (kk _ _ h)
-- f_X4_add_24
def f_X4_add_24_j76 (σ : Sto) : Option (Sto) :=
  some σ
def f_X4_add_24 (σ : Sto) (a1 : Int32) (a2 : Int32) (a3 : Int32) (a4 : Int32) : Option (Sto) :=
  if (σ.1 24 0) ≤ (σ.1 24 2) then (f_X4_add_24_j76 σ) else (gd (inB ((4 : Int32) * (σ.1 24 2)) 40) (bs (su σ 25 (((4 : Int32) * (σ.1 24 2))).toNatClampNeg a1) fun σ1 => gd (inB (((4 : Int32) * (σ1.1 24 2)) + (1 : Int32)) 40) (bs (su σ1 25 ((((4 : Int32) * (σ1.1 24 2)) + (1 : Int32))).toNatClampNeg a2) fun σ2 => gd (inB (((4 : Int32) * (σ2.1 24 2)) + (2 : Int32)) 40) (bs (su σ2 25 ((((4 : Int32) * (σ2.1 24 2)) + (2 : Int32))).toNatClampNeg a3) fun σ3 => gd (inB (((4 : Int32) * (σ3.1 24 2)) + (3 : Int32)) 40) (bs (su σ3 25 ((((4 : Int32) * (σ3.1 24 2)) + (3 : Int32))).toNatClampNeg a4) fun σ4 => bs (su σ4 24 2 ((σ4.1 24 2) + (1 : Int32))) fun σ5 => f_X4_add_24_j76 σ5)))))
theorem w_f_X4_add_24_j76 {G : Wld} {X : Cxt} (C : Cx G X RX4 cX4_add 5 1) {σ : Sto} {y : Sto} (h : f_X4_add_24_j76 σ = some y) (hK : Rx G X none none y) : V G X 5 σ [(0, .ref (G.1 24))] [] 76 := by
  unfold f_X4_add_24_j76 at h
  cases h
  exact v_vret 76 C hK dX4_add_76
theorem w_f_X4_add_24 {G : Wld} {X : Cxt} (C : Cx G X RX4 cX4_add 5 1) {σ : Sto} {a1 : Int32} {a2 : Int32} {a3 : Int32} {a4 : Int32} {y : Sto} (h : f_X4_add_24 σ a1 a2 a3 a4 = some y) (hK : Rx G X none none y) : V G X 5 σ [(0, .ref (G.1 24)), (1, .int a1), (2, .int a2), (3, .int a3), (4, .int a4)] [] 0 := by
  unfold f_X4_add_24 at h
  refine v_aload_n 0 C 0 0 dX4_add_0 rfl rfl ?_
  refine g_X4_24_2 1 C dX4_add_1 ?_
  refine v_aload_n 4 C 0 0 dX4_add_4 rfl rfl ?_
  refine g_X4_24_0 5 C dX4_add_5 ?_
  refine v_icmp_ge 8 C 76 dX4_add_8 (by decide) h (fun h => ?_) (fun h => ?_)
  · exact v_sub [0] rfl (w_f_X4_add_24_j76 C h hK)
  · refine v_aload_n 11 C 0 0 dX4_add_11 rfl rfl ?_
    refine g_X4_24_1 12 C dX4_add_12 ?_
    refine v_iconst 15 C (4 : Int32) dX4_add_15 (by decide) ?_
    refine v_aload_n 16 C 0 0 dX4_add_16 rfl rfl ?_
    refine g_X4_24_2 17 C dX4_add_17 ?_
    refine v_imul 20 C dX4_add_20 ?_
    refine v_iload_n 21 C 1 1 dX4_add_21 rfl rfl ?_
    refine b_iast 22 C 25 (by decide) (ce_25 G) dX4_add_22 h (fun σ1 h => ?_)
    refine v_aload_n 23 C 0 0 dX4_add_23 rfl rfl ?_
    refine g_X4_24_1 24 C dX4_add_24 ?_
    refine v_iconst 27 C (4 : Int32) dX4_add_27 (by decide) ?_
    refine v_aload_n 28 C 0 0 dX4_add_28 rfl rfl ?_
    refine g_X4_24_2 29 C dX4_add_29 ?_
    refine v_imul 32 C dX4_add_32 ?_
    refine v_iconst 33 C (1 : Int32) dX4_add_33 (by decide) ?_
    refine v_iadd 34 C dX4_add_34 ?_
    refine v_iload_n 35 C 2 2 dX4_add_35 rfl rfl ?_
    refine b_iast 36 C 25 (by decide) (ce_25 G) dX4_add_36 h (fun σ2 h => ?_)
    refine v_aload_n 37 C 0 0 dX4_add_37 rfl rfl ?_
    refine g_X4_24_1 38 C dX4_add_38 ?_
    refine v_iconst 41 C (4 : Int32) dX4_add_41 (by decide) ?_
    refine v_aload_n 42 C 0 0 dX4_add_42 rfl rfl ?_
    refine g_X4_24_2 43 C dX4_add_43 ?_
    refine v_imul 46 C dX4_add_46 ?_
    refine v_iconst 47 C (2 : Int32) dX4_add_47 (by decide) ?_
    refine v_iadd 48 C dX4_add_48 ?_
    refine v_iload_n 49 C 3 3 dX4_add_49 rfl rfl ?_
    refine b_iast 50 C 25 (by decide) (ce_25 G) dX4_add_50 h (fun σ3 h => ?_)
    refine v_aload_n 51 C 0 0 dX4_add_51 rfl rfl ?_
    refine g_X4_24_1 52 C dX4_add_52 ?_
    refine v_iconst 55 C (4 : Int32) dX4_add_55 (by decide) ?_
    refine v_aload_n 56 C 0 0 dX4_add_56 rfl rfl ?_
    refine g_X4_24_2 57 C dX4_add_57 ?_
    refine v_imul 60 C dX4_add_60 ?_
    refine v_iconst 61 C (3 : Int32) dX4_add_61 (by decide) ?_
    refine v_iadd 62 C dX4_add_62 ?_
    refine v_iload 63 C 4 4 dX4_add_63 rfl ?_
    refine b_iast 65 C 25 (by decide) (ce_25 G) dX4_add_65 h (fun σ4 h => ?_)
    refine v_aload_n 66 C 0 0 dX4_add_66 rfl rfl ?_
    refine v_dup 67 C dX4_add_67 rfl ?_
    refine g_X4_24_2 68 C dX4_add_68 ?_
    refine v_iconst 71 C (1 : Int32) dX4_add_71 (by decide) ?_
    refine v_iadd 72 C dX4_add_72 ?_
    refine p_X4_24_2 73 C dX4_add_73 h (fun σ5 h => ?_)
    exact v_sub [0] rfl (w_f_X4_add_24_j76 C h hK)
theorem c_f_X4_add_24 (l : Launch) (G : Wld) (hG : GI G) (σ : Sto) (a1 : Int32) (a2 : Int32) (a3 : Int32) (a4 : Int32) (y : Sto) (h : f_X4_add_24 σ a1 a2 a3 a4 = some y) : Ct l G yX4_add cX4_add 5 none 1 [.ref (G.1 24), .int a1, .int a2, .int a3, .int a4] σ none y := by
  refine ct_intro RX4 hG (by decide) rfl (Nat.le_of_ble_eq_true rfl) (fun X hX C hK => ?_)
  subst hX
  exact w_f_X4_add_24 C h hK
theorem r_f_X4_add_24 {G : Wld} {X : Cxt} {own : String} {cc : ByteArray} {nL n : Nat} {σ : Sto} {lv : List (Nat × Value)} {st : List Value} {β : Type} {r : β} {F : Sto → Option β} {a1 : Int32} {a2 : Int32} {a3 : Int32} {a4 : Int32} {ix : Nat} (pc : Nat) (C : Cx G X own cc nL n) (hn : 1 < n) (h1 : Cond.methodLink own ix yX4_add ∈ lw_gd) (hd : decode cc pc = .ok (.invokevirtual ix, 3)) (hsum : (st.map fun v => v.category).sum ≤ 8) (h : bd1 (f_X4_add_24 σ a1 a2 a3 a4) F = some r) (kk : ∀ σ1, F σ1 = some r → V G X nL σ1 lv (st) (pc + 3)) : V G X nL σ lv (.int a4 :: .int a3 :: .int a2 :: .int a1 :: .ref (G.1 24) :: st) pc := by
  obtain ⟨z, hz, h⟩ := bd1_some h
  exact v_callV pc C 24 4 [.int a1, .int a2, .int a3, .int a4] st (c_f_X4_add_24 (xl X) G C.2.2.2.2.2.2.1 _ _ _ _ _ _ hz) hn (by decide) (by decide) (ce_24 G _ _) rfl (by decide +kernel) rfl h1 q_709 q_710 q_64 q_711 rfl hsum hd (kk _ h)
-- f_X7_tell
def f_X7_tell_j24 (σ : Sto) : Option (Sto × Int32) :=
  some (σ, (-1000000001 : Int32))
def f_X7_tell_j51 (σ : Sto) : Option (Sto × Int32) :=
  some (σ, (-1000000002 : Int32))
def f_X7_tell (σ : Sto) (a1 : Int32) (a2 : Int32) (a3 : Int32) (a4 : Int32) : Option (Sto × Int32) :=
  bd2 (f_X2_has_1 σ (1 : Int32) a1) fun σ1 v2 => if v2 = 0 then (f_X7_tell_j24 σ1) else (bd2 (f_X2_has_1 σ1 (2 : Int32) a3) fun σ3 v4 => if v4 = 0 then (f_X7_tell_j24 σ3) else (if a2 < 0 then (f_X7_tell_j51 σ3) else (if (999 : Int32) < a2 then (f_X7_tell_j51 σ3) else (if a4 < 0 then (f_X7_tell_j51 σ3) else (if a4 ≤ (999 : Int32) then (bd2 (f_X4_isFull_24 σ3) fun σ5 v6 => if v6 = 0 then (bd1 (f_X4_add_24 σ5 a1 a2 a3 a4) fun σ7 => some (σ7, (σ7.1 24 2))) else (some (σ5, (-1000000004 : Int32)))) else (f_X7_tell_j51 σ3))))))
theorem w_f_X7_tell_j24 {G : Wld} {X : Cxt} (C : Cx G X RX7 cX7_tell 5 2) {σ : Sto} {y : Sto × Int32} (h : f_X7_tell_j24 σ = some y) (hK : Rx G X (some .int) (some (.int y.2)) y.1) : V G X 5 σ [(0, .ref (G.1 0))] [] 24 := by
  unfold f_X7_tell_j24 at h
  refine v_ldc 24 C dX7_tell_24 q_493 ?_
  cases h
  exact v_iret 26 C hK dX7_tell_26
theorem w_f_X7_tell_j51 {G : Wld} {X : Cxt} (C : Cx G X RX7 cX7_tell 5 2) {σ : Sto} {y : Sto × Int32} (h : f_X7_tell_j51 σ = some y) (hK : Rx G X (some .int) (some (.int y.2)) y.1) : V G X 5 σ [(0, .ref (G.1 0))] [] 51 := by
  unfold f_X7_tell_j51 at h
  refine v_ldc 51 C dX7_tell_51 q_323 ?_
  cases h
  exact v_iret 53 C hK dX7_tell_53
theorem w_f_X7_tell {G : Wld} {X : Cxt} (C : Cx G X RX7 cX7_tell 5 2) {σ : Sto} {a1 : Int32} {a2 : Int32} {a3 : Int32} {a4 : Int32} {y : Sto × Int32} (h : f_X7_tell σ a1 a2 a3 a4 = some y) (hK : Rx G X (some .int) (some (.int y.2)) y.1) : V G X 5 σ [(0, .ref (G.1 0)), (1, .int a1), (2, .int a2), (3, .int a3), (4, .int a4)] [] 0 := by
  unfold f_X7_tell at h
  refine v_aload_n 0 C 0 0 dX7_tell_0 rfl rfl ?_
  refine g_X7_0_0 1 C dX7_tell_1 ?_
  refine v_iconst 4 C (1 : Int32) dX7_tell_4 (by decide) ?_
  refine v_iload_n 5 C 1 1 dX7_tell_5 rfl rfl ?_
  refine r_f_X2_has_1 6 C (by decide) q_489 dX7_tell_6 (Nat.le_of_ble_eq_true rfl) h (fun σ1 v2 h => ?_)
  refine v_if_eq 9 C 24 dX7_tell_9 (by decide) h (fun h => ?_) (fun h => ?_)
  · exact v_sub [0] rfl (w_f_X7_tell_j24 C h hK)
  · refine v_aload_n 12 C 0 0 dX7_tell_12 rfl rfl ?_
    refine g_X7_0_0 13 C dX7_tell_13 ?_
    refine v_iconst 16 C (2 : Int32) dX7_tell_16 (by decide) ?_
    refine v_iload_n 17 C 3 3 dX7_tell_17 rfl rfl ?_
    refine r_f_X2_has_1 18 C (by decide) q_489 dX7_tell_18 (Nat.le_of_ble_eq_true rfl) h (fun σ3 v4 h => ?_)
    refine v_if_ne 21 C 27 dX7_tell_21 (by decide) h (fun h => ?_) (fun h => ?_)
    · refine v_iload_n 27 C 2 2 dX7_tell_27 rfl rfl ?_
      refine v_if_lt 28 C 51 dX7_tell_28 (by decide) h (fun h => ?_) (fun h => ?_)
      · exact v_sub [0] rfl (w_f_X7_tell_j51 C h hK)
      · refine v_iload_n 31 C 2 2 dX7_tell_31 rfl rfl ?_
        refine v_sipush 32 C (999 : Int32) dX7_tell_32 (by decide) ?_
        refine v_icmp_gt 35 C 51 dX7_tell_35 (by decide) h (fun h => ?_) (fun h => ?_)
        · exact v_sub [0] rfl (w_f_X7_tell_j51 C h hK)
        · refine v_iload 38 C 4 4 dX7_tell_38 rfl ?_
          refine v_if_lt 40 C 51 dX7_tell_40 (by decide) h (fun h => ?_) (fun h => ?_)
          · exact v_sub [0] rfl (w_f_X7_tell_j51 C h hK)
          · refine v_iload 43 C 4 4 dX7_tell_43 rfl ?_
            refine v_sipush 45 C (999 : Int32) dX7_tell_45 (by decide) ?_
            refine v_icmp_le 48 C 54 dX7_tell_48 (by decide) h (fun h => ?_) (fun h => ?_)
            · refine v_aload_n 54 C 0 0 dX7_tell_54 rfl rfl ?_
              refine g_X7_0_5 55 C dX7_tell_55 ?_
              refine r_f_X4_isFull_24 58 C (by decide) q_704 dX7_tell_58 (Nat.le_of_ble_eq_true rfl) h (fun σ5 v6 h => ?_)
              refine v_if_eq 61 C 67 dX7_tell_61 (by decide) h (fun h => ?_) (fun h => ?_)
              · refine v_aload_n 67 C 0 0 dX7_tell_67 rfl rfl ?_
                refine g_X7_0_5 68 C dX7_tell_68 ?_
                refine v_iload_n 71 C 1 1 dX7_tell_71 rfl rfl ?_
                refine v_iload_n 72 C 2 2 dX7_tell_72 rfl rfl ?_
                refine v_iload_n 73 C 3 3 dX7_tell_73 rfl rfl ?_
                refine v_iload 74 C 4 4 dX7_tell_74 rfl ?_
                refine r_f_X4_add_24 76 C (by decide) q_708 dX7_tell_76 (Nat.le_of_ble_eq_true rfl) h (fun σ7 h => ?_)
                refine v_aload_n 79 C 0 0 dX7_tell_79 rfl rfl ?_
                refine g_X7_0_5 80 C dX7_tell_80 ?_
                refine g_X7_24_2 83 C dX7_tell_83 ?_
                cases h
                exact v_iret 86 C hK dX7_tell_86
              · refine v_ldc 64 C dX7_tell_64 q_324 ?_
                cases h
                exact v_iret 66 C hK dX7_tell_66
            · exact v_sub [0] rfl (w_f_X7_tell_j51 C h hK)
    · exact v_sub [0] rfl (w_f_X7_tell_j24 C h hK)
theorem c_f_X7_tell (l : Launch) (G : Wld) (hG : GI G) (σ : Sto) (a1 : Int32) (a2 : Int32) (a3 : Int32) (a4 : Int32) (y : Sto × Int32) (h : f_X7_tell σ a1 a2 a3 a4 = some y) : Ct l G yX7_tell cX7_tell 5 (some .int) 2 [.ref (G.1 0), .int a1, .int a2, .int a3, .int a4] σ (some (.int y.2)) y.1 := by
  refine ct_intro RX7 hG (by decide) rfl (Nat.le_of_ble_eq_true rfl) (fun X hX C hK => ?_)
  subst hX
  exact w_f_X7_tell C h hK
theorem r_f_X7_tell {G : Wld} {X : Cxt} {own : String} {cc : ByteArray} {nL n : Nat} {σ : Sto} {lv : List (Nat × Value)} {st : List Value} {β : Type} {r : β} {F : Sto → Int32 → Option β} {a1 : Int32} {a2 : Int32} {a3 : Int32} {a4 : Int32} {ix : Nat} (pc : Nat) (C : Cx G X own cc nL n) (hn : 2 < n) (h1 : Cond.methodLink own ix yX7_tell ∈ lw_gd) (hd : decode cc pc = .ok (.invokevirtual ix, 3)) (hsum : (st.map fun v => v.category).sum ≤ 8) (h : bd2 (f_X7_tell σ a1 a2 a3 a4) F = some r) (kk : ∀ σ1 v, F σ1 v = some r → V G X nL σ1 lv (.int v :: st) (pc + 3)) : V G X nL σ lv (.int a4 :: .int a3 :: .int a2 :: .int a1 :: .ref (G.1 0) :: st) pc := by
  obtain ⟨z, hz, h⟩ := bd2_some h
  exact v_callV pc C 0 4 [.int a1, .int a2, .int a3, .int a4] st (c_f_X7_tell (xl X) G C.2.2.2.2.2.2.1 _ _ _ _ _ _ hz) hn (by decide) (by decide) (ce_0 G _ _) rfl (by decide +kernel) rfl h1 q_701 q_702 q_59 q_703 rfl hsum hd (kk _ _ h)
-- f_X4_cell_24
def f_X4_cell_24_j35 (σ : Sto) (s0 : Int32) : Option (Sto × Int32) :=
  some (σ, s0)
def f_X4_cell_24_j21 (σ : Sto) : Option (Sto × Int32) :=
  f_X4_cell_24_j35 σ (0 : Int32)
def f_X4_cell_24 (σ : Sto) (a1 : Int32) (a2 : Int32) : Option (Sto × Int32) :=
  if a1 < 0 then (f_X4_cell_24_j21 σ) else (if (σ.1 24 2) ≤ a1 then (f_X4_cell_24_j21 σ) else (if a2 < 0 then (f_X4_cell_24_j21 σ) else (if a2 < (4 : Int32) then (gd (inB (((4 : Int32) * a1) + a2) 40) (f_X4_cell_24_j35 σ (σ.1 25 ((((4 : Int32) * a1) + a2)).toNatClampNeg))) else (f_X4_cell_24_j21 σ))))
theorem w_f_X4_cell_24_j35 {G : Wld} {X : Cxt} (C : Cx G X RX4 cX4_cell 3 1) {σ : Sto} {s0 : Int32} {y : Sto × Int32} (h : f_X4_cell_24_j35 σ s0 = some y) (hK : Rx G X (some .int) (some (.int y.2)) y.1) : V G X 3 σ [(0, .ref (G.1 24))] [.int s0] 35 := by
  unfold f_X4_cell_24_j35 at h
  cases h
  exact v_iret 35 C hK dX4_cell_35
theorem w_f_X4_cell_24_j21 {G : Wld} {X : Cxt} (C : Cx G X RX4 cX4_cell 3 1) {σ : Sto} {y : Sto × Int32} (h : f_X4_cell_24_j21 σ = some y) (hK : Rx G X (some .int) (some (.int y.2)) y.1) : V G X 3 σ [(0, .ref (G.1 24))] [] 21 := by
  unfold f_X4_cell_24_j21 at h
  refine v_iconst 21 C (0 : Int32) dX4_cell_21 (by decide) ?_
  refine v_goto 22 C 35 dX4_cell_22 (by decide) ?_
  exact v_sub [0] rfl (w_f_X4_cell_24_j35 C h hK)
theorem w_f_X4_cell_24 {G : Wld} {X : Cxt} (C : Cx G X RX4 cX4_cell 3 1) {σ : Sto} {a1 : Int32} {a2 : Int32} {y : Sto × Int32} (h : f_X4_cell_24 σ a1 a2 = some y) (hK : Rx G X (some .int) (some (.int y.2)) y.1) : V G X 3 σ [(0, .ref (G.1 24)), (1, .int a1), (2, .int a2)] [] 0 := by
  unfold f_X4_cell_24 at h
  refine v_iload_n 0 C 1 1 dX4_cell_0 rfl rfl ?_
  refine v_if_lt 1 C 21 dX4_cell_1 (by decide) h (fun h => ?_) (fun h => ?_)
  · exact v_sub [0] rfl (w_f_X4_cell_24_j21 C h hK)
  · refine v_iload_n 4 C 1 1 dX4_cell_4 rfl rfl ?_
    refine v_aload_n 5 C 0 0 dX4_cell_5 rfl rfl ?_
    refine g_X4_24_2 6 C dX4_cell_6 ?_
    refine v_icmp_ge 9 C 21 dX4_cell_9 (by decide) h (fun h => ?_) (fun h => ?_)
    · exact v_sub [0] rfl (w_f_X4_cell_24_j21 C h hK)
    · refine v_iload_n 12 C 2 2 dX4_cell_12 rfl rfl ?_
      refine v_if_lt 13 C 21 dX4_cell_13 (by decide) h (fun h => ?_) (fun h => ?_)
      · exact v_sub [0] rfl (w_f_X4_cell_24_j21 C h hK)
      · refine v_iload_n 16 C 2 2 dX4_cell_16 rfl rfl ?_
        refine v_iconst 17 C (4 : Int32) dX4_cell_17 (by decide) ?_
        refine v_icmp_lt 18 C 25 dX4_cell_18 (by decide) h (fun h => ?_) (fun h => ?_)
        · refine v_aload_n 25 C 0 0 dX4_cell_25 rfl rfl ?_
          refine g_X4_24_1 26 C dX4_cell_26 ?_
          refine v_iconst 29 C (4 : Int32) dX4_cell_29 (by decide) ?_
          refine v_iload_n 30 C 1 1 dX4_cell_30 rfl rfl ?_
          refine v_imul 31 C dX4_cell_31 ?_
          refine v_iload_n 32 C 2 2 dX4_cell_32 rfl rfl ?_
          refine v_iadd 33 C dX4_cell_33 ?_
          refine v_iald 34 C 25 (by decide) (ce_25 G) dX4_cell_34 h (fun h => ?_)
          exact v_sub [0] rfl (w_f_X4_cell_24_j35 C h hK)
        · exact v_sub [0] rfl (w_f_X4_cell_24_j21 C h hK)
theorem c_f_X4_cell_24 (l : Launch) (G : Wld) (hG : GI G) (σ : Sto) (a1 : Int32) (a2 : Int32) (y : Sto × Int32) (h : f_X4_cell_24 σ a1 a2 = some y) : Ct l G yX4_cell cX4_cell 3 (some .int) 1 [.ref (G.1 24), .int a1, .int a2] σ (some (.int y.2)) y.1 := by
  refine ct_intro RX4 hG (by decide) rfl (Nat.le_of_ble_eq_true rfl) (fun X hX C hK => ?_)
  subst hX
  exact w_f_X4_cell_24 C h hK
theorem r_f_X4_cell_24 {G : Wld} {X : Cxt} {own : String} {cc : ByteArray} {nL n : Nat} {σ : Sto} {lv : List (Nat × Value)} {st : List Value} {β : Type} {r : β} {F : Sto → Int32 → Option β} {a1 : Int32} {a2 : Int32} {ix : Nat} (pc : Nat) (C : Cx G X own cc nL n) (hn : 1 < n) (h1 : Cond.methodLink own ix yX4_cell ∈ lw_gd) (hd : decode cc pc = .ok (.invokevirtual ix, 3)) (hsum : (st.map fun v => v.category).sum ≤ 8) (h : bd2 (f_X4_cell_24 σ a1 a2) F = some r) (kk : ∀ σ1 v, F σ1 v = some r → V G X nL σ1 lv (.int v :: st) (pc + 3)) : V G X nL σ lv (.int a2 :: .int a1 :: .ref (G.1 24) :: st) pc := by
  obtain ⟨z, hz, h⟩ := bd2_some h
  exact v_callV pc C 24 2 [.int a1, .int a2] st (c_f_X4_cell_24 (xl X) G C.2.2.2.2.2.2.1 _ _ _ _ hz) hn (by decide) (by decide) (ce_24 G _ _) rfl (by decide +kernel) rfl h1 q_721 q_722 q_64 q_723 rfl hsum hd (kk _ _ h)
-- f_X7_fitsAllTales
def f_X7_fitsAllTales_l2 (x1 : Int32) (σ : Sto) (x2 : Int32) : Option ((Sto × Int32) ⊕ ((Sto × Int32) ⊕ (Sto × Int32))) :=
  if (σ.1 24 2) ≤ x2 then (some (.inr (.inr (σ, x2)))) else (bd2 (f_X4_cell_24 σ x2 (2 : Int32)) fun σ2 v3 => bs v3 fun z4 => bd2 (f_X2_number_1 σ2 (2 : Int32) z4 (0 : Int32)) fun σ5 v6 => bs (x1 + v6) fun z7 => bd2 (f_X4_cell_24 σ5 x2 (0 : Int32)) fun σ8 v9 => bd2 (f_X4_cell_24 σ8 x2 (1 : Int32)) fun σ10 v11 => bd2 (f_X2_longOf_1 σ10 v9 v11) fun σ12 v13 => bs v13 fun z14 => bd2 (f_X2_shadeOn_1 σ12 z4 z7 z14) fun σ15 v16 => bd2 (f_X4_cell_24 σ15 x2 (3 : Int32)) fun σ17 v18 => if v16 = v18 then (bs (x2 + (1 : Int32)) fun z19 => some (.inl (σ17, z19))) else (gd (zB (0 : Int32)) (some (.inr (.inl (σ17, (0 : Int32)))))))
def f_X7_fitsAllTales (σ : Sto) (a1 : Int32) : Option (Sto × Int32) :=
  bs (0 : Int32) fun z1 => bR1 (lpF (fun t => f_X7_fitsAllTales_l2 a1 t.1 t.2) FU (σ, z1)) (fun u => some u) (fun σ20 z21 => gd (zB (1 : Int32)) (some (σ20, (1 : Int32))))
theorem w_f_X7_fitsAllTales_l2 {G : Wld} {X : Cxt} (C : Cx G X RX7 cX7_fitsAllTales 6 4) {x1 : Int32} {σ : Sto} {x2 : Int32} {y : (Sto × Int32) ⊕ ((Sto × Int32) ⊕ (Sto × Int32))} (h : f_X7_fitsAllTales_l2 x1 σ x2 = some y) (hc : ∀ t : Sto × Int32, y = .inl t → V G X 6 t.1 [(0, .ref (G.1 0)), (1, .int x1), (2, .int t.2)] [] 2) {Ve : (Sto × Int32) ⊕ (Sto × Int32) → Prop} (he : ∀ e, y = .inr e → Ve e) (hr : ∀ (σ : Sto) (v : Int32), Ve (.inl (σ, v)) → Rx G X (some .boolean) (some (.int v)) σ) (hx : ∀ (σ : Sto) (x2 : Int32), Ve (.inr (σ, x2)) → V G X 6 σ [(0, .ref (G.1 0)), (1, .int x1), (2, .int x2)] [] 96) : V G X 6 σ [(0, .ref (G.1 0)), (1, .int x1), (2, .int x2)] [] 2 := by
  unfold f_X7_fitsAllTales_l2 at h
  refine v_iload_n 2 C 2 2 dX7_fitsAllTales_2 rfl rfl ?_
  refine v_aload_n 3 C 0 0 dX7_fitsAllTales_3 rfl rfl ?_
  refine g_X7_0_5 4 C dX7_fitsAllTales_4 ?_
  refine g_X7_24_2 7 C dX7_fitsAllTales_7 ?_
  refine v_icmp_ge 10 C 96 dX7_fitsAllTales_10 (by decide) h (fun h => ?_) (fun h => ?_)
  · exact v_sub [0, 1, 2] rfl (hx _ _ (he _ (Option.some.inj h).symm))
  · refine v_aload_n 13 C 0 0 dX7_fitsAllTales_13 rfl rfl ?_
    refine g_X7_0_5 14 C dX7_fitsAllTales_14 ?_
    refine v_iload_n 17 C 2 2 dX7_fitsAllTales_17 rfl rfl ?_
    refine v_iconst 18 C (2 : Int32) dX7_fitsAllTales_18 (by decide) ?_
    refine r_f_X4_cell_24 19 C (by decide) q_720 dX7_fitsAllTales_19 (Nat.le_of_ble_eq_true rfl) h (fun σ2 v3 h => ?_)
    refine b_istore_n 22 C 3 (lv2 := fun z4 => [(3, .int z4), (0, .ref (G.1 0)), (1, .int x1), (2, .int x2)]) dX7_fitsAllTales_22 rfl (by decide) (fun _ => rfl) h (fun z4 h => ?_)
    refine v_iload_n 23 C 1 2 dX7_fitsAllTales_23 rfl rfl ?_
    refine v_aload_n 24 C 0 1 dX7_fitsAllTales_24 rfl rfl ?_
    refine g_X7_0_0 25 C dX7_fitsAllTales_25 ?_
    refine v_iconst 28 C (2 : Int32) dX7_fitsAllTales_28 (by decide) ?_
    refine v_iload_n 29 C 3 0 dX7_fitsAllTales_29 rfl rfl ?_
    refine v_iconst 30 C (0 : Int32) dX7_fitsAllTales_30 (by decide) ?_
    refine r_f_X2_number_1 31 C (by decide) q_511 dX7_fitsAllTales_31 (Nat.le_of_ble_eq_true rfl) h (fun σ5 v6 h => ?_)
    refine v_iadd 34 C dX7_fitsAllTales_34 ?_
    refine b_istore 35 C 4 (lv2 := fun z7 => [(4, .int z7), (3, .int z4), (0, .ref (G.1 0)), (1, .int x1), (2, .int x2)]) dX7_fitsAllTales_35 (by decide) (fun _ => rfl) h (fun z7 h => ?_)
    refine v_aload_n 37 C 0 2 dX7_fitsAllTales_37 rfl rfl ?_
    refine g_X7_0_0 38 C dX7_fitsAllTales_38 ?_
    refine v_aload_n 41 C 0 2 dX7_fitsAllTales_41 rfl rfl ?_
    refine g_X7_0_5 42 C dX7_fitsAllTales_42 ?_
    refine v_iload_n 45 C 2 4 dX7_fitsAllTales_45 rfl rfl ?_
    refine v_iconst 46 C (0 : Int32) dX7_fitsAllTales_46 (by decide) ?_
    refine r_f_X4_cell_24 47 C (by decide) q_720 dX7_fitsAllTales_47 (Nat.le_of_ble_eq_true rfl) h (fun σ8 v9 h => ?_)
    refine v_aload_n 50 C 0 2 dX7_fitsAllTales_50 rfl rfl ?_
    refine g_X7_0_5 51 C dX7_fitsAllTales_51 ?_
    refine v_iload_n 54 C 2 4 dX7_fitsAllTales_54 rfl rfl ?_
    refine v_iconst 55 C (1 : Int32) dX7_fitsAllTales_55 (by decide) ?_
    refine r_f_X4_cell_24 56 C (by decide) q_720 dX7_fitsAllTales_56 (Nat.le_of_ble_eq_true rfl) h (fun σ10 v11 h => ?_)
    refine r_f_X2_longOf_1 59 C (by decide) q_495 dX7_fitsAllTales_59 (Nat.le_of_ble_eq_true rfl) h (fun σ12 v13 h => ?_)
    refine b_istore 62 C 5 (lv2 := fun z14 => [(5, .int z14), (4, .int z7), (3, .int z4), (0, .ref (G.1 0)), (1, .int x1), (2, .int x2)]) dX7_fitsAllTales_62 (by decide) (fun _ => rfl) h (fun z14 h => ?_)
    refine v_aload_n 64 C 0 3 dX7_fitsAllTales_64 rfl rfl ?_
    refine g_X7_0_0 65 C dX7_fitsAllTales_65 ?_
    refine v_iload_n 68 C 3 2 dX7_fitsAllTales_68 rfl rfl ?_
    refine v_iload 69 C 4 1 dX7_fitsAllTales_69 rfl ?_
    refine v_iload 71 C 5 0 dX7_fitsAllTales_71 rfl ?_
    refine r_f_X2_shadeOn_1 73 C (by decide) q_724 dX7_fitsAllTales_73 (Nat.le_of_ble_eq_true rfl) h (fun σ15 v16 h => ?_)
    refine v_aload_n 76 C 0 3 dX7_fitsAllTales_76 rfl rfl ?_
    refine g_X7_0_5 77 C dX7_fitsAllTales_77 ?_
    refine v_iload_n 80 C 2 5 dX7_fitsAllTales_80 rfl rfl ?_
    refine v_iconst 81 C (3 : Int32) dX7_fitsAllTales_81 (by decide) ?_
    refine r_f_X4_cell_24 82 C (by decide) q_720 dX7_fitsAllTales_82 (Nat.le_of_ble_eq_true rfl) h (fun σ17 v18 h => ?_)
    refine v_icmp_eq 85 C 90 dX7_fitsAllTales_85 (by decide) h (fun h => ?_) (fun h => ?_)
    · refine b_iinc 90 C 2 5 (1 : Int32) (lv2 := fun z19 => [(2, .int z19), (5, .int z14), (4, .int z7), (3, .int z4), (0, .ref (G.1 0)), (1, .int x1)]) dX7_fitsAllTales_90 rfl (by decide) (by decide) (fun _ => rfl) h (fun z19 h => ?_)
      refine v_goto 93 C 2 dX7_fitsAllTales_93 (by decide) ?_
      exact v_sub [4, 5, 0] rfl (hc _ (Option.some.inj h).symm)
    · refine v_iconst 88 C (0 : Int32) dX7_fitsAllTales_88 (by decide) ?_
      obtain ⟨hz, h⟩ := gd_some h
      exact v_zret 89 C (zB_nar hz) (hr _ _ (he _ (Option.some.inj h).symm)) dX7_fitsAllTales_89
theorem w_f_X7_fitsAllTales {G : Wld} {X : Cxt} (C : Cx G X RX7 cX7_fitsAllTales 6 4) {σ : Sto} {a1 : Int32} {y : Sto × Int32} (h : f_X7_fitsAllTales σ a1 = some y) (hK : Rx G X (some .boolean) (some (.int y.2)) y.1) : V G X 6 σ [(0, .ref (G.1 0)), (1, .int a1)] [] 0 := by
  unfold f_X7_fitsAllTales at h
  refine v_iconst 0 C (0 : Int32) dX7_fitsAllTales_0 (by decide) ?_
  refine b_istore_n 1 C 2 (lv2 := fun z1 => [(2, .int z1), (0, .ref (G.1 0)), (1, .int a1)]) dX7_fitsAllTales_1 rfl (by decide) (fun _ => rfl) h (fun z1 h => ?_)
  refine v_sub [1, 2, 0] rfl ?_
  refine lp_go (Vh := fun t => V G X 6 t.1 [(0, .ref (G.1 0)), (1, .int a1), (2, .int t.2)] [] 2) h ?_
  intro t22 y22 hy22 hc22 he22
  refine w_f_X7_fitsAllTales_l2 C hy22 hc22 he22 (fun _ _ h => by cases h; exact hK) (fun σ20 z21 h => ?_)
  dsimp only at h
  refine v_iconst 96 C (1 : Int32) dX7_fitsAllTales_96 (by decide) ?_
  obtain ⟨hz, h⟩ := gd_some h
  cases h
  exact v_zret 97 C (zB_nar hz) hK dX7_fitsAllTales_97
theorem c_f_X7_fitsAllTales (l : Launch) (G : Wld) (hG : GI G) (σ : Sto) (a1 : Int32) (y : Sto × Int32) (h : f_X7_fitsAllTales σ a1 = some y) : Ct l G yX7_fitsAllTales cX7_fitsAllTales 6 (some .boolean) 4 [.ref (G.1 0), .int a1] σ (some (.int y.2)) y.1 := by
  refine ct_intro RX7 hG (by decide) rfl (Nat.le_of_ble_eq_true rfl) (fun X hX C hK => ?_)
  subst hX
  exact w_f_X7_fitsAllTales C h hK
theorem r_f_X7_fitsAllTales {G : Wld} {X : Cxt} {own : String} {cc : ByteArray} {nL n : Nat} {σ : Sto} {lv : List (Nat × Value)} {st : List Value} {β : Type} {r : β} {F : Sto → Int32 → Option β} {a1 : Int32} {ix : Nat} (pc : Nat) (C : Cx G X own cc nL n) (hn : 4 < n) (h1 : Cond.methodLink own ix yX7_fitsAllTales ∈ lw_gd) (hd : decode cc pc = .ok (.invokevirtual ix, 3)) (hsum : (st.map fun v => v.category).sum ≤ 8) (h : bd2 (f_X7_fitsAllTales σ a1) F = some r) (kk : ∀ σ1 v, F σ1 v = some r → V G X nL σ1 lv (.int v :: st) (pc + 3)) : V G X nL σ lv (.int a1 :: .ref (G.1 0) :: st) pc := by
  obtain ⟨z, hz, h⟩ := bd2_some h
  exact v_callV pc C 0 1 [.int a1] st (c_f_X7_fitsAllTales (xl X) G C.2.2.2.2.2.2.1 _ _ _ hz) hn (by decide) (by decide) (ce_0 G _ _) rfl (by decide +kernel) rfl h1 q_718 q_21 q_59 q_719 rfl hsum hd (kk _ _ h)
-- f_X7_fits
def f_X7_fits_j9 (σ : Sto) : Option (Sto × Int32) :=
  some (σ, (-1000000002 : Int32))
def f_X7_fits_j57 (σ : Sto) (x1 : Int32) (x2 : Int32) (x3 : Int32) (x4 : Int32) (x5 : Int32) : Option ((Sto × Int32 × Int32 × Int32 × Int32) ⊕ (Sto × Int32 × Int32 × Int32 × Int32)) :=
  bs (x5 + (1 : Int32)) fun z7 => some (.inl (σ, x2, x3, x4, z7))
def f_X7_fits_j52 (σ : Sto) (x1 : Int32) (x2 : Int32) (x5 : Int32) (s0 : Int32) : Option ((Sto × Int32 × Int32 × Int32 × Int32) ⊕ (Sto × Int32 × Int32 × Int32 × Int32)) :=
  bs s0 fun z9 => bs x5 fun z10 => f_X7_fits_j57 σ x1 x2 z9 z10 x5
def f_X7_fits_l22 (x1 : Int32) (σ : Sto) (x2 : Int32) (x3 : Int32) (x4 : Int32) (x5 : Int32) : Option ((Sto × Int32 × Int32 × Int32 × Int32) ⊕ (Sto × Int32 × Int32 × Int32 × Int32)) :=
  if (110 : Int32) < x5 then (some (.inr (σ, x2, x3, x4, x5))) else (bd2 (f_X7_fitsAllTales σ x5) fun σ5 v6 => if v6 = 0 then (f_X7_fits_j57 σ5 x1 x2 x3 x4 x5) else (bs (x2 + (1 : Int32)) fun z8 => if x3 = (-1 : Int32) then (f_X7_fits_j52 σ5 x1 z8 x5 x5) else (f_X7_fits_j52 σ5 x1 z8 x5 x3)))
def f_X7_fits_j80 (σ : Sto) (s0 : Int32) : Option (Sto × Int32) :=
  some (σ, s0)
def f_X7_fits (σ : Sto) (a1 : Int32) : Option (Sto × Int32) :=
  if a1 < 0 then (f_X7_fits_j9 σ) else (if a1 ≤ (2 : Int32) then (bs (0 : Int32) fun z1 => bs (-1 : Int32) fun z2 => bs (-1 : Int32) fun z3 => bs (1 : Int32) fun z4 => bE4 (lpF (fun t => f_X7_fits_l22 a1 t.1 t.2.1 t.2.2.1 t.2.2.2.1 t.2.2.2.2) FU (σ, z1, z2, z3, z4)) (fun σ11 z12 z13 z14 z15 => if a1 = 0 then (some (σ11, z12)) else (if a1 = (1 : Int32) then (f_X7_fits_j80 σ11 z13) else (f_X7_fits_j80 σ11 z14)))) else (f_X7_fits_j9 σ))
theorem w_f_X7_fits_j9 {G : Wld} {X : Cxt} (C : Cx G X RX7 cX7_fits 6 5) {σ : Sto} {y : Sto × Int32} (h : f_X7_fits_j9 σ = some y) (hK : Rx G X (some .int) (some (.int y.2)) y.1) : V G X 6 σ [(0, .ref (G.1 0))] [] 9 := by
  unfold f_X7_fits_j9 at h
  refine v_ldc 9 C dX7_fits_9 q_323 ?_
  cases h
  exact v_iret 11 C hK dX7_fits_11
theorem w_f_X7_fits_j57 {G : Wld} {X : Cxt} (C : Cx G X RX7 cX7_fits 6 5) {σ : Sto} {x1 : Int32} {x2 : Int32} {x3 : Int32} {x4 : Int32} {x5 : Int32} {y : (Sto × Int32 × Int32 × Int32 × Int32) ⊕ (Sto × Int32 × Int32 × Int32 × Int32)} (h : f_X7_fits_j57 σ x1 x2 x3 x4 x5 = some y) (hc : ∀ t : Sto × Int32 × Int32 × Int32 × Int32, y = .inl t → V G X 6 t.1 [(0, .ref (G.1 0)), (1, .int x1), (2, .int t.2.1), (3, .int t.2.2.1), (4, .int t.2.2.2.1), (5, .int t.2.2.2.2)] [] 22) {Ve : Sto × Int32 × Int32 × Int32 × Int32 → Prop} (he : ∀ e, y = .inr e → Ve e) (hx : ∀ (σ : Sto) (x2 : Int32) (x3 : Int32) (x4 : Int32) (x5 : Int32), Ve (σ, x2, x3, x4, x5) → V G X 6 σ [(0, .ref (G.1 0)), (1, .int x1), (2, .int x2), (3, .int x3), (4, .int x4), (5, .int x5)] [] 63) : V G X 6 σ [(0, .ref (G.1 0)), (1, .int x1), (2, .int x2), (3, .int x3), (4, .int x4), (5, .int x5)] [] 57 := by
  unfold f_X7_fits_j57 at h
  refine b_iinc 57 C 5 5 (1 : Int32) (lv2 := fun z7 => [(5, .int z7), (0, .ref (G.1 0)), (1, .int x1), (2, .int x2), (3, .int x3), (4, .int x4)]) dX7_fits_57 rfl (by decide) (by decide) (fun _ => rfl) h (fun z7 h => ?_)
  refine v_goto 60 C 22 dX7_fits_60 (by decide) ?_
  exact v_sub [1, 2, 3, 4, 5, 0] rfl (hc _ (Option.some.inj h).symm)
theorem w_f_X7_fits_j52 {G : Wld} {X : Cxt} (C : Cx G X RX7 cX7_fits 6 5) {σ : Sto} {x1 : Int32} {x2 : Int32} {x5 : Int32} {s0 : Int32} {y : (Sto × Int32 × Int32 × Int32 × Int32) ⊕ (Sto × Int32 × Int32 × Int32 × Int32)} (h : f_X7_fits_j52 σ x1 x2 x5 s0 = some y) (hc : ∀ t : Sto × Int32 × Int32 × Int32 × Int32, y = .inl t → V G X 6 t.1 [(0, .ref (G.1 0)), (1, .int x1), (2, .int t.2.1), (3, .int t.2.2.1), (4, .int t.2.2.2.1), (5, .int t.2.2.2.2)] [] 22) {Ve : Sto × Int32 × Int32 × Int32 × Int32 → Prop} (he : ∀ e, y = .inr e → Ve e) (hx : ∀ (σ : Sto) (x2 : Int32) (x3 : Int32) (x4 : Int32) (x5 : Int32), Ve (σ, x2, x3, x4, x5) → V G X 6 σ [(0, .ref (G.1 0)), (1, .int x1), (2, .int x2), (3, .int x3), (4, .int x4), (5, .int x5)] [] 63) : V G X 6 σ [(0, .ref (G.1 0)), (1, .int x1), (2, .int x2), (5, .int x5)] [.int s0] 52 := by
  unfold f_X7_fits_j52 at h
  refine b_istore_n 52 C 3 (lv2 := fun z9 => [(3, .int z9), (0, .ref (G.1 0)), (1, .int x1), (2, .int x2), (5, .int x5)]) dX7_fits_52 rfl (by decide) (fun _ => rfl) h (fun z9 h => ?_)
  refine v_iload 53 C 5 4 dX7_fits_53 rfl ?_
  refine b_istore 55 C 4 (lv2 := fun z10 => [(4, .int z10), (3, .int z9), (0, .ref (G.1 0)), (1, .int x1), (2, .int x2), (5, .int x5)]) dX7_fits_55 (by decide) (fun _ => rfl) h (fun z10 h => ?_)
  exact v_sub [2, 3, 4, 1, 0, 5] rfl (w_f_X7_fits_j57 C h hc he hx)
theorem w_f_X7_fits_l22 {G : Wld} {X : Cxt} (C : Cx G X RX7 cX7_fits 6 5) {x1 : Int32} {σ : Sto} {x2 : Int32} {x3 : Int32} {x4 : Int32} {x5 : Int32} {y : (Sto × Int32 × Int32 × Int32 × Int32) ⊕ (Sto × Int32 × Int32 × Int32 × Int32)} (h : f_X7_fits_l22 x1 σ x2 x3 x4 x5 = some y) (hc : ∀ t : Sto × Int32 × Int32 × Int32 × Int32, y = .inl t → V G X 6 t.1 [(0, .ref (G.1 0)), (1, .int x1), (2, .int t.2.1), (3, .int t.2.2.1), (4, .int t.2.2.2.1), (5, .int t.2.2.2.2)] [] 22) {Ve : Sto × Int32 × Int32 × Int32 × Int32 → Prop} (he : ∀ e, y = .inr e → Ve e) (hx : ∀ (σ : Sto) (x2 : Int32) (x3 : Int32) (x4 : Int32) (x5 : Int32), Ve (σ, x2, x3, x4, x5) → V G X 6 σ [(0, .ref (G.1 0)), (1, .int x1), (2, .int x2), (3, .int x3), (4, .int x4), (5, .int x5)] [] 63) : V G X 6 σ [(0, .ref (G.1 0)), (1, .int x1), (2, .int x2), (3, .int x3), (4, .int x4), (5, .int x5)] [] 22 := by
  unfold f_X7_fits_l22 at h
  refine v_iload 22 C 5 5 dX7_fits_22 rfl ?_
  refine v_bipush 24 C (110 : Int32) dX7_fits_24 (by decide) ?_
  refine v_icmp_gt 26 C 63 dX7_fits_26 (by decide) h (fun h => ?_) (fun h => ?_)
  · exact v_sub [0, 1, 2, 3, 4, 5] rfl (hx _ _ _ _ _ (he _ (Option.some.inj h).symm))
  · refine v_aload_n 29 C 0 0 dX7_fits_29 rfl rfl ?_
    refine v_iload 30 C 5 5 dX7_fits_30 rfl ?_
    refine r_f_X7_fitsAllTales 32 C (by decide) q_716 dX7_fits_32 (Nat.le_of_ble_eq_true rfl) h (fun σ5 v6 h => ?_)
    refine v_if_eq 35 C 57 dX7_fits_35 (by decide) h (fun h => ?_) (fun h => ?_)
    · exact v_sub [0, 1, 2, 3, 4, 5] rfl (w_f_X7_fits_j57 C h hc he hx)
    · refine b_iinc 38 C 2 2 (1 : Int32) (lv2 := fun z8 => [(2, .int z8), (0, .ref (G.1 0)), (1, .int x1), (3, .int x3), (4, .int x4), (5, .int x5)]) dX7_fits_38 rfl (by decide) (by decide) (fun _ => rfl) h (fun z8 h => ?_)
      refine v_iload_n 41 C 3 3 dX7_fits_41 rfl rfl ?_
      refine v_iconst 42 C (-1 : Int32) dX7_fits_42 (by decide) ?_
      refine v_icmp_ne 43 C 51 dX7_fits_43 (by decide) h (fun h => ?_) (fun h => ?_)
      · refine v_iload_n 51 C 3 3 dX7_fits_51 rfl rfl ?_
        exact v_sub [1, 2, 0, 5] rfl (w_f_X7_fits_j52 C h hc he hx)
      · refine v_iload 46 C 5 5 dX7_fits_46 rfl ?_
        refine v_goto 48 C 52 dX7_fits_48 (by decide) ?_
        exact v_sub [1, 2, 0, 5] rfl (w_f_X7_fits_j52 C h hc he hx)
theorem w_f_X7_fits_j80 {G : Wld} {X : Cxt} (C : Cx G X RX7 cX7_fits 6 5) {σ : Sto} {s0 : Int32} {y : Sto × Int32} (h : f_X7_fits_j80 σ s0 = some y) (hK : Rx G X (some .int) (some (.int y.2)) y.1) : V G X 6 σ [(0, .ref (G.1 0))] [.int s0] 80 := by
  unfold f_X7_fits_j80 at h
  cases h
  exact v_iret 80 C hK dX7_fits_80
theorem w_f_X7_fits {G : Wld} {X : Cxt} (C : Cx G X RX7 cX7_fits 6 5) {σ : Sto} {a1 : Int32} {y : Sto × Int32} (h : f_X7_fits σ a1 = some y) (hK : Rx G X (some .int) (some (.int y.2)) y.1) : V G X 6 σ [(0, .ref (G.1 0)), (1, .int a1)] [] 0 := by
  unfold f_X7_fits at h
  refine v_iload_n 0 C 1 1 dX7_fits_0 rfl rfl ?_
  refine v_if_lt 1 C 9 dX7_fits_1 (by decide) h (fun h => ?_) (fun h => ?_)
  · exact v_sub [0] rfl (w_f_X7_fits_j9 C h hK)
  · refine v_iload_n 4 C 1 1 dX7_fits_4 rfl rfl ?_
    refine v_iconst 5 C (2 : Int32) dX7_fits_5 (by decide) ?_
    refine v_icmp_le 6 C 12 dX7_fits_6 (by decide) h (fun h => ?_) (fun h => ?_)
    · refine v_iconst 12 C (0 : Int32) dX7_fits_12 (by decide) ?_
      refine b_istore_n 13 C 2 (lv2 := fun z1 => [(2, .int z1), (0, .ref (G.1 0)), (1, .int a1)]) dX7_fits_13 rfl (by decide) (fun _ => rfl) h (fun z1 h => ?_)
      refine v_iconst 14 C (-1 : Int32) dX7_fits_14 (by decide) ?_
      refine b_istore_n 15 C 3 (lv2 := fun z2 => [(3, .int z2), (2, .int z1), (0, .ref (G.1 0)), (1, .int a1)]) dX7_fits_15 rfl (by decide) (fun _ => rfl) h (fun z2 h => ?_)
      refine v_iconst 16 C (-1 : Int32) dX7_fits_16 (by decide) ?_
      refine b_istore 17 C 4 (lv2 := fun z3 => [(4, .int z3), (3, .int z2), (2, .int z1), (0, .ref (G.1 0)), (1, .int a1)]) dX7_fits_17 (by decide) (fun _ => rfl) h (fun z3 h => ?_)
      refine v_iconst 19 C (1 : Int32) dX7_fits_19 (by decide) ?_
      refine b_istore 20 C 5 (lv2 := fun z4 => [(5, .int z4), (4, .int z3), (3, .int z2), (2, .int z1), (0, .ref (G.1 0)), (1, .int a1)]) dX7_fits_20 (by decide) (fun _ => rfl) h (fun z4 h => ?_)
      refine v_sub [4, 5, 3, 2, 1, 0] rfl ?_
      refine lp_go (Vh := fun t => V G X 6 t.1 [(0, .ref (G.1 0)), (1, .int a1), (2, .int t.2.1), (3, .int t.2.2.1), (4, .int t.2.2.2.1), (5, .int t.2.2.2.2)] [] 22) h ?_
      intro t16 y16 hy16 hc16 he16
      refine w_f_X7_fits_l22 C hy16 hc16 he16 (fun σ11 z12 z13 z14 z15 h => ?_)
      dsimp only at h
      refine v_iload_n 63 C 1 1 dX7_fits_63 rfl rfl ?_
      refine v_if_ne 64 C 69 dX7_fits_64 (by decide) h (fun h => ?_) (fun h => ?_)
      · refine v_iload_n 69 C 1 1 dX7_fits_69 rfl rfl ?_
        refine v_iconst 70 C (1 : Int32) dX7_fits_70 (by decide) ?_
        refine v_icmp_ne 71 C 78 dX7_fits_71 (by decide) h (fun h => ?_) (fun h => ?_)
        · refine v_iload 78 C 4 4 dX7_fits_78 rfl ?_
          exact v_sub [0] rfl (w_f_X7_fits_j80 C h hK)
        · refine v_iload_n 74 C 3 3 dX7_fits_74 rfl rfl ?_
          refine v_goto 75 C 80 dX7_fits_75 (by decide) ?_
          exact v_sub [0] rfl (w_f_X7_fits_j80 C h hK)
      · refine v_iload_n 67 C 2 2 dX7_fits_67 rfl rfl ?_
        cases h
        exact v_iret 68 C hK dX7_fits_68
    · exact v_sub [0] rfl (w_f_X7_fits_j9 C h hK)
theorem c_f_X7_fits (l : Launch) (G : Wld) (hG : GI G) (σ : Sto) (a1 : Int32) (y : Sto × Int32) (h : f_X7_fits σ a1 = some y) : Ct l G yX7_fits cX7_fits 6 (some .int) 5 [.ref (G.1 0), .int a1] σ (some (.int y.2)) y.1 := by
  refine ct_intro RX7 hG (by decide) rfl (Nat.le_of_ble_eq_true rfl) (fun X hX C hK => ?_)
  subst hX
  exact w_f_X7_fits C h hK
theorem r_f_X7_fits {G : Wld} {X : Cxt} {own : String} {cc : ByteArray} {nL n : Nat} {σ : Sto} {lv : List (Nat × Value)} {st : List Value} {β : Type} {r : β} {F : Sto → Int32 → Option β} {a1 : Int32} {ix : Nat} (pc : Nat) (C : Cx G X own cc nL n) (hn : 5 < n) (h1 : Cond.methodLink own ix yX7_fits ∈ lw_gd) (hd : decode cc pc = .ok (.invokevirtual ix, 3)) (hsum : (st.map fun v => v.category).sum ≤ 8) (h : bd2 (f_X7_fits σ a1) F = some r) (kk : ∀ σ1 v, F σ1 v = some r → V G X nL σ1 lv (.int v :: st) (pc + 3)) : V G X nL σ lv (.int a1 :: .ref (G.1 0) :: st) pc := by
  obtain ⟨z, hz, h⟩ := bd2_some h
  exact v_callV pc C 0 1 [.int a1] st (c_f_X7_fits (xl X) G C.2.2.2.2.2.2.1 _ _ _ hz) hn (by decide) (by decide) (ce_0 G _ _) rfl (by decide +kernel) rfl h1 q_713 q_714 q_59 q_715 rfl hsum hd (kk _ _ h)
