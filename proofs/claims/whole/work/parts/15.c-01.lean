-- f_X6_hatOf_10
def f_X6_hatOf_10_l2 (x1 : Int32) (σ : Sto) (x2 : Int32) : Option ((Sto × Int32) ⊕ ((Sto × Int32) ⊕ (Sto × Int32))) :=
  if (4 : Int32) ≤ x2 then (some (.inr (.inr (σ, x2)))) else (gd (inB x2 4) (if (σ.1 12 (x2).toNatClampNeg) = x1 then (some (.inr (.inl (σ, x2)))) else (bs (x2 + (1 : Int32)) fun z2 => some (.inl (σ, z2)))))
def f_X6_hatOf_10 (σ : Sto) (a1 : Int32) : Option (Sto × Int32) :=
  bs (0 : Int32) fun z1 => bR1 (lpF (fun t => f_X6_hatOf_10_l2 a1 t.1 t.2) FU (σ, z1)) (fun u => some u) (fun σ3 z4 => some (σ3, (-1 : Int32)))
theorem w_f_X6_hatOf_10_l2 {G : Wld} {X : Cxt} (C : Cx G X RX6 cX6_hatOf 3 1) {x1 : Int32} {σ : Sto} {x2 : Int32} {y : (Sto × Int32) ⊕ ((Sto × Int32) ⊕ (Sto × Int32))} (h : f_X6_hatOf_10_l2 x1 σ x2 = some y) (hc : ∀ t : Sto × Int32, y = .inl t → V G X 3 t.1 [(0, .ref (G.1 10)), (1, .int x1), (2, .int t.2)] [] 2) {Ve : (Sto × Int32) ⊕ (Sto × Int32) → Prop} (he : ∀ e, y = .inr e → Ve e) (hr : ∀ (σ : Sto) (v : Int32), Ve (.inl (σ, v)) → Rx G X (some .int) (some (.int v)) σ) (hx : ∀ (σ : Sto) (x2 : Int32), Ve (.inr (σ, x2)) → V G X 3 σ [(0, .ref (G.1 10)), (1, .int x1), (2, .int x2)] [] 25) : V G X 3 σ [(0, .ref (G.1 10)), (1, .int x1), (2, .int x2)] [] 2 := by
  unfold f_X6_hatOf_10_l2 at h
  refine v_iload_n 2 C 2 2 dX6_hatOf_2 rfl rfl ?_
  refine v_iconst 3 C (4 : Int32) dX6_hatOf_3 (by decide) ?_
  refine v_icmp_ge 4 C 25 dX6_hatOf_4 (by decide) h (fun h => ?_) (fun h => ?_)
  · exact v_sub [0, 1, 2] rfl (hx _ _ (he _ (Option.some.inj h).symm))
  · refine v_aload_n 7 C 0 0 dX6_hatOf_7 rfl rfl ?_
    refine g_X6_10_1 8 C dX6_hatOf_8 ?_
    refine v_iload_n 11 C 2 2 dX6_hatOf_11 rfl rfl ?_
    refine v_iald 12 C 12 (by decide) (ce_12 G) dX6_hatOf_12 h (fun h => ?_)
    refine v_iload_n 13 C 1 1 dX6_hatOf_13 rfl rfl ?_
    refine v_icmp_ne 14 C 19 dX6_hatOf_14 (by decide) h (fun h => ?_) (fun h => ?_)
    · refine b_iinc 19 C 2 2 (1 : Int32) (lv2 := fun z2 => [(2, .int z2), (0, .ref (G.1 10)), (1, .int x1)]) dX6_hatOf_19 rfl (by decide) (by decide) (fun _ => rfl) h (fun z2 h => ?_)
      refine v_goto 22 C 2 dX6_hatOf_22 (by decide) ?_
      exact v_sub [1, 2, 0] rfl (hc _ (Option.some.inj h).symm)
    · refine v_iload_n 17 C 2 2 dX6_hatOf_17 rfl rfl ?_
      exact v_iret 18 C (hr _ _ (he _ (Option.some.inj h).symm)) dX6_hatOf_18
theorem w_f_X6_hatOf_10 {G : Wld} {X : Cxt} (C : Cx G X RX6 cX6_hatOf 3 1) {σ : Sto} {a1 : Int32} {y : Sto × Int32} (h : f_X6_hatOf_10 σ a1 = some y) (hK : Rx G X (some .int) (some (.int y.2)) y.1) : V G X 3 σ [(0, .ref (G.1 10)), (1, .int a1)] [] 0 := by
  unfold f_X6_hatOf_10 at h
  refine v_iconst 0 C (0 : Int32) dX6_hatOf_0 (by decide) ?_
  refine b_istore_n 1 C 2 (lv2 := fun z1 => [(2, .int z1), (0, .ref (G.1 10)), (1, .int a1)]) dX6_hatOf_1 rfl (by decide) (fun _ => rfl) h (fun z1 h => ?_)
  refine v_sub [1, 2, 0] rfl ?_
  refine lp_go (Vh := fun t => V G X 3 t.1 [(0, .ref (G.1 10)), (1, .int a1), (2, .int t.2)] [] 2) h ?_
  intro t5 y5 hy5 hc5 he5
  refine w_f_X6_hatOf_10_l2 C hy5 hc5 he5 (fun _ _ h => by cases h; exact hK) (fun σ3 z4 h => ?_)
  dsimp only at h
  refine v_iconst 25 C (-1 : Int32) dX6_hatOf_25 (by decide) ?_
  cases h
  exact v_iret 26 C hK dX6_hatOf_26
theorem c_f_X6_hatOf_10 (l : Launch) (G : Wld) (hG : GI G) (σ : Sto) (a1 : Int32) (y : Sto × Int32) (h : f_X6_hatOf_10 σ a1 = some y) : Ct l G yX6_hatOf cX6_hatOf 3 (some .int) 1 [.ref (G.1 10), .int a1] σ (some (.int y.2)) y.1 := by
  refine ct_intro RX6 hG (by decide) rfl (Nat.le_of_ble_eq_true rfl) (fun X hX C hK => ?_)
  subst hX
  exact w_f_X6_hatOf_10 C h hK
theorem r_f_X6_hatOf_10 {G : Wld} {X : Cxt} {own : String} {cc : ByteArray} {nL n : Nat} {σ : Sto} {lv : List (Nat × Value)} {st : List Value} {β : Type} {r : β} {F : Sto → Int32 → Option β} {a1 : Int32} {ix : Nat} (pc : Nat) (C : Cx G X own cc nL n) (hn : 1 < n) (h1 : Cond.methodLink own ix yX6_hatOf ∈ lw_gd) (hd : decode cc pc = .ok (.invokevirtual ix, 3)) (hsum : (st.map fun v => v.category).sum ≤ 8) (h : bd2 (f_X6_hatOf_10 σ a1) F = some r) (kk : ∀ σ1 v, F σ1 v = some r → V G X nL σ1 lv (.int v :: st) (pc + 3)) : V G X nL σ lv (.int a1 :: .ref (G.1 10) :: st) pc := by
  obtain ⟨z, hz, h⟩ := bd2_some h
  exact v_callV pc C 10 1 [.int a1] st (c_f_X6_hatOf_10 (xl X) G C.2.2.2.2.2.2.1 _ _ _ hz) hn (by decide) (by decide) (ce_10 G _ _) rfl (by decide +kernel) rfl h1 q_517 q_518 q_62 q_519 rfl hsum hd (kk _ _ h)
-- f_X7_tallOf
def f_X7_tallOf_j69 (σ : Sto) (x2 : Int32) : Option (Sto × Int32) :=
  some (σ, x2)
def f_X7_tallOf_j49 (σ : Sto) (x2 : Int32) (x4 : Int32) : Option (Sto × Int32) :=
  if x4 = (-1 : Int32) then (f_X7_tallOf_j69 σ x2) else (bd2 (f_X2_number_1 σ (2 : Int32) x4 (0 : Int32)) fun σ8 v9 => bs (x2 + v9) fun z10 => f_X7_tallOf_j69 σ8 z10)
def f_X7_tallOf (σ : Sto) (a1 : Int32) : Option (Sto × Int32) :=
  bd2 (f_X2_number_1 σ (3 : Int32) a1 (0 : Int32)) fun σ1 v2 => bs v2 fun z3 => bd2 (f_X6_hatOf_10 σ1 a1) fun σ4 v5 => bs v5 fun z6 => gd (inB a1 6) (bs (σ4.1 11 (a1).toNatClampNeg) fun z7 => if z6 = (-1 : Int32) then (f_X7_tallOf_j49 σ4 z3 z7) else (bd2 (f_X2_number_1 σ4 (4 : Int32) z6 (0 : Int32)) fun σ11 v12 => bs (z3 + v12) fun z13 => f_X7_tallOf_j49 σ11 z13 z7))
theorem w_f_X7_tallOf_j69 {G : Wld} {X : Cxt} (C : Cx G X RX7 cX7_tallOf 5 2) {σ : Sto} {x2 : Int32} {y : Sto × Int32} (h : f_X7_tallOf_j69 σ x2 = some y) (hK : Rx G X (some .int) (some (.int y.2)) y.1) : V G X 5 σ [(0, .ref (G.1 0)), (2, .int x2)] [] 69 := by
  unfold f_X7_tallOf_j69 at h
  refine v_iload_n 69 C 2 1 dX7_tallOf_69 rfl rfl ?_
  cases h
  exact v_iret 70 C hK dX7_tallOf_70
theorem w_f_X7_tallOf_j49 {G : Wld} {X : Cxt} (C : Cx G X RX7 cX7_tallOf 5 2) {σ : Sto} {x2 : Int32} {x4 : Int32} {y : Sto × Int32} (h : f_X7_tallOf_j49 σ x2 x4 = some y) (hK : Rx G X (some .int) (some (.int y.2)) y.1) : V G X 5 σ [(0, .ref (G.1 0)), (2, .int x2), (4, .int x4)] [] 49 := by
  unfold f_X7_tallOf_j49 at h
  refine v_iload 49 C 4 2 dX7_tallOf_49 rfl ?_
  refine v_iconst 51 C (-1 : Int32) dX7_tallOf_51 (by decide) ?_
  refine v_icmp_eq 52 C 69 dX7_tallOf_52 (by decide) h (fun h => ?_) (fun h => ?_)
  · exact v_sub [0, 1] rfl (w_f_X7_tallOf_j69 C h hK)
  · refine v_iload_n 55 C 2 1 dX7_tallOf_55 rfl rfl ?_
    refine v_aload_n 56 C 0 0 dX7_tallOf_56 rfl rfl ?_
    refine g_X7_0_0 57 C dX7_tallOf_57 ?_
    refine v_iconst 60 C (2 : Int32) dX7_tallOf_60 (by decide) ?_
    refine v_iload 61 C 4 2 dX7_tallOf_61 rfl ?_
    refine v_iconst 63 C (0 : Int32) dX7_tallOf_63 (by decide) ?_
    refine r_f_X2_number_1 64 C (by decide) q_511 dX7_tallOf_64 (Nat.le_of_ble_eq_true rfl) h (fun σ8 v9 h => ?_)
    refine v_iadd 67 C dX7_tallOf_67 ?_
    refine b_istore_n 68 C 2 (lv2 := fun z10 => [(2, .int z10), (0, .ref (G.1 0)), (4, .int x4)]) dX7_tallOf_68 rfl (by decide) (fun _ => rfl) h (fun z10 h => ?_)
    exact v_sub [1, 0] rfl (w_f_X7_tallOf_j69 C h hK)
theorem w_f_X7_tallOf {G : Wld} {X : Cxt} (C : Cx G X RX7 cX7_tallOf 5 2) {σ : Sto} {a1 : Int32} {y : Sto × Int32} (h : f_X7_tallOf σ a1 = some y) (hK : Rx G X (some .int) (some (.int y.2)) y.1) : V G X 5 σ [(0, .ref (G.1 0)), (1, .int a1)] [] 0 := by
  unfold f_X7_tallOf at h
  refine v_aload_n 0 C 0 0 dX7_tallOf_0 rfl rfl ?_
  refine g_X7_0_0 1 C dX7_tallOf_1 ?_
  refine v_iconst 4 C (3 : Int32) dX7_tallOf_4 (by decide) ?_
  refine v_iload_n 5 C 1 1 dX7_tallOf_5 rfl rfl ?_
  refine v_iconst 6 C (0 : Int32) dX7_tallOf_6 (by decide) ?_
  refine r_f_X2_number_1 7 C (by decide) q_511 dX7_tallOf_7 (Nat.le_of_ble_eq_true rfl) h (fun σ1 v2 h => ?_)
  refine b_istore_n 10 C 2 (lv2 := fun z3 => [(2, .int z3), (0, .ref (G.1 0)), (1, .int a1)]) dX7_tallOf_10 rfl (by decide) (fun _ => rfl) h (fun z3 h => ?_)
  refine v_aload_n 11 C 0 1 dX7_tallOf_11 rfl rfl ?_
  refine g_X7_0_2 12 C dX7_tallOf_12 ?_
  refine v_iload_n 15 C 1 2 dX7_tallOf_15 rfl rfl ?_
  refine r_f_X6_hatOf_10 16 C (by decide) q_516 dX7_tallOf_16 (Nat.le_of_ble_eq_true rfl) h (fun σ4 v5 h => ?_)
  refine b_istore_n 19 C 3 (lv2 := fun z6 => [(3, .int z6), (2, .int z3), (0, .ref (G.1 0)), (1, .int a1)]) dX7_tallOf_19 rfl (by decide) (fun _ => rfl) h (fun z6 h => ?_)
  refine v_aload_n 20 C 0 2 dX7_tallOf_20 rfl rfl ?_
  refine g_X7_0_2 21 C dX7_tallOf_21 ?_
  refine g_X7_10_0 24 C dX7_tallOf_24 ?_
  refine v_iload_n 27 C 1 3 dX7_tallOf_27 rfl rfl ?_
  refine v_iald 28 C 11 (by decide) (ce_11 G) dX7_tallOf_28 h (fun h => ?_)
  refine b_istore 29 C 4 (lv2 := fun z7 => [(4, .int z7), (3, .int z6), (2, .int z3), (0, .ref (G.1 0)), (1, .int a1)]) dX7_tallOf_29 (by decide) (fun _ => rfl) h (fun z7 h => ?_)
  refine v_iload_n 31 C 3 1 dX7_tallOf_31 rfl rfl ?_
  refine v_iconst 32 C (-1 : Int32) dX7_tallOf_32 (by decide) ?_
  refine v_icmp_eq 33 C 49 dX7_tallOf_33 (by decide) h (fun h => ?_) (fun h => ?_)
  · exact v_sub [3, 2, 0] rfl (w_f_X7_tallOf_j49 C h hK)
  · refine v_iload_n 36 C 2 2 dX7_tallOf_36 rfl rfl ?_
    refine v_aload_n 37 C 0 3 dX7_tallOf_37 rfl rfl ?_
    refine g_X7_0_0 38 C dX7_tallOf_38 ?_
    refine v_iconst 41 C (4 : Int32) dX7_tallOf_41 (by decide) ?_
    refine v_iload_n 42 C 3 1 dX7_tallOf_42 rfl rfl ?_
    refine v_iconst 43 C (0 : Int32) dX7_tallOf_43 (by decide) ?_
    refine r_f_X2_number_1 44 C (by decide) q_511 dX7_tallOf_44 (Nat.le_of_ble_eq_true rfl) h (fun σ11 v12 h => ?_)
    refine v_iadd 47 C dX7_tallOf_47 ?_
    refine b_istore_n 48 C 2 (lv2 := fun z13 => [(2, .int z13), (4, .int z7), (3, .int z6), (0, .ref (G.1 0)), (1, .int a1)]) dX7_tallOf_48 rfl (by decide) (fun _ => rfl) h (fun z13 h => ?_)
    exact v_sub [3, 0, 1] rfl (w_f_X7_tallOf_j49 C h hK)
theorem c_f_X7_tallOf (l : Launch) (G : Wld) (hG : GI G) (σ : Sto) (a1 : Int32) (y : Sto × Int32) (h : f_X7_tallOf σ a1 = some y) : Ct l G yX7_tallOf cX7_tallOf 5 (some .int) 2 [.ref (G.1 0), .int a1] σ (some (.int y.2)) y.1 := by
  refine ct_intro RX7 hG (by decide) rfl (Nat.le_of_ble_eq_true rfl) (fun X hX C hK => ?_)
  subst hX
  exact w_f_X7_tallOf C h hK
theorem r_f_X7_tallOf {G : Wld} {X : Cxt} {own : String} {cc : ByteArray} {nL n : Nat} {σ : Sto} {lv : List (Nat × Value)} {st : List Value} {β : Type} {r : β} {F : Sto → Int32 → Option β} {a1 : Int32} {ix : Nat} (pc : Nat) (C : Cx G X own cc nL n) (hn : 2 < n) (h1 : Cond.methodLink own ix yX7_tallOf ∈ lw_gd) (hd : decode cc pc = .ok (.invokevirtual ix, 3)) (hsum : (st.map fun v => v.category).sum ≤ 8) (h : bd2 (f_X7_tallOf σ a1) F = some r) (kk : ∀ σ1 v, F σ1 v = some r → V G X nL σ1 lv (.int v :: st) (pc + 3)) : V G X nL σ lv (.int a1 :: .ref (G.1 0) :: st) pc := by
  obtain ⟨z, hz, h⟩ := bd2_some h
  exact v_callV pc C 0 1 [.int a1] st (c_f_X7_tallOf (xl X) G C.2.2.2.2.2.2.1 _ _ _ hz) hn (by decide) (by decide) (ce_0 G _ _) rfl (by decide +kernel) rfl h1 q_522 q_9 q_59 q_523 rfl hsum hd (kk _ _ h)
-- f_X7_beggar
def f_X7_beggar (σ : Sto) (a1 : Int32) (a2 : Int32) : Option (Sto × Int32) :=
  bd2 (f_X2_has_1 σ (3 : Int32) a1) fun σ1 v2 => if v2 = 0 then (some (σ1, (-1000000001 : Int32))) else (if a2 = (0 : Int32) then (bd2 (f_X2_number_1 σ1 (3 : Int32) a1 (0 : Int32)) fun σ4 v5 => some (σ4, v5)) else if a2 = (1 : Int32) then (gd (inB a1 6) (some (σ1, (σ1.1 11 (a1).toNatClampNeg)))) else if a2 = (2 : Int32) then (bd2 (f_X6_hatOf_10 σ1 a1) fun σ6 v7 => some (σ6, v7)) else if a2 = (3 : Int32) then (bd2 (f_X7_tallOf σ1 a1) fun σ8 v9 => some (σ8, v9)) else if a2 = (4 : Int32) then (gd (inB a1 6) (some (σ1, (σ1.1 13 (a1).toNatClampNeg)))) else (some (σ1, (-1000000002 : Int32))))
theorem w_f_X7_beggar {G : Wld} {X : Cxt} (C : Cx G X RX7 cX7_beggar 3 3) {σ : Sto} {a1 : Int32} {a2 : Int32} {y : Sto × Int32} (h : f_X7_beggar σ a1 a2 = some y) (hK : Rx G X (some .int) (some (.int y.2)) y.1) : V G X 3 σ [(0, .ref (G.1 0)), (1, .int a1), (2, .int a2)] [] 0 := by
  unfold f_X7_beggar at h
  refine v_aload_n 0 C 0 0 dX7_beggar_0 rfl rfl ?_
  refine g_X7_0_0 1 C dX7_beggar_1 ?_
  refine v_iconst 4 C (3 : Int32) dX7_beggar_4 (by decide) ?_
  refine v_iload_n 5 C 1 1 dX7_beggar_5 rfl rfl ?_
  refine r_f_X2_has_1 6 C (by decide) q_489 dX7_beggar_6 (Nat.le_of_ble_eq_true rfl) h (fun σ1 v2 h => ?_)
  refine v_if_ne 9 C 15 dX7_beggar_9 (by decide) h (fun h => ?_) (fun h => ?_)
  · refine v_iload_n 15 C 2 2 dX7_beggar_15 rfl rfl ?_
    by_cases c3_0 : a2 = (0 : Int32)
    · replace h := it_t h c3_0
      refine v_tableAt 16 C (off := 36) (0 : Int32) 52 c3_0 dX7_beggar_16 (by decide) (by decide) (by decide) (by decide) ?_
      refine v_aload_n 52 C 0 0 dX7_beggar_52 rfl rfl ?_
      refine g_X7_0_0 53 C dX7_beggar_53 ?_
      refine v_iconst 56 C (3 : Int32) dX7_beggar_56 (by decide) ?_
      refine v_iload_n 57 C 1 1 dX7_beggar_57 rfl rfl ?_
      refine v_iconst 58 C (0 : Int32) dX7_beggar_58 (by decide) ?_
      refine r_f_X2_number_1 59 C (by decide) q_511 dX7_beggar_59 (Nat.le_of_ble_eq_true rfl) h (fun σ4 v5 h => ?_)
      cases h
      exact v_iret 62 C hK dX7_beggar_62
    · replace h := it_f h c3_0
      by_cases c3_1 : a2 = (1 : Int32)
      · replace h := it_t h c3_1
        refine v_tableAt 16 C (off := 47) (1 : Int32) 63 c3_1 dX7_beggar_16 (by decide) (by decide) (by decide) (by decide) ?_
        refine v_aload_n 63 C 0 0 dX7_beggar_63 rfl rfl ?_
        refine g_X7_0_2 64 C dX7_beggar_64 ?_
        refine g_X7_10_0 67 C dX7_beggar_67 ?_
        refine v_iload_n 70 C 1 1 dX7_beggar_70 rfl rfl ?_
        refine v_iald 71 C 11 (by decide) (ce_11 G) dX7_beggar_71 h (fun h => ?_)
        cases h
        exact v_iret 72 C hK dX7_beggar_72
      · replace h := it_f h c3_1
        by_cases c3_2 : a2 = (2 : Int32)
        · replace h := it_t h c3_2
          refine v_tableAt 16 C (off := 57) (2 : Int32) 73 c3_2 dX7_beggar_16 (by decide) (by decide) (by decide) (by decide) ?_
          refine v_aload_n 73 C 0 0 dX7_beggar_73 rfl rfl ?_
          refine g_X7_0_2 74 C dX7_beggar_74 ?_
          refine v_iload_n 77 C 1 1 dX7_beggar_77 rfl rfl ?_
          refine r_f_X6_hatOf_10 78 C (by decide) q_516 dX7_beggar_78 (Nat.le_of_ble_eq_true rfl) h (fun σ6 v7 h => ?_)
          cases h
          exact v_iret 81 C hK dX7_beggar_81
        · replace h := it_f h c3_2
          by_cases c3_3 : a2 = (3 : Int32)
          · replace h := it_t h c3_3
            refine v_tableAt 16 C (off := 66) (3 : Int32) 82 c3_3 dX7_beggar_16 (by decide) (by decide) (by decide) (by decide) ?_
            refine v_aload_n 82 C 0 0 dX7_beggar_82 rfl rfl ?_
            refine v_iload_n 83 C 1 1 dX7_beggar_83 rfl rfl ?_
            refine r_f_X7_tallOf 84 C (by decide) q_520 dX7_beggar_84 (Nat.le_of_ble_eq_true rfl) h (fun σ8 v9 h => ?_)
            cases h
            exact v_iret 87 C hK dX7_beggar_87
          · replace h := it_f h c3_3
            by_cases c3_4 : a2 = (4 : Int32)
            · replace h := it_t h c3_4
              refine v_tableAt 16 C (off := 72) (4 : Int32) 88 c3_4 dX7_beggar_16 (by decide) (by decide) (by decide) (by decide) ?_
              refine v_aload_n 88 C 0 0 dX7_beggar_88 rfl rfl ?_
              refine g_X7_0_2 89 C dX7_beggar_89 ?_
              refine g_X7_10_2 92 C dX7_beggar_92 ?_
              refine v_iload_n 95 C 1 1 dX7_beggar_95 rfl rfl ?_
              refine v_iald 96 C 13 (by decide) (ce_13 G) dX7_beggar_96 h (fun h => ?_)
              cases h
              exact v_iret 97 C hK dX7_beggar_97
            · replace h := it_f h c3_4
              refine v_tableOut 16 C 98 dX7_beggar_16 (sw_out 5 (by decide) (fun j hj => by
                rcases (show j = 0 ∨ j = 1 ∨ j = 2 ∨ j = 3 ∨ j = 4 by omega) with rfl | rfl | rfl | rfl | rfl
                · exact c3_0
                · exact c3_1
                · exact c3_2
                · exact c3_3
                · exact c3_4)) (by decide) ?_
              refine v_ldc 98 C dX7_beggar_98 q_323 ?_
              cases h
              exact v_iret 100 C hK dX7_beggar_100
  · refine v_ldc 12 C dX7_beggar_12 q_493 ?_
    cases h
    exact v_iret 14 C hK dX7_beggar_14
theorem c_f_X7_beggar (l : Launch) (G : Wld) (hG : GI G) (σ : Sto) (a1 : Int32) (a2 : Int32) (y : Sto × Int32) (h : f_X7_beggar σ a1 a2 = some y) : Ct l G yX7_beggar cX7_beggar 3 (some .int) 3 [.ref (G.1 0), .int a1, .int a2] σ (some (.int y.2)) y.1 := by
  refine ct_intro RX7 hG (by decide) rfl (Nat.le_of_ble_eq_true rfl) (fun X hX C hK => ?_)
  subst hX
  exact w_f_X7_beggar C h hK
theorem r_f_X7_beggar {G : Wld} {X : Cxt} {own : String} {cc : ByteArray} {nL n : Nat} {σ : Sto} {lv : List (Nat × Value)} {st : List Value} {β : Type} {r : β} {F : Sto → Int32 → Option β} {a1 : Int32} {a2 : Int32} {ix : Nat} (pc : Nat) (C : Cx G X own cc nL n) (hn : 3 < n) (h1 : Cond.methodLink own ix yX7_beggar ∈ lw_gd) (hd : decode cc pc = .ok (.invokevirtual ix, 3)) (hsum : (st.map fun v => v.category).sum ≤ 8) (h : bd2 (f_X7_beggar σ a1 a2) F = some r) (kk : ∀ σ1 v, F σ1 v = some r → V G X nL σ1 lv (.int v :: st) (pc + 3)) : V G X nL σ lv (.int a2 :: .int a1 :: .ref (G.1 0) :: st) pc := by
  obtain ⟨z, hz, h⟩ := bd2_some h
  exact v_callV pc C 0 2 [.int a1, .int a2] st (c_f_X7_beggar (xl X) G C.2.2.2.2.2.2.1 _ _ _ _ hz) hn (by decide) (by decide) (ce_0 G _ _) rfl (by decide +kernel) rfl h1 q_513 q_514 q_59 q_515 rfl hsum hd (kk _ _ h)
-- f_X7_hat
def f_X7_hat_j24 (σ : Sto) : Option (Sto × Int32) :=
  some (σ, (-1000000002 : Int32))
def f_X7_hat_j54 (σ : Sto) (s0 : Int32) : Option (Sto × Int32) :=
  some (σ, s0)
def f_X7_hat (σ : Sto) (a1 : Int32) (a2 : Int32) : Option (Sto × Int32) :=
  bd2 (f_X2_has_1 σ (4 : Int32) a1) fun σ1 v2 => if v2 = 0 then (some (σ1, (-1000000001 : Int32))) else (if a2 < 0 then (f_X7_hat_j24 σ1) else (if a2 ≤ (2 : Int32) then (if a2 = (2 : Int32) then (gd (inB a1 4) (f_X7_hat_j54 σ1 (σ1.1 12 (a1).toNatClampNeg))) else (bd2 (f_X2_number_1 σ1 (4 : Int32) a1 a2) fun σ3 v4 => f_X7_hat_j54 σ3 v4)) else (f_X7_hat_j24 σ1)))
theorem w_f_X7_hat_j24 {G : Wld} {X : Cxt} (C : Cx G X RX7 cX7_hat 3 2) {σ : Sto} {y : Sto × Int32} (h : f_X7_hat_j24 σ = some y) (hK : Rx G X (some .int) (some (.int y.2)) y.1) : V G X 3 σ [(0, .ref (G.1 0))] [] 24 := by
  unfold f_X7_hat_j24 at h
  refine v_ldc 24 C dX7_hat_24 q_323 ?_
  cases h
  exact v_iret 26 C hK dX7_hat_26
theorem w_f_X7_hat_j54 {G : Wld} {X : Cxt} (C : Cx G X RX7 cX7_hat 3 2) {σ : Sto} {s0 : Int32} {y : Sto × Int32} (h : f_X7_hat_j54 σ s0 = some y) (hK : Rx G X (some .int) (some (.int y.2)) y.1) : V G X 3 σ [(0, .ref (G.1 0))] [.int s0] 54 := by
  unfold f_X7_hat_j54 at h
  cases h
  exact v_iret 54 C hK dX7_hat_54
theorem w_f_X7_hat {G : Wld} {X : Cxt} (C : Cx G X RX7 cX7_hat 3 2) {σ : Sto} {a1 : Int32} {a2 : Int32} {y : Sto × Int32} (h : f_X7_hat σ a1 a2 = some y) (hK : Rx G X (some .int) (some (.int y.2)) y.1) : V G X 3 σ [(0, .ref (G.1 0)), (1, .int a1), (2, .int a2)] [] 0 := by
  unfold f_X7_hat at h
  refine v_aload_n 0 C 0 0 dX7_hat_0 rfl rfl ?_
  refine g_X7_0_0 1 C dX7_hat_1 ?_
  refine v_iconst 4 C (4 : Int32) dX7_hat_4 (by decide) ?_
  refine v_iload_n 5 C 1 1 dX7_hat_5 rfl rfl ?_
  refine r_f_X2_has_1 6 C (by decide) q_489 dX7_hat_6 (Nat.le_of_ble_eq_true rfl) h (fun σ1 v2 h => ?_)
  refine v_if_ne 9 C 15 dX7_hat_9 (by decide) h (fun h => ?_) (fun h => ?_)
  · refine v_iload_n 15 C 2 2 dX7_hat_15 rfl rfl ?_
    refine v_if_lt 16 C 24 dX7_hat_16 (by decide) h (fun h => ?_) (fun h => ?_)
    · exact v_sub [0] rfl (w_f_X7_hat_j24 C h hK)
    · refine v_iload_n 19 C 2 2 dX7_hat_19 rfl rfl ?_
      refine v_iconst 20 C (2 : Int32) dX7_hat_20 (by decide) ?_
      refine v_icmp_le 21 C 27 dX7_hat_21 (by decide) h (fun h => ?_) (fun h => ?_)
      · refine v_iload_n 27 C 2 2 dX7_hat_27 rfl rfl ?_
        refine v_iconst 28 C (2 : Int32) dX7_hat_28 (by decide) ?_
        refine v_icmp_ne 29 C 44 dX7_hat_29 (by decide) h (fun h => ?_) (fun h => ?_)
        · refine v_aload_n 44 C 0 0 dX7_hat_44 rfl rfl ?_
          refine g_X7_0_0 45 C dX7_hat_45 ?_
          refine v_iconst 48 C (4 : Int32) dX7_hat_48 (by decide) ?_
          refine v_iload_n 49 C 1 1 dX7_hat_49 rfl rfl ?_
          refine v_iload_n 50 C 2 2 dX7_hat_50 rfl rfl ?_
          refine r_f_X2_number_1 51 C (by decide) q_511 dX7_hat_51 (Nat.le_of_ble_eq_true rfl) h (fun σ3 v4 h => ?_)
          exact v_sub [0] rfl (w_f_X7_hat_j54 C h hK)
        · refine v_aload_n 32 C 0 0 dX7_hat_32 rfl rfl ?_
          refine g_X7_0_2 33 C dX7_hat_33 ?_
          refine g_X7_10_1 36 C dX7_hat_36 ?_
          refine v_iload_n 39 C 1 1 dX7_hat_39 rfl rfl ?_
          refine v_iald 40 C 12 (by decide) (ce_12 G) dX7_hat_40 h (fun h => ?_)
          refine v_goto 41 C 54 dX7_hat_41 (by decide) ?_
          exact v_sub [0] rfl (w_f_X7_hat_j54 C h hK)
      · exact v_sub [0] rfl (w_f_X7_hat_j24 C h hK)
  · refine v_ldc 12 C dX7_hat_12 q_493 ?_
    cases h
    exact v_iret 14 C hK dX7_hat_14
theorem c_f_X7_hat (l : Launch) (G : Wld) (hG : GI G) (σ : Sto) (a1 : Int32) (a2 : Int32) (y : Sto × Int32) (h : f_X7_hat σ a1 a2 = some y) : Ct l G yX7_hat cX7_hat 3 (some .int) 2 [.ref (G.1 0), .int a1, .int a2] σ (some (.int y.2)) y.1 := by
  refine ct_intro RX7 hG (by decide) rfl (Nat.le_of_ble_eq_true rfl) (fun X hX C hK => ?_)
  subst hX
  exact w_f_X7_hat C h hK
theorem r_f_X7_hat {G : Wld} {X : Cxt} {own : String} {cc : ByteArray} {nL n : Nat} {σ : Sto} {lv : List (Nat × Value)} {st : List Value} {β : Type} {r : β} {F : Sto → Int32 → Option β} {a1 : Int32} {a2 : Int32} {ix : Nat} (pc : Nat) (C : Cx G X own cc nL n) (hn : 2 < n) (h1 : Cond.methodLink own ix yX7_hat ∈ lw_gd) (hd : decode cc pc = .ok (.invokevirtual ix, 3)) (hsum : (st.map fun v => v.category).sum ≤ 8) (h : bd2 (f_X7_hat σ a1 a2) F = some r) (kk : ∀ σ1 v, F σ1 v = some r → V G X nL σ1 lv (.int v :: st) (pc + 3)) : V G X nL σ lv (.int a2 :: .int a1 :: .ref (G.1 0) :: st) pc := by
  obtain ⟨z, hz, h⟩ := bd2_some h
  exact v_callV pc C 0 2 [.int a1, .int a2] st (c_f_X7_hat (xl X) G C.2.2.2.2.2.2.1 _ _ _ _ hz) hn (by decide) (by decide) (ce_0 G _ _) rfl (by decide +kernel) rfl h1 q_525 q_526 q_59 q_527 rfl hsum hd (kk _ _ h)
-- f_J7_fill_53178_33
def f_J7_fill_53178_33_l5 (x1 : Int32) (x3 : Int32) (σ : Sto) (x2 : Int32) : Option ((Sto × Int32) ⊕ (Sto × Int32)) :=
  if x3 ≤ x2 then (some (.inr (σ, x2))) else (gd (inB x2 6) (bs (su σ 33 (x2).toNatClampNeg x1) fun σ3 => bs (x2 + (1 : Int32)) fun z4 => some (.inl (σ3, z4))))
def f_J7_fill_53178_33 (σ : Sto) (a1 : Int32) : Option (Sto) :=
  bs (0 : Int32) fun z1 => bs (6 : Int32) fun z2 => bE1 (lpF (fun t => f_J7_fill_53178_33_l5 a1 z2 t.1 t.2) FU (σ, z1)) (fun σ5 z6 => some σ5)
theorem w_f_J7_fill_53178_33_l5 {G : Wld} {X : Cxt} (C : Cx G X RJ7 cJ7_fill_53178 4 1) {x1 : Int32} {x3 : Int32} {σ : Sto} {x2 : Int32} {y : (Sto × Int32) ⊕ (Sto × Int32)} (h : f_J7_fill_53178_33_l5 x1 x3 σ x2 = some y) (hc : ∀ t : Sto × Int32, y = .inl t → V G X 4 t.1 [(0, .ref (G.1 33)), (1, .int x1), (2, .int t.2), (3, .int x3)] [] 5) {Ve : Sto × Int32 → Prop} (he : ∀ e, y = .inr e → Ve e) (hx : ∀ (σ : Sto) (x2 : Int32), Ve (σ, x2) → V G X 4 σ [(0, .ref (G.1 33)), (1, .int x1), (2, .int x2), (3, .int x3)] [] 20) : V G X 4 σ [(0, .ref (G.1 33)), (1, .int x1), (2, .int x2), (3, .int x3)] [] 5 := by
  unfold f_J7_fill_53178_33_l5 at h
  refine v_iload_n 5 C 2 2 dJ7_fill_53178_5 rfl rfl ?_
  refine v_iload_n 6 C 3 3 dJ7_fill_53178_6 rfl rfl ?_
  refine v_icmp_ge 7 C 20 dJ7_fill_53178_7 (by decide) h (fun h => ?_) (fun h => ?_)
  · exact v_sub [0, 1, 2, 3] rfl (hx _ _ (he _ (Option.some.inj h).symm))
  · refine v_aload_n 10 C 0 0 dJ7_fill_53178_10 rfl rfl ?_
    refine v_iload_n 11 C 2 2 dJ7_fill_53178_11 rfl rfl ?_
    refine v_iload_n 12 C 1 1 dJ7_fill_53178_12 rfl rfl ?_
    refine b_iast 13 C 33 (by decide) (ce_33 G) dJ7_fill_53178_13 h (fun σ3 h => ?_)
    refine b_iinc 14 C 2 2 (1 : Int32) (lv2 := fun z4 => [(2, .int z4), (0, .ref (G.1 33)), (1, .int x1), (3, .int x3)]) dJ7_fill_53178_14 rfl (by decide) (by decide) (fun _ => rfl) h (fun z4 h => ?_)
    refine v_goto 17 C 5 dJ7_fill_53178_17 (by decide) ?_
    exact v_sub [1, 2, 0, 3] rfl (hc _ (Option.some.inj h).symm)
theorem w_f_J7_fill_53178_33 {G : Wld} {X : Cxt} (C : Cx G X RJ7 cJ7_fill_53178 4 1) {σ : Sto} {a1 : Int32} {y : Sto} (h : f_J7_fill_53178_33 σ a1 = some y) (hK : Rx G X none none y) : V G X 4 σ [(0, .ref (G.1 33)), (1, .int a1)] [] 0 := by
  unfold f_J7_fill_53178_33 at h
  refine v_iconst 0 C (0 : Int32) dJ7_fill_53178_0 (by decide) ?_
  refine b_istore_n 1 C 2 (lv2 := fun z1 => [(2, .int z1), (0, .ref (G.1 33)), (1, .int a1)]) dJ7_fill_53178_1 rfl (by decide) (fun _ => rfl) h (fun z1 h => ?_)
  refine v_aload_n 2 C 0 1 dJ7_fill_53178_2 rfl rfl ?_
  refine v_alen 3 C 33 0 (6 : Int32) (by decide) (ce_33 G) rfl (by decide) dJ7_fill_53178_3 ?_
  refine b_istore_n 4 C 3 (lv2 := fun z2 => [(3, .int z2), (2, .int z1), (0, .ref (G.1 33)), (1, .int a1)]) dJ7_fill_53178_4 rfl (by decide) (fun _ => rfl) h (fun z2 h => ?_)
  refine v_sub [2, 3, 1, 0] rfl ?_
  refine lp_go (Vh := fun t => V G X 4 t.1 [(0, .ref (G.1 33)), (1, .int a1), (2, .int t.2), (3, .int z2)] [] 5) h ?_
  intro t7 y7 hy7 hc7 he7
  refine w_f_J7_fill_53178_33_l5 C hy7 hc7 he7 (fun σ5 z6 h => ?_)
  dsimp only at h
  cases h
  exact v_vret 20 C hK dJ7_fill_53178_20
theorem c_f_J7_fill_53178_33 (l : Launch) (G : Wld) (hG : GI G) (σ : Sto) (a1 : Int32) (y : Sto) (h : f_J7_fill_53178_33 σ a1 = some y) : Ct l G yJ7_fill_53178 cJ7_fill_53178 4 none 1 [.ref (G.1 33), .int a1] σ none y := by
  refine ct_intro RJ7 hG (by decide) rfl (Nat.le_of_ble_eq_true rfl) (fun X hX C hK => ?_)
  subst hX
  exact w_f_J7_fill_53178_33 C h hK
theorem r_f_J7_fill_53178_33 {G : Wld} {X : Cxt} {own : String} {cc : ByteArray} {nL n : Nat} {σ : Sto} {lv : List (Nat × Value)} {st : List Value} {β : Type} {r : β} {F : Sto → Option β} {a1 : Int32} {ix : Nat} (pc : Nat) (C : Cx G X own cc nL n) (hn : 1 < n) (h1 : Cond.methodLink own ix yJ7_fill_53178 ∈ lw_gd) (hd : decode cc pc = .ok (.invokestatic ix, 3)) (hsum : (st.map fun v => v.category).sum ≤ 8) (h : bd1 (f_J7_fill_53178_33 σ a1) F = some r) (kk : ∀ σ1, F σ1 = some r → V G X nL σ1 lv (st) (pc + 3)) : V G X nL σ lv (.int a1 :: .ref (G.1 33) :: st) pc := by
  obtain ⟨z, hz, h⟩ := bd1_some h
  exact v_callS pc C 2 [.ref (G.1 33), .int a1] st (c_f_J7_fill_53178_33 (xl X) G C.2.2.2.2.2.2.1 _ _ _ hz) hn (by decide) (by decide +kernel) rfl h1 q_143 q_63 q_144 rfl hsum hd (kk _ h)
-- f_X5_putHat_28
def f_X5_putHat_28 (σ : Sto) (a1 : Int32) (a2 : Int32) : Option (Sto) :=
  gd (inB a2 7) (bd2 (f_X2_number_1 σ (4 : Int32) a1 (0 : Int32)) fun σ1 v2 => gd (inB a2 7) (bs (su σ1 29 (a2).toNatClampNeg ((σ.1 29 (a2).toNatClampNeg) + v2)) fun σ3 => gd (inB a2 7) (bd2 (f_X2_number_1 σ3 (4 : Int32) a1 (1 : Int32)) fun σ4 v5 => gd (inB a2 7) (bs (su σ4 30 (a2).toNatClampNeg ((σ3.1 30 (a2).toNatClampNeg) + v5)) fun σ6 => some σ6))))
theorem w_f_X5_putHat_28 {G : Wld} {X : Cxt} (C : Cx G X RX5 cX5_putHat 3 2) {σ : Sto} {a1 : Int32} {a2 : Int32} {y : Sto} (h : f_X5_putHat_28 σ a1 a2 = some y) (hK : Rx G X none none y) : V G X 3 σ [(0, .ref (G.1 28)), (1, .int a1), (2, .int a2)] [] 0 := by
  unfold f_X5_putHat_28 at h
  refine v_aload_n 0 C 0 0 dX5_putHat_0 rfl rfl ?_
  refine g_X5_28_4 1 C dX5_putHat_1 ?_
  refine v_iload_n 4 C 2 2 dX5_putHat_4 rfl rfl ?_
  refine v_dup2 5 C dX5_putHat_5 rfl rfl ?_
  refine v_iald 6 C 29 (by decide) (ce_29 G) dX5_putHat_6 h (fun h => ?_)
  refine v_aload_n 7 C 0 0 dX5_putHat_7 rfl rfl ?_
  refine g_X5_28_0 8 C dX5_putHat_8 ?_
  refine v_iconst 11 C (4 : Int32) dX5_putHat_11 (by decide) ?_
  refine v_iload_n 12 C 1 1 dX5_putHat_12 rfl rfl ?_
  refine v_iconst 13 C (0 : Int32) dX5_putHat_13 (by decide) ?_
  refine r_f_X2_number_1 14 C (by decide) q_542 dX5_putHat_14 (Nat.le_of_ble_eq_true rfl) h (fun σ1 v2 h => ?_)
  refine v_iadd 17 C dX5_putHat_17 ?_
  refine b_iast 18 C 29 (by decide) (ce_29 G) dX5_putHat_18 h (fun σ3 h => ?_)
  refine v_aload_n 19 C 0 0 dX5_putHat_19 rfl rfl ?_
  refine g_X5_28_5 20 C dX5_putHat_20 ?_
  refine v_iload_n 23 C 2 2 dX5_putHat_23 rfl rfl ?_
  refine v_dup2 24 C dX5_putHat_24 rfl rfl ?_
  refine v_iald 25 C 30 (by decide) (ce_30 G) dX5_putHat_25 h (fun h => ?_)
  refine v_aload_n 26 C 0 0 dX5_putHat_26 rfl rfl ?_
  refine g_X5_28_0 27 C dX5_putHat_27 ?_
  refine v_iconst 30 C (4 : Int32) dX5_putHat_30 (by decide) ?_
  refine v_iload_n 31 C 1 1 dX5_putHat_31 rfl rfl ?_
  refine v_iconst 32 C (1 : Int32) dX5_putHat_32 (by decide) ?_
  refine r_f_X2_number_1 33 C (by decide) q_542 dX5_putHat_33 (Nat.le_of_ble_eq_true rfl) h (fun σ4 v5 h => ?_)
  refine v_iadd 36 C dX5_putHat_36 ?_
  refine b_iast 37 C 30 (by decide) (ce_30 G) dX5_putHat_37 h (fun σ6 h => ?_)
  cases h
  exact v_vret 38 C hK dX5_putHat_38
theorem c_f_X5_putHat_28 (l : Launch) (G : Wld) (hG : GI G) (σ : Sto) (a1 : Int32) (a2 : Int32) (y : Sto) (h : f_X5_putHat_28 σ a1 a2 = some y) : Ct l G yX5_putHat cX5_putHat 3 none 2 [.ref (G.1 28), .int a1, .int a2] σ none y := by
  refine ct_intro RX5 hG (by decide) rfl (Nat.le_of_ble_eq_true rfl) (fun X hX C hK => ?_)
  subst hX
  exact w_f_X5_putHat_28 C h hK
theorem r_f_X5_putHat_28 {G : Wld} {X : Cxt} {own : String} {cc : ByteArray} {nL n : Nat} {σ : Sto} {lv : List (Nat × Value)} {st : List Value} {β : Type} {r : β} {F : Sto → Option β} {a1 : Int32} {a2 : Int32} {ix : Nat} (pc : Nat) (C : Cx G X own cc nL n) (hn : 2 < n) (h1 : Cond.methodLink own ix yX5_putHat ∈ lw_gd) (hd : decode cc pc = .ok (.invokevirtual ix, 3)) (hsum : (st.map fun v => v.category).sum ≤ 8) (h : bd1 (f_X5_putHat_28 σ a1 a2) F = some r) (kk : ∀ σ1, F σ1 = some r → V G X nL σ1 lv (st) (pc + 3)) : V G X nL σ lv (.int a2 :: .int a1 :: .ref (G.1 28) :: st) pc := by
  obtain ⟨z, hz, h⟩ := bd1_some h
  exact v_callV pc C 28 2 [.int a1, .int a2] st (c_f_X5_putHat_28 (xl X) G C.2.2.2.2.2.2.1 _ _ _ _ hz) hn (by decide) (by decide) (ce_28 G _ _) rfl (by decide +kernel) rfl h1 q_545 q_546 q_65 q_547 rfl hsum hd (kk _ h)
-- f_X5_dress_28_10
def f_X5_dress_28_10_j82 (σ : Sto) (x2 : Int32) (x3 : Int32) : Option ((Sto × Int32) ⊕ (Sto × Int32)) :=
  bs (x3 + (1 : Int32)) fun z13 => some (.inl (σ, z13))
def f_X5_dress_28_10_l22 (x2 : Int32) (σ : Sto) (x3 : Int32) : Option ((Sto × Int32) ⊕ (Sto × Int32)) :=
  if (σ.1 28 1) ≤ x3 then (some (.inr (σ, x3))) else (bd2 (f_X2_number_1 σ (3 : Int32) x3 (0 : Int32)) fun σ7 v8 => gd (inB x3 7) (bs (su σ7 29 (x3).toNatClampNeg v8) fun σ9 => gd (inB x3 7) (bs (su σ9 30 (x3).toNatClampNeg (0 : Int32)) fun σ10 => gd (inB x3 6) (bd2 (f_X2_has_1 σ10 (2 : Int32) (σ10.1 11 (x3).toNatClampNeg)) fun σ11 v12 => if v12 = 0 then (f_X5_dress_28_10_j82 σ11 x2 x3) else (gd (inB x3 6) (gd (inB (σ11.1 11 (x3).toNatClampNeg) 6) (bs (su σ11 33 ((σ11.1 11 (x3).toNatClampNeg)).toNatClampNeg x3) fun σ14 => f_X5_dress_28_10_j82 σ14 x2 x3)))))))
def f_X5_dress_28_10_j134 (σ : Sto) (x2 : Int32) (x3 : Int32) : Option ((Sto × Int32) ⊕ (Sto × Int32)) :=
  bs (x3 + (1 : Int32)) fun z23 => some (.inl (σ, z23))
def f_X5_dress_28_10_l90 (x2 : Int32) (σ : Sto) (x3 : Int32) : Option ((Sto × Int32) ⊕ (Sto × Int32)) :=
  if x2 = 0 then (some (.inr (σ, x3))) else (bd2 (f_X2_count_1 σ (4 : Int32)) fun σ19 v20 => if v20 ≤ x3 then (some (.inr (σ19, x3))) else (gd (inB x3 4) (bd2 (f_X2_has_1 σ19 (3 : Int32) (σ19.1 12 (x3).toNatClampNeg)) fun σ21 v22 => if v22 = 0 then (f_X5_dress_28_10_j134 σ21 x2 x3) else (gd (inB x3 4) (bd1 (f_X5_putHat_28 σ21 x3 (σ21.1 12 (x3).toNatClampNeg)) fun σ24 => f_X5_dress_28_10_j134 σ24 x2 x3)))))
def f_X5_dress_28_10 (σ : Sto) (a2 : Int32) : Option (Sto) :=
  bd2 (f_X2_count_1 σ (3 : Int32)) fun σ1 v2 => bs (su σ1 28 1 v2) fun σ3 => bd1 (f_J7_fill_53178_33 σ3 (-1 : Int32)) fun σ4 => bs (0 : Int32) fun z6 => bE1 (lpF (fun t => f_X5_dress_28_10_l22 a2 t.1 t.2) FU (σ4, z6)) (fun σ15 z16 => bs (0 : Int32) fun z18 => bE1 (lpF (fun t => f_X5_dress_28_10_l90 a2 t.1 t.2) FU (σ15, z18)) (fun σ26 z27 => some σ26))
theorem w_f_X5_dress_28_10_j82 {G : Wld} {X : Cxt} (C : Cx G X RX5 cX5_dress 4 3) {σ : Sto} {x2 : Int32} {x3 : Int32} {y : (Sto × Int32) ⊕ (Sto × Int32)} (h : f_X5_dress_28_10_j82 σ x2 x3 = some y) (hc : ∀ t : Sto × Int32, y = .inl t → V G X 4 t.1 [(0, .ref (G.1 28)), (1, .ref (G.1 10)), (2, .int x2), (3, .int t.2)] [] 22) {Ve : Sto × Int32 → Prop} (he : ∀ e, y = .inr e → Ve e) (hx : ∀ (σ : Sto) (x3 : Int32), Ve (σ, x3) → V G X 4 σ [(0, .ref (G.1 28)), (1, .ref (G.1 10)), (2, .int x2), (3, .int x3)] [] 88) : V G X 4 σ [(0, .ref (G.1 28)), (1, .ref (G.1 10)), (2, .int x2), (3, .int x3)] [] 82 := by
  unfold f_X5_dress_28_10_j82 at h
  refine b_iinc 82 C 3 3 (1 : Int32) (lv2 := fun z13 => [(3, .int z13), (0, .ref (G.1 28)), (1, .ref (G.1 10)), (2, .int x2)]) dX5_dress_82 rfl (by decide) (by decide) (fun _ => rfl) h (fun z13 h => ?_)
  refine v_goto 85 C 22 dX5_dress_85 (by decide) ?_
  exact v_sub [1, 2, 3, 0] rfl (hc _ (Option.some.inj h).symm)
theorem w_f_X5_dress_28_10_l22 {G : Wld} {X : Cxt} (C : Cx G X RX5 cX5_dress 4 3) {x2 : Int32} {σ : Sto} {x3 : Int32} {y : (Sto × Int32) ⊕ (Sto × Int32)} (h : f_X5_dress_28_10_l22 x2 σ x3 = some y) (hc : ∀ t : Sto × Int32, y = .inl t → V G X 4 t.1 [(0, .ref (G.1 28)), (1, .ref (G.1 10)), (2, .int x2), (3, .int t.2)] [] 22) {Ve : Sto × Int32 → Prop} (he : ∀ e, y = .inr e → Ve e) (hx : ∀ (σ : Sto) (x3 : Int32), Ve (σ, x3) → V G X 4 σ [(0, .ref (G.1 28)), (1, .ref (G.1 10)), (2, .int x2), (3, .int x3)] [] 88) : V G X 4 σ [(0, .ref (G.1 28)), (1, .ref (G.1 10)), (2, .int x2), (3, .int x3)] [] 22 := by
  unfold f_X5_dress_28_10_l22 at h
  refine v_iload_n 22 C 3 3 dX5_dress_22 rfl rfl ?_
  refine v_aload_n 23 C 0 0 dX5_dress_23 rfl rfl ?_
  refine g_X5_28_1 24 C dX5_dress_24 ?_
  refine v_icmp_ge 27 C 88 dX5_dress_27 (by decide) h (fun h => ?_) (fun h => ?_)
  · exact v_sub [0, 1, 2, 3] rfl (hx _ _ (he _ (Option.some.inj h).symm))
  · refine v_aload_n 30 C 0 0 dX5_dress_30 rfl rfl ?_
    refine g_X5_28_4 31 C dX5_dress_31 ?_
    refine v_iload_n 34 C 3 3 dX5_dress_34 rfl rfl ?_
    refine v_aload_n 35 C 0 0 dX5_dress_35 rfl rfl ?_
    refine g_X5_28_0 36 C dX5_dress_36 ?_
    refine v_iconst 39 C (3 : Int32) dX5_dress_39 (by decide) ?_
    refine v_iload_n 40 C 3 3 dX5_dress_40 rfl rfl ?_
    refine v_iconst 41 C (0 : Int32) dX5_dress_41 (by decide) ?_
    refine r_f_X2_number_1 42 C (by decide) q_542 dX5_dress_42 (Nat.le_of_ble_eq_true rfl) h (fun σ7 v8 h => ?_)
    refine b_iast 45 C 29 (by decide) (ce_29 G) dX5_dress_45 h (fun σ9 h => ?_)
    refine v_aload_n 46 C 0 0 dX5_dress_46 rfl rfl ?_
    refine g_X5_28_5 47 C dX5_dress_47 ?_
    refine v_iload_n 50 C 3 3 dX5_dress_50 rfl rfl ?_
    refine v_iconst 51 C (0 : Int32) dX5_dress_51 (by decide) ?_
    refine b_iast 52 C 30 (by decide) (ce_30 G) dX5_dress_52 h (fun σ10 h => ?_)
    refine v_aload_n 53 C 0 0 dX5_dress_53 rfl rfl ?_
    refine g_X5_28_0 54 C dX5_dress_54 ?_
    refine v_iconst 57 C (2 : Int32) dX5_dress_57 (by decide) ?_
    refine v_aload_n 58 C 1 1 dX5_dress_58 rfl rfl ?_
    refine g_X5_10_0 59 C dX5_dress_59 ?_
    refine v_iload_n 62 C 3 3 dX5_dress_62 rfl rfl ?_
    refine v_iald 63 C 11 (by decide) (ce_11 G) dX5_dress_63 h (fun h => ?_)
    refine r_f_X2_has_1 64 C (by decide) q_543 dX5_dress_64 (Nat.le_of_ble_eq_true rfl) h (fun σ11 v12 h => ?_)
    refine v_if_eq 67 C 82 dX5_dress_67 (by decide) h (fun h => ?_) (fun h => ?_)
    · exact v_sub [0, 1, 2, 3] rfl (w_f_X5_dress_28_10_j82 C h hc he hx)
    · refine v_aload_n 70 C 0 0 dX5_dress_70 rfl rfl ?_
      refine g_X5_28_8 71 C dX5_dress_71 ?_
      refine v_aload_n 74 C 1 1 dX5_dress_74 rfl rfl ?_
      refine g_X5_10_0 75 C dX5_dress_75 ?_
      refine v_iload_n 78 C 3 3 dX5_dress_78 rfl rfl ?_
      refine v_iald 79 C 11 (by decide) (ce_11 G) dX5_dress_79 h (fun h => ?_)
      refine v_iload_n 80 C 3 3 dX5_dress_80 rfl rfl ?_
      refine b_iast 81 C 33 (by decide) (ce_33 G) dX5_dress_81 h (fun σ14 h => ?_)
      exact v_sub [0, 1, 2, 3] rfl (w_f_X5_dress_28_10_j82 C h hc he hx)
theorem w_f_X5_dress_28_10_j134 {G : Wld} {X : Cxt} (C : Cx G X RX5 cX5_dress 4 3) {σ : Sto} {x2 : Int32} {x3 : Int32} {y : (Sto × Int32) ⊕ (Sto × Int32)} (h : f_X5_dress_28_10_j134 σ x2 x3 = some y) (hc : ∀ t : Sto × Int32, y = .inl t → V G X 4 t.1 [(0, .ref (G.1 28)), (1, .ref (G.1 10)), (2, .int x2), (3, .int t.2)] [] 90) {Ve : Sto × Int32 → Prop} (he : ∀ e, y = .inr e → Ve e) (hx : ∀ (σ : Sto) (x3 : Int32), Ve (σ, x3) → V G X 4 σ [(0, .ref (G.1 28)), (1, .ref (G.1 10)), (2, .int x2), (3, .int x3)] [] 140) : V G X 4 σ [(0, .ref (G.1 28)), (1, .ref (G.1 10)), (2, .int x2), (3, .int x3)] [] 134 := by
  unfold f_X5_dress_28_10_j134 at h
  refine b_iinc 134 C 3 3 (1 : Int32) (lv2 := fun z23 => [(3, .int z23), (0, .ref (G.1 28)), (1, .ref (G.1 10)), (2, .int x2)]) dX5_dress_134 rfl (by decide) (by decide) (fun _ => rfl) h (fun z23 h => ?_)
  refine v_goto 137 C 90 dX5_dress_137 (by decide) ?_
  exact v_sub [1, 2, 3, 0] rfl (hc _ (Option.some.inj h).symm)
theorem w_f_X5_dress_28_10_l90 {G : Wld} {X : Cxt} (C : Cx G X RX5 cX5_dress 4 3) {x2 : Int32} {σ : Sto} {x3 : Int32} {y : (Sto × Int32) ⊕ (Sto × Int32)} (h : f_X5_dress_28_10_l90 x2 σ x3 = some y) (hc : ∀ t : Sto × Int32, y = .inl t → V G X 4 t.1 [(0, .ref (G.1 28)), (1, .ref (G.1 10)), (2, .int x2), (3, .int t.2)] [] 90) {Ve : Sto × Int32 → Prop} (he : ∀ e, y = .inr e → Ve e) (hx : ∀ (σ : Sto) (x3 : Int32), Ve (σ, x3) → V G X 4 σ [(0, .ref (G.1 28)), (1, .ref (G.1 10)), (2, .int x2), (3, .int x3)] [] 140) : V G X 4 σ [(0, .ref (G.1 28)), (1, .ref (G.1 10)), (2, .int x2), (3, .int x3)] [] 90 := by
  unfold f_X5_dress_28_10_l90 at h
  refine v_iload_n 90 C 2 2 dX5_dress_90 rfl rfl ?_
  refine v_if_eq 91 C 140 dX5_dress_91 (by decide) h (fun h => ?_) (fun h => ?_)
  · exact v_sub [0, 1, 2, 3] rfl (hx _ _ (he _ (Option.some.inj h).symm))
  · refine v_iload_n 94 C 3 3 dX5_dress_94 rfl rfl ?_
    refine v_aload_n 95 C 0 0 dX5_dress_95 rfl rfl ?_
    refine g_X5_28_0 96 C dX5_dress_96 ?_
    refine v_iconst 99 C (4 : Int32) dX5_dress_99 (by decide) ?_
    refine r_f_X2_count_1 100 C (by decide) q_540 dX5_dress_100 (Nat.le_of_ble_eq_true rfl) h (fun σ19 v20 h => ?_)
    refine v_icmp_ge 103 C 140 dX5_dress_103 (by decide) h (fun h => ?_) (fun h => ?_)
    · exact v_sub [0, 1, 2, 3] rfl (hx _ _ (he _ (Option.some.inj h).symm))
    · refine v_aload_n 106 C 0 0 dX5_dress_106 rfl rfl ?_
      refine g_X5_28_0 107 C dX5_dress_107 ?_
      refine v_iconst 110 C (3 : Int32) dX5_dress_110 (by decide) ?_
      refine v_aload_n 111 C 1 1 dX5_dress_111 rfl rfl ?_
      refine g_X5_10_1 112 C dX5_dress_112 ?_
      refine v_iload_n 115 C 3 3 dX5_dress_115 rfl rfl ?_
      refine v_iald 116 C 12 (by decide) (ce_12 G) dX5_dress_116 h (fun h => ?_)
      refine r_f_X2_has_1 117 C (by decide) q_543 dX5_dress_117 (Nat.le_of_ble_eq_true rfl) h (fun σ21 v22 h => ?_)
      refine v_if_eq 120 C 134 dX5_dress_120 (by decide) h (fun h => ?_) (fun h => ?_)
      · exact v_sub [0, 1, 2, 3] rfl (w_f_X5_dress_28_10_j134 C h hc he hx)
      · refine v_aload_n 123 C 0 0 dX5_dress_123 rfl rfl ?_
        refine v_iload_n 124 C 3 3 dX5_dress_124 rfl rfl ?_
        refine v_aload_n 125 C 1 1 dX5_dress_125 rfl rfl ?_
        refine g_X5_10_1 126 C dX5_dress_126 ?_
        refine v_iload_n 129 C 3 3 dX5_dress_129 rfl rfl ?_
        refine v_iald 130 C 12 (by decide) (ce_12 G) dX5_dress_130 h (fun h => ?_)
        refine r_f_X5_putHat_28 131 C (by decide) q_544 dX5_dress_131 (Nat.le_of_ble_eq_true rfl) h (fun σ24 h => ?_)
        exact v_sub [0, 1, 2, 3] rfl (w_f_X5_dress_28_10_j134 C h hc he hx)
theorem w_f_X5_dress_28_10 {G : Wld} {X : Cxt} (C : Cx G X RX5 cX5_dress 4 3) {σ : Sto} {a2 : Int32} {y : Sto} (h : f_X5_dress_28_10 σ a2 = some y) (hK : Rx G X none none y) : V G X 4 σ [(0, .ref (G.1 28)), (1, .ref (G.1 10)), (2, .int a2)] [] 0 := by
  unfold f_X5_dress_28_10 at h
  refine v_aload_n 0 C 0 0 dX5_dress_0 rfl rfl ?_
  refine v_aload_n 1 C 0 0 dX5_dress_1 rfl rfl ?_
  refine g_X5_28_0 2 C dX5_dress_2 ?_
  refine v_iconst 5 C (3 : Int32) dX5_dress_5 (by decide) ?_
  refine r_f_X2_count_1 6 C (by decide) q_540 dX5_dress_6 (Nat.le_of_ble_eq_true rfl) h (fun σ1 v2 h => ?_)
  refine p_X5_28_1 9 C dX5_dress_9 h (fun σ3 h => ?_)
  refine v_aload_n 12 C 0 0 dX5_dress_12 rfl rfl ?_
  refine g_X5_28_8 13 C dX5_dress_13 ?_
  refine v_iconst 16 C (-1 : Int32) dX5_dress_16 (by decide) ?_
  refine r_f_J7_fill_53178_33 17 C (by decide) q_541 dX5_dress_17 (Nat.le_of_ble_eq_true rfl) h (fun σ4 h => ?_)
  refine v_iconst 20 C (0 : Int32) dX5_dress_20 (by decide) ?_
  refine b_istore_n 21 C 3 (lv2 := fun z6 => [(3, .int z6), (0, .ref (G.1 28)), (1, .ref (G.1 10)), (2, .int a2)]) dX5_dress_21 rfl (by decide) (fun _ => rfl) h (fun z6 h => ?_)
  refine v_sub [1, 2, 3, 0] rfl ?_
  refine lp_go (Vh := fun t => V G X 4 t.1 [(0, .ref (G.1 28)), (1, .ref (G.1 10)), (2, .int a2), (3, .int t.2)] [] 22) h ?_
  intro t17 y17 hy17 hc17 he17
  refine w_f_X5_dress_28_10_l22 C hy17 hc17 he17 (fun σ15 z16 h => ?_)
  dsimp only at h
  refine v_iconst 88 C (0 : Int32) dX5_dress_88 (by decide) ?_
  refine b_istore_n 89 C 3 (lv2 := fun z18 => [(3, .int z18), (0, .ref (G.1 28)), (1, .ref (G.1 10)), (2, .int a2)]) dX5_dress_89 rfl (by decide) (fun _ => rfl) h (fun z18 h => ?_)
  refine v_sub [1, 2, 3, 0] rfl ?_
  refine lp_go (Vh := fun t => V G X 4 t.1 [(0, .ref (G.1 28)), (1, .ref (G.1 10)), (2, .int a2), (3, .int t.2)] [] 90) h ?_
  intro t28 y28 hy28 hc28 he28
  refine w_f_X5_dress_28_10_l90 C hy28 hc28 he28 (fun σ26 z27 h => ?_)
  dsimp only at h
  cases h
  exact v_vret 140 C hK dX5_dress_140
theorem c_f_X5_dress_28_10 (l : Launch) (G : Wld) (hG : GI G) (σ : Sto) (a2 : Int32) (y : Sto) (h : f_X5_dress_28_10 σ a2 = some y) : Ct l G yX5_dress cX5_dress 4 none 3 [.ref (G.1 28), .ref (G.1 10), .int a2] σ none y := by
  refine ct_intro RX5 hG (by decide) rfl (Nat.le_of_ble_eq_true rfl) (fun X hX C hK => ?_)
  subst hX
  exact w_f_X5_dress_28_10 C h hK
theorem r_f_X5_dress_28_10 {G : Wld} {X : Cxt} {own : String} {cc : ByteArray} {nL n : Nat} {σ : Sto} {lv : List (Nat × Value)} {st : List Value} {β : Type} {r : β} {F : Sto → Option β} {a2 : Int32} {ix : Nat} (pc : Nat) (C : Cx G X own cc nL n) (hn : 3 < n) (h1 : Cond.methodLink own ix yX5_dress ∈ lw_gd) (hd : decode cc pc = .ok (.invokevirtual ix, 3)) (hsum : (st.map fun v => v.category).sum ≤ 8) (h : bd1 (f_X5_dress_28_10 σ a2) F = some r) (kk : ∀ σ1, F σ1 = some r → V G X nL σ1 lv (st) (pc + 3)) : V G X nL σ lv (.int a2 :: .ref (G.1 10) :: .ref (G.1 28) :: st) pc := by
  obtain ⟨z, hz, h⟩ := bd1_some h
  exact v_callV pc C 28 2 [.ref (G.1 10), .int a2] st (c_f_X5_dress_28_10 (xl X) G C.2.2.2.2.2.2.1 _ _ _ hz) hn (by decide) (by decide) (ce_28 G _ _) rfl (by decide +kernel) rfl h1 q_537 q_538 q_65 q_539 rfl hsum hd (kk _ h)
-- f_X5_light_28
def f_X5_light_28 (σ : Sto) (a1 : Int32) (a2 : Int32) : Option (Sto) :=
  bs (su σ 28 2 a1) fun σ1 => bs (su σ1 28 3 a2) fun σ2 => some σ2
theorem w_f_X5_light_28 {G : Wld} {X : Cxt} (C : Cx G X RX5 cX5_light 3 1) {σ : Sto} {a1 : Int32} {a2 : Int32} {y : Sto} (h : f_X5_light_28 σ a1 a2 = some y) (hK : Rx G X none none y) : V G X 3 σ [(0, .ref (G.1 28)), (1, .int a1), (2, .int a2)] [] 0 := by
  unfold f_X5_light_28 at h
  refine v_aload_n 0 C 0 0 dX5_light_0 rfl rfl ?_
  refine v_iload_n 1 C 1 1 dX5_light_1 rfl rfl ?_
  refine p_X5_28_2 2 C dX5_light_2 h (fun σ1 h => ?_)
  refine v_aload_n 5 C 0 0 dX5_light_5 rfl rfl ?_
  refine v_iload_n 6 C 2 2 dX5_light_6 rfl rfl ?_
  refine p_X5_28_3 7 C dX5_light_7 h (fun σ2 h => ?_)
  cases h
  exact v_vret 10 C hK dX5_light_10
theorem c_f_X5_light_28 (l : Launch) (G : Wld) (hG : GI G) (σ : Sto) (a1 : Int32) (a2 : Int32) (y : Sto) (h : f_X5_light_28 σ a1 a2 = some y) : Ct l G yX5_light cX5_light 3 none 1 [.ref (G.1 28), .int a1, .int a2] σ none y := by
  refine ct_intro RX5 hG (by decide) rfl (Nat.le_of_ble_eq_true rfl) (fun X hX C hK => ?_)
  subst hX
  exact w_f_X5_light_28 C h hK
theorem r_f_X5_light_28 {G : Wld} {X : Cxt} {own : String} {cc : ByteArray} {nL n : Nat} {σ : Sto} {lv : List (Nat × Value)} {st : List Value} {β : Type} {r : β} {F : Sto → Option β} {a1 : Int32} {a2 : Int32} {ix : Nat} (pc : Nat) (C : Cx G X own cc nL n) (hn : 1 < n) (h1 : Cond.methodLink own ix yX5_light ∈ lw_gd) (hd : decode cc pc = .ok (.invokevirtual ix, 3)) (hsum : (st.map fun v => v.category).sum ≤ 8) (h : bd1 (f_X5_light_28 σ a1 a2) F = some r) (kk : ∀ σ1, F σ1 = some r → V G X nL σ1 lv (st) (pc + 3)) : V G X nL σ lv (.int a2 :: .int a1 :: .ref (G.1 28) :: st) pc := by
  obtain ⟨z, hz, h⟩ := bd1_some h
  exact v_callV pc C 28 2 [.int a1, .int a2] st (c_f_X5_light_28 (xl X) G C.2.2.2.2.2.2.1 _ _ _ _ hz) hn (by decide) (by decide) (ce_28 G _ _) rfl (by decide +kernel) rfl h1 q_549 q_550 q_65 q_551 rfl hsum hd (kk _ h)
-- f_J7_fill_53178_31
def f_J7_fill_53178_31_l5 (x1 : Int32) (x3 : Int32) (σ : Sto) (x2 : Int32) : Option ((Sto × Int32) ⊕ (Sto × Int32)) :=
  if x3 ≤ x2 then (some (.inr (σ, x2))) else (gd (inB x2 7) (bs (su σ 31 (x2).toNatClampNeg x1) fun σ3 => bs (x2 + (1 : Int32)) fun z4 => some (.inl (σ3, z4))))
def f_J7_fill_53178_31 (σ : Sto) (a1 : Int32) : Option (Sto) :=
  bs (0 : Int32) fun z1 => bs (7 : Int32) fun z2 => bE1 (lpF (fun t => f_J7_fill_53178_31_l5 a1 z2 t.1 t.2) FU (σ, z1)) (fun σ5 z6 => some σ5)
theorem w_f_J7_fill_53178_31_l5 {G : Wld} {X : Cxt} (C : Cx G X RJ7 cJ7_fill_53178 4 1) {x1 : Int32} {x3 : Int32} {σ : Sto} {x2 : Int32} {y : (Sto × Int32) ⊕ (Sto × Int32)} (h : f_J7_fill_53178_31_l5 x1 x3 σ x2 = some y) (hc : ∀ t : Sto × Int32, y = .inl t → V G X 4 t.1 [(0, .ref (G.1 31)), (1, .int x1), (2, .int t.2), (3, .int x3)] [] 5) {Ve : Sto × Int32 → Prop} (he : ∀ e, y = .inr e → Ve e) (hx : ∀ (σ : Sto) (x2 : Int32), Ve (σ, x2) → V G X 4 σ [(0, .ref (G.1 31)), (1, .int x1), (2, .int x2), (3, .int x3)] [] 20) : V G X 4 σ [(0, .ref (G.1 31)), (1, .int x1), (2, .int x2), (3, .int x3)] [] 5 := by
  unfold f_J7_fill_53178_31_l5 at h
  refine v_iload_n 5 C 2 2 dJ7_fill_53178_5 rfl rfl ?_
  refine v_iload_n 6 C 3 3 dJ7_fill_53178_6 rfl rfl ?_
  refine v_icmp_ge 7 C 20 dJ7_fill_53178_7 (by decide) h (fun h => ?_) (fun h => ?_)
  · exact v_sub [0, 1, 2, 3] rfl (hx _ _ (he _ (Option.some.inj h).symm))
  · refine v_aload_n 10 C 0 0 dJ7_fill_53178_10 rfl rfl ?_
    refine v_iload_n 11 C 2 2 dJ7_fill_53178_11 rfl rfl ?_
    refine v_iload_n 12 C 1 1 dJ7_fill_53178_12 rfl rfl ?_
    refine b_iast 13 C 31 (by decide) (ce_31 G) dJ7_fill_53178_13 h (fun σ3 h => ?_)
    refine b_iinc 14 C 2 2 (1 : Int32) (lv2 := fun z4 => [(2, .int z4), (0, .ref (G.1 31)), (1, .int x1), (3, .int x3)]) dJ7_fill_53178_14 rfl (by decide) (by decide) (fun _ => rfl) h (fun z4 h => ?_)
    refine v_goto 17 C 5 dJ7_fill_53178_17 (by decide) ?_
    exact v_sub [1, 2, 0, 3] rfl (hc _ (Option.some.inj h).symm)
theorem w_f_J7_fill_53178_31 {G : Wld} {X : Cxt} (C : Cx G X RJ7 cJ7_fill_53178 4 1) {σ : Sto} {a1 : Int32} {y : Sto} (h : f_J7_fill_53178_31 σ a1 = some y) (hK : Rx G X none none y) : V G X 4 σ [(0, .ref (G.1 31)), (1, .int a1)] [] 0 := by
  unfold f_J7_fill_53178_31 at h
  refine v_iconst 0 C (0 : Int32) dJ7_fill_53178_0 (by decide) ?_
  refine b_istore_n 1 C 2 (lv2 := fun z1 => [(2, .int z1), (0, .ref (G.1 31)), (1, .int a1)]) dJ7_fill_53178_1 rfl (by decide) (fun _ => rfl) h (fun z1 h => ?_)
  refine v_aload_n 2 C 0 1 dJ7_fill_53178_2 rfl rfl ?_
  refine v_alen 3 C 31 0 (7 : Int32) (by decide) (ce_31 G) rfl (by decide) dJ7_fill_53178_3 ?_
  refine b_istore_n 4 C 3 (lv2 := fun z2 => [(3, .int z2), (2, .int z1), (0, .ref (G.1 31)), (1, .int a1)]) dJ7_fill_53178_4 rfl (by decide) (fun _ => rfl) h (fun z2 h => ?_)
  refine v_sub [2, 3, 1, 0] rfl ?_
  refine lp_go (Vh := fun t => V G X 4 t.1 [(0, .ref (G.1 31)), (1, .int a1), (2, .int t.2), (3, .int z2)] [] 5) h ?_
  intro t7 y7 hy7 hc7 he7
  refine w_f_J7_fill_53178_31_l5 C hy7 hc7 he7 (fun σ5 z6 h => ?_)
  dsimp only at h
  cases h
  exact v_vret 20 C hK dJ7_fill_53178_20
theorem c_f_J7_fill_53178_31 (l : Launch) (G : Wld) (hG : GI G) (σ : Sto) (a1 : Int32) (y : Sto) (h : f_J7_fill_53178_31 σ a1 = some y) : Ct l G yJ7_fill_53178 cJ7_fill_53178 4 none 1 [.ref (G.1 31), .int a1] σ none y := by
  refine ct_intro RJ7 hG (by decide) rfl (Nat.le_of_ble_eq_true rfl) (fun X hX C hK => ?_)
  subst hX
  exact w_f_J7_fill_53178_31 C h hK
theorem r_f_J7_fill_53178_31 {G : Wld} {X : Cxt} {own : String} {cc : ByteArray} {nL n : Nat} {σ : Sto} {lv : List (Nat × Value)} {st : List Value} {β : Type} {r : β} {F : Sto → Option β} {a1 : Int32} {ix : Nat} (pc : Nat) (C : Cx G X own cc nL n) (hn : 1 < n) (h1 : Cond.methodLink own ix yJ7_fill_53178 ∈ lw_gd) (hd : decode cc pc = .ok (.invokestatic ix, 3)) (hsum : (st.map fun v => v.category).sum ≤ 8) (h : bd1 (f_J7_fill_53178_31 σ a1) F = some r) (kk : ∀ σ1, F σ1 = some r → V G X nL σ1 lv (st) (pc + 3)) : V G X nL σ lv (.int a1 :: .ref (G.1 31) :: st) pc := by
  obtain ⟨z, hz, h⟩ := bd1_some h
  exact v_callS pc C 2 [.ref (G.1 31), .int a1] st (c_f_J7_fill_53178_31 (xl X) G C.2.2.2.2.2.2.1 _ _ _ hz) hn (by decide) (by decide +kernel) rfl h1 q_143 q_63 q_144 rfl hsum hd (kk _ h)
-- f_X5_isHere_28
def f_X5_isHere_28_j17 (σ : Sto) (s0 : Int32) : Option (Sto × Int32) :=
  gd (zB s0) (some (σ, s0))
def f_X5_isHere_28_j16 (σ : Sto) : Option (Sto × Int32) :=
  f_X5_isHere_28_j17 σ (0 : Int32)
def f_X5_isHere_28 (σ : Sto) (a1 : Int32) : Option (Sto × Int32) :=
  if a1 < 0 then (f_X5_isHere_28_j16 σ) else (if (σ.1 28 1) ≤ a1 then (f_X5_isHere_28_j16 σ) else (f_X5_isHere_28_j17 σ (1 : Int32)))
theorem w_f_X5_isHere_28_j17 {G : Wld} {X : Cxt} (C : Cx G X RX5 cX5_isHere 2 1) {σ : Sto} {s0 : Int32} {y : Sto × Int32} (h : f_X5_isHere_28_j17 σ s0 = some y) (hK : Rx G X (some .boolean) (some (.int y.2)) y.1) : V G X 2 σ [(0, .ref (G.1 28))] [.int s0] 17 := by
  unfold f_X5_isHere_28_j17 at h
  obtain ⟨hz, h⟩ := gd_some h
  cases h
  exact v_zret 17 C (zB_nar hz) hK dX5_isHere_17
theorem w_f_X5_isHere_28_j16 {G : Wld} {X : Cxt} (C : Cx G X RX5 cX5_isHere 2 1) {σ : Sto} {y : Sto × Int32} (h : f_X5_isHere_28_j16 σ = some y) (hK : Rx G X (some .boolean) (some (.int y.2)) y.1) : V G X 2 σ [(0, .ref (G.1 28))] [] 16 := by
  unfold f_X5_isHere_28_j16 at h
  refine v_iconst 16 C (0 : Int32) dX5_isHere_16 (by decide) ?_
  exact v_sub [0] rfl (w_f_X5_isHere_28_j17 C h hK)
theorem w_f_X5_isHere_28 {G : Wld} {X : Cxt} (C : Cx G X RX5 cX5_isHere 2 1) {σ : Sto} {a1 : Int32} {y : Sto × Int32} (h : f_X5_isHere_28 σ a1 = some y) (hK : Rx G X (some .boolean) (some (.int y.2)) y.1) : V G X 2 σ [(0, .ref (G.1 28)), (1, .int a1)] [] 0 := by
  unfold f_X5_isHere_28 at h
  refine v_iload_n 0 C 1 1 dX5_isHere_0 rfl rfl ?_
  refine v_if_lt 1 C 16 dX5_isHere_1 (by decide) h (fun h => ?_) (fun h => ?_)
  · exact v_sub [0] rfl (w_f_X5_isHere_28_j16 C h hK)
  · refine v_iload_n 4 C 1 1 dX5_isHere_4 rfl rfl ?_
    refine v_aload_n 5 C 0 0 dX5_isHere_5 rfl rfl ?_
    refine g_X5_28_1 6 C dX5_isHere_6 ?_
    refine v_icmp_ge 9 C 16 dX5_isHere_9 (by decide) h (fun h => ?_) (fun h => ?_)
    · exact v_sub [0] rfl (w_f_X5_isHere_28_j16 C h hK)
    · refine v_iconst 12 C (1 : Int32) dX5_isHere_12 (by decide) ?_
      refine v_goto 13 C 17 dX5_isHere_13 (by decide) ?_
      exact v_sub [0] rfl (w_f_X5_isHere_28_j17 C h hK)
theorem c_f_X5_isHere_28 (l : Launch) (G : Wld) (hG : GI G) (σ : Sto) (a1 : Int32) (y : Sto × Int32) (h : f_X5_isHere_28 σ a1 = some y) : Ct l G yX5_isHere cX5_isHere 2 (some .boolean) 1 [.ref (G.1 28), .int a1] σ (some (.int y.2)) y.1 := by
  refine ct_intro RX5 hG (by decide) rfl (Nat.le_of_ble_eq_true rfl) (fun X hX C hK => ?_)
  subst hX
  exact w_f_X5_isHere_28 C h hK
theorem r_f_X5_isHere_28 {G : Wld} {X : Cxt} {own : String} {cc : ByteArray} {nL n : Nat} {σ : Sto} {lv : List (Nat × Value)} {st : List Value} {β : Type} {r : β} {F : Sto → Int32 → Option β} {a1 : Int32} {ix : Nat} (pc : Nat) (C : Cx G X own cc nL n) (hn : 1 < n) (h1 : Cond.methodLink own ix yX5_isHere ∈ lw_gd) (hd : decode cc pc = .ok (.invokevirtual ix, 3)) (hsum : (st.map fun v => v.category).sum ≤ 8) (h : bd2 (f_X5_isHere_28 σ a1) F = some r) (kk : ∀ σ1 v, F σ1 v = some r → V G X nL σ1 lv (.int v :: st) (pc + 3)) : V G X nL σ lv (.int a1 :: .ref (G.1 28) :: st) pc := by
  obtain ⟨z, hz, h⟩ := bd2_some h
  exact v_callV pc C 28 1 [.int a1] st (c_f_X5_isHere_28 (xl X) G C.2.2.2.2.2.2.1 _ _ _ hz) hn (by decide) (by decide) (ce_28 G _ _) rfl (by decide +kernel) rfl h1 q_562 q_12 q_65 q_563 rfl hsum hd (kk _ _ h)
-- f_X2_shadeOn_1
def f_X2_shadeOn_1_j52 (σ : Sto) (s0 : Int32) : Option (Sto × Int32) :=
  some (σ, s0)
def f_X2_shadeOn_1 (σ : Sto) (a1 : Int32) (a2 : Int32) (a3 : Int32) : Option (Sto × Int32) :=
  gd (nzI (10 : Int32)) (bs ((a2 * a3) / (10 : Int32)) fun z1 => bd2 (f_X2_number_1 σ (2 : Int32) a1 (1 : Int32)) fun σ2 v3 => gd (nzI (10 : Int32)) (bs ((z1 * ((10 : Int32) - v3)) / (10 : Int32)) fun z4 => bd2 (f_X2_number_1 σ2 (2 : Int32) a1 (2 : Int32)) fun σ5 v6 => bs v6 fun z7 => if z7 = 0 then (f_X2_shadeOn_1_j52 σ5 z4) else (f_X2_shadeOn_1_j52 σ5 (iMin z4 z7))))
theorem w_f_X2_shadeOn_1_j52 {G : Wld} {X : Cxt} (C : Cx G X RX2 cX2_shadeOn 6 2) {σ : Sto} {s0 : Int32} {y : Sto × Int32} (h : f_X2_shadeOn_1_j52 σ s0 = some y) (hK : Rx G X (some .int) (some (.int y.2)) y.1) : V G X 6 σ [(0, .ref (G.1 1))] [.int s0] 52 := by
  unfold f_X2_shadeOn_1_j52 at h
  cases h
  exact v_iret 52 C hK dX2_shadeOn_52
theorem w_f_X2_shadeOn_1 {G : Wld} {X : Cxt} (C : Cx G X RX2 cX2_shadeOn 6 2) {σ : Sto} {a1 : Int32} {a2 : Int32} {a3 : Int32} {y : Sto × Int32} (h : f_X2_shadeOn_1 σ a1 a2 a3 = some y) (hK : Rx G X (some .int) (some (.int y.2)) y.1) : V G X 6 σ [(0, .ref (G.1 1)), (1, .int a1), (2, .int a2), (3, .int a3)] [] 0 := by
  unfold f_X2_shadeOn_1 at h
  refine v_iload_n 0 C 2 2 dX2_shadeOn_0 rfl rfl ?_
  refine v_iload_n 1 C 3 3 dX2_shadeOn_1 rfl rfl ?_
  refine v_imul 2 C dX2_shadeOn_2 ?_
  refine v_bipush 3 C (10 : Int32) dX2_shadeOn_3 (by decide) ?_
  refine v_idiv 5 C dX2_shadeOn_5 h (fun h => ?_)
  refine b_istore 6 C 4 (lv2 := fun z1 => [(4, .int z1), (0, .ref (G.1 1)), (1, .int a1), (2, .int a2), (3, .int a3)]) dX2_shadeOn_6 (by decide) (fun _ => rfl) h (fun z1 h => ?_)
  refine v_iload 8 C 4 0 dX2_shadeOn_8 rfl ?_
  refine v_bipush 10 C (10 : Int32) dX2_shadeOn_10 (by decide) ?_
  refine v_aload_n 12 C 0 1 dX2_shadeOn_12 rfl rfl ?_
  refine v_iconst 13 C (2 : Int32) dX2_shadeOn_13 (by decide) ?_
  refine v_iload_n 14 C 1 2 dX2_shadeOn_14 rfl rfl ?_
  refine v_iconst 15 C (1 : Int32) dX2_shadeOn_15 (by decide) ?_
  refine r_f_X2_number_1 16 C (by decide) q_478 dX2_shadeOn_16 (Nat.le_of_ble_eq_true rfl) h (fun σ2 v3 h => ?_)
  refine v_isub 19 C dX2_shadeOn_19 ?_
  refine v_imul 20 C dX2_shadeOn_20 ?_
  refine v_bipush 21 C (10 : Int32) dX2_shadeOn_21 (by decide) ?_
  refine v_idiv 23 C dX2_shadeOn_23 h (fun h => ?_)
  refine b_istore 24 C 4 (lv2 := fun z4 => [(4, .int z4), (0, .ref (G.1 1)), (1, .int a1), (2, .int a2), (3, .int a3)]) dX2_shadeOn_24 (by decide) (fun _ => rfl) h (fun z4 h => ?_)
  refine v_aload_n 26 C 0 1 dX2_shadeOn_26 rfl rfl ?_
  refine v_iconst 27 C (2 : Int32) dX2_shadeOn_27 (by decide) ?_
  refine v_iload_n 28 C 1 2 dX2_shadeOn_28 rfl rfl ?_
  refine v_iconst 29 C (2 : Int32) dX2_shadeOn_29 (by decide) ?_
  refine r_f_X2_number_1 30 C (by decide) q_478 dX2_shadeOn_30 (Nat.le_of_ble_eq_true rfl) h (fun σ5 v6 h => ?_)
  refine b_istore 33 C 5 (lv2 := fun z7 => [(5, .int z7), (4, .int z4), (0, .ref (G.1 1)), (1, .int a1), (2, .int a2), (3, .int a3)]) dX2_shadeOn_33 (by decide) (fun _ => rfl) h (fun z7 h => ?_)
  refine v_iload 35 C 5 0 dX2_shadeOn_35 rfl ?_
  refine v_if_ne 37 C 45 dX2_shadeOn_37 (by decide) h (fun h => ?_) (fun h => ?_)
  · refine v_iload 45 C 4 1 dX2_shadeOn_45 rfl ?_
    refine v_iload 47 C 5 0 dX2_shadeOn_47 rfl ?_
    refine v_min 49 C q_500 q_501 q_74 q_502 (Nat.le_of_ble_eq_true rfl) (by decide) dX2_shadeOn_49 ?_
    exact v_sub [2] rfl (w_f_X2_shadeOn_1_j52 C h hK)
  · refine v_iload 40 C 4 1 dX2_shadeOn_40 rfl ?_
    refine v_goto 42 C 52 dX2_shadeOn_42 (by decide) ?_
    exact v_sub [2] rfl (w_f_X2_shadeOn_1_j52 C h hK)
theorem c_f_X2_shadeOn_1 (l : Launch) (G : Wld) (hG : GI G) (σ : Sto) (a1 : Int32) (a2 : Int32) (a3 : Int32) (y : Sto × Int32) (h : f_X2_shadeOn_1 σ a1 a2 a3 = some y) : Ct l G yX2_shadeOn cX2_shadeOn 6 (some .int) 2 [.ref (G.1 1), .int a1, .int a2, .int a3] σ (some (.int y.2)) y.1 := by
  refine ct_intro RX2 hG (by decide) rfl (Nat.le_of_ble_eq_true rfl) (fun X hX C hK => ?_)
  subst hX
  exact w_f_X2_shadeOn_1 C h hK
theorem r_f_X2_shadeOn_1 {G : Wld} {X : Cxt} {own : String} {cc : ByteArray} {nL n : Nat} {σ : Sto} {lv : List (Nat × Value)} {st : List Value} {β : Type} {r : β} {F : Sto → Int32 → Option β} {a1 : Int32} {a2 : Int32} {a3 : Int32} {ix : Nat} (pc : Nat) (C : Cx G X own cc nL n) (hn : 2 < n) (h1 : Cond.methodLink own ix yX2_shadeOn ∈ lw_gd) (hd : decode cc pc = .ok (.invokevirtual ix, 3)) (hsum : (st.map fun v => v.category).sum ≤ 8) (h : bd2 (f_X2_shadeOn_1 σ a1 a2 a3) F = some r) (kk : ∀ σ1 v, F σ1 v = some r → V G X nL σ1 lv (.int v :: st) (pc + 3)) : V G X nL σ lv (.int a3 :: .int a2 :: .int a1 :: .ref (G.1 1) :: st) pc := by
  obtain ⟨z, hz, h⟩ := bd2_some h
  exact v_callV pc C 1 3 [.int a1, .int a2, .int a3] st (c_f_X2_shadeOn_1 (xl X) G C.2.2.2.2.2.2.1 _ _ _ _ _ hz) hn (by decide) (by decide) (ce_1 G _ _) rfl (by decide +kernel) rfl h1 q_565 q_566 q_60 q_567 rfl hsum hd (kk _ _ h)
-- f_X5_castShades_28
def f_X5_castShades_28_j91 (σ : Sto) (x2 : Int32) (x4 : Int32) : Option ((Sto × Int32 × Int32) ⊕ (Sto × Int32 × Int32)) :=
  bs x4 fun z11 => bs (x2 + (1 : Int32)) fun z12 => some (.inl (σ, z11, z12))
def f_X5_castShades_28_j90 (σ : Sto) (x2 : Int32) (x4 : Int32) (s0 : Int32) (s1 : Int32) : Option ((Sto × Int32 × Int32) ⊕ (Sto × Int32 × Int32)) :=
  gd (inB s1 7) (bs (su σ 31 (s1).toNatClampNeg s0) fun σ18 => f_X5_castShades_28_j91 σ18 x2 x4)
def f_X5_castShades_28_l12 (σ : Sto) (x1 : Int32) (x2 : Int32) : Option ((Sto × Int32 × Int32) ⊕ (Sto × Int32 × Int32)) :=
  bd2 (f_X2_count_1 σ (2 : Int32)) fun σ5 v6 => if v6 ≤ x2 then (some (.inr (σ5, x1, x2))) else (gd (inB x2 6) (bs (σ5.1 33 (x2).toNatClampNeg) fun z7 => bs (0 : Int32) fun z8 => bd2 (f_X5_isHere_28 σ5 z7) fun σ9 v10 => if v10 = 0 then (f_X5_castShades_28_j91 σ9 x2 z8) else (gd (inB z7 7) (bd2 (f_X2_number_1 σ9 (2 : Int32) x2 (0 : Int32)) fun σ13 v14 => bs ((σ9.1 29 (z7).toNatClampNeg) + v14) fun z15 => if x1 ≤ z15 then (bd2 (f_X2_shadeOn_1 σ13 x2 z15 (σ13.1 28 2)) fun σ16 v17 => f_X5_castShades_28_j90 σ16 x2 z15 v17 z7) else (f_X5_castShades_28_j90 σ13 x2 z15 (0 : Int32) z7)))))
def f_X5_castShades_28 (σ : Sto) : Option (Sto) :=
  bd1 (f_J7_fill_53178_31 σ (0 : Int32)) fun σ1 => bs (0 : Int32) fun z3 => bs (0 : Int32) fun z4 => bE2 (lpF (fun t => f_X5_castShades_28_l12 t.1 t.2.1 t.2.2) FU (σ1, z3, z4)) (fun σ19 z20 z21 => some σ19)
theorem w_f_X5_castShades_28_j91 {G : Wld} {X : Cxt} (C : Cx G X RX5 cX5_castShades 5 3) {σ : Sto} {x2 : Int32} {x4 : Int32} {y : (Sto × Int32 × Int32) ⊕ (Sto × Int32 × Int32)} (h : f_X5_castShades_28_j91 σ x2 x4 = some y) (hc : ∀ t : Sto × Int32 × Int32, y = .inl t → V G X 5 t.1 [(0, .ref (G.1 28)), (1, .int t.2.1), (2, .int t.2.2)] [] 12) {Ve : Sto × Int32 × Int32 → Prop} (he : ∀ e, y = .inr e → Ve e) (hx : ∀ (σ : Sto) (x1 : Int32) (x2 : Int32), Ve (σ, x1, x2) → V G X 5 σ [(0, .ref (G.1 28)), (1, .int x1), (2, .int x2)] [] 100) : V G X 5 σ [(0, .ref (G.1 28)), (2, .int x2), (4, .int x4)] [] 91 := by
  unfold f_X5_castShades_28_j91 at h
  refine v_iload 91 C 4 2 dX5_castShades_91 rfl ?_
  refine b_istore_n 93 C 1 (lv2 := fun z11 => [(1, .int z11), (0, .ref (G.1 28)), (2, .int x2), (4, .int x4)]) dX5_castShades_93 rfl (by decide) (fun _ => rfl) h (fun z11 h => ?_)
  refine b_iinc 94 C 2 2 (1 : Int32) (lv2 := fun z12 => [(2, .int z12), (1, .int z11), (0, .ref (G.1 28)), (4, .int x4)]) dX5_castShades_94 rfl (by decide) (by decide) (fun _ => rfl) h (fun z12 h => ?_)
  refine v_goto 97 C 12 dX5_castShades_97 (by decide) ?_
  exact v_sub [2, 1, 0] rfl (hc _ (Option.some.inj h).symm)
theorem w_f_X5_castShades_28_j90 {G : Wld} {X : Cxt} (C : Cx G X RX5 cX5_castShades 5 3) {σ : Sto} {x2 : Int32} {x4 : Int32} {s0 : Int32} {s1 : Int32} {y : (Sto × Int32 × Int32) ⊕ (Sto × Int32 × Int32)} (h : f_X5_castShades_28_j90 σ x2 x4 s0 s1 = some y) (hc : ∀ t : Sto × Int32 × Int32, y = .inl t → V G X 5 t.1 [(0, .ref (G.1 28)), (1, .int t.2.1), (2, .int t.2.2)] [] 12) {Ve : Sto × Int32 × Int32 → Prop} (he : ∀ e, y = .inr e → Ve e) (hx : ∀ (σ : Sto) (x1 : Int32) (x2 : Int32), Ve (σ, x1, x2) → V G X 5 σ [(0, .ref (G.1 28)), (1, .int x1), (2, .int x2)] [] 100) : V G X 5 σ [(0, .ref (G.1 28)), (2, .int x2), (4, .int x4)] [.int s0, .int s1, .ref (G.1 31)] 90 := by
  unfold f_X5_castShades_28_j90 at h
  refine b_iast 90 C 31 (by decide) (ce_31 G) dX5_castShades_90 h (fun σ18 h => ?_)
  exact v_sub [0, 1, 2] rfl (w_f_X5_castShades_28_j91 C h hc he hx)
theorem w_f_X5_castShades_28_l12 {G : Wld} {X : Cxt} (C : Cx G X RX5 cX5_castShades 5 3) {σ : Sto} {x1 : Int32} {x2 : Int32} {y : (Sto × Int32 × Int32) ⊕ (Sto × Int32 × Int32)} (h : f_X5_castShades_28_l12 σ x1 x2 = some y) (hc : ∀ t : Sto × Int32 × Int32, y = .inl t → V G X 5 t.1 [(0, .ref (G.1 28)), (1, .int t.2.1), (2, .int t.2.2)] [] 12) {Ve : Sto × Int32 × Int32 → Prop} (he : ∀ e, y = .inr e → Ve e) (hx : ∀ (σ : Sto) (x1 : Int32) (x2 : Int32), Ve (σ, x1, x2) → V G X 5 σ [(0, .ref (G.1 28)), (1, .int x1), (2, .int x2)] [] 100) : V G X 5 σ [(0, .ref (G.1 28)), (1, .int x1), (2, .int x2)] [] 12 := by
  unfold f_X5_castShades_28_l12 at h
  refine v_iload_n 12 C 2 2 dX5_castShades_12 rfl rfl ?_
  refine v_aload_n 13 C 0 0 dX5_castShades_13 rfl rfl ?_
  refine g_X5_28_0 14 C dX5_castShades_14 ?_
  refine v_iconst 17 C (2 : Int32) dX5_castShades_17 (by decide) ?_
  refine r_f_X2_count_1 18 C (by decide) q_540 dX5_castShades_18 (Nat.le_of_ble_eq_true rfl) h (fun σ5 v6 h => ?_)
  refine v_icmp_ge 21 C 100 dX5_castShades_21 (by decide) h (fun h => ?_) (fun h => ?_)
  · exact v_sub [0, 1, 2] rfl (hx _ _ _ (he _ (Option.some.inj h).symm))
  · refine v_aload_n 24 C 0 0 dX5_castShades_24 rfl rfl ?_
    refine g_X5_28_8 25 C dX5_castShades_25 ?_
    refine v_iload_n 28 C 2 2 dX5_castShades_28 rfl rfl ?_
    refine v_iald 29 C 33 (by decide) (ce_33 G) dX5_castShades_29 h (fun h => ?_)
    refine b_istore_n 30 C 3 (lv2 := fun z7 => [(3, .int z7), (0, .ref (G.1 28)), (1, .int x1), (2, .int x2)]) dX5_castShades_30 rfl (by decide) (fun _ => rfl) h (fun z7 h => ?_)
    refine v_iconst 31 C (0 : Int32) dX5_castShades_31 (by decide) ?_
    refine b_istore 32 C 4 (lv2 := fun z8 => [(4, .int z8), (3, .int z7), (0, .ref (G.1 28)), (1, .int x1), (2, .int x2)]) dX5_castShades_32 (by decide) (fun _ => rfl) h (fun z8 h => ?_)
    refine v_aload_n 34 C 0 2 dX5_castShades_34 rfl rfl ?_
    refine v_iload_n 35 C 3 1 dX5_castShades_35 rfl rfl ?_
    refine r_f_X5_isHere_28 36 C (by decide) q_560 dX5_castShades_36 (Nat.le_of_ble_eq_true rfl) h (fun σ9 v10 h => ?_)
    refine v_if_eq 39 C 91 dX5_castShades_39 (by decide) h (fun h => ?_) (fun h => ?_)
    · exact v_sub [2, 4, 0] rfl (w_f_X5_castShades_28_j91 C h hc he hx)
    · refine v_aload_n 42 C 0 2 dX5_castShades_42 rfl rfl ?_
      refine g_X5_28_4 43 C dX5_castShades_43 ?_
      refine v_iload_n 46 C 3 1 dX5_castShades_46 rfl rfl ?_
      refine v_iald 47 C 29 (by decide) (ce_29 G) dX5_castShades_47 h (fun h => ?_)
      refine v_aload_n 48 C 0 2 dX5_castShades_48 rfl rfl ?_
      refine g_X5_28_0 49 C dX5_castShades_49 ?_
      refine v_iconst 52 C (2 : Int32) dX5_castShades_52 (by decide) ?_
      refine v_iload_n 53 C 2 4 dX5_castShades_53 rfl rfl ?_
      refine v_iconst 54 C (0 : Int32) dX5_castShades_54 (by decide) ?_
      refine r_f_X2_number_1 55 C (by decide) q_542 dX5_castShades_55 (Nat.le_of_ble_eq_true rfl) h (fun σ13 v14 h => ?_)
      refine v_iadd 58 C dX5_castShades_58 ?_
      refine b_istore 59 C 4 (lv2 := fun z15 => [(4, .int z15), (3, .int z7), (0, .ref (G.1 28)), (1, .int x1), (2, .int x2)]) dX5_castShades_59 (by decide) (fun _ => rfl) h (fun z15 h => ?_)
      refine v_aload_n 61 C 0 2 dX5_castShades_61 rfl rfl ?_
      refine g_X5_28_6 62 C dX5_castShades_62 ?_
      refine v_iload_n 65 C 3 1 dX5_castShades_65 rfl rfl ?_
      refine v_iload_n 66 C 1 3 dX5_castShades_66 rfl rfl ?_
      refine v_iload 67 C 4 0 dX5_castShades_67 rfl ?_
      refine v_icmp_le 69 C 76 dX5_castShades_69 (by decide) h (fun h => ?_) (fun h => ?_)
      · refine v_aload_n 76 C 0 2 dX5_castShades_76 rfl rfl ?_
        refine g_X5_28_0 77 C dX5_castShades_77 ?_
        refine v_iload_n 80 C 2 4 dX5_castShades_80 rfl rfl ?_
        refine v_iload 81 C 4 0 dX5_castShades_81 rfl ?_
        refine v_aload_n 83 C 0 2 dX5_castShades_83 rfl rfl ?_
        refine g_X5_28_2 84 C dX5_castShades_84 ?_
        refine r_f_X2_shadeOn_1 87 C (by decide) q_564 dX5_castShades_87 (Nat.le_of_ble_eq_true rfl) h (fun σ16 v17 h => ?_)
        exact v_sub [2, 4, 0] rfl (w_f_X5_castShades_28_j90 C h hc he hx)
      · refine v_iconst 72 C (0 : Int32) dX5_castShades_72 (by decide) ?_
        refine v_goto 73 C 90 dX5_castShades_73 (by decide) ?_
        exact v_sub [2, 4, 0] rfl (w_f_X5_castShades_28_j90 C h hc he hx)
theorem w_f_X5_castShades_28 {G : Wld} {X : Cxt} (C : Cx G X RX5 cX5_castShades 5 3) {σ : Sto} {y : Sto} (h : f_X5_castShades_28 σ = some y) (hK : Rx G X none none y) : V G X 5 σ [(0, .ref (G.1 28))] [] 0 := by
  unfold f_X5_castShades_28 at h
  refine v_aload_n 0 C 0 0 dX5_castShades_0 rfl rfl ?_
  refine g_X5_28_6 1 C dX5_castShades_1 ?_
  refine v_iconst 4 C (0 : Int32) dX5_castShades_4 (by decide) ?_
  refine r_f_J7_fill_53178_31 5 C (by decide) q_541 dX5_castShades_5 (Nat.le_of_ble_eq_true rfl) h (fun σ1 h => ?_)
  refine v_iconst 8 C (0 : Int32) dX5_castShades_8 (by decide) ?_
  refine b_istore_n 9 C 1 (lv2 := fun z3 => [(1, .int z3), (0, .ref (G.1 28))]) dX5_castShades_9 rfl (by decide) (fun _ => rfl) h (fun z3 h => ?_)
  refine v_iconst 10 C (0 : Int32) dX5_castShades_10 (by decide) ?_
  refine b_istore_n 11 C 2 (lv2 := fun z4 => [(2, .int z4), (1, .int z3), (0, .ref (G.1 28))]) dX5_castShades_11 rfl (by decide) (fun _ => rfl) h (fun z4 h => ?_)
  refine v_sub [2, 1, 0] rfl ?_
  refine lp_go (Vh := fun t => V G X 5 t.1 [(0, .ref (G.1 28)), (1, .int t.2.1), (2, .int t.2.2)] [] 12) h ?_
  intro t22 y22 hy22 hc22 he22
  refine w_f_X5_castShades_28_l12 C hy22 hc22 he22 (fun σ19 z20 z21 h => ?_)
  dsimp only at h
  cases h
  exact v_vret 100 C hK dX5_castShades_100
theorem c_f_X5_castShades_28 (l : Launch) (G : Wld) (hG : GI G) (σ : Sto) (y : Sto) (h : f_X5_castShades_28 σ = some y) : Ct l G yX5_castShades cX5_castShades 5 none 3 [.ref (G.1 28)] σ none y := by
  refine ct_intro RX5 hG (by decide) rfl (Nat.le_of_ble_eq_true rfl) (fun X hX C hK => ?_)
  subst hX
  exact w_f_X5_castShades_28 C h hK
theorem r_f_X5_castShades_28 {G : Wld} {X : Cxt} {own : String} {cc : ByteArray} {nL n : Nat} {σ : Sto} {lv : List (Nat × Value)} {st : List Value} {β : Type} {r : β} {F : Sto → Option β} {ix : Nat} (pc : Nat) (C : Cx G X own cc nL n) (hn : 3 < n) (h1 : Cond.methodLink own ix yX5_castShades ∈ lw_gd) (hd : decode cc pc = .ok (.invokevirtual ix, 3)) (hsum : (st.map fun v => v.category).sum ≤ 8) (h : bd1 (f_X5_castShades_28 σ) F = some r) (kk : ∀ σ1, F σ1 = some r → V G X nL σ1 lv (st) (pc + 3)) : V G X nL σ lv (.ref (G.1 28) :: st) pc := by
  obtain ⟨z, hz, h⟩ := bd1_some h
  exact v_callV pc C 28 0 [] st (c_f_X5_castShades_28 (xl X) G C.2.2.2.2.2.2.1 _ _ hz) hn (by decide) (by decide) (ce_28 G _ _) rfl (by decide +kernel) rfl h1 q_558 q_11 q_65 q_559 rfl hsum hd (kk _ h)
-- f_J7_fill_53178_32
def f_J7_fill_53178_32_l5 (x1 : Int32) (x3 : Int32) (σ : Sto) (x2 : Int32) : Option ((Sto × Int32) ⊕ (Sto × Int32)) :=
  if x3 ≤ x2 then (some (.inr (σ, x2))) else (gd (inB x2 7) (bs (su σ 32 (x2).toNatClampNeg x1) fun σ3 => bs (x2 + (1 : Int32)) fun z4 => some (.inl (σ3, z4))))
def f_J7_fill_53178_32 (σ : Sto) (a1 : Int32) : Option (Sto) :=
  bs (0 : Int32) fun z1 => bs (7 : Int32) fun z2 => bE1 (lpF (fun t => f_J7_fill_53178_32_l5 a1 z2 t.1 t.2) FU (σ, z1)) (fun σ5 z6 => some σ5)
theorem w_f_J7_fill_53178_32_l5 {G : Wld} {X : Cxt} (C : Cx G X RJ7 cJ7_fill_53178 4 1) {x1 : Int32} {x3 : Int32} {σ : Sto} {x2 : Int32} {y : (Sto × Int32) ⊕ (Sto × Int32)} (h : f_J7_fill_53178_32_l5 x1 x3 σ x2 = some y) (hc : ∀ t : Sto × Int32, y = .inl t → V G X 4 t.1 [(0, .ref (G.1 32)), (1, .int x1), (2, .int t.2), (3, .int x3)] [] 5) {Ve : Sto × Int32 → Prop} (he : ∀ e, y = .inr e → Ve e) (hx : ∀ (σ : Sto) (x2 : Int32), Ve (σ, x2) → V G X 4 σ [(0, .ref (G.1 32)), (1, .int x1), (2, .int x2), (3, .int x3)] [] 20) : V G X 4 σ [(0, .ref (G.1 32)), (1, .int x1), (2, .int x2), (3, .int x3)] [] 5 := by
  unfold f_J7_fill_53178_32_l5 at h
  refine v_iload_n 5 C 2 2 dJ7_fill_53178_5 rfl rfl ?_
  refine v_iload_n 6 C 3 3 dJ7_fill_53178_6 rfl rfl ?_
  refine v_icmp_ge 7 C 20 dJ7_fill_53178_7 (by decide) h (fun h => ?_) (fun h => ?_)
  · exact v_sub [0, 1, 2, 3] rfl (hx _ _ (he _ (Option.some.inj h).symm))
  · refine v_aload_n 10 C 0 0 dJ7_fill_53178_10 rfl rfl ?_
    refine v_iload_n 11 C 2 2 dJ7_fill_53178_11 rfl rfl ?_
    refine v_iload_n 12 C 1 1 dJ7_fill_53178_12 rfl rfl ?_
    refine b_iast 13 C 32 (by decide) (ce_32 G) dJ7_fill_53178_13 h (fun σ3 h => ?_)
    refine b_iinc 14 C 2 2 (1 : Int32) (lv2 := fun z4 => [(2, .int z4), (0, .ref (G.1 32)), (1, .int x1), (3, .int x3)]) dJ7_fill_53178_14 rfl (by decide) (by decide) (fun _ => rfl) h (fun z4 h => ?_)
    refine v_goto 17 C 5 dJ7_fill_53178_17 (by decide) ?_
    exact v_sub [1, 2, 0, 3] rfl (hc _ (Option.some.inj h).symm)
theorem w_f_J7_fill_53178_32 {G : Wld} {X : Cxt} (C : Cx G X RJ7 cJ7_fill_53178 4 1) {σ : Sto} {a1 : Int32} {y : Sto} (h : f_J7_fill_53178_32 σ a1 = some y) (hK : Rx G X none none y) : V G X 4 σ [(0, .ref (G.1 32)), (1, .int a1)] [] 0 := by
  unfold f_J7_fill_53178_32 at h
  refine v_iconst 0 C (0 : Int32) dJ7_fill_53178_0 (by decide) ?_
  refine b_istore_n 1 C 2 (lv2 := fun z1 => [(2, .int z1), (0, .ref (G.1 32)), (1, .int a1)]) dJ7_fill_53178_1 rfl (by decide) (fun _ => rfl) h (fun z1 h => ?_)
  refine v_aload_n 2 C 0 1 dJ7_fill_53178_2 rfl rfl ?_
  refine v_alen 3 C 32 0 (7 : Int32) (by decide) (ce_32 G) rfl (by decide) dJ7_fill_53178_3 ?_
  refine b_istore_n 4 C 3 (lv2 := fun z2 => [(3, .int z2), (2, .int z1), (0, .ref (G.1 32)), (1, .int a1)]) dJ7_fill_53178_4 rfl (by decide) (fun _ => rfl) h (fun z2 h => ?_)
  refine v_sub [2, 3, 1, 0] rfl ?_
  refine lp_go (Vh := fun t => V G X 4 t.1 [(0, .ref (G.1 32)), (1, .int a1), (2, .int t.2), (3, .int z2)] [] 5) h ?_
  intro t7 y7 hy7 hc7 he7
  refine w_f_J7_fill_53178_32_l5 C hy7 hc7 he7 (fun σ5 z6 h => ?_)
  dsimp only at h
  cases h
  exact v_vret 20 C hK dJ7_fill_53178_20
theorem c_f_J7_fill_53178_32 (l : Launch) (G : Wld) (hG : GI G) (σ : Sto) (a1 : Int32) (y : Sto) (h : f_J7_fill_53178_32 σ a1 = some y) : Ct l G yJ7_fill_53178 cJ7_fill_53178 4 none 1 [.ref (G.1 32), .int a1] σ none y := by
  refine ct_intro RJ7 hG (by decide) rfl (Nat.le_of_ble_eq_true rfl) (fun X hX C hK => ?_)
  subst hX
  exact w_f_J7_fill_53178_32 C h hK
theorem r_f_J7_fill_53178_32 {G : Wld} {X : Cxt} {own : String} {cc : ByteArray} {nL n : Nat} {σ : Sto} {lv : List (Nat × Value)} {st : List Value} {β : Type} {r : β} {F : Sto → Option β} {a1 : Int32} {ix : Nat} (pc : Nat) (C : Cx G X own cc nL n) (hn : 1 < n) (h1 : Cond.methodLink own ix yJ7_fill_53178 ∈ lw_gd) (hd : decode cc pc = .ok (.invokestatic ix, 3)) (hsum : (st.map fun v => v.category).sum ≤ 8) (h : bd1 (f_J7_fill_53178_32 σ a1) F = some r) (kk : ∀ σ1, F σ1 = some r → V G X nL σ1 lv (st) (pc + 3)) : V G X nL σ lv (.int a1 :: .ref (G.1 32) :: st) pc := by
  obtain ⟨z, hz, h⟩ := bd1_some h
  exact v_callS pc C 2 [.ref (G.1 32), .int a1] st (c_f_J7_fill_53178_32 (xl X) G C.2.2.2.2.2.2.1 _ _ _ hz) hn (by decide) (by decide +kernel) rfl h1 q_143 q_63 q_144 rfl hsum hd (kk _ h)
-- f_X5_giveAllToLongest_28
def f_X5_giveAllToLongest_28_j34 (σ : Sto) (x2 : Int32) (x3 : Int32) (s0 : Int32) : Option ((Sto × Int32 × Int32 × Int32) ⊕ (Sto × Int32 × Int32 × Int32)) :=
  bs s0 fun z4 => gd (inB x3 7) (bs (x2 + (σ.1 31 (x3).toNatClampNeg)) fun z5 => bs (x3 + (1 : Int32)) fun z6 => some (.inl (σ, z4, z5, z6)))
def f_X5_giveAllToLongest_28_l6 (σ : Sto) (x1 : Int32) (x2 : Int32) (x3 : Int32) : Option ((Sto × Int32 × Int32 × Int32) ⊕ (Sto × Int32 × Int32 × Int32)) :=
  if (σ.1 28 1) ≤ x3 then (some (.inr (σ, x1, x2, x3))) else (gd (inB x3 7) (gd (inB x1 7) (if (σ.1 31 (x3).toNatClampNeg) ≤ (σ.1 31 (x1).toNatClampNeg) then (f_X5_giveAllToLongest_28_j34 σ x2 x3 x1) else (f_X5_giveAllToLongest_28_j34 σ x2 x3 x3))))
def f_X5_giveAllToLongest_28 (σ : Sto) : Option (Sto) :=
  bs (0 : Int32) fun z1 => bs (0 : Int32) fun z2 => bs (0 : Int32) fun z3 => bE3 (lpF (fun t => f_X5_giveAllToLongest_28_l6 t.1 t.2.1 t.2.2.1 t.2.2.2) FU (σ, z1, z2, z3)) (fun σ7 z8 z9 z10 => bd1 (f_J7_fill_53178_32 σ7 (0 : Int32)) fun σ12 => gd (inB z8 7) (bs (su σ12 32 (z8).toNatClampNeg z9) fun σ14 => some σ14))
theorem w_f_X5_giveAllToLongest_28_j34 {G : Wld} {X : Cxt} (C : Cx G X RX5 cX5_giveAllToLongest 4 2) {σ : Sto} {x2 : Int32} {x3 : Int32} {s0 : Int32} {y : (Sto × Int32 × Int32 × Int32) ⊕ (Sto × Int32 × Int32 × Int32)} (h : f_X5_giveAllToLongest_28_j34 σ x2 x3 s0 = some y) (hc : ∀ t : Sto × Int32 × Int32 × Int32, y = .inl t → V G X 4 t.1 [(0, .ref (G.1 28)), (1, .int t.2.1), (2, .int t.2.2.1), (3, .int t.2.2.2)] [] 6) {Ve : Sto × Int32 × Int32 × Int32 → Prop} (he : ∀ e, y = .inr e → Ve e) (hx : ∀ (σ : Sto) (x1 : Int32) (x2 : Int32) (x3 : Int32), Ve (σ, x1, x2, x3) → V G X 4 σ [(0, .ref (G.1 28)), (1, .int x1), (2, .int x2), (3, .int x3)] [] 50) : V G X 4 σ [(0, .ref (G.1 28)), (2, .int x2), (3, .int x3)] [.int s0] 34 := by
  unfold f_X5_giveAllToLongest_28_j34 at h
  refine b_istore_n 34 C 1 (lv2 := fun z4 => [(1, .int z4), (0, .ref (G.1 28)), (2, .int x2), (3, .int x3)]) dX5_giveAllToLongest_34 rfl (by decide) (fun _ => rfl) h (fun z4 h => ?_)
  refine v_iload_n 35 C 2 2 dX5_giveAllToLongest_35 rfl rfl ?_
  refine v_aload_n 36 C 0 1 dX5_giveAllToLongest_36 rfl rfl ?_
  refine g_X5_28_6 37 C dX5_giveAllToLongest_37 ?_
  refine v_iload_n 40 C 3 3 dX5_giveAllToLongest_40 rfl rfl ?_
  refine v_iald 41 C 31 (by decide) (ce_31 G) dX5_giveAllToLongest_41 h (fun h => ?_)
  refine v_iadd 42 C dX5_giveAllToLongest_42 ?_
  refine b_istore_n 43 C 2 (lv2 := fun z5 => [(2, .int z5), (1, .int z4), (0, .ref (G.1 28)), (3, .int x3)]) dX5_giveAllToLongest_43 rfl (by decide) (fun _ => rfl) h (fun z5 h => ?_)
  refine b_iinc 44 C 3 3 (1 : Int32) (lv2 := fun z6 => [(3, .int z6), (2, .int z5), (1, .int z4), (0, .ref (G.1 28))]) dX5_giveAllToLongest_44 rfl (by decide) (by decide) (fun _ => rfl) h (fun z6 h => ?_)
  refine v_goto 47 C 6 dX5_giveAllToLongest_47 (by decide) ?_
  exact v_sub [3, 2, 1, 0] rfl (hc _ (Option.some.inj h).symm)
theorem w_f_X5_giveAllToLongest_28_l6 {G : Wld} {X : Cxt} (C : Cx G X RX5 cX5_giveAllToLongest 4 2) {σ : Sto} {x1 : Int32} {x2 : Int32} {x3 : Int32} {y : (Sto × Int32 × Int32 × Int32) ⊕ (Sto × Int32 × Int32 × Int32)} (h : f_X5_giveAllToLongest_28_l6 σ x1 x2 x3 = some y) (hc : ∀ t : Sto × Int32 × Int32 × Int32, y = .inl t → V G X 4 t.1 [(0, .ref (G.1 28)), (1, .int t.2.1), (2, .int t.2.2.1), (3, .int t.2.2.2)] [] 6) {Ve : Sto × Int32 × Int32 × Int32 → Prop} (he : ∀ e, y = .inr e → Ve e) (hx : ∀ (σ : Sto) (x1 : Int32) (x2 : Int32) (x3 : Int32), Ve (σ, x1, x2, x3) → V G X 4 σ [(0, .ref (G.1 28)), (1, .int x1), (2, .int x2), (3, .int x3)] [] 50) : V G X 4 σ [(0, .ref (G.1 28)), (1, .int x1), (2, .int x2), (3, .int x3)] [] 6 := by
  unfold f_X5_giveAllToLongest_28_l6 at h
  refine v_iload_n 6 C 3 3 dX5_giveAllToLongest_6 rfl rfl ?_
  refine v_aload_n 7 C 0 0 dX5_giveAllToLongest_7 rfl rfl ?_
  refine g_X5_28_1 8 C dX5_giveAllToLongest_8 ?_
  refine v_icmp_ge 11 C 50 dX5_giveAllToLongest_11 (by decide) h (fun h => ?_) (fun h => ?_)
  · exact v_sub [0, 1, 2, 3] rfl (hx _ _ _ _ (he _ (Option.some.inj h).symm))
  · refine v_aload_n 14 C 0 0 dX5_giveAllToLongest_14 rfl rfl ?_
    refine g_X5_28_6 15 C dX5_giveAllToLongest_15 ?_
    refine v_iload_n 18 C 3 3 dX5_giveAllToLongest_18 rfl rfl ?_
    refine v_iald 19 C 31 (by decide) (ce_31 G) dX5_giveAllToLongest_19 h (fun h => ?_)
    refine v_aload_n 20 C 0 0 dX5_giveAllToLongest_20 rfl rfl ?_
    refine g_X5_28_6 21 C dX5_giveAllToLongest_21 ?_
    refine v_iload_n 24 C 1 1 dX5_giveAllToLongest_24 rfl rfl ?_
    refine v_iald 25 C 31 (by decide) (ce_31 G) dX5_giveAllToLongest_25 h (fun h => ?_)
    refine v_icmp_le 26 C 33 dX5_giveAllToLongest_26 (by decide) h (fun h => ?_) (fun h => ?_)
    · refine v_iload_n 33 C 1 1 dX5_giveAllToLongest_33 rfl rfl ?_
      exact v_sub [0, 2, 3] rfl (w_f_X5_giveAllToLongest_28_j34 C h hc he hx)
    · refine v_iload_n 29 C 3 3 dX5_giveAllToLongest_29 rfl rfl ?_
      refine v_goto 30 C 34 dX5_giveAllToLongest_30 (by decide) ?_
      exact v_sub [0, 2, 3] rfl (w_f_X5_giveAllToLongest_28_j34 C h hc he hx)
theorem w_f_X5_giveAllToLongest_28 {G : Wld} {X : Cxt} (C : Cx G X RX5 cX5_giveAllToLongest 4 2) {σ : Sto} {y : Sto} (h : f_X5_giveAllToLongest_28 σ = some y) (hK : Rx G X none none y) : V G X 4 σ [(0, .ref (G.1 28))] [] 0 := by
  unfold f_X5_giveAllToLongest_28 at h
  refine v_iconst 0 C (0 : Int32) dX5_giveAllToLongest_0 (by decide) ?_
  refine b_istore_n 1 C 1 (lv2 := fun z1 => [(1, .int z1), (0, .ref (G.1 28))]) dX5_giveAllToLongest_1 rfl (by decide) (fun _ => rfl) h (fun z1 h => ?_)
  refine v_iconst 2 C (0 : Int32) dX5_giveAllToLongest_2 (by decide) ?_
  refine b_istore_n 3 C 2 (lv2 := fun z2 => [(2, .int z2), (1, .int z1), (0, .ref (G.1 28))]) dX5_giveAllToLongest_3 rfl (by decide) (fun _ => rfl) h (fun z2 h => ?_)
  refine v_iconst 4 C (0 : Int32) dX5_giveAllToLongest_4 (by decide) ?_
  refine b_istore_n 5 C 3 (lv2 := fun z3 => [(3, .int z3), (2, .int z2), (1, .int z1), (0, .ref (G.1 28))]) dX5_giveAllToLongest_5 rfl (by decide) (fun _ => rfl) h (fun z3 h => ?_)
  refine v_sub [3, 2, 1, 0] rfl ?_
  refine lp_go (Vh := fun t => V G X 4 t.1 [(0, .ref (G.1 28)), (1, .int t.2.1), (2, .int t.2.2.1), (3, .int t.2.2.2)] [] 6) h ?_
  intro t11 y11 hy11 hc11 he11
  refine w_f_X5_giveAllToLongest_28_l6 C hy11 hc11 he11 (fun σ7 z8 z9 z10 h => ?_)
  dsimp only at h
  refine v_aload_n 50 C 0 0 dX5_giveAllToLongest_50 rfl rfl ?_
  refine g_X5_28_7 51 C dX5_giveAllToLongest_51 ?_
  refine v_iconst 54 C (0 : Int32) dX5_giveAllToLongest_54 (by decide) ?_
  refine r_f_J7_fill_53178_32 55 C (by decide) q_541 dX5_giveAllToLongest_55 (Nat.le_of_ble_eq_true rfl) h (fun σ12 h => ?_)
  refine v_aload_n 58 C 0 0 dX5_giveAllToLongest_58 rfl rfl ?_
  refine g_X5_28_7 59 C dX5_giveAllToLongest_59 ?_
  refine v_iload_n 62 C 1 1 dX5_giveAllToLongest_62 rfl rfl ?_
  refine v_iload_n 63 C 2 2 dX5_giveAllToLongest_63 rfl rfl ?_
  refine b_iast 64 C 32 (by decide) (ce_32 G) dX5_giveAllToLongest_64 h (fun σ14 h => ?_)
  cases h
  exact v_vret 65 C hK dX5_giveAllToLongest_65
theorem c_f_X5_giveAllToLongest_28 (l : Launch) (G : Wld) (hG : GI G) (σ : Sto) (y : Sto) (h : f_X5_giveAllToLongest_28 σ = some y) : Ct l G yX5_giveAllToLongest cX5_giveAllToLongest 4 none 2 [.ref (G.1 28)] σ none y := by
  refine ct_intro RX5 hG (by decide) rfl (Nat.le_of_ble_eq_true rfl) (fun X hX C hK => ?_)
  subst hX
  exact w_f_X5_giveAllToLongest_28 C h hK
theorem r_f_X5_giveAllToLongest_28 {G : Wld} {X : Cxt} {own : String} {cc : ByteArray} {nL n : Nat} {σ : Sto} {lv : List (Nat × Value)} {st : List Value} {β : Type} {r : β} {F : Sto → Option β} {ix : Nat} (pc : Nat) (C : Cx G X own cc nL n) (hn : 2 < n) (h1 : Cond.methodLink own ix yX5_giveAllToLongest ∈ lw_gd) (hd : decode cc pc = .ok (.invokevirtual ix, 3)) (hsum : (st.map fun v => v.category).sum ≤ 8) (h : bd1 (f_X5_giveAllToLongest_28 σ) F = some r) (kk : ∀ σ1, F σ1 = some r → V G X nL σ1 lv (st) (pc + 3)) : V G X nL σ lv (.ref (G.1 28) :: st) pc := by
  obtain ⟨z, hz, h⟩ := bd1_some h
  exact v_callV pc C 28 0 [] st (c_f_X5_giveAllToLongest_28 (xl X) G C.2.2.2.2.2.2.1 _ _ hz) hn (by decide) (by decide) (ce_28 G _ _) rfl (by decide +kernel) rfl h1 q_570 q_13 q_65 q_571 rfl hsum hd (kk _ h)
-- f_X5_cast_28
def f_X5_cast_28_j60 (σ : Sto) (x1 : Int32) (s0 : Int32) (s1 : Int32) : Option ((Sto × Int32) ⊕ (Sto × Int32)) :=
  gd (inB s1 7) (bs (su σ 32 (s1).toNatClampNeg s0) fun σ4 => bs (x1 + (1 : Int32)) fun z5 => some (.inl (σ4, z5)))
def f_X5_cast_28_l19 (σ : Sto) (x1 : Int32) : Option ((Sto × Int32) ⊕ (Sto × Int32)) :=
  if (σ.1 28 1) ≤ x1 then (some (.inr (σ, x1))) else (if (σ.1 28 3) = (2 : Int32) then (gd (inB x1 7) (f_X5_cast_28_j60 σ x1 (iMin (σ.1 31 (x1).toNatClampNeg) (50 : Int32)) x1)) else (gd (inB x1 7) (f_X5_cast_28_j60 σ x1 (σ.1 31 (x1).toNatClampNeg) x1)))
def f_X5_cast_28 (σ : Sto) : Option (Sto) :=
  bd1 (f_X5_castShades_28 σ) fun σ1 => if (σ1.1 28 3) = (1 : Int32) then (bd1 (f_X5_giveAllToLongest_28 σ1) fun σ9 => some σ9) else (bs (0 : Int32) fun z3 => bE1 (lpF (fun t => f_X5_cast_28_l19 t.1 t.2) FU (σ1, z3)) (fun σ6 z7 => some σ6))
theorem w_f_X5_cast_28_j60 {G : Wld} {X : Cxt} (C : Cx G X RX5 cX5_cast 2 4) {σ : Sto} {x1 : Int32} {s0 : Int32} {s1 : Int32} {y : (Sto × Int32) ⊕ (Sto × Int32)} (h : f_X5_cast_28_j60 σ x1 s0 s1 = some y) (hc : ∀ t : Sto × Int32, y = .inl t → V G X 2 t.1 [(0, .ref (G.1 28)), (1, .int t.2)] [] 19) {Ve : Sto × Int32 → Prop} (he : ∀ e, y = .inr e → Ve e) (hx : ∀ (σ : Sto) (x1 : Int32), Ve (σ, x1) → V G X 2 σ [(0, .ref (G.1 28)), (1, .int x1)] [] 67) : V G X 2 σ [(0, .ref (G.1 28)), (1, .int x1)] [.int s0, .int s1, .ref (G.1 32)] 60 := by
  unfold f_X5_cast_28_j60 at h
  refine b_iast 60 C 32 (by decide) (ce_32 G) dX5_cast_60 h (fun σ4 h => ?_)
  refine b_iinc 61 C 1 1 (1 : Int32) (lv2 := fun z5 => [(1, .int z5), (0, .ref (G.1 28))]) dX5_cast_61 rfl (by decide) (by decide) (fun _ => rfl) h (fun z5 h => ?_)
  refine v_goto 64 C 19 dX5_cast_64 (by decide) ?_
  exact v_sub [1, 0] rfl (hc _ (Option.some.inj h).symm)
theorem w_f_X5_cast_28_l19 {G : Wld} {X : Cxt} (C : Cx G X RX5 cX5_cast 2 4) {σ : Sto} {x1 : Int32} {y : (Sto × Int32) ⊕ (Sto × Int32)} (h : f_X5_cast_28_l19 σ x1 = some y) (hc : ∀ t : Sto × Int32, y = .inl t → V G X 2 t.1 [(0, .ref (G.1 28)), (1, .int t.2)] [] 19) {Ve : Sto × Int32 → Prop} (he : ∀ e, y = .inr e → Ve e) (hx : ∀ (σ : Sto) (x1 : Int32), Ve (σ, x1) → V G X 2 σ [(0, .ref (G.1 28)), (1, .int x1)] [] 67) : V G X 2 σ [(0, .ref (G.1 28)), (1, .int x1)] [] 19 := by
  unfold f_X5_cast_28_l19 at h
  refine v_iload_n 19 C 1 1 dX5_cast_19 rfl rfl ?_
  refine v_aload_n 20 C 0 0 dX5_cast_20 rfl rfl ?_
  refine g_X5_28_1 21 C dX5_cast_21 ?_
  refine v_icmp_ge 24 C 67 dX5_cast_24 (by decide) h (fun h => ?_) (fun h => ?_)
  · exact v_sub [0, 1] rfl (hx _ _ (he _ (Option.some.inj h).symm))
  · refine v_aload_n 27 C 0 0 dX5_cast_27 rfl rfl ?_
    refine g_X5_28_7 28 C dX5_cast_28 ?_
    refine v_iload_n 31 C 1 1 dX5_cast_31 rfl rfl ?_
    refine v_aload_n 32 C 0 0 dX5_cast_32 rfl rfl ?_
    refine g_X5_28_3 33 C dX5_cast_33 ?_
    refine v_iconst 36 C (2 : Int32) dX5_cast_36 (by decide) ?_
    refine v_icmp_ne 37 C 54 dX5_cast_37 (by decide) h (fun h => ?_) (fun h => ?_)
    · refine v_aload_n 54 C 0 0 dX5_cast_54 rfl rfl ?_
      refine g_X5_28_6 55 C dX5_cast_55 ?_
      refine v_iload_n 58 C 1 1 dX5_cast_58 rfl rfl ?_
      refine v_iald 59 C 31 (by decide) (ce_31 G) dX5_cast_59 h (fun h => ?_)
      exact v_sub [0, 1] rfl (w_f_X5_cast_28_j60 C h hc he hx)
    · refine v_aload_n 40 C 0 0 dX5_cast_40 rfl rfl ?_
      refine g_X5_28_6 41 C dX5_cast_41 ?_
      refine v_iload_n 44 C 1 1 dX5_cast_44 rfl rfl ?_
      refine v_iald 45 C 31 (by decide) (ce_31 G) dX5_cast_45 h (fun h => ?_)
      refine v_bipush 46 C (50 : Int32) dX5_cast_46 (by decide) ?_
      refine v_min 48 C q_572 q_501 q_74 q_502 (Nat.le_of_ble_eq_true rfl) (by decide) dX5_cast_48 ?_
      refine v_goto 51 C 60 dX5_cast_51 (by decide) ?_
      exact v_sub [0, 1] rfl (w_f_X5_cast_28_j60 C h hc he hx)
theorem w_f_X5_cast_28 {G : Wld} {X : Cxt} (C : Cx G X RX5 cX5_cast 2 4) {σ : Sto} {y : Sto} (h : f_X5_cast_28 σ = some y) (hK : Rx G X none none y) : V G X 2 σ [(0, .ref (G.1 28))] [] 0 := by
  unfold f_X5_cast_28 at h
  refine v_aload_n 0 C 0 0 dX5_cast_0 rfl rfl ?_
  refine r_f_X5_castShades_28 1 C (by decide) q_556 dX5_cast_1 (Nat.le_of_ble_eq_true rfl) h (fun σ1 h => ?_)
  refine v_aload_n 4 C 0 0 dX5_cast_4 rfl rfl ?_
  refine g_X5_28_3 5 C dX5_cast_5 ?_
  refine v_iconst 8 C (1 : Int32) dX5_cast_8 (by decide) ?_
  refine v_icmp_ne 9 C 17 dX5_cast_9 (by decide) h (fun h => ?_) (fun h => ?_)
  · refine v_iconst 17 C (0 : Int32) dX5_cast_17 (by decide) ?_
    refine b_istore_n 18 C 1 (lv2 := fun z3 => [(1, .int z3), (0, .ref (G.1 28))]) dX5_cast_18 rfl (by decide) (fun _ => rfl) h (fun z3 h => ?_)
    refine v_sub [1, 0] rfl ?_
    refine lp_go (Vh := fun t => V G X 2 t.1 [(0, .ref (G.1 28)), (1, .int t.2)] [] 19) h ?_
    intro t8 y8 hy8 hc8 he8
    refine w_f_X5_cast_28_l19 C hy8 hc8 he8 (fun σ6 z7 h => ?_)
    dsimp only at h
    cases h
    exact v_vret 67 C hK dX5_cast_67
  · refine v_aload_n 12 C 0 0 dX5_cast_12 rfl rfl ?_
    refine r_f_X5_giveAllToLongest_28 13 C (by decide) q_568 dX5_cast_13 (Nat.le_of_ble_eq_true rfl) h (fun σ9 h => ?_)
    cases h
    exact v_vret 16 C hK dX5_cast_16
theorem c_f_X5_cast_28 (l : Launch) (G : Wld) (hG : GI G) (σ : Sto) (y : Sto) (h : f_X5_cast_28 σ = some y) : Ct l G yX5_cast cX5_cast 2 none 4 [.ref (G.1 28)] σ none y := by
  refine ct_intro RX5 hG (by decide) rfl (Nat.le_of_ble_eq_true rfl) (fun X hX C hK => ?_)
  subst hX
  exact w_f_X5_cast_28 C h hK
theorem r_f_X5_cast_28 {G : Wld} {X : Cxt} {own : String} {cc : ByteArray} {nL n : Nat} {σ : Sto} {lv : List (Nat × Value)} {st : List Value} {β : Type} {r : β} {F : Sto → Option β} {ix : Nat} (pc : Nat) (C : Cx G X own cc nL n) (hn : 4 < n) (h1 : Cond.methodLink own ix yX5_cast ∈ lw_gd) (hd : decode cc pc = .ok (.invokevirtual ix, 3)) (hsum : (st.map fun v => v.category).sum ≤ 8) (h : bd1 (f_X5_cast_28 σ) F = some r) (kk : ∀ σ1, F σ1 = some r → V G X nL σ1 lv (st) (pc + 3)) : V G X nL σ lv (.ref (G.1 28) :: st) pc := by
  obtain ⟨z, hz, h⟩ := bd1_some h
  exact v_callV pc C 28 0 [] st (c_f_X5_cast_28 (xl X) G C.2.2.2.2.2.2.1 _ _ hz) hn (by decide) (by decide) (ce_28 G _ _) rfl (by decide +kernel) rfl h1 q_553 q_554 q_65 q_555 rfl hsum hd (kk _ h)
-- f_X7_showAt
def f_X7_showAt (σ : Sto) (a1 : Int32) (a2 : Int32) : Option (Sto) :=
  bd1 (f_X5_dress_28_10 σ (1 : Int32)) fun σ1 => bd2 (f_X2_longOf_1 σ1 a1 a2) fun σ3 v4 => bd1 (f_X5_light_28 σ3 v4 (σ3.1 10 5)) fun σ5 => bd1 (f_X5_cast_28 σ5) fun σ7 => some σ7
theorem w_f_X7_showAt {G : Wld} {X : Cxt} (C : Cx G X RX7 cX7_showAt 3 5) {σ : Sto} {a1 : Int32} {a2 : Int32} {y : Sto} (h : f_X7_showAt σ a1 a2 = some y) (hK : Rx G X none none y) : V G X 3 σ [(0, .ref (G.1 0)), (1, .int a1), (2, .int a2)] [] 0 := by
  unfold f_X7_showAt at h
  refine v_aload_n 0 C 0 0 dX7_showAt_0 rfl rfl ?_
  refine g_X7_0_7 1 C dX7_showAt_1 ?_
  refine v_aload_n 4 C 0 0 dX7_showAt_4 rfl rfl ?_
  refine g_X7_0_2 5 C dX7_showAt_5 ?_
  refine v_iconst 8 C (1 : Int32) dX7_showAt_8 (by decide) ?_
  refine r_f_X5_dress_28_10 9 C (by decide) q_536 dX7_showAt_9 (Nat.le_of_ble_eq_true rfl) h (fun σ1 h => ?_)
  refine v_aload_n 12 C 0 0 dX7_showAt_12 rfl rfl ?_
  refine g_X7_0_7 13 C dX7_showAt_13 ?_
  refine v_aload_n 16 C 0 0 dX7_showAt_16 rfl rfl ?_
  refine g_X7_0_0 17 C dX7_showAt_17 ?_
  refine v_iload_n 20 C 1 1 dX7_showAt_20 rfl rfl ?_
  refine v_iload_n 21 C 2 2 dX7_showAt_21 rfl rfl ?_
  refine r_f_X2_longOf_1 22 C (by decide) q_495 dX7_showAt_22 (Nat.le_of_ble_eq_true rfl) h (fun σ3 v4 h => ?_)
  refine v_aload_n 25 C 0 0 dX7_showAt_25 rfl rfl ?_
  refine g_X7_0_2 26 C dX7_showAt_26 ?_
  refine g_X7_10_5 29 C dX7_showAt_29 ?_
  refine r_f_X5_light_28 32 C (by decide) q_548 dX7_showAt_32 (Nat.le_of_ble_eq_true rfl) h (fun σ5 h => ?_)
  refine v_aload_n 35 C 0 0 dX7_showAt_35 rfl rfl ?_
  refine g_X7_0_7 36 C dX7_showAt_36 ?_
  refine r_f_X5_cast_28 39 C (by decide) q_552 dX7_showAt_39 (Nat.le_of_ble_eq_true rfl) h (fun σ7 h => ?_)
  cases h
  exact v_vret 42 C hK dX7_showAt_42
theorem c_f_X7_showAt (l : Launch) (G : Wld) (hG : GI G) (σ : Sto) (a1 : Int32) (a2 : Int32) (y : Sto) (h : f_X7_showAt σ a1 a2 = some y) : Ct l G yX7_showAt cX7_showAt 3 none 5 [.ref (G.1 0), .int a1, .int a2] σ none y := by
  refine ct_intro RX7 hG (by decide) rfl (Nat.le_of_ble_eq_true rfl) (fun X hX C hK => ?_)
  subst hX
  exact w_f_X7_showAt C h hK
theorem r_f_X7_showAt {G : Wld} {X : Cxt} {own : String} {cc : ByteArray} {nL n : Nat} {σ : Sto} {lv : List (Nat × Value)} {st : List Value} {β : Type} {r : β} {F : Sto → Option β} {a1 : Int32} {a2 : Int32} {ix : Nat} (pc : Nat) (C : Cx G X own cc nL n) (hn : 5 < n) (h1 : Cond.methodLink own ix yX7_showAt ∈ lw_gd) (hd : decode cc pc = .ok (.invokevirtual ix, 3)) (hsum : (st.map fun v => v.category).sum ≤ 8) (h : bd1 (f_X7_showAt σ a1 a2) F = some r) (kk : ∀ σ1, F σ1 = some r → V G X nL σ1 lv (st) (pc + 3)) : V G X nL σ lv (.int a2 :: .int a1 :: .ref (G.1 0) :: st) pc := by
  obtain ⟨z, hz, h⟩ := bd1_some h
  exact v_callV pc C 0 2 [.int a1, .int a2] st (c_f_X7_showAt (xl X) G C.2.2.2.2.2.2.1 _ _ _ _ hz) hn (by decide) (by decide) (ce_0 G _ _) rfl (by decide +kernel) rfl h1 q_534 q_10 q_59 q_535 rfl hsum hd (kk _ h)
-- f_X5_almsOf_28
def f_X5_almsOf_28_j25 (σ : Sto) (s0 : Int32) : Option (Sto × Int32) :=
  some (σ, s0)
def f_X5_almsOf_28 (σ : Sto) (a1 : Int32) : Option (Sto × Int32) :=
  bd2 (f_X5_isHere_28 σ a1) fun σ1 v2 => if v2 = 0 then (f_X5_almsOf_28_j25 σ1 (0 : Int32)) else (gd (inB a1 7) (gd (inB a1 7) (f_X5_almsOf_28_j25 σ1 ((σ1.1 32 (a1).toNatClampNeg) - (σ1.1 30 (a1).toNatClampNeg)))))
theorem w_f_X5_almsOf_28_j25 {G : Wld} {X : Cxt} (C : Cx G X RX5 cX5_almsOf 2 2) {σ : Sto} {s0 : Int32} {y : Sto × Int32} (h : f_X5_almsOf_28_j25 σ s0 = some y) (hK : Rx G X (some .int) (some (.int y.2)) y.1) : V G X 2 σ [(0, .ref (G.1 28))] [.int s0] 25 := by
  unfold f_X5_almsOf_28_j25 at h
  cases h
  exact v_iret 25 C hK dX5_almsOf_25
theorem w_f_X5_almsOf_28 {G : Wld} {X : Cxt} (C : Cx G X RX5 cX5_almsOf 2 2) {σ : Sto} {a1 : Int32} {y : Sto × Int32} (h : f_X5_almsOf_28 σ a1 = some y) (hK : Rx G X (some .int) (some (.int y.2)) y.1) : V G X 2 σ [(0, .ref (G.1 28)), (1, .int a1)] [] 0 := by
  unfold f_X5_almsOf_28 at h
  refine v_aload_n 0 C 0 0 dX5_almsOf_0 rfl rfl ?_
  refine v_iload_n 1 C 1 1 dX5_almsOf_1 rfl rfl ?_
  refine r_f_X5_isHere_28 2 C (by decide) q_560 dX5_almsOf_2 (Nat.le_of_ble_eq_true rfl) h (fun σ1 v2 h => ?_)
  refine v_if_eq 5 C 24 dX5_almsOf_5 (by decide) h (fun h => ?_) (fun h => ?_)
  · refine v_iconst 24 C (0 : Int32) dX5_almsOf_24 (by decide) ?_
    exact v_sub [0] rfl (w_f_X5_almsOf_28_j25 C h hK)
  · refine v_aload_n 8 C 0 0 dX5_almsOf_8 rfl rfl ?_
    refine g_X5_28_7 9 C dX5_almsOf_9 ?_
    refine v_iload_n 12 C 1 1 dX5_almsOf_12 rfl rfl ?_
    refine v_iald 13 C 32 (by decide) (ce_32 G) dX5_almsOf_13 h (fun h => ?_)
    refine v_aload_n 14 C 0 0 dX5_almsOf_14 rfl rfl ?_
    refine g_X5_28_5 15 C dX5_almsOf_15 ?_
    refine v_iload_n 18 C 1 1 dX5_almsOf_18 rfl rfl ?_
    refine v_iald 19 C 30 (by decide) (ce_30 G) dX5_almsOf_19 h (fun h => ?_)
    refine v_isub 20 C dX5_almsOf_20 ?_
    refine v_goto 21 C 25 dX5_almsOf_21 (by decide) ?_
    exact v_sub [0] rfl (w_f_X5_almsOf_28_j25 C h hK)
theorem c_f_X5_almsOf_28 (l : Launch) (G : Wld) (hG : GI G) (σ : Sto) (a1 : Int32) (y : Sto × Int32) (h : f_X5_almsOf_28 σ a1 = some y) : Ct l G yX5_almsOf cX5_almsOf 2 (some .int) 2 [.ref (G.1 28), .int a1] σ (some (.int y.2)) y.1 := by
  refine ct_intro RX5 hG (by decide) rfl (Nat.le_of_ble_eq_true rfl) (fun X hX C hK => ?_)
  subst hX
  exact w_f_X5_almsOf_28 C h hK
theorem r_f_X5_almsOf_28 {G : Wld} {X : Cxt} {own : String} {cc : ByteArray} {nL n : Nat} {σ : Sto} {lv : List (Nat × Value)} {st : List Value} {β : Type} {r : β} {F : Sto → Int32 → Option β} {a1 : Int32} {ix : Nat} (pc : Nat) (C : Cx G X own cc nL n) (hn : 2 < n) (h1 : Cond.methodLink own ix yX5_almsOf ∈ lw_gd) (hd : decode cc pc = .ok (.invokevirtual ix, 3)) (hsum : (st.map fun v => v.category).sum ≤ 8) (h : bd2 (f_X5_almsOf_28 σ a1) F = some r) (kk : ∀ σ1 v, F σ1 v = some r → V G X nL σ1 lv (.int v :: st) (pc + 3)) : V G X nL σ lv (.int a1 :: .ref (G.1 28) :: st) pc := by
  obtain ⟨z, hz, h⟩ := bd2_some h
  exact v_callV pc C 28 1 [.int a1] st (c_f_X5_almsOf_28 (xl X) G C.2.2.2.2.2.2.1 _ _ _ hz) hn (by decide) (by decide) (ce_28 G _ _) rfl (by decide +kernel) rfl h1 q_574 q_575 q_65 q_576 rfl hsum hd (kk _ _ h)
-- f_X7_shadow
def f_X7_shadow_j24 (σ : Sto) : Option (Sto × Int32) :=
  some (σ, (-1000000001 : Int32))
def f_X7_shadow_j36 (σ : Sto) : Option (Sto × Int32) :=
  some (σ, (-1000000002 : Int32))
def f_X7_shadow_j75 (σ : Sto) (s0 : Int32) : Option (Sto × Int32) :=
  some (σ, s0)
def f_X7_shadow (σ : Sto) (a1 : Int32) (a2 : Int32) (a3 : Int32) : Option (Sto × Int32) :=
  bd2 (f_X2_has_1 σ (1 : Int32) a1) fun σ1 v2 => if v2 = 0 then (f_X7_shadow_j24 σ1) else (bd2 (f_X2_has_1 σ1 (3 : Int32) a2) fun σ3 v4 => if v4 = 0 then (f_X7_shadow_j24 σ3) else (if a3 < 0 then (f_X7_shadow_j36 σ3) else (if a3 ≤ (1 : Int32) then (bd1 (f_X7_showAt σ3 a1 (σ3.1 10 3)) fun σ5 => if a3 = 0 then (gd (inB a2 7) (f_X7_shadow_j75 σ5 (σ5.1 31 (a2).toNatClampNeg))) else (bd2 (f_X5_almsOf_28 σ5 a2) fun σ7 v8 => f_X7_shadow_j75 σ7 v8)) else (f_X7_shadow_j36 σ3))))
theorem w_f_X7_shadow_j24 {G : Wld} {X : Cxt} (C : Cx G X RX7 cX7_shadow 4 6) {σ : Sto} {y : Sto × Int32} (h : f_X7_shadow_j24 σ = some y) (hK : Rx G X (some .int) (some (.int y.2)) y.1) : V G X 4 σ [(0, .ref (G.1 0))] [] 24 := by
  unfold f_X7_shadow_j24 at h
  refine v_ldc 24 C dX7_shadow_24 q_493 ?_
  cases h
  exact v_iret 26 C hK dX7_shadow_26
theorem w_f_X7_shadow_j36 {G : Wld} {X : Cxt} (C : Cx G X RX7 cX7_shadow 4 6) {σ : Sto} {y : Sto × Int32} (h : f_X7_shadow_j36 σ = some y) (hK : Rx G X (some .int) (some (.int y.2)) y.1) : V G X 4 σ [(0, .ref (G.1 0))] [] 36 := by
  unfold f_X7_shadow_j36 at h
  refine v_ldc 36 C dX7_shadow_36 q_323 ?_
  cases h
  exact v_iret 38 C hK dX7_shadow_38
theorem w_f_X7_shadow_j75 {G : Wld} {X : Cxt} (C : Cx G X RX7 cX7_shadow 4 6) {σ : Sto} {s0 : Int32} {y : Sto × Int32} (h : f_X7_shadow_j75 σ s0 = some y) (hK : Rx G X (some .int) (some (.int y.2)) y.1) : V G X 4 σ [(0, .ref (G.1 0))] [.int s0] 75 := by
  unfold f_X7_shadow_j75 at h
  cases h
  exact v_iret 75 C hK dX7_shadow_75
theorem w_f_X7_shadow {G : Wld} {X : Cxt} (C : Cx G X RX7 cX7_shadow 4 6) {σ : Sto} {a1 : Int32} {a2 : Int32} {a3 : Int32} {y : Sto × Int32} (h : f_X7_shadow σ a1 a2 a3 = some y) (hK : Rx G X (some .int) (some (.int y.2)) y.1) : V G X 4 σ [(0, .ref (G.1 0)), (1, .int a1), (2, .int a2), (3, .int a3)] [] 0 := by
  unfold f_X7_shadow at h
  refine v_aload_n 0 C 0 0 dX7_shadow_0 rfl rfl ?_
  refine g_X7_0_0 1 C dX7_shadow_1 ?_
  refine v_iconst 4 C (1 : Int32) dX7_shadow_4 (by decide) ?_
  refine v_iload_n 5 C 1 1 dX7_shadow_5 rfl rfl ?_
  refine r_f_X2_has_1 6 C (by decide) q_489 dX7_shadow_6 (Nat.le_of_ble_eq_true rfl) h (fun σ1 v2 h => ?_)
  refine v_if_eq 9 C 24 dX7_shadow_9 (by decide) h (fun h => ?_) (fun h => ?_)
  · exact v_sub [0] rfl (w_f_X7_shadow_j24 C h hK)
  · refine v_aload_n 12 C 0 0 dX7_shadow_12 rfl rfl ?_
    refine g_X7_0_0 13 C dX7_shadow_13 ?_
    refine v_iconst 16 C (3 : Int32) dX7_shadow_16 (by decide) ?_
    refine v_iload_n 17 C 2 2 dX7_shadow_17 rfl rfl ?_
    refine r_f_X2_has_1 18 C (by decide) q_489 dX7_shadow_18 (Nat.le_of_ble_eq_true rfl) h (fun σ3 v4 h => ?_)
    refine v_if_ne 21 C 27 dX7_shadow_21 (by decide) h (fun h => ?_) (fun h => ?_)
    · refine v_iload_n 27 C 3 3 dX7_shadow_27 rfl rfl ?_
      refine v_if_lt 28 C 36 dX7_shadow_28 (by decide) h (fun h => ?_) (fun h => ?_)
      · exact v_sub [0] rfl (w_f_X7_shadow_j36 C h hK)
      · refine v_iload_n 31 C 3 3 dX7_shadow_31 rfl rfl ?_
        refine v_iconst 32 C (1 : Int32) dX7_shadow_32 (by decide) ?_
        refine v_icmp_le 33 C 39 dX7_shadow_33 (by decide) h (fun h => ?_) (fun h => ?_)
        · refine v_aload_n 39 C 0 0 dX7_shadow_39 rfl rfl ?_
          refine v_iload_n 40 C 1 1 dX7_shadow_40 rfl rfl ?_
          refine v_aload_n 41 C 0 0 dX7_shadow_41 rfl rfl ?_
          refine g_X7_0_2 42 C dX7_shadow_42 ?_
          refine g_X7_10_3 45 C dX7_shadow_45 ?_
          refine r_f_X7_showAt 48 C (by decide) q_532 dX7_shadow_48 (Nat.le_of_ble_eq_true rfl) h (fun σ5 h => ?_)
          refine v_iload_n 51 C 3 3 dX7_shadow_51 rfl rfl ?_
          refine v_if_ne 52 C 67 dX7_shadow_52 (by decide) h (fun h => ?_) (fun h => ?_)
          · refine v_aload_n 67 C 0 0 dX7_shadow_67 rfl rfl ?_
            refine g_X7_0_7 68 C dX7_shadow_68 ?_
            refine v_iload_n 71 C 2 2 dX7_shadow_71 rfl rfl ?_
            refine r_f_X5_almsOf_28 72 C (by decide) q_573 dX7_shadow_72 (Nat.le_of_ble_eq_true rfl) h (fun σ7 v8 h => ?_)
            exact v_sub [0] rfl (w_f_X7_shadow_j75 C h hK)
          · refine v_aload_n 55 C 0 0 dX7_shadow_55 rfl rfl ?_
            refine g_X7_0_7 56 C dX7_shadow_56 ?_
            refine g_X7_28_6 59 C dX7_shadow_59 ?_
            refine v_iload_n 62 C 2 2 dX7_shadow_62 rfl rfl ?_
            refine v_iald 63 C 31 (by decide) (ce_31 G) dX7_shadow_63 h (fun h => ?_)
            refine v_goto 64 C 75 dX7_shadow_64 (by decide) ?_
            exact v_sub [0] rfl (w_f_X7_shadow_j75 C h hK)
        · exact v_sub [0] rfl (w_f_X7_shadow_j36 C h hK)
    · exact v_sub [0] rfl (w_f_X7_shadow_j24 C h hK)
theorem c_f_X7_shadow (l : Launch) (G : Wld) (hG : GI G) (σ : Sto) (a1 : Int32) (a2 : Int32) (a3 : Int32) (y : Sto × Int32) (h : f_X7_shadow σ a1 a2 a3 = some y) : Ct l G yX7_shadow cX7_shadow 4 (some .int) 6 [.ref (G.1 0), .int a1, .int a2, .int a3] σ (some (.int y.2)) y.1 := by
  refine ct_intro RX7 hG (by decide) rfl (Nat.le_of_ble_eq_true rfl) (fun X hX C hK => ?_)
  subst hX
  exact w_f_X7_shadow C h hK
theorem r_f_X7_shadow {G : Wld} {X : Cxt} {own : String} {cc : ByteArray} {nL n : Nat} {σ : Sto} {lv : List (Nat × Value)} {st : List Value} {β : Type} {r : β} {F : Sto → Int32 → Option β} {a1 : Int32} {a2 : Int32} {a3 : Int32} {ix : Nat} (pc : Nat) (C : Cx G X own cc nL n) (hn : 6 < n) (h1 : Cond.methodLink own ix yX7_shadow ∈ lw_gd) (hd : decode cc pc = .ok (.invokevirtual ix, 3)) (hsum : (st.map fun v => v.category).sum ≤ 8) (h : bd2 (f_X7_shadow σ a1 a2 a3) F = some r) (kk : ∀ σ1 v, F σ1 v = some r → V G X nL σ1 lv (.int v :: st) (pc + 3)) : V G X nL σ lv (.int a3 :: .int a2 :: .int a1 :: .ref (G.1 0) :: st) pc := by
  obtain ⟨z, hz, h⟩ := bd2_some h
  exact v_callV pc C 0 3 [.int a1, .int a2, .int a3] st (c_f_X7_shadow (xl X) G C.2.2.2.2.2.2.1 _ _ _ _ _ hz) hn (by decide) (by decide) (ce_0 G _ _) rfl (by decide +kernel) rfl h1 q_529 q_530 q_59 q_531 rfl hsum hd (kk _ _ h)
-- f_X7_go
def f_X7_go_j29 (σ : Sto) : Option (Sto × Int32) :=
  some (σ, (-1000000001 : Int32))
def f_X7_go_j63 (σ : Sto) (x1 : Int32) (x2 : Int32) : Option (Sto × Int32) :=
  gd (inB x1 6) (bs (σ.1 11 (x1).toNatClampNeg) fun z6 => gd (inB x1 6) (bs (su σ 11 (x1).toNatClampNeg x2) fun σ7 => some (σ7, z6)))
def f_X7_go_j49 (σ : Sto) (x1 : Int32) (x2 : Int32) (s0 : Int32) : Option (Sto × Int32) :=
  bs s0 fun z5 => if z5 = (-1 : Int32) then (f_X7_go_j63 σ x1 x2) else (if z5 = x1 then (f_X7_go_j63 σ x1 x2) else (some (σ, (-1000000003 : Int32))))
def f_X7_go_j32 (σ : Sto) (x1 : Int32) (x2 : Int32) : Option (Sto × Int32) :=
  if x2 = (-1 : Int32) then (f_X7_go_j49 σ x1 x2 (-1 : Int32)) else (bd2 (f_X6_whoIsOn_10 σ x2) fun σ3 v4 => f_X7_go_j49 σ3 x1 x2 v4)
def f_X7_go (σ : Sto) (a1 : Int32) (a2 : Int32) : Option (Sto × Int32) :=
  bd2 (f_X2_has_1 σ (3 : Int32) a1) fun σ1 v2 => if v2 = 0 then (f_X7_go_j29 σ1) else (if a2 = (-1 : Int32) then (f_X7_go_j32 σ1 a1 a2) else (bd2 (f_X2_has_1 σ1 (2 : Int32) a2) fun σ8 v9 => if v9 = 0 then (f_X7_go_j29 σ8) else (f_X7_go_j32 σ8 a1 a2)))
theorem w_f_X7_go_j29 {G : Wld} {X : Cxt} (C : Cx G X RX7 cX7_go 5 2) {σ : Sto} {y : Sto × Int32} (h : f_X7_go_j29 σ = some y) (hK : Rx G X (some .int) (some (.int y.2)) y.1) : V G X 5 σ [(0, .ref (G.1 0))] [] 29 := by
  unfold f_X7_go_j29 at h
  refine v_ldc 29 C dX7_go_29 q_493 ?_
  cases h
  exact v_iret 31 C hK dX7_go_31
theorem w_f_X7_go_j63 {G : Wld} {X : Cxt} (C : Cx G X RX7 cX7_go 5 2) {σ : Sto} {x1 : Int32} {x2 : Int32} {y : Sto × Int32} (h : f_X7_go_j63 σ x1 x2 = some y) (hK : Rx G X (some .int) (some (.int y.2)) y.1) : V G X 5 σ [(0, .ref (G.1 0)), (1, .int x1), (2, .int x2)] [] 63 := by
  unfold f_X7_go_j63 at h
  refine v_aload_n 63 C 0 0 dX7_go_63 rfl rfl ?_
  refine g_X7_0_2 64 C dX7_go_64 ?_
  refine g_X7_10_0 67 C dX7_go_67 ?_
  refine v_iload_n 70 C 1 1 dX7_go_70 rfl rfl ?_
  refine v_iald 71 C 11 (by decide) (ce_11 G) dX7_go_71 h (fun h => ?_)
  refine b_istore 72 C 4 (lv2 := fun z6 => [(4, .int z6), (0, .ref (G.1 0)), (1, .int x1), (2, .int x2)]) dX7_go_72 (by decide) (fun _ => rfl) h (fun z6 h => ?_)
  refine v_aload_n 74 C 0 1 dX7_go_74 rfl rfl ?_
  refine g_X7_0_2 75 C dX7_go_75 ?_
  refine g_X7_10_0 78 C dX7_go_78 ?_
  refine v_iload_n 81 C 1 2 dX7_go_81 rfl rfl ?_
  refine v_iload_n 82 C 2 3 dX7_go_82 rfl rfl ?_
  refine b_iast 83 C 11 (by decide) (ce_11 G) dX7_go_83 h (fun σ7 h => ?_)
  refine v_iload 84 C 4 0 dX7_go_84 rfl ?_
  cases h
  exact v_iret 86 C hK dX7_go_86
theorem w_f_X7_go_j49 {G : Wld} {X : Cxt} (C : Cx G X RX7 cX7_go 5 2) {σ : Sto} {x1 : Int32} {x2 : Int32} {s0 : Int32} {y : Sto × Int32} (h : f_X7_go_j49 σ x1 x2 s0 = some y) (hK : Rx G X (some .int) (some (.int y.2)) y.1) : V G X 5 σ [(0, .ref (G.1 0)), (1, .int x1), (2, .int x2)] [.int s0] 49 := by
  unfold f_X7_go_j49 at h
  refine b_istore_n 49 C 3 (lv2 := fun z5 => [(3, .int z5), (0, .ref (G.1 0)), (1, .int x1), (2, .int x2)]) dX7_go_49 rfl (by decide) (fun _ => rfl) h (fun z5 h => ?_)
  refine v_iload_n 50 C 3 0 dX7_go_50 rfl rfl ?_
  refine v_iconst 51 C (-1 : Int32) dX7_go_51 (by decide) ?_
  refine v_icmp_eq 52 C 63 dX7_go_52 (by decide) h (fun h => ?_) (fun h => ?_)
  · exact v_sub [1, 2, 3] rfl (w_f_X7_go_j63 C h hK)
  · refine v_iload_n 55 C 3 0 dX7_go_55 rfl rfl ?_
    refine v_iload_n 56 C 1 2 dX7_go_56 rfl rfl ?_
    refine v_icmp_eq 57 C 63 dX7_go_57 (by decide) h (fun h => ?_) (fun h => ?_)
    · exact v_sub [1, 2, 3] rfl (w_f_X7_go_j63 C h hK)
    · refine v_ldc 60 C dX7_go_60 q_581 ?_
      cases h
      exact v_iret 62 C hK dX7_go_62
theorem w_f_X7_go_j32 {G : Wld} {X : Cxt} (C : Cx G X RX7 cX7_go 5 2) {σ : Sto} {x1 : Int32} {x2 : Int32} {y : Sto × Int32} (h : f_X7_go_j32 σ x1 x2 = some y) (hK : Rx G X (some .int) (some (.int y.2)) y.1) : V G X 5 σ [(0, .ref (G.1 0)), (1, .int x1), (2, .int x2)] [] 32 := by
  unfold f_X7_go_j32 at h
  refine v_iload_n 32 C 2 2 dX7_go_32 rfl rfl ?_
  refine v_iconst 33 C (-1 : Int32) dX7_go_33 (by decide) ?_
  refine v_icmp_ne 34 C 41 dX7_go_34 (by decide) h (fun h => ?_) (fun h => ?_)
  · refine v_aload_n 41 C 0 0 dX7_go_41 rfl rfl ?_
    refine g_X7_0_2 42 C dX7_go_42 ?_
    refine v_iload_n 45 C 2 2 dX7_go_45 rfl rfl ?_
    refine r_f_X6_whoIsOn_10 46 C (by decide) q_507 dX7_go_46 (Nat.le_of_ble_eq_true rfl) h (fun σ3 v4 h => ?_)
    exact v_sub [0, 1, 2] rfl (w_f_X7_go_j49 C h hK)
  · refine v_iconst 37 C (-1 : Int32) dX7_go_37 (by decide) ?_
    refine v_goto 38 C 49 dX7_go_38 (by decide) ?_
    exact v_sub [0, 1, 2] rfl (w_f_X7_go_j49 C h hK)
theorem w_f_X7_go {G : Wld} {X : Cxt} (C : Cx G X RX7 cX7_go 5 2) {σ : Sto} {a1 : Int32} {a2 : Int32} {y : Sto × Int32} (h : f_X7_go σ a1 a2 = some y) (hK : Rx G X (some .int) (some (.int y.2)) y.1) : V G X 5 σ [(0, .ref (G.1 0)), (1, .int a1), (2, .int a2)] [] 0 := by
  unfold f_X7_go at h
  refine v_aload_n 0 C 0 0 dX7_go_0 rfl rfl ?_
  refine g_X7_0_0 1 C dX7_go_1 ?_
  refine v_iconst 4 C (3 : Int32) dX7_go_4 (by decide) ?_
  refine v_iload_n 5 C 1 1 dX7_go_5 rfl rfl ?_
  refine r_f_X2_has_1 6 C (by decide) q_489 dX7_go_6 (Nat.le_of_ble_eq_true rfl) h (fun σ1 v2 h => ?_)
  refine v_if_eq 9 C 29 dX7_go_9 (by decide) h (fun h => ?_) (fun h => ?_)
  · exact v_sub [0] rfl (w_f_X7_go_j29 C h hK)
  · refine v_iload_n 12 C 2 2 dX7_go_12 rfl rfl ?_
    refine v_iconst 13 C (-1 : Int32) dX7_go_13 (by decide) ?_
    refine v_icmp_eq 14 C 32 dX7_go_14 (by decide) h (fun h => ?_) (fun h => ?_)
    · exact v_sub [0, 1, 2] rfl (w_f_X7_go_j32 C h hK)
    · refine v_aload_n 17 C 0 0 dX7_go_17 rfl rfl ?_
      refine g_X7_0_0 18 C dX7_go_18 ?_
      refine v_iconst 21 C (2 : Int32) dX7_go_21 (by decide) ?_
      refine v_iload_n 22 C 2 2 dX7_go_22 rfl rfl ?_
      refine r_f_X2_has_1 23 C (by decide) q_489 dX7_go_23 (Nat.le_of_ble_eq_true rfl) h (fun σ8 v9 h => ?_)
      refine v_if_ne 26 C 32 dX7_go_26 (by decide) h (fun h => ?_) (fun h => ?_)
      · exact v_sub [0, 1, 2] rfl (w_f_X7_go_j32 C h hK)
      · exact v_sub [0] rfl (w_f_X7_go_j29 C h hK)
theorem c_f_X7_go (l : Launch) (G : Wld) (hG : GI G) (σ : Sto) (a1 : Int32) (a2 : Int32) (y : Sto × Int32) (h : f_X7_go σ a1 a2 = some y) : Ct l G yX7_go cX7_go 5 (some .int) 2 [.ref (G.1 0), .int a1, .int a2] σ (some (.int y.2)) y.1 := by
  refine ct_intro RX7 hG (by decide) rfl (Nat.le_of_ble_eq_true rfl) (fun X hX C hK => ?_)
  subst hX
  exact w_f_X7_go C h hK
theorem r_f_X7_go {G : Wld} {X : Cxt} {own : String} {cc : ByteArray} {nL n : Nat} {σ : Sto} {lv : List (Nat × Value)} {st : List Value} {β : Type} {r : β} {F : Sto → Int32 → Option β} {a1 : Int32} {a2 : Int32} {ix : Nat} (pc : Nat) (C : Cx G X own cc nL n) (hn : 2 < n) (h1 : Cond.methodLink own ix yX7_go ∈ lw_gd) (hd : decode cc pc = .ok (.invokevirtual ix, 3)) (hsum : (st.map fun v => v.category).sum ≤ 8) (h : bd2 (f_X7_go σ a1 a2) F = some r) (kk : ∀ σ1 v, F σ1 v = some r → V G X nL σ1 lv (.int v :: st) (pc + 3)) : V G X nL σ lv (.int a2 :: .int a1 :: .ref (G.1 0) :: st) pc := by
  obtain ⟨z, hz, h⟩ := bd2_some h
  exact v_callV pc C 0 2 [.int a1, .int a2] st (c_f_X7_go (xl X) G C.2.2.2.2.2.2.1 _ _ _ _ hz) hn (by decide) (by decide) (ce_0 G _ _) rfl (by decide +kernel) rfl h1 q_578 q_579 q_59 q_580 rfl hsum hd (kk _ _ h)
-- f_X7_lend
def f_X7_lend_j29 (σ : Sto) : Option (Sto × Int32) :=
  some (σ, (-1000000001 : Int32))
def f_X7_lend_j63 (σ : Sto) (x1 : Int32) (x2 : Int32) : Option (Sto × Int32) :=
  gd (inB x1 4) (bs (σ.1 12 (x1).toNatClampNeg) fun z6 => gd (inB x1 4) (bs (su σ 12 (x1).toNatClampNeg x2) fun σ7 => some (σ7, z6)))
def f_X7_lend_j49 (σ : Sto) (x1 : Int32) (x2 : Int32) (s0 : Int32) : Option (Sto × Int32) :=
  bs s0 fun z5 => if z5 = (-1 : Int32) then (f_X7_lend_j63 σ x1 x2) else (if z5 = x1 then (f_X7_lend_j63 σ x1 x2) else (some (σ, (-1000000003 : Int32))))
def f_X7_lend_j32 (σ : Sto) (x1 : Int32) (x2 : Int32) : Option (Sto × Int32) :=
  if x2 = (-1 : Int32) then (f_X7_lend_j49 σ x1 x2 (-1 : Int32)) else (bd2 (f_X6_hatOf_10 σ x2) fun σ3 v4 => f_X7_lend_j49 σ3 x1 x2 v4)
def f_X7_lend (σ : Sto) (a1 : Int32) (a2 : Int32) : Option (Sto × Int32) :=
  bd2 (f_X2_has_1 σ (4 : Int32) a1) fun σ1 v2 => if v2 = 0 then (f_X7_lend_j29 σ1) else (if a2 = (-1 : Int32) then (f_X7_lend_j32 σ1 a1 a2) else (bd2 (f_X2_has_1 σ1 (3 : Int32) a2) fun σ8 v9 => if v9 = 0 then (f_X7_lend_j29 σ8) else (f_X7_lend_j32 σ8 a1 a2)))
theorem w_f_X7_lend_j29 {G : Wld} {X : Cxt} (C : Cx G X RX7 cX7_lend 5 2) {σ : Sto} {y : Sto × Int32} (h : f_X7_lend_j29 σ = some y) (hK : Rx G X (some .int) (some (.int y.2)) y.1) : V G X 5 σ [(0, .ref (G.1 0))] [] 29 := by
  unfold f_X7_lend_j29 at h
  refine v_ldc 29 C dX7_lend_29 q_493 ?_
  cases h
  exact v_iret 31 C hK dX7_lend_31
theorem w_f_X7_lend_j63 {G : Wld} {X : Cxt} (C : Cx G X RX7 cX7_lend 5 2) {σ : Sto} {x1 : Int32} {x2 : Int32} {y : Sto × Int32} (h : f_X7_lend_j63 σ x1 x2 = some y) (hK : Rx G X (some .int) (some (.int y.2)) y.1) : V G X 5 σ [(0, .ref (G.1 0)), (1, .int x1), (2, .int x2)] [] 63 := by
  unfold f_X7_lend_j63 at h
  refine v_aload_n 63 C 0 0 dX7_lend_63 rfl rfl ?_
  refine g_X7_0_2 64 C dX7_lend_64 ?_
  refine g_X7_10_1 67 C dX7_lend_67 ?_
  refine v_iload_n 70 C 1 1 dX7_lend_70 rfl rfl ?_
  refine v_iald 71 C 12 (by decide) (ce_12 G) dX7_lend_71 h (fun h => ?_)
  refine b_istore 72 C 4 (lv2 := fun z6 => [(4, .int z6), (0, .ref (G.1 0)), (1, .int x1), (2, .int x2)]) dX7_lend_72 (by decide) (fun _ => rfl) h (fun z6 h => ?_)
  refine v_aload_n 74 C 0 1 dX7_lend_74 rfl rfl ?_
  refine g_X7_0_2 75 C dX7_lend_75 ?_
  refine g_X7_10_1 78 C dX7_lend_78 ?_
  refine v_iload_n 81 C 1 2 dX7_lend_81 rfl rfl ?_
  refine v_iload_n 82 C 2 3 dX7_lend_82 rfl rfl ?_
  refine b_iast 83 C 12 (by decide) (ce_12 G) dX7_lend_83 h (fun σ7 h => ?_)
  refine v_iload 84 C 4 0 dX7_lend_84 rfl ?_
  cases h
  exact v_iret 86 C hK dX7_lend_86
theorem w_f_X7_lend_j49 {G : Wld} {X : Cxt} (C : Cx G X RX7 cX7_lend 5 2) {σ : Sto} {x1 : Int32} {x2 : Int32} {s0 : Int32} {y : Sto × Int32} (h : f_X7_lend_j49 σ x1 x2 s0 = some y) (hK : Rx G X (some .int) (some (.int y.2)) y.1) : V G X 5 σ [(0, .ref (G.1 0)), (1, .int x1), (2, .int x2)] [.int s0] 49 := by
  unfold f_X7_lend_j49 at h
  refine b_istore_n 49 C 3 (lv2 := fun z5 => [(3, .int z5), (0, .ref (G.1 0)), (1, .int x1), (2, .int x2)]) dX7_lend_49 rfl (by decide) (fun _ => rfl) h (fun z5 h => ?_)
  refine v_iload_n 50 C 3 0 dX7_lend_50 rfl rfl ?_
  refine v_iconst 51 C (-1 : Int32) dX7_lend_51 (by decide) ?_
  refine v_icmp_eq 52 C 63 dX7_lend_52 (by decide) h (fun h => ?_) (fun h => ?_)
  · exact v_sub [1, 2, 3] rfl (w_f_X7_lend_j63 C h hK)
  · refine v_iload_n 55 C 3 0 dX7_lend_55 rfl rfl ?_
    refine v_iload_n 56 C 1 2 dX7_lend_56 rfl rfl ?_
    refine v_icmp_eq 57 C 63 dX7_lend_57 (by decide) h (fun h => ?_) (fun h => ?_)
    · exact v_sub [1, 2, 3] rfl (w_f_X7_lend_j63 C h hK)
    · refine v_ldc 60 C dX7_lend_60 q_581 ?_
      cases h
      exact v_iret 62 C hK dX7_lend_62
theorem w_f_X7_lend_j32 {G : Wld} {X : Cxt} (C : Cx G X RX7 cX7_lend 5 2) {σ : Sto} {x1 : Int32} {x2 : Int32} {y : Sto × Int32} (h : f_X7_lend_j32 σ x1 x2 = some y) (hK : Rx G X (some .int) (some (.int y.2)) y.1) : V G X 5 σ [(0, .ref (G.1 0)), (1, .int x1), (2, .int x2)] [] 32 := by
  unfold f_X7_lend_j32 at h
  refine v_iload_n 32 C 2 2 dX7_lend_32 rfl rfl ?_
  refine v_iconst 33 C (-1 : Int32) dX7_lend_33 (by decide) ?_
  refine v_icmp_ne 34 C 41 dX7_lend_34 (by decide) h (fun h => ?_) (fun h => ?_)
  · refine v_aload_n 41 C 0 0 dX7_lend_41 rfl rfl ?_
    refine g_X7_0_2 42 C dX7_lend_42 ?_
    refine v_iload_n 45 C 2 2 dX7_lend_45 rfl rfl ?_
    refine r_f_X6_hatOf_10 46 C (by decide) q_516 dX7_lend_46 (Nat.le_of_ble_eq_true rfl) h (fun σ3 v4 h => ?_)
    exact v_sub [0, 1, 2] rfl (w_f_X7_lend_j49 C h hK)
  · refine v_iconst 37 C (-1 : Int32) dX7_lend_37 (by decide) ?_
    refine v_goto 38 C 49 dX7_lend_38 (by decide) ?_
    exact v_sub [0, 1, 2] rfl (w_f_X7_lend_j49 C h hK)
theorem w_f_X7_lend {G : Wld} {X : Cxt} (C : Cx G X RX7 cX7_lend 5 2) {σ : Sto} {a1 : Int32} {a2 : Int32} {y : Sto × Int32} (h : f_X7_lend σ a1 a2 = some y) (hK : Rx G X (some .int) (some (.int y.2)) y.1) : V G X 5 σ [(0, .ref (G.1 0)), (1, .int a1), (2, .int a2)] [] 0 := by
  unfold f_X7_lend at h
  refine v_aload_n 0 C 0 0 dX7_lend_0 rfl rfl ?_
  refine g_X7_0_0 1 C dX7_lend_1 ?_
  refine v_iconst 4 C (4 : Int32) dX7_lend_4 (by decide) ?_
  refine v_iload_n 5 C 1 1 dX7_lend_5 rfl rfl ?_
  refine r_f_X2_has_1 6 C (by decide) q_489 dX7_lend_6 (Nat.le_of_ble_eq_true rfl) h (fun σ1 v2 h => ?_)
  refine v_if_eq 9 C 29 dX7_lend_9 (by decide) h (fun h => ?_) (fun h => ?_)
  · exact v_sub [0] rfl (w_f_X7_lend_j29 C h hK)
  · refine v_iload_n 12 C 2 2 dX7_lend_12 rfl rfl ?_
    refine v_iconst 13 C (-1 : Int32) dX7_lend_13 (by decide) ?_
    refine v_icmp_eq 14 C 32 dX7_lend_14 (by decide) h (fun h => ?_) (fun h => ?_)
    · exact v_sub [0, 1, 2] rfl (w_f_X7_lend_j32 C h hK)
    · refine v_aload_n 17 C 0 0 dX7_lend_17 rfl rfl ?_
      refine g_X7_0_0 18 C dX7_lend_18 ?_
      refine v_iconst 21 C (3 : Int32) dX7_lend_21 (by decide) ?_
      refine v_iload_n 22 C 2 2 dX7_lend_22 rfl rfl ?_
      refine r_f_X2_has_1 23 C (by decide) q_489 dX7_lend_23 (Nat.le_of_ble_eq_true rfl) h (fun σ8 v9 h => ?_)
      refine v_if_ne 26 C 32 dX7_lend_26 (by decide) h (fun h => ?_) (fun h => ?_)
      · exact v_sub [0, 1, 2] rfl (w_f_X7_lend_j32 C h hK)
      · exact v_sub [0] rfl (w_f_X7_lend_j29 C h hK)
theorem c_f_X7_lend (l : Launch) (G : Wld) (hG : GI G) (σ : Sto) (a1 : Int32) (a2 : Int32) (y : Sto × Int32) (h : f_X7_lend σ a1 a2 = some y) : Ct l G yX7_lend cX7_lend 5 (some .int) 2 [.ref (G.1 0), .int a1, .int a2] σ (some (.int y.2)) y.1 := by
  refine ct_intro RX7 hG (by decide) rfl (Nat.le_of_ble_eq_true rfl) (fun X hX C hK => ?_)
  subst hX
  exact w_f_X7_lend C h hK
theorem r_f_X7_lend {G : Wld} {X : Cxt} {own : String} {cc : ByteArray} {nL n : Nat} {σ : Sto} {lv : List (Nat × Value)} {st : List Value} {β : Type} {r : β} {F : Sto → Int32 → Option β} {a1 : Int32} {a2 : Int32} {ix : Nat} (pc : Nat) (C : Cx G X own cc nL n) (hn : 2 < n) (h1 : Cond.methodLink own ix yX7_lend ∈ lw_gd) (hd : decode cc pc = .ok (.invokevirtual ix, 3)) (hsum : (st.map fun v => v.category).sum ≤ 8) (h : bd2 (f_X7_lend σ a1 a2) F = some r) (kk : ∀ σ1 v, F σ1 v = some r → V G X nL σ1 lv (.int v :: st) (pc + 3)) : V G X nL σ lv (.int a2 :: .int a1 :: .ref (G.1 0) :: st) pc := by
  obtain ⟨z, hz, h⟩ := bd2_some h
  exact v_callV pc C 0 2 [.int a1, .int a2] st (c_f_X7_lend (xl X) G C.2.2.2.2.2.2.1 _ _ _ _ hz) hn (by decide) (by decide) (ce_0 G _ _) rfl (by decide +kernel) rfl h1 q_583 q_584 q_59 q_585 rfl hsum hd (kk _ _ h)
-- f_X7_law
def f_X7_law_j9 (σ : Sto) : Option (Sto × Int32) :=
  some (σ, (-1000000002 : Int32))
def f_X7_law (σ : Sto) (a1 : Int32) : Option (Sto × Int32) :=
  if a1 < 0 then (f_X7_law_j9 σ) else (if a1 ≤ (2 : Int32) then (bs (σ.1 10 5) fun z1 => bs (su σ 10 5 a1) fun σ2 => some (σ2, z1)) else (f_X7_law_j9 σ))
theorem w_f_X7_law_j9 {G : Wld} {X : Cxt} (C : Cx G X RX7 cX7_law 3 1) {σ : Sto} {y : Sto × Int32} (h : f_X7_law_j9 σ = some y) (hK : Rx G X (some .int) (some (.int y.2)) y.1) : V G X 3 σ [(0, .ref (G.1 0))] [] 9 := by
  unfold f_X7_law_j9 at h
  refine v_ldc 9 C dX7_law_9 q_323 ?_
  cases h
  exact v_iret 11 C hK dX7_law_11
theorem w_f_X7_law {G : Wld} {X : Cxt} (C : Cx G X RX7 cX7_law 3 1) {σ : Sto} {a1 : Int32} {y : Sto × Int32} (h : f_X7_law σ a1 = some y) (hK : Rx G X (some .int) (some (.int y.2)) y.1) : V G X 3 σ [(0, .ref (G.1 0)), (1, .int a1)] [] 0 := by
  unfold f_X7_law at h
  refine v_iload_n 0 C 1 1 dX7_law_0 rfl rfl ?_
  refine v_if_lt 1 C 9 dX7_law_1 (by decide) h (fun h => ?_) (fun h => ?_)
  · exact v_sub [0] rfl (w_f_X7_law_j9 C h hK)
  · refine v_iload_n 4 C 1 1 dX7_law_4 rfl rfl ?_
    refine v_iconst 5 C (2 : Int32) dX7_law_5 (by decide) ?_
    refine v_icmp_le 6 C 12 dX7_law_6 (by decide) h (fun h => ?_) (fun h => ?_)
    · refine v_aload_n 12 C 0 0 dX7_law_12 rfl rfl ?_
      refine g_X7_0_2 13 C dX7_law_13 ?_
      refine g_X7_10_5 16 C dX7_law_16 ?_
      refine b_istore_n 19 C 2 (lv2 := fun z1 => [(2, .int z1), (0, .ref (G.1 0)), (1, .int a1)]) dX7_law_19 rfl (by decide) (fun _ => rfl) h (fun z1 h => ?_)
      refine v_aload_n 20 C 0 1 dX7_law_20 rfl rfl ?_
      refine g_X7_0_2 21 C dX7_law_21 ?_
      refine v_iload_n 24 C 1 2 dX7_law_24 rfl rfl ?_
      refine p_X7_10_5 25 C dX7_law_25 h (fun σ2 h => ?_)
      refine v_iload_n 28 C 2 0 dX7_law_28 rfl rfl ?_
      cases h
      exact v_iret 29 C hK dX7_law_29
    · exact v_sub [0] rfl (w_f_X7_law_j9 C h hK)
theorem c_f_X7_law (l : Launch) (G : Wld) (hG : GI G) (σ : Sto) (a1 : Int32) (y : Sto × Int32) (h : f_X7_law σ a1 = some y) : Ct l G yX7_law cX7_law 3 (some .int) 1 [.ref (G.1 0), .int a1] σ (some (.int y.2)) y.1 := by
  refine ct_intro RX7 hG (by decide) rfl (Nat.le_of_ble_eq_true rfl) (fun X hX C hK => ?_)
  subst hX
  exact w_f_X7_law C h hK
theorem r_f_X7_law {G : Wld} {X : Cxt} {own : String} {cc : ByteArray} {nL n : Nat} {σ : Sto} {lv : List (Nat × Value)} {st : List Value} {β : Type} {r : β} {F : Sto → Int32 → Option β} {a1 : Int32} {ix : Nat} (pc : Nat) (C : Cx G X own cc nL n) (hn : 1 < n) (h1 : Cond.methodLink own ix yX7_law ∈ lw_gd) (hd : decode cc pc = .ok (.invokevirtual ix, 3)) (hsum : (st.map fun v => v.category).sum ≤ 8) (h : bd2 (f_X7_law σ a1) F = some r) (kk : ∀ σ1 v, F σ1 v = some r → V G X nL σ1 lv (.int v :: st) (pc + 3)) : V G X nL σ lv (.int a1 :: .ref (G.1 0) :: st) pc := by
  obtain ⟨z, hz, h⟩ := bd2_some h
  exact v_callV pc C 0 1 [.int a1] st (c_f_X7_law (xl X) G C.2.2.2.2.2.2.1 _ _ _ hz) hn (by decide) (by decide) (ce_0 G _ _) rfl (by decide +kernel) rfl h1 q_587 q_588 q_59 q_589 rfl hsum hd (kk _ _ h)
-- f_X7_giveAt
def f_X7_giveAt_l16 (σ : Sto) (x2 : Int32) (x3 : Int32) : Option ((Sto × Int32 × Int32) ⊕ (Sto × Int32 × Int32)) :=
  bd2 (f_X2_count_1 σ (3 : Int32)) fun σ5 v6 => if v6 ≤ x3 then (some (.inr (σ5, x2, x3))) else (gd (inB x3 6) (bd2 (f_X5_almsOf_28 σ5 x3) fun σ7 v8 => gd (inB x3 6) (bs (su σ7 13 (x3).toNatClampNeg (iMin (999999999 : Int32) ((σ5.1 13 (x3).toNatClampNeg) + v8))) fun σ9 => gd (inB x3 7) (bs (x2 + (σ9.1 32 (x3).toNatClampNeg)) fun z10 => bs (x3 + (1 : Int32)) fun z11 => some (.inl (σ9, z10, z11))))))
def f_X7_giveAt (σ : Sto) (a1 : Int32) : Option (Sto × Int32) :=
  bd1 (f_X7_showAt σ a1 (σ.1 10 3)) fun σ1 => bs (0 : Int32) fun z3 => bs (0 : Int32) fun z4 => bE2 (lpF (fun t => f_X7_giveAt_l16 t.1 t.2.1 t.2.2) FU (σ1, z3, z4)) (fun σ12 z13 z14 => bs (su σ12 10 4 (iMin (999999999 : Int32) ((σ12.1 10 4) + z13))) fun σ16 => some (σ16, z13))
theorem w_f_X7_giveAt_l16 {G : Wld} {X : Cxt} (C : Cx G X RX7 cX7_giveAt 4 6) {σ : Sto} {x2 : Int32} {x3 : Int32} {y : (Sto × Int32 × Int32) ⊕ (Sto × Int32 × Int32)} (h : f_X7_giveAt_l16 σ x2 x3 = some y) (hc : ∀ t : Sto × Int32 × Int32, y = .inl t → V G X 4 t.1 [(0, .ref (G.1 0)), (2, .int t.2.1), (3, .int t.2.2)] [] 16) {Ve : Sto × Int32 × Int32 → Prop} (he : ∀ e, y = .inr e → Ve e) (hx : ∀ (σ : Sto) (x2 : Int32) (x3 : Int32), Ve (σ, x2, x3) → V G X 4 σ [(0, .ref (G.1 0)), (2, .int x2), (3, .int x3)] [] 78) : V G X 4 σ [(0, .ref (G.1 0)), (2, .int x2), (3, .int x3)] [] 16 := by
  unfold f_X7_giveAt_l16 at h
  refine v_iload_n 16 C 3 2 dX7_giveAt_16 rfl rfl ?_
  refine v_aload_n 17 C 0 0 dX7_giveAt_17 rfl rfl ?_
  refine g_X7_0_0 18 C dX7_giveAt_18 ?_
  refine v_iconst 21 C (3 : Int32) dX7_giveAt_21 (by decide) ?_
  refine r_f_X2_count_1 22 C (by decide) q_464 dX7_giveAt_22 (Nat.le_of_ble_eq_true rfl) h (fun σ5 v6 h => ?_)
  refine v_icmp_ge 25 C 78 dX7_giveAt_25 (by decide) h (fun h => ?_) (fun h => ?_)
  · exact v_sub [0, 1, 2] rfl (hx _ _ _ (he _ (Option.some.inj h).symm))
  · refine v_aload_n 28 C 0 0 dX7_giveAt_28 rfl rfl ?_
    refine g_X7_0_2 29 C dX7_giveAt_29 ?_
    refine g_X7_10_2 32 C dX7_giveAt_32 ?_
    refine v_iload_n 35 C 3 2 dX7_giveAt_35 rfl rfl ?_
    refine v_ldc 36 C dX7_giveAt_36 q_598 ?_
    refine v_aload_n 38 C 0 0 dX7_giveAt_38 rfl rfl ?_
    refine g_X7_0_2 39 C dX7_giveAt_39 ?_
    refine g_X7_10_2 42 C dX7_giveAt_42 ?_
    refine v_iload_n 45 C 3 2 dX7_giveAt_45 rfl rfl ?_
    refine v_iald 46 C 13 (by decide) (ce_13 G) dX7_giveAt_46 h (fun h => ?_)
    refine v_aload_n 47 C 0 0 dX7_giveAt_47 rfl rfl ?_
    refine g_X7_0_7 48 C dX7_giveAt_48 ?_
    refine v_iload_n 51 C 3 2 dX7_giveAt_51 rfl rfl ?_
    refine r_f_X5_almsOf_28 52 C (by decide) q_573 dX7_giveAt_52 (Nat.le_of_ble_eq_true rfl) h (fun σ7 v8 h => ?_)
    refine v_iadd 55 C dX7_giveAt_55 ?_
    refine v_min 56 C q_599 q_501 q_74 q_502 (Nat.le_of_ble_eq_true rfl) (by decide) dX7_giveAt_56 ?_
    refine b_iast 59 C 13 (by decide) (ce_13 G) dX7_giveAt_59 h (fun σ9 h => ?_)
    refine v_iload_n 60 C 2 1 dX7_giveAt_60 rfl rfl ?_
    refine v_aload_n 61 C 0 0 dX7_giveAt_61 rfl rfl ?_
    refine g_X7_0_7 62 C dX7_giveAt_62 ?_
    refine g_X7_28_7 65 C dX7_giveAt_65 ?_
    refine v_iload_n 68 C 3 2 dX7_giveAt_68 rfl rfl ?_
    refine v_iald 69 C 32 (by decide) (ce_32 G) dX7_giveAt_69 h (fun h => ?_)
    refine v_iadd 70 C dX7_giveAt_70 ?_
    refine b_istore_n 71 C 2 (lv2 := fun z10 => [(2, .int z10), (0, .ref (G.1 0)), (3, .int x3)]) dX7_giveAt_71 rfl (by decide) (fun _ => rfl) h (fun z10 h => ?_)
    refine b_iinc 72 C 3 2 (1 : Int32) (lv2 := fun z11 => [(3, .int z11), (2, .int z10), (0, .ref (G.1 0))]) dX7_giveAt_72 rfl (by decide) (by decide) (fun _ => rfl) h (fun z11 h => ?_)
    refine v_goto 75 C 16 dX7_giveAt_75 (by decide) ?_
    exact v_sub [2, 1, 0] rfl (hc _ (Option.some.inj h).symm)
theorem w_f_X7_giveAt {G : Wld} {X : Cxt} (C : Cx G X RX7 cX7_giveAt 4 6) {σ : Sto} {a1 : Int32} {y : Sto × Int32} (h : f_X7_giveAt σ a1 = some y) (hK : Rx G X (some .int) (some (.int y.2)) y.1) : V G X 4 σ [(0, .ref (G.1 0)), (1, .int a1)] [] 0 := by
  unfold f_X7_giveAt at h
  refine v_aload_n 0 C 0 0 dX7_giveAt_0 rfl rfl ?_
  refine v_iload_n 1 C 1 1 dX7_giveAt_1 rfl rfl ?_
  refine v_aload_n 2 C 0 0 dX7_giveAt_2 rfl rfl ?_
  refine g_X7_0_2 3 C dX7_giveAt_3 ?_
  refine g_X7_10_3 6 C dX7_giveAt_6 ?_
  refine r_f_X7_showAt 9 C (by decide) q_532 dX7_giveAt_9 (Nat.le_of_ble_eq_true rfl) h (fun σ1 h => ?_)
  refine v_iconst 12 C (0 : Int32) dX7_giveAt_12 (by decide) ?_
  refine b_istore_n 13 C 2 (lv2 := fun z3 => [(2, .int z3), (0, .ref (G.1 0)), (1, .int a1)]) dX7_giveAt_13 rfl (by decide) (fun _ => rfl) h (fun z3 h => ?_)
  refine v_iconst 14 C (0 : Int32) dX7_giveAt_14 (by decide) ?_
  refine b_istore_n 15 C 3 (lv2 := fun z4 => [(3, .int z4), (2, .int z3), (0, .ref (G.1 0)), (1, .int a1)]) dX7_giveAt_15 rfl (by decide) (fun _ => rfl) h (fun z4 h => ?_)
  refine v_sub [2, 1, 0] rfl ?_
  refine lp_go (Vh := fun t => V G X 4 t.1 [(0, .ref (G.1 0)), (2, .int t.2.1), (3, .int t.2.2)] [] 16) h ?_
  intro t15 y15 hy15 hc15 he15
  refine w_f_X7_giveAt_l16 C hy15 hc15 he15 (fun σ12 z13 z14 h => ?_)
  dsimp only at h
  refine v_aload_n 78 C 0 0 dX7_giveAt_78 rfl rfl ?_
  refine g_X7_0_2 79 C dX7_giveAt_79 ?_
  refine v_ldc 82 C dX7_giveAt_82 q_598 ?_
  refine v_aload_n 84 C 0 0 dX7_giveAt_84 rfl rfl ?_
  refine g_X7_0_2 85 C dX7_giveAt_85 ?_
  refine g_X7_10_4 88 C dX7_giveAt_88 ?_
  refine v_iload_n 91 C 2 1 dX7_giveAt_91 rfl rfl ?_
  refine v_iadd 92 C dX7_giveAt_92 ?_
  refine v_min 93 C q_599 q_501 q_74 q_502 (Nat.le_of_ble_eq_true rfl) (by decide) dX7_giveAt_93 ?_
  refine p_X7_10_4 96 C dX7_giveAt_96 h (fun σ16 h => ?_)
  refine v_iload_n 99 C 2 1 dX7_giveAt_99 rfl rfl ?_
  cases h
  exact v_iret 100 C hK dX7_giveAt_100
theorem c_f_X7_giveAt (l : Launch) (G : Wld) (hG : GI G) (σ : Sto) (a1 : Int32) (y : Sto × Int32) (h : f_X7_giveAt σ a1 = some y) : Ct l G yX7_giveAt cX7_giveAt 4 (some .int) 6 [.ref (G.1 0), .int a1] σ (some (.int y.2)) y.1 := by
  refine ct_intro RX7 hG (by decide) rfl (Nat.le_of_ble_eq_true rfl) (fun X hX C hK => ?_)
  subst hX
  exact w_f_X7_giveAt C h hK
theorem r_f_X7_giveAt {G : Wld} {X : Cxt} {own : String} {cc : ByteArray} {nL n : Nat} {σ : Sto} {lv : List (Nat × Value)} {st : List Value} {β : Type} {r : β} {F : Sto → Int32 → Option β} {a1 : Int32} {ix : Nat} (pc : Nat) (C : Cx G X own cc nL n) (hn : 6 < n) (h1 : Cond.methodLink own ix yX7_giveAt ∈ lw_gd) (hd : decode cc pc = .ok (.invokevirtual ix, 3)) (hsum : (st.map fun v => v.category).sum ≤ 8) (h : bd2 (f_X7_giveAt σ a1) F = some r) (kk : ∀ σ1 v, F σ1 v = some r → V G X nL σ1 lv (.int v :: st) (pc + 3)) : V G X nL σ lv (.int a1 :: .ref (G.1 0) :: st) pc := by
  obtain ⟨z, hz, h⟩ := bd2_some h
  exact v_callV pc C 0 1 [.int a1] st (c_f_X7_giveAt (xl X) G C.2.2.2.2.2.2.1 _ _ _ hz) hn (by decide) (by decide) (ce_0 G _ _) rfl (by decide +kernel) rfl h1 q_596 q_14 q_59 q_597 rfl hsum hd (kk _ _ h)
-- f_X7_ring
def f_X7_ring_j22 (σ : Sto) (s0 : Int32) : Option (Sto × Int32) :=
  some (σ, s0)
def f_X7_ring (σ : Sto) (a1 : Int32) : Option (Sto × Int32) :=
  bd2 (f_X2_has_1 σ (1 : Int32) a1) fun σ1 v2 => if v2 = 0 then (f_X7_ring_j22 σ1 (-1000000001 : Int32)) else (bd2 (f_X7_giveAt σ1 a1) fun σ3 v4 => f_X7_ring_j22 σ3 v4)
theorem w_f_X7_ring_j22 {G : Wld} {X : Cxt} (C : Cx G X RX7 cX7_ring 2 7) {σ : Sto} {s0 : Int32} {y : Sto × Int32} (h : f_X7_ring_j22 σ s0 = some y) (hK : Rx G X (some .int) (some (.int y.2)) y.1) : V G X 2 σ [(0, .ref (G.1 0))] [.int s0] 22 := by
  unfold f_X7_ring_j22 at h
  cases h
  exact v_iret 22 C hK dX7_ring_22
theorem w_f_X7_ring {G : Wld} {X : Cxt} (C : Cx G X RX7 cX7_ring 2 7) {σ : Sto} {a1 : Int32} {y : Sto × Int32} (h : f_X7_ring σ a1 = some y) (hK : Rx G X (some .int) (some (.int y.2)) y.1) : V G X 2 σ [(0, .ref (G.1 0)), (1, .int a1)] [] 0 := by
  unfold f_X7_ring at h
  refine v_aload_n 0 C 0 0 dX7_ring_0 rfl rfl ?_
  refine g_X7_0_0 1 C dX7_ring_1 ?_
  refine v_iconst 4 C (1 : Int32) dX7_ring_4 (by decide) ?_
  refine v_iload_n 5 C 1 1 dX7_ring_5 rfl rfl ?_
  refine r_f_X2_has_1 6 C (by decide) q_489 dX7_ring_6 (Nat.le_of_ble_eq_true rfl) h (fun σ1 v2 h => ?_)
  refine v_if_eq 9 C 20 dX7_ring_9 (by decide) h (fun h => ?_) (fun h => ?_)
  · refine v_ldc 20 C dX7_ring_20 q_493 ?_
    exact v_sub [0] rfl (w_f_X7_ring_j22 C h hK)
  · refine v_aload_n 12 C 0 0 dX7_ring_12 rfl rfl ?_
    refine v_iload_n 13 C 1 1 dX7_ring_13 rfl rfl ?_
    refine r_f_X7_giveAt 14 C (by decide) q_594 dX7_ring_14 (Nat.le_of_ble_eq_true rfl) h (fun σ3 v4 h => ?_)
    refine v_goto 17 C 22 dX7_ring_17 (by decide) ?_
    exact v_sub [0] rfl (w_f_X7_ring_j22 C h hK)
theorem c_f_X7_ring (l : Launch) (G : Wld) (hG : GI G) (σ : Sto) (a1 : Int32) (y : Sto × Int32) (h : f_X7_ring σ a1 = some y) : Ct l G yX7_ring cX7_ring 2 (some .int) 7 [.ref (G.1 0), .int a1] σ (some (.int y.2)) y.1 := by
  refine ct_intro RX7 hG (by decide) rfl (Nat.le_of_ble_eq_true rfl) (fun X hX C hK => ?_)
  subst hX
  exact w_f_X7_ring C h hK
theorem r_f_X7_ring {G : Wld} {X : Cxt} {own : String} {cc : ByteArray} {nL n : Nat} {σ : Sto} {lv : List (Nat × Value)} {st : List Value} {β : Type} {r : β} {F : Sto → Int32 → Option β} {a1 : Int32} {ix : Nat} (pc : Nat) (C : Cx G X own cc nL n) (hn : 7 < n) (h1 : Cond.methodLink own ix yX7_ring ∈ lw_gd) (hd : decode cc pc = .ok (.invokevirtual ix, 3)) (hsum : (st.map fun v => v.category).sum ≤ 8) (h : bd2 (f_X7_ring σ a1) F = some r) (kk : ∀ σ1 v, F σ1 v = some r → V G X nL σ1 lv (.int v :: st) (pc + 3)) : V G X nL σ lv (.int a1 :: .ref (G.1 0) :: st) pc := by
  obtain ⟨z, hz, h⟩ := bd2_some h
  exact v_callV pc C 0 1 [.int a1] st (c_f_X7_ring (xl X) G C.2.2.2.2.2.2.1 _ _ _ hz) hn (by decide) (by decide) (ce_0 G _ _) rfl (by decide +kernel) rfl h1 q_591 q_592 q_59 q_593 rfl hsum hd (kk _ _ h)
-- f_X7_day
def f_X7_day_j11 (σ : Sto) : Option (Sto × Int32) :=
  some (σ, (-1000000002 : Int32))
def f_X7_day (σ : Sto) (a1 : Int32) : Option (Sto × Int32) :=
  if a1 < (1 : Int32) then (f_X7_day_j11 σ) else (if a1 ≤ (99 : Int32) then (bs (su σ 10 3 ((σ.1 10 3) + a1)) fun σ1 => some (σ1, (σ1.1 10 3))) else (f_X7_day_j11 σ))
theorem w_f_X7_day_j11 {G : Wld} {X : Cxt} (C : Cx G X RX7 cX7_day 2 1) {σ : Sto} {y : Sto × Int32} (h : f_X7_day_j11 σ = some y) (hK : Rx G X (some .int) (some (.int y.2)) y.1) : V G X 2 σ [(0, .ref (G.1 0))] [] 11 := by
  unfold f_X7_day_j11 at h
  refine v_ldc 11 C dX7_day_11 q_323 ?_
  cases h
  exact v_iret 13 C hK dX7_day_13
theorem w_f_X7_day {G : Wld} {X : Cxt} (C : Cx G X RX7 cX7_day 2 1) {σ : Sto} {a1 : Int32} {y : Sto × Int32} (h : f_X7_day σ a1 = some y) (hK : Rx G X (some .int) (some (.int y.2)) y.1) : V G X 2 σ [(0, .ref (G.1 0)), (1, .int a1)] [] 0 := by
  unfold f_X7_day at h
  refine v_iload_n 0 C 1 1 dX7_day_0 rfl rfl ?_
  refine v_iconst 1 C (1 : Int32) dX7_day_1 (by decide) ?_
  refine v_icmp_lt 2 C 11 dX7_day_2 (by decide) h (fun h => ?_) (fun h => ?_)
  · exact v_sub [0] rfl (w_f_X7_day_j11 C h hK)
  · refine v_iload_n 5 C 1 1 dX7_day_5 rfl rfl ?_
    refine v_bipush 6 C (99 : Int32) dX7_day_6 (by decide) ?_
    refine v_icmp_le 8 C 14 dX7_day_8 (by decide) h (fun h => ?_) (fun h => ?_)
    · refine v_aload_n 14 C 0 0 dX7_day_14 rfl rfl ?_
      refine g_X7_0_2 15 C dX7_day_15 ?_
      refine v_dup 18 C dX7_day_18 rfl ?_
      refine g_X7_10_3 19 C dX7_day_19 ?_
      refine v_iload_n 22 C 1 1 dX7_day_22 rfl rfl ?_
      refine v_iadd 23 C dX7_day_23 ?_
      refine p_X7_10_3 24 C dX7_day_24 h (fun σ1 h => ?_)
      refine v_aload_n 27 C 0 0 dX7_day_27 rfl rfl ?_
      refine g_X7_0_2 28 C dX7_day_28 ?_
      refine g_X7_10_3 31 C dX7_day_31 ?_
      cases h
      exact v_iret 34 C hK dX7_day_34
    · exact v_sub [0] rfl (w_f_X7_day_j11 C h hK)
theorem c_f_X7_day (l : Launch) (G : Wld) (hG : GI G) (σ : Sto) (a1 : Int32) (y : Sto × Int32) (h : f_X7_day σ a1 = some y) : Ct l G yX7_day cX7_day 2 (some .int) 1 [.ref (G.1 0), .int a1] σ (some (.int y.2)) y.1 := by
  refine ct_intro RX7 hG (by decide) rfl (Nat.le_of_ble_eq_true rfl) (fun X hX C hK => ?_)
  subst hX
  exact w_f_X7_day C h hK
theorem r_f_X7_day {G : Wld} {X : Cxt} {own : String} {cc : ByteArray} {nL n : Nat} {σ : Sto} {lv : List (Nat × Value)} {st : List Value} {β : Type} {r : β} {F : Sto → Int32 → Option β} {a1 : Int32} {ix : Nat} (pc : Nat) (C : Cx G X own cc nL n) (hn : 1 < n) (h1 : Cond.methodLink own ix yX7_day ∈ lw_gd) (hd : decode cc pc = .ok (.invokevirtual ix, 3)) (hsum : (st.map fun v => v.category).sum ≤ 8) (h : bd2 (f_X7_day σ a1) F = some r) (kk : ∀ σ1 v, F σ1 v = some r → V G X nL σ1 lv (.int v :: st) (pc + 3)) : V G X nL σ lv (.int a1 :: .ref (G.1 0) :: st) pc := by
  obtain ⟨z, hz, h⟩ := bd2_some h
  exact v_callV pc C 0 1 [.int a1] st (c_f_X7_day (xl X) G C.2.2.2.2.2.2.1 _ _ _ hz) hn (by decide) (by decide) (ce_0 G _ _) rfl (by decide +kernel) rfl h1 q_601 q_602 q_59 q_603 rfl hsum hd (kk _ _ h)
-- f_X6_draw_10
def f_X6_draw_10_j40 (σ : Sto) (s0 : Int32) : Option (Sto × Int32) :=
  some (σ, s0)
def f_X6_draw_10 (σ : Sto) (a1 : Int32) : Option (Sto × Int32) :=
  bs (su σ 10 6 ((((((σ.1 10 6)).toInt64 * (1103515245 : Int64)) + (12345 : Int64)) &&& (2147483647 : Int64))).toInt32) fun σ1 => if (1 : Int32) ≤ a1 then (gd (nzI (65536 : Int32)) (gd (nzI a1) (f_X6_draw_10_j40 σ1 (iR ((σ1.1 10 6) / (65536 : Int32)) a1)))) else (f_X6_draw_10_j40 σ1 (0 : Int32))
theorem w_f_X6_draw_10_j40 {G : Wld} {X : Cxt} (C : Cx G X RX6 cX6_draw 2 1) {σ : Sto} {s0 : Int32} {y : Sto × Int32} (h : f_X6_draw_10_j40 σ s0 = some y) (hK : Rx G X (some .int) (some (.int y.2)) y.1) : V G X 2 σ [(0, .ref (G.1 10))] [.int s0] 40 := by
  unfold f_X6_draw_10_j40 at h
  cases h
  exact v_iret 40 C hK dX6_draw_40
theorem w_f_X6_draw_10 {G : Wld} {X : Cxt} (C : Cx G X RX6 cX6_draw 2 1) {σ : Sto} {a1 : Int32} {y : Sto × Int32} (h : f_X6_draw_10 σ a1 = some y) (hK : Rx G X (some .int) (some (.int y.2)) y.1) : V G X 2 σ [(0, .ref (G.1 10)), (1, .int a1)] [] 0 := by
  unfold f_X6_draw_10 at h
  refine v_aload_n 0 C 0 0 dX6_draw_0 rfl rfl ?_
  refine v_aload_n 1 C 0 0 dX6_draw_1 rfl rfl ?_
  refine g_X6_10_6 2 C dX6_draw_2 ?_
  refine v_i2l 5 C dX6_draw_5 ?_
  refine v_ldc2_w 6 C dX6_draw_6 q_616 ?_
  refine v_lmul 9 C dX6_draw_9 ?_
  refine v_ldc2_w 10 C dX6_draw_10 q_617 ?_
  refine v_ladd 13 C dX6_draw_13 ?_
  refine v_ldc2_w 14 C dX6_draw_14 q_618 ?_
  refine v_land 17 C dX6_draw_17 ?_
  refine v_l2i 18 C dX6_draw_18 ?_
  refine p_X6_10_6 19 C dX6_draw_19 h (fun σ1 h => ?_)
  refine v_iload_n 22 C 1 1 dX6_draw_22 rfl rfl ?_
  refine v_iconst 23 C (1 : Int32) dX6_draw_23 (by decide) ?_
  refine v_icmp_ge 24 C 31 dX6_draw_24 (by decide) h (fun h => ?_) (fun h => ?_)
  · refine v_aload_n 31 C 0 0 dX6_draw_31 rfl rfl ?_
    refine g_X6_10_6 32 C dX6_draw_32 ?_
    refine v_ldc 35 C dX6_draw_35 q_619 ?_
    refine v_idiv 37 C dX6_draw_37 h (fun h => ?_)
    refine v_iload_n 38 C 1 1 dX6_draw_38 rfl rfl ?_
    refine v_irem 39 C dX6_draw_39 h (fun h => ?_)
    exact v_sub [0] rfl (w_f_X6_draw_10_j40 C h hK)
  · refine v_iconst 27 C (0 : Int32) dX6_draw_27 (by decide) ?_
    refine v_goto 28 C 40 dX6_draw_28 (by decide) ?_
    exact v_sub [0] rfl (w_f_X6_draw_10_j40 C h hK)
theorem c_f_X6_draw_10 (l : Launch) (G : Wld) (hG : GI G) (σ : Sto) (a1 : Int32) (y : Sto × Int32) (h : f_X6_draw_10 σ a1 = some y) : Ct l G yX6_draw cX6_draw 2 (some .int) 1 [.ref (G.1 10), .int a1] σ (some (.int y.2)) y.1 := by
  refine ct_intro RX6 hG (by decide) rfl (Nat.le_of_ble_eq_true rfl) (fun X hX C hK => ?_)
  subst hX
  exact w_f_X6_draw_10 C h hK
theorem r_f_X6_draw_10 {G : Wld} {X : Cxt} {own : String} {cc : ByteArray} {nL n : Nat} {σ : Sto} {lv : List (Nat × Value)} {st : List Value} {β : Type} {r : β} {F : Sto → Int32 → Option β} {a1 : Int32} {ix : Nat} (pc : Nat) (C : Cx G X own cc nL n) (hn : 1 < n) (h1 : Cond.methodLink own ix yX6_draw ∈ lw_gd) (hd : decode cc pc = .ok (.invokevirtual ix, 3)) (hsum : (st.map fun v => v.category).sum ≤ 8) (h : bd2 (f_X6_draw_10 σ a1) F = some r) (kk : ∀ σ1 v, F σ1 v = some r → V G X nL σ1 lv (.int v :: st) (pc + 3)) : V G X nL σ lv (.int a1 :: .ref (G.1 10) :: st) pc := by
  obtain ⟨z, hz, h⟩ := bd2_some h
  exact v_callV pc C 10 1 [.int a1] st (c_f_X6_draw_10 (xl X) G C.2.2.2.2.2.2.1 _ _ _ hz) hn (by decide) (by decide) (ce_10 G _ _) rfl (by decide +kernel) rfl h1 q_613 q_614 q_62 q_615 rfl hsum hd (kk _ _ h)
-- f_X7_passDayByDraws
def f_X7_passDayByDraws_j35 (σ : Sto) (x1 : Int32) (x2 : Int32) : Option ((Sto × Int32 × Int32) ⊕ (Sto × Int32 × Int32)) :=
  bs (x2 + (1 : Int32)) fun z7 => some (.inl (σ, x1, z7))
def f_X7_passDayByDraws_l4 (σ : Sto) (x1 : Int32) (x2 : Int32) : Option ((Sto × Int32 × Int32) ⊕ (Sto × Int32 × Int32)) :=
  bd2 (f_X2_count_1 σ (1 : Int32)) fun σ3 v4 => if v4 ≤ x2 then (some (.inr (σ3, x1, x2))) else (bd2 (f_X6_draw_10 σ3 (4 : Int32)) fun σ5 v6 => if v6 = 0 then (f_X7_passDayByDraws_j35 σ5 x1 x2) else (bd2 (f_X7_giveAt σ5 x2) fun σ8 v9 => bs (x1 + v9) fun z10 => f_X7_passDayByDraws_j35 σ8 z10 x2))
def f_X7_passDayByDraws_j120 (σ : Sto) (x1 : Int32) : Option (Sto × Int32) :=
  some (σ, x1)
def f_X7_passDayByDraws (σ : Sto) : Option (Sto × Int32) :=
  bs (0 : Int32) fun z1 => bs (0 : Int32) fun z2 => bE2 (lpF (fun t => f_X7_passDayByDraws_l4 t.1 t.2.1 t.2.2) FU (σ, z1, z2)) (fun σ11 z12 z13 => bs (su σ11 10 3 ((σ11.1 10 3) + (1 : Int32))) fun σ15 => bd2 (f_X2_count_1 σ15 (3 : Int32)) fun σ16 v17 => bd2 (f_X6_draw_10 σ16 v17) fun σ18 v19 => bs v19 fun z20 => bd2 (f_X2_count_1 σ18 (2 : Int32)) fun σ21 v22 => bd2 (f_X6_draw_10 σ21 v22) fun σ23 v24 => bs v24 fun z25 => bd2 (f_X2_has_1 σ23 (3 : Int32) z20) fun σ26 v27 => if v27 = 0 then (f_X7_passDayByDraws_j120 σ26 z12) else (bd2 (f_X6_whoIsOn_10 σ26 z25) fun σ28 v29 => if v29 = (-1 : Int32) then (gd (inB z20 6) (bs (su σ28 11 (z20).toNatClampNeg z25) fun σ30 => f_X7_passDayByDraws_j120 σ30 z12)) else (f_X7_passDayByDraws_j120 σ28 z12)))
theorem w_f_X7_passDayByDraws_j35 {G : Wld} {X : Cxt} (C : Cx G X RX7 cX7_passDayByDraws 4 7) {σ : Sto} {x1 : Int32} {x2 : Int32} {y : (Sto × Int32 × Int32) ⊕ (Sto × Int32 × Int32)} (h : f_X7_passDayByDraws_j35 σ x1 x2 = some y) (hc : ∀ t : Sto × Int32 × Int32, y = .inl t → V G X 4 t.1 [(0, .ref (G.1 0)), (1, .int t.2.1), (2, .int t.2.2)] [] 4) {Ve : Sto × Int32 × Int32 → Prop} (he : ∀ e, y = .inr e → Ve e) (hx : ∀ (σ : Sto) (x1 : Int32) (x2 : Int32), Ve (σ, x1, x2) → V G X 4 σ [(0, .ref (G.1 0)), (1, .int x1), (2, .int x2)] [] 41) : V G X 4 σ [(0, .ref (G.1 0)), (1, .int x1), (2, .int x2)] [] 35 := by
  unfold f_X7_passDayByDraws_j35 at h
  refine b_iinc 35 C 2 2 (1 : Int32) (lv2 := fun z7 => [(2, .int z7), (0, .ref (G.1 0)), (1, .int x1)]) dX7_passDayByDraws_35 rfl (by decide) (by decide) (fun _ => rfl) h (fun z7 h => ?_)
  refine v_goto 38 C 4 dX7_passDayByDraws_38 (by decide) ?_
  exact v_sub [1, 2, 0] rfl (hc _ (Option.some.inj h).symm)
theorem w_f_X7_passDayByDraws_l4 {G : Wld} {X : Cxt} (C : Cx G X RX7 cX7_passDayByDraws 4 7) {σ : Sto} {x1 : Int32} {x2 : Int32} {y : (Sto × Int32 × Int32) ⊕ (Sto × Int32 × Int32)} (h : f_X7_passDayByDraws_l4 σ x1 x2 = some y) (hc : ∀ t : Sto × Int32 × Int32, y = .inl t → V G X 4 t.1 [(0, .ref (G.1 0)), (1, .int t.2.1), (2, .int t.2.2)] [] 4) {Ve : Sto × Int32 × Int32 → Prop} (he : ∀ e, y = .inr e → Ve e) (hx : ∀ (σ : Sto) (x1 : Int32) (x2 : Int32), Ve (σ, x1, x2) → V G X 4 σ [(0, .ref (G.1 0)), (1, .int x1), (2, .int x2)] [] 41) : V G X 4 σ [(0, .ref (G.1 0)), (1, .int x1), (2, .int x2)] [] 4 := by
  unfold f_X7_passDayByDraws_l4 at h
  refine v_iload_n 4 C 2 2 dX7_passDayByDraws_4 rfl rfl ?_
  refine v_aload_n 5 C 0 0 dX7_passDayByDraws_5 rfl rfl ?_
  refine g_X7_0_0 6 C dX7_passDayByDraws_6 ?_
  refine v_iconst 9 C (1 : Int32) dX7_passDayByDraws_9 (by decide) ?_
  refine r_f_X2_count_1 10 C (by decide) q_464 dX7_passDayByDraws_10 (Nat.le_of_ble_eq_true rfl) h (fun σ3 v4 h => ?_)
  refine v_icmp_ge 13 C 41 dX7_passDayByDraws_13 (by decide) h (fun h => ?_) (fun h => ?_)
  · exact v_sub [0, 1, 2] rfl (hx _ _ _ (he _ (Option.some.inj h).symm))
  · refine v_aload_n 16 C 0 0 dX7_passDayByDraws_16 rfl rfl ?_
    refine g_X7_0_2 17 C dX7_passDayByDraws_17 ?_
    refine v_iconst 20 C (4 : Int32) dX7_passDayByDraws_20 (by decide) ?_
    refine r_f_X6_draw_10 21 C (by decide) q_612 dX7_passDayByDraws_21 (Nat.le_of_ble_eq_true rfl) h (fun σ5 v6 h => ?_)
    refine v_if_eq 24 C 35 dX7_passDayByDraws_24 (by decide) h (fun h => ?_) (fun h => ?_)
    · exact v_sub [0, 1, 2] rfl (w_f_X7_passDayByDraws_j35 C h hc he hx)
    · refine v_iload_n 27 C 1 1 dX7_passDayByDraws_27 rfl rfl ?_
      refine v_aload_n 28 C 0 0 dX7_passDayByDraws_28 rfl rfl ?_
      refine v_iload_n 29 C 2 2 dX7_passDayByDraws_29 rfl rfl ?_
      refine r_f_X7_giveAt 30 C (by decide) q_594 dX7_passDayByDraws_30 (Nat.le_of_ble_eq_true rfl) h (fun σ8 v9 h => ?_)
      refine v_iadd 33 C dX7_passDayByDraws_33 ?_
      refine b_istore_n 34 C 1 (lv2 := fun z10 => [(1, .int z10), (0, .ref (G.1 0)), (2, .int x2)]) dX7_passDayByDraws_34 rfl (by decide) (fun _ => rfl) h (fun z10 h => ?_)
      exact v_sub [1, 0, 2] rfl (w_f_X7_passDayByDraws_j35 C h hc he hx)
theorem w_f_X7_passDayByDraws_j120 {G : Wld} {X : Cxt} (C : Cx G X RX7 cX7_passDayByDraws 4 7) {σ : Sto} {x1 : Int32} {y : Sto × Int32} (h : f_X7_passDayByDraws_j120 σ x1 = some y) (hK : Rx G X (some .int) (some (.int y.2)) y.1) : V G X 4 σ [(0, .ref (G.1 0)), (1, .int x1)] [] 120 := by
  unfold f_X7_passDayByDraws_j120 at h
  refine v_iload_n 120 C 1 1 dX7_passDayByDraws_120 rfl rfl ?_
  cases h
  exact v_iret 121 C hK dX7_passDayByDraws_121
theorem w_f_X7_passDayByDraws {G : Wld} {X : Cxt} (C : Cx G X RX7 cX7_passDayByDraws 4 7) {σ : Sto} {y : Sto × Int32} (h : f_X7_passDayByDraws σ = some y) (hK : Rx G X (some .int) (some (.int y.2)) y.1) : V G X 4 σ [(0, .ref (G.1 0))] [] 0 := by
  unfold f_X7_passDayByDraws at h
  refine v_iconst 0 C (0 : Int32) dX7_passDayByDraws_0 (by decide) ?_
  refine b_istore_n 1 C 1 (lv2 := fun z1 => [(1, .int z1), (0, .ref (G.1 0))]) dX7_passDayByDraws_1 rfl (by decide) (fun _ => rfl) h (fun z1 h => ?_)
  refine v_iconst 2 C (0 : Int32) dX7_passDayByDraws_2 (by decide) ?_
  refine b_istore_n 3 C 2 (lv2 := fun z2 => [(2, .int z2), (1, .int z1), (0, .ref (G.1 0))]) dX7_passDayByDraws_3 rfl (by decide) (fun _ => rfl) h (fun z2 h => ?_)
  refine v_sub [2, 1, 0] rfl ?_
  refine lp_go (Vh := fun t => V G X 4 t.1 [(0, .ref (G.1 0)), (1, .int t.2.1), (2, .int t.2.2)] [] 4) h ?_
  intro t14 y14 hy14 hc14 he14
  refine w_f_X7_passDayByDraws_l4 C hy14 hc14 he14 (fun σ11 z12 z13 h => ?_)
  dsimp only at h
  refine v_aload_n 41 C 0 0 dX7_passDayByDraws_41 rfl rfl ?_
  refine g_X7_0_2 42 C dX7_passDayByDraws_42 ?_
  refine v_dup 45 C dX7_passDayByDraws_45 rfl ?_
  refine g_X7_10_3 46 C dX7_passDayByDraws_46 ?_
  refine v_iconst 49 C (1 : Int32) dX7_passDayByDraws_49 (by decide) ?_
  refine v_iadd 50 C dX7_passDayByDraws_50 ?_
  refine p_X7_10_3 51 C dX7_passDayByDraws_51 h (fun σ15 h => ?_)
  refine v_aload_n 54 C 0 0 dX7_passDayByDraws_54 rfl rfl ?_
  refine g_X7_0_2 55 C dX7_passDayByDraws_55 ?_
  refine v_aload_n 58 C 0 0 dX7_passDayByDraws_58 rfl rfl ?_
  refine g_X7_0_0 59 C dX7_passDayByDraws_59 ?_
  refine v_iconst 62 C (3 : Int32) dX7_passDayByDraws_62 (by decide) ?_
  refine r_f_X2_count_1 63 C (by decide) q_464 dX7_passDayByDraws_63 (Nat.le_of_ble_eq_true rfl) h (fun σ16 v17 h => ?_)
  refine r_f_X6_draw_10 66 C (by decide) q_612 dX7_passDayByDraws_66 (Nat.le_of_ble_eq_true rfl) h (fun σ18 v19 h => ?_)
  refine b_istore_n 69 C 2 (lv2 := fun z20 => [(2, .int z20), (0, .ref (G.1 0)), (1, .int z12)]) dX7_passDayByDraws_69 rfl (by decide) (fun _ => rfl) h (fun z20 h => ?_)
  refine v_aload_n 70 C 0 1 dX7_passDayByDraws_70 rfl rfl ?_
  refine g_X7_0_2 71 C dX7_passDayByDraws_71 ?_
  refine v_aload_n 74 C 0 1 dX7_passDayByDraws_74 rfl rfl ?_
  refine g_X7_0_0 75 C dX7_passDayByDraws_75 ?_
  refine v_iconst 78 C (2 : Int32) dX7_passDayByDraws_78 (by decide) ?_
  refine r_f_X2_count_1 79 C (by decide) q_464 dX7_passDayByDraws_79 (Nat.le_of_ble_eq_true rfl) h (fun σ21 v22 h => ?_)
  refine r_f_X6_draw_10 82 C (by decide) q_612 dX7_passDayByDraws_82 (Nat.le_of_ble_eq_true rfl) h (fun σ23 v24 h => ?_)
  refine b_istore_n 85 C 3 (lv2 := fun z25 => [(3, .int z25), (2, .int z20), (0, .ref (G.1 0)), (1, .int z12)]) dX7_passDayByDraws_85 rfl (by decide) (fun _ => rfl) h (fun z25 h => ?_)
  refine v_aload_n 86 C 0 2 dX7_passDayByDraws_86 rfl rfl ?_
  refine g_X7_0_0 87 C dX7_passDayByDraws_87 ?_
  refine v_iconst 90 C (3 : Int32) dX7_passDayByDraws_90 (by decide) ?_
  refine v_iload_n 91 C 2 1 dX7_passDayByDraws_91 rfl rfl ?_
  refine r_f_X2_has_1 92 C (by decide) q_489 dX7_passDayByDraws_92 (Nat.le_of_ble_eq_true rfl) h (fun σ26 v27 h => ?_)
  refine v_if_eq 95 C 120 dX7_passDayByDraws_95 (by decide) h (fun h => ?_) (fun h => ?_)
  · exact v_sub [2, 3] rfl (w_f_X7_passDayByDraws_j120 C h hK)
  · refine v_aload_n 98 C 0 2 dX7_passDayByDraws_98 rfl rfl ?_
    refine g_X7_0_2 99 C dX7_passDayByDraws_99 ?_
    refine v_iload_n 102 C 3 0 dX7_passDayByDraws_102 rfl rfl ?_
    refine r_f_X6_whoIsOn_10 103 C (by decide) q_507 dX7_passDayByDraws_103 (Nat.le_of_ble_eq_true rfl) h (fun σ28 v29 h => ?_)
    refine v_iconst 106 C (-1 : Int32) dX7_passDayByDraws_106 (by decide) ?_
    refine v_icmp_ne 107 C 120 dX7_passDayByDraws_107 (by decide) h (fun h => ?_) (fun h => ?_)
    · exact v_sub [2, 3] rfl (w_f_X7_passDayByDraws_j120 C h hK)
    · refine v_aload_n 110 C 0 2 dX7_passDayByDraws_110 rfl rfl ?_
      refine g_X7_0_2 111 C dX7_passDayByDraws_111 ?_
      refine g_X7_10_0 114 C dX7_passDayByDraws_114 ?_
      refine v_iload_n 117 C 2 1 dX7_passDayByDraws_117 rfl rfl ?_
      refine v_iload_n 118 C 3 0 dX7_passDayByDraws_118 rfl rfl ?_
      refine b_iast 119 C 11 (by decide) (ce_11 G) dX7_passDayByDraws_119 h (fun σ30 h => ?_)
      exact v_sub [2, 3] rfl (w_f_X7_passDayByDraws_j120 C h hK)
theorem c_f_X7_passDayByDraws (l : Launch) (G : Wld) (hG : GI G) (σ : Sto) (y : Sto × Int32) (h : f_X7_passDayByDraws σ = some y) : Ct l G yX7_passDayByDraws cX7_passDayByDraws 4 (some .int) 7 [.ref (G.1 0)] σ (some (.int y.2)) y.1 := by
  refine ct_intro RX7 hG (by decide) rfl (Nat.le_of_ble_eq_true rfl) (fun X hX C hK => ?_)
  subst hX
  exact w_f_X7_passDayByDraws C h hK
theorem r_f_X7_passDayByDraws {G : Wld} {X : Cxt} {own : String} {cc : ByteArray} {nL n : Nat} {σ : Sto} {lv : List (Nat × Value)} {st : List Value} {β : Type} {r : β} {F : Sto → Int32 → Option β} {ix : Nat} (pc : Nat) (C : Cx G X own cc nL n) (hn : 7 < n) (h1 : Cond.methodLink own ix yX7_passDayByDraws ∈ lw_gd) (hd : decode cc pc = .ok (.invokevirtual ix, 3)) (hsum : (st.map fun v => v.category).sum ≤ 8) (h : bd2 (f_X7_passDayByDraws σ) F = some r) (kk : ∀ σ1 v, F σ1 v = some r → V G X nL σ1 lv (.int v :: st) (pc + 3)) : V G X nL σ lv (.ref (G.1 0) :: st) pc := by
  obtain ⟨z, hz, h⟩ := bd2_some h
  exact v_callV pc C 0 0 [] st (c_f_X7_passDayByDraws (xl X) G C.2.2.2.2.2.2.1 _ _ hz) hn (by decide) (by decide) (ce_0 G _ _) rfl (by decide +kernel) rfl h1 q_610 q_15 q_59 q_611 rfl hsum hd (kk _ _ h)
-- f_X7_drift
def f_X7_drift_j11 (σ : Sto) : Option (Sto × Int32) :=
  some (σ, (-1000000002 : Int32))
def f_X7_drift_j36 (σ : Sto) : Option (Sto × Int32) :=
  some (σ, (-1000000003 : Int32))
def f_X7_drift_l43 (x1 : Int32) (σ : Sto) (x2 : Int32) (x3 : Int32) : Option ((Sto × Int32 × Int32) ⊕ (Sto × Int32 × Int32)) :=
  if x1 ≤ x3 then (some (.inr (σ, x2, x3))) else (bd2 (f_X7_passDayByDraws σ) fun σ7 v8 => bs (x2 + v8) fun z9 => bs (x3 + (1 : Int32)) fun z10 => some (.inl (σ7, z9, z10)))
def f_X7_drift (σ : Sto) (a1 : Int32) : Option (Sto × Int32) :=
  if a1 < (1 : Int32) then (f_X7_drift_j11 σ) else (if a1 ≤ (99 : Int32) then (bd2 (f_X2_count_1 σ (3 : Int32)) fun σ1 v2 => if v2 = 0 then (f_X7_drift_j36 σ1) else (bd2 (f_X2_count_1 σ1 (2 : Int32)) fun σ3 v4 => if v4 = 0 then (f_X7_drift_j36 σ3) else (bs (0 : Int32) fun z5 => bs (0 : Int32) fun z6 => bE2 (lpF (fun t => f_X7_drift_l43 a1 t.1 t.2.1 t.2.2) FU (σ3, z5, z6)) (fun σ11 z12 z13 => some (σ11, z12))))) else (f_X7_drift_j11 σ))
theorem w_f_X7_drift_j11 {G : Wld} {X : Cxt} (C : Cx G X RX7 cX7_drift 4 8) {σ : Sto} {y : Sto × Int32} (h : f_X7_drift_j11 σ = some y) (hK : Rx G X (some .int) (some (.int y.2)) y.1) : V G X 4 σ [(0, .ref (G.1 0))] [] 11 := by
  unfold f_X7_drift_j11 at h
  refine v_ldc 11 C dX7_drift_11 q_323 ?_
  cases h
  exact v_iret 13 C hK dX7_drift_13
theorem w_f_X7_drift_j36 {G : Wld} {X : Cxt} (C : Cx G X RX7 cX7_drift 4 8) {σ : Sto} {y : Sto × Int32} (h : f_X7_drift_j36 σ = some y) (hK : Rx G X (some .int) (some (.int y.2)) y.1) : V G X 4 σ [(0, .ref (G.1 0))] [] 36 := by
  unfold f_X7_drift_j36 at h
  refine v_ldc 36 C dX7_drift_36 q_581 ?_
  cases h
  exact v_iret 38 C hK dX7_drift_38
theorem w_f_X7_drift_l43 {G : Wld} {X : Cxt} (C : Cx G X RX7 cX7_drift 4 8) {x1 : Int32} {σ : Sto} {x2 : Int32} {x3 : Int32} {y : (Sto × Int32 × Int32) ⊕ (Sto × Int32 × Int32)} (h : f_X7_drift_l43 x1 σ x2 x3 = some y) (hc : ∀ t : Sto × Int32 × Int32, y = .inl t → V G X 4 t.1 [(0, .ref (G.1 0)), (1, .int x1), (2, .int t.2.1), (3, .int t.2.2)] [] 43) {Ve : Sto × Int32 × Int32 → Prop} (he : ∀ e, y = .inr e → Ve e) (hx : ∀ (σ : Sto) (x2 : Int32) (x3 : Int32), Ve (σ, x2, x3) → V G X 4 σ [(0, .ref (G.1 0)), (1, .int x1), (2, .int x2), (3, .int x3)] [] 61) : V G X 4 σ [(0, .ref (G.1 0)), (1, .int x1), (2, .int x2), (3, .int x3)] [] 43 := by
  unfold f_X7_drift_l43 at h
  refine v_iload_n 43 C 3 3 dX7_drift_43 rfl rfl ?_
  refine v_iload_n 44 C 1 1 dX7_drift_44 rfl rfl ?_
  refine v_icmp_ge 45 C 61 dX7_drift_45 (by decide) h (fun h => ?_) (fun h => ?_)
  · exact v_sub [0, 1, 2, 3] rfl (hx _ _ _ (he _ (Option.some.inj h).symm))
  · refine v_iload_n 48 C 2 2 dX7_drift_48 rfl rfl ?_
    refine v_aload_n 49 C 0 0 dX7_drift_49 rfl rfl ?_
    refine r_f_X7_passDayByDraws 50 C (by decide) q_608 dX7_drift_50 (Nat.le_of_ble_eq_true rfl) h (fun σ7 v8 h => ?_)
    refine v_iadd 53 C dX7_drift_53 ?_
    refine b_istore_n 54 C 2 (lv2 := fun z9 => [(2, .int z9), (0, .ref (G.1 0)), (1, .int x1), (3, .int x3)]) dX7_drift_54 rfl (by decide) (fun _ => rfl) h (fun z9 h => ?_)
    refine b_iinc 55 C 3 3 (1 : Int32) (lv2 := fun z10 => [(3, .int z10), (2, .int z9), (0, .ref (G.1 0)), (1, .int x1)]) dX7_drift_55 rfl (by decide) (by decide) (fun _ => rfl) h (fun z10 h => ?_)
    refine v_goto 58 C 43 dX7_drift_58 (by decide) ?_
    exact v_sub [2, 3, 1, 0] rfl (hc _ (Option.some.inj h).symm)
theorem w_f_X7_drift {G : Wld} {X : Cxt} (C : Cx G X RX7 cX7_drift 4 8) {σ : Sto} {a1 : Int32} {y : Sto × Int32} (h : f_X7_drift σ a1 = some y) (hK : Rx G X (some .int) (some (.int y.2)) y.1) : V G X 4 σ [(0, .ref (G.1 0)), (1, .int a1)] [] 0 := by
  unfold f_X7_drift at h
  refine v_iload_n 0 C 1 1 dX7_drift_0 rfl rfl ?_
  refine v_iconst 1 C (1 : Int32) dX7_drift_1 (by decide) ?_
  refine v_icmp_lt 2 C 11 dX7_drift_2 (by decide) h (fun h => ?_) (fun h => ?_)
  · exact v_sub [0] rfl (w_f_X7_drift_j11 C h hK)
  · refine v_iload_n 5 C 1 1 dX7_drift_5 rfl rfl ?_
    refine v_bipush 6 C (99 : Int32) dX7_drift_6 (by decide) ?_
    refine v_icmp_le 8 C 14 dX7_drift_8 (by decide) h (fun h => ?_) (fun h => ?_)
    · refine v_aload_n 14 C 0 0 dX7_drift_14 rfl rfl ?_
      refine g_X7_0_0 15 C dX7_drift_15 ?_
      refine v_iconst 18 C (3 : Int32) dX7_drift_18 (by decide) ?_
      refine r_f_X2_count_1 19 C (by decide) q_464 dX7_drift_19 (Nat.le_of_ble_eq_true rfl) h (fun σ1 v2 h => ?_)
      refine v_if_eq 22 C 36 dX7_drift_22 (by decide) h (fun h => ?_) (fun h => ?_)
      · exact v_sub [0] rfl (w_f_X7_drift_j36 C h hK)
      · refine v_aload_n 25 C 0 0 dX7_drift_25 rfl rfl ?_
        refine g_X7_0_0 26 C dX7_drift_26 ?_
        refine v_iconst 29 C (2 : Int32) dX7_drift_29 (by decide) ?_
        refine r_f_X2_count_1 30 C (by decide) q_464 dX7_drift_30 (Nat.le_of_ble_eq_true rfl) h (fun σ3 v4 h => ?_)
        refine v_if_ne 33 C 39 dX7_drift_33 (by decide) h (fun h => ?_) (fun h => ?_)
        · refine v_iconst 39 C (0 : Int32) dX7_drift_39 (by decide) ?_
          refine b_istore_n 40 C 2 (lv2 := fun z5 => [(2, .int z5), (0, .ref (G.1 0)), (1, .int a1)]) dX7_drift_40 rfl (by decide) (fun _ => rfl) h (fun z5 h => ?_)
          refine v_iconst 41 C (0 : Int32) dX7_drift_41 (by decide) ?_
          refine b_istore_n 42 C 3 (lv2 := fun z6 => [(3, .int z6), (2, .int z5), (0, .ref (G.1 0)), (1, .int a1)]) dX7_drift_42 rfl (by decide) (fun _ => rfl) h (fun z6 h => ?_)
          refine v_sub [2, 3, 1, 0] rfl ?_
          refine lp_go (Vh := fun t => V G X 4 t.1 [(0, .ref (G.1 0)), (1, .int a1), (2, .int t.2.1), (3, .int t.2.2)] [] 43) h ?_
          intro t14 y14 hy14 hc14 he14
          refine w_f_X7_drift_l43 C hy14 hc14 he14 (fun σ11 z12 z13 h => ?_)
          dsimp only at h
          refine v_iload_n 61 C 2 2 dX7_drift_61 rfl rfl ?_
          cases h
          exact v_iret 62 C hK dX7_drift_62
        · exact v_sub [0] rfl (w_f_X7_drift_j36 C h hK)
    · exact v_sub [0] rfl (w_f_X7_drift_j11 C h hK)
theorem c_f_X7_drift (l : Launch) (G : Wld) (hG : GI G) (σ : Sto) (a1 : Int32) (y : Sto × Int32) (h : f_X7_drift σ a1 = some y) : Ct l G yX7_drift cX7_drift 4 (some .int) 8 [.ref (G.1 0), .int a1] σ (some (.int y.2)) y.1 := by
  refine ct_intro RX7 hG (by decide) rfl (Nat.le_of_ble_eq_true rfl) (fun X hX C hK => ?_)
  subst hX
  exact w_f_X7_drift C h hK
theorem r_f_X7_drift {G : Wld} {X : Cxt} {own : String} {cc : ByteArray} {nL n : Nat} {σ : Sto} {lv : List (Nat × Value)} {st : List Value} {β : Type} {r : β} {F : Sto → Int32 → Option β} {a1 : Int32} {ix : Nat} (pc : Nat) (C : Cx G X own cc nL n) (hn : 8 < n) (h1 : Cond.methodLink own ix yX7_drift ∈ lw_gd) (hd : decode cc pc = .ok (.invokevirtual ix, 3)) (hsum : (st.map fun v => v.category).sum ≤ 8) (h : bd2 (f_X7_drift σ a1) F = some r) (kk : ∀ σ1 v, F σ1 v = some r → V G X nL σ1 lv (.int v :: st) (pc + 3)) : V G X nL σ lv (.int a1 :: .ref (G.1 0) :: st) pc := by
  obtain ⟨z, hz, h⟩ := bd2_some h
  exact v_callV pc C 0 1 [.int a1] st (c_f_X7_drift (xl X) G C.2.2.2.2.2.2.1 _ _ _ hz) hn (by decide) (by decide) (ce_0 G _ _) rfl (by decide +kernel) rfl h1 q_605 q_606 q_59 q_607 rfl hsum hd (kk _ _ h)
-- f_X5_sumOfAlms_28
def f_X5_sumOfAlms_28_l4 (σ : Sto) (x1 : Int32) (x2 : Int32) : Option ((Sto × Int32 × Int32) ⊕ (Sto × Int32 × Int32)) :=
  if (σ.1 28 1) ≤ x2 then (some (.inr (σ, x1, x2))) else (gd (inB x2 7) (gd (inB x2 7) (bs (x1 + ((σ.1 32 (x2).toNatClampNeg) - (σ.1 30 (x2).toNatClampNeg))) fun z3 => bs (x2 + (1 : Int32)) fun z4 => some (.inl (σ, z3, z4)))))
def f_X5_sumOfAlms_28 (σ : Sto) : Option (Sto × Int32) :=
  bs (0 : Int32) fun z1 => bs (0 : Int32) fun z2 => bE2 (lpF (fun t => f_X5_sumOfAlms_28_l4 t.1 t.2.1 t.2.2) FU (σ, z1, z2)) (fun σ5 z6 z7 => some (σ5, z6))
theorem w_f_X5_sumOfAlms_28_l4 {G : Wld} {X : Cxt} (C : Cx G X RX5 cX5_sumOfAlms 3 1) {σ : Sto} {x1 : Int32} {x2 : Int32} {y : (Sto × Int32 × Int32) ⊕ (Sto × Int32 × Int32)} (h : f_X5_sumOfAlms_28_l4 σ x1 x2 = some y) (hc : ∀ t : Sto × Int32 × Int32, y = .inl t → V G X 3 t.1 [(0, .ref (G.1 28)), (1, .int t.2.1), (2, .int t.2.2)] [] 4) {Ve : Sto × Int32 × Int32 → Prop} (he : ∀ e, y = .inr e → Ve e) (hx : ∀ (σ : Sto) (x1 : Int32) (x2 : Int32), Ve (σ, x1, x2) → V G X 3 σ [(0, .ref (G.1 28)), (1, .int x1), (2, .int x2)] [] 34) : V G X 3 σ [(0, .ref (G.1 28)), (1, .int x1), (2, .int x2)] [] 4 := by
  unfold f_X5_sumOfAlms_28_l4 at h
  refine v_iload_n 4 C 2 2 dX5_sumOfAlms_4 rfl rfl ?_
  refine v_aload_n 5 C 0 0 dX5_sumOfAlms_5 rfl rfl ?_
  refine g_X5_28_1 6 C dX5_sumOfAlms_6 ?_
  refine v_icmp_ge 9 C 34 dX5_sumOfAlms_9 (by decide) h (fun h => ?_) (fun h => ?_)
  · exact v_sub [0, 1, 2] rfl (hx _ _ _ (he _ (Option.some.inj h).symm))
  · refine v_iload_n 12 C 1 1 dX5_sumOfAlms_12 rfl rfl ?_
    refine v_aload_n 13 C 0 0 dX5_sumOfAlms_13 rfl rfl ?_
    refine g_X5_28_7 14 C dX5_sumOfAlms_14 ?_
    refine v_iload_n 17 C 2 2 dX5_sumOfAlms_17 rfl rfl ?_
    refine v_iald 18 C 32 (by decide) (ce_32 G) dX5_sumOfAlms_18 h (fun h => ?_)
    refine v_aload_n 19 C 0 0 dX5_sumOfAlms_19 rfl rfl ?_
    refine g_X5_28_5 20 C dX5_sumOfAlms_20 ?_
    refine v_iload_n 23 C 2 2 dX5_sumOfAlms_23 rfl rfl ?_
    refine v_iald 24 C 30 (by decide) (ce_30 G) dX5_sumOfAlms_24 h (fun h => ?_)
    refine v_isub 25 C dX5_sumOfAlms_25 ?_
    refine v_iadd 26 C dX5_sumOfAlms_26 ?_
    refine b_istore_n 27 C 1 (lv2 := fun z3 => [(1, .int z3), (0, .ref (G.1 28)), (2, .int x2)]) dX5_sumOfAlms_27 rfl (by decide) (fun _ => rfl) h (fun z3 h => ?_)
    refine b_iinc 28 C 2 2 (1 : Int32) (lv2 := fun z4 => [(2, .int z4), (1, .int z3), (0, .ref (G.1 28))]) dX5_sumOfAlms_28 rfl (by decide) (by decide) (fun _ => rfl) h (fun z4 h => ?_)
    refine v_goto 31 C 4 dX5_sumOfAlms_31 (by decide) ?_
    exact v_sub [2, 1, 0] rfl (hc _ (Option.some.inj h).symm)
theorem w_f_X5_sumOfAlms_28 {G : Wld} {X : Cxt} (C : Cx G X RX5 cX5_sumOfAlms 3 1) {σ : Sto} {y : Sto × Int32} (h : f_X5_sumOfAlms_28 σ = some y) (hK : Rx G X (some .int) (some (.int y.2)) y.1) : V G X 3 σ [(0, .ref (G.1 28))] [] 0 := by
  unfold f_X5_sumOfAlms_28 at h
  refine v_iconst 0 C (0 : Int32) dX5_sumOfAlms_0 (by decide) ?_
  refine b_istore_n 1 C 1 (lv2 := fun z1 => [(1, .int z1), (0, .ref (G.1 28))]) dX5_sumOfAlms_1 rfl (by decide) (fun _ => rfl) h (fun z1 h => ?_)
  refine v_iconst 2 C (0 : Int32) dX5_sumOfAlms_2 (by decide) ?_
  refine b_istore_n 3 C 2 (lv2 := fun z2 => [(2, .int z2), (1, .int z1), (0, .ref (G.1 28))]) dX5_sumOfAlms_3 rfl (by decide) (fun _ => rfl) h (fun z2 h => ?_)
  refine v_sub [2, 1, 0] rfl ?_
  refine lp_go (Vh := fun t => V G X 3 t.1 [(0, .ref (G.1 28)), (1, .int t.2.1), (2, .int t.2.2)] [] 4) h ?_
  intro t8 y8 hy8 hc8 he8
  refine w_f_X5_sumOfAlms_28_l4 C hy8 hc8 he8 (fun σ5 z6 z7 h => ?_)
  dsimp only at h
  refine v_iload_n 34 C 1 1 dX5_sumOfAlms_34 rfl rfl ?_
  cases h
  exact v_iret 35 C hK dX5_sumOfAlms_35
theorem c_f_X5_sumOfAlms_28 (l : Launch) (G : Wld) (hG : GI G) (σ : Sto) (y : Sto × Int32) (h : f_X5_sumOfAlms_28 σ = some y) : Ct l G yX5_sumOfAlms cX5_sumOfAlms 3 (some .int) 1 [.ref (G.1 28)] σ (some (.int y.2)) y.1 := by
  refine ct_intro RX5 hG (by decide) rfl (Nat.le_of_ble_eq_true rfl) (fun X hX C hK => ?_)
  subst hX
  exact w_f_X5_sumOfAlms_28 C h hK
theorem r_f_X5_sumOfAlms_28 {G : Wld} {X : Cxt} {own : String} {cc : ByteArray} {nL n : Nat} {σ : Sto} {lv : List (Nat × Value)} {st : List Value} {β : Type} {r : β} {F : Sto → Int32 → Option β} {ix : Nat} (pc : Nat) (C : Cx G X own cc nL n) (hn : 1 < n) (h1 : Cond.methodLink own ix yX5_sumOfAlms ∈ lw_gd) (hd : decode cc pc = .ok (.invokevirtual ix, 3)) (hsum : (st.map fun v => v.category).sum ≤ 8) (h : bd2 (f_X5_sumOfAlms_28 σ) F = some r) (kk : ∀ σ1 v, F σ1 v = some r → V G X nL σ1 lv (.int v :: st) (pc + 3)) : V G X nL σ lv (.ref (G.1 28) :: st) pc := by
  obtain ⟨z, hz, h⟩ := bd2_some h
  exact v_callV pc C 28 0 [] st (c_f_X5_sumOfAlms_28 (xl X) G C.2.2.2.2.2.2.1 _ _ hz) hn (by decide) (by decide) (ce_28 G _ _) rfl (by decide +kernel) rfl h1 q_640 q_641 q_65 q_642 rfl hsum hd (kk _ _ h)
