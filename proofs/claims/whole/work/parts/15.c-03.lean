-- f_X4_isFull_26
def f_X4_isFull_26_j16 (σ : Sto) (s0 : Int32) : Option (Sto × Int32) :=
  gd (zB s0) (some (σ, s0))
def f_X4_isFull_26 (σ : Sto) : Option (Sto × Int32) :=
  if (σ.1 26 2) < (σ.1 26 0) then (f_X4_isFull_26_j16 σ (0 : Int32)) else (f_X4_isFull_26_j16 σ (1 : Int32))
theorem w_f_X4_isFull_26_j16 {G : Wld} {X : Cxt} (C : Cx G X RX4 cX4_isFull 1 1) {σ : Sto} {s0 : Int32} {y : Sto × Int32} (h : f_X4_isFull_26_j16 σ s0 = some y) (hK : Rx G X (some .boolean) (some (.int y.2)) y.1) : V G X 1 σ [(0, .ref (G.1 26))] [.int s0] 16 := by
  unfold f_X4_isFull_26_j16 at h
  obtain ⟨hz, h⟩ := gd_some h
  cases h
  exact v_zret 16 C (zB_nar hz) hK dX4_isFull_16
theorem w_f_X4_isFull_26 {G : Wld} {X : Cxt} (C : Cx G X RX4 cX4_isFull 1 1) {σ : Sto} {y : Sto × Int32} (h : f_X4_isFull_26 σ = some y) (hK : Rx G X (some .boolean) (some (.int y.2)) y.1) : V G X 1 σ [(0, .ref (G.1 26))] [] 0 := by
  unfold f_X4_isFull_26 at h
  refine v_aload_n 0 C 0 0 dX4_isFull_0 rfl rfl ?_
  refine g_X4_26_2 1 C dX4_isFull_1 ?_
  refine v_aload_n 4 C 0 0 dX4_isFull_4 rfl rfl ?_
  refine g_X4_26_0 5 C dX4_isFull_5 ?_
  refine v_icmp_lt 8 C 15 dX4_isFull_8 (by decide) h (fun h => ?_) (fun h => ?_)
  · refine v_iconst 15 C (0 : Int32) dX4_isFull_15 (by decide) ?_
    exact v_sub [0] rfl (w_f_X4_isFull_26_j16 C h hK)
  · refine v_iconst 11 C (1 : Int32) dX4_isFull_11 (by decide) ?_
    refine v_goto 12 C 16 dX4_isFull_12 (by decide) ?_
    exact v_sub [0] rfl (w_f_X4_isFull_26_j16 C h hK)
theorem c_f_X4_isFull_26 (l : Launch) (G : Wld) (hG : GI G) (σ : Sto) (y : Sto × Int32) (h : f_X4_isFull_26 σ = some y) : Ct l G yX4_isFull cX4_isFull 1 (some .boolean) 1 [.ref (G.1 26)] σ (some (.int y.2)) y.1 := by
  refine ct_intro RX4 hG (by decide) rfl (Nat.le_of_ble_eq_true rfl) (fun X hX C hK => ?_)
  subst hX
  exact w_f_X4_isFull_26 C h hK
theorem r_f_X4_isFull_26 {G : Wld} {X : Cxt} {own : String} {cc : ByteArray} {nL n : Nat} {σ : Sto} {lv : List (Nat × Value)} {st : List Value} {β : Type} {r : β} {F : Sto → Int32 → Option β} {ix : Nat} (pc : Nat) (C : Cx G X own cc nL n) (hn : 1 < n) (h1 : Cond.methodLink own ix yX4_isFull ∈ lw_gd) (hd : decode cc pc = .ok (.invokevirtual ix, 3)) (hsum : (st.map fun v => v.category).sum ≤ 8) (h : bd2 (f_X4_isFull_26 σ) F = some r) (kk : ∀ σ1 v, F σ1 v = some r → V G X nL σ1 lv (.int v :: st) (pc + 3)) : V G X nL σ lv (.ref (G.1 26) :: st) pc := by
  obtain ⟨z, hz, h⟩ := bd2_some h
  exact v_callV pc C 26 0 [] st (c_f_X4_isFull_26 (xl X) G C.2.2.2.2.2.2.1 _ _ hz) hn (by decide) (by decide) (ce_26 G _ _) rfl (by decide +kernel) rfl h1 q_705 q_706 q_64 q_707 rfl hsum hd (kk _ _ h)
-- f_X4_add_26
def f_X4_add_26_j76 (σ : Sto) : Option (Sto) :=
  some σ
def f_X4_add_26 (σ : Sto) (a1 : Int32) (a2 : Int32) (a3 : Int32) (a4 : Int32) : Option (Sto) :=
  if (σ.1 26 0) ≤ (σ.1 26 2) then (f_X4_add_26_j76 σ) else (gd (inB ((4 : Int32) * (σ.1 26 2)) 120) (bs (su σ 27 (((4 : Int32) * (σ.1 26 2))).toNatClampNeg a1) fun σ1 => gd (inB (((4 : Int32) * (σ1.1 26 2)) + (1 : Int32)) 120) (bs (su σ1 27 ((((4 : Int32) * (σ1.1 26 2)) + (1 : Int32))).toNatClampNeg a2) fun σ2 => gd (inB (((4 : Int32) * (σ2.1 26 2)) + (2 : Int32)) 120) (bs (su σ2 27 ((((4 : Int32) * (σ2.1 26 2)) + (2 : Int32))).toNatClampNeg a3) fun σ3 => gd (inB (((4 : Int32) * (σ3.1 26 2)) + (3 : Int32)) 120) (bs (su σ3 27 ((((4 : Int32) * (σ3.1 26 2)) + (3 : Int32))).toNatClampNeg a4) fun σ4 => bs (su σ4 26 2 ((σ4.1 26 2) + (1 : Int32))) fun σ5 => f_X4_add_26_j76 σ5)))))
theorem w_f_X4_add_26_j76 {G : Wld} {X : Cxt} (C : Cx G X RX4 cX4_add 5 1) {σ : Sto} {y : Sto} (h : f_X4_add_26_j76 σ = some y) (hK : Rx G X none none y) : V G X 5 σ [(0, .ref (G.1 26))] [] 76 := by
  unfold f_X4_add_26_j76 at h
  cases h
  exact v_vret 76 C hK dX4_add_76
theorem w_f_X4_add_26 {G : Wld} {X : Cxt} (C : Cx G X RX4 cX4_add 5 1) {σ : Sto} {a1 : Int32} {a2 : Int32} {a3 : Int32} {a4 : Int32} {y : Sto} (h : f_X4_add_26 σ a1 a2 a3 a4 = some y) (hK : Rx G X none none y) : V G X 5 σ [(0, .ref (G.1 26)), (1, .int a1), (2, .int a2), (3, .int a3), (4, .int a4)] [] 0 := by
  unfold f_X4_add_26 at h
  refine v_aload_n 0 C 0 0 dX4_add_0 rfl rfl ?_
  refine g_X4_26_2 1 C dX4_add_1 ?_
  refine v_aload_n 4 C 0 0 dX4_add_4 rfl rfl ?_
  refine g_X4_26_0 5 C dX4_add_5 ?_
  refine v_icmp_ge 8 C 76 dX4_add_8 (by decide) h (fun h => ?_) (fun h => ?_)
  · exact v_sub [0] rfl (w_f_X4_add_26_j76 C h hK)
  · refine v_aload_n 11 C 0 0 dX4_add_11 rfl rfl ?_
    refine g_X4_26_1 12 C dX4_add_12 ?_
    refine v_iconst 15 C (4 : Int32) dX4_add_15 (by decide) ?_
    refine v_aload_n 16 C 0 0 dX4_add_16 rfl rfl ?_
    refine g_X4_26_2 17 C dX4_add_17 ?_
    refine v_imul 20 C dX4_add_20 ?_
    refine v_iload_n 21 C 1 1 dX4_add_21 rfl rfl ?_
    refine b_iast 22 C 27 (by decide) (ce_27 G) dX4_add_22 h (fun σ1 h => ?_)
    refine v_aload_n 23 C 0 0 dX4_add_23 rfl rfl ?_
    refine g_X4_26_1 24 C dX4_add_24 ?_
    refine v_iconst 27 C (4 : Int32) dX4_add_27 (by decide) ?_
    refine v_aload_n 28 C 0 0 dX4_add_28 rfl rfl ?_
    refine g_X4_26_2 29 C dX4_add_29 ?_
    refine v_imul 32 C dX4_add_32 ?_
    refine v_iconst 33 C (1 : Int32) dX4_add_33 (by decide) ?_
    refine v_iadd 34 C dX4_add_34 ?_
    refine v_iload_n 35 C 2 2 dX4_add_35 rfl rfl ?_
    refine b_iast 36 C 27 (by decide) (ce_27 G) dX4_add_36 h (fun σ2 h => ?_)
    refine v_aload_n 37 C 0 0 dX4_add_37 rfl rfl ?_
    refine g_X4_26_1 38 C dX4_add_38 ?_
    refine v_iconst 41 C (4 : Int32) dX4_add_41 (by decide) ?_
    refine v_aload_n 42 C 0 0 dX4_add_42 rfl rfl ?_
    refine g_X4_26_2 43 C dX4_add_43 ?_
    refine v_imul 46 C dX4_add_46 ?_
    refine v_iconst 47 C (2 : Int32) dX4_add_47 (by decide) ?_
    refine v_iadd 48 C dX4_add_48 ?_
    refine v_iload_n 49 C 3 3 dX4_add_49 rfl rfl ?_
    refine b_iast 50 C 27 (by decide) (ce_27 G) dX4_add_50 h (fun σ3 h => ?_)
    refine v_aload_n 51 C 0 0 dX4_add_51 rfl rfl ?_
    refine g_X4_26_1 52 C dX4_add_52 ?_
    refine v_iconst 55 C (4 : Int32) dX4_add_55 (by decide) ?_
    refine v_aload_n 56 C 0 0 dX4_add_56 rfl rfl ?_
    refine g_X4_26_2 57 C dX4_add_57 ?_
    refine v_imul 60 C dX4_add_60 ?_
    refine v_iconst 61 C (3 : Int32) dX4_add_61 (by decide) ?_
    refine v_iadd 62 C dX4_add_62 ?_
    refine v_iload 63 C 4 4 dX4_add_63 rfl ?_
    refine b_iast 65 C 27 (by decide) (ce_27 G) dX4_add_65 h (fun σ4 h => ?_)
    refine v_aload_n 66 C 0 0 dX4_add_66 rfl rfl ?_
    refine v_dup 67 C dX4_add_67 rfl ?_
    refine g_X4_26_2 68 C dX4_add_68 ?_
    refine v_iconst 71 C (1 : Int32) dX4_add_71 (by decide) ?_
    refine v_iadd 72 C dX4_add_72 ?_
    refine p_X4_26_2 73 C dX4_add_73 h (fun σ5 h => ?_)
    exact v_sub [0] rfl (w_f_X4_add_26_j76 C h hK)
theorem c_f_X4_add_26 (l : Launch) (G : Wld) (hG : GI G) (σ : Sto) (a1 : Int32) (a2 : Int32) (a3 : Int32) (a4 : Int32) (y : Sto) (h : f_X4_add_26 σ a1 a2 a3 a4 = some y) : Ct l G yX4_add cX4_add 5 none 1 [.ref (G.1 26), .int a1, .int a2, .int a3, .int a4] σ none y := by
  refine ct_intro RX4 hG (by decide) rfl (Nat.le_of_ble_eq_true rfl) (fun X hX C hK => ?_)
  subst hX
  exact w_f_X4_add_26 C h hK
theorem r_f_X4_add_26 {G : Wld} {X : Cxt} {own : String} {cc : ByteArray} {nL n : Nat} {σ : Sto} {lv : List (Nat × Value)} {st : List Value} {β : Type} {r : β} {F : Sto → Option β} {a1 : Int32} {a2 : Int32} {a3 : Int32} {a4 : Int32} {ix : Nat} (pc : Nat) (C : Cx G X own cc nL n) (hn : 1 < n) (h1 : Cond.methodLink own ix yX4_add ∈ lw_gd) (hd : decode cc pc = .ok (.invokevirtual ix, 3)) (hsum : (st.map fun v => v.category).sum ≤ 8) (h : bd1 (f_X4_add_26 σ a1 a2 a3 a4) F = some r) (kk : ∀ σ1, F σ1 = some r → V G X nL σ1 lv (st) (pc + 3)) : V G X nL σ lv (.int a4 :: .int a3 :: .int a2 :: .int a1 :: .ref (G.1 26) :: st) pc := by
  obtain ⟨z, hz, h⟩ := bd1_some h
  exact v_callV pc C 26 4 [.int a1, .int a2, .int a3, .int a4] st (c_f_X4_add_26 (xl X) G C.2.2.2.2.2.2.1 _ _ _ _ _ _ hz) hn (by decide) (by decide) (ce_26 G _ _) rfl (by decide +kernel) rfl h1 q_709 q_710 q_64 q_711 rfl hsum hd (kk _ h)
-- f_X7_write
def f_X7_write_j24 (σ : Sto) : Option (Sto × Int32) :=
  some (σ, (-1000000001 : Int32))
def f_X7_write_j40 (σ : Sto) : Option (Sto × Int32) :=
  some (σ, (-1000000002 : Int32))
def f_X7_write (σ : Sto) (a1 : Int32) (a2 : Int32) (a3 : Int32) : Option (Sto × Int32) :=
  bd2 (f_X2_has_1 σ (1 : Int32) a1) fun σ1 v2 => if v2 = 0 then (f_X7_write_j24 σ1) else (bd2 (f_X2_has_1 σ1 (3 : Int32) a2) fun σ3 v4 => if v4 = 0 then (f_X7_write_j24 σ3) else (if a3 < (-999 : Int32) then (f_X7_write_j40 σ3) else (if a3 ≤ (99999 : Int32) then (bd2 (f_X4_isFull_26 σ3) fun σ5 v6 => if v6 = 0 then (bd1 (f_X4_add_26 σ5 a1 a2 a3 (0 : Int32)) fun σ7 => some (σ7, (σ7.1 26 2))) else (some (σ5, (-1000000004 : Int32)))) else (f_X7_write_j40 σ3))))
theorem w_f_X7_write_j24 {G : Wld} {X : Cxt} (C : Cx G X RX7 cX7_write 4 2) {σ : Sto} {y : Sto × Int32} (h : f_X7_write_j24 σ = some y) (hK : Rx G X (some .int) (some (.int y.2)) y.1) : V G X 4 σ [(0, .ref (G.1 0))] [] 24 := by
  unfold f_X7_write_j24 at h
  refine v_ldc 24 C dX7_write_24 q_493 ?_
  cases h
  exact v_iret 26 C hK dX7_write_26
theorem w_f_X7_write_j40 {G : Wld} {X : Cxt} (C : Cx G X RX7 cX7_write 4 2) {σ : Sto} {y : Sto × Int32} (h : f_X7_write_j40 σ = some y) (hK : Rx G X (some .int) (some (.int y.2)) y.1) : V G X 4 σ [(0, .ref (G.1 0))] [] 40 := by
  unfold f_X7_write_j40 at h
  refine v_ldc 40 C dX7_write_40 q_323 ?_
  cases h
  exact v_iret 42 C hK dX7_write_42
theorem w_f_X7_write {G : Wld} {X : Cxt} (C : Cx G X RX7 cX7_write 4 2) {σ : Sto} {a1 : Int32} {a2 : Int32} {a3 : Int32} {y : Sto × Int32} (h : f_X7_write σ a1 a2 a3 = some y) (hK : Rx G X (some .int) (some (.int y.2)) y.1) : V G X 4 σ [(0, .ref (G.1 0)), (1, .int a1), (2, .int a2), (3, .int a3)] [] 0 := by
  unfold f_X7_write at h
  refine v_aload_n 0 C 0 0 dX7_write_0 rfl rfl ?_
  refine g_X7_0_0 1 C dX7_write_1 ?_
  refine v_iconst 4 C (1 : Int32) dX7_write_4 (by decide) ?_
  refine v_iload_n 5 C 1 1 dX7_write_5 rfl rfl ?_
  refine r_f_X2_has_1 6 C (by decide) q_489 dX7_write_6 (Nat.le_of_ble_eq_true rfl) h (fun σ1 v2 h => ?_)
  refine v_if_eq 9 C 24 dX7_write_9 (by decide) h (fun h => ?_) (fun h => ?_)
  · exact v_sub [0] rfl (w_f_X7_write_j24 C h hK)
  · refine v_aload_n 12 C 0 0 dX7_write_12 rfl rfl ?_
    refine g_X7_0_0 13 C dX7_write_13 ?_
    refine v_iconst 16 C (3 : Int32) dX7_write_16 (by decide) ?_
    refine v_iload_n 17 C 2 2 dX7_write_17 rfl rfl ?_
    refine r_f_X2_has_1 18 C (by decide) q_489 dX7_write_18 (Nat.le_of_ble_eq_true rfl) h (fun σ3 v4 h => ?_)
    refine v_if_ne 21 C 27 dX7_write_21 (by decide) h (fun h => ?_) (fun h => ?_)
    · refine v_iload_n 27 C 3 3 dX7_write_27 rfl rfl ?_
      refine v_sipush 28 C (-999 : Int32) dX7_write_28 (by decide) ?_
      refine v_icmp_lt 31 C 40 dX7_write_31 (by decide) h (fun h => ?_) (fun h => ?_)
      · exact v_sub [0] rfl (w_f_X7_write_j40 C h hK)
      · refine v_iload_n 34 C 3 3 dX7_write_34 rfl rfl ?_
        refine v_ldc 35 C dX7_write_35 q_494 ?_
        refine v_icmp_le 37 C 43 dX7_write_37 (by decide) h (fun h => ?_) (fun h => ?_)
        · refine v_aload_n 43 C 0 0 dX7_write_43 rfl rfl ?_
          refine g_X7_0_6 44 C dX7_write_44 ?_
          refine r_f_X4_isFull_26 47 C (by decide) q_704 dX7_write_47 (Nat.le_of_ble_eq_true rfl) h (fun σ5 v6 h => ?_)
          refine v_if_eq 50 C 56 dX7_write_50 (by decide) h (fun h => ?_) (fun h => ?_)
          · refine v_aload_n 56 C 0 0 dX7_write_56 rfl rfl ?_
            refine g_X7_0_6 57 C dX7_write_57 ?_
            refine v_iload_n 60 C 1 1 dX7_write_60 rfl rfl ?_
            refine v_iload_n 61 C 2 2 dX7_write_61 rfl rfl ?_
            refine v_iload_n 62 C 3 3 dX7_write_62 rfl rfl ?_
            refine v_iconst 63 C (0 : Int32) dX7_write_63 (by decide) ?_
            refine r_f_X4_add_26 64 C (by decide) q_708 dX7_write_64 (Nat.le_of_ble_eq_true rfl) h (fun σ7 h => ?_)
            refine v_aload_n 67 C 0 0 dX7_write_67 rfl rfl ?_
            refine g_X7_0_6 68 C dX7_write_68 ?_
            refine g_X7_26_2 71 C dX7_write_71 ?_
            cases h
            exact v_iret 74 C hK dX7_write_74
          · refine v_ldc 53 C dX7_write_53 q_324 ?_
            cases h
            exact v_iret 55 C hK dX7_write_55
        · exact v_sub [0] rfl (w_f_X7_write_j40 C h hK)
    · exact v_sub [0] rfl (w_f_X7_write_j24 C h hK)
theorem c_f_X7_write (l : Launch) (G : Wld) (hG : GI G) (σ : Sto) (a1 : Int32) (a2 : Int32) (a3 : Int32) (y : Sto × Int32) (h : f_X7_write σ a1 a2 a3 = some y) : Ct l G yX7_write cX7_write 4 (some .int) 2 [.ref (G.1 0), .int a1, .int a2, .int a3] σ (some (.int y.2)) y.1 := by
  refine ct_intro RX7 hG (by decide) rfl (Nat.le_of_ble_eq_true rfl) (fun X hX C hK => ?_)
  subst hX
  exact w_f_X7_write C h hK
theorem r_f_X7_write {G : Wld} {X : Cxt} {own : String} {cc : ByteArray} {nL n : Nat} {σ : Sto} {lv : List (Nat × Value)} {st : List Value} {β : Type} {r : β} {F : Sto → Int32 → Option β} {a1 : Int32} {a2 : Int32} {a3 : Int32} {ix : Nat} (pc : Nat) (C : Cx G X own cc nL n) (hn : 2 < n) (h1 : Cond.methodLink own ix yX7_write ∈ lw_gd) (hd : decode cc pc = .ok (.invokevirtual ix, 3)) (hsum : (st.map fun v => v.category).sum ≤ 8) (h : bd2 (f_X7_write σ a1 a2 a3) F = some r) (kk : ∀ σ1 v, F σ1 v = some r → V G X nL σ1 lv (.int v :: st) (pc + 3)) : V G X nL σ lv (.int a3 :: .int a2 :: .int a1 :: .ref (G.1 0) :: st) pc := by
  obtain ⟨z, hz, h⟩ := bd2_some h
  exact v_callV pc C 0 3 [.int a1, .int a2, .int a3] st (c_f_X7_write (xl X) G C.2.2.2.2.2.2.1 _ _ _ _ _ hz) hn (by decide) (by decide) (ce_0 G _ _) rfl (by decide +kernel) rfl h1 q_726 q_727 q_59 q_728 rfl hsum hd (kk _ _ h)
-- f_X7_tear
def f_X7_tear (σ : Sto) : Option (Sto × Int32) :=
  bs ((σ.1 24 2) + (σ.1 26 2)) fun z1 => bs (su σ 24 2 (0 : Int32)) fun σ2 => bs (su σ2 26 2 (0 : Int32)) fun σ3 => some (σ3, z1)
theorem w_f_X7_tear {G : Wld} {X : Cxt} (C : Cx G X RX7 cX7_tear 2 1) {σ : Sto} {y : Sto × Int32} (h : f_X7_tear σ = some y) (hK : Rx G X (some .int) (some (.int y.2)) y.1) : V G X 2 σ [(0, .ref (G.1 0))] [] 0 := by
  unfold f_X7_tear at h
  refine v_aload_n 0 C 0 0 dX7_tear_0 rfl rfl ?_
  refine g_X7_0_5 1 C dX7_tear_1 ?_
  refine g_X7_24_2 4 C dX7_tear_4 ?_
  refine v_aload_n 7 C 0 0 dX7_tear_7 rfl rfl ?_
  refine g_X7_0_6 8 C dX7_tear_8 ?_
  refine g_X7_26_2 11 C dX7_tear_11 ?_
  refine v_iadd 14 C dX7_tear_14 ?_
  refine b_istore_n 15 C 1 (lv2 := fun z1 => [(1, .int z1), (0, .ref (G.1 0))]) dX7_tear_15 rfl (by decide) (fun _ => rfl) h (fun z1 h => ?_)
  refine v_aload_n 16 C 0 1 dX7_tear_16 rfl rfl ?_
  refine g_X7_0_5 17 C dX7_tear_17 ?_
  refine v_iconst 20 C (0 : Int32) dX7_tear_20 (by decide) ?_
  refine p_X7_24_2 21 C dX7_tear_21 h (fun σ2 h => ?_)
  refine v_aload_n 24 C 0 1 dX7_tear_24 rfl rfl ?_
  refine g_X7_0_6 25 C dX7_tear_25 ?_
  refine v_iconst 28 C (0 : Int32) dX7_tear_28 (by decide) ?_
  refine p_X7_26_2 29 C dX7_tear_29 h (fun σ3 h => ?_)
  refine v_iload_n 32 C 1 0 dX7_tear_32 rfl rfl ?_
  cases h
  exact v_iret 33 C hK dX7_tear_33
theorem c_f_X7_tear (l : Launch) (G : Wld) (hG : GI G) (σ : Sto) (y : Sto × Int32) (h : f_X7_tear σ = some y) : Ct l G yX7_tear cX7_tear 2 (some .int) 1 [.ref (G.1 0)] σ (some (.int y.2)) y.1 := by
  refine ct_intro RX7 hG (by decide) rfl (Nat.le_of_ble_eq_true rfl) (fun X hX C hK => ?_)
  subst hX
  exact w_f_X7_tear C h hK
theorem r_f_X7_tear {G : Wld} {X : Cxt} {own : String} {cc : ByteArray} {nL n : Nat} {σ : Sto} {lv : List (Nat × Value)} {st : List Value} {β : Type} {r : β} {F : Sto → Int32 → Option β} {ix : Nat} (pc : Nat) (C : Cx G X own cc nL n) (hn : 1 < n) (h1 : Cond.methodLink own ix yX7_tear ∈ lw_gd) (hd : decode cc pc = .ok (.invokevirtual ix, 3)) (hsum : (st.map fun v => v.category).sum ≤ 8) (h : bd2 (f_X7_tear σ) F = some r) (kk : ∀ σ1 v, F σ1 v = some r → V G X nL σ1 lv (.int v :: st) (pc + 3)) : V G X nL σ lv (.ref (G.1 0) :: st) pc := by
  obtain ⟨z, hz, h⟩ := bd2_some h
  exact v_callV pc C 0 0 [] st (c_f_X7_tear (xl X) G C.2.2.2.2.2.2.1 _ _ hz) hn (by decide) (by decide) (ce_0 G _ _) rfl (by decide +kernel) rfl h1 q_730 q_731 q_59 q_732 rfl hsum hd (kk _ _ h)
-- f_X4_cell_26
def f_X4_cell_26_j35 (σ : Sto) (s0 : Int32) : Option (Sto × Int32) :=
  some (σ, s0)
def f_X4_cell_26_j21 (σ : Sto) : Option (Sto × Int32) :=
  f_X4_cell_26_j35 σ (0 : Int32)
def f_X4_cell_26 (σ : Sto) (a1 : Int32) (a2 : Int32) : Option (Sto × Int32) :=
  if a1 < 0 then (f_X4_cell_26_j21 σ) else (if (σ.1 26 2) ≤ a1 then (f_X4_cell_26_j21 σ) else (if a2 < 0 then (f_X4_cell_26_j21 σ) else (if a2 < (4 : Int32) then (gd (inB (((4 : Int32) * a1) + a2) 120) (f_X4_cell_26_j35 σ (σ.1 27 ((((4 : Int32) * a1) + a2)).toNatClampNeg))) else (f_X4_cell_26_j21 σ))))
theorem w_f_X4_cell_26_j35 {G : Wld} {X : Cxt} (C : Cx G X RX4 cX4_cell 3 1) {σ : Sto} {s0 : Int32} {y : Sto × Int32} (h : f_X4_cell_26_j35 σ s0 = some y) (hK : Rx G X (some .int) (some (.int y.2)) y.1) : V G X 3 σ [(0, .ref (G.1 26))] [.int s0] 35 := by
  unfold f_X4_cell_26_j35 at h
  cases h
  exact v_iret 35 C hK dX4_cell_35
theorem w_f_X4_cell_26_j21 {G : Wld} {X : Cxt} (C : Cx G X RX4 cX4_cell 3 1) {σ : Sto} {y : Sto × Int32} (h : f_X4_cell_26_j21 σ = some y) (hK : Rx G X (some .int) (some (.int y.2)) y.1) : V G X 3 σ [(0, .ref (G.1 26))] [] 21 := by
  unfold f_X4_cell_26_j21 at h
  refine v_iconst 21 C (0 : Int32) dX4_cell_21 (by decide) ?_
  refine v_goto 22 C 35 dX4_cell_22 (by decide) ?_
  exact v_sub [0] rfl (w_f_X4_cell_26_j35 C h hK)
theorem w_f_X4_cell_26 {G : Wld} {X : Cxt} (C : Cx G X RX4 cX4_cell 3 1) {σ : Sto} {a1 : Int32} {a2 : Int32} {y : Sto × Int32} (h : f_X4_cell_26 σ a1 a2 = some y) (hK : Rx G X (some .int) (some (.int y.2)) y.1) : V G X 3 σ [(0, .ref (G.1 26)), (1, .int a1), (2, .int a2)] [] 0 := by
  unfold f_X4_cell_26 at h
  refine v_iload_n 0 C 1 1 dX4_cell_0 rfl rfl ?_
  refine v_if_lt 1 C 21 dX4_cell_1 (by decide) h (fun h => ?_) (fun h => ?_)
  · exact v_sub [0] rfl (w_f_X4_cell_26_j21 C h hK)
  · refine v_iload_n 4 C 1 1 dX4_cell_4 rfl rfl ?_
    refine v_aload_n 5 C 0 0 dX4_cell_5 rfl rfl ?_
    refine g_X4_26_2 6 C dX4_cell_6 ?_
    refine v_icmp_ge 9 C 21 dX4_cell_9 (by decide) h (fun h => ?_) (fun h => ?_)
    · exact v_sub [0] rfl (w_f_X4_cell_26_j21 C h hK)
    · refine v_iload_n 12 C 2 2 dX4_cell_12 rfl rfl ?_
      refine v_if_lt 13 C 21 dX4_cell_13 (by decide) h (fun h => ?_) (fun h => ?_)
      · exact v_sub [0] rfl (w_f_X4_cell_26_j21 C h hK)
      · refine v_iload_n 16 C 2 2 dX4_cell_16 rfl rfl ?_
        refine v_iconst 17 C (4 : Int32) dX4_cell_17 (by decide) ?_
        refine v_icmp_lt 18 C 25 dX4_cell_18 (by decide) h (fun h => ?_) (fun h => ?_)
        · refine v_aload_n 25 C 0 0 dX4_cell_25 rfl rfl ?_
          refine g_X4_26_1 26 C dX4_cell_26 ?_
          refine v_iconst 29 C (4 : Int32) dX4_cell_29 (by decide) ?_
          refine v_iload_n 30 C 1 1 dX4_cell_30 rfl rfl ?_
          refine v_imul 31 C dX4_cell_31 ?_
          refine v_iload_n 32 C 2 2 dX4_cell_32 rfl rfl ?_
          refine v_iadd 33 C dX4_cell_33 ?_
          refine v_iald 34 C 27 (by decide) (ce_27 G) dX4_cell_34 h (fun h => ?_)
          exact v_sub [0] rfl (w_f_X4_cell_26_j35 C h hK)
        · exact v_sub [0] rfl (w_f_X4_cell_26_j21 C h hK)
theorem c_f_X4_cell_26 (l : Launch) (G : Wld) (hG : GI G) (σ : Sto) (a1 : Int32) (a2 : Int32) (y : Sto × Int32) (h : f_X4_cell_26 σ a1 a2 = some y) : Ct l G yX4_cell cX4_cell 3 (some .int) 1 [.ref (G.1 26), .int a1, .int a2] σ (some (.int y.2)) y.1 := by
  refine ct_intro RX4 hG (by decide) rfl (Nat.le_of_ble_eq_true rfl) (fun X hX C hK => ?_)
  subst hX
  exact w_f_X4_cell_26 C h hK
theorem r_f_X4_cell_26 {G : Wld} {X : Cxt} {own : String} {cc : ByteArray} {nL n : Nat} {σ : Sto} {lv : List (Nat × Value)} {st : List Value} {β : Type} {r : β} {F : Sto → Int32 → Option β} {a1 : Int32} {a2 : Int32} {ix : Nat} (pc : Nat) (C : Cx G X own cc nL n) (hn : 1 < n) (h1 : Cond.methodLink own ix yX4_cell ∈ lw_gd) (hd : decode cc pc = .ok (.invokevirtual ix, 3)) (hsum : (st.map fun v => v.category).sum ≤ 8) (h : bd2 (f_X4_cell_26 σ a1 a2) F = some r) (kk : ∀ σ1 v, F σ1 v = some r → V G X nL σ1 lv (.int v :: st) (pc + 3)) : V G X nL σ lv (.int a2 :: .int a1 :: .ref (G.1 26) :: st) pc := by
  obtain ⟨z, hz, h⟩ := bd2_some h
  exact v_callV pc C 26 2 [.int a1, .int a2] st (c_f_X4_cell_26 (xl X) G C.2.2.2.2.2.2.1 _ _ _ _ hz) hn (by decide) (by decide) (ce_26 G _ _) rfl (by decide +kernel) rfl h1 q_721 q_722 q_64 q_723 rfl hsum hd (kk _ _ h)
-- f_X7_judge
def f_X7_judge_l2 (σ : Sto) (x1 : Int32) : Option ((Sto × Int32) ⊕ ((Sto × Int32) ⊕ (Sto × Int32))) :=
  if (σ.1 26 2) ≤ x1 then (some (.inr (.inr (σ, x1)))) else (bd2 (f_X4_cell_26 σ x1 (0 : Int32)) fun σ2 v3 => bd1 (f_X7_showAt σ2 v3 (σ2.1 10 3)) fun σ4 => bd2 (f_X4_cell_26 σ4 x1 (1 : Int32)) fun σ6 v7 => bd2 (f_X5_almsOf_28 σ6 v7) fun σ8 v9 => bd2 (f_X4_cell_26 σ8 x1 (2 : Int32)) fun σ10 v11 => if v9 = v11 then (bs (x1 + (1 : Int32)) fun z12 => some (.inl (σ10, z12))) else (some (.inr (.inl (σ10, x1)))))
def f_X7_judge (σ : Sto) : Option (Sto × Int32) :=
  bs (0 : Int32) fun z1 => bR1 (lpF (fun t => f_X7_judge_l2 t.1 t.2) FU (σ, z1)) (fun u => some u) (fun σ13 z14 => some (σ13, (-1 : Int32)))
theorem w_f_X7_judge_l2 {G : Wld} {X : Cxt} (C : Cx G X RX7 cX7_judge 2 6) {σ : Sto} {x1 : Int32} {y : (Sto × Int32) ⊕ ((Sto × Int32) ⊕ (Sto × Int32))} (h : f_X7_judge_l2 σ x1 = some y) (hc : ∀ t : Sto × Int32, y = .inl t → V G X 2 t.1 [(0, .ref (G.1 0)), (1, .int t.2)] [] 2) {Ve : (Sto × Int32) ⊕ (Sto × Int32) → Prop} (he : ∀ e, y = .inr e → Ve e) (hr : ∀ (σ : Sto) (v : Int32), Ve (.inl (σ, v)) → Rx G X (some .int) (some (.int v)) σ) (hx : ∀ (σ : Sto) (x1 : Int32), Ve (.inr (σ, x1)) → V G X 2 σ [(0, .ref (G.1 0)), (1, .int x1)] [] 69) : V G X 2 σ [(0, .ref (G.1 0)), (1, .int x1)] [] 2 := by
  unfold f_X7_judge_l2 at h
  refine v_iload_n 2 C 1 1 dX7_judge_2 rfl rfl ?_
  refine v_aload_n 3 C 0 0 dX7_judge_3 rfl rfl ?_
  refine g_X7_0_6 4 C dX7_judge_4 ?_
  refine g_X7_26_2 7 C dX7_judge_7 ?_
  refine v_icmp_ge 10 C 69 dX7_judge_10 (by decide) h (fun h => ?_) (fun h => ?_)
  · exact v_sub [0, 1] rfl (hx _ _ (he _ (Option.some.inj h).symm))
  · refine v_aload_n 13 C 0 0 dX7_judge_13 rfl rfl ?_
    refine v_aload_n 14 C 0 0 dX7_judge_14 rfl rfl ?_
    refine g_X7_0_6 15 C dX7_judge_15 ?_
    refine v_iload_n 18 C 1 1 dX7_judge_18 rfl rfl ?_
    refine v_iconst 19 C (0 : Int32) dX7_judge_19 (by decide) ?_
    refine r_f_X4_cell_26 20 C (by decide) q_720 dX7_judge_20 (Nat.le_of_ble_eq_true rfl) h (fun σ2 v3 h => ?_)
    refine v_aload_n 23 C 0 0 dX7_judge_23 rfl rfl ?_
    refine g_X7_0_2 24 C dX7_judge_24 ?_
    refine g_X7_10_3 27 C dX7_judge_27 ?_
    refine r_f_X7_showAt 30 C (by decide) q_532 dX7_judge_30 (Nat.le_of_ble_eq_true rfl) h (fun σ4 h => ?_)
    refine v_aload_n 33 C 0 0 dX7_judge_33 rfl rfl ?_
    refine g_X7_0_7 34 C dX7_judge_34 ?_
    refine v_aload_n 37 C 0 0 dX7_judge_37 rfl rfl ?_
    refine g_X7_0_6 38 C dX7_judge_38 ?_
    refine v_iload_n 41 C 1 1 dX7_judge_41 rfl rfl ?_
    refine v_iconst 42 C (1 : Int32) dX7_judge_42 (by decide) ?_
    refine r_f_X4_cell_26 43 C (by decide) q_720 dX7_judge_43 (Nat.le_of_ble_eq_true rfl) h (fun σ6 v7 h => ?_)
    refine r_f_X5_almsOf_28 46 C (by decide) q_573 dX7_judge_46 (Nat.le_of_ble_eq_true rfl) h (fun σ8 v9 h => ?_)
    refine v_aload_n 49 C 0 0 dX7_judge_49 rfl rfl ?_
    refine g_X7_0_6 50 C dX7_judge_50 ?_
    refine v_iload_n 53 C 1 1 dX7_judge_53 rfl rfl ?_
    refine v_iconst 54 C (2 : Int32) dX7_judge_54 (by decide) ?_
    refine r_f_X4_cell_26 55 C (by decide) q_720 dX7_judge_55 (Nat.le_of_ble_eq_true rfl) h (fun σ10 v11 h => ?_)
    refine v_icmp_eq 58 C 63 dX7_judge_58 (by decide) h (fun h => ?_) (fun h => ?_)
    · refine b_iinc 63 C 1 1 (1 : Int32) (lv2 := fun z12 => [(1, .int z12), (0, .ref (G.1 0))]) dX7_judge_63 rfl (by decide) (by decide) (fun _ => rfl) h (fun z12 h => ?_)
      refine v_goto 66 C 2 dX7_judge_66 (by decide) ?_
      exact v_sub [1, 0] rfl (hc _ (Option.some.inj h).symm)
    · refine v_iload_n 61 C 1 1 dX7_judge_61 rfl rfl ?_
      exact v_iret 62 C (hr _ _ (he _ (Option.some.inj h).symm)) dX7_judge_62
theorem w_f_X7_judge {G : Wld} {X : Cxt} (C : Cx G X RX7 cX7_judge 2 6) {σ : Sto} {y : Sto × Int32} (h : f_X7_judge σ = some y) (hK : Rx G X (some .int) (some (.int y.2)) y.1) : V G X 2 σ [(0, .ref (G.1 0))] [] 0 := by
  unfold f_X7_judge at h
  refine v_iconst 0 C (0 : Int32) dX7_judge_0 (by decide) ?_
  refine b_istore_n 1 C 1 (lv2 := fun z1 => [(1, .int z1), (0, .ref (G.1 0))]) dX7_judge_1 rfl (by decide) (fun _ => rfl) h (fun z1 h => ?_)
  refine v_sub [1, 0] rfl ?_
  refine lp_go (Vh := fun t => V G X 2 t.1 [(0, .ref (G.1 0)), (1, .int t.2)] [] 2) h ?_
  intro t15 y15 hy15 hc15 he15
  refine w_f_X7_judge_l2 C hy15 hc15 he15 (fun _ _ h => by cases h; exact hK) (fun σ13 z14 h => ?_)
  dsimp only at h
  refine v_iconst 69 C (-1 : Int32) dX7_judge_69 (by decide) ?_
  cases h
  exact v_iret 70 C hK dX7_judge_70
theorem c_f_X7_judge (l : Launch) (G : Wld) (hG : GI G) (σ : Sto) (y : Sto × Int32) (h : f_X7_judge σ = some y) : Ct l G yX7_judge cX7_judge 2 (some .int) 6 [.ref (G.1 0)] σ (some (.int y.2)) y.1 := by
  refine ct_intro RX7 hG (by decide) rfl (Nat.le_of_ble_eq_true rfl) (fun X hX C hK => ?_)
  subst hX
  exact w_f_X7_judge C h hK
theorem r_f_X7_judge {G : Wld} {X : Cxt} {own : String} {cc : ByteArray} {nL n : Nat} {σ : Sto} {lv : List (Nat × Value)} {st : List Value} {β : Type} {r : β} {F : Sto → Int32 → Option β} {ix : Nat} (pc : Nat) (C : Cx G X own cc nL n) (hn : 6 < n) (h1 : Cond.methodLink own ix yX7_judge ∈ lw_gd) (hd : decode cc pc = .ok (.invokevirtual ix, 3)) (hsum : (st.map fun v => v.category).sum ≤ 8) (h : bd2 (f_X7_judge σ) F = some r) (kk : ∀ σ1 v, F σ1 v = some r → V G X nL σ1 lv (.int v :: st) (pc + 3)) : V G X nL σ lv (.ref (G.1 0) :: st) pc := by
  obtain ⟨z, hz, h⟩ := bd2_some h
  exact v_callV pc C 0 0 [] st (c_f_X7_judge (xl X) G C.2.2.2.2.2.2.1 _ _ hz) hn (by decide) (by decide) (ce_0 G _ _) rfl (by decide +kernel) rfl h1 q_734 q_735 q_59 q_736 rfl hsum hd (kk _ _ h)
-- f_X7_seed
def f_X7_seed (σ : Sto) (a1 : Int32) : Option (Sto × Int32) :=
  if 0 ≤ a1 then (bs (σ.1 10 6) fun z1 => bs (su σ 10 6 a1) fun σ2 => some (σ2, z1)) else (some (σ, (-1000000002 : Int32)))
theorem w_f_X7_seed {G : Wld} {X : Cxt} (C : Cx G X RX7 cX7_seed 3 1) {σ : Sto} {a1 : Int32} {y : Sto × Int32} (h : f_X7_seed σ a1 = some y) (hK : Rx G X (some .int) (some (.int y.2)) y.1) : V G X 3 σ [(0, .ref (G.1 0)), (1, .int a1)] [] 0 := by
  unfold f_X7_seed at h
  refine v_iload_n 0 C 1 1 dX7_seed_0 rfl rfl ?_
  refine v_if_ge 1 C 7 dX7_seed_1 (by decide) h (fun h => ?_) (fun h => ?_)
  · refine v_aload_n 7 C 0 0 dX7_seed_7 rfl rfl ?_
    refine g_X7_0_2 8 C dX7_seed_8 ?_
    refine g_X7_10_6 11 C dX7_seed_11 ?_
    refine b_istore_n 14 C 2 (lv2 := fun z1 => [(2, .int z1), (0, .ref (G.1 0)), (1, .int a1)]) dX7_seed_14 rfl (by decide) (fun _ => rfl) h (fun z1 h => ?_)
    refine v_aload_n 15 C 0 1 dX7_seed_15 rfl rfl ?_
    refine g_X7_0_2 16 C dX7_seed_16 ?_
    refine v_iload_n 19 C 1 2 dX7_seed_19 rfl rfl ?_
    refine p_X7_10_6 20 C dX7_seed_20 h (fun σ2 h => ?_)
    refine v_iload_n 23 C 2 0 dX7_seed_23 rfl rfl ?_
    cases h
    exact v_iret 24 C hK dX7_seed_24
  · refine v_ldc 4 C dX7_seed_4 q_323 ?_
    cases h
    exact v_iret 6 C hK dX7_seed_6
theorem c_f_X7_seed (l : Launch) (G : Wld) (hG : GI G) (σ : Sto) (a1 : Int32) (y : Sto × Int32) (h : f_X7_seed σ a1 = some y) : Ct l G yX7_seed cX7_seed 3 (some .int) 1 [.ref (G.1 0), .int a1] σ (some (.int y.2)) y.1 := by
  refine ct_intro RX7 hG (by decide) rfl (Nat.le_of_ble_eq_true rfl) (fun X hX C hK => ?_)
  subst hX
  exact w_f_X7_seed C h hK
theorem r_f_X7_seed {G : Wld} {X : Cxt} {own : String} {cc : ByteArray} {nL n : Nat} {σ : Sto} {lv : List (Nat × Value)} {st : List Value} {β : Type} {r : β} {F : Sto → Int32 → Option β} {a1 : Int32} {ix : Nat} (pc : Nat) (C : Cx G X own cc nL n) (hn : 1 < n) (h1 : Cond.methodLink own ix yX7_seed ∈ lw_gd) (hd : decode cc pc = .ok (.invokevirtual ix, 3)) (hsum : (st.map fun v => v.category).sum ≤ 8) (h : bd2 (f_X7_seed σ a1) F = some r) (kk : ∀ σ1 v, F σ1 v = some r → V G X nL σ1 lv (.int v :: st) (pc + 3)) : V G X nL σ lv (.int a1 :: .ref (G.1 0) :: st) pc := by
  obtain ⟨z, hz, h⟩ := bd2_some h
  exact v_callV pc C 0 1 [.int a1] st (c_f_X7_seed (xl X) G C.2.2.2.2.2.2.1 _ _ _ hz) hn (by decide) (by decide) (ce_0 G _ _) rfl (by decide +kernel) rfl h1 q_738 q_739 q_59 q_740 rfl hsum hd (kk _ _ h)
-- f_X6_become_15_10
def f_X6_become_15_10 (σ : Sto) : Option (Sto) :=
  gd (decide (0 ≤ ((0 : Int32)).toInt ∧ 0 ≤ ((0 : Int32)).toInt ∧ 0 ≤ ((6 : Int32)).toInt ∧ ((0 : Int32)).toInt + ((6 : Int32)).toInt ≤ 6 ∧ ((0 : Int32)).toInt + ((6 : Int32)).toInt ≤ 6)) (bs (sc σ 16 (va_cpy (σ.1 11) (σ.1 16) ((0 : Int32)).toNatClampNeg ((0 : Int32)).toNatClampNeg ((6 : Int32)).toNatClampNeg)) fun σ1 => gd (decide (0 ≤ ((0 : Int32)).toInt ∧ 0 ≤ ((0 : Int32)).toInt ∧ 0 ≤ ((4 : Int32)).toInt ∧ ((0 : Int32)).toInt + ((4 : Int32)).toInt ≤ 4 ∧ ((0 : Int32)).toInt + ((4 : Int32)).toInt ≤ 4)) (bs (sc σ1 17 (va_cpy (σ1.1 12) (σ1.1 17) ((0 : Int32)).toNatClampNeg ((0 : Int32)).toNatClampNeg ((4 : Int32)).toNatClampNeg)) fun σ2 => gd (decide (0 ≤ ((0 : Int32)).toInt ∧ 0 ≤ ((0 : Int32)).toInt ∧ 0 ≤ ((6 : Int32)).toInt ∧ ((0 : Int32)).toInt + ((6 : Int32)).toInt ≤ 6 ∧ ((0 : Int32)).toInt + ((6 : Int32)).toInt ≤ 6)) (bs (sc σ2 18 (va_cpy (σ2.1 13) (σ2.1 18) ((0 : Int32)).toNatClampNeg ((0 : Int32)).toNatClampNeg ((6 : Int32)).toNatClampNeg)) fun σ3 => bs (su σ3 15 3 (σ3.1 10 3)) fun σ4 => bs (su σ4 15 4 (σ4.1 10 4)) fun σ5 => bs (su σ5 15 5 (σ5.1 10 5)) fun σ6 => bs (su σ6 15 6 (σ6.1 10 6)) fun σ7 => some σ7)))
theorem w_f_X6_become_15_10 {G : Wld} {X : Cxt} (C : Cx G X RX6 cX6_become 2 1) {σ : Sto} {y : Sto} (h : f_X6_become_15_10 σ = some y) (hK : Rx G X none none y) : V G X 2 σ [(0, .ref (G.1 15)), (1, .ref (G.1 10))] [] 0 := by
  unfold f_X6_become_15_10 at h
  refine v_aload_n 0 C 1 1 dX6_become_0 rfl rfl ?_
  refine g_X6_10_0 1 C dX6_become_1 ?_
  refine v_iconst 4 C (0 : Int32) dX6_become_4 (by decide) ?_
  refine v_aload_n 5 C 0 0 dX6_become_5 rfl rfl ?_
  refine g_X6_15_0 6 C dX6_become_6 ?_
  refine v_iconst 9 C (0 : Int32) dX6_become_9 (by decide) ?_
  refine v_bipush 10 C (6 : Int32) dX6_become_10 (by decide) ?_
  refine b_copy 12 C 11 16 (by decide) (by decide) (ce_11 G) (ce_16 G) q_749 q_458 q_457 q_73 (Nat.le_of_ble_eq_true rfl) (by decide) dX6_become_12 h (fun σ1 h => ?_)
  refine v_aload_n 15 C 1 1 dX6_become_15 rfl rfl ?_
  refine g_X6_10_1 16 C dX6_become_16 ?_
  refine v_iconst 19 C (0 : Int32) dX6_become_19 (by decide) ?_
  refine v_aload_n 20 C 0 0 dX6_become_20 rfl rfl ?_
  refine g_X6_15_1 21 C dX6_become_21 ?_
  refine v_iconst 24 C (0 : Int32) dX6_become_24 (by decide) ?_
  refine v_iconst 25 C (4 : Int32) dX6_become_25 (by decide) ?_
  refine b_copy 26 C 12 17 (by decide) (by decide) (ce_12 G) (ce_17 G) q_749 q_458 q_457 q_73 (Nat.le_of_ble_eq_true rfl) (by decide) dX6_become_26 h (fun σ2 h => ?_)
  refine v_aload_n 29 C 1 1 dX6_become_29 rfl rfl ?_
  refine g_X6_10_2 30 C dX6_become_30 ?_
  refine v_iconst 33 C (0 : Int32) dX6_become_33 (by decide) ?_
  refine v_aload_n 34 C 0 0 dX6_become_34 rfl rfl ?_
  refine g_X6_15_2 35 C dX6_become_35 ?_
  refine v_iconst 38 C (0 : Int32) dX6_become_38 (by decide) ?_
  refine v_bipush 39 C (6 : Int32) dX6_become_39 (by decide) ?_
  refine b_copy 41 C 13 18 (by decide) (by decide) (ce_13 G) (ce_18 G) q_749 q_458 q_457 q_73 (Nat.le_of_ble_eq_true rfl) (by decide) dX6_become_41 h (fun σ3 h => ?_)
  refine v_aload_n 44 C 0 0 dX6_become_44 rfl rfl ?_
  refine v_aload_n 45 C 1 1 dX6_become_45 rfl rfl ?_
  refine g_X6_10_3 46 C dX6_become_46 ?_
  refine p_X6_15_3 49 C dX6_become_49 h (fun σ4 h => ?_)
  refine v_aload_n 52 C 0 0 dX6_become_52 rfl rfl ?_
  refine v_aload_n 53 C 1 1 dX6_become_53 rfl rfl ?_
  refine g_X6_10_4 54 C dX6_become_54 ?_
  refine p_X6_15_4 57 C dX6_become_57 h (fun σ5 h => ?_)
  refine v_aload_n 60 C 0 0 dX6_become_60 rfl rfl ?_
  refine v_aload_n 61 C 1 1 dX6_become_61 rfl rfl ?_
  refine g_X6_10_5 62 C dX6_become_62 ?_
  refine p_X6_15_5 65 C dX6_become_65 h (fun σ6 h => ?_)
  refine v_aload_n 68 C 0 0 dX6_become_68 rfl rfl ?_
  refine v_aload_n 69 C 1 1 dX6_become_69 rfl rfl ?_
  refine g_X6_10_6 70 C dX6_become_70 ?_
  refine p_X6_15_6 73 C dX6_become_73 h (fun σ7 h => ?_)
  cases h
  exact v_vret 76 C hK dX6_become_76
theorem c_f_X6_become_15_10 (l : Launch) (G : Wld) (hG : GI G) (σ : Sto) (y : Sto) (h : f_X6_become_15_10 σ = some y) : Ct l G yX6_become cX6_become 2 none 1 [.ref (G.1 15), .ref (G.1 10)] σ none y := by
  refine ct_intro RX6 hG (by decide) rfl (Nat.le_of_ble_eq_true rfl) (fun X hX C hK => ?_)
  subst hX
  exact w_f_X6_become_15_10 C h hK
theorem r_f_X6_become_15_10 {G : Wld} {X : Cxt} {own : String} {cc : ByteArray} {nL n : Nat} {σ : Sto} {lv : List (Nat × Value)} {st : List Value} {β : Type} {r : β} {F : Sto → Option β} {ix : Nat} (pc : Nat) (C : Cx G X own cc nL n) (hn : 1 < n) (h1 : Cond.methodLink own ix yX6_become ∈ lw_gd) (hd : decode cc pc = .ok (.invokevirtual ix, 3)) (hsum : (st.map fun v => v.category).sum ≤ 8) (h : bd1 (f_X6_become_15_10 σ) F = some r) (kk : ∀ σ1, F σ1 = some r → V G X nL σ1 lv (st) (pc + 3)) : V G X nL σ lv (.ref (G.1 10) :: .ref (G.1 15) :: st) pc := by
  obtain ⟨z, hz, h⟩ := bd1_some h
  exact v_callV pc C 15 1 [.ref (G.1 10)] st (c_f_X6_become_15_10 (xl X) G C.2.2.2.2.2.2.1 _ _ hz) hn (by decide) (by decide) (ce_15 G _ _) rfl (by decide +kernel) rfl h1 q_746 q_747 q_62 q_748 rfl hsum hd (kk _ h)
-- f_X6_become_19_10
def f_X6_become_19_10 (σ : Sto) : Option (Sto) :=
  gd (decide (0 ≤ ((0 : Int32)).toInt ∧ 0 ≤ ((0 : Int32)).toInt ∧ 0 ≤ ((6 : Int32)).toInt ∧ ((0 : Int32)).toInt + ((6 : Int32)).toInt ≤ 6 ∧ ((0 : Int32)).toInt + ((6 : Int32)).toInt ≤ 6)) (bs (sc σ 20 (va_cpy (σ.1 11) (σ.1 20) ((0 : Int32)).toNatClampNeg ((0 : Int32)).toNatClampNeg ((6 : Int32)).toNatClampNeg)) fun σ1 => gd (decide (0 ≤ ((0 : Int32)).toInt ∧ 0 ≤ ((0 : Int32)).toInt ∧ 0 ≤ ((4 : Int32)).toInt ∧ ((0 : Int32)).toInt + ((4 : Int32)).toInt ≤ 4 ∧ ((0 : Int32)).toInt + ((4 : Int32)).toInt ≤ 4)) (bs (sc σ1 21 (va_cpy (σ1.1 12) (σ1.1 21) ((0 : Int32)).toNatClampNeg ((0 : Int32)).toNatClampNeg ((4 : Int32)).toNatClampNeg)) fun σ2 => gd (decide (0 ≤ ((0 : Int32)).toInt ∧ 0 ≤ ((0 : Int32)).toInt ∧ 0 ≤ ((6 : Int32)).toInt ∧ ((0 : Int32)).toInt + ((6 : Int32)).toInt ≤ 6 ∧ ((0 : Int32)).toInt + ((6 : Int32)).toInt ≤ 6)) (bs (sc σ2 22 (va_cpy (σ2.1 13) (σ2.1 22) ((0 : Int32)).toNatClampNeg ((0 : Int32)).toNatClampNeg ((6 : Int32)).toNatClampNeg)) fun σ3 => bs (su σ3 19 3 (σ3.1 10 3)) fun σ4 => bs (su σ4 19 4 (σ4.1 10 4)) fun σ5 => bs (su σ5 19 5 (σ5.1 10 5)) fun σ6 => bs (su σ6 19 6 (σ6.1 10 6)) fun σ7 => some σ7)))
theorem w_f_X6_become_19_10 {G : Wld} {X : Cxt} (C : Cx G X RX6 cX6_become 2 1) {σ : Sto} {y : Sto} (h : f_X6_become_19_10 σ = some y) (hK : Rx G X none none y) : V G X 2 σ [(0, .ref (G.1 19)), (1, .ref (G.1 10))] [] 0 := by
  unfold f_X6_become_19_10 at h
  refine v_aload_n 0 C 1 1 dX6_become_0 rfl rfl ?_
  refine g_X6_10_0 1 C dX6_become_1 ?_
  refine v_iconst 4 C (0 : Int32) dX6_become_4 (by decide) ?_
  refine v_aload_n 5 C 0 0 dX6_become_5 rfl rfl ?_
  refine g_X6_19_0 6 C dX6_become_6 ?_
  refine v_iconst 9 C (0 : Int32) dX6_become_9 (by decide) ?_
  refine v_bipush 10 C (6 : Int32) dX6_become_10 (by decide) ?_
  refine b_copy 12 C 11 20 (by decide) (by decide) (ce_11 G) (ce_20 G) q_749 q_458 q_457 q_73 (Nat.le_of_ble_eq_true rfl) (by decide) dX6_become_12 h (fun σ1 h => ?_)
  refine v_aload_n 15 C 1 1 dX6_become_15 rfl rfl ?_
  refine g_X6_10_1 16 C dX6_become_16 ?_
  refine v_iconst 19 C (0 : Int32) dX6_become_19 (by decide) ?_
  refine v_aload_n 20 C 0 0 dX6_become_20 rfl rfl ?_
  refine g_X6_19_1 21 C dX6_become_21 ?_
  refine v_iconst 24 C (0 : Int32) dX6_become_24 (by decide) ?_
  refine v_iconst 25 C (4 : Int32) dX6_become_25 (by decide) ?_
  refine b_copy 26 C 12 21 (by decide) (by decide) (ce_12 G) (ce_21 G) q_749 q_458 q_457 q_73 (Nat.le_of_ble_eq_true rfl) (by decide) dX6_become_26 h (fun σ2 h => ?_)
  refine v_aload_n 29 C 1 1 dX6_become_29 rfl rfl ?_
  refine g_X6_10_2 30 C dX6_become_30 ?_
  refine v_iconst 33 C (0 : Int32) dX6_become_33 (by decide) ?_
  refine v_aload_n 34 C 0 0 dX6_become_34 rfl rfl ?_
  refine g_X6_19_2 35 C dX6_become_35 ?_
  refine v_iconst 38 C (0 : Int32) dX6_become_38 (by decide) ?_
  refine v_bipush 39 C (6 : Int32) dX6_become_39 (by decide) ?_
  refine b_copy 41 C 13 22 (by decide) (by decide) (ce_13 G) (ce_22 G) q_749 q_458 q_457 q_73 (Nat.le_of_ble_eq_true rfl) (by decide) dX6_become_41 h (fun σ3 h => ?_)
  refine v_aload_n 44 C 0 0 dX6_become_44 rfl rfl ?_
  refine v_aload_n 45 C 1 1 dX6_become_45 rfl rfl ?_
  refine g_X6_10_3 46 C dX6_become_46 ?_
  refine p_X6_19_3 49 C dX6_become_49 h (fun σ4 h => ?_)
  refine v_aload_n 52 C 0 0 dX6_become_52 rfl rfl ?_
  refine v_aload_n 53 C 1 1 dX6_become_53 rfl rfl ?_
  refine g_X6_10_4 54 C dX6_become_54 ?_
  refine p_X6_19_4 57 C dX6_become_57 h (fun σ5 h => ?_)
  refine v_aload_n 60 C 0 0 dX6_become_60 rfl rfl ?_
  refine v_aload_n 61 C 1 1 dX6_become_61 rfl rfl ?_
  refine g_X6_10_5 62 C dX6_become_62 ?_
  refine p_X6_19_5 65 C dX6_become_65 h (fun σ6 h => ?_)
  refine v_aload_n 68 C 0 0 dX6_become_68 rfl rfl ?_
  refine v_aload_n 69 C 1 1 dX6_become_69 rfl rfl ?_
  refine g_X6_10_6 70 C dX6_become_70 ?_
  refine p_X6_19_6 73 C dX6_become_73 h (fun σ7 h => ?_)
  cases h
  exact v_vret 76 C hK dX6_become_76
theorem c_f_X6_become_19_10 (l : Launch) (G : Wld) (hG : GI G) (σ : Sto) (y : Sto) (h : f_X6_become_19_10 σ = some y) : Ct l G yX6_become cX6_become 2 none 1 [.ref (G.1 19), .ref (G.1 10)] σ none y := by
  refine ct_intro RX6 hG (by decide) rfl (Nat.le_of_ble_eq_true rfl) (fun X hX C hK => ?_)
  subst hX
  exact w_f_X6_become_19_10 C h hK
theorem r_f_X6_become_19_10 {G : Wld} {X : Cxt} {own : String} {cc : ByteArray} {nL n : Nat} {σ : Sto} {lv : List (Nat × Value)} {st : List Value} {β : Type} {r : β} {F : Sto → Option β} {ix : Nat} (pc : Nat) (C : Cx G X own cc nL n) (hn : 1 < n) (h1 : Cond.methodLink own ix yX6_become ∈ lw_gd) (hd : decode cc pc = .ok (.invokevirtual ix, 3)) (hsum : (st.map fun v => v.category).sum ≤ 8) (h : bd1 (f_X6_become_19_10 σ) F = some r) (kk : ∀ σ1, F σ1 = some r → V G X nL σ1 lv (st) (pc + 3)) : V G X nL σ lv (.ref (G.1 10) :: .ref (G.1 19) :: st) pc := by
  obtain ⟨z, hz, h⟩ := bd1_some h
  exact v_callV pc C 19 1 [.ref (G.1 10)] st (c_f_X6_become_19_10 (xl X) G C.2.2.2.2.2.2.1 _ _ hz) hn (by decide) (by decide) (ce_19 G _ _) rfl (by decide +kernel) rfl h1 q_746 q_747 q_62 q_748 rfl hsum hd (kk _ h)
-- f_X7_keep
def f_X7_keep_j9 (σ : Sto) : Option (Sto × Int32) :=
  some (σ, (-1000000001 : Int32))
def f_X7_keep (σ : Sto) (a1 : Int32) : Option (Sto × Int32) :=
  if a1 < 0 then (f_X7_keep_j9 σ) else (if a1 < (2 : Int32) then (gd (inB a1 2) (if a1 = 0 then (bd1 (f_X6_become_15_10 σ) fun σ1 => gd (inB a1 2) (bs (su σ1 23 (a1).toNatClampNeg (vp_nar .boolean (1 : Int32))) fun σ3 => some (σ3, (1 : Int32)))) else (bd1 (f_X6_become_19_10 σ) fun σ4 => gd (inB a1 2) (bs (su σ4 23 (a1).toNatClampNeg (vp_nar .boolean (1 : Int32))) fun σ6 => some (σ6, (1 : Int32)))))) else (f_X7_keep_j9 σ))
theorem w_f_X7_keep_j9 {G : Wld} {X : Cxt} (C : Cx G X RX7 cX7_keep 2 2) {σ : Sto} {y : Sto × Int32} (h : f_X7_keep_j9 σ = some y) (hK : Rx G X (some .int) (some (.int y.2)) y.1) : V G X 2 σ [(0, .ref (G.1 0))] [] 9 := by
  unfold f_X7_keep_j9 at h
  refine v_ldc 9 C dX7_keep_9 q_493 ?_
  cases h
  exact v_iret 11 C hK dX7_keep_11
theorem w_f_X7_keep {G : Wld} {X : Cxt} (C : Cx G X RX7 cX7_keep 2 2) {σ : Sto} {a1 : Int32} {y : Sto × Int32} (h : f_X7_keep σ a1 = some y) (hK : Rx G X (some .int) (some (.int y.2)) y.1) : V G X 2 σ [(0, .ref (G.1 0)), (1, .int a1)] [] 0 := by
  unfold f_X7_keep at h
  refine v_iload_n 0 C 1 1 dX7_keep_0 rfl rfl ?_
  refine v_if_lt 1 C 9 dX7_keep_1 (by decide) h (fun h => ?_) (fun h => ?_)
  · exact v_sub [0] rfl (w_f_X7_keep_j9 C h hK)
  · refine v_iload_n 4 C 1 1 dX7_keep_4 rfl rfl ?_
    refine v_iconst 5 C (2 : Int32) dX7_keep_5 (by decide) ?_
    refine v_icmp_lt 6 C 12 dX7_keep_6 (by decide) h (fun h => ?_) (fun h => ?_)
    · refine v_aload_n 12 C 0 0 dX7_keep_12 rfl rfl ?_
      refine g_X7_0_3 13 C dX7_keep_13 ?_
      refine v_iload_n 16 C 1 1 dX7_keep_16 rfl rfl ?_
      refine v_aald 17 C dX7_keep_17 h (fun h => ?_) (fun h => ?_)
      · refine v_aload_n 18 C 0 0 dX7_keep_18 rfl rfl ?_
        refine g_X7_0_2 19 C dX7_keep_19 ?_
        refine r_f_X6_become_15_10 22 C (by decide) q_745 dX7_keep_22 (Nat.le_of_ble_eq_true rfl) h (fun σ1 h => ?_)
        refine v_aload_n 25 C 0 0 dX7_keep_25 rfl rfl ?_
        refine g_X7_0_4 26 C dX7_keep_26 ?_
        refine v_iload_n 29 C 1 1 dX7_keep_29 rfl rfl ?_
        refine v_iconst 30 C (1 : Int32) dX7_keep_30 (by decide) ?_
        refine b_zast 31 C 23 (by decide) (ce_23 G) dX7_keep_31 h (fun σ3 h => ?_)
        refine v_iconst 32 C (1 : Int32) dX7_keep_32 (by decide) ?_
        cases h
        exact v_iret 33 C hK dX7_keep_33
      · refine v_aload_n 18 C 0 0 dX7_keep_18 rfl rfl ?_
        refine g_X7_0_2 19 C dX7_keep_19 ?_
        refine r_f_X6_become_19_10 22 C (by decide) q_745 dX7_keep_22 (Nat.le_of_ble_eq_true rfl) h (fun σ4 h => ?_)
        refine v_aload_n 25 C 0 0 dX7_keep_25 rfl rfl ?_
        refine g_X7_0_4 26 C dX7_keep_26 ?_
        refine v_iload_n 29 C 1 1 dX7_keep_29 rfl rfl ?_
        refine v_iconst 30 C (1 : Int32) dX7_keep_30 (by decide) ?_
        refine b_zast 31 C 23 (by decide) (ce_23 G) dX7_keep_31 h (fun σ6 h => ?_)
        refine v_iconst 32 C (1 : Int32) dX7_keep_32 (by decide) ?_
        cases h
        exact v_iret 33 C hK dX7_keep_33
    · exact v_sub [0] rfl (w_f_X7_keep_j9 C h hK)
theorem c_f_X7_keep (l : Launch) (G : Wld) (hG : GI G) (σ : Sto) (a1 : Int32) (y : Sto × Int32) (h : f_X7_keep σ a1 = some y) : Ct l G yX7_keep cX7_keep 2 (some .int) 2 [.ref (G.1 0), .int a1] σ (some (.int y.2)) y.1 := by
  refine ct_intro RX7 hG (by decide) rfl (Nat.le_of_ble_eq_true rfl) (fun X hX C hK => ?_)
  subst hX
  exact w_f_X7_keep C h hK
theorem r_f_X7_keep {G : Wld} {X : Cxt} {own : String} {cc : ByteArray} {nL n : Nat} {σ : Sto} {lv : List (Nat × Value)} {st : List Value} {β : Type} {r : β} {F : Sto → Int32 → Option β} {a1 : Int32} {ix : Nat} (pc : Nat) (C : Cx G X own cc nL n) (hn : 2 < n) (h1 : Cond.methodLink own ix yX7_keep ∈ lw_gd) (hd : decode cc pc = .ok (.invokevirtual ix, 3)) (hsum : (st.map fun v => v.category).sum ≤ 8) (h : bd2 (f_X7_keep σ a1) F = some r) (kk : ∀ σ1 v, F σ1 v = some r → V G X nL σ1 lv (.int v :: st) (pc + 3)) : V G X nL σ lv (.int a1 :: .ref (G.1 0) :: st) pc := by
  obtain ⟨z, hz, h⟩ := bd2_some h
  exact v_callV pc C 0 1 [.int a1] st (c_f_X7_keep (xl X) G C.2.2.2.2.2.2.1 _ _ _ hz) hn (by decide) (by decide) (ce_0 G _ _) rfl (by decide +kernel) rfl h1 q_742 q_743 q_59 q_744 rfl hsum hd (kk _ _ h)
-- f_X6_become_10_15
def f_X6_become_10_15 (σ : Sto) : Option (Sto) :=
  gd (decide (0 ≤ ((0 : Int32)).toInt ∧ 0 ≤ ((0 : Int32)).toInt ∧ 0 ≤ ((6 : Int32)).toInt ∧ ((0 : Int32)).toInt + ((6 : Int32)).toInt ≤ 6 ∧ ((0 : Int32)).toInt + ((6 : Int32)).toInt ≤ 6)) (bs (sc σ 11 (va_cpy (σ.1 16) (σ.1 11) ((0 : Int32)).toNatClampNeg ((0 : Int32)).toNatClampNeg ((6 : Int32)).toNatClampNeg)) fun σ1 => gd (decide (0 ≤ ((0 : Int32)).toInt ∧ 0 ≤ ((0 : Int32)).toInt ∧ 0 ≤ ((4 : Int32)).toInt ∧ ((0 : Int32)).toInt + ((4 : Int32)).toInt ≤ 4 ∧ ((0 : Int32)).toInt + ((4 : Int32)).toInt ≤ 4)) (bs (sc σ1 12 (va_cpy (σ1.1 17) (σ1.1 12) ((0 : Int32)).toNatClampNeg ((0 : Int32)).toNatClampNeg ((4 : Int32)).toNatClampNeg)) fun σ2 => gd (decide (0 ≤ ((0 : Int32)).toInt ∧ 0 ≤ ((0 : Int32)).toInt ∧ 0 ≤ ((6 : Int32)).toInt ∧ ((0 : Int32)).toInt + ((6 : Int32)).toInt ≤ 6 ∧ ((0 : Int32)).toInt + ((6 : Int32)).toInt ≤ 6)) (bs (sc σ2 13 (va_cpy (σ2.1 18) (σ2.1 13) ((0 : Int32)).toNatClampNeg ((0 : Int32)).toNatClampNeg ((6 : Int32)).toNatClampNeg)) fun σ3 => bs (su σ3 10 3 (σ3.1 15 3)) fun σ4 => bs (su σ4 10 4 (σ4.1 15 4)) fun σ5 => bs (su σ5 10 5 (σ5.1 15 5)) fun σ6 => bs (su σ6 10 6 (σ6.1 15 6)) fun σ7 => some σ7)))
theorem w_f_X6_become_10_15 {G : Wld} {X : Cxt} (C : Cx G X RX6 cX6_become 2 1) {σ : Sto} {y : Sto} (h : f_X6_become_10_15 σ = some y) (hK : Rx G X none none y) : V G X 2 σ [(0, .ref (G.1 10)), (1, .ref (G.1 15))] [] 0 := by
  unfold f_X6_become_10_15 at h
  refine v_aload_n 0 C 1 1 dX6_become_0 rfl rfl ?_
  refine g_X6_15_0 1 C dX6_become_1 ?_
  refine v_iconst 4 C (0 : Int32) dX6_become_4 (by decide) ?_
  refine v_aload_n 5 C 0 0 dX6_become_5 rfl rfl ?_
  refine g_X6_10_0 6 C dX6_become_6 ?_
  refine v_iconst 9 C (0 : Int32) dX6_become_9 (by decide) ?_
  refine v_bipush 10 C (6 : Int32) dX6_become_10 (by decide) ?_
  refine b_copy 12 C 16 11 (by decide) (by decide) (ce_16 G) (ce_11 G) q_749 q_458 q_457 q_73 (Nat.le_of_ble_eq_true rfl) (by decide) dX6_become_12 h (fun σ1 h => ?_)
  refine v_aload_n 15 C 1 1 dX6_become_15 rfl rfl ?_
  refine g_X6_15_1 16 C dX6_become_16 ?_
  refine v_iconst 19 C (0 : Int32) dX6_become_19 (by decide) ?_
  refine v_aload_n 20 C 0 0 dX6_become_20 rfl rfl ?_
  refine g_X6_10_1 21 C dX6_become_21 ?_
  refine v_iconst 24 C (0 : Int32) dX6_become_24 (by decide) ?_
  refine v_iconst 25 C (4 : Int32) dX6_become_25 (by decide) ?_
  refine b_copy 26 C 17 12 (by decide) (by decide) (ce_17 G) (ce_12 G) q_749 q_458 q_457 q_73 (Nat.le_of_ble_eq_true rfl) (by decide) dX6_become_26 h (fun σ2 h => ?_)
  refine v_aload_n 29 C 1 1 dX6_become_29 rfl rfl ?_
  refine g_X6_15_2 30 C dX6_become_30 ?_
  refine v_iconst 33 C (0 : Int32) dX6_become_33 (by decide) ?_
  refine v_aload_n 34 C 0 0 dX6_become_34 rfl rfl ?_
  refine g_X6_10_2 35 C dX6_become_35 ?_
  refine v_iconst 38 C (0 : Int32) dX6_become_38 (by decide) ?_
  refine v_bipush 39 C (6 : Int32) dX6_become_39 (by decide) ?_
  refine b_copy 41 C 18 13 (by decide) (by decide) (ce_18 G) (ce_13 G) q_749 q_458 q_457 q_73 (Nat.le_of_ble_eq_true rfl) (by decide) dX6_become_41 h (fun σ3 h => ?_)
  refine v_aload_n 44 C 0 0 dX6_become_44 rfl rfl ?_
  refine v_aload_n 45 C 1 1 dX6_become_45 rfl rfl ?_
  refine g_X6_15_3 46 C dX6_become_46 ?_
  refine p_X6_10_3 49 C dX6_become_49 h (fun σ4 h => ?_)
  refine v_aload_n 52 C 0 0 dX6_become_52 rfl rfl ?_
  refine v_aload_n 53 C 1 1 dX6_become_53 rfl rfl ?_
  refine g_X6_15_4 54 C dX6_become_54 ?_
  refine p_X6_10_4 57 C dX6_become_57 h (fun σ5 h => ?_)
  refine v_aload_n 60 C 0 0 dX6_become_60 rfl rfl ?_
  refine v_aload_n 61 C 1 1 dX6_become_61 rfl rfl ?_
  refine g_X6_15_5 62 C dX6_become_62 ?_
  refine p_X6_10_5 65 C dX6_become_65 h (fun σ6 h => ?_)
  refine v_aload_n 68 C 0 0 dX6_become_68 rfl rfl ?_
  refine v_aload_n 69 C 1 1 dX6_become_69 rfl rfl ?_
  refine g_X6_15_6 70 C dX6_become_70 ?_
  refine p_X6_10_6 73 C dX6_become_73 h (fun σ7 h => ?_)
  cases h
  exact v_vret 76 C hK dX6_become_76
theorem c_f_X6_become_10_15 (l : Launch) (G : Wld) (hG : GI G) (σ : Sto) (y : Sto) (h : f_X6_become_10_15 σ = some y) : Ct l G yX6_become cX6_become 2 none 1 [.ref (G.1 10), .ref (G.1 15)] σ none y := by
  refine ct_intro RX6 hG (by decide) rfl (Nat.le_of_ble_eq_true rfl) (fun X hX C hK => ?_)
  subst hX
  exact w_f_X6_become_10_15 C h hK
theorem r_f_X6_become_10_15 {G : Wld} {X : Cxt} {own : String} {cc : ByteArray} {nL n : Nat} {σ : Sto} {lv : List (Nat × Value)} {st : List Value} {β : Type} {r : β} {F : Sto → Option β} {ix : Nat} (pc : Nat) (C : Cx G X own cc nL n) (hn : 1 < n) (h1 : Cond.methodLink own ix yX6_become ∈ lw_gd) (hd : decode cc pc = .ok (.invokevirtual ix, 3)) (hsum : (st.map fun v => v.category).sum ≤ 8) (h : bd1 (f_X6_become_10_15 σ) F = some r) (kk : ∀ σ1, F σ1 = some r → V G X nL σ1 lv (st) (pc + 3)) : V G X nL σ lv (.ref (G.1 15) :: .ref (G.1 10) :: st) pc := by
  obtain ⟨z, hz, h⟩ := bd1_some h
  exact v_callV pc C 10 1 [.ref (G.1 15)] st (c_f_X6_become_10_15 (xl X) G C.2.2.2.2.2.2.1 _ _ hz) hn (by decide) (by decide) (ce_10 G _ _) rfl (by decide +kernel) rfl h1 q_746 q_747 q_62 q_748 rfl hsum hd (kk _ h)
-- f_X6_become_10_19
def f_X6_become_10_19 (σ : Sto) : Option (Sto) :=
  gd (decide (0 ≤ ((0 : Int32)).toInt ∧ 0 ≤ ((0 : Int32)).toInt ∧ 0 ≤ ((6 : Int32)).toInt ∧ ((0 : Int32)).toInt + ((6 : Int32)).toInt ≤ 6 ∧ ((0 : Int32)).toInt + ((6 : Int32)).toInt ≤ 6)) (bs (sc σ 11 (va_cpy (σ.1 20) (σ.1 11) ((0 : Int32)).toNatClampNeg ((0 : Int32)).toNatClampNeg ((6 : Int32)).toNatClampNeg)) fun σ1 => gd (decide (0 ≤ ((0 : Int32)).toInt ∧ 0 ≤ ((0 : Int32)).toInt ∧ 0 ≤ ((4 : Int32)).toInt ∧ ((0 : Int32)).toInt + ((4 : Int32)).toInt ≤ 4 ∧ ((0 : Int32)).toInt + ((4 : Int32)).toInt ≤ 4)) (bs (sc σ1 12 (va_cpy (σ1.1 21) (σ1.1 12) ((0 : Int32)).toNatClampNeg ((0 : Int32)).toNatClampNeg ((4 : Int32)).toNatClampNeg)) fun σ2 => gd (decide (0 ≤ ((0 : Int32)).toInt ∧ 0 ≤ ((0 : Int32)).toInt ∧ 0 ≤ ((6 : Int32)).toInt ∧ ((0 : Int32)).toInt + ((6 : Int32)).toInt ≤ 6 ∧ ((0 : Int32)).toInt + ((6 : Int32)).toInt ≤ 6)) (bs (sc σ2 13 (va_cpy (σ2.1 22) (σ2.1 13) ((0 : Int32)).toNatClampNeg ((0 : Int32)).toNatClampNeg ((6 : Int32)).toNatClampNeg)) fun σ3 => bs (su σ3 10 3 (σ3.1 19 3)) fun σ4 => bs (su σ4 10 4 (σ4.1 19 4)) fun σ5 => bs (su σ5 10 5 (σ5.1 19 5)) fun σ6 => bs (su σ6 10 6 (σ6.1 19 6)) fun σ7 => some σ7)))
theorem w_f_X6_become_10_19 {G : Wld} {X : Cxt} (C : Cx G X RX6 cX6_become 2 1) {σ : Sto} {y : Sto} (h : f_X6_become_10_19 σ = some y) (hK : Rx G X none none y) : V G X 2 σ [(0, .ref (G.1 10)), (1, .ref (G.1 19))] [] 0 := by
  unfold f_X6_become_10_19 at h
  refine v_aload_n 0 C 1 1 dX6_become_0 rfl rfl ?_
  refine g_X6_19_0 1 C dX6_become_1 ?_
  refine v_iconst 4 C (0 : Int32) dX6_become_4 (by decide) ?_
  refine v_aload_n 5 C 0 0 dX6_become_5 rfl rfl ?_
  refine g_X6_10_0 6 C dX6_become_6 ?_
  refine v_iconst 9 C (0 : Int32) dX6_become_9 (by decide) ?_
  refine v_bipush 10 C (6 : Int32) dX6_become_10 (by decide) ?_
  refine b_copy 12 C 20 11 (by decide) (by decide) (ce_20 G) (ce_11 G) q_749 q_458 q_457 q_73 (Nat.le_of_ble_eq_true rfl) (by decide) dX6_become_12 h (fun σ1 h => ?_)
  refine v_aload_n 15 C 1 1 dX6_become_15 rfl rfl ?_
  refine g_X6_19_1 16 C dX6_become_16 ?_
  refine v_iconst 19 C (0 : Int32) dX6_become_19 (by decide) ?_
  refine v_aload_n 20 C 0 0 dX6_become_20 rfl rfl ?_
  refine g_X6_10_1 21 C dX6_become_21 ?_
  refine v_iconst 24 C (0 : Int32) dX6_become_24 (by decide) ?_
  refine v_iconst 25 C (4 : Int32) dX6_become_25 (by decide) ?_
  refine b_copy 26 C 21 12 (by decide) (by decide) (ce_21 G) (ce_12 G) q_749 q_458 q_457 q_73 (Nat.le_of_ble_eq_true rfl) (by decide) dX6_become_26 h (fun σ2 h => ?_)
  refine v_aload_n 29 C 1 1 dX6_become_29 rfl rfl ?_
  refine g_X6_19_2 30 C dX6_become_30 ?_
  refine v_iconst 33 C (0 : Int32) dX6_become_33 (by decide) ?_
  refine v_aload_n 34 C 0 0 dX6_become_34 rfl rfl ?_
  refine g_X6_10_2 35 C dX6_become_35 ?_
  refine v_iconst 38 C (0 : Int32) dX6_become_38 (by decide) ?_
  refine v_bipush 39 C (6 : Int32) dX6_become_39 (by decide) ?_
  refine b_copy 41 C 22 13 (by decide) (by decide) (ce_22 G) (ce_13 G) q_749 q_458 q_457 q_73 (Nat.le_of_ble_eq_true rfl) (by decide) dX6_become_41 h (fun σ3 h => ?_)
  refine v_aload_n 44 C 0 0 dX6_become_44 rfl rfl ?_
  refine v_aload_n 45 C 1 1 dX6_become_45 rfl rfl ?_
  refine g_X6_19_3 46 C dX6_become_46 ?_
  refine p_X6_10_3 49 C dX6_become_49 h (fun σ4 h => ?_)
  refine v_aload_n 52 C 0 0 dX6_become_52 rfl rfl ?_
  refine v_aload_n 53 C 1 1 dX6_become_53 rfl rfl ?_
  refine g_X6_19_4 54 C dX6_become_54 ?_
  refine p_X6_10_4 57 C dX6_become_57 h (fun σ5 h => ?_)
  refine v_aload_n 60 C 0 0 dX6_become_60 rfl rfl ?_
  refine v_aload_n 61 C 1 1 dX6_become_61 rfl rfl ?_
  refine g_X6_19_5 62 C dX6_become_62 ?_
  refine p_X6_10_5 65 C dX6_become_65 h (fun σ6 h => ?_)
  refine v_aload_n 68 C 0 0 dX6_become_68 rfl rfl ?_
  refine v_aload_n 69 C 1 1 dX6_become_69 rfl rfl ?_
  refine g_X6_19_6 70 C dX6_become_70 ?_
  refine p_X6_10_6 73 C dX6_become_73 h (fun σ7 h => ?_)
  cases h
  exact v_vret 76 C hK dX6_become_76
theorem c_f_X6_become_10_19 (l : Launch) (G : Wld) (hG : GI G) (σ : Sto) (y : Sto) (h : f_X6_become_10_19 σ = some y) : Ct l G yX6_become cX6_become 2 none 1 [.ref (G.1 10), .ref (G.1 19)] σ none y := by
  refine ct_intro RX6 hG (by decide) rfl (Nat.le_of_ble_eq_true rfl) (fun X hX C hK => ?_)
  subst hX
  exact w_f_X6_become_10_19 C h hK
theorem r_f_X6_become_10_19 {G : Wld} {X : Cxt} {own : String} {cc : ByteArray} {nL n : Nat} {σ : Sto} {lv : List (Nat × Value)} {st : List Value} {β : Type} {r : β} {F : Sto → Option β} {ix : Nat} (pc : Nat) (C : Cx G X own cc nL n) (hn : 1 < n) (h1 : Cond.methodLink own ix yX6_become ∈ lw_gd) (hd : decode cc pc = .ok (.invokevirtual ix, 3)) (hsum : (st.map fun v => v.category).sum ≤ 8) (h : bd1 (f_X6_become_10_19 σ) F = some r) (kk : ∀ σ1, F σ1 = some r → V G X nL σ1 lv (st) (pc + 3)) : V G X nL σ lv (.ref (G.1 19) :: .ref (G.1 10) :: st) pc := by
  obtain ⟨z, hz, h⟩ := bd1_some h
  exact v_callV pc C 10 1 [.ref (G.1 19)] st (c_f_X6_become_10_19 (xl X) G C.2.2.2.2.2.2.1 _ _ hz) hn (by decide) (by decide) (ce_10 G _ _) rfl (by decide +kernel) rfl h1 q_746 q_747 q_62 q_748 rfl hsum hd (kk _ h)
-- f_X7_goBack
def f_X7_goBack_j9 (σ : Sto) : Option (Sto × Int32) :=
  some (σ, (-1000000001 : Int32))
def f_X7_goBack (σ : Sto) (a1 : Int32) : Option (Sto × Int32) :=
  if a1 < 0 then (f_X7_goBack_j9 σ) else (if a1 < (2 : Int32) then (gd (inB a1 2) (if (σ.1 23 (a1).toNatClampNeg) = 0 then (some (σ, (-1000000003 : Int32))) else (gd (inB a1 2) (if a1 = 0 then (bd1 (f_X6_become_10_15 σ) fun σ1 => some (σ1, (1 : Int32))) else (bd1 (f_X6_become_10_19 σ) fun σ3 => some (σ3, (1 : Int32))))))) else (f_X7_goBack_j9 σ))
theorem w_f_X7_goBack_j9 {G : Wld} {X : Cxt} (C : Cx G X RX7 cX7_goBack 2 2) {σ : Sto} {y : Sto × Int32} (h : f_X7_goBack_j9 σ = some y) (hK : Rx G X (some .int) (some (.int y.2)) y.1) : V G X 2 σ [(0, .ref (G.1 0))] [] 9 := by
  unfold f_X7_goBack_j9 at h
  refine v_ldc 9 C dX7_goBack_9 q_493 ?_
  cases h
  exact v_iret 11 C hK dX7_goBack_11
theorem w_f_X7_goBack {G : Wld} {X : Cxt} (C : Cx G X RX7 cX7_goBack 2 2) {σ : Sto} {a1 : Int32} {y : Sto × Int32} (h : f_X7_goBack σ a1 = some y) (hK : Rx G X (some .int) (some (.int y.2)) y.1) : V G X 2 σ [(0, .ref (G.1 0)), (1, .int a1)] [] 0 := by
  unfold f_X7_goBack at h
  refine v_iload_n 0 C 1 1 dX7_goBack_0 rfl rfl ?_
  refine v_if_lt 1 C 9 dX7_goBack_1 (by decide) h (fun h => ?_) (fun h => ?_)
  · exact v_sub [0] rfl (w_f_X7_goBack_j9 C h hK)
  · refine v_iload_n 4 C 1 1 dX7_goBack_4 rfl rfl ?_
    refine v_iconst 5 C (2 : Int32) dX7_goBack_5 (by decide) ?_
    refine v_icmp_lt 6 C 12 dX7_goBack_6 (by decide) h (fun h => ?_) (fun h => ?_)
    · refine v_aload_n 12 C 0 0 dX7_goBack_12 rfl rfl ?_
      refine g_X7_0_4 13 C dX7_goBack_13 ?_
      refine v_iload_n 16 C 1 1 dX7_goBack_16 rfl rfl ?_
      refine v_zald 17 C 23 (by decide) (ce_23 G) dX7_goBack_17 h (fun h => ?_)
      refine v_if_ne 18 C 24 dX7_goBack_18 (by decide) h (fun h => ?_) (fun h => ?_)
      · refine v_aload_n 24 C 0 0 dX7_goBack_24 rfl rfl ?_
        refine g_X7_0_2 25 C dX7_goBack_25 ?_
        refine v_aload_n 28 C 0 0 dX7_goBack_28 rfl rfl ?_
        refine g_X7_0_3 29 C dX7_goBack_29 ?_
        refine v_iload_n 32 C 1 1 dX7_goBack_32 rfl rfl ?_
        refine v_aald 33 C dX7_goBack_33 h (fun h => ?_) (fun h => ?_)
        · refine r_f_X6_become_10_15 34 C (by decide) q_745 dX7_goBack_34 (Nat.le_of_ble_eq_true rfl) h (fun σ1 h => ?_)
          refine v_iconst 37 C (1 : Int32) dX7_goBack_37 (by decide) ?_
          cases h
          exact v_iret 38 C hK dX7_goBack_38
        · refine r_f_X6_become_10_19 34 C (by decide) q_745 dX7_goBack_34 (Nat.le_of_ble_eq_true rfl) h (fun σ3 h => ?_)
          refine v_iconst 37 C (1 : Int32) dX7_goBack_37 (by decide) ?_
          cases h
          exact v_iret 38 C hK dX7_goBack_38
      · refine v_ldc 21 C dX7_goBack_21 q_581 ?_
        cases h
        exact v_iret 23 C hK dX7_goBack_23
    · exact v_sub [0] rfl (w_f_X7_goBack_j9 C h hK)
theorem c_f_X7_goBack (l : Launch) (G : Wld) (hG : GI G) (σ : Sto) (a1 : Int32) (y : Sto × Int32) (h : f_X7_goBack σ a1 = some y) : Ct l G yX7_goBack cX7_goBack 2 (some .int) 2 [.ref (G.1 0), .int a1] σ (some (.int y.2)) y.1 := by
  refine ct_intro RX7 hG (by decide) rfl (Nat.le_of_ble_eq_true rfl) (fun X hX C hK => ?_)
  subst hX
  exact w_f_X7_goBack C h hK
theorem r_f_X7_goBack {G : Wld} {X : Cxt} {own : String} {cc : ByteArray} {nL n : Nat} {σ : Sto} {lv : List (Nat × Value)} {st : List Value} {β : Type} {r : β} {F : Sto → Int32 → Option β} {a1 : Int32} {ix : Nat} (pc : Nat) (C : Cx G X own cc nL n) (hn : 2 < n) (h1 : Cond.methodLink own ix yX7_goBack ∈ lw_gd) (hd : decode cc pc = .ok (.invokevirtual ix, 3)) (hsum : (st.map fun v => v.category).sum ≤ 8) (h : bd2 (f_X7_goBack σ a1) F = some r) (kk : ∀ σ1 v, F σ1 v = some r → V G X nL σ1 lv (.int v :: st) (pc + 3)) : V G X nL σ lv (.int a1 :: .ref (G.1 0) :: st) pc := by
  obtain ⟨z, hz, h⟩ := bd2_some h
  exact v_callV pc C 0 1 [.int a1] st (c_f_X7_goBack (xl X) G C.2.2.2.2.2.2.1 _ _ _ hz) hn (by decide) (by decide) (ce_0 G _ _) rfl (by decide +kernel) rfl h1 q_751 q_752 q_59 q_753 rfl hsum hd (kk _ _ h)
